theorem okT : mj_okM gG gT := sorry
