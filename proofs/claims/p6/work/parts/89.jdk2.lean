section J2
variable {cst : Nat → Option (Nat × (Nat → Int32))} {m bc bs : Nat} {op : Bool} {Q : mj_R → Prop} {ml : Int32} {n N : Nat} {g : Nat → Int32} {os : List mj_O} {xs : List Int32}
set_option maxRecDepth 10000
def aw (x : Int32) : Nat := x.toInt.natAbs
def isz (x : Int32) : Nat := sb_dg (aw x) + (if x < 0 then 1 else 0)
def ich (x : Int32) : Nat → Nat := fun i => if x < 0 then (if i = 0 then 45 else sb_dec (aw x) (i - 1)) else sb_dec (aw x) i
theorem aw_le (x : Int32) : aw x ≤ 2 ^ 31 := by
  have h1 := x.toInt_lt
  have h2 := x.le_toInt
  unfold aw
  omega
theorem isz_in (x : Int32) : 1 ≤ isz x ∧ isz x ≤ 11 := by
  have := sb_dg_in (aw x)
  unfold isz
  split <;> omega
theorem sb_dg_eq {w : Nat} : ∀ i, 1 ≤ i → i ≤ 9 → (i = 1 ∨ 10 ^ (i - 1) ≤ w) → w < 10 ^ i → sb_dg w = i
  | 0, h, _, _, _ => by omega
  | 1, _, _, h1, h2 => by unfold sb_dg; (repeat' split) <;> omega
  | 2, _, _, h1, h2 => by unfold sb_dg; (repeat' split) <;> omega
  | 3, _, _, h1, h2 => by unfold sb_dg; (repeat' split) <;> omega
  | 4, _, _, h1, h2 => by unfold sb_dg; (repeat' split) <;> omega
  | 5, _, _, h1, h2 => by unfold sb_dg; (repeat' split) <;> omega
  | 6, _, _, h1, h2 => by unfold sb_dg; (repeat' split) <;> omega
  | 7, _, _, h1, h2 => by unfold sb_dg; (repeat' split) <;> omega
  | 8, _, _, h1, h2 => by unfold sb_dg; (repeat' split) <;> omega
  | 9, _, _, h1, h2 => by unfold sb_dg; (repeat' split) <;> omega
  | i + 10, _, h, _, _ => by omega
theorem sb_dg_10 {w : Nat} (h : 10 ^ 9 ≤ w) : sb_dg w = 10 := by unfold sb_dg; (repeat' split) <;> omega
theorem j_pow {i : Nat} (h : i ≤ 9) : 10 ^ i ≤ 1000000000 := Nat.pow_le_pow_right (n := 10) (by decide) h
theorem j_sizeLoop {J : Nat → mj_L → List Value → mj_H → Prop} (hJ : ∀ pc ls st h, mj_sg (mj_Mt gT cst gnw m) cst gnw (mj_hd (mj_off kO_Integer_stringSize) kH_Integer_stringSize) kC_Integer_stringSize J Q 400 true pc ls st h → J pc ls st h) {y : Int32} {w d : Nat} (hy : y.toInt = -(w : Int)) (hd : d ≤ 1) (hQ : Q (.inl (some (.int (nI (sb_dg w + d)))), (os, bc, bs, op))) :
    ∀ (k i : Nat) (p x : Int32), k + i = 10 → 1 ≤ i → (i = 1 ∨ 10 ^ (i - 1) ≤ w) → (i < 10 → p.toInt = -((10 ^ i : Nat) : Int)) → x = nI i → J 13 [some (.int y), some (.int (nI d)), some (.int p), some (.int x)] [] (os, bc, bs, op) := by
  intro k
  induction k with
  | zero =>
    intro i p x hk h1 hl hp hx
    subst hx
    obtain rfl : i = 10 := by omega
    refine hJ _ _ _ _ ?_
    refine And.intro (fun _ => ?_) (fun h => absurd (by decide) h)
    have e : Int32.ofInt 10 + nI d = nI (sb_dg w + d) := by
      rw [sb_dg_10 (by simpa using hl)]
      exact nI_add 10 d
    rw [← e] at hQ
    exact hQ
  | succ k ih =>
    intro i p x hk h1 hl hp hx
    subst hx
    have hp := hp (by omega)
    have h9 := j_pow (i := i) (by omega)
    refine hJ _ _ _ _ ?_
    refine And.intro (fun h => absurd h (nI_ge (a := i) (b := 10) (by omega) (by decide))) (fun _ => ?_)
    refine And.intro (fun h => ?_) (fun h => ?_)
    · have hw : 10 ^ i ≤ w := by
        rw [Int32.le_iff_toInt_le, hy, hp] at h
        omega
      refine ih (i + 1) _ _ (by omega) (by omega) (Or.inr hw) (fun hi => ?_) (nI_1 i)
      have h8 := j_pow (i := i + 1) (by omega)
      rw [Int32.toInt_mul, hp, show (Int32.ofInt 10).toInt = 10 by decide]
      rw [Nat.pow_succ] at h8 ⊢
      rw [show (10 : Int) * -((10 ^ i : Nat) : Int) = -((10 ^ i * 10 : Nat) : Int) by push_cast; omega]
      apply Int.bmod_eq_of_le <;> omega
    · have hw : w < 10 ^ i := by
        rw [Int32.le_iff_toInt_le, hy, hp] at h
        omega
      have e : nI i + nI d = nI (sb_dg w + d) := by
        rw [sb_dg_eq i h1 (by omega) hl hw]
        exact nI_add i d
      rw [← e] at hQ
      exact hQ
theorem j_stringSize {x : Int32} (hQ : Q (.inl (some (.int (nI (isz x)))), (os, bc, bs, op))) : mj_Mt gT cst gnw (m + 1) y_Integer_stringSize [.int x] (os, bc, bs, op) Q := by
  intro J hJ
  refine hJ _ _ _ _ ?_
  refine And.intro (fun h => ?_) (fun h => ?_)
  · have hw : x.toInt = -((aw x : Nat) : Int) := by
      rw [Int32.lt_iff_toInt_lt, Int32.toInt_zero] at h
      unfold aw
      omega
    have hQ' : Q (.inl (some (.int (nI (sb_dg (aw x) + 1)))), (os, bc, bs, op)) := by
      have e : isz x = sb_dg (aw x) + 1 := by unfold isz; rw [if_pos h]
      rw [← e]
      exact hQ
    exact j_sizeLoop hJ hw (Nat.le_refl 1) hQ' 9 1 _ _ rfl (Nat.le_refl 1) (Or.inl rfl) (fun _ => by decide) rfl
  · have hw : (-x).toInt = -((aw x : Nat) : Int) := by
      rw [Int32.lt_iff_toInt_lt, Int32.toInt_zero] at h
      have h1 := x.toInt_lt
      unfold aw
      rw [Int32.toInt_neg]
      rw [show (x.toInt.natAbs : Int) = x.toInt by omega]
      apply Int.bmod_eq_of_le <;> omega
    have hQ' : Q (.inl (some (.int (nI (sb_dg (aw x) + 0)))), (os, bc, bs, op)) := by
      have e : isz x = sb_dg (aw x) + 0 := by unfold isz; rw [if_neg h]
      rw [← e]
      exact hQ
    exact j_sizeLoop hJ hw (Nat.zero_le 1) hQ' 9 1 _ _ rfl (Nat.le_refl 1) (Or.inl rfl) (fun _ => by decide) rfl
theorem j_tab : ∀ k, k < 100 → vp_nar .byte (law_d1.getD k 0) = sb_b (48 + k % 10) ∧ vp_nar .byte (law_d2.getD k 0) = sb_b (48 + k / 10) := by decide +kernel
theorem j_neg {y : Int32} {w : Nat} (hy : y.toInt = -(w : Int)) (h : w < 2 ^ 31) : -y = nI w := by
  apply Int32.toInt_inj.mp
  rw [Int32.toInt_neg, hy, nI_toInt h, Int.neg_neg]
  apply Int.bmod_eq_of_le <;> omega
theorem j_div {y : Int32} {w : Nat} (hy : y.toInt = -(w : Int)) (h : w ≤ 2 ^ 31) : (y / Int32.ofInt 100).toInt = -((w / 100 : Nat) : Int) := by
  rw [Int32.toInt_div, hy, show (Int32.ofInt 100).toInt = 100 by decide, Int.neg_tdiv, show ((w : Int).tdiv 100) = ((w / 100 : Nat) : Int) by rw [Int.tdiv_eq_ediv_of_nonneg (by omega)]; rfl]
  apply Int.bmod_eq_of_le <;> omega
theorem j_rem {y : Int32} {w : Nat} (hy : y.toInt = -(w : Int)) (h : w ≤ 2 ^ 31) : y / Int32.ofInt 100 * Int32.ofInt 100 - y = nI (w % 100) := by
  have h1 := j_div hy h
  apply Int32.toInt_inj.mp
  rw [Int32.toInt_sub, Int32.toInt_mul, h1, hy, show (Int32.ofInt 100).toInt = 100 by decide, nI_toInt (by omega), Int.bmod_sub_bmod]
  have : -((w / 100 : Nat) : Int) * 100 - -(w : Int) = ((w % 100 : Nat) : Int) := by omega
  rw [this]
  apply Int.bmod_eq_of_le <;> omega
theorem j_charsLoop1 {o0 : mj_O} {J : Nat → mj_L → List Value → mj_H → Prop} (hJ : ∀ pc ls st h, mj_sg (mj_Mt gT (law_cst xs) gnw m) (law_cst xs) gnw (mj_hd (mj_off kO_Integer_getChars) kH_Integer_getChars) kC_Integer_getChars J Q 400 true pc ls st h → J pc ls st h) {x1 : Int32} {sg n0 : Nat} (hsg : sg ≤ 1) (hN : N ≤ 65536) :
    ∀ (f w p : Nat) (y : Int32) (g : Nat → Int32) (a3 a4 : Option Value), (a3 = none ∧ a4 = none ∨ ∃ u v : Int32, a3 = some (.int u) ∧ a4 = some (.int v)) → w < f → w ≤ 2 ^ 31 → y.toInt = -(w : Int) → p = n0 + sg + sb_dg w → p ≤ N →
    (∀ g', (∀ j, j < n0 ∨ p ≤ j → g' j = g j) → (∀ i, i < sb_dg w → g' (p - 1 - i) = sb_b (48 + w / 10 ^ i % 10)) → (sg = 1 → g' n0 = sb_b 45) → (sb_Fit g → sb_Fit g') → Q (.inl (some (.int (nI n0))), ([o0, bB N g'], bc, bs, op))) →
    J 13 [some (.int y), some (.int x1), some (.ref 1), a3, a4, some (.int (nI p)), some (.int (nI sg))] [] ([o0, bB N g], bc, bs, op) := by
  intro f
  induction f with
  | zero =>
    intro w p y g a3 a4 ha h
    omega
  | succ f ih =>
    intro w p y g a3 a4 ha hwf hw hy hp hpN hP
    have hd1 := (sb_dg_in w).1
    have fin : ∀ (F q : Nat) (g2 : Nat → Int32), q = n0 + sg → (∀ g', (∀ j, j < n0 ∨ q ≤ j → g' j = g2 j) → (sg = 1 → g' n0 = sb_b 45) → (sb_Fit g2 → sb_Fit g') → Q (.inl (some (.int (nI n0))), ([o0, bB N g'], bc, bs, op))) → ∀ (a3 a4 : Option Value), (a3 = none ∧ a4 = none ∨ ∃ u v : Int32, a3 = some (.int u) ∧ a4 = some (.int v)) → mj_sg (mj_Mt gT (law_cst xs) gnw m) (law_cst xs) gnw (mj_hd (mj_off kO_Integer_getChars) kH_Integer_getChars) kC_Integer_getChars J Q (F + 20) false 62 [some (.int y), some (.int x1), some (.ref 1), a3, a4, some (.int (nI q)), some (.int (nI sg))] [] ([o0, bB N g2], bc, bs, op) := by
      intro F q g2 hq hP2 a3 a4 ha
      refine And.intro (fun h0 => ?_) (fun h0 => ?_)
      · have h0 : sg = 0 := (nI_eq (a := sg) (b := 0) (by omega) (by decide)).mp h0
        subst h0
        obtain rfl : q = n0 := by omega
        exact hP2 g2 (fun _ _ => rfl) (fun h => by omega) (fun h => h)
      · have h1 : sg = 1 := by
          rcases (show sg = 0 ∨ sg = 1 by omega) with e | e
          · subst e
            exact absurd rfl h0
          · exact e
        subst h1
        subst hq
        rcases ha with ⟨rfl, rfl⟩ | ⟨u, v, rfl, rfl⟩
        all_goals
          refine And.intro (show vp_in (nI (n0 + 1) + (-1)) N by rw [pk_m1]; exact vp_in_nI (by omega) (by omega)) ?_
          have key : ∀ (z : Int32) (i : Nat) (c : Int32), z = nI n0 → i = n0 → c = sb_b 45 → Q (.inl (some (.int z)), ([o0, bB N (upd g2 i c)], bc, bs, op)) := by
            rintro z i c rfl rfl rfl
            exact hP2 _ (fun j hj => pk_un (by omega)) (fun _ => pk_us) (fun hf => sb_fitU hf (sb_fitB _))
          exact key _ _ _ (pk_m1 n0) (by rw [show nI (n0 + 1) + Int32.ofInt (-1) = nI n0 from pk_m1 n0, nI_clamp (by omega)]) (by decide)
    by_cases h100 : w < 100
    · obtain ⟨t1, t2⟩ := j_tab w h100
      have e1 := j_neg hy (by omega)
      have ew : (-y).toNatClampNeg = w := by rw [e1]; exact nI_clamp (by omega)
      have ep : nI p + Int32.ofInt (-1) = nI (p - 1) := sb_m1 (by omega)
      have ec : (nI p + Int32.ofInt (-1)).toNatClampNeg = p - 1 := by rw [ep]; exact nI_clamp (by omega)
      by_cases h9 : w < 10
      · have hd : sb_dg w = 1 := if_pos h9
        have go : ∀ (F : Nat) (z : Int32) (i : Nat) (c : Int32), z = nI (p - 1) → i = p - 1 → c = sb_b (48 + w % 10) → ∀ (a3 a4 : Option Value), (a3 = none ∧ a4 = none ∨ ∃ u v : Int32, a3 = some (.int u) ∧ a4 = some (.int v)) → mj_sg (mj_Mt gT (law_cst xs) gnw m) (law_cst xs) gnw (mj_hd (mj_off kO_Integer_getChars) kH_Integer_getChars) kC_Integer_getChars J Q (F + 20) false 62 [some (.int y), some (.int x1), some (.ref 1), a3, a4, some (.int z), some (.int (nI sg))] [] ([o0, bB N (upd g i c)], bc, bs, op) := by
          rintro F z i c rfl rfl rfl a3 a4 ha
          refine fin F (p - 1) _ (by omega) (fun g' h1 h2 h3 => hP g' (fun j hj => ?_) (fun i hi => ?_) h2 (fun hf => h3 (sb_fitU hf (sb_fitB _)))) a3 a4 ha
          · rw [h1 j (by omega), pk_un (by omega)]
          · obtain rfl : i = 0 := by omega
            rw [Nat.sub_zero, h1 _ (by omega), pk_us, Nat.pow_zero, Nat.div_one]
        rcases ha with ⟨rfl, rfl⟩ | ⟨u, v, rfl, rfl⟩
        · refine hJ _ _ _ _ ?_
          refine And.intro (fun _ => ?_) (fun h => absurd (show Int32.ofInt (-100) < y by rw [Int32.lt_iff_toInt_lt, hy, show (Int32.ofInt (-100)).toInt = -100 by decide]; omega) h)
          refine And.intro (show vp_in (-y) 100 by rw [e1]; exact vp_in_nI h100 (by decide)) ?_
          refine And.intro (show vp_in (nI p + Int32.ofInt (-1)) N by rw [ep]; exact vp_in_nI (by omega) (by omega)) ?_
          refine And.intro (fun _ => ?_) (fun h => absurd (show Int32.ofInt (-9) ≤ y by rw [Int32.le_iff_toInt_le, hy, show (Int32.ofInt (-9)).toInt = -9 by decide]; omega) h)
          exact go _ _ _ _ ep ec (by rw [ew]; exact t1) _ _ (Or.inl ⟨rfl, rfl⟩)
        · refine hJ _ _ _ _ ?_
          refine And.intro (fun _ => ?_) (fun h => absurd (show Int32.ofInt (-100) < y by rw [Int32.lt_iff_toInt_lt, hy, show (Int32.ofInt (-100)).toInt = -100 by decide]; omega) h)
          refine And.intro (show vp_in (-y) 100 by rw [e1]; exact vp_in_nI h100 (by decide)) ?_
          refine And.intro (show vp_in (nI p + Int32.ofInt (-1)) N by rw [ep]; exact vp_in_nI (by omega) (by omega)) ?_
          refine And.intro (fun _ => ?_) (fun h => absurd (show Int32.ofInt (-9) ≤ y by rw [Int32.le_iff_toInt_le, hy, show (Int32.ofInt (-9)).toInt = -9 by decide]; omega) h)
          exact go _ _ _ _ ep ec (by rw [ew]; exact t1) _ _ (Or.inr ⟨u, v, rfl, rfl⟩)
      · have hd : sb_dg w = 2 := by rw [sb_dg, if_neg h9, if_pos h100]
        have d2 : w / 10 % 10 = w / 10 := by omega
        have ep2 : nI p + Int32.ofInt (-1) + Int32.ofInt (-1) = nI (p - 1 - 1) := by rw [ep]; exact sb_m1 (by omega)
        have ec2 : (nI p + Int32.ofInt (-1) + Int32.ofInt (-1)).toNatClampNeg = p - 1 - 1 := by rw [ep2]; exact nI_clamp (by omega)
        have go : ∀ (F : Nat) (z : Int32) (i i2 : Nat) (c c2 : Int32), z = nI (p - 1 - 1) → i = p - 1 → i2 = p - 1 - 1 → c = sb_b (48 + w % 10) → c2 = sb_b (48 + w / 10) → ∀ (a3 a4 : Option Value), (a3 = none ∧ a4 = none ∨ ∃ u v : Int32, a3 = some (.int u) ∧ a4 = some (.int v)) → mj_sg (mj_Mt gT (law_cst xs) gnw m) (law_cst xs) gnw (mj_hd (mj_off kO_Integer_getChars) kH_Integer_getChars) kC_Integer_getChars J Q (F + 20) false 62 [some (.int y), some (.int x1), some (.ref 1), a3, a4, some (.int z), some (.int (nI sg))] [] ([o0, bB N (upd (upd g i c) i2 c2)], bc, bs, op) := by
          rintro F z i i2 c c2 rfl rfl rfl rfl rfl a3 a4 ha
          refine fin F (p - 1 - 1) _ (by omega) (fun g' h1 h2 h3 => hP g' (fun j hj => ?_) (fun i hi => ?_) h2 (fun hf => h3 (sb_fitU (sb_fitU hf (sb_fitB _)) (sb_fitB _)))) a3 a4 ha
          · rw [h1 j (by omega), pk_un (by omega), pk_un (by omega)]
          · obtain rfl | rfl : i = 0 ∨ i = 1 := by omega
            · rw [Nat.sub_zero, h1 _ (by omega), pk_un (by omega), pk_us, Nat.pow_zero, Nat.div_one]
            · rw [h1 _ (by omega), pk_us, Nat.pow_one, d2]
        rcases ha with ⟨rfl, rfl⟩ | ⟨u, v, rfl, rfl⟩
        · refine hJ _ _ _ _ ?_
          refine And.intro (fun _ => ?_) (fun h => absurd (show Int32.ofInt (-100) < y by rw [Int32.lt_iff_toInt_lt, hy, show (Int32.ofInt (-100)).toInt = -100 by decide]; omega) h)
          refine And.intro (show vp_in (-y) 100 by rw [e1]; exact vp_in_nI h100 (by decide)) ?_
          refine And.intro (show vp_in (nI p + Int32.ofInt (-1)) N by rw [ep]; exact vp_in_nI (by omega) (by omega)) ?_
          refine And.intro (fun h => absurd (show Int32.ofInt (-9) ≤ y from h) (by rw [Int32.le_iff_toInt_le, hy, show (Int32.ofInt (-9)).toInt = -9 by decide]; omega)) (fun _ => ?_)
          refine And.intro (show vp_in (-y) 100 by rw [e1]; exact vp_in_nI h100 (by decide)) ?_
          refine And.intro (show vp_in (nI p + Int32.ofInt (-1) + Int32.ofInt (-1)) N by rw [ep2]; exact vp_in_nI (by omega) (by omega)) ?_
          exact go _ _ _ _ _ _ ep2 ec ec2 (by rw [ew]; exact t1) (by rw [ew]; exact t2) _ _ (Or.inl ⟨rfl, rfl⟩)
        · refine hJ _ _ _ _ ?_
          refine And.intro (fun _ => ?_) (fun h => absurd (show Int32.ofInt (-100) < y by rw [Int32.lt_iff_toInt_lt, hy, show (Int32.ofInt (-100)).toInt = -100 by decide]; omega) h)
          refine And.intro (show vp_in (-y) 100 by rw [e1]; exact vp_in_nI h100 (by decide)) ?_
          refine And.intro (show vp_in (nI p + Int32.ofInt (-1)) N by rw [ep]; exact vp_in_nI (by omega) (by omega)) ?_
          refine And.intro (fun h => absurd (show Int32.ofInt (-9) ≤ y from h) (by rw [Int32.le_iff_toInt_le, hy, show (Int32.ofInt (-9)).toInt = -9 by decide]; omega)) (fun _ => ?_)
          refine And.intro (show vp_in (-y) 100 by rw [e1]; exact vp_in_nI h100 (by decide)) ?_
          refine And.intro (show vp_in (nI p + Int32.ofInt (-1) + Int32.ofInt (-1)) N by rw [ep2]; exact vp_in_nI (by omega) (by omega)) ?_
          exact go _ _ _ _ _ _ ep2 ec ec2 (by rw [ew]; exact t1) (by rw [ew]; exact t2) _ _ (Or.inr ⟨u, v, rfl, rfl⟩)
    · obtain ⟨t1, t2⟩ := j_tab (w % 100) (Nat.mod_lt _ (by decide))
      have hd : sb_dg w = sb_dg (w / 100) + 2 := by
        by_cases e : w < 2 ^ 31
        · exact sb_dg100 (by omega) e
        · obtain rfl : w = 2 ^ 31 := by omega
          decide
      have hd2 := (sb_dg_in (w / 100)).1
      have er := j_rem hy hw
      have er2 : (y / Int32.ofInt 100 * Int32.ofInt 100 - y).toNatClampNeg = w % 100 := by rw [er]; exact nI_clamp (by omega)
      rw [show w % 100 % 10 = w % 10 by omega] at t1
      rw [show w % 100 / 10 = w / 10 % 10 by omega] at t2
      have ep : nI p + Int32.ofInt (-1) = nI (p - 1) := sb_m1 (by omega)
      have ec : (nI p + Int32.ofInt (-1)).toNatClampNeg = p - 1 := by rw [ep]; exact nI_clamp (by omega)
      have ep2 : nI p + Int32.ofInt (-1) + Int32.ofInt (-1) = nI (p - 1 - 1) := by rw [ep]; exact sb_m1 (by omega)
      have ec2 : (nI p + Int32.ofInt (-1) + Int32.ofInt (-1)).toNatClampNeg = p - 1 - 1 := by rw [ep2]; exact nI_clamp (by omega)
      have go : ∀ (z : Int32) (i i2 : Nat) (c c2 u v : Int32), z = nI (p - 1 - 1) → i = p - 1 → i2 = p - 1 - 1 → c = sb_b (48 + w % 10) → c2 = sb_b (48 + w / 10 % 10) → J 13 [some (.int (y / Int32.ofInt 100)), some (.int x1), some (.ref 1), some (.int u), some (.int v), some (.int z), some (.int (nI sg))] [] ([o0, bB N (upd (upd g i c) i2 c2)], bc, bs, op) := by
        rintro z i i2 c c2 u v rfl rfl rfl rfl rfl
        refine ih (w / 100) (p - 1 - 1) _ _ _ _ (Or.inr ⟨u, v, rfl, rfl⟩) (by omega) (by omega) (j_div hy hw) (by omega) (by omega) (fun g' h1 h2 h4 h3 => ?_)
        refine hP g' (fun j hj => by rw [h1 j (by omega), pk_un (by omega), pk_un (by omega)]) (fun i hi => ?_) h4 (fun hf => h3 (sb_fitU (sb_fitU hf (sb_fitB _)) (sb_fitB _)))
        match i, hi with
        | 0, _ => rw [Nat.sub_zero, h1 _ (by omega), pk_un (by omega), pk_us, Nat.pow_zero, Nat.div_one]
        | 1, _ => rw [h1 _ (by omega), pk_us, Nat.pow_one]
        | k + 2, hi =>
          rw [show p - 1 - (k + 2) = p - 1 - 1 - 1 - k by omega, h2 k (by omega), Nat.div_div_eq_div_mul, show 100 * 10 ^ k = 10 ^ (k + 2) by rw [show k + 2 = k + 1 + 1 from rfl, Nat.pow_succ, Nat.pow_succ]; omega]
      rcases ha with ⟨rfl, rfl⟩ | ⟨u, v, rfl, rfl⟩
      · refine hJ _ _ _ _ ?_
        refine And.intro (fun h => absurd (show Int32.ofInt (-100) < y from h) (by rw [Int32.lt_iff_toInt_lt, hy, show (Int32.ofInt (-100)).toInt = -100 by decide]; omega)) (fun _ => ?_)
        refine And.intro (by decide) ?_
        refine And.intro (show vp_in (y / Int32.ofInt 100 * Int32.ofInt 100 - y) 100 by rw [er]; exact vp_in_nI (by omega) (by decide)) ?_
        refine And.intro (show vp_in (nI p + Int32.ofInt (-1)) N by rw [ep]; exact vp_in_nI (by omega) (by omega)) ?_
        refine And.intro (show vp_in (y / Int32.ofInt 100 * Int32.ofInt 100 - y) 100 by rw [er]; exact vp_in_nI (by omega) (by decide)) ?_
        refine And.intro (show vp_in (nI p + Int32.ofInt (-1) + Int32.ofInt (-1)) N by rw [ep2]; exact vp_in_nI (by omega) (by omega)) ?_
        exact go _ _ _ _ _ _ _ ep2 ec ec2 (by rw [er2]; exact t1) (by rw [er2]; exact t2)
      · refine hJ _ _ _ _ ?_
        refine And.intro (fun h => absurd (show Int32.ofInt (-100) < y from h) (by rw [Int32.lt_iff_toInt_lt, hy, show (Int32.ofInt (-100)).toInt = -100 by decide]; omega)) (fun _ => ?_)
        refine And.intro (by decide) ?_
        refine And.intro (show vp_in (y / Int32.ofInt 100 * Int32.ofInt 100 - y) 100 by rw [er]; exact vp_in_nI (by omega) (by decide)) ?_
        refine And.intro (show vp_in (nI p + Int32.ofInt (-1)) N by rw [ep]; exact vp_in_nI (by omega) (by omega)) ?_
        refine And.intro (show vp_in (y / Int32.ofInt 100 * Int32.ofInt 100 - y) 100 by rw [er]; exact vp_in_nI (by omega) (by decide)) ?_
        refine And.intro (show vp_in (nI p + Int32.ofInt (-1) + Int32.ofInt (-1)) N by rw [ep2]; exact vp_in_nI (by omega) (by omega)) ?_
        exact go _ _ _ _ _ _ _ ep2 ec ec2 (by rw [er2]; exact t1) (by rw [er2]; exact t2)
theorem j_getChars1 {o0 : mj_O} {x px : Int32} {n0 p : Nat} (hpx : px = nI p) (hN : N ≤ 65536) (hp : p = n0 + isz x) (hpN : p ≤ N)
    (hP : ∀ g', (∀ j, j < n0 ∨ p ≤ j → g' j = g j) → (∀ i, i < isz x → g' (n0 + i) = sb_b (ich x i)) → (sb_Fit g → sb_Fit g') → Q (.inl (some (.int (nI n0))), ([o0, bB N g'], bc, bs, op))) :
    mj_Mt gT (law_cst xs) gnw (m + 1) y_Integer_getChars [.int x, .int px, .ref 1] ([o0, bB N g], bc, bs, op) Q := by
  subst hpx
  have hw := aw_le x
  have hdi := sb_dg_in (aw x)
  intro J hJ
  refine hJ _ _ _ _ ?_
  refine And.intro (fun (h : 0 ≤ x) => ?_) (fun (h : ¬ 0 ≤ x) => ?_)
  · have hn : ¬ x < 0 := Int32.not_lt.mpr h
    have e : isz x = sb_dg (aw x) := by unfold isz; rw [if_neg hn]; omega
    have hy : (-x).toInt = -((aw x : Nat) : Int) := by
      rw [Int32.lt_iff_toInt_lt, Int32.toInt_zero] at hn
      have h1 := x.toInt_lt
      unfold aw
      rw [Int32.toInt_neg]
      rw [show (x.toInt.natAbs : Int) = x.toInt by omega]
      apply Int.bmod_eq_of_le <;> omega
    refine And.intro (fun h9 => absurd rfl h9) (fun _ => ?_)
    refine j_charsLoop1 hJ (sg := 0) (n0 := n0) (by omega) hN (aw x + 1) (aw x) p (-x) g none none (Or.inl ⟨rfl, rfl⟩) (by omega) hw hy (by omega) hpN (fun g' h1 h2 _ h3 => hP g' h1 (fun i hi => ?_) h3)
    have h9 := h2 (sb_dg (aw x) - 1 - i) (by omega)
    rw [show p - 1 - (sb_dg (aw x) - 1 - i) = n0 + i by omega] at h9
    rw [h9]
    unfold ich sb_dec
    rw [if_neg hn]
  · have hn : x < 0 := Int32.not_le.mp h
    have e : isz x = sb_dg (aw x) + 1 := by unfold isz; rw [if_pos hn]
    have hy : x.toInt = -((aw x : Nat) : Int) := by
      have hn2 := hn
      rw [Int32.lt_iff_toInt_lt, Int32.toInt_zero] at hn2
      unfold aw
      omega
    refine And.intro (fun _ => ?_) (fun h9 => absurd h9 (by decide))
    refine j_charsLoop1 hJ (sg := 1) (n0 := n0) (by omega) hN (aw x + 1) (aw x) p x g none none (Or.inl ⟨rfl, rfl⟩) (by omega) hw hy (by omega) hpN (fun g' h1 h2 h4 h3 => hP g' h1 (fun i hi => ?_) h3)
    by_cases hi0 : i = 0
    · subst hi0
      rw [Nat.add_zero, h4 rfl]
      unfold ich
      rw [if_pos hn, if_pos rfl]
    · have h9 := h2 (sb_dg (aw x) - 1 - (i - 1)) (by omega)
      rw [show p - 1 - (sb_dg (aw x) - 1 - (i - 1)) = n0 + i by omega] at h9
      rw [h9]
      unfold ich sb_dec
      rw [if_pos hn, if_neg hi0]
theorem j_charsLoop2 {o0 o1 : mj_O} {J : Nat → mj_L → List Value → mj_H → Prop} (hJ : ∀ pc ls st h, mj_sg (mj_Mt gT (law_cst xs) gnw m) (law_cst xs) gnw (mj_hd (mj_off kO_Integer_getChars) kH_Integer_getChars) kC_Integer_getChars J Q 400 true pc ls st h → J pc ls st h) {x1 : Int32} {sg n0 : Nat} (hsg : sg ≤ 1) (hN : N ≤ 65536) :
    ∀ (f w p : Nat) (y : Int32) (g : Nat → Int32) (a3 a4 : Option Value), (a3 = none ∧ a4 = none ∨ ∃ u v : Int32, a3 = some (.int u) ∧ a4 = some (.int v)) → w < f → w ≤ 2 ^ 31 → y.toInt = -(w : Int) → p = n0 + sg + sb_dg w → p ≤ N →
    (∀ g', (∀ j, j < n0 ∨ p ≤ j → g' j = g j) → (∀ i, i < sb_dg w → g' (p - 1 - i) = sb_b (48 + w / 10 ^ i % 10)) → (sg = 1 → g' n0 = sb_b 45) → (sb_Fit g → sb_Fit g') → Q (.inl (some (.int (nI n0))), ([o0, o1, bB N g'], bc, bs, op))) →
    J 13 [some (.int y), some (.int x1), some (.ref 2), a3, a4, some (.int (nI p)), some (.int (nI sg))] [] ([o0, o1, bB N g], bc, bs, op) := by
  intro f
  induction f with
  | zero =>
    intro w p y g a3 a4 ha h
    omega
  | succ f ih =>
    intro w p y g a3 a4 ha hwf hw hy hp hpN hP
    have hd1 := (sb_dg_in w).1
    have fin : ∀ (F q : Nat) (g2 : Nat → Int32), q = n0 + sg → (∀ g', (∀ j, j < n0 ∨ q ≤ j → g' j = g2 j) → (sg = 1 → g' n0 = sb_b 45) → (sb_Fit g2 → sb_Fit g') → Q (.inl (some (.int (nI n0))), ([o0, o1, bB N g'], bc, bs, op))) → ∀ (a3 a4 : Option Value), (a3 = none ∧ a4 = none ∨ ∃ u v : Int32, a3 = some (.int u) ∧ a4 = some (.int v)) → mj_sg (mj_Mt gT (law_cst xs) gnw m) (law_cst xs) gnw (mj_hd (mj_off kO_Integer_getChars) kH_Integer_getChars) kC_Integer_getChars J Q (F + 20) false 62 [some (.int y), some (.int x1), some (.ref 2), a3, a4, some (.int (nI q)), some (.int (nI sg))] [] ([o0, o1, bB N g2], bc, bs, op) := by
      intro F q g2 hq hP2 a3 a4 ha
      refine And.intro (fun h0 => ?_) (fun h0 => ?_)
      · have h0 : sg = 0 := (nI_eq (a := sg) (b := 0) (by omega) (by decide)).mp h0
        subst h0
        obtain rfl : q = n0 := by omega
        exact hP2 g2 (fun _ _ => rfl) (fun h => by omega) (fun h => h)
      · have h1 : sg = 1 := by
          rcases (show sg = 0 ∨ sg = 1 by omega) with e | e
          · subst e
            exact absurd rfl h0
          · exact e
        subst h1
        subst hq
        rcases ha with ⟨rfl, rfl⟩ | ⟨u, v, rfl, rfl⟩
        all_goals
          refine And.intro (show vp_in (nI (n0 + 1) + (-1)) N by rw [pk_m1]; exact vp_in_nI (by omega) (by omega)) ?_
          have key : ∀ (z : Int32) (i : Nat) (c : Int32), z = nI n0 → i = n0 → c = sb_b 45 → Q (.inl (some (.int z)), ([o0, o1, bB N (upd g2 i c)], bc, bs, op)) := by
            rintro z i c rfl rfl rfl
            exact hP2 _ (fun j hj => pk_un (by omega)) (fun _ => pk_us) (fun hf => sb_fitU hf (sb_fitB _))
          exact key _ _ _ (pk_m1 n0) (by rw [show nI (n0 + 1) + Int32.ofInt (-1) = nI n0 from pk_m1 n0, nI_clamp (by omega)]) (by decide)
    by_cases h100 : w < 100
    · obtain ⟨t1, t2⟩ := j_tab w h100
      have e1 := j_neg hy (by omega)
      have ew : (-y).toNatClampNeg = w := by rw [e1]; exact nI_clamp (by omega)
      have ep : nI p + Int32.ofInt (-1) = nI (p - 1) := sb_m1 (by omega)
      have ec : (nI p + Int32.ofInt (-1)).toNatClampNeg = p - 1 := by rw [ep]; exact nI_clamp (by omega)
      by_cases h9 : w < 10
      · have hd : sb_dg w = 1 := if_pos h9
        have go : ∀ (F : Nat) (z : Int32) (i : Nat) (c : Int32), z = nI (p - 1) → i = p - 1 → c = sb_b (48 + w % 10) → ∀ (a3 a4 : Option Value), (a3 = none ∧ a4 = none ∨ ∃ u v : Int32, a3 = some (.int u) ∧ a4 = some (.int v)) → mj_sg (mj_Mt gT (law_cst xs) gnw m) (law_cst xs) gnw (mj_hd (mj_off kO_Integer_getChars) kH_Integer_getChars) kC_Integer_getChars J Q (F + 20) false 62 [some (.int y), some (.int x1), some (.ref 2), a3, a4, some (.int z), some (.int (nI sg))] [] ([o0, o1, bB N (upd g i c)], bc, bs, op) := by
          rintro F z i c rfl rfl rfl a3 a4 ha
          refine fin F (p - 1) _ (by omega) (fun g' h1 h2 h3 => hP g' (fun j hj => ?_) (fun i hi => ?_) h2 (fun hf => h3 (sb_fitU hf (sb_fitB _)))) a3 a4 ha
          · rw [h1 j (by omega), pk_un (by omega)]
          · obtain rfl : i = 0 := by omega
            rw [Nat.sub_zero, h1 _ (by omega), pk_us, Nat.pow_zero, Nat.div_one]
        rcases ha with ⟨rfl, rfl⟩ | ⟨u, v, rfl, rfl⟩
        · refine hJ _ _ _ _ ?_
          refine And.intro (fun _ => ?_) (fun h => absurd (show Int32.ofInt (-100) < y by rw [Int32.lt_iff_toInt_lt, hy, show (Int32.ofInt (-100)).toInt = -100 by decide]; omega) h)
          refine And.intro (show vp_in (-y) 100 by rw [e1]; exact vp_in_nI h100 (by decide)) ?_
          refine And.intro (show vp_in (nI p + Int32.ofInt (-1)) N by rw [ep]; exact vp_in_nI (by omega) (by omega)) ?_
          refine And.intro (fun _ => ?_) (fun h => absurd (show Int32.ofInt (-9) ≤ y by rw [Int32.le_iff_toInt_le, hy, show (Int32.ofInt (-9)).toInt = -9 by decide]; omega) h)
          exact go _ _ _ _ ep ec (by rw [ew]; exact t1) _ _ (Or.inl ⟨rfl, rfl⟩)
        · refine hJ _ _ _ _ ?_
          refine And.intro (fun _ => ?_) (fun h => absurd (show Int32.ofInt (-100) < y by rw [Int32.lt_iff_toInt_lt, hy, show (Int32.ofInt (-100)).toInt = -100 by decide]; omega) h)
          refine And.intro (show vp_in (-y) 100 by rw [e1]; exact vp_in_nI h100 (by decide)) ?_
          refine And.intro (show vp_in (nI p + Int32.ofInt (-1)) N by rw [ep]; exact vp_in_nI (by omega) (by omega)) ?_
          refine And.intro (fun _ => ?_) (fun h => absurd (show Int32.ofInt (-9) ≤ y by rw [Int32.le_iff_toInt_le, hy, show (Int32.ofInt (-9)).toInt = -9 by decide]; omega) h)
          exact go _ _ _ _ ep ec (by rw [ew]; exact t1) _ _ (Or.inr ⟨u, v, rfl, rfl⟩)
      · have hd : sb_dg w = 2 := by rw [sb_dg, if_neg h9, if_pos h100]
        have d2 : w / 10 % 10 = w / 10 := by omega
        have ep2 : nI p + Int32.ofInt (-1) + Int32.ofInt (-1) = nI (p - 1 - 1) := by rw [ep]; exact sb_m1 (by omega)
        have ec2 : (nI p + Int32.ofInt (-1) + Int32.ofInt (-1)).toNatClampNeg = p - 1 - 1 := by rw [ep2]; exact nI_clamp (by omega)
        have go : ∀ (F : Nat) (z : Int32) (i i2 : Nat) (c c2 : Int32), z = nI (p - 1 - 1) → i = p - 1 → i2 = p - 1 - 1 → c = sb_b (48 + w % 10) → c2 = sb_b (48 + w / 10) → ∀ (a3 a4 : Option Value), (a3 = none ∧ a4 = none ∨ ∃ u v : Int32, a3 = some (.int u) ∧ a4 = some (.int v)) → mj_sg (mj_Mt gT (law_cst xs) gnw m) (law_cst xs) gnw (mj_hd (mj_off kO_Integer_getChars) kH_Integer_getChars) kC_Integer_getChars J Q (F + 20) false 62 [some (.int y), some (.int x1), some (.ref 2), a3, a4, some (.int z), some (.int (nI sg))] [] ([o0, o1, bB N (upd (upd g i c) i2 c2)], bc, bs, op) := by
          rintro F z i i2 c c2 rfl rfl rfl rfl rfl a3 a4 ha
          refine fin F (p - 1 - 1) _ (by omega) (fun g' h1 h2 h3 => hP g' (fun j hj => ?_) (fun i hi => ?_) h2 (fun hf => h3 (sb_fitU (sb_fitU hf (sb_fitB _)) (sb_fitB _)))) a3 a4 ha
          · rw [h1 j (by omega), pk_un (by omega), pk_un (by omega)]
          · obtain rfl | rfl : i = 0 ∨ i = 1 := by omega
            · rw [Nat.sub_zero, h1 _ (by omega), pk_un (by omega), pk_us, Nat.pow_zero, Nat.div_one]
            · rw [h1 _ (by omega), pk_us, Nat.pow_one, d2]
        rcases ha with ⟨rfl, rfl⟩ | ⟨u, v, rfl, rfl⟩
        · refine hJ _ _ _ _ ?_
          refine And.intro (fun _ => ?_) (fun h => absurd (show Int32.ofInt (-100) < y by rw [Int32.lt_iff_toInt_lt, hy, show (Int32.ofInt (-100)).toInt = -100 by decide]; omega) h)
          refine And.intro (show vp_in (-y) 100 by rw [e1]; exact vp_in_nI h100 (by decide)) ?_
          refine And.intro (show vp_in (nI p + Int32.ofInt (-1)) N by rw [ep]; exact vp_in_nI (by omega) (by omega)) ?_
          refine And.intro (fun h => absurd (show Int32.ofInt (-9) ≤ y from h) (by rw [Int32.le_iff_toInt_le, hy, show (Int32.ofInt (-9)).toInt = -9 by decide]; omega)) (fun _ => ?_)
          refine And.intro (show vp_in (-y) 100 by rw [e1]; exact vp_in_nI h100 (by decide)) ?_
          refine And.intro (show vp_in (nI p + Int32.ofInt (-1) + Int32.ofInt (-1)) N by rw [ep2]; exact vp_in_nI (by omega) (by omega)) ?_
          exact go _ _ _ _ _ _ ep2 ec ec2 (by rw [ew]; exact t1) (by rw [ew]; exact t2) _ _ (Or.inl ⟨rfl, rfl⟩)
        · refine hJ _ _ _ _ ?_
          refine And.intro (fun _ => ?_) (fun h => absurd (show Int32.ofInt (-100) < y by rw [Int32.lt_iff_toInt_lt, hy, show (Int32.ofInt (-100)).toInt = -100 by decide]; omega) h)
          refine And.intro (show vp_in (-y) 100 by rw [e1]; exact vp_in_nI h100 (by decide)) ?_
          refine And.intro (show vp_in (nI p + Int32.ofInt (-1)) N by rw [ep]; exact vp_in_nI (by omega) (by omega)) ?_
          refine And.intro (fun h => absurd (show Int32.ofInt (-9) ≤ y from h) (by rw [Int32.le_iff_toInt_le, hy, show (Int32.ofInt (-9)).toInt = -9 by decide]; omega)) (fun _ => ?_)
          refine And.intro (show vp_in (-y) 100 by rw [e1]; exact vp_in_nI h100 (by decide)) ?_
          refine And.intro (show vp_in (nI p + Int32.ofInt (-1) + Int32.ofInt (-1)) N by rw [ep2]; exact vp_in_nI (by omega) (by omega)) ?_
          exact go _ _ _ _ _ _ ep2 ec ec2 (by rw [ew]; exact t1) (by rw [ew]; exact t2) _ _ (Or.inr ⟨u, v, rfl, rfl⟩)
    · obtain ⟨t1, t2⟩ := j_tab (w % 100) (Nat.mod_lt _ (by decide))
      have hd : sb_dg w = sb_dg (w / 100) + 2 := by
        by_cases e : w < 2 ^ 31
        · exact sb_dg100 (by omega) e
        · obtain rfl : w = 2 ^ 31 := by omega
          decide
      have hd2 := (sb_dg_in (w / 100)).1
      have er := j_rem hy hw
      have er2 : (y / Int32.ofInt 100 * Int32.ofInt 100 - y).toNatClampNeg = w % 100 := by rw [er]; exact nI_clamp (by omega)
      rw [show w % 100 % 10 = w % 10 by omega] at t1
      rw [show w % 100 / 10 = w / 10 % 10 by omega] at t2
      have ep : nI p + Int32.ofInt (-1) = nI (p - 1) := sb_m1 (by omega)
      have ec : (nI p + Int32.ofInt (-1)).toNatClampNeg = p - 1 := by rw [ep]; exact nI_clamp (by omega)
      have ep2 : nI p + Int32.ofInt (-1) + Int32.ofInt (-1) = nI (p - 1 - 1) := by rw [ep]; exact sb_m1 (by omega)
      have ec2 : (nI p + Int32.ofInt (-1) + Int32.ofInt (-1)).toNatClampNeg = p - 1 - 1 := by rw [ep2]; exact nI_clamp (by omega)
      have go : ∀ (z : Int32) (i i2 : Nat) (c c2 u v : Int32), z = nI (p - 1 - 1) → i = p - 1 → i2 = p - 1 - 1 → c = sb_b (48 + w % 10) → c2 = sb_b (48 + w / 10 % 10) → J 13 [some (.int (y / Int32.ofInt 100)), some (.int x1), some (.ref 2), some (.int u), some (.int v), some (.int z), some (.int (nI sg))] [] ([o0, o1, bB N (upd (upd g i c) i2 c2)], bc, bs, op) := by
        rintro z i i2 c c2 u v rfl rfl rfl rfl rfl
        refine ih (w / 100) (p - 1 - 1) _ _ _ _ (Or.inr ⟨u, v, rfl, rfl⟩) (by omega) (by omega) (j_div hy hw) (by omega) (by omega) (fun g' h1 h2 h4 h3 => ?_)
        refine hP g' (fun j hj => by rw [h1 j (by omega), pk_un (by omega), pk_un (by omega)]) (fun i hi => ?_) h4 (fun hf => h3 (sb_fitU (sb_fitU hf (sb_fitB _)) (sb_fitB _)))
        match i, hi with
        | 0, _ => rw [Nat.sub_zero, h1 _ (by omega), pk_un (by omega), pk_us, Nat.pow_zero, Nat.div_one]
        | 1, _ => rw [h1 _ (by omega), pk_us, Nat.pow_one]
        | k + 2, hi =>
          rw [show p - 1 - (k + 2) = p - 1 - 1 - 1 - k by omega, h2 k (by omega), Nat.div_div_eq_div_mul, show 100 * 10 ^ k = 10 ^ (k + 2) by rw [show k + 2 = k + 1 + 1 from rfl, Nat.pow_succ, Nat.pow_succ]; omega]
      rcases ha with ⟨rfl, rfl⟩ | ⟨u, v, rfl, rfl⟩
      · refine hJ _ _ _ _ ?_
        refine And.intro (fun h => absurd (show Int32.ofInt (-100) < y from h) (by rw [Int32.lt_iff_toInt_lt, hy, show (Int32.ofInt (-100)).toInt = -100 by decide]; omega)) (fun _ => ?_)
        refine And.intro (by decide) ?_
        refine And.intro (show vp_in (y / Int32.ofInt 100 * Int32.ofInt 100 - y) 100 by rw [er]; exact vp_in_nI (by omega) (by decide)) ?_
        refine And.intro (show vp_in (nI p + Int32.ofInt (-1)) N by rw [ep]; exact vp_in_nI (by omega) (by omega)) ?_
        refine And.intro (show vp_in (y / Int32.ofInt 100 * Int32.ofInt 100 - y) 100 by rw [er]; exact vp_in_nI (by omega) (by decide)) ?_
        refine And.intro (show vp_in (nI p + Int32.ofInt (-1) + Int32.ofInt (-1)) N by rw [ep2]; exact vp_in_nI (by omega) (by omega)) ?_
        exact go _ _ _ _ _ _ _ ep2 ec ec2 (by rw [er2]; exact t1) (by rw [er2]; exact t2)
      · refine hJ _ _ _ _ ?_
        refine And.intro (fun h => absurd (show Int32.ofInt (-100) < y from h) (by rw [Int32.lt_iff_toInt_lt, hy, show (Int32.ofInt (-100)).toInt = -100 by decide]; omega)) (fun _ => ?_)
        refine And.intro (by decide) ?_
        refine And.intro (show vp_in (y / Int32.ofInt 100 * Int32.ofInt 100 - y) 100 by rw [er]; exact vp_in_nI (by omega) (by decide)) ?_
        refine And.intro (show vp_in (nI p + Int32.ofInt (-1)) N by rw [ep]; exact vp_in_nI (by omega) (by omega)) ?_
        refine And.intro (show vp_in (y / Int32.ofInt 100 * Int32.ofInt 100 - y) 100 by rw [er]; exact vp_in_nI (by omega) (by decide)) ?_
        refine And.intro (show vp_in (nI p + Int32.ofInt (-1) + Int32.ofInt (-1)) N by rw [ep2]; exact vp_in_nI (by omega) (by omega)) ?_
        exact go _ _ _ _ _ _ _ ep2 ec ec2 (by rw [er2]; exact t1) (by rw [er2]; exact t2)
theorem j_getChars2 {o0 o1 : mj_O} {x px : Int32} {n0 p : Nat} (hpx : px = nI p) (hN : N ≤ 65536) (hp : p = n0 + isz x) (hpN : p ≤ N)
    (hP : ∀ g', (∀ j, j < n0 ∨ p ≤ j → g' j = g j) → (∀ i, i < isz x → g' (n0 + i) = sb_b (ich x i)) → (sb_Fit g → sb_Fit g') → Q (.inl (some (.int (nI n0))), ([o0, o1, bB N g'], bc, bs, op))) :
    mj_Mt gT (law_cst xs) gnw (m + 1) y_Integer_getChars [.int x, .int px, .ref 2] ([o0, o1, bB N g], bc, bs, op) Q := by
  subst hpx
  have hw := aw_le x
  have hdi := sb_dg_in (aw x)
  intro J hJ
  refine hJ _ _ _ _ ?_
  refine And.intro (fun (h : 0 ≤ x) => ?_) (fun (h : ¬ 0 ≤ x) => ?_)
  · have hn : ¬ x < 0 := Int32.not_lt.mpr h
    have e : isz x = sb_dg (aw x) := by unfold isz; rw [if_neg hn]; omega
    have hy : (-x).toInt = -((aw x : Nat) : Int) := by
      rw [Int32.lt_iff_toInt_lt, Int32.toInt_zero] at hn
      have h1 := x.toInt_lt
      unfold aw
      rw [Int32.toInt_neg]
      rw [show (x.toInt.natAbs : Int) = x.toInt by omega]
      apply Int.bmod_eq_of_le <;> omega
    refine And.intro (fun h9 => absurd rfl h9) (fun _ => ?_)
    refine j_charsLoop2 hJ (sg := 0) (n0 := n0) (by omega) hN (aw x + 1) (aw x) p (-x) g none none (Or.inl ⟨rfl, rfl⟩) (by omega) hw hy (by omega) hpN (fun g' h1 h2 _ h3 => hP g' h1 (fun i hi => ?_) h3)
    have h9 := h2 (sb_dg (aw x) - 1 - i) (by omega)
    rw [show p - 1 - (sb_dg (aw x) - 1 - i) = n0 + i by omega] at h9
    rw [h9]
    unfold ich sb_dec
    rw [if_neg hn]
  · have hn : x < 0 := Int32.not_le.mp h
    have e : isz x = sb_dg (aw x) + 1 := by unfold isz; rw [if_pos hn]
    have hy : x.toInt = -((aw x : Nat) : Int) := by
      have hn2 := hn
      rw [Int32.lt_iff_toInt_lt, Int32.toInt_zero] at hn2
      unfold aw
      omega
    refine And.intro (fun _ => ?_) (fun h9 => absurd h9 (by decide))
    refine j_charsLoop2 hJ (sg := 1) (n0 := n0) (by omega) hN (aw x + 1) (aw x) p x g none none (Or.inl ⟨rfl, rfl⟩) (by omega) hw hy (by omega) hpN (fun g' h1 h2 h4 h3 => hP g' h1 (fun i hi => ?_) h3)
    by_cases hi0 : i = 0
    · subst hi0
      rw [Nat.add_zero, h4 rfl]
      unfold ich
      rw [if_pos hn, if_pos rfl]
    · have h9 := h2 (sb_dg (aw x) - 1 - (i - 1)) (by omega)
      rw [show p - 1 - (sb_dg (aw x) - 1 - (i - 1)) = n0 + i by omega] at h9
      rw [h9]
      unfold ich sb_dec
      rw [if_pos hn, if_neg hi0]
end J2
