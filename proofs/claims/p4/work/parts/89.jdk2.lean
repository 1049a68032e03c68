section
section J2
variable {cst : Nat → Option (Nat × (Nat → Int32))} {m bc bs : Nat} {op : Bool} {Q : mj_R → Prop} {ml : Int32} {n N : Nat} {g : Nat → Int32} {os : List mj_O} {xs : List Int32}
set_option maxRecDepth 10000
def aw (x : Int32) : Nat := x.toInt.natAbs
def isz (x : Int32) : Nat := sb_dg (aw x) + (if x < 0 then 1 else 0)
def ich (x : Int32) : Nat → Nat := fun i => if x < 0 then (if i = 0 then 45 else sb_dec (aw x) (i - 1)) else sb_dec (aw x) i
theorem aw_le (x : Int32) : aw x ≤ 2 ^ 31 := by
  have h1 := x.toInt_lt
  have h2 := x.le_toInt
  unfold aw
  omega
theorem isz_in (x : Int32) : 1 ≤ isz x ∧ isz x ≤ 11 := by
  have := sb_dg_in (aw x)
  unfold isz
  split <;> omega
theorem sb_dg_eq {w : Nat} : ∀ i, 1 ≤ i → i ≤ 9 → (i = 1 ∨ 10 ^ (i - 1) ≤ w) → w < 10 ^ i → sb_dg w = i
  | 0, h, _, _, _ => by omega
  | 1, _, _, h1, h2 => by unfold sb_dg; (repeat' split) <;> omega
  | 2, _, _, h1, h2 => by unfold sb_dg; (repeat' split) <;> omega
  | 3, _, _, h1, h2 => by unfold sb_dg; (repeat' split) <;> omega
  | 4, _, _, h1, h2 => by unfold sb_dg; (repeat' split) <;> omega
  | 5, _, _, h1, h2 => by unfold sb_dg; (repeat' split) <;> omega
  | 6, _, _, h1, h2 => by unfold sb_dg; (repeat' split) <;> omega
  | 7, _, _, h1, h2 => by unfold sb_dg; (repeat' split) <;> omega
  | 8, _, _, h1, h2 => by unfold sb_dg; (repeat' split) <;> omega
  | 9, _, _, h1, h2 => by unfold sb_dg; (repeat' split) <;> omega
  | i + 10, _, h, _, _ => by omega
theorem sb_dg_10 {w : Nat} (h : 10 ^ 9 ≤ w) : sb_dg w = 10 := by unfold sb_dg; (repeat' split) <;> omega
theorem j_pow {i : Nat} (h : i ≤ 9) : 10 ^ i ≤ 1000000000 := Nat.pow_le_pow_right (n := 10) (by decide) h
theorem j_sizeLoop {J : Nat → mj_L → List Value → mj_H → Prop} (hJ : ∀ pc ls st h, mj_sg (mj_Mt gT cst gnw m) cst gnw (mj_hd (mj_off kO_Integer_stringSize) kH_Integer_stringSize) kC_Integer_stringSize J Q 400 true pc ls st h → J pc ls st h) {y : Int32} {w d : Nat} (hy : y.toInt = -(w : Int)) (hd : d ≤ 1) (hQ : Q (.inl (some (.int (nI (sb_dg w + d)))), (os, bc, bs, op))) :
    ∀ (k i : Nat) (p x : Int32), k + i = 10 → 1 ≤ i → (i = 1 ∨ 10 ^ (i - 1) ≤ w) → (i < 10 → p.toInt = -((10 ^ i : Nat) : Int)) → x = nI i → J 13 [some (.int y), some (.int (nI d)), some (.int p), some (.int x)] [] (os, bc, bs, op) := by
  intro k
  induction k with
  | zero =>
    intro i p x hk h1 hl hp hx
    subst hx
    obtain rfl : i = 10 := by omega
    refine hJ _ _ _ _ ?_
    refine And.intro (fun _ => ?_) (fun h => absurd (by decide) h)
    have e : Int32.ofInt 10 + nI d = nI (sb_dg w + d) := by
      rw [sb_dg_10 (by simpa using hl)]
      exact nI_add 10 d
    rw [← e] at hQ
    exact hQ
  | succ k ih =>
    intro i p x hk h1 hl hp hx
    subst hx
    have hp := hp (by omega)
    have h9 := j_pow (i := i) (by omega)
    refine hJ _ _ _ _ ?_
    refine And.intro (fun h => absurd h (nI_ge (a := i) (b := 10) (by omega) (by decide))) (fun _ => ?_)
    refine And.intro (fun h => ?_) (fun h => ?_)
    · have hw : 10 ^ i ≤ w := by
        rw [Int32.le_iff_toInt_le, hy, hp] at h
        omega
      refine ih (i + 1) _ _ (by omega) (by omega) (Or.inr hw) (fun hi => ?_) (nI_1 i)
      have h8 := j_pow (i := i + 1) (by omega)
      rw [Int32.toInt_mul, hp, show (Int32.ofInt 10).toInt = 10 by decide]
      rw [Nat.pow_succ] at h8 ⊢
      rw [show (10 : Int) * -((10 ^ i : Nat) : Int) = -((10 ^ i * 10 : Nat) : Int) by push_cast; omega]
      apply Int.bmod_eq_of_le <;> omega
    · have hw : w < 10 ^ i := by
        rw [Int32.le_iff_toInt_le, hy, hp] at h
        omega
      have e : nI i + nI d = nI (sb_dg w + d) := by
        rw [sb_dg_eq i h1 (by omega) hl hw]
        exact nI_add i d
      rw [← e] at hQ
      exact hQ
theorem j_stringSize {x : Int32} (hQ : Q (.inl (some (.int (nI (isz x)))), (os, bc, bs, op))) : mj_Mt gT cst gnw (m + 1) y_Integer_stringSize [.int x] (os, bc, bs, op) Q := by
  intro J hJ
  refine hJ _ _ _ _ ?_
  refine And.intro (fun h => ?_) (fun h => ?_)
  · have hw : x.toInt = -((aw x : Nat) : Int) := by
      rw [Int32.lt_iff_toInt_lt, Int32.toInt_zero] at h
      unfold aw
      omega
    have hQ' : Q (.inl (some (.int (nI (sb_dg (aw x) + 1)))), (os, bc, bs, op)) := by
      have e : isz x = sb_dg (aw x) + 1 := by unfold isz; rw [if_pos h]
      rw [← e]
      exact hQ
    exact j_sizeLoop hJ hw (Nat.le_refl 1) hQ' 9 1 _ _ rfl (Nat.le_refl 1) (Or.inl rfl) (fun _ => by decide) rfl
  · have hw : (-x).toInt = -((aw x : Nat) : Int) := by
      rw [Int32.lt_iff_toInt_lt, Int32.toInt_zero] at h
      have h1 := x.toInt_lt
      unfold aw
      rw [Int32.toInt_neg]
      rw [show (x.toInt.natAbs : Int) = x.toInt by omega]
      apply Int.bmod_eq_of_le <;> omega
    have hQ' : Q (.inl (some (.int (nI (sb_dg (aw x) + 0)))), (os, bc, bs, op)) := by
      have e : isz x = sb_dg (aw x) + 0 := by unfold isz; rw [if_neg h]
      rw [← e]
      exact hQ
    exact j_sizeLoop hJ hw (Nat.zero_le 1) hQ' 9 1 _ _ rfl (Nat.le_refl 1) (Or.inl rfl) (fun _ => by decide) rfl
theorem j_tab : ∀ k, k < 100 → vp_nar .byte (law_d1.getD k 0) = sb_b (48 + k % 10) ∧ vp_nar .byte (law_d2.getD k 0) = sb_b (48 + k / 10) := by decide +kernel
theorem j_neg {y : Int32} {w : Nat} (hy : y.toInt = -(w : Int)) (h : w < 2 ^ 31) : -y = nI w := by
  apply Int32.toInt_inj.mp
  rw [Int32.toInt_neg, hy, nI_toInt h, Int.neg_neg]
  apply Int.bmod_eq_of_le <;> omega
theorem j_div {y : Int32} {w : Nat} (hy : y.toInt = -(w : Int)) (h : w ≤ 2 ^ 31) : (y / Int32.ofInt 100).toInt = -((w / 100 : Nat) : Int) := by
  rw [Int32.toInt_div, hy, show (Int32.ofInt 100).toInt = 100 by decide, Int.neg_tdiv, show ((w : Int).tdiv 100) = ((w / 100 : Nat) : Int) by rw [Int.tdiv_eq_ediv_of_nonneg (by omega)]; rfl]
  apply Int.bmod_eq_of_le <;> omega
theorem j_rem {y : Int32} {w : Nat} (hy : y.toInt = -(w : Int)) (h : w ≤ 2 ^ 31) : y / Int32.ofInt 100 * Int32.ofInt 100 - y = nI (w % 100) := by
  have h1 := j_div hy h
  apply Int32.toInt_inj.mp
  rw [Int32.toInt_sub, Int32.toInt_mul, h1, hy, show (Int32.ofInt 100).toInt = 100 by decide, nI_toInt (by omega), Int.bmod_sub_bmod]
  have : -((w / 100 : Nat) : Int) * 100 - -(w : Int) = ((w % 100 : Nat) : Int) := by omega
  rw [this]
  apply Int.bmod_eq_of_le <;> omega
theorem j_charsLoop1 {o0 : mj_O} {J : Nat → mj_L → List Value → mj_H → Prop} (hJ : ∀ pc ls st h, mj_sg (mj_Mt gT (law_cst xs) gnw m) (law_cst xs) gnw (mj_hd (mj_off kO_Integer_getChars) kH_Integer_getChars) kC_Integer_getChars J Q 400 true pc ls st h → J pc ls st h) {x1 : Int32} {sg n0 : Nat} (hsg : sg ≤ 1) (hN : N ≤ 65536) :
    ∀ (f w p : Nat) (y : Int32) (g : Nat → Int32) (a3 a4 : Option Value), (a3 = none ∧ a4 = none ∨ ∃ u v : Int32, a3 = some (.int u) ∧ a4 = some (.int v)) → w < f → w ≤ 2 ^ 31 → y.toInt = -(w : Int) → p = n0 + sg + sb_dg w → p ≤ N →
    (∀ g', (∀ j, j < n0 ∨ p ≤ j → g' j = g j) → (∀ i, i < sb_dg w → g' (p - 1 - i) = sb_b (48 + w / 10 ^ i % 10)) → (sg = 1 → g' n0 = sb_b 45) → (sb_Fit g → sb_Fit g') → Q (.inl (some (.int (nI n0))), ([o0, bB N g'], bc, bs, op))) →
    J 13 [some (.int y), some (.int x1), some (.ref 1), a3, a4, some (.int (nI p)), some (.int (nI sg))] [] ([o0, bB N g], bc, bs, op) := by
  intro f
  induction f with
  | zero =>
    intro w p y g a3 a4 ha h
    omega
  | succ f ih =>
    intro w p y g a3 a4 ha hwf hw hy hp hpN hP
    have hd1 := (sb_dg_in w).1
    have fin : ∀ (F q : Nat) (g2 : Nat → Int32), q = n0 + sg → (∀ g', (∀ j, j < n0 ∨ q ≤ j → g' j = g2 j) → (sg = 1 → g' n0 = sb_b 45) → (sb_Fit g2 → sb_Fit g') → Q (.inl (some (.int (nI n0))), ([o0, bB N g'], bc, bs, op))) → ∀ (a3 a4 : Option Value), (a3 = none ∧ a4 = none ∨ ∃ u v : Int32, a3 = some (.int u) ∧ a4 = some (.int v)) → mj_sg (mj_Mt gT (law_cst xs) gnw m) (law_cst xs) gnw (mj_hd (mj_off kO_Integer_getChars) kH_Integer_getChars) kC_Integer_getChars J Q (F + 20) false 62 [some (.int y), some (.int x1), some (.ref 1), a3, a4, some (.int (nI q)), some (.int (nI sg))] [] ([o0, bB N g2], bc, bs, op) := by
      intro F q g2 hq hP2 a3 a4 ha
      refine And.intro (fun h0 => ?_) (fun h0 => ?_)
      · have h0 : sg = 0 := (nI_eq (a := sg) (b := 0) (by omega) (by decide)).mp h0
        subst h0
        obtain rfl : q = n0 := by omega
        exact hP2 g2 (fun _ _ => rfl) (fun h => by omega) (fun h => h)
      · have h1 : sg = 1 := by
          rcases (show sg = 0 ∨ sg = 1 by omega) with e | e
          · subst e
            exact absurd rfl h0
          · exact e
        subst h1
        subst hq
        rcases ha with ⟨rfl, rfl⟩ | ⟨u, v, rfl, rfl⟩
        all_goals
          refine And.intro (show vp_in (nI (n0 + 1) + (-1)) N by rw [pk_m1]; exact vp_in_nI (by omega) (by omega)) ?_
          have key : ∀ (z : Int32) (i : Nat) (c : Int32), z = nI n0 → i = n0 → c = sb_b 45 → Q (.inl (some (.int z)), ([o0, bB N (upd g2 i c)], bc, bs, op)) := by
            rintro z i c rfl rfl rfl
            exact hP2 _ (fun j hj => pk_un (by omega)) (fun _ => pk_us) (fun hf => sb_fitU hf (sb_fitB _))
          exact key _ _ _ (pk_m1 n0) (by rw [show nI (n0 + 1) + Int32.ofInt (-1) = nI n0 from pk_m1 n0, nI_clamp (by omega)]) (by decide)
    by_cases h100 : w < 100
    · obtain ⟨t1, t2⟩ := j_tab w h100
      have e1 := j_neg hy (by omega)
      have ew : (-y).toNatClampNeg = w := by rw [e1]; exact nI_clamp (by omega)
      have ep : nI p + Int32.ofInt (-1) = nI (p - 1) := sb_m1 (by omega)
      have ec : (nI p + Int32.ofInt (-1)).toNatClampNeg = p - 1 := by rw [ep]; exact nI_clamp (by omega)
      by_cases h9 : w < 10
      · have hd : sb_dg w = 1 := if_pos h9
        have go : ∀ (F : Nat) (z : Int32) (i : Nat) (c : Int32), z = nI (p - 1) → i = p - 1 → c = sb_b (48 + w % 10) → ∀ (a3 a4 : Option Value), (a3 = none ∧ a4 = none ∨ ∃ u v : Int32, a3 = some (.int u) ∧ a4 = some (.int v)) → mj_sg (mj_Mt gT (law_cst xs) gnw m) (law_cst xs) gnw (mj_hd (mj_off kO_Integer_getChars) kH_Integer_getChars) kC_Integer_getChars J Q (F + 20) false 62 [some (.int y), some (.int x1), some (.ref 1), a3, a4, some (.int z), some (.int (nI sg))] [] ([o0, bB N (upd g i c)], bc, bs, op) := by
          rintro F z i c rfl rfl rfl a3 a4 ha
          refine fin F (p - 1) _ (by omega) (fun g' h1 h2 h3 => hP g' (fun j hj => ?_) (fun i hi => ?_) h2 (fun hf => h3 (sb_fitU hf (sb_fitB _)))) a3 a4 ha
          · rw [h1 j (by omega), pk_un (by omega)]
          · obtain rfl : i = 0 := by omega
            rw [Nat.sub_zero, h1 _ (by omega), pk_us, Nat.pow_zero, Nat.div_one]
        rcases ha with ⟨rfl, rfl⟩ | ⟨u, v, rfl, rfl⟩
        · refine hJ _ _ _ _ ?_
          refine And.intro (fun _ => ?_) (fun h => absurd (show Int32.ofInt (-100) < y by rw [Int32.lt_iff_toInt_lt, hy, show (Int32.ofInt (-100)).toInt = -100 by decide]; omega) h)
          refine And.intro (show vp_in (-y) 100 by rw [e1]; exact vp_in_nI h100 (by decide)) ?_
          refine And.intro (show vp_in (nI p + Int32.ofInt (-1)) N by rw [ep]; exact vp_in_nI (by omega) (by omega)) ?_
          refine And.intro (fun _ => ?_) (fun h => absurd (show Int32.ofInt (-9) ≤ y by rw [Int32.le_iff_toInt_le, hy, show (Int32.ofInt (-9)).toInt = -9 by decide]; omega) h)
          exact go _ _ _ _ ep ec (by rw [ew]; exact t1) _ _ (Or.inl ⟨rfl, rfl⟩)
        · refine hJ _ _ _ _ ?_
          refine And.intro (fun _ => ?_) (fun h => absurd (show Int32.ofInt (-100) < y by rw [Int32.lt_iff_toInt_lt, hy, show (Int32.ofInt (-100)).toInt = -100 by decide]; omega) h)
          refine And.intro (show vp_in (-y) 100 by rw [e1]; exact vp_in_nI h100 (by decide)) ?_
          refine And.intro (show vp_in (nI p + Int32.ofInt (-1)) N by rw [ep]; exact vp_in_nI (by omega) (by omega)) ?_
          refine And.intro (fun _ => ?_) (fun h => absurd (show Int32.ofInt (-9) ≤ y by rw [Int32.le_iff_toInt_le, hy, show (Int32.ofInt (-9)).toInt = -9 by decide]; omega) h)
          exact go _ _ _ _ ep ec (by rw [ew]; exact t1) _ _ (Or.inr ⟨u, v, rfl, rfl⟩)
      · have hd : sb_dg w = 2 := by rw [sb_dg, if_neg h9, if_pos h100]
        have d2 : w / 10 % 10 = w / 10 := by omega
        have ep2 : nI p + Int32.ofInt (-1) + Int32.ofInt (-1) = nI (p - 1 - 1) := by rw [ep]; exact sb_m1 (by omega)
        have ec2 : (nI p + Int32.ofInt (-1) + Int32.ofInt (-1)).toNatClampNeg = p - 1 - 1 := by rw [ep2]; exact nI_clamp (by omega)
        have go : ∀ (F : Nat) (z : Int32) (i i2 : Nat) (c c2 : Int32), z = nI (p - 1 - 1) → i = p - 1 → i2 = p - 1 - 1 → c = sb_b (48 + w % 10) → c2 = sb_b (48 + w / 10) → ∀ (a3 a4 : Option Value), (a3 = none ∧ a4 = none ∨ ∃ u v : Int32, a3 = some (.int u) ∧ a4 = some (.int v)) → mj_sg (mj_Mt gT (law_cst xs) gnw m) (law_cst xs) gnw (mj_hd (mj_off kO_Integer_getChars) kH_Integer_getChars) kC_Integer_getChars J Q (F + 20) false 62 [some (.int y), some (.int x1), some (.ref 1), a3, a4, some (.int z), some (.int (nI sg))] [] ([o0, bB N (upd (upd g i c) i2 c2)], bc, bs, op) := by
          rintro F z i i2 c c2 rfl rfl rfl rfl rfl a3 a4 ha
          refine fin F (p - 1 - 1) _ (by omega) (fun g' h1 h2 h3 => hP g' (fun j hj => ?_) (fun i hi => ?_) h2 (fun hf => h3 (sb_fitU (sb_fitU hf (sb_fitB _)) (sb_fitB _)))) a3 a4 ha
          · rw [h1 j (by omega), pk_un (by omega), pk_un (by omega)]
          · obtain rfl | rfl : i = 0 ∨ i = 1 := by omega
            · rw [Nat.sub_zero, h1 _ (by omega), pk_un (by omega), pk_us, Nat.pow_zero, Nat.div_one]
            · rw [h1 _ (by omega), pk_us, Nat.pow_one, d2]
        rcases ha with ⟨rfl, rfl⟩ | ⟨u, v, rfl, rfl⟩
        · refine hJ _ _ _ _ ?_
          refine And.intro (fun _ => ?_) (fun h => absurd (show Int32.ofInt (-100) < y by rw [Int32.lt_iff_toInt_lt, hy, show (Int32.ofInt (-100)).toInt = -100 by decide]; omega) h)
          refine And.intro (show vp_in (-y) 100 by rw [e1]; exact vp_in_nI h100 (by decide)) ?_
          refine And.intro (show vp_in (nI p + Int32.ofInt (-1)) N by rw [ep]; exact vp_in_nI (by omega) (by omega)) ?_
          refine And.intro (fun h => absurd (show Int32.ofInt (-9) ≤ y from h) (by rw [Int32.le_iff_toInt_le, hy, show (Int32.ofInt (-9)).toInt = -9 by decide]; omega)) (fun _ => ?_)
          refine And.intro (show vp_in (-y) 100 by rw [e1]; exact vp_in_nI h100 (by decide)) ?_
          refine And.intro (show vp_in (nI p + Int32.ofInt (-1) + Int32.ofInt (-1)) N by rw [ep2]; exact vp_in_nI (by omega) (by omega)) ?_
          exact go _ _ _ _ _ _ ep2 ec ec2 (by rw [ew]; exact t1) (by rw [ew]; exact t2) _ _ (Or.inl ⟨rfl, rfl⟩)
        · refine hJ _ _ _ _ ?_
          refine And.intro (fun _ => ?_) (fun h => absurd (show Int32.ofInt (-100) < y by rw [Int32.lt_iff_toInt_lt, hy, show (Int32.ofInt (-100)).toInt = -100 by decide]; omega) h)
          refine And.intro (show vp_in (-y) 100 by rw [e1]; exact vp_in_nI h100 (by decide)) ?_
          refine And.intro (show vp_in (nI p + Int32.ofInt (-1)) N by rw [ep]; exact vp_in_nI (by omega) (by omega)) ?_
          refine And.intro (fun h => absurd (show Int32.ofInt (-9) ≤ y from h) (by rw [Int32.le_iff_toInt_le, hy, show (Int32.ofInt (-9)).toInt = -9 by decide]; omega)) (fun _ => ?_)
          refine And.intro (show vp_in (-y) 100 by rw [e1]; exact vp_in_nI h100 (by decide)) ?_
          refine And.intro (show vp_in (nI p + Int32.ofInt (-1) + Int32.ofInt (-1)) N by rw [ep2]; exact vp_in_nI (by omega) (by omega)) ?_
          exact go _ _ _ _ _ _ ep2 ec ec2 (by rw [ew]; exact t1) (by rw [ew]; exact t2) _ _ (Or.inr ⟨u, v, rfl, rfl⟩)
    · obtain ⟨t1, t2⟩ := j_tab (w % 100) (Nat.mod_lt _ (by decide))
      have hd : sb_dg w = sb_dg (w / 100) + 2 := by
        by_cases e : w < 2 ^ 31
        · exact sb_dg100 (by omega) e
        · obtain rfl : w = 2 ^ 31 := by omega
          decide
      have hd2 := (sb_dg_in (w / 100)).1
      have er := j_rem hy hw
      have er2 : (y / Int32.ofInt 100 * Int32.ofInt 100 - y).toNatClampNeg = w % 100 := by rw [er]; exact nI_clamp (by omega)
      rw [show w % 100 % 10 = w % 10 by omega] at t1
      rw [show w % 100 / 10 = w / 10 % 10 by omega] at t2
      have ep : nI p + Int32.ofInt (-1) = nI (p - 1) := sb_m1 (by omega)
      have ec : (nI p + Int32.ofInt (-1)).toNatClampNeg = p - 1 := by rw [ep]; exact nI_clamp (by omega)
      have ep2 : nI p + Int32.ofInt (-1) + Int32.ofInt (-1) = nI (p - 1 - 1) := by rw [ep]; exact sb_m1 (by omega)
      have ec2 : (nI p + Int32.ofInt (-1) + Int32.ofInt (-1)).toNatClampNeg = p - 1 - 1 := by rw [ep2]; exact nI_clamp (by omega)
      have go : ∀ (z : Int32) (i i2 : Nat) (c c2 u v : Int32), z = nI (p - 1 - 1) → i = p - 1 → i2 = p - 1 - 1 → c = sb_b (48 + w % 10) → c2 = sb_b (48 + w / 10 % 10) → J 13 [some (.int (y / Int32.ofInt 100)), some (.int x1), some (.ref 1), some (.int u), some (.int v), some (.int z), some (.int (nI sg))] [] ([o0, bB N (upd (upd g i c) i2 c2)], bc, bs, op) := by
        rintro z i i2 c c2 u v rfl rfl rfl rfl rfl
        refine ih (w / 100) (p - 1 - 1) _ _ _ _ (Or.inr ⟨u, v, rfl, rfl⟩) (by omega) (by omega) (j_div hy hw) (by omega) (by omega) (fun g' h1 h2 h4 h3 => ?_)
        refine hP g' (fun j hj => by rw [h1 j (by omega), pk_un (by omega), pk_un (by omega)]) (fun i hi => ?_) h4 (fun hf => h3 (sb_fitU (sb_fitU hf (sb_fitB _)) (sb_fitB _)))
        match i, hi with
        | 0, _ => rw [Nat.sub_zero, h1 _ (by omega), pk_un (by omega), pk_us, Nat.pow_zero, Nat.div_one]
        | 1, _ => rw [h1 _ (by omega), pk_us, Nat.pow_one]
        | k + 2, hi =>
          rw [show p - 1 - (k + 2) = p - 1 - 1 - 1 - k by omega, h2 k (by omega), Nat.div_div_eq_div_mul, show 100 * 10 ^ k = 10 ^ (k + 2) by rw [show k + 2 = k + 1 + 1 from rfl, Nat.pow_succ, Nat.pow_succ]; omega]
      rcases ha with ⟨rfl, rfl⟩ | ⟨u, v, rfl, rfl⟩
      · refine hJ _ _ _ _ ?_
        refine And.intro (fun h => absurd (show Int32.ofInt (-100) < y from h) (by rw [Int32.lt_iff_toInt_lt, hy, show (Int32.ofInt (-100)).toInt = -100 by decide]; omega)) (fun _ => ?_)
        refine And.intro (by decide) ?_
        refine And.intro (show vp_in (y / Int32.ofInt 100 * Int32.ofInt 100 - y) 100 by rw [er]; exact vp_in_nI (by omega) (by decide)) ?_
        refine And.intro (show vp_in (nI p + Int32.ofInt (-1)) N by rw [ep]; exact vp_in_nI (by omega) (by omega)) ?_
        refine And.intro (show vp_in (y / Int32.ofInt 100 * Int32.ofInt 100 - y) 100 by rw [er]; exact vp_in_nI (by omega) (by decide)) ?_
        refine And.intro (show vp_in (nI p + Int32.ofInt (-1) + Int32.ofInt (-1)) N by rw [ep2]; exact vp_in_nI (by omega) (by omega)) ?_
        exact go _ _ _ _ _ _ _ ep2 ec ec2 (by rw [er2]; exact t1) (by rw [er2]; exact t2)
      · refine hJ _ _ _ _ ?_
        refine And.intro (fun h => absurd (show Int32.ofInt (-100) < y from h) (by rw [Int32.lt_iff_toInt_lt, hy, show (Int32.ofInt (-100)).toInt = -100 by decide]; omega)) (fun _ => ?_)
        refine And.intro (by decide) ?_
        refine And.intro (show vp_in (y / Int32.ofInt 100 * Int32.ofInt 100 - y) 100 by rw [er]; exact vp_in_nI (by omega) (by decide)) ?_
        refine And.intro (show vp_in (nI p + Int32.ofInt (-1)) N by rw [ep]; exact vp_in_nI (by omega) (by omega)) ?_
        refine And.intro (show vp_in (y / Int32.ofInt 100 * Int32.ofInt 100 - y) 100 by rw [er]; exact vp_in_nI (by omega) (by decide)) ?_
        refine And.intro (show vp_in (nI p + Int32.ofInt (-1) + Int32.ofInt (-1)) N by rw [ep2]; exact vp_in_nI (by omega) (by omega)) ?_
        exact go _ _ _ _ _ _ _ ep2 ec ec2 (by rw [er2]; exact t1) (by rw [er2]; exact t2)
theorem j_getChars1 {o0 : mj_O} {x px : Int32} {n0 p : Nat} (hpx : px = nI p) (hN : N ≤ 65536) (hp : p = n0 + isz x) (hpN : p ≤ N)
    (hP : ∀ g', (∀ j, j < n0 ∨ p ≤ j → g' j = g j) → (∀ i, i < isz x → g' (n0 + i) = sb_b (ich x i)) → (sb_Fit g → sb_Fit g') → Q (.inl (some (.int (nI n0))), ([o0, bB N g'], bc, bs, op))) :
    mj_Mt gT (law_cst xs) gnw (m + 1) y_Integer_getChars [.int x, .int px, .ref 1] ([o0, bB N g], bc, bs, op) Q := by
  subst hpx
  have hw := aw_le x
  have hdi := sb_dg_in (aw x)
  intro J hJ
  refine hJ _ _ _ _ ?_
  refine And.intro (fun (h : 0 ≤ x) => ?_) (fun (h : ¬ 0 ≤ x) => ?_)
  · have hn : ¬ x < 0 := Int32.not_lt.mpr h
    have e : isz x = sb_dg (aw x) := by unfold isz; rw [if_neg hn]; omega
    have hy : (-x).toInt = -((aw x : Nat) : Int) := by
      rw [Int32.lt_iff_toInt_lt, Int32.toInt_zero] at hn
      have h1 := x.toInt_lt
      unfold aw
      rw [Int32.toInt_neg]
      rw [show (x.toInt.natAbs : Int) = x.toInt by omega]
      apply Int.bmod_eq_of_le <;> omega
    refine And.intro (fun h9 => absurd rfl h9) (fun _ => ?_)
    refine j_charsLoop1 hJ (sg := 0) (n0 := n0) (by omega) hN (aw x + 1) (aw x) p (-x) g none none (Or.inl ⟨rfl, rfl⟩) (by omega) hw hy (by omega) hpN (fun g' h1 h2 _ h3 => hP g' h1 (fun i hi => ?_) h3)
    have h9 := h2 (sb_dg (aw x) - 1 - i) (by omega)
    rw [show p - 1 - (sb_dg (aw x) - 1 - i) = n0 + i by omega] at h9
    rw [h9]
    unfold ich sb_dec
    rw [if_neg hn]
  · have hn : x < 0 := Int32.not_le.mp h
    have e : isz x = sb_dg (aw x) + 1 := by unfold isz; rw [if_pos hn]
    have hy : x.toInt = -((aw x : Nat) : Int) := by
      have hn2 := hn
      rw [Int32.lt_iff_toInt_lt, Int32.toInt_zero] at hn2
      unfold aw
      omega
    refine And.intro (fun _ => ?_) (fun h9 => absurd h9 (by decide))
    refine j_charsLoop1 hJ (sg := 1) (n0 := n0) (by omega) hN (aw x + 1) (aw x) p x g none none (Or.inl ⟨rfl, rfl⟩) (by omega) hw hy (by omega) hpN (fun g' h1 h2 h4 h3 => hP g' h1 (fun i hi => ?_) h3)
    by_cases hi0 : i = 0
    · subst hi0
      rw [Nat.add_zero, h4 rfl]
      unfold ich
      rw [if_pos hn, if_pos rfl]
    · have h9 := h2 (sb_dg (aw x) - 1 - (i - 1)) (by omega)
      rw [show p - 1 - (sb_dg (aw x) - 1 - (i - 1)) = n0 + i by omega] at h9
      rw [h9]
      unfold ich sb_dec
      rw [if_pos hn, if_neg hi0]
theorem j_charsLoop2 {o0 o1 : mj_O} {J : Nat → mj_L → List Value → mj_H → Prop} (hJ : ∀ pc ls st h, mj_sg (mj_Mt gT (law_cst xs) gnw m) (law_cst xs) gnw (mj_hd (mj_off kO_Integer_getChars) kH_Integer_getChars) kC_Integer_getChars J Q 400 true pc ls st h → J pc ls st h) {x1 : Int32} {sg n0 : Nat} (hsg : sg ≤ 1) (hN : N ≤ 65536) :
    ∀ (f w p : Nat) (y : Int32) (g : Nat → Int32) (a3 a4 : Option Value), (a3 = none ∧ a4 = none ∨ ∃ u v : Int32, a3 = some (.int u) ∧ a4 = some (.int v)) → w < f → w ≤ 2 ^ 31 → y.toInt = -(w : Int) → p = n0 + sg + sb_dg w → p ≤ N →
    (∀ g', (∀ j, j < n0 ∨ p ≤ j → g' j = g j) → (∀ i, i < sb_dg w → g' (p - 1 - i) = sb_b (48 + w / 10 ^ i % 10)) → (sg = 1 → g' n0 = sb_b 45) → (sb_Fit g → sb_Fit g') → Q (.inl (some (.int (nI n0))), ([o0, o1, bB N g'], bc, bs, op))) →
    J 13 [some (.int y), some (.int x1), some (.ref 2), a3, a4, some (.int (nI p)), some (.int (nI sg))] [] ([o0, o1, bB N g], bc, bs, op) := by
  intro f
  induction f with
  | zero =>
    intro w p y g a3 a4 ha h
    omega
  | succ f ih =>
    intro w p y g a3 a4 ha hwf hw hy hp hpN hP
    have hd1 := (sb_dg_in w).1
    have fin : ∀ (F q : Nat) (g2 : Nat → Int32), q = n0 + sg → (∀ g', (∀ j, j < n0 ∨ q ≤ j → g' j = g2 j) → (sg = 1 → g' n0 = sb_b 45) → (sb_Fit g2 → sb_Fit g') → Q (.inl (some (.int (nI n0))), ([o0, o1, bB N g'], bc, bs, op))) → ∀ (a3 a4 : Option Value), (a3 = none ∧ a4 = none ∨ ∃ u v : Int32, a3 = some (.int u) ∧ a4 = some (.int v)) → mj_sg (mj_Mt gT (law_cst xs) gnw m) (law_cst xs) gnw (mj_hd (mj_off kO_Integer_getChars) kH_Integer_getChars) kC_Integer_getChars J Q (F + 20) false 62 [some (.int y), some (.int x1), some (.ref 2), a3, a4, some (.int (nI q)), some (.int (nI sg))] [] ([o0, o1, bB N g2], bc, bs, op) := by
      intro F q g2 hq hP2 a3 a4 ha
      refine And.intro (fun h0 => ?_) (fun h0 => ?_)
      · have h0 : sg = 0 := (nI_eq (a := sg) (b := 0) (by omega) (by decide)).mp h0
        subst h0
        obtain rfl : q = n0 := by omega
        exact hP2 g2 (fun _ _ => rfl) (fun h => by omega) (fun h => h)
      · have h1 : sg = 1 := by
          rcases (show sg = 0 ∨ sg = 1 by omega) with e | e
          · subst e
            exact absurd rfl h0
          · exact e
        subst h1
        subst hq
        rcases ha with ⟨rfl, rfl⟩ | ⟨u, v, rfl, rfl⟩
        all_goals
          refine And.intro (show vp_in (nI (n0 + 1) + (-1)) N by rw [pk_m1]; exact vp_in_nI (by omega) (by omega)) ?_
          have key : ∀ (z : Int32) (i : Nat) (c : Int32), z = nI n0 → i = n0 → c = sb_b 45 → Q (.inl (some (.int z)), ([o0, o1, bB N (upd g2 i c)], bc, bs, op)) := by
            rintro z i c rfl rfl rfl
            exact hP2 _ (fun j hj => pk_un (by omega)) (fun _ => pk_us) (fun hf => sb_fitU hf (sb_fitB _))
          exact key _ _ _ (pk_m1 n0) (by rw [show nI (n0 + 1) + Int32.ofInt (-1) = nI n0 from pk_m1 n0, nI_clamp (by omega)]) (by decide)
    by_cases h100 : w < 100
    · obtain ⟨t1, t2⟩ := j_tab w h100
      have e1 := j_neg hy (by omega)
      have ew : (-y).toNatClampNeg = w := by rw [e1]; exact nI_clamp (by omega)
      have ep : nI p + Int32.ofInt (-1) = nI (p - 1) := sb_m1 (by omega)
      have ec : (nI p + Int32.ofInt (-1)).toNatClampNeg = p - 1 := by rw [ep]; exact nI_clamp (by omega)
      by_cases h9 : w < 10
      · have hd : sb_dg w = 1 := if_pos h9
        have go : ∀ (F : Nat) (z : Int32) (i : Nat) (c : Int32), z = nI (p - 1) → i = p - 1 → c = sb_b (48 + w % 10) → ∀ (a3 a4 : Option Value), (a3 = none ∧ a4 = none ∨ ∃ u v : Int32, a3 = some (.int u) ∧ a4 = some (.int v)) → mj_sg (mj_Mt gT (law_cst xs) gnw m) (law_cst xs) gnw (mj_hd (mj_off kO_Integer_getChars) kH_Integer_getChars) kC_Integer_getChars J Q (F + 20) false 62 [some (.int y), some (.int x1), some (.ref 2), a3, a4, some (.int z), some (.int (nI sg))] [] ([o0, o1, bB N (upd g i c)], bc, bs, op) := by
          rintro F z i c rfl rfl rfl a3 a4 ha
          refine fin F (p - 1) _ (by omega) (fun g' h1 h2 h3 => hP g' (fun j hj => ?_) (fun i hi => ?_) h2 (fun hf => h3 (sb_fitU hf (sb_fitB _)))) a3 a4 ha
          · rw [h1 j (by omega), pk_un (by omega)]
          · obtain rfl : i = 0 := by omega
            rw [Nat.sub_zero, h1 _ (by omega), pk_us, Nat.pow_zero, Nat.div_one]
        rcases ha with ⟨rfl, rfl⟩ | ⟨u, v, rfl, rfl⟩
        · refine hJ _ _ _ _ ?_
          refine And.intro (fun _ => ?_) (fun h => absurd (show Int32.ofInt (-100) < y by rw [Int32.lt_iff_toInt_lt, hy, show (Int32.ofInt (-100)).toInt = -100 by decide]; omega) h)
          refine And.intro (show vp_in (-y) 100 by rw [e1]; exact vp_in_nI h100 (by decide)) ?_
          refine And.intro (show vp_in (nI p + Int32.ofInt (-1)) N by rw [ep]; exact vp_in_nI (by omega) (by omega)) ?_
          refine And.intro (fun _ => ?_) (fun h => absurd (show Int32.ofInt (-9) ≤ y by rw [Int32.le_iff_toInt_le, hy, show (Int32.ofInt (-9)).toInt = -9 by decide]; omega) h)
          exact go _ _ _ _ ep ec (by rw [ew]; exact t1) _ _ (Or.inl ⟨rfl, rfl⟩)
        · refine hJ _ _ _ _ ?_
          refine And.intro (fun _ => ?_) (fun h => absurd (show Int32.ofInt (-100) < y by rw [Int32.lt_iff_toInt_lt, hy, show (Int32.ofInt (-100)).toInt = -100 by decide]; omega) h)
          refine And.intro (show vp_in (-y) 100 by rw [e1]; exact vp_in_nI h100 (by decide)) ?_
          refine And.intro (show vp_in (nI p + Int32.ofInt (-1)) N by rw [ep]; exact vp_in_nI (by omega) (by omega)) ?_
          refine And.intro (fun _ => ?_) (fun h => absurd (show Int32.ofInt (-9) ≤ y by rw [Int32.le_iff_toInt_le, hy, show (Int32.ofInt (-9)).toInt = -9 by decide]; omega) h)
          exact go _ _ _ _ ep ec (by rw [ew]; exact t1) _ _ (Or.inr ⟨u, v, rfl, rfl⟩)
      · have hd : sb_dg w = 2 := by rw [sb_dg, if_neg h9, if_pos h100]
        have d2 : w / 10 % 10 = w / 10 := by omega
        have ep2 : nI p + Int32.ofInt (-1) + Int32.ofInt (-1) = nI (p - 1 - 1) := by rw [ep]; exact sb_m1 (by omega)
        have ec2 : (nI p + Int32.ofInt (-1) + Int32.ofInt (-1)).toNatClampNeg = p - 1 - 1 := by rw [ep2]; exact nI_clamp (by omega)
        have go : ∀ (F : Nat) (z : Int32) (i i2 : Nat) (c c2 : Int32), z = nI (p - 1 - 1) → i = p - 1 → i2 = p - 1 - 1 → c = sb_b (48 + w % 10) → c2 = sb_b (48 + w / 10) → ∀ (a3 a4 : Option Value), (a3 = none ∧ a4 = none ∨ ∃ u v : Int32, a3 = some (.int u) ∧ a4 = some (.int v)) → mj_sg (mj_Mt gT (law_cst xs) gnw m) (law_cst xs) gnw (mj_hd (mj_off kO_Integer_getChars) kH_Integer_getChars) kC_Integer_getChars J Q (F + 20) false 62 [some (.int y), some (.int x1), some (.ref 2), a3, a4, some (.int z), some (.int (nI sg))] [] ([o0, o1, bB N (upd (upd g i c) i2 c2)], bc, bs, op) := by
          rintro F z i i2 c c2 rfl rfl rfl rfl rfl a3 a4 ha
          refine fin F (p - 1 - 1) _ (by omega) (fun g' h1 h2 h3 => hP g' (fun j hj => ?_) (fun i hi => ?_) h2 (fun hf => h3 (sb_fitU (sb_fitU hf (sb_fitB _)) (sb_fitB _)))) a3 a4 ha
          · rw [h1 j (by omega), pk_un (by omega), pk_un (by omega)]
          · obtain rfl | rfl : i = 0 ∨ i = 1 := by omega
            · rw [Nat.sub_zero, h1 _ (by omega), pk_un (by omega), pk_us, Nat.pow_zero, Nat.div_one]
            · rw [h1 _ (by omega), pk_us, Nat.pow_one, d2]
        rcases ha with ⟨rfl, rfl⟩ | ⟨u, v, rfl, rfl⟩
        · refine hJ _ _ _ _ ?_
          refine And.intro (fun _ => ?_) (fun h => absurd (show Int32.ofInt (-100) < y by rw [Int32.lt_iff_toInt_lt, hy, show (Int32.ofInt (-100)).toInt = -100 by decide]; omega) h)
          refine And.intro (show vp_in (-y) 100 by rw [e1]; exact vp_in_nI h100 (by decide)) ?_
          refine And.intro (show vp_in (nI p + Int32.ofInt (-1)) N by rw [ep]; exact vp_in_nI (by omega) (by omega)) ?_
          refine And.intro (fun h => absurd (show Int32.ofInt (-9) ≤ y from h) (by rw [Int32.le_iff_toInt_le, hy, show (Int32.ofInt (-9)).toInt = -9 by decide]; omega)) (fun _ => ?_)
          refine And.intro (show vp_in (-y) 100 by rw [e1]; exact vp_in_nI h100 (by decide)) ?_
          refine And.intro (show vp_in (nI p + Int32.ofInt (-1) + Int32.ofInt (-1)) N by rw [ep2]; exact vp_in_nI (by omega) (by omega)) ?_
          exact go _ _ _ _ _ _ ep2 ec ec2 (by rw [ew]; exact t1) (by rw [ew]; exact t2) _ _ (Or.inl ⟨rfl, rfl⟩)
        · refine hJ _ _ _ _ ?_
          refine And.intro (fun _ => ?_) (fun h => absurd (show Int32.ofInt (-100) < y by rw [Int32.lt_iff_toInt_lt, hy, show (Int32.ofInt (-100)).toInt = -100 by decide]; omega) h)
          refine And.intro (show vp_in (-y) 100 by rw [e1]; exact vp_in_nI h100 (by decide)) ?_
          refine And.intro (show vp_in (nI p + Int32.ofInt (-1)) N by rw [ep]; exact vp_in_nI (by omega) (by omega)) ?_
          refine And.intro (fun h => absurd (show Int32.ofInt (-9) ≤ y from h) (by rw [Int32.le_iff_toInt_le, hy, show (Int32.ofInt (-9)).toInt = -9 by decide]; omega)) (fun _ => ?_)
          refine And.intro (show vp_in (-y) 100 by rw [e1]; exact vp_in_nI h100 (by decide)) ?_
          refine And.intro (show vp_in (nI p + Int32.ofInt (-1) + Int32.ofInt (-1)) N by rw [ep2]; exact vp_in_nI (by omega) (by omega)) ?_
          exact go _ _ _ _ _ _ ep2 ec ec2 (by rw [ew]; exact t1) (by rw [ew]; exact t2) _ _ (Or.inr ⟨u, v, rfl, rfl⟩)
    · obtain ⟨t1, t2⟩ := j_tab (w % 100) (Nat.mod_lt _ (by decide))
      have hd : sb_dg w = sb_dg (w / 100) + 2 := by
        by_cases e : w < 2 ^ 31
        · exact sb_dg100 (by omega) e
        · obtain rfl : w = 2 ^ 31 := by omega
          decide
      have hd2 := (sb_dg_in (w / 100)).1
      have er := j_rem hy hw
      have er2 : (y / Int32.ofInt 100 * Int32.ofInt 100 - y).toNatClampNeg = w % 100 := by rw [er]; exact nI_clamp (by omega)
      rw [show w % 100 % 10 = w % 10 by omega] at t1
      rw [show w % 100 / 10 = w / 10 % 10 by omega] at t2
      have ep : nI p + Int32.ofInt (-1) = nI (p - 1) := sb_m1 (by omega)
      have ec : (nI p + Int32.ofInt (-1)).toNatClampNeg = p - 1 := by rw [ep]; exact nI_clamp (by omega)
      have ep2 : nI p + Int32.ofInt (-1) + Int32.ofInt (-1) = nI (p - 1 - 1) := by rw [ep]; exact sb_m1 (by omega)
      have ec2 : (nI p + Int32.ofInt (-1) + Int32.ofInt (-1)).toNatClampNeg = p - 1 - 1 := by rw [ep2]; exact nI_clamp (by omega)
      have go : ∀ (z : Int32) (i i2 : Nat) (c c2 u v : Int32), z = nI (p - 1 - 1) → i = p - 1 → i2 = p - 1 - 1 → c = sb_b (48 + w % 10) → c2 = sb_b (48 + w / 10 % 10) → J 13 [some (.int (y / Int32.ofInt 100)), some (.int x1), some (.ref 2), some (.int u), some (.int v), some (.int z), some (.int (nI sg))] [] ([o0, o1, bB N (upd (upd g i c) i2 c2)], bc, bs, op) := by
        rintro z i i2 c c2 u v rfl rfl rfl rfl rfl
        refine ih (w / 100) (p - 1 - 1) _ _ _ _ (Or.inr ⟨u, v, rfl, rfl⟩) (by omega) (by omega) (j_div hy hw) (by omega) (by omega) (fun g' h1 h2 h4 h3 => ?_)
        refine hP g' (fun j hj => by rw [h1 j (by omega), pk_un (by omega), pk_un (by omega)]) (fun i hi => ?_) h4 (fun hf => h3 (sb_fitU (sb_fitU hf (sb_fitB _)) (sb_fitB _)))
        match i, hi with
        | 0, _ => rw [Nat.sub_zero, h1 _ (by omega), pk_un (by omega), pk_us, Nat.pow_zero, Nat.div_one]
        | 1, _ => rw [h1 _ (by omega), pk_us, Nat.pow_one]
        | k + 2, hi =>
          rw [show p - 1 - (k + 2) = p - 1 - 1 - 1 - k by omega, h2 k (by omega), Nat.div_div_eq_div_mul, show 100 * 10 ^ k = 10 ^ (k + 2) by rw [show k + 2 = k + 1 + 1 from rfl, Nat.pow_succ, Nat.pow_succ]; omega]
      rcases ha with ⟨rfl, rfl⟩ | ⟨u, v, rfl, rfl⟩
      · refine hJ _ _ _ _ ?_
        refine And.intro (fun h => absurd (show Int32.ofInt (-100) < y from h) (by rw [Int32.lt_iff_toInt_lt, hy, show (Int32.ofInt (-100)).toInt = -100 by decide]; omega)) (fun _ => ?_)
        refine And.intro (by decide) ?_
        refine And.intro (show vp_in (y / Int32.ofInt 100 * Int32.ofInt 100 - y) 100 by rw [er]; exact vp_in_nI (by omega) (by decide)) ?_
        refine And.intro (show vp_in (nI p + Int32.ofInt (-1)) N by rw [ep]; exact vp_in_nI (by omega) (by omega)) ?_
        refine And.intro (show vp_in (y / Int32.ofInt 100 * Int32.ofInt 100 - y) 100 by rw [er]; exact vp_in_nI (by omega) (by decide)) ?_
        refine And.intro (show vp_in (nI p + Int32.ofInt (-1) + Int32.ofInt (-1)) N by rw [ep2]; exact vp_in_nI (by omega) (by omega)) ?_
        exact go _ _ _ _ _ _ _ ep2 ec ec2 (by rw [er2]; exact t1) (by rw [er2]; exact t2)
      · refine hJ _ _ _ _ ?_
        refine And.intro (fun h => absurd (show Int32.ofInt (-100) < y from h) (by rw [Int32.lt_iff_toInt_lt, hy, show (Int32.ofInt (-100)).toInt = -100 by decide]; omega)) (fun _ => ?_)
        refine And.intro (by decide) ?_
        refine And.intro (show vp_in (y / Int32.ofInt 100 * Int32.ofInt 100 - y) 100 by rw [er]; exact vp_in_nI (by omega) (by decide)) ?_
        refine And.intro (show vp_in (nI p + Int32.ofInt (-1)) N by rw [ep]; exact vp_in_nI (by omega) (by omega)) ?_
        refine And.intro (show vp_in (y / Int32.ofInt 100 * Int32.ofInt 100 - y) 100 by rw [er]; exact vp_in_nI (by omega) (by decide)) ?_
        refine And.intro (show vp_in (nI p + Int32.ofInt (-1) + Int32.ofInt (-1)) N by rw [ep2]; exact vp_in_nI (by omega) (by omega)) ?_
        exact go _ _ _ _ _ _ _ ep2 ec ec2 (by rw [er2]; exact t1) (by rw [er2]; exact t2)
theorem j_getChars2 {o0 o1 : mj_O} {x px : Int32} {n0 p : Nat} (hpx : px = nI p) (hN : N ≤ 65536) (hp : p = n0 + isz x) (hpN : p ≤ N)
    (hP : ∀ g', (∀ j, j < n0 ∨ p ≤ j → g' j = g j) → (∀ i, i < isz x → g' (n0 + i) = sb_b (ich x i)) → (sb_Fit g → sb_Fit g') → Q (.inl (some (.int (nI n0))), ([o0, o1, bB N g'], bc, bs, op))) :
    mj_Mt gT (law_cst xs) gnw (m + 1) y_Integer_getChars [.int x, .int px, .ref 2] ([o0, o1, bB N g], bc, bs, op) Q := by
  subst hpx
  have hw := aw_le x
  have hdi := sb_dg_in (aw x)
  intro J hJ
  refine hJ _ _ _ _ ?_
  refine And.intro (fun (h : 0 ≤ x) => ?_) (fun (h : ¬ 0 ≤ x) => ?_)
  · have hn : ¬ x < 0 := Int32.not_lt.mpr h
    have e : isz x = sb_dg (aw x) := by unfold isz; rw [if_neg hn]; omega
    have hy : (-x).toInt = -((aw x : Nat) : Int) := by
      rw [Int32.lt_iff_toInt_lt, Int32.toInt_zero] at hn
      have h1 := x.toInt_lt
      unfold aw
      rw [Int32.toInt_neg]
      rw [show (x.toInt.natAbs : Int) = x.toInt by omega]
      apply Int.bmod_eq_of_le <;> omega
    refine And.intro (fun h9 => absurd rfl h9) (fun _ => ?_)
    refine j_charsLoop2 hJ (sg := 0) (n0 := n0) (by omega) hN (aw x + 1) (aw x) p (-x) g none none (Or.inl ⟨rfl, rfl⟩) (by omega) hw hy (by omega) hpN (fun g' h1 h2 _ h3 => hP g' h1 (fun i hi => ?_) h3)
    have h9 := h2 (sb_dg (aw x) - 1 - i) (by omega)
    rw [show p - 1 - (sb_dg (aw x) - 1 - i) = n0 + i by omega] at h9
    rw [h9]
    unfold ich sb_dec
    rw [if_neg hn]
  · have hn : x < 0 := Int32.not_le.mp h
    have e : isz x = sb_dg (aw x) + 1 := by unfold isz; rw [if_pos hn]
    have hy : x.toInt = -((aw x : Nat) : Int) := by
      have hn2 := hn
      rw [Int32.lt_iff_toInt_lt, Int32.toInt_zero] at hn2
      unfold aw
      omega
    refine And.intro (fun _ => ?_) (fun h9 => absurd h9 (by decide))
    refine j_charsLoop2 hJ (sg := 1) (n0 := n0) (by omega) hN (aw x + 1) (aw x) p x g none none (Or.inl ⟨rfl, rfl⟩) (by omega) hw hy (by omega) hpN (fun g' h1 h2 h4 h3 => hP g' h1 (fun i hi => ?_) h3)
    by_cases hi0 : i = 0
    · subst hi0
      rw [Nat.add_zero, h4 rfl]
      unfold ich
      rw [if_pos hn, if_pos rfl]
    · have h9 := h2 (sb_dg (aw x) - 1 - (i - 1)) (by omega)
      rw [show p - 1 - (sb_dg (aw x) - 1 - (i - 1)) = n0 + i by omega] at h9
      rw [h9]
      unfold ich sb_dec
      rw [if_pos hn, if_neg hi0]
end J2
end
section
section J3
variable {cst : Nat → Option (Nat × (Nat → Int32))} {m bc bs : Nat} {op : Bool} {Q : mj_R → Prop} {ml : Int32} {n N : Nat} {g : Nat → Int32} {os : List mj_O} {xs : List Int32}
set_option maxRecDepth 10000
theorem j_asb_appendC {c : Nat} (hc : c < 256) (hn : n ≤ N) (hN : N ≤ 65536) (hq : n + 1 ≤ 900) (hf : sb_Fit g) (hb : 2 * (n + 1) ≤ bs) (h1 : n + 1 ≤ N → Q (.inl (some (.ref 0)), ([bO 1 ml (n + 1), bB N (upd g n (sb_b c))], bc + 1, bs, true))) (h2 : N < n + 1 → sb_cap (n + 1) N ≤ 2 * (n + 1) → Q (.inl (some (.ref 0)), ([bO 2 ml (n + 1), bB N g, bB (sb_cap (n + 1) N) (upd (va_cpy g (fun _ => 0) 0 0 N) n (sb_b c))], bc, bs - sb_cap (n + 1) N, true))) : mj_Mt gT cst gnw (m + 4) y_AbstractStringBuilder_append_C [.ref 0, .int (nI c)] ([bO 1 ml n, bB N g], bc + 1, bs, true) Q := by
  have ec : (nI n).toNatClampNeg = n := nI_clamp (by omega)
  have ev : vp_nar .byte (nI c).toInt8.toInt32 = sb_b c := pk_vb (nI c)
  intro J hJ
  refine hJ _ _ _ _ ?_
  refine j_ensure (q := n + 1) (nI_1 n) hq hN hf hb (fun hl => ?_) (fun hl hk => ?_)
  · have hcg := sb_cap_ge (n + 1) N
    refine j_isLatin1 ?_
    refine And.intro (fun h => absurd h (by decide)) (fun _ => ?_)
    refine j_canEncodeC hc ?_
    refine And.intro (fun h => absurd h (by decide)) (fun _ => ?_)
    refine And.intro (vp_in_nI (by omega) (by omega)) ?_
    have key : ∀ (x : Int32) (i : Nat) (y : Int32), x = nI (n + 1) → i = n → y = sb_b c → Q (.inl (some (.ref 0)), ([.inr (.inl (9, [.ref 1, .int 0, .int ml, .int x])), bB N (upd g i y)], bc + 1, bs, true)) := by
      rintro x i y rfl rfl rfl
      exact h1 hl
    exact key _ _ _ (nI_1 n) ec ev
  · have hcg := sb_cap_ge (n + 1) N
    refine j_isLatin1 ?_
    refine And.intro (fun h => absurd h (by decide)) (fun _ => ?_)
    refine j_canEncodeC hc ?_
    refine And.intro (fun h => absurd h (by decide)) (fun _ => ?_)
    refine And.intro (vp_in_nI (by omega) (by omega)) ?_
    have key : ∀ (x : Int32) (i : Nat) (y : Int32), x = nI (n + 1) → i = n → y = sb_b c → Q (.inl (some (.ref 0)), ([.inr (.inl (9, [.ref 2, .int 0, .int ml, .int x])), bB N g, bB (sb_cap (n + 1) N) (upd (va_cpy g (fun _ => 0) 0 0 N) i y)], bc, bs - sb_cap (n + 1) N, true)) := by
      rintro x i y rfl rfl rfl
      exact h2 hl hk
    exact key _ _ _ (nI_1 n) ec ev
theorem j_appendC {c : Nat} (hc : c < 256) (hn : n ≤ N) (hN : N ≤ 65536) (hq : n + 1 ≤ 900) (hf : sb_Fit g) (hb : 2 * (n + 1) ≤ bs) (h1 : n + 1 ≤ N → Q (.inl (some (.ref 0)), ([bO 1 ml (n + 1), bB N (upd g n (sb_b c))], bc + 1, bs, true))) (h2 : N < n + 1 → sb_cap (n + 1) N ≤ 2 * (n + 1) → Q (.inl (some (.ref 0)), ([bO 2 ml (n + 1), bB N g, bB (sb_cap (n + 1) N) (upd (va_cpy g (fun _ => 0) 0 0 N) n (sb_b c))], bc, bs - sb_cap (n + 1) N, true))) : mj_Mt gT cst gnw (m + 5) y_StringBuilder_append_C [.ref 0, .int (nI c)] ([bO 1 ml n, bB N g], bc + 1, bs, true) Q := by
  intro J hJ
  refine hJ _ _ _ _ ?_
  refine j_asb_appendC hc hn hN hq hf hb (fun hl => ?_) (fun hl hk => ?_)
  · exact h1 hl
  · exact h2 hl hk
theorem j_asb_appendI {x : Int32} (hn : n ≤ N) (hN : N ≤ 65536) (hq : n + isz x ≤ 900) (hf : sb_Fit g) (hb : 2 * (n + isz x) ≤ bs) (h1 : n + isz x ≤ N → ∀ g', (∀ j, j < n → g' j = g j) → (∀ i, i < isz x → g' (n + i) = sb_b (ich x i)) → sb_Fit g' → Q (.inl (some (.ref 0)), ([bO 1 ml (n + isz x), bB N g'], bc + 1, bs, true))) (h2 : N < n + isz x → sb_cap (n + isz x) N ≤ 2 * (n + isz x) → ∀ g', (∀ j, j < n → g' j = g j) → (∀ i, i < isz x → g' (n + i) = sb_b (ich x i)) → sb_Fit g' → Q (.inl (some (.ref 0)), ([bO 2 ml (n + isz x), bB N g, bB (sb_cap (n + isz x) N) g'], bc, bs - sb_cap (n + isz x) N, true))) : mj_Mt gT (law_cst xs) gnw (m + 4) y_AbstractStringBuilder_append_I [.ref 0, .int x] ([bO 1 ml n, bB N g], bc + 1, bs, true) Q := by
  have hsz := isz_in x
  have ea : nI n + nI (isz x) = nI (n + isz x) := nI_add n (isz x)
  intro J hJ
  refine hJ _ _ _ _ ?_
  refine j_stringSize ?_
  refine j_ensure (q := n + isz x) ea hq hN hf hb (fun hl => ?_) (fun hl hk => ?_)
  · have hcg := sb_cap_ge (n + isz x) N
    refine j_isLatin1 ?_
    refine And.intro (fun h => absurd h (by decide)) (fun _ => ?_)
    refine j_getChars1 (n0 := n) (p := n + isz x) ea (by omega) rfl (by omega) (fun g' q1 q2 q3 => ?_)
    have key : ∀ (z : Int32), z = nI (n + isz x) → Q (.inl (some (.ref 0)), ([.inr (.inl (9, [.ref 1, .int 0, .int ml, .int z])), bB N g'], bc + 1, bs, true)) := by
      rintro z rfl
      refine h1 hl g' (fun j hj => ?_) q2 (q3 hf)
      rw [q1 j (Or.inl hj)]
    exact key _ ea
  · have hcg := sb_cap_ge (n + isz x) N
    refine j_isLatin1 ?_
    refine And.intro (fun h => absurd h (by decide)) (fun _ => ?_)
    refine j_getChars2 (n0 := n) (p := n + isz x) ea (by omega) rfl (by omega) (fun g' q1 q2 q3 => ?_)
    have key : ∀ (z : Int32), z = nI (n + isz x) → Q (.inl (some (.ref 0)), ([.inr (.inl (9, [.ref 2, .int 0, .int ml, .int z])), bB N g, bB (sb_cap (n + isz x) N) g'], bc, bs - sb_cap (n + isz x) N, true)) := by
      rintro z rfl
      refine h2 hl hk g' (fun j hj => ?_) q2 (q3 (sb_fitC hf sb_fit0))
      rw [q1 j (Or.inl hj), sb_cpy0 (by omega)]
    exact key _ ea
theorem j_appendI {x : Int32} (hn : n ≤ N) (hN : N ≤ 65536) (hq : n + isz x ≤ 900) (hf : sb_Fit g) (hb : 2 * (n + isz x) ≤ bs) (h1 : n + isz x ≤ N → ∀ g', (∀ j, j < n → g' j = g j) → (∀ i, i < isz x → g' (n + i) = sb_b (ich x i)) → sb_Fit g' → Q (.inl (some (.ref 0)), ([bO 1 ml (n + isz x), bB N g'], bc + 1, bs, true))) (h2 : N < n + isz x → sb_cap (n + isz x) N ≤ 2 * (n + isz x) → ∀ g', (∀ j, j < n → g' j = g j) → (∀ i, i < isz x → g' (n + i) = sb_b (ich x i)) → sb_Fit g' → Q (.inl (some (.ref 0)), ([bO 2 ml (n + isz x), bB N g, bB (sb_cap (n + isz x) N) g'], bc, bs - sb_cap (n + isz x) N, true))) : mj_Mt gT (law_cst xs) gnw (m + 5) y_StringBuilder_append_I [.ref 0, .int x] ([bO 1 ml n, bB N g], bc + 1, bs, true) Q := by
  intro J hJ
  refine hJ _ _ _ _ ?_
  refine j_asb_appendI hn hN hq hf hb (fun hl g' q1 q2 q3 => ?_) (fun hl hk g' q1 q2 q3 => ?_)
  · exact h1 hl g' q1 q2 q3
  · exact h2 hl hk g' q1 q2 q3
def stx2010 : Nat → Nat := fun i => ([32, 46, 32] : List Nat).getD i 0
theorem j_lat2010 : ∀ i, i < 3 → stx2010 i < 256 ∧ law_s2010.getD i 0 = sb_b (stx2010 i) := by decide +kernel
theorem j_fit2010 : sb_Fit (fun j => law_s2010.getD j 0) := fun j => by
  match j with
  | 0 => decide
  | 1 => decide
  | 2 => decide
  | j + 3 => exact (by decide : fits .byte (.int 0) = true)
theorem j_coder2010 (hQ : Q (.inl (some (.int 0)), (os, bc, bs, op))) : mj_Mt gT (law_cst xs) gnw (m + 1) y_String_coder [.ref 2010] (os, bc, bs, op) Q := by
  intro J hJ
  refine hJ _ _ _ _ ?_
  refine And.intro (fun h => absurd h (by decide)) (fun _ => ?_)
  exact And.intro (by decide) hQ
theorem j_slen2010 (hQ : Q (.inl (some (.int (nI 3))), (os, bc, bs, op))) : mj_Mt gT (law_cst xs) gnw (m + 2) y_String_length [.ref 2010] (os, bc, bs, op) Q := by
  intro J hJ
  refine hJ _ _ _ _ ?_
  refine j_coder2010 ?_
  rw [← sb_shr0 (nI 3)] at hQ
  exact hQ
theorem j_infl2010 {j : Nat} (hQ : Q (.inl none, (bO j ml n :: os, bc, bs, op))) : mj_Mt gT (law_cst xs) gnw (m + 2) y_AbstractStringBuilder_inflateIfNeededFor [.ref 0, .ref 2010] (bO j ml n :: os, bc, bs, op) Q := by
  intro J hJ
  refine hJ _ _ _ _ ?_
  refine And.intro (fun h => absurd h (by decide)) (fun _ => ?_)
  refine j_coder2010 ?_
  refine And.intro (fun _ => ?_) (fun h => absurd rfl h)
  exact hQ
theorem j_gb2010_1 (h : n + 3 ≤ N) (hN : N ≤ 65536) (hQ : Q (.inl none, ([bO 1 ml n, bB N (va_cpy (fun j => law_s2010.getD j 0) g 0 n 3)], bc, bs, op))) : mj_Mt gT (law_cst xs) gnw (m + 2) y_String_getBytes [.ref 2010, .ref 1, .int (nI n), .int 0] ([bO 1 ml n, bB N g], bc, bs, op) Q := by
  have e1 : (nI n <<< ((0 : Int32) &&& 31)).toNatClampNeg = n := by rw [sb_shl0]; exact nI_clamp (by omega)
  have e2 : (Int32.ofNat 3).toNatClampNeg = 3 := by decide
  have e0 : (Int32.ofInt 0).toNatClampNeg = 0 := by decide
  intro J hJ
  refine hJ _ _ _ _ ?_
  refine j_coder2010 ?_
  refine And.intro (fun h => absurd rfl h) (fun _ => ?_)
  refine And.intro (by decide) (And.intro (by decide) (And.intro (by decide) (And.intro (by rw [sb_shl0]; exact nI_pos (by omega)) (And.intro (by decide) (And.intro (by decide) (And.intro (by rw [e1, e2]; omega) (And.intro j_fit2010 ?_)))))))
  have key : ∀ (a b c : Nat), a = 0 → b = n → c = 3 → Q (.inl none, ([bO 1 ml n, bB N (va_cpy (fun j => law_s2010.getD j 0) g a b c)], bc, bs, op)) := by
    rintro a b c rfl rfl rfl
    exact hQ
  exact key _ _ _ e0 e1 e2
theorem j_pa2010_1 (h : n + 3 ≤ N) (hN : N ≤ 65536) (hQ : Q (.inl none, ([bO 1 ml n, bB N (va_cpy (fun j => law_s2010.getD j 0) g 0 n 3)], bc, bs, op))) : mj_Mt gT (law_cst xs) gnw (m + 3) y_AbstractStringBuilder_putStringAt [.ref 0, .int (nI n), .ref 2010] ([bO 1 ml n, bB N g], bc, bs, op) Q := by
  intro J hJ
  refine hJ _ _ _ _ ?_
  refine j_infl2010 ?_
  refine j_gb2010_1 h hN ?_
  exact hQ
theorem j_gb2010_2 {o1 : mj_O} (h : n + 3 ≤ N) (hN : N ≤ 65536) (hQ : Q (.inl none, ([bO 2 ml n, o1, bB N (va_cpy (fun j => law_s2010.getD j 0) g 0 n 3)], bc, bs, op))) : mj_Mt gT (law_cst xs) gnw (m + 2) y_String_getBytes [.ref 2010, .ref 2, .int (nI n), .int 0] ([bO 2 ml n, o1, bB N g], bc, bs, op) Q := by
  have e1 : (nI n <<< ((0 : Int32) &&& 31)).toNatClampNeg = n := by rw [sb_shl0]; exact nI_clamp (by omega)
  have e2 : (Int32.ofNat 3).toNatClampNeg = 3 := by decide
  have e0 : (Int32.ofInt 0).toNatClampNeg = 0 := by decide
  intro J hJ
  refine hJ _ _ _ _ ?_
  refine j_coder2010 ?_
  refine And.intro (fun h => absurd rfl h) (fun _ => ?_)
  refine And.intro (by decide) (And.intro (by decide) (And.intro (by decide) (And.intro (by rw [sb_shl0]; exact nI_pos (by omega)) (And.intro (by decide) (And.intro (by decide) (And.intro (by rw [e1, e2]; omega) (And.intro j_fit2010 ?_)))))))
  have key : ∀ (a b c : Nat), a = 0 → b = n → c = 3 → Q (.inl none, ([bO 2 ml n, o1, bB N (va_cpy (fun j => law_s2010.getD j 0) g a b c)], bc, bs, op)) := by
    rintro a b c rfl rfl rfl
    exact hQ
  exact key _ _ _ e0 e1 e2
theorem j_pa2010_2 {o1 : mj_O} (h : n + 3 ≤ N) (hN : N ≤ 65536) (hQ : Q (.inl none, ([bO 2 ml n, o1, bB N (va_cpy (fun j => law_s2010.getD j 0) g 0 n 3)], bc, bs, op))) : mj_Mt gT (law_cst xs) gnw (m + 3) y_AbstractStringBuilder_putStringAt [.ref 0, .int (nI n), .ref 2010] ([bO 2 ml n, o1, bB N g], bc, bs, op) Q := by
  intro J hJ
  refine hJ _ _ _ _ ?_
  refine j_infl2010 ?_
  refine j_gb2010_2 h hN ?_
  exact hQ
theorem j_asb_appendS2010 (hn : n ≤ N) (hN : N ≤ 65536) (hq : n + 3 ≤ 900) (hf : sb_Fit g) (hb : 2 * (n + 3) ≤ bs) (h1 : n + 3 ≤ N → Q (.inl (some (.ref 0)), ([bO 1 ml (n + 3), bB N (va_cpy (fun j => law_s2010.getD j 0) g 0 n 3)], bc + 1, bs, true))) (h2 : N < n + 3 → sb_cap (n + 3) N ≤ 2 * (n + 3) → Q (.inl (some (.ref 0)), ([bO 2 ml (n + 3), bB N g, bB (sb_cap (n + 3) N) (va_cpy (fun j => law_s2010.getD j 0) (va_cpy g (fun _ => 0) 0 0 N) 0 n 3)], bc, bs - sb_cap (n + 3) N, true))) : mj_Mt gT (law_cst xs) gnw (m + 4) y_AbstractStringBuilder_append_S [.ref 0, .ref 2010] ([bO 1 ml n, bB N g], bc + 1, bs, true) Q := by
  have ea : nI n + nI 3 = nI (n + 3) := nI_add n 3
  intro J hJ
  refine hJ _ _ _ _ ?_
  refine j_slen2010 ?_
  refine j_ensure (q := n + 3) ea hq hN hf hb (fun hl => ?_) (fun hl hk => ?_)
  · have hcg := sb_cap_ge (n + 3) N
    refine j_pa2010_1 (by omega) (by omega) ?_
    have key : ∀ (z : Int32), z = nI (n + 3) → Q (.inl (some (.ref 0)), ([.inr (.inl (9, [.ref 1, .int 0, .int ml, .int z])), bB N (va_cpy (fun j => law_s2010.getD j 0) g 0 n 3)], bc + 1, bs, true)) := by
      rintro z rfl
      exact h1 hl
    exact key _ ea
  · have hcg := sb_cap_ge (n + 3) N
    refine j_pa2010_2 (by omega) (by omega) ?_
    have key : ∀ (z : Int32), z = nI (n + 3) → Q (.inl (some (.ref 0)), ([.inr (.inl (9, [.ref 2, .int 0, .int ml, .int z])), bB N g, bB (sb_cap (n + 3) N) (va_cpy (fun j => law_s2010.getD j 0) (va_cpy g (fun _ => 0) 0 0 N) 0 n 3)], bc, bs - sb_cap (n + 3) N, true)) := by
      rintro z rfl
      exact h2 hl hk
    exact key _ ea
theorem j_appendS2010 (hn : n ≤ N) (hN : N ≤ 65536) (hq : n + 3 ≤ 900) (hf : sb_Fit g) (hb : 2 * (n + 3) ≤ bs) (h1 : n + 3 ≤ N → Q (.inl (some (.ref 0)), ([bO 1 ml (n + 3), bB N (va_cpy (fun j => law_s2010.getD j 0) g 0 n 3)], bc + 1, bs, true))) (h2 : N < n + 3 → sb_cap (n + 3) N ≤ 2 * (n + 3) → Q (.inl (some (.ref 0)), ([bO 2 ml (n + 3), bB N g, bB (sb_cap (n + 3) N) (va_cpy (fun j => law_s2010.getD j 0) (va_cpy g (fun _ => 0) 0 0 N) 0 n 3)], bc, bs - sb_cap (n + 3) N, true))) : mj_Mt gT (law_cst xs) gnw (m + 5) y_StringBuilder_append_S [.ref 0, .ref 2010] ([bO 1 ml n, bB N g], bc + 1, bs, true) Q := by
  intro J hJ
  refine hJ _ _ _ _ ?_
  refine j_asb_appendS2010 hn hN hq hf hb (fun hl => ?_) (fun hl hk => ?_)
  · exact h1 hl
  · exact h2 hl hk
def stx2011 : Nat → Nat := fun i => ([40, 41] : List Nat).getD i 0
theorem j_lat2011 : ∀ i, i < 2 → stx2011 i < 256 ∧ law_s2011.getD i 0 = sb_b (stx2011 i) := by decide +kernel
theorem j_fit2011 : sb_Fit (fun j => law_s2011.getD j 0) := fun j => by
  match j with
  | 0 => decide
  | 1 => decide
  | j + 2 => exact (by decide : fits .byte (.int 0) = true)
theorem j_coder2011 (hQ : Q (.inl (some (.int 0)), (os, bc, bs, op))) : mj_Mt gT (law_cst xs) gnw (m + 1) y_String_coder [.ref 2011] (os, bc, bs, op) Q := by
  intro J hJ
  refine hJ _ _ _ _ ?_
  refine And.intro (fun h => absurd h (by decide)) (fun _ => ?_)
  exact And.intro (by decide) hQ
theorem j_slen2011 (hQ : Q (.inl (some (.int (nI 2))), (os, bc, bs, op))) : mj_Mt gT (law_cst xs) gnw (m + 2) y_String_length [.ref 2011] (os, bc, bs, op) Q := by
  intro J hJ
  refine hJ _ _ _ _ ?_
  refine j_coder2011 ?_
  rw [← sb_shr0 (nI 2)] at hQ
  exact hQ
theorem j_infl2011 {j : Nat} (hQ : Q (.inl none, (bO j ml n :: os, bc, bs, op))) : mj_Mt gT (law_cst xs) gnw (m + 2) y_AbstractStringBuilder_inflateIfNeededFor [.ref 0, .ref 2011] (bO j ml n :: os, bc, bs, op) Q := by
  intro J hJ
  refine hJ _ _ _ _ ?_
  refine And.intro (fun h => absurd h (by decide)) (fun _ => ?_)
  refine j_coder2011 ?_
  refine And.intro (fun _ => ?_) (fun h => absurd rfl h)
  exact hQ
theorem j_gb2011_1 (h : n + 2 ≤ N) (hN : N ≤ 65536) (hQ : Q (.inl none, ([bO 1 ml n, bB N (va_cpy (fun j => law_s2011.getD j 0) g 0 n 2)], bc, bs, op))) : mj_Mt gT (law_cst xs) gnw (m + 2) y_String_getBytes [.ref 2011, .ref 1, .int (nI n), .int 0] ([bO 1 ml n, bB N g], bc, bs, op) Q := by
  have e1 : (nI n <<< ((0 : Int32) &&& 31)).toNatClampNeg = n := by rw [sb_shl0]; exact nI_clamp (by omega)
  have e2 : (Int32.ofNat 2).toNatClampNeg = 2 := by decide
  have e0 : (Int32.ofInt 0).toNatClampNeg = 0 := by decide
  intro J hJ
  refine hJ _ _ _ _ ?_
  refine j_coder2011 ?_
  refine And.intro (fun h => absurd rfl h) (fun _ => ?_)
  refine And.intro (by decide) (And.intro (by decide) (And.intro (by decide) (And.intro (by rw [sb_shl0]; exact nI_pos (by omega)) (And.intro (by decide) (And.intro (by decide) (And.intro (by rw [e1, e2]; omega) (And.intro j_fit2011 ?_)))))))
  have key : ∀ (a b c : Nat), a = 0 → b = n → c = 2 → Q (.inl none, ([bO 1 ml n, bB N (va_cpy (fun j => law_s2011.getD j 0) g a b c)], bc, bs, op)) := by
    rintro a b c rfl rfl rfl
    exact hQ
  exact key _ _ _ e0 e1 e2
theorem j_pa2011_1 (h : n + 2 ≤ N) (hN : N ≤ 65536) (hQ : Q (.inl none, ([bO 1 ml n, bB N (va_cpy (fun j => law_s2011.getD j 0) g 0 n 2)], bc, bs, op))) : mj_Mt gT (law_cst xs) gnw (m + 3) y_AbstractStringBuilder_putStringAt [.ref 0, .int (nI n), .ref 2011] ([bO 1 ml n, bB N g], bc, bs, op) Q := by
  intro J hJ
  refine hJ _ _ _ _ ?_
  refine j_infl2011 ?_
  refine j_gb2011_1 h hN ?_
  exact hQ
theorem j_gb2011_2 {o1 : mj_O} (h : n + 2 ≤ N) (hN : N ≤ 65536) (hQ : Q (.inl none, ([bO 2 ml n, o1, bB N (va_cpy (fun j => law_s2011.getD j 0) g 0 n 2)], bc, bs, op))) : mj_Mt gT (law_cst xs) gnw (m + 2) y_String_getBytes [.ref 2011, .ref 2, .int (nI n), .int 0] ([bO 2 ml n, o1, bB N g], bc, bs, op) Q := by
  have e1 : (nI n <<< ((0 : Int32) &&& 31)).toNatClampNeg = n := by rw [sb_shl0]; exact nI_clamp (by omega)
  have e2 : (Int32.ofNat 2).toNatClampNeg = 2 := by decide
  have e0 : (Int32.ofInt 0).toNatClampNeg = 0 := by decide
  intro J hJ
  refine hJ _ _ _ _ ?_
  refine j_coder2011 ?_
  refine And.intro (fun h => absurd rfl h) (fun _ => ?_)
  refine And.intro (by decide) (And.intro (by decide) (And.intro (by decide) (And.intro (by rw [sb_shl0]; exact nI_pos (by omega)) (And.intro (by decide) (And.intro (by decide) (And.intro (by rw [e1, e2]; omega) (And.intro j_fit2011 ?_)))))))
  have key : ∀ (a b c : Nat), a = 0 → b = n → c = 2 → Q (.inl none, ([bO 2 ml n, o1, bB N (va_cpy (fun j => law_s2011.getD j 0) g a b c)], bc, bs, op)) := by
    rintro a b c rfl rfl rfl
    exact hQ
  exact key _ _ _ e0 e1 e2
theorem j_pa2011_2 {o1 : mj_O} (h : n + 2 ≤ N) (hN : N ≤ 65536) (hQ : Q (.inl none, ([bO 2 ml n, o1, bB N (va_cpy (fun j => law_s2011.getD j 0) g 0 n 2)], bc, bs, op))) : mj_Mt gT (law_cst xs) gnw (m + 3) y_AbstractStringBuilder_putStringAt [.ref 0, .int (nI n), .ref 2011] ([bO 2 ml n, o1, bB N g], bc, bs, op) Q := by
  intro J hJ
  refine hJ _ _ _ _ ?_
  refine j_infl2011 ?_
  refine j_gb2011_2 h hN ?_
  exact hQ
theorem j_asb_appendS2011 (hn : n ≤ N) (hN : N ≤ 65536) (hq : n + 2 ≤ 900) (hf : sb_Fit g) (hb : 2 * (n + 2) ≤ bs) (h1 : n + 2 ≤ N → Q (.inl (some (.ref 0)), ([bO 1 ml (n + 2), bB N (va_cpy (fun j => law_s2011.getD j 0) g 0 n 2)], bc + 1, bs, true))) (h2 : N < n + 2 → sb_cap (n + 2) N ≤ 2 * (n + 2) → Q (.inl (some (.ref 0)), ([bO 2 ml (n + 2), bB N g, bB (sb_cap (n + 2) N) (va_cpy (fun j => law_s2011.getD j 0) (va_cpy g (fun _ => 0) 0 0 N) 0 n 2)], bc, bs - sb_cap (n + 2) N, true))) : mj_Mt gT (law_cst xs) gnw (m + 4) y_AbstractStringBuilder_append_S [.ref 0, .ref 2011] ([bO 1 ml n, bB N g], bc + 1, bs, true) Q := by
  have ea : nI n + nI 2 = nI (n + 2) := nI_add n 2
  intro J hJ
  refine hJ _ _ _ _ ?_
  refine j_slen2011 ?_
  refine j_ensure (q := n + 2) ea hq hN hf hb (fun hl => ?_) (fun hl hk => ?_)
  · have hcg := sb_cap_ge (n + 2) N
    refine j_pa2011_1 (by omega) (by omega) ?_
    have key : ∀ (z : Int32), z = nI (n + 2) → Q (.inl (some (.ref 0)), ([.inr (.inl (9, [.ref 1, .int 0, .int ml, .int z])), bB N (va_cpy (fun j => law_s2011.getD j 0) g 0 n 2)], bc + 1, bs, true)) := by
      rintro z rfl
      exact h1 hl
    exact key _ ea
  · have hcg := sb_cap_ge (n + 2) N
    refine j_pa2011_2 (by omega) (by omega) ?_
    have key : ∀ (z : Int32), z = nI (n + 2) → Q (.inl (some (.ref 0)), ([.inr (.inl (9, [.ref 2, .int 0, .int ml, .int z])), bB N g, bB (sb_cap (n + 2) N) (va_cpy (fun j => law_s2011.getD j 0) (va_cpy g (fun _ => 0) 0 0 N) 0 n 2)], bc, bs - sb_cap (n + 2) N, true)) := by
      rintro z rfl
      exact h2 hl hk
    exact key _ ea
theorem j_appendS2011 (hn : n ≤ N) (hN : N ≤ 65536) (hq : n + 2 ≤ 900) (hf : sb_Fit g) (hb : 2 * (n + 2) ≤ bs) (h1 : n + 2 ≤ N → Q (.inl (some (.ref 0)), ([bO 1 ml (n + 2), bB N (va_cpy (fun j => law_s2011.getD j 0) g 0 n 2)], bc + 1, bs, true))) (h2 : N < n + 2 → sb_cap (n + 2) N ≤ 2 * (n + 2) → Q (.inl (some (.ref 0)), ([bO 2 ml (n + 2), bB N g, bB (sb_cap (n + 2) N) (va_cpy (fun j => law_s2011.getD j 0) (va_cpy g (fun _ => 0) 0 0 N) 0 n 2)], bc, bs - sb_cap (n + 2) N, true))) : mj_Mt gT (law_cst xs) gnw (m + 5) y_StringBuilder_append_S [.ref 0, .ref 2011] ([bO 1 ml n, bB N g], bc + 1, bs, true) Q := by
  intro J hJ
  refine hJ _ _ _ _ ?_
  refine j_asb_appendS2011 hn hN hq hf hb (fun hl => ?_) (fun hl hk => ?_)
  · exact h1 hl
  · exact h2 hl hk
variable {k : Nat → mj_L → List Value → mj_H → Prop} {pc : Nat} {ls : mj_L} {r : List Value} {osx : List mj_O} {a : Nat} {opx : Bool} {f : Nat → Nat}
theorem x_length (hk : k (pc + 1) ls (.int (nI n) :: r) ((mj_stn osx a (.inr (.inr (.inl (n, f))))), bc + 1, bs, false)) : ∀ (ml : Int32) (N : Nat) (g : Nat → Int32), n ≤ N → N ≤ 65536 → sb_Lat f n g → sb_Fit g → mj_Mt gT cst gnw (m + 2) y_StringBuilder_length (.ref 0 :: []) ([.inr (.inl (9, [.ref 1, .int 0, .int ml, .int (nI n)])), .inl (4, N, .inl g)], bc + 1, bs, true) (mj_bp k pc ls r (osx, bc + 1, bs, opx) a) := by
  intro ml N g hn hN hL hf
  refine j_length ?_
  refine Exists.intro 1 (Exists.intro N (Exists.intro g (Exists.intro n (Exists.intro f (Exists.intro ml (And.intro rfl (And.intro rfl (And.intro (by decide) (And.intro (by omega) (And.intro (by omega) (And.intro ?_ (And.intro ?_ ?_))))))))))))
  · exact hL
  · exact hf
  · exact hk
theorem x_charAt {i : Nat} (hi : i < n) (hk : k (pc + 1) ls (.int (nI (f i)) :: r) ((mj_stn osx a (.inr (.inr (.inl (n, f))))), bc + 1, bs, false)) : ∀ (ml : Int32) (N : Nat) (g : Nat → Int32), n ≤ N → N ≤ 65536 → sb_Lat f n g → sb_Fit g → mj_Mt gT cst gnw (m + 4) y_StringBuilder_charAt (.ref 0 :: [.int (nI i)]) ([.inr (.inl (9, [.ref 1, .int 0, .int ml, .int (nI n)])), .inl (4, N, .inl g)], bc + 1, bs, true) (mj_bp k pc ls r (osx, bc + 1, bs, opx) a) := by
  intro ml N g hn hN hL hf
  refine j_charAt hn hN hL hi ?_
  refine Exists.intro 1 (Exists.intro N (Exists.intro g (Exists.intro n (Exists.intro f (Exists.intro ml (And.intro rfl (And.intro rfl (And.intro (by decide) (And.intro (by omega) (And.intro (by omega) (And.intro ?_ (And.intro ?_ ?_))))))))))))
  · exact hL
  · exact hf
  · exact hk
theorem x_setLength (hk : ∀ f', k (pc + 1) ls r ((mj_stn osx a (.inr (.inr (.inl (0, f'))))), bc + 1, bs, false)) : ∀ (ml : Int32) (N : Nat) (g : Nat → Int32), n ≤ N → N ≤ 65536 → sb_Lat f n g → sb_Fit g → mj_Mt gT cst gnw (m + 5) y_StringBuilder_setLength (.ref 0 :: [.int 0]) ([.inr (.inl (9, [.ref 1, .int 0, .int ml, .int (nI n)])), .inl (4, N, .inl g)], bc + 1, bs, true) (mj_bp k pc ls r (osx, bc + 1, bs, opx) a) := by
  intro ml N g hn hN hL hf
  refine j_setLength hn hN hf (fun ml' => ?_)
  refine Exists.intro 1 (Exists.intro N (Exists.intro g (Exists.intro 0 (Exists.intro f (Exists.intro ml' (And.intro rfl (And.intro rfl (And.intro (by decide) (And.intro (by omega) (And.intro (by omega) (And.intro ?_ (And.intro ?_ ?_))))))))))))
  · exact fun j hj => absurd hj (by omega)
  · exact hf
  · exact hk f
theorem x_appendC {c : Nat} {y : Int32} (hy : y = nI c) (hc : c < 256) (hq : n + 1 ≤ 900) (hb : 2 * (n + 1) ≤ bs) (hk : ∀ b0 b1, bc ≤ b0 → bs ≤ b1 + 2 * (n + 1) → k (pc + 1) ls (.ref a :: r) ((mj_stn osx a (.inr (.inr (.inl (n + 1, sb_cat f n (fun _ => c)))))), b0, b1, false)) : ∀ (ml : Int32) (N : Nat) (g : Nat → Int32), n ≤ N → N ≤ 65536 → sb_Lat f n g → sb_Fit g → mj_Mt gT cst gnw (m + 5) y_StringBuilder_append_C (.ref 0 :: [.int y]) ([.inr (.inl (9, [.ref 1, .int 0, .int ml, .int (nI n)])), .inl (4, N, .inl g)], bc + 1, bs, true) (mj_bp k pc ls r (osx, bc + 1, bs, opx) a) := by
  subst hy
  intro ml N g hn hN hL hf
  refine j_appendC hc hn hN hq hf hb (fun hl => ?_) (fun hl h9 => ?_)
  · refine Exists.intro 1 (Exists.intro N (Exists.intro (upd g n (sb_b c)) (Exists.intro (n + 1) (Exists.intro (sb_cat f n (fun _ => c)) (Exists.intro ml (And.intro rfl (And.intro rfl (And.intro (by decide) (And.intro (by omega) (And.intro (by omega) (And.intro ?_ (And.intro ?_ ?_))))))))))))
    · refine sb_latPut hL (fun j hj => pk_un (by omega)) (fun i hi => ?_)
      obtain rfl : i = 0 := by omega
      exact ⟨hc, pk_us⟩
    · exact sb_fitU hf (sb_fitB _)
    · exact hk _ _ (by omega) (by omega)
  · have hcg := sb_cap_ge (n + 1) N
    refine Exists.intro 2 (Exists.intro (sb_cap (n + 1) N) (Exists.intro (upd (va_cpy g (fun _ => 0) 0 0 N) n (sb_b c)) (Exists.intro (n + 1) (Exists.intro (sb_cat f n (fun _ => c)) (Exists.intro ml (And.intro rfl (And.intro rfl (And.intro (by decide) (And.intro (by omega) (And.intro (by omega) (And.intro ?_ (And.intro ?_ ?_))))))))))))
    · refine sb_latPut hL (fun j hj => by rw [pk_un (by omega), sb_cpy0 (by omega)]) (fun i hi => ?_)
      obtain rfl : i = 0 := by omega
      exact ⟨hc, pk_us⟩
    · exact sb_fitU (sb_fitC hf sb_fit0) (sb_fitB _)
    · exact hk _ _ (by omega) (by omega)
theorem ich_lt (x : Int32) (i : Nat) : ich x i < 256 := by
  unfold ich sb_dec
  split
  · split
    · decide
    · omega
  · omega
theorem x_appendI {x : Int32} (hq : n + isz x ≤ 900) (hb : 2 * (n + isz x) ≤ bs) (hk : ∀ b0 b1, bc ≤ b0 → bs ≤ b1 + 2 * (n + isz x) → k (pc + 1) ls (.ref a :: r) ((mj_stn osx a (.inr (.inr (.inl (n + isz x, sb_cat f n (ich x)))))), b0, b1, false)) : ∀ (ml : Int32) (N : Nat) (g : Nat → Int32), n ≤ N → N ≤ 65536 → sb_Lat f n g → sb_Fit g → mj_Mt gT (law_cst xs) gnw (m + 5) y_StringBuilder_append_I (.ref 0 :: [.int x]) ([.inr (.inl (9, [.ref 1, .int 0, .int ml, .int (nI n)])), .inl (4, N, .inl g)], bc + 1, bs, true) (mj_bp k pc ls r (osx, bc + 1, bs, opx) a) := by
  intro ml N g hn hN hL hf
  refine j_appendI hn hN hq hf hb (fun hl g' q1 q2 q3 => ?_) (fun hl h9 g' q1 q2 q3 => ?_)
  · refine Exists.intro 1 (Exists.intro N (Exists.intro g' (Exists.intro (n + isz x) (Exists.intro (sb_cat f n (ich x)) (Exists.intro ml (And.intro rfl (And.intro rfl (And.intro (by decide) (And.intro (by omega) (And.intro (by omega) (And.intro ?_ (And.intro ?_ ?_))))))))))))
    · exact sb_latPut hL q1 (fun i hi => ⟨ich_lt x i, q2 i hi⟩)
    · exact q3
    · exact hk _ _ (by omega) (by omega)
  · have hcg := sb_cap_ge (n + isz x) N
    refine Exists.intro 2 (Exists.intro (sb_cap (n + isz x) N) (Exists.intro g' (Exists.intro (n + isz x) (Exists.intro (sb_cat f n (ich x)) (Exists.intro ml (And.intro rfl (And.intro rfl (And.intro (by decide) (And.intro (by omega) (And.intro (by omega) (And.intro ?_ (And.intro ?_ ?_))))))))))))
    · exact sb_latPut hL q1 (fun i hi => ⟨ich_lt x i, q2 i hi⟩)
    · exact q3
    · exact hk _ _ (by omega) (by omega)
theorem x_appendS2010 (hq : n + 3 ≤ 900) (hb : 2 * (n + 3) ≤ bs) (hk : ∀ b0 b1, bc ≤ b0 → bs ≤ b1 + 2 * (n + 3) → k (pc + 1) ls (.ref a :: r) ((mj_stn osx a (.inr (.inr (.inl (n + 3, sb_cat f n stx2010))))), b0, b1, false)) : ∀ (ml : Int32) (N : Nat) (g : Nat → Int32), n ≤ N → N ≤ 65536 → sb_Lat f n g → sb_Fit g → mj_Mt gT (law_cst xs) gnw (m + 5) y_StringBuilder_append_S (.ref 0 :: [.ref 2010]) ([.inr (.inl (9, [.ref 1, .int 0, .int ml, .int (nI n)])), .inl (4, N, .inl g)], bc + 1, bs, true) (mj_bp k pc ls r (osx, bc + 1, bs, opx) a) := by
  intro ml N g hn hN hL hf
  refine j_appendS2010 hn hN hq hf hb (fun hl => ?_) (fun hl h9 => ?_)
  · refine Exists.intro 1 (Exists.intro N (Exists.intro (va_cpy (fun j => law_s2010.getD j 0) g 0 n 3) (Exists.intro (n + 3) (Exists.intro (sb_cat f n stx2010) (Exists.intro ml (And.intro rfl (And.intro rfl (And.intro (by decide) (And.intro (by omega) (And.intro (by omega) (And.intro ?_ (And.intro ?_ ?_))))))))))))
    · refine sb_latPut hL (fun j hj => pk_cpy_out (Or.inl hj)) (fun i hi => ⟨(j_lat2010 i hi).1, ?_⟩)
      rw [pk_cpy_in (by omega) (by omega), show 0 + (n + i - n) = i by omega]
      exact (j_lat2010 i hi).2
    · exact sb_fitC j_fit2010 hf
    · exact hk _ _ (by omega) (by omega)
  · have hcg := sb_cap_ge (n + 3) N
    refine Exists.intro 2 (Exists.intro (sb_cap (n + 3) N) (Exists.intro (va_cpy (fun j => law_s2010.getD j 0) (va_cpy g (fun _ => 0) 0 0 N) 0 n 3) (Exists.intro (n + 3) (Exists.intro (sb_cat f n stx2010) (Exists.intro ml (And.intro rfl (And.intro rfl (And.intro (by decide) (And.intro (by omega) (And.intro (by omega) (And.intro ?_ (And.intro ?_ ?_))))))))))))
    · refine sb_latPut hL (fun j hj => by rw [pk_cpy_out (Or.inl hj), sb_cpy0 (by omega)]) (fun i hi => ⟨(j_lat2010 i hi).1, ?_⟩)
      rw [pk_cpy_in (by omega) (by omega), show 0 + (n + i - n) = i by omega]
      exact (j_lat2010 i hi).2
    · exact sb_fitC j_fit2010 (sb_fitC hf sb_fit0)
    · exact hk _ _ (by omega) (by omega)
theorem x_appendS2011 (hq : n + 2 ≤ 900) (hb : 2 * (n + 2) ≤ bs) (hk : ∀ b0 b1, bc ≤ b0 → bs ≤ b1 + 2 * (n + 2) → k (pc + 1) ls (.ref a :: r) ((mj_stn osx a (.inr (.inr (.inl (n + 2, sb_cat f n stx2011))))), b0, b1, false)) : ∀ (ml : Int32) (N : Nat) (g : Nat → Int32), n ≤ N → N ≤ 65536 → sb_Lat f n g → sb_Fit g → mj_Mt gT (law_cst xs) gnw (m + 5) y_StringBuilder_append_S (.ref 0 :: [.ref 2011]) ([.inr (.inl (9, [.ref 1, .int 0, .int ml, .int (nI n)])), .inl (4, N, .inl g)], bc + 1, bs, true) (mj_bp k pc ls r (osx, bc + 1, bs, opx) a) := by
  intro ml N g hn hN hL hf
  refine j_appendS2011 hn hN hq hf hb (fun hl => ?_) (fun hl h9 => ?_)
  · refine Exists.intro 1 (Exists.intro N (Exists.intro (va_cpy (fun j => law_s2011.getD j 0) g 0 n 2) (Exists.intro (n + 2) (Exists.intro (sb_cat f n stx2011) (Exists.intro ml (And.intro rfl (And.intro rfl (And.intro (by decide) (And.intro (by omega) (And.intro (by omega) (And.intro ?_ (And.intro ?_ ?_))))))))))))
    · refine sb_latPut hL (fun j hj => pk_cpy_out (Or.inl hj)) (fun i hi => ⟨(j_lat2011 i hi).1, ?_⟩)
      rw [pk_cpy_in (by omega) (by omega), show 0 + (n + i - n) = i by omega]
      exact (j_lat2011 i hi).2
    · exact sb_fitC j_fit2011 hf
    · exact hk _ _ (by omega) (by omega)
  · have hcg := sb_cap_ge (n + 2) N
    refine Exists.intro 2 (Exists.intro (sb_cap (n + 2) N) (Exists.intro (va_cpy (fun j => law_s2011.getD j 0) (va_cpy g (fun _ => 0) 0 0 N) 0 n 2) (Exists.intro (n + 2) (Exists.intro (sb_cat f n stx2011) (Exists.intro ml (And.intro rfl (And.intro rfl (And.intro (by decide) (And.intro (by omega) (And.intro (by omega) (And.intro ?_ (And.intro ?_ ?_))))))))))))
    · refine sb_latPut hL (fun j hj => by rw [pk_cpy_out (Or.inl hj), sb_cpy0 (by omega)]) (fun i hi => ⟨(j_lat2011 i hi).1, ?_⟩)
      rw [pk_cpy_in (by omega) (by omega), show 0 + (n + i - n) = i by omega]
      exact (j_lat2011 i hi).2
    · exact sb_fitC j_fit2011 (sb_fitC hf sb_fit0)
    · exact hk _ _ (by omega) (by omega)
end J3
end
section
abbrev Vl : Type := Unit ⊕ Int32 ⊕ Int32 ⊕ Nat ⊕ Nat
abbrev vNil : Vl := .inl ()
abbrev vInt (x : Int32) : Vl := .inr (.inl x)
abbrev vSym (x : Int32) : Vl := .inr (.inr (.inl x))
abbrev vPr (a : Nat) : Vl := .inr (.inr (.inr (.inl a)))
abbrev vFn (a : Nat) : Vl := .inr (.inr (.inr (.inr a)))
def eK (k : Nat) (x : Int32) : Int64 := Int64.ofNat (k * 4294967296) ||| (x.toInt64 &&& Int64.ofNat 4294967295)
def encV : Vl → Int64
  | .inl _ => 0
  | .inr (.inl x) => eK 1 x
  | .inr (.inr (.inl x)) => eK 2 x
  | .inr (.inr (.inr (.inl a))) => eK 3 (nI a)
  | .inr (.inr (.inr (.inr a))) => eK 4 (nI a)
theorem eK_nat (k : Nat) (hk : k ≤ 4) (x : Int32) : (eK k x).toBitVec.toNat = k * 4294967296 + x.toBitVec.toNat := by
  unfold eK
  have hx : x.toBitVec.toNat < 2 ^ 32 := x.toBitVec.isLt
  have hz : x.toBitVec.signExtend 64 &&& 4294967295#64 = x.toBitVec.setWidth 64 := by
    apply BitVec.eq_of_getLsbD_eq
    intro i hi
    have hm : (4294967295#64).getLsbD i = decide (i < 32) := by
      rw [BitVec.getLsbD_ofNat]
      rw [show (4294967295 : Nat) = 2 ^ 32 - 1 by decide, Nat.testBit_two_pow_sub_one]
      simp [hi]
    rw [BitVec.getLsbD_and, hm, BitVec.getLsbD_signExtend, BitVec.getLsbD_setWidth]
    by_cases h : i < 32
    · simp [h, hi]
    · simp [h, hi, BitVec.getLsbD_of_ge x.toBitVec i (by omega)]
  have e : (Int64.ofNat (k * 4294967296) ||| (x.toInt64 &&& Int64.ofNat 4294967295)).toBitVec = BitVec.ofNat 64 (k * 4294967296) ||| x.toBitVec.setWidth 64 := by
    rw [← hz]
    rfl
  rw [e, BitVec.toNat_or, BitVec.toNat_ofNat, BitVec.toNat_setWidth, Nat.mod_eq_of_lt (by omega : k * 4294967296 < 2 ^ 64), Nat.mod_eq_of_lt (by omega : x.toBitVec.toNat < 2 ^ 64)]
  rw [show k * 4294967296 = 2 ^ 32 * k by omega]
  exact (Nat.two_pow_add_eq_or_of_lt hx k).symm
theorem i64_ext {a b : Int64} (h : a.toBitVec.toNat = b.toBitVec.toNat) : a = b := Int64.toBitVec_inj.mp (BitVec.eq_of_toNat_eq h)
theorem i32_ext {a b : Int32} (h : a.toBitVec.toNat = b.toBitVec.toNat) : a = b := Int32.toBitVec_inj.mp (BitVec.eq_of_toNat_eq h)
theorem eK_shr (k : Nat) (hk : k ≤ 4) (x : Int32) : (eK k x) >>> ((Int32.ofInt 32).toInt64 &&& 63) = Int64.ofNat k := by
  have hn := eK_nat k hk x
  have hx : x.toBitVec.toNat < 2 ^ 32 := x.toBitVec.isLt
  have e1 : ((eK k x) >>> ((Int32.ofInt 32).toInt64 &&& 63)).toBitVec = (eK k x).toBitVec.sshiftRight 32 := by
    have : (Int32.ofInt 32).toInt64 &&& 63 = 32 := by decide
    rw [this, Int64.toBitVec_shiftRight]
    rfl
  apply i64_ext
  rw [e1, BitVec.sshiftRight_eq_of_msb_false, BitVec.toNat_ushiftRight, hn]
  · rw [Nat.shiftRight_eq_div_pow, show k * 4294967296 + x.toBitVec.toNat = x.toBitVec.toNat + 2 ^ 32 * k by omega, Nat.add_mul_div_left _ _ (by decide), Nat.div_eq_of_lt hx]
    show 0 + k = k % 2 ^ 64
    omega
  · rw [BitVec.msb_eq_false_iff_two_mul_lt, hn]
    omega
theorem eK_int (k : Nat) (hk : k ≤ 4) (x : Int32) : (eK k x).toInt32 = x := by
  have hn := eK_nat k hk x
  have hx : x.toBitVec.toNat < 2 ^ 32 := x.toBitVec.isLt
  apply i32_ext
  have e1 : (eK k x).toInt32.toBitVec = (eK k x).toBitVec.setWidth 32 := by
    rw [Int64.toBitVec_toInt32, BitVec.signExtend_eq_setWidth_of_le _ (by decide)]
  rw [e1, BitVec.toNat_setWidth, hn]
  omega
theorem eK_ne {j k : Nat} (hj : j ≤ 4) (hk : k ≤ 4) {x y : Int32} (h : eK j x = eK k y) : j = k ∧ x = y := by
  have h1 := eK_nat j hj x
  have h2 := eK_nat k hk y
  have hx : x.toBitVec.toNat < 2 ^ 32 := x.toBitVec.isLt
  have hy : y.toBitVec.toNat < 2 ^ 32 := y.toBitVec.isLt
  rw [h, h2] at h1
  exact ⟨by omega, i32_ext (by omega)⟩
def kV : Vl → Nat
  | .inl _ => 0
  | .inr (.inl _) => 1
  | .inr (.inr (.inl _)) => 2
  | .inr (.inr (.inr (.inl _))) => 3
  | .inr (.inr (.inr (.inr _))) => 4
theorem encV_shr (v : Vl) : encV v >>> ((Int32.ofInt 32).toInt64 &&& 63) = Int64.ofNat (kV v) := by
  rcases v with u | x | x | x | x
  · exact (by decide : (0 : Int64) >>> ((Int32.ofInt 32).toInt64 &&& 63) = Int64.ofNat 0)
  · exact eK_shr 1 (by decide) x
  · exact eK_shr 2 (by decide) x
  · exact eK_shr 3 (by decide) (nI x)
  · exact eK_shr 4 (by decide) (nI x)
theorem kV_le (v : Vl) : kV v ≤ 4 := by rcases v with u | x | x | x | x <;> simp [kV]
def cV : Vl → Int32
  | .inr (.inr (.inr (.inl a))) => nI a
  | .inr (.inr (.inr (.inr a))) => nI a
  | _ => -1
section P2a
variable {cst : Nat → Option (Nat × (Nat → Int32))} {m : Nat} {Q : mj_R → Prop} {h : mj_H}
set_option maxRecDepth 10000
theorem v_number {x : Int32} (hQ : Q (.inl (some (.long (encV (vInt x)))), h)) : mj_Mt gT cst gnw (m + 1) y_Value_number [.int x] h Q := by
  intro J hJ
  refine hJ _ _ _ _ ?_
  exact hQ
theorem v_symbol {x : Int32} (hQ : Q (.inl (some (.long (encV (vSym x)))), h)) : mj_Mt gT cst gnw (m + 1) y_Value_symbol [.int x] h Q := by
  intro J hJ
  refine hJ _ _ _ _ ?_
  exact hQ
theorem v_pair {a : Nat} (hQ : Q (.inl (some (.long (encV (vPr a)))), h)) : mj_Mt gT cst gnw (m + 1) y_Value_pair [.int (nI a)] h Q := by
  intro J hJ
  refine hJ _ _ _ _ ?_
  exact hQ
theorem v_function {a : Nat} (hQ : Q (.inl (some (.long (encV (vFn a)))), h)) : mj_Mt gT cst gnw (m + 1) y_Value_function [.int (nI a)] h Q := by
  intro J hJ
  refine hJ _ _ _ _ ?_
  exact hQ
theorem lg0 {j k : Nat} (hj : j ≤ 4) (hk : k ≤ 4) : (¬ lg_cmp (Int64.ofNat j) (Int64.ofNat k) = 0) ↔ ¬ j = k := by
  match j, k, hj, hk with
  | 0, 0, _, _ | 0, 1, _, _ | 0, 2, _, _ | 0, 3, _, _ | 0, 4, _, _
  | 1, 0, _, _ | 1, 1, _, _ | 1, 2, _, _ | 1, 3, _, _ | 1, 4, _, _
  | 2, 0, _, _ | 2, 1, _, _ | 2, 2, _, _ | 2, 3, _, _ | 2, 4, _, _
  | 3, 0, _, _ | 3, 1, _, _ | 3, 2, _, _ | 3, 3, _, _ | 3, 4, _, _
  | 4, 0, _, _ | 4, 1, _, _ | 4, 2, _, _ | 4, 3, _, _ | 4, 4, _, _ => decide
theorem lg3 {j : Nat} (hj : j ≤ 4) : lg_cmp (Int64.ofNat j) (Int64.ofNat 3) < 0 ↔ j < 3 := by
  match j, hj with
  | 0, _ | 1, _ | 2, _ | 3, _ | 4, _ => decide
def bJ (b : Bool) : Int32 := if b then 1 else 0
theorem v_is (k y : Nat) (hk : k ≤ 4) (hy : (y = y_Value_isNumber ∧ k = 1) ∨ (y = y_Value_isSymbol ∧ k = 2) ∨ (y = y_Value_isPair ∧ k = 3) ∨ (y = y_Value_isFunction ∧ k = 4)) {v : Vl} (hQ : Q (.inl (some (.int (bJ (kV v == k)))), h)) : mj_Mt gT cst gnw (m + 1) y [.long (encV v)] h Q := by
  have hb : ∀ b : Bool, (kV v == k) = b → Q (.inl (some (.int (bJ b))), h) := by
    rintro b rfl
    exact hQ
  have key : ∀ x : Int64, x = Int64.ofNat (kV v) → (¬ lg_cmp x (Int64.ofNat k) = 0 → (0 : Int32) = 0 ∨ (0 : Int32) = 1) := fun _ _ _ => Or.inl rfl
  have e := encV_shr v
  have hl := lg0 (kV_le v) hk
  rcases hy with ⟨rfl, rfl⟩ | ⟨rfl, rfl⟩ | ⟨rfl, rfl⟩ | ⟨rfl, rfl⟩ <;>
  · intro J hJ
    refine hJ _ _ _ _ ?_
    refine And.intro (fun g => ?_) (fun g => ?_)
    · rw [e] at g
      exact And.intro (Or.inl rfl) (hb false (by simpa using hl.mp g))
    · rw [e] at g
      exact And.intro (Or.inr rfl) (hb true (by simpa using fun q => (hl.mpr q) g))
theorem v_isNumber {v : Vl} (hQ : Q (.inl (some (.int (bJ (kV v == 1)))), h)) : mj_Mt gT cst gnw (m + 1) y_Value_isNumber [.long (encV v)] h Q := v_is 1 _ (by decide) (Or.inl ⟨rfl, rfl⟩) hQ
theorem v_isSymbol {v : Vl} (hQ : Q (.inl (some (.int (bJ (kV v == 2)))), h)) : mj_Mt gT cst gnw (m + 1) y_Value_isSymbol [.long (encV v)] h Q := v_is 2 _ (by decide) (Or.inr (Or.inl ⟨rfl, rfl⟩)) hQ
theorem v_isPair {v : Vl} (hQ : Q (.inl (some (.int (bJ (kV v == 3)))), h)) : mj_Mt gT cst gnw (m + 1) y_Value_isPair [.long (encV v)] h Q := v_is 3 _ (by decide) (Or.inr (Or.inr (Or.inl ⟨rfl, rfl⟩))) hQ
theorem v_isFunction {v : Vl} (hQ : Q (.inl (some (.int (bJ (kV v == 4)))), h)) : mj_Mt gT cst gnw (m + 1) y_Value_isFunction [.long (encV v)] h Q := v_is 4 _ (by decide) (Or.inr (Or.inr (Or.inr ⟨rfl, rfl⟩))) hQ
theorem v_cell {v : Vl} (hQ : Q (.inl (some (.int (cV v))), h)) : mj_Mt gT cst gnw (m + 1) y_Value_cell [.long (encV v)] h Q := by
  have e := encV_shr v
  intro J hJ
  refine hJ _ _ _ _ ?_
  refine And.intro (fun g => ?_) (fun g => ?_)
  · rw [e] at g
    have h3 := (lg3 (kV_le v)).mp g
    rcases v with u | x | x | x | x
    · exact hQ
    · exact hQ
    · exact hQ
    · exact absurd h3 (by simp [kV])
    · exact absurd h3 (by simp [kV])
  · rw [e] at g
    have h3 : ¬ kV v < 3 := fun q => g ((lg3 (kV_le v)).mpr q)
    have key : ∀ x : Int32, x = cV v → Q (.inl (some (.int x)), h) := by
      rintro x rfl
      exact hQ
    rcases v with u | x | x | x | x
    · exact absurd (by simp [kV]) h3
    · exact absurd (by simp [kV]) h3
    · exact absurd (by simp [kV]) h3
    · exact key _ (eK_int 3 (by decide) (nI x))
    · exact key _ (eK_int 4 (by decide) (nI x))
theorem v_content {x : Int64} (hQ : Q (.inl (some (.int x.toInt32)), h)) : mj_Mt gT cst gnw (m + 1) y_Value_content [.long x] h Q := by
  intro J hJ
  refine hJ _ _ _ _ ?_
  exact hQ
end P2a
end
section
def upW {α : Type} (g : Nat → α) (k : Nat) (x : α) : Nat → α := fun j => if j = k then x else g j
abbrev eH (g : Nat → Vl) : Nat → Int64 := fun i => encV (g i)
abbrev eN (g : Nat → Nat) : Nat → Int32 := fun i => nI (g i)
def sW (o0 o1 o2 o3 o4 o5 o6 o7 o8 o9 o10 o11 o12 o13 o14 o15 o16 : mj_O) (z : Nat) (H T : Nat → Int64) (fr mk rc : Nat → Int32) (fN rN cN : Int32) (tl : List mj_O) : List mj_O :=
  o0 :: o1 :: o2 :: o3 :: o4 :: o5 :: o6 :: o7 :: o8 :: o9 :: o10 :: o11 :: o12 :: o13 :: o14 :: o15 :: o16 :: oF 7 [.int (nI z), .ref 18, .ref 19, .ref 20, .ref 21, .ref 22, .int fN, .int rN, .int cN] :: oJ z H :: oJ z T :: oI z fr :: oZ z mk :: oI z rc :: tl
def ofV (g : Nat → Vl) : Vl → Vl
  | .inr (.inr (.inr (.inl i))) => g i
  | .inr (.inr (.inr (.inr i))) => g i
  | _ => vNil
def okV (z : Nat) : Vl → Prop
  | .inr (.inr (.inr (.inl i))) => i < z
  | .inr (.inr (.inr (.inr i))) => i < z
  | .inr (.inr (.inl x)) => ∃ c : Nat, c < 256 ∧ x = nI c
  | _ => True
theorem updL_enc (g : Nat → Vl) (k : Nat) (v : Vl) : vp_updL (eH g) k (encV v) = eH (upW g k v) := by
  funext j
  show (if j = k then encV v else encV (g j)) = encV (if j = k then v else g j)
  split <;> rfl
theorem upd_nI (g : Nat → Nat) (k x : Nat) : upd (eN g) k (nI x) = eN (upW g k x) := by
  funext j
  show (if j = k then nI x else nI (g j)) = nI (if j = k then x else g j)
  split <;> rfl
theorem cV_cases (z : Nat) (v : Vl) (hv : okV z v) : (cV v = -1 ∧ ∀ g, ofV g v = vNil) ∨ ∃ i, i < z ∧ cV v = nI i ∧ ∀ g, ofV g v = g i := by
  rcases v with u | x | x | i | i
  · exact Or.inl ⟨rfl, fun _ => rfl⟩
  · exact Or.inl ⟨rfl, fun _ => rfl⟩
  · exact Or.inl ⟨rfl, fun _ => rfl⟩
  · exact Or.inr ⟨i, hv, rfl, fun _ => rfl⟩
  · exact Or.inr ⟨i, hv, rfl, fun _ => rfl⟩
section P2b
variable {cst : Nat → Option (Nat × (Nat → Int32))} {m b0 b1 : Nat} {op : Bool} {tl : List mj_O} {Q : mj_R → Prop}
variable {o0 o1 o2 o3 o4 o5 o6 o7 o8 o9 o10 o11 o12 o13 o14 o15 o16 : mj_O} {z : Nat} {H T : Nat → Vl} {hR tR : Nat → Int64} {fr : Nat → Nat} {frR mk rc : Nat → Int32} {f : Nat} {fN rN cN : Int32}
set_option maxRecDepth 10000
theorem s_head {v : Vl} (hz : z ≤ 250) (hv : okV z v) (hQ : Q (.inl (some (.long (encV (ofV H v)))), (sW o0 o1 o2 o3 o4 o5 o6 o7 o8 o9 o10 o11 o12 o13 o14 o15 o16 z (eH H) tR frR mk rc fN rN cN tl, b0, b1, op))) : mj_Mt gT cst gnw (m + 2) y_Store_head [.ref 17, .long (encV v)] (sW o0 o1 o2 o3 o4 o5 o6 o7 o8 o9 o10 o11 o12 o13 o14 o15 o16 z (eH H) tR frR mk rc fN rN cN tl, b0, b1, op) Q := by
  intro J hJ
  refine hJ _ _ _ _ ?_
  refine v_cell ?_
  rcases cV_cases z v hv with ⟨e, e2⟩ | ⟨i, hi, e, e2⟩
  · rw [e]
    rw [e2] at hQ
    exact And.intro (fun _ => hQ) (fun g => absurd (by decide) g)
  · rw [e]
    rw [e2] at hQ
    refine And.intro (fun (g : nI i < 0) => absurd g (nI_pos (by omega))) (fun _ => ?_)
    refine And.intro (fun (g : nI z ≤ nI i) => absurd g (nI_ge hi (by omega))) (fun _ => ?_)
    refine And.intro (vp_in_nI hi (by omega)) ?_
    have key : ∀ j, j = i → Q (.inl (some (.long (encV (H j)))), (sW o0 o1 o2 o3 o4 o5 o6 o7 o8 o9 o10 o11 o12 o13 o14 o15 o16 z (eH H) tR frR mk rc fN rN cN tl, b0, b1, op)) := by
      rintro j rfl
      exact hQ
    exact key _ (nI_clamp (by omega))
theorem s_tail {v : Vl} (hz : z ≤ 250) (hv : okV z v) (hQ : Q (.inl (some (.long (encV (ofV T v)))), (sW o0 o1 o2 o3 o4 o5 o6 o7 o8 o9 o10 o11 o12 o13 o14 o15 o16 z hR (eH T) frR mk rc fN rN cN tl, b0, b1, op))) : mj_Mt gT cst gnw (m + 2) y_Store_tail [.ref 17, .long (encV v)] (sW o0 o1 o2 o3 o4 o5 o6 o7 o8 o9 o10 o11 o12 o13 o14 o15 o16 z hR (eH T) frR mk rc fN rN cN tl, b0, b1, op) Q := by
  intro J hJ
  refine hJ _ _ _ _ ?_
  refine v_cell ?_
  rcases cV_cases z v hv with ⟨e, e2⟩ | ⟨i, hi, e, e2⟩
  · rw [e]
    rw [e2] at hQ
    exact And.intro (fun _ => hQ) (fun g => absurd (by decide) g)
  · rw [e]
    rw [e2] at hQ
    refine And.intro (fun (g : nI i < 0) => absurd g (nI_pos (by omega))) (fun _ => ?_)
    refine And.intro (fun (g : nI z ≤ nI i) => absurd g (nI_ge hi (by omega))) (fun _ => ?_)
    refine And.intro (vp_in_nI hi (by omega)) ?_
    have key : ∀ j, j = i → Q (.inl (some (.long (encV (T j)))), (sW o0 o1 o2 o3 o4 o5 o6 o7 o8 o9 o10 o11 o12 o13 o14 o15 o16 z hR (eH T) frR mk rc fN rN cN tl, b0, b1, op)) := by
      rintro j rfl
      exact hQ
    exact key _ (nI_clamp (by omega))
theorem s_setHead {v x : Vl} (hz : z ≤ 250) (hv : okV z v) (hQ : ∀ i, cV v = nI i → i < z → Q (.inl none, (sW o0 o1 o2 o3 o4 o5 o6 o7 o8 o9 o10 o11 o12 o13 o14 o15 o16 z (eH (upW H i x)) tR frR mk rc fN rN cN tl, b0, b1, op))) (h0 : cV v = -1 → Q (.inl none, (sW o0 o1 o2 o3 o4 o5 o6 o7 o8 o9 o10 o11 o12 o13 o14 o15 o16 z (eH H) tR frR mk rc fN rN cN tl, b0, b1, op))) : mj_Mt gT cst gnw (m + 2) y_Store_setHead [.ref 17, .long (encV v), .long (encV x)] (sW o0 o1 o2 o3 o4 o5 o6 o7 o8 o9 o10 o11 o12 o13 o14 o15 o16 z (eH H) tR frR mk rc fN rN cN tl, b0, b1, op) Q := by
  intro J hJ
  refine hJ _ _ _ _ ?_
  refine v_cell ?_
  rcases cV_cases z v hv with ⟨e, e2⟩ | ⟨i, hi, e, e2⟩
  · have h1 := h0 e
    rw [e]
    exact And.intro (fun _ => h1) (fun g => absurd (by decide) g)
  · have h1 := hQ i e hi
    rw [e]
    refine And.intro (fun (g : nI i < 0) => absurd g (nI_pos (by omega))) (fun _ => ?_)
    refine And.intro (fun (g : nI z ≤ nI i) => absurd g (nI_ge hi (by omega))) (fun _ => ?_)
    refine And.intro (vp_in_nI hi (by omega)) ?_
    have key : ∀ j, j = i → Q (.inl none, (sW o0 o1 o2 o3 o4 o5 o6 o7 o8 o9 o10 o11 o12 o13 o14 o15 o16 z (vp_updL (eH H) j (encV x)) tR frR mk rc fN rN cN tl, b0, b1, op)) := by
      rintro j rfl
      rw [updL_enc]
      exact h1
    exact key _ (nI_clamp (by omega))
theorem s_newCell {h t : Vl} (hz : z ≤ 250) (hfz : f < z) (hc : fr f < z) (hQ : Q (.inl (some (.int (nI (fr f)))), (sW o0 o1 o2 o3 o4 o5 o6 o7 o8 o9 o10 o11 o12 o13 o14 o15 o16 z (eH (upW H (fr f) h)) (eH (upW T (fr f) t)) (eN fr) mk rc (nI f) rN cN tl, b0, b1, op))) : mj_Mt gT cst gnw (m + 1) y_Store_newCell [.ref 17, .long (encV h), .long (encV t)] (sW o0 o1 o2 o3 o4 o5 o6 o7 o8 o9 o10 o11 o12 o13 o14 o15 o16 z (eH H) (eH T) (eN fr) mk rc (nI (f + 1)) rN cN tl, b0, b1, op) Q := by
  intro J hJ
  refine hJ _ _ _ _ ?_
  refine And.intro (fun _ => ?_) (fun (g : ¬ 0 < nI (f + 1)) => absurd (nI_lt (a := 0) (by omega) (by omega)) g)
  have ef : nI (f + 1) - Int32.ofInt 1 = nI f := nI_pred f
  have ec : (nI (f + 1) - Int32.ofInt 1).toNatClampNeg = f := by
    rw [ef]
    exact nI_clamp (by omega)
  have hin : vp_in (nI (f + 1) - Int32.ofInt 1) z := by
    rw [ef]
    exact vp_in_nI hfz (by omega)
  refine And.intro hin ?_
  rw [ec, ef]
  refine And.intro (vp_in_nI hc (by omega)) ?_
  refine And.intro (vp_in_nI hc (by omega)) ?_
  have key2 : ∀ (j : Nat), j = fr f → Q (.inl (some (.int (nI (fr f)))), (sW o0 o1 o2 o3 o4 o5 o6 o7 o8 o9 o10 o11 o12 o13 o14 o15 o16 z (vp_updL (eH H) j (encV h)) (vp_updL (eH T) j (encV t)) (eN fr) mk rc (nI f) rN cN tl, b0, b1, op)) := by
    rintro j rfl
    rw [updL_enc, updL_enc]
    exact hQ
  exact key2 _ (nI_clamp (by omega))
theorem s_newPair {h t : Vl} (hz : z ≤ 250) (hfz : f < z) (hc : fr f < z) (hQ : Q (.inl (some (.long (encV (vPr (fr f))))), (sW o0 o1 o2 o3 o4 o5 o6 o7 o8 o9 o10 o11 o12 o13 o14 o15 o16 z (eH (upW H (fr f) h)) (eH (upW T (fr f) t)) (eN fr) mk rc (nI f) rN cN tl, b0, b1, op))) : mj_Mt gT cst gnw (m + 2) y_Store_newPair [.ref 17, .long (encV h), .long (encV t)] (sW o0 o1 o2 o3 o4 o5 o6 o7 o8 o9 o10 o11 o12 o13 o14 o15 o16 z (eH H) (eH T) (eN fr) mk rc (nI (f + 1)) rN cN tl, b0, b1, op) Q := by
  intro J hJ
  refine hJ _ _ _ _ ?_
  refine s_newCell hz hfz hc ?_
  exact v_pair hQ
theorem s_newFunction {h t : Vl} (hz : z ≤ 250) (hfz : f < z) (hc : fr f < z) (hQ : Q (.inl (some (.long (encV (vFn (fr f))))), (sW o0 o1 o2 o3 o4 o5 o6 o7 o8 o9 o10 o11 o12 o13 o14 o15 o16 z (eH (upW H (fr f) h)) (eH (upW T (fr f) t)) (eN fr) mk rc (nI f) rN cN tl, b0, b1, op))) : mj_Mt gT cst gnw (m + 2) y_Store_newFunction [.ref 17, .long (encV h), .long (encV t)] (sW o0 o1 o2 o3 o4 o5 o6 o7 o8 o9 o10 o11 o12 o13 o14 o15 o16 z (eH H) (eH T) (eN fr) mk rc (nI (f + 1)) rN cN tl, b0, b1, op) Q := by
  intro J hJ
  refine hJ _ _ _ _ ?_
  refine s_newCell hz hfz hc ?_
  exact v_function hQ
def behV (T : Nat → Vl) : Nat → Vl → Vl
  | 0, v => v
  | n + 1, v => match v with
    | .inr (.inr (.inr (.inl i))) => behV T n (T i)
    | _ => v
theorem behV_stop {T : Nat → Vl} {v : Vl} (h : ¬ kV v = 3) : ∀ n, behV T n v = v := by
  intro n
  cases n with
  | zero => rfl
  | succ n =>
    rcases v with u | x | x | i | i
    · rfl
    · rfl
    · rfl
    · exact absurd rfl h
    · rfl
theorem okV_beh {T : Nat → Vl} {z : Nat} (hT : ∀ i, i < z → okV z (T i)) : ∀ (n : Nat) (v : Vl), okV z v → okV z (behV T n v) := by
  intro n
  induction n with
  | zero => exact fun v h => h
  | succ n ih =>
    intro v h
    rcases v with u | x | x | i | i
    · exact h
    · exact h
    · exact h
    · exact ih _ (hT i h)
    · exact h
theorem s_behind {v : Vl} {n : Nat} (hz : z ≤ 250) (hn : n < 2 ^ 31) (hT : ∀ i, i < z → okV z (T i)) (hv : okV z v) (hQ : Q (.inl (some (.long (encV (behV T n v)))), (sW o0 o1 o2 o3 o4 o5 o6 o7 o8 o9 o10 o11 o12 o13 o14 o15 o16 z hR (eH T) frR mk rc fN rN cN tl, b0, b1, op))) : mj_Mt gT cst gnw (m + 3) y_Store_behind [.ref 17, .long (encV v), .int (nI n)] (sW o0 o1 o2 o3 o4 o5 o6 o7 o8 o9 o10 o11 o12 o13 o14 o15 o16 z hR (eH T) frR mk rc fN rN cN tl, b0, b1, op) Q := by
  intro J hJ
  have loop : ∀ (j k : Nat) (u : Vl), j + k = n → okV z u → behV T j u = behV T n v → J 4 [some (.ref 17), some (.long (encV v)), none, some (.int (nI n)), some (.long (encV u)), none, some (.int (nI k))] [] (sW o0 o1 o2 o3 o4 o5 o6 o7 o8 o9 o10 o11 o12 o13 o14 o15 o16 z hR (eH T) frR mk rc fN rN cN tl, b0, b1, op) := by
    intro j
    induction j with
    | zero =>
      intro k u hk hu e
      change u = _ at e
      subst e
      refine hJ _ _ _ _ ?_
      exact And.intro (fun _ => hQ) (fun (g : ¬ nI n ≤ nI k) => absurd (nI_le (by omega) (by omega)) g)
    | succ j ih =>
      intro k u hk hu e
      refine hJ _ _ _ _ ?_
      refine And.intro (fun (g : nI n ≤ nI k) => absurd g (nI_ge (by omega) (by omega))) (fun _ => ?_)
      refine v_isPair ?_
      by_cases h3 : kV u = 3
      · rw [show (kV u == 3) = true by simp [h3]]
        refine And.intro (fun g => absurd g (by decide)) (fun _ => ?_)
        refine s_tail hz hu ?_
        rcases u with u | x | x | i | i
        · exact absurd h3 (by simp [kV])
        · exact absurd h3 (by simp [kV])
        · exact absurd h3 (by simp [kV])
        · have key : ∀ x : Int32, x = nI (k + 1) → J 4 [some (.ref 17), some (.long (encV v)), none, some (.int (nI n)), some (.long (encV (T i))), none, some (.int x)] [] (sW o0 o1 o2 o3 o4 o5 o6 o7 o8 o9 o10 o11 o12 o13 o14 o15 o16 z hR (eH T) frR mk rc fN rN cN tl, b0, b1, op) := by
            rintro x rfl
            exact ih (k + 1) (T i) (by omega) (hT i hu) e
          exact key _ (nI_succ k).symm
        · exact absurd h3 (by simp [kV])
      · rw [show (kV u == 3) = false by simp [h3]]
        rw [behV_stop h3] at e
        subst e
        exact And.intro (fun _ => hQ) (fun g => absurd rfl g)
  refine hJ _ _ _ _ ?_
  exact loop n 0 v rfl hv rfl
end P2b
end
