abbrev LSt : Type := (Nat → Vl) × (Nat → Vl) × (Nat → Prop) × Vl × List Vl
def ro0 : Nat → Bool := fun _ => false
theorem upW_ro0 (n : Nat) : upW ro0 n false = ro0 := by
  funext i
  unfold upW ro0
  split <;> rfl
def hvT (t : Int32 × Int32) : Vl := if t.1 = 0 then vNil else if t.1 = 2 then vSym t.2 else vInt t.2
def newL (a : LSt) (k : Nat) (h t : Vl) (ps : List Vl) : LSt := (upW a.1 k h, upW a.2.1 k t, addU a.2.2.1 k, vPr k, ps)
def L1 (t : Int32 × Int32) (a b : LSt) : Prop :=
    (t.1 = 5 ∧ b = (a.1, a.2.1, a.2.2.1, vNil, a.2.2.2.1 :: a.2.2.2.2))
  ∨ (t.1 = 4 ∧ ∃ P ps k, a.2.2.2.2 = P :: ps ∧ ¬ a.2.2.1 k ∧ b = newL a k a.2.2.2.1 P ps)
  ∨ (¬ t.1 = 5 ∧ ¬ t.1 = 4 ∧ ∃ k, ¬ a.2.2.1 k ∧ b = newL a k (hvT t) a.2.2.2.1 a.2.2.2.2)
def LY : TL → LSt → LSt → Prop
  | [], a, b => a = b
  | t :: T, a, b => ∃ c, LY T a c ∧ L1 t c b
theorem LY_app : ∀ (A B : TL) (a b : LSt), LY (A ++ B) a b → ∃ c, LY B a c ∧ LY A c b
  | [], B, a, b, h => ⟨b, h, rfl⟩
  | t :: A, B, a, b, ⟨c, h1, h2⟩ => by
    obtain ⟨d, h3, h4⟩ := LY_app A B a c h1
    exact ⟨d, h3, c, h4, h2⟩
theorem LY_one {t : Int32 × Int32} {a b : LSt} (h : LY [t] a b) : L1 t a b := by
  obtain ⟨c, h1, h2⟩ := h
  have h1 : a = c := h1
  rw [h1]
  exact h2
def GDl (a : LSt) : Prop := SI a.1 a.2.1 ro0 a.2.2.1 ∧ (inU a.2.2.1 a.2.2.2.1 ∧ isL_ a.2.2.2.1) ∧ ∀ P ∈ a.2.2.2.2, inU a.2.2.1 P ∧ isL_ P
def XT (a b : LSt) : Prop := Ext a.2.2.1 a.1 a.2.1 ro0 b.1 b.2.1 ro0 ∧ ∀ x, a.2.2.1 x → b.2.2.1 x
theorem XT_rfl (a : LSt) : XT a a := ⟨fun i _ => ⟨rfl, rfl, fun _ => rfl⟩, fun x h => h⟩
theorem XT_tr {a b c : LSt} (h1 : XT a b) (h2 : XT b c) : XT a c := by
  refine ⟨fun i hi => ?_, fun x h => h2.2 x (h1.2 x h)⟩
  obtain ⟨p1, p2, p3⟩ := h1.1 i hi
  obtain ⟨q1, q2, q3⟩ := h2.1 i (h1.2 i hi)
  exact ⟨q1.trans p1, q2.trans p2, fun w => (q3 (p2.trans w)).trans (p3 w)⟩
theorem isL_gF {H T : Nat → Vl} {ro : Nat → Bool} {v : Vl} (h : isL_ v) : gF H T ro v := by
  rcases h with rfl | ⟨a, rfl⟩
  · exact gF_nil
  · exact gF_pr
theorem hv_ok {H T : Nat → Vl} {ro : Nat → Bool} {U : Nat → Prop} (t : Int32 × Int32) : inU U (hvT t) ∧ gF H T ro (hvT t) := by
  unfold hvT
  split
  · exact ⟨nil_inU, gF_nil⟩
  · split
    · exact ⟨fun b e => (by cases e), fun f e => (by cases e)⟩
    · exact ⟨int_inU, gF_int⟩
theorem new_gd {a : LSt} {k : Nat} {h t : Vl} {ps : List Vl} (ha : GDl a) (hk : ¬ a.2.2.1 k) (h1 : inU a.2.2.1 h ∧ gF a.1 a.2.1 ro0 h) (h2 : inU a.2.2.1 t ∧ isL_ t) (h3 : ∀ P ∈ ps, inU a.2.2.1 P ∧ isL_ P) : GDl (newL a k h t ps) ∧ XT a (newL a k h t ps) := by
  have hs := SI_new (b := false) ha.1 hk h1.1 h2.1 h1.2 (isL_gF h2.2) (fun q => by cases q)
  have hx := Ext_new (H := a.1) (T := a.2.1) (ro := ro0) (h := h) (t := t) (b := false) hk
  rw [upW_ro0] at hs hx
  exact ⟨⟨hs, ⟨pr_inU new_in, Or.inr ⟨k, rfl⟩⟩, fun P hP => ⟨in_new (h3 P hP).1, (h3 P hP).2⟩⟩, hx, fun x hx => Or.inl hx⟩
theorem L1_gd {t : Int32 × Int32} {a b : LSt} (ha : GDl a) (h : L1 t a b) : GDl b ∧ XT a b := by
  rcases h with ⟨-, rfl⟩ | ⟨-, P, ps, k, e, hk, rfl⟩ | ⟨-, -, k, hk, rfl⟩
  · refine ⟨⟨ha.1, ⟨nil_inU, Or.inl rfl⟩, fun P hP => ?_⟩, fun i _ => ⟨rfl, rfl, fun _ => rfl⟩, fun x h => h⟩
    have hP : P ∈ a.2.2.2.1 :: a.2.2.2.2 := hP
    rcases List.mem_cons.mp hP with w | w
    · rw [w]
      exact ha.2.1
    · exact ha.2.2 P w
  · refine new_gd ha hk ⟨ha.2.1.1, isL_gF ha.2.1.2⟩ ?_ (fun P2 hP => ?_)
    · exact ha.2.2 P (by rw [e]; exact List.mem_cons_self)
    · exact ha.2.2 P2 (by rw [e]; exact List.mem_cons_of_mem _ hP)
  · exact new_gd ha hk (hv_ok t) ha.2.1 ha.2.2
theorem LY_gd : ∀ (T : TL) (a b : LSt), GDl a → LY T a b → GDl b ∧ XT a b
  | [], a, b, ha, h => by
    have h : a = b := h
    subst h
    exact ⟨ha, XT_rfl a⟩
  | t :: T, a, b, ha, ⟨c, h1, h2⟩ => by
    obtain ⟨g1, g2⟩ := LY_gd T a c ha h1
    obtain ⟨g3, g4⟩ := L1_gd g1 h2
    exact ⟨g3, XT_tr g2 g4⟩
def WTl (a : LSt) (v : Vl) (k : Sk) (n : Nat) (b : Bool) (e : En) : Prop := wtx a.1 a.2.1 ro0 v k n b e
theorem WT_x {a b : LSt} {v : Vl} {k : Sk} {n : Nat} {β : Bool} {e : En} (ha : GDl a) (hx : XT a b) (hv : inU a.2.2.1 v) (h : WTl a v k n β e) : WTl b v k n β e := wtx_ext ha.1 hx.1 hv h
theorem wt_le {H T : Nat → Vl} {ro : Nat → Bool} {v : Vl} {k : Sk} {n : Nat} {b : Bool} {e : En} {f : Nat} (h : wt H T ro f v k n b e) : ∀ j, wt H T ro (f + j) v k n b e
  | 0 => h
  | j + 1 => wt_mono _ _ _ _ _ _ (wt_le h j)
theorem WT_b {a : LSt} {v : Vl} {k : Sk} {n : Nat} (β : Bool) {e : En} (h : WTl a v k n false e) : WTl a v k n β e := by
  obtain ⟨f, h⟩ := h
  exact ⟨f, wt_b f _ _ _ _ _ h⟩
theorem L1_int {v : Int32} {a b : LSt} (ha : GDl a) (h : L1 (1, v) a b) : ∃ c, b.2.2.2.1 = vPr c ∧ b.1 c = vInt v ∧ b.2.1 c = a.2.2.2.1 ∧ b.2.2.2.2 = a.2.2.2.2 ∧ GDl b ∧ XT a b := by
  obtain ⟨g1, g2⟩ := L1_gd ha h
  rcases h with ⟨q, -⟩ | ⟨q, -⟩ | ⟨-, -, k, hk, rfl⟩
  · exact absurd (show (1 : Int32) = 5 from q) (by decide)
  · exact absurd (show (1 : Int32) = 4 from q) (by decide)
  · exact ⟨k, rfl, if_pos rfl, if_pos rfl, rfl, g1, g2⟩
section YJ
variable {a b : LSt} {k : Sk} {n : Nat} {e : En} {i : Int32}
theorem op_wt (ha : GDl a) (h : L1 (1, i) a b) {k0 : Sk} {n0 : Nat} {β : Bool} {e0 : En} (hw : ∀ c f, wt b.1 b.2.1 ro0 f (b.2.1 c) k n false e → b.2.1 c = a.2.2.2.1 → b.1 c = vInt i → wt b.1 b.2.1 ro0 (f + 1) (vPr c) k0 n0 β e0) (hk : WTl a a.2.2.2.1 k n false e) : WTl b b.2.2.2.1 k0 n0 β e0 ∧ b.2.2.2.2 = a.2.2.2.2 := by
  obtain ⟨c, q1, q2, q3, q4, q5, q6⟩ := L1_int ha h
  obtain ⟨f, hf⟩ := WT_x ha q6 ha.2.1.1 hk
  refine ⟨?_, q4⟩
  rw [q1]
  refine ⟨f + 1, hw c f ?_ q3 q2⟩
  rw [q3]
  exact hf
theorem o_4 (ha : GDl a) (h : L1 (1, 4) a b) (hk : WTl a a.2.2.2.1 (false :: k) n false e) : WTl b b.2.2.2.1 (false :: true :: k) n false e ∧ b.2.2.2.2 = a.2.2.2.2 :=
  op_wt ha h (fun c f hw _ hi => ⟨c, 4, rfl, rfl, hi, Or.inr (Or.inr (Or.inr (Or.inl ⟨rfl, false, k, rfl, hw⟩)))⟩) hk
theorem o_6 (ha : GDl a) (h : L1 (1, 6) a b) (hk : WTl a a.2.2.2.1 k (n + 1) false e) : WTl b b.2.2.2.1 k n false e ∧ b.2.2.2.2 = a.2.2.2.2 :=
  op_wt ha h (fun c f hw _ hi => ⟨c, 6, rfl, rfl, hi, Or.inr (Or.inr (Or.inr (Or.inr (Or.inr (Or.inl ⟨rfl, hw⟩)))))⟩) hk
theorem o_7 (ha : GDl a) (h : L1 (1, 7) a b) (hk : WTl a a.2.2.2.1 (false :: k) n false e) : WTl b b.2.2.2.1 (false :: true :: k) (n + 1) true e ∧ b.2.2.2.2 = a.2.2.2.2 :=
  op_wt ha h (fun c f hw _ hi => ⟨c, 7, rfl, rfl, hi, Or.inr (Or.inr (Or.inr (Or.inr (Or.inr (Or.inr (Or.inl ⟨rfl, false, k, rfl, by omega, rfl, hw⟩))))))⟩) hk
theorem o_1 (ha : GDl a) (hi : i = 10 ∨ i = 11 ∨ i = 12) (h : L1 (1, i) a b) (hk : WTl a a.2.2.2.1 (false :: k) n false e) : WTl b b.2.2.2.1 (false :: k) n false e ∧ b.2.2.2.2 = a.2.2.2.2 :=
  op_wt ha h (fun c f hw _ hh => ⟨c, i, rfl, rfl, hh, Or.inr (Or.inr (Or.inr (Or.inr (Or.inr (Or.inr (Or.inr (Or.inr (Or.inr (Or.inl ⟨hi, false, k, rfl, hw⟩)))))))))⟩) hk
theorem o_2 (ha : GDl a) (hi : i = 13 ∨ i = 14 ∨ i = 15 ∨ i = 16 ∨ i = 17 ∨ i = 18) (h : L1 (1, i) a b) (hk : WTl a a.2.2.2.1 (false :: k) n false e) : WTl b b.2.2.2.1 (false :: false :: k) n false e ∧ b.2.2.2.2 = a.2.2.2.2 :=
  op_wt ha h (fun c f hw _ hh => ⟨c, i, rfl, rfl, hh, Or.inr (Or.inr (Or.inr (Or.inr (Or.inr (Or.inr (Or.inr (Or.inr (Or.inr (Or.inr (Or.inl ⟨hi, false, false, false, k, rfl, fun q => (by cases q), hw⟩))))))))))⟩) hk
theorem o_13 (ha : GDl a) (h : L1 (1, 13) a b) (hk : WTl a a.2.2.2.1 (true :: k) n false e) : WTl b b.2.2.2.1 (false :: true :: k) n false e ∧ b.2.2.2.2 = a.2.2.2.2 :=
  op_wt ha h (fun c f hw _ hh => ⟨c, 13, rfl, rfl, hh, Or.inr (Or.inr (Or.inr (Or.inr (Or.inr (Or.inr (Or.inr (Or.inr (Or.inr (Or.inr (Or.inl ⟨Or.inl rfl, false, true, true, k, rfl, fun _ => ⟨rfl, rfl⟩, hw⟩))))))))))⟩) hk
theorem end_wt (ha : GDl a) (h : L1 (1, i) a b) {k0 : Sk} {n0 : Nat} {e0 : En} (hw : ∀ c, b.1 c = vInt i → wt b.1 b.2.1 ro0 1 (vPr c) k0 n0 false e0) : WTl b b.2.2.2.1 k0 n0 false e0 ∧ b.2.2.2.2 = a.2.2.2.2 := by
  obtain ⟨c, q1, q2, q3, q4, q5, q6⟩ := L1_int ha h
  refine ⟨?_, q4⟩
  rw [q1]
  exact ⟨1, hw c q2⟩
theorem o_5 (ha : GDl a) (h : L1 (1, 5) a b) : WTl b b.2.2.2.1 [false] 1 false eRet ∧ b.2.2.2.2 = a.2.2.2.2 :=
  end_wt ha h (fun c hh => ⟨c, 5, rfl, rfl, hh, Or.inr (Or.inr (Or.inr (Or.inr (Or.inl ⟨rfl, false, [], rfl, rfl⟩))))⟩)
theorem o_9 (ha : GDl a) (h : L1 (1, 9) a b) : WTl b b.2.2.2.1 (false :: k) n false (eJoin (false :: k) n) ∧ b.2.2.2.2 = a.2.2.2.2 :=
  end_wt ha h (fun c hh => ⟨c, 9, rfl, rfl, hh, Or.inr (Or.inr (Or.inr (Or.inr (Or.inr (Or.inr (Or.inr (Or.inr (Or.inl ⟨rfl, rfl⟩))))))))⟩)
theorem o_19 (ha : GDl a) (h : L1 (1, 19) a b) : WTl b b.2.2.2.1 [false] 0 false eStop ∧ b.2.2.2.2 = a.2.2.2.2 :=
  end_wt ha h (fun c hh => ⟨c, 19, rfl, rfl, hh, Or.inr (Or.inr (Or.inr (Or.inr (Or.inr (Or.inr (Or.inr (Or.inr (Or.inr (Or.inr (Or.inr ⟨rfl, false, [], rfl, rfl⟩))))))))))⟩)
end YJ
def LTy (T : TL) : Prop := ∀ a b, GDl a → LY T a b → b.2.2.2.2 = a.2.2.2.2 ∧ ∀ k n e, WTl a a.2.2.2.1 (false :: k) n false e → WTl b b.2.2.2.1 k n false e
theorem lst_wt {i : Int32} {t : Tau} {φ : Fr} {a b : LSt} (ha : GDl a) (h : LY (lstT i t φ) a b) (ht : LTy (t φ)) {k1 : Sk} {n1 : Nat} {e1 : En} (hi : ∀ a' b', GDl a' → L1 (1, i) a' b' → WTl b' b'.2.2.2.1 (false :: k1) n1 false e1 ∧ b'.2.2.2.2 = a'.2.2.2.2) : ∃ c, b.2.2.2.1 = vPr c ∧ b.2.1 c = a.2.2.2.1 ∧ WTl b (b.1 c) k1 n1 false e1 ∧ b.2.2.2.2 = a.2.2.2.2 ∧ GDl b ∧ XT a b := by
  obtain ⟨gb, xb⟩ := LY_gd _ _ _ ha h
  obtain ⟨d, h1, h2⟩ := h
  obtain ⟨a2, h3, h4⟩ := LY_app _ _ _ _ h1
  obtain ⟨a1, h5, h6⟩ := h3
  have h5 := LY_one h5
  obtain ⟨g1, x1⟩ := L1_gd ha h5
  obtain ⟨g2, x2⟩ := L1_gd g1 h6
  obtain ⟨g3, x3⟩ := LY_gd _ _ _ g2 h4
  obtain ⟨w1, w2⟩ := hi a1 a2 g1 h6
  obtain ⟨w3, w4⟩ := ht a2 d g2 h4
  have w5 := w4 k1 n1 e1 w1
  rcases h5 with ⟨-, rfl⟩ | ⟨q, -⟩ | ⟨q, -⟩
  · have ep : d.2.2.2.2 = a.2.2.2.1 :: a.2.2.2.2 := w3.trans w2
    obtain ⟨g4, x4⟩ := L1_gd g3 h2
    rcases h2 with ⟨q, -⟩ | ⟨-, P, ps, c, e, hc, rfl⟩ | ⟨-, q, -⟩
    · exact absurd (show (4 : Int32) = 5 from q) (by decide)
    · rw [ep] at e
      injection e with e1 e2
      have eh : (newL d c d.2.2.2.1 P ps).1 c = d.2.2.2.1 := if_pos rfl
      have et : (newL d c d.2.2.2.1 P ps).2.1 c = P := if_pos rfl
      refine ⟨c, rfl, et.trans e1.symm, ?_, e2.symm, gb, xb⟩
      rw [eh]
      exact WT_x g3 x4 g3.2.1.1 w5
    · exact absurd rfl q
  · exact absurd (show (5 : Int32) = 4 from q) (by decide)
  · exact absurd rfl q
