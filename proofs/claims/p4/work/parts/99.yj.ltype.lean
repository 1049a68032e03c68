section
abbrev LSt : Type := (Nat → Vl) × (Nat → Vl) × (Nat → Prop) × Vl × List Vl
def ro0 : Nat → Bool := fun _ => false
theorem upW_ro0 (n : Nat) : upW ro0 n false = ro0 := by
  funext i
  unfold upW ro0
  split <;> rfl
def hvT (t : Int32 × Int32) : Vl := if t.1 = 0 then vNil else if t.1 = 2 then vSym t.2 else vInt t.2
def newL (a : LSt) (k : Nat) (h t : Vl) (ps : List Vl) : LSt := (upW a.1 k h, upW a.2.1 k t, addU a.2.2.1 k, vPr k, ps)
def L1 (t : Int32 × Int32) (a b : LSt) : Prop :=
    (t.1 = 5 ∧ b = (a.1, a.2.1, a.2.2.1, vNil, a.2.2.2.1 :: a.2.2.2.2))
  ∨ (t.1 = 4 ∧ ∃ P ps k, a.2.2.2.2 = P :: ps ∧ ¬ a.2.2.1 k ∧ b = newL a k a.2.2.2.1 P ps)
  ∨ (¬ t.1 = 5 ∧ ¬ t.1 = 4 ∧ ∃ k, ¬ a.2.2.1 k ∧ b = newL a k (hvT t) a.2.2.2.1 a.2.2.2.2)
def LY : TL → LSt → LSt → Prop
  | [], a, b => a = b
  | t :: T, a, b => ∃ c, LY T a c ∧ L1 t c b
theorem LY_app : ∀ (A B : TL) (a b : LSt), LY (A ++ B) a b → ∃ c, LY B a c ∧ LY A c b
  | [], B, a, b, h => ⟨b, h, rfl⟩
  | t :: A, B, a, b, ⟨c, h1, h2⟩ => by
    obtain ⟨d, h3, h4⟩ := LY_app A B a c h1
    exact ⟨d, h3, c, h4, h2⟩
theorem LY_one {t : Int32 × Int32} {a b : LSt} (h : LY [t] a b) : L1 t a b := by
  obtain ⟨c, h1, h2⟩ := h
  have h1 : a = c := h1
  rw [h1]
  exact h2
def GDl (a : LSt) : Prop := SI a.1 a.2.1 ro0 a.2.2.1 ∧ (inU a.2.2.1 a.2.2.2.1 ∧ isL_ a.2.2.2.1) ∧ ∀ P ∈ a.2.2.2.2, inU a.2.2.1 P ∧ isL_ P
def XT (a b : LSt) : Prop := Ext a.2.2.1 a.1 a.2.1 ro0 b.1 b.2.1 ro0 ∧ ∀ x, a.2.2.1 x → b.2.2.1 x
theorem XT_rfl (a : LSt) : XT a a := ⟨fun i _ => ⟨rfl, rfl, fun _ => rfl⟩, fun x h => h⟩
theorem XT_tr {a b c : LSt} (h1 : XT a b) (h2 : XT b c) : XT a c := by
  refine ⟨fun i hi => ?_, fun x h => h2.2 x (h1.2 x h)⟩
  obtain ⟨p1, p2, p3⟩ := h1.1 i hi
  obtain ⟨q1, q2, q3⟩ := h2.1 i (h1.2 i hi)
  exact ⟨q1.trans p1, q2.trans p2, fun w => (q3 (p2.trans w)).trans (p3 w)⟩
theorem isL_gF {H T : Nat → Vl} {ro : Nat → Bool} {v : Vl} (h : isL_ v) : gF H T ro v := by
  rcases h with rfl | ⟨a, rfl⟩
  · exact gF_nil
  · exact gF_pr
theorem hv_ok {H T : Nat → Vl} {ro : Nat → Bool} {U : Nat → Prop} (t : Int32 × Int32) : inU U (hvT t) ∧ gF H T ro (hvT t) := by
  unfold hvT
  split
  · exact ⟨nil_inU, gF_nil⟩
  · split
    · exact ⟨fun b e => (by cases e), fun f e => (by cases e)⟩
    · exact ⟨int_inU, gF_int⟩
theorem new_gd {a : LSt} {k : Nat} {h t : Vl} {ps : List Vl} (ha : GDl a) (hk : ¬ a.2.2.1 k) (h1 : inU a.2.2.1 h ∧ gF a.1 a.2.1 ro0 h) (h2 : inU a.2.2.1 t ∧ isL_ t) (h3 : ∀ P ∈ ps, inU a.2.2.1 P ∧ isL_ P) : GDl (newL a k h t ps) ∧ XT a (newL a k h t ps) := by
  have hs := SI_new (b := false) ha.1 hk h1.1 h2.1 h1.2 (isL_gF h2.2) (fun q => by cases q)
  have hx := Ext_new (H := a.1) (T := a.2.1) (ro := ro0) (h := h) (t := t) (b := false) hk
  rw [upW_ro0] at hs hx
  exact ⟨⟨hs, ⟨pr_inU new_in, Or.inr ⟨k, rfl⟩⟩, fun P hP => ⟨in_new (h3 P hP).1, (h3 P hP).2⟩⟩, hx, fun x hx => Or.inl hx⟩
theorem L1_gd {t : Int32 × Int32} {a b : LSt} (ha : GDl a) (h : L1 t a b) : GDl b ∧ XT a b := by
  rcases h with ⟨-, rfl⟩ | ⟨-, P, ps, k, e, hk, rfl⟩ | ⟨-, -, k, hk, rfl⟩
  · refine ⟨⟨ha.1, ⟨nil_inU, Or.inl rfl⟩, fun P hP => ?_⟩, fun i _ => ⟨rfl, rfl, fun _ => rfl⟩, fun x h => h⟩
    have hP : P ∈ a.2.2.2.1 :: a.2.2.2.2 := hP
    rcases List.mem_cons.mp hP with w | w
    · rw [w]
      exact ha.2.1
    · exact ha.2.2 P w
  · refine new_gd ha hk ⟨ha.2.1.1, isL_gF ha.2.1.2⟩ ?_ (fun P2 hP => ?_)
    · exact ha.2.2 P (by rw [e]; exact List.mem_cons_self)
    · exact ha.2.2 P2 (by rw [e]; exact List.mem_cons_of_mem _ hP)
  · exact new_gd ha hk (hv_ok t) ha.2.1 ha.2.2
theorem LY_gd : ∀ (T : TL) (a b : LSt), GDl a → LY T a b → GDl b ∧ XT a b
  | [], a, b, ha, h => by
    have h : a = b := h
    subst h
    exact ⟨ha, XT_rfl a⟩
  | t :: T, a, b, ha, ⟨c, h1, h2⟩ => by
    obtain ⟨g1, g2⟩ := LY_gd T a c ha h1
    obtain ⟨g3, g4⟩ := L1_gd g1 h2
    exact ⟨g3, XT_tr g2 g4⟩
def WTl (a : LSt) (v : Vl) (k : Sk) (n : Nat) (b : Bool) (e : En) : Prop := wtx a.1 a.2.1 ro0 v k n b e
theorem WT_x {a b : LSt} {v : Vl} {k : Sk} {n : Nat} {β : Bool} {e : En} (ha : GDl a) (hx : XT a b) (hv : inU a.2.2.1 v) (h : WTl a v k n β e) : WTl b v k n β e := wtx_ext ha.1 hx.1 hv h
theorem wt_le {H T : Nat → Vl} {ro : Nat → Bool} {v : Vl} {k : Sk} {n : Nat} {b : Bool} {e : En} {f : Nat} (h : wt H T ro f v k n b e) : ∀ j, wt H T ro (f + j) v k n b e
  | 0 => h
  | j + 1 => wt_mono _ _ _ _ _ _ (wt_le h j)
theorem WT_b {a : LSt} {v : Vl} {k : Sk} {n : Nat} (β : Bool) {e : En} (h : WTl a v k n false e) : WTl a v k n β e := by
  obtain ⟨f, h⟩ := h
  exact ⟨f, wt_b f _ _ _ _ _ h⟩
theorem L1_int {v : Int32} {a b : LSt} (ha : GDl a) (h : L1 (1, v) a b) : ∃ c, b.2.2.2.1 = vPr c ∧ b.1 c = vInt v ∧ b.2.1 c = a.2.2.2.1 ∧ b.2.2.2.2 = a.2.2.2.2 ∧ GDl b ∧ XT a b := by
  obtain ⟨g1, g2⟩ := L1_gd ha h
  rcases h with ⟨q, -⟩ | ⟨q, -⟩ | ⟨-, -, k, hk, rfl⟩
  · exact absurd (show (1 : Int32) = 5 from q) (by decide)
  · exact absurd (show (1 : Int32) = 4 from q) (by decide)
  · exact ⟨k, rfl, if_pos rfl, if_pos rfl, rfl, g1, g2⟩
section YJ
variable {a b : LSt} {k : Sk} {n : Nat} {e : En} {i : Int32}
theorem op_wt (ha : GDl a) (h : L1 (1, i) a b) {k0 : Sk} {n0 : Nat} {β : Bool} {e0 : En} (hw : ∀ c f, wt b.1 b.2.1 ro0 f (b.2.1 c) k n false e → b.2.1 c = a.2.2.2.1 → b.1 c = vInt i → wt b.1 b.2.1 ro0 (f + 1) (vPr c) k0 n0 β e0) (hk : WTl a a.2.2.2.1 k n false e) : WTl b b.2.2.2.1 k0 n0 β e0 ∧ b.2.2.2.2 = a.2.2.2.2 := by
  obtain ⟨c, q1, q2, q3, q4, q5, q6⟩ := L1_int ha h
  obtain ⟨f, hf⟩ := WT_x ha q6 ha.2.1.1 hk
  refine ⟨?_, q4⟩
  rw [q1]
  refine ⟨f + 1, hw c f ?_ q3 q2⟩
  rw [q3]
  exact hf
theorem o_4 (ha : GDl a) (h : L1 (1, 4) a b) (hk : WTl a a.2.2.2.1 (false :: k) n false e) : WTl b b.2.2.2.1 (false :: true :: k) n false e ∧ b.2.2.2.2 = a.2.2.2.2 :=
  op_wt ha h (fun c f hw _ hi => ⟨c, 4, rfl, rfl, hi, Or.inr (Or.inr (Or.inr (Or.inl ⟨rfl, false, k, rfl, hw⟩)))⟩) hk
theorem o_6 (ha : GDl a) (h : L1 (1, 6) a b) (hk : WTl a a.2.2.2.1 k (n + 1) false e) : WTl b b.2.2.2.1 k n false e ∧ b.2.2.2.2 = a.2.2.2.2 :=
  op_wt ha h (fun c f hw _ hi => ⟨c, 6, rfl, rfl, hi, Or.inr (Or.inr (Or.inr (Or.inr (Or.inr (Or.inl ⟨rfl, hw⟩)))))⟩) hk
theorem o_7 (ha : GDl a) (h : L1 (1, 7) a b) (hk : WTl a a.2.2.2.1 (false :: k) n false e) : WTl b b.2.2.2.1 (false :: true :: k) (n + 1) true e ∧ b.2.2.2.2 = a.2.2.2.2 :=
  op_wt ha h (fun c f hw _ hi => ⟨c, 7, rfl, rfl, hi, Or.inr (Or.inr (Or.inr (Or.inr (Or.inr (Or.inr (Or.inl ⟨rfl, false, k, rfl, by omega, rfl, hw⟩))))))⟩) hk
theorem o_1 (ha : GDl a) (hi : i = 10 ∨ i = 11 ∨ i = 12) (h : L1 (1, i) a b) (hk : WTl a a.2.2.2.1 (false :: k) n false e) : WTl b b.2.2.2.1 (false :: k) n false e ∧ b.2.2.2.2 = a.2.2.2.2 :=
  op_wt ha h (fun c f hw _ hh => ⟨c, i, rfl, rfl, hh, Or.inr (Or.inr (Or.inr (Or.inr (Or.inr (Or.inr (Or.inr (Or.inr (Or.inr (Or.inl ⟨hi, false, k, rfl, hw⟩)))))))))⟩) hk
theorem o_2 (ha : GDl a) (hi : i = 13 ∨ i = 14 ∨ i = 15 ∨ i = 16 ∨ i = 17 ∨ i = 18) (h : L1 (1, i) a b) (hk : WTl a a.2.2.2.1 (false :: k) n false e) : WTl b b.2.2.2.1 (false :: false :: k) n false e ∧ b.2.2.2.2 = a.2.2.2.2 :=
  op_wt ha h (fun c f hw _ hh => ⟨c, i, rfl, rfl, hh, Or.inr (Or.inr (Or.inr (Or.inr (Or.inr (Or.inr (Or.inr (Or.inr (Or.inr (Or.inr (Or.inl ⟨hi, false, false, false, k, rfl, fun q => (by cases q), hw⟩))))))))))⟩) hk
theorem o_13 (ha : GDl a) (h : L1 (1, 13) a b) (hk : WTl a a.2.2.2.1 (true :: k) n false e) : WTl b b.2.2.2.1 (false :: true :: k) n false e ∧ b.2.2.2.2 = a.2.2.2.2 :=
  op_wt ha h (fun c f hw _ hh => ⟨c, 13, rfl, rfl, hh, Or.inr (Or.inr (Or.inr (Or.inr (Or.inr (Or.inr (Or.inr (Or.inr (Or.inr (Or.inr (Or.inl ⟨Or.inl rfl, false, true, true, k, rfl, fun _ => ⟨rfl, rfl⟩, hw⟩))))))))))⟩) hk
theorem end_wt (ha : GDl a) (h : L1 (1, i) a b) {k0 : Sk} {n0 : Nat} {e0 : En} (hw : ∀ c, b.1 c = vInt i → wt b.1 b.2.1 ro0 1 (vPr c) k0 n0 false e0) : WTl b b.2.2.2.1 k0 n0 false e0 ∧ b.2.2.2.2 = a.2.2.2.2 := by
  obtain ⟨c, q1, q2, q3, q4, q5, q6⟩ := L1_int ha h
  refine ⟨?_, q4⟩
  rw [q1]
  exact ⟨1, hw c q2⟩
theorem o_5 (ha : GDl a) (h : L1 (1, 5) a b) : WTl b b.2.2.2.1 [false] 1 false eRet ∧ b.2.2.2.2 = a.2.2.2.2 :=
  end_wt ha h (fun c hh => ⟨c, 5, rfl, rfl, hh, Or.inr (Or.inr (Or.inr (Or.inr (Or.inl ⟨rfl, false, [], rfl, rfl⟩))))⟩)
theorem o_9 (ha : GDl a) (h : L1 (1, 9) a b) : WTl b b.2.2.2.1 (false :: k) n false (eJoin (false :: k) n) ∧ b.2.2.2.2 = a.2.2.2.2 :=
  end_wt ha h (fun c hh => ⟨c, 9, rfl, rfl, hh, Or.inr (Or.inr (Or.inr (Or.inr (Or.inr (Or.inr (Or.inr (Or.inr (Or.inl ⟨rfl, rfl⟩))))))))⟩)
theorem o_19 (ha : GDl a) (h : L1 (1, 19) a b) : WTl b b.2.2.2.1 [false] 0 false eStop ∧ b.2.2.2.2 = a.2.2.2.2 :=
  end_wt ha h (fun c hh => ⟨c, 19, rfl, rfl, hh, Or.inr (Or.inr (Or.inr (Or.inr (Or.inr (Or.inr (Or.inr (Or.inr (Or.inr (Or.inr (Or.inr ⟨rfl, false, [], rfl, rfl⟩))))))))))⟩)
end YJ
def LTy (T : TL) : Prop := ∀ a b, GDl a → LY T a b → b.2.2.2.2 = a.2.2.2.2 ∧ ∀ k n e, WTl a a.2.2.2.1 (false :: k) n false e → WTl b b.2.2.2.1 k n false e
theorem lst_wt {i : Int32} {t : Tau} {φ : Fr} {a b : LSt} (ha : GDl a) (h : LY (lstT i t φ) a b) (ht : LTy (t φ)) {k1 : Sk} {n1 : Nat} {e1 : En} (hi : ∀ a' b', GDl a' → L1 (1, i) a' b' → WTl b' b'.2.2.2.1 (false :: k1) n1 false e1 ∧ b'.2.2.2.2 = a'.2.2.2.2) : ∃ c, b.2.2.2.1 = vPr c ∧ b.2.1 c = a.2.2.2.1 ∧ WTl b (b.1 c) k1 n1 false e1 ∧ b.2.2.2.2 = a.2.2.2.2 ∧ GDl b ∧ XT a b := by
  obtain ⟨gb, xb⟩ := LY_gd _ _ _ ha h
  obtain ⟨d, h1, h2⟩ := h
  obtain ⟨a2, h3, h4⟩ := LY_app _ _ _ _ h1
  obtain ⟨a1, h5, h6⟩ := h3
  have h5 := LY_one h5
  obtain ⟨g1, x1⟩ := L1_gd ha h5
  obtain ⟨g2, x2⟩ := L1_gd g1 h6
  obtain ⟨g3, x3⟩ := LY_gd _ _ _ g2 h4
  obtain ⟨w1, w2⟩ := hi a1 a2 g1 h6
  obtain ⟨w3, w4⟩ := ht a2 d g2 h4
  have w5 := w4 k1 n1 e1 w1
  rcases h5 with ⟨-, rfl⟩ | ⟨q, -⟩ | ⟨q, -⟩
  · have ep : d.2.2.2.2 = a.2.2.2.1 :: a.2.2.2.2 := w3.trans w2
    obtain ⟨g4, x4⟩ := L1_gd g3 h2
    rcases h2 with ⟨q, -⟩ | ⟨-, P, ps, c, e, hc, rfl⟩ | ⟨-, q, -⟩
    · exact absurd (show (4 : Int32) = 5 from q) (by decide)
    · rw [ep] at e
      injection e with e1 e2
      have eh : (newL d c d.2.2.2.1 P ps).1 c = d.2.2.2.1 := if_pos rfl
      have et : (newL d c d.2.2.2.1 P ps).2.1 c = P := if_pos rfl
      refine ⟨c, rfl, et.trans e1.symm, ?_, e2.symm, gb, xb⟩
      rw [eh]
      exact WT_x g3 x4 g3.2.1.1 w5
    · exact absurd rfl q
  · exact absurd (show (5 : Int32) = 4 from q) (by decide)
  · exact absurd rfl q
end
section
theorem L1_at {t : Int32 × Int32} {a b : LSt} (ha : GDl a) (h5 : ¬ t.1 = 5) (h4 : ¬ t.1 = 4) (h : L1 t a b) : ∃ c, b.2.2.2.1 = vPr c ∧ b.1 c = hvT t ∧ b.2.1 c = a.2.2.2.1 ∧ b.2.2.2.2 = a.2.2.2.2 ∧ GDl b ∧ XT a b := by
  obtain ⟨g1, g2⟩ := L1_gd ha h
  rcases h with ⟨q, -⟩ | ⟨q, -⟩ | ⟨-, -, k, hk, rfl⟩
  · exact absurd q h5
  · exact absurd q h4
  · exact ⟨k, rfl, if_pos rfl, if_pos rfl, rfl, g1, g2⟩
theorem const_wt {a c b : LSt} {d : Nat} {t : Bool} {k : Sk} {n : Nat} {e : En} (ha : GDl a) (gc : GDl c) (xc : XT a c) (e1 : c.2.2.2.1 = vPr d) (e2 : c.2.1 d = a.2.2.2.1) (hv : t = true → c.1 d = vNil) (h : L1 (1, 1) c b) (hw : WTl a a.2.2.2.1 (t :: k) n false e) : WTl b b.2.2.2.1 k n false e ∧ b.2.2.2.2 = c.2.2.2.2 := by
  obtain ⟨c0, q1, q2, q3, q4, q5, q6⟩ := L1_int gc h
  have ud : c.2.2.1 d := inU_pr (by rw [← e1]; exact gc.2.1.1)
  obtain ⟨y1, -, y3⟩ := q6.1 d ud
  obtain ⟨f, hf⟩ := WT_x ha (XT_tr xc q6) ha.2.1.1 hw
  refine ⟨?_, q4⟩
  rw [q1]
  refine ⟨f + 1, c0, 1, rfl, rfl, q2, Or.inl ⟨rfl, d, t, q3.trans e1, rfl, fun w => (y3 rfl).trans (hv w), ?_⟩⟩
  rw [y1, e2]
  exact hf
def LDy (D : TL) : Prop := ∀ a b, GDl a → LY D a b → b.2.2.2.2 = a.2.2.2.2 ∧ ∃ d, b.2.2.2.1 = vPr d ∧ b.2.1 d = a.2.2.2.1
def SDy (b : Bool) : Nat → TL → Prop
  | 0, D => if b = true then D = [] else LDy D
  | o + 1, D => ∀ x y, GDl x → LY D x y → ∃ xs : List Vl, xs.length = o ∧ y.2.2.2.2 = xs ++ (x.2.2.2.1 :: x.2.2.2.2)
theorem SDy_b {o : Nat} {D : TL} {b b' : Bool} (h : SDy b (o + 1) D) : SDy b' (o + 1) D := h
theorem SD_atom {t : Int32 × Int32} (h5 : ¬ t.1 = 5) (h4 : ¬ t.1 = 4) {D : TL} : ∀ {o : Nat}, SDy true o D → SDy false o (t :: D)
  | 0, h => by
    have h : D = [] := h
    subst h
    intro a b ha hl
    obtain ⟨c, q1, q2, q3, q4, -⟩ := L1_at ha h5 h4 (LY_one hl)
    exact ⟨q4, c, q1, q3⟩
  | o + 1, h => by
    intro x y gx hl
    obtain ⟨c, h1, h2⟩ := hl
    obtain ⟨g1, x1⟩ := LY_gd _ _ _ gx h1
    obtain ⟨xs, q1, q2⟩ := h x c gx h1
    obtain ⟨-, -, -, -, q4, -⟩ := L1_at g1 h5 h4 h2
    exact ⟨xs, q1, q4.trans q2⟩
theorem SD_open {D : TL} {b : Bool} {o : Nat} (h : SDy b (o + 1) D) : SDy false o ((4, 0) :: D) := by
  have key : ∀ x y, GDl x → LY ((4, 0) :: D) x y → ∃ xs : List Vl, xs.length = o ∧ ∃ c P ps k, xs ++ (x.2.2.2.1 :: x.2.2.2.2) = P :: ps ∧ y = newL c k c.2.2.2.1 P ps := by
    intro x y gx hl
    obtain ⟨c, h1, h2⟩ := hl
    obtain ⟨xs, q1, q2⟩ := h x c gx h1
    rcases h2 with ⟨q, -⟩ | ⟨-, P, ps, k, e, hk, rfl⟩ | ⟨-, q, -⟩
    · exact absurd (show (4 : Int32) = 5 from q) (by decide)
    · exact ⟨xs, q1, c, P, ps, k, q2.symm.trans e, rfl⟩
    · exact absurd rfl q
  cases o with
  | zero =>
    intro a b ha hl
    obtain ⟨xs, q1, c, P, ps, k, q2, rfl⟩ := key a b ha hl
    have : xs = [] := List.length_eq_zero_iff.mp q1
    subst this
    injection q2 with e1 e2
    exact ⟨e2.symm, k, rfl, (if_pos rfl : upW c.2.1 k P k = P).trans e1.symm⟩
  | succ o =>
    intro x y gx hl
    obtain ⟨xs, q1, c, P, ps, k, q2, rfl⟩ := key x y gx hl
    cases xs with
    | nil => cases q1
    | cons x0 xs =>
      injection q2 with e1 e2
      exact ⟨xs, by rw [List.length_cons] at q1; omega, e2.symm⟩
theorem SD_close {D : TL} : ∀ {o : Nat}, SDy true o D → SDy true (o + 1) ((5, 0) :: D)
  | 0, h => by
    have h : D = [] := h
    subst h
    intro x y gx hl
    rcases LY_one hl with ⟨-, rfl⟩ | ⟨q, -⟩ | ⟨q, -⟩
    · exact ⟨[], rfl, rfl⟩
    · exact absurd (show (5 : Int32) = 4 from q) (by decide)
    · exact absurd rfl q
  | o + 1, h => by
    intro x y gx hl
    obtain ⟨c, h1, h2⟩ := hl
    obtain ⟨xs, q1, q2⟩ := h x c gx h1
    rcases h2 with ⟨-, rfl⟩ | ⟨q, -⟩ | ⟨q, -⟩
    · refine ⟨c.2.2.2.1 :: xs, by rw [List.length_cons, q1], ?_⟩
      show c.2.2.2.1 :: c.2.2.2.2 = _
      rw [q2]
      rfl
    · exact absurd (show (5 : Int32) = 4 from q) (by decide)
    · exact absurd rfl q
theorem gD_sd {tx : Nat → Nat} : ∀ (f : Nat) (b : Bool) (o d a : Nat) (D : TL) (a' : Nat), gD tx f b o d a = .inl (D, a') → SDy b o D
  | 0, b, o, d, a, D, a', h => by cases h
  | f + 1, false, o, d, a, D, a', h => by
    have e0 : gD tx (f + 1) false o d a = if tx a = 40 then (if d + o < 9 then cns (4, 0) (gD tx f (decide (tx (a + 1) = 41)) (o + 1) d (a + 1)) else .inr a) else if cL (tx a) then cns (2, nI (tx a)) (gD tx f true o d (a + 1)) else if cD (tx (pA1 tx a)) then cns (1, pVal tx a) (gD tx f true o d (pDg tx 4 (pA1 tx a) 0).1) else .inr (pA1 tx a) := rfl
    rw [e0] at h
    split at h
    · split at h
      · obtain ⟨D2, q1, q2⟩ := cns_inv h
        rw [q2]
        exact SD_open (gD_sd f _ _ _ _ _ _ q1)
      · cases h
    · split at h
      · obtain ⟨D2, q1, q2⟩ := cns_inv h
        rw [q2]
        exact SD_atom (show ¬ (2 : Int32) = 5 by decide) (show ¬ (2 : Int32) = 4 by decide) (gD_sd f _ _ _ _ _ _ q1)
      · split at h
        · obtain ⟨D2, q1, q2⟩ := cns_inv h
          rw [q2]
          exact SD_atom (show ¬ (1 : Int32) = 5 by decide) (show ¬ (1 : Int32) = 4 by decide) (gD_sd f _ _ _ _ _ _ q1)
        · cases h
  | f + 1, true, 0, d, a, D, a', h => by
    have h : (Sum.inl ([], a) : (TL × Nat) ⊕ Nat) = .inl (D, a') := h
    cases h
    rfl
  | f + 1, true, o + 1, d, a, D, a', h => by
    have e1 : gD tx (f + 1) true (o + 1) d a = if tx a = 41 then cns (5, 0) (gD tx f true o d (a + 1)) else if tx a = 32 then gD tx f false (o + 1) d (a + 1) else .inr a := rfl
    rw [e1] at h
    split at h
    · obtain ⟨D2, q1, q2⟩ := cns_inv h
      rw [q2]
      exact SD_close (gD_sd f _ _ _ _ _ _ q1)
    · split at h
      · exact SDy_b (gD_sd f false (o + 1) d (a + 1) D a' h)
      · cases h
theorem row_ty {φ : Fr} : ∀ (ks : List Kd), (∀ k ∈ ks, LTy (k.1 φ)) → ∀ a b, GDl a → LY (rowT ks φ) a b → b.2.2.2.2 = a.2.2.2.2 ∧ ∀ k n e, WTl a a.2.2.2.1 (true :: k) n false e → WTl b b.2.2.2.1 k n false e
  | [], _, a, b, ha, h => by
    obtain ⟨c, h1, h2⟩ := h
    obtain ⟨d, q1, q2, q3, q4, q5, q6⟩ := L1_at ha (show ¬ (0 : Int32) = 5 by decide) (show ¬ (0 : Int32) = 4 by decide) (LY_one h1)
    refine ⟨?_, fun k n e hw => ?_⟩
    · obtain ⟨-, -, -, -, w, -⟩ := L1_int q5 h2
      exact w.trans q4
    · exact (const_wt (t := true) ha q5 q6 q1 q3 (fun _ => q2) h2 hw).1
  | k0 :: ks, hks, a, b, ha, h => by
    have h : LY (rowT ks φ ++ (k0.1 φ ++ [(1, 13)])) a b := h
    obtain ⟨c, h1, h2⟩ := LY_app _ _ _ _ h
    obtain ⟨d, h3, h4⟩ := LY_app _ _ _ _ h1
    have h3 := LY_one h3
    obtain ⟨g1, x1⟩ := L1_gd ha h3
    obtain ⟨g2, x2⟩ := LY_gd _ _ _ g1 h4
    obtain ⟨p1, p2⟩ := hks k0 List.mem_cons_self d c g1 h4
    obtain ⟨r1, r2⟩ := row_ty ks (fun k hk => hks k (List.mem_cons_of_mem _ hk)) c b g2 h2
    obtain ⟨-, -, -, -, w, -⟩ := L1_int ha h3
    refine ⟨r1.trans (p1.trans w), fun k n e hw => r2 k n e (p2 (true :: k) n e (o_13 ha h3 hw).1)⟩
theorem bo_ty {a : Kd} {ls : List Nat} {φ : Fr} (ht : LTy (a.1 (ls :: φ))) {x y : LSt} (hx : GDl x) (h : LY (boT a ls φ) x y) : y.2.2.2.2 = x.2.2.2.2 ∧ ∀ k n e, WTl x x.2.2.2.1 (false :: k) n (decide (0 < n)) e → WTl y y.2.2.2.1 k n false e := by
  obtain ⟨c, h1, h2⟩ := h
  obtain ⟨d, q1, q2, q3, q4, q5, q6⟩ := lst_wt hx h1 ht (k1 := []) (n1 := 1) (e1 := eRet) (fun a' b' g w => o_5 g w)
  obtain ⟨c0, p1, p2, p3, p4, p5, p6⟩ := L1_int q5 h2
  refine ⟨p4.trans q4, fun k n e hw => ?_⟩
  have ud : c.2.2.1 d := inU_pr (by rw [← q1]; exact q5.2.1.1)
  obtain ⟨y1, -, y3⟩ := p6.1 d ud
  obtain ⟨f1, hf1⟩ := WT_x q5 p6 (SI_h q5.1 ud) q3
  obtain ⟨f2, hf2⟩ := WT_x hx (XT_tr q6 p6) hx.2.1.1 hw
  rw [p1]
  refine ⟨f1 + f2 + 1, c0, 3, rfl, rfl, p2, Or.inr (Or.inr (Or.inl ⟨rfl, d, p3.trans q1, rfl, ?_, ?_⟩))⟩
  · rw [y3 rfl]
    exact wt_le hf1 f2
  · rw [y1, q2, Nat.add_comm f1 f2]
    exact wt_le hf2 f1
theorem LTy_app {A : TL} {i : Int32} (hA : LTy A) {k0 : Sk} {a b : LSt} (ha : GDl a) (h : LY (A ++ [(1, i)]) a b) {k : Sk} {n : Nat} {e : En} (hw : ∀ c, L1 (1, i) a c → WTl c c.2.2.2.1 (false :: k) n false e) : b.2.2.2.2 = a.2.2.2.2 ∧ WTl b b.2.2.2.1 k n false e := by
  obtain ⟨c, h1, h2⟩ := LY_app _ _ _ _ h
  have h1 := LY_one h1
  obtain ⟨g1, x1⟩ := L1_gd ha h1
  obtain ⟨p1, p2⟩ := hA c b g1 h2
  obtain ⟨-, -, -, -, w, -⟩ := L1_int ha h1
  exact ⟨p1.trans w, p2 k n e (hw c h1)⟩
end
section
def okTt (T : TL) : Prop := ∀ x ∈ T, x.1 = 6 → ∃ X, X < 10000 ∧ x.2 = nI X
theorem okT_l {A B : TL} (h : okTt (A ++ B)) : okTt A := fun x hx => h x (List.mem_append.mpr (Or.inl hx))
theorem okT_r {A B : TL} (h : okTt (A ++ B)) : okTt B := fun x hx => h x (List.mem_append.mpr (Or.inr hx))
theorem okT_c {t : Int32 × Int32} {B : TL} (h : okTt (t :: B)) : okTt B := fun x hx => h x (List.mem_cons_of_mem _ hx)
theorem okT_lst {i : Int32} {t : Tau} {φ : Fr} (h : okTt (lstT i t φ)) : okTt (t φ) := okT_l (okT_c h)
theorem okT_row {φ : Fr} : ∀ (ks : List Kd), okTt (rowT ks φ) → ∀ k ∈ ks, okTt (k.1 φ)
  | [], _, k, hk => by cases hk
  | k0 :: ks, h, k, hk => by
    have h : okTt (rowT ks φ ++ (k0.1 φ ++ [(1, 13)])) := h
    rcases List.mem_cons.mp hk with w | w
    · rw [w]
      exact okT_l (okT_r h)
    · exact okT_row ks (okT_l h) k w
theorem cd_1 {c : Nat} (h : ar c = 1) : cdO c = 10 ∨ cdO c = 11 ∨ cdO c = 12 := by
  unfold ar at h
  split at h
  · omega
  · split at h
    · next w =>
      rcases w with w | w | w <;> subst w
      · exact Or.inl rfl
      · exact Or.inr (Or.inl rfl)
      · exact Or.inr (Or.inr rfl)
    · split at h <;> omega
theorem cd_2 {c : Nat} (h : ar c = 2) : cdO c = 13 ∨ cdO c = 14 ∨ cdO c = 15 ∨ cdO c = 16 ∨ cdO c = 17 ∨ cdO c = 18 := by
  unfold ar at h
  split at h
  · next w =>
    rcases w with w | w | w | w | w | w <;> subst w <;> decide
  · split at h
    · omega
    · split at h <;> omega
def htT : TL → Option Nat
  | [] => some 0
  | t :: T => match htT T with
    | none => none
    | some h => if t.1 = 5 then some (h + 1) else if t.1 = 4 then (match h with
      | 0 => none
      | h + 1 => some h) else some h
def HTy (T : TL) (o : Nat) : Prop := ∀ B h, htT B = some h → htT (T ++ B) = some (h + o)
theorem HT_nil : HTy [] 0 := fun B h e => e
theorem HT_app {A B : TL} {o p : Nat} (hA : HTy A o) (hB : HTy B p) : HTy (A ++ B) (o + p) := by
  intro C h e
  rw [List.append_assoc, hA _ _ (hB C h e)]
  congr 1
  omega
theorem HT_c {t : Int32 × Int32} {A : TL} {o : Nat} (h5 : ¬ t.1 = 5) (h4 : ¬ t.1 = 4) (hA : HTy A o) : HTy (t :: A) o := by
  intro B h e
  show (match htT (A ++ B) with | none => none | some h => if t.1 = 5 then some (h + 1) else if t.1 = 4 then (match h with | 0 => none | h + 1 => some h) else some h) = _
  rw [hA B h e]
  show (if t.1 = 5 then some (h + o + 1) else if t.1 = 4 then _ else some (h + o)) = _
  rw [if_neg h5, if_neg h4]
theorem HT_5 {v : Int32} {A : TL} {o : Nat} (hA : HTy A o) : HTy ((5, v) :: A) (o + 1) := by
  intro B h e
  show (match htT (A ++ B) with | none => none | some h => if (5 : Int32) = 5 then some (h + 1) else if (5 : Int32) = 4 then (match h with | 0 => none | h + 1 => some h) else some h) = _
  rw [hA B h e]
  rfl
theorem HT_4 {v : Int32} {A : TL} {o : Nat} (hA : HTy A (o + 1)) : HTy ((4, v) :: A) o := by
  intro B h e
  show (match htT (A ++ B) with | none => none | some h => if (4 : Int32) = 5 then some (h + 1) else if (4 : Int32) = 4 then (match h with | 0 => none | h + 1 => some h) else some h) = _
  rw [hA B h e]
  rfl
theorem HT_1 {v : Int32} : HTy [(1, v)] 0 := HT_c (show ¬ (1 : Int32) = 5 by decide) (show ¬ (1 : Int32) = 4 by decide) HT_nil
theorem HT_lst {i : Int32} {t : Tau} {φ : Fr} (h : HTy (t φ) 0) : HTy (lstT i t φ) 0 := by
  unfold lstT
  have h1 : HTy [((1 : Int32), i), (5, 0)] 1 := HT_c (show ¬ (1 : Int32) = 5 by decide) (show ¬ (1 : Int32) = 4 by decide) (HT_5 HT_nil)
  have h2 := HT_app h h1
  exact HT_4 h2
theorem HT_row {φ : Fr} : ∀ (ks : List Kd), (∀ k ∈ ks, HTy (k.1 φ) 0) → HTy (rowT ks φ) 0
  | [], _ => HT_c (show ¬ (1 : Int32) = 5 by decide) (show ¬ (1 : Int32) = 4 by decide) (HT_c (show ¬ (0 : Int32) = 5 by decide) (show ¬ (0 : Int32) = 4 by decide) HT_nil)
  | k :: ks, h => HT_app (HT_row ks (fun k hk => h k (List.mem_cons_of_mem _ hk))) (HT_app (h k List.mem_cons_self) HT_1)
theorem HT_bo {a : Kd} {ls : List Nat} {φ : Fr} (h : HTy (a.1 (ls :: φ)) 0) : HTy (boT a ls φ) 0 := HT_c (show ¬ (1 : Int32) = 5 by decide) (show ¬ (1 : Int32) = 4 by decide) (HT_lst h)
theorem gD_ht {tx : Nat → Nat} : ∀ (f : Nat) (b : Bool) (o d a : Nat) (D : TL) (a' : Nat), gD tx f b o d a = .inl (D, a') → HTy D o
  | 0, b, o, d, a, D, a', h => by cases h
  | f + 1, false, o, d, a, D, a', h => by
    have e0 : gD tx (f + 1) false o d a = if tx a = 40 then (if d + o < 9 then cns (4, 0) (gD tx f (decide (tx (a + 1) = 41)) (o + 1) d (a + 1)) else .inr a) else if cL (tx a) then cns (2, nI (tx a)) (gD tx f true o d (a + 1)) else if cD (tx (pA1 tx a)) then cns (1, pVal tx a) (gD tx f true o d (pDg tx 4 (pA1 tx a) 0).1) else .inr (pA1 tx a) := rfl
    rw [e0] at h
    split at h
    · split at h
      · obtain ⟨D2, q1, q2⟩ := cns_inv h
        rw [q2]
        exact HT_4 (gD_ht f _ _ _ _ _ _ q1)
      · cases h
    · split at h
      · obtain ⟨D2, q1, q2⟩ := cns_inv h
        rw [q2]
        exact HT_c (show ¬ (2 : Int32) = 5 by decide) (show ¬ (2 : Int32) = 4 by decide) (gD_ht f _ _ _ _ _ _ q1)
      · split at h
        · obtain ⟨D2, q1, q2⟩ := cns_inv h
          rw [q2]
          exact HT_c (show ¬ (1 : Int32) = 5 by decide) (show ¬ (1 : Int32) = 4 by decide) (gD_ht f _ _ _ _ _ _ q1)
        · cases h
  | f + 1, true, 0, d, a, D, a', h => by
    have h : (Sum.inl ([], a) : (TL × Nat) ⊕ Nat) = .inl (D, a') := h
    cases h
    exact HT_nil
  | f + 1, true, o + 1, d, a, D, a', h => by
    have e1 : gD tx (f + 1) true (o + 1) d a = if tx a = 41 then cns (5, 0) (gD tx f true o d (a + 1)) else if tx a = 32 then gD tx f false (o + 1) d (a + 1) else .inr a := rfl
    rw [e1] at h
    split at h
    · obtain ⟨D2, q1, q2⟩ := cns_inv h
      rw [q2]
      exact HT_5 (gD_ht f _ _ _ _ _ _ q1)
    · split at h
      · exact gD_ht f false (o + 1) d (a + 1) D a' h
      · cases h
theorem sg_ht {c : Nat} {φ : Fr} : ∀ (ks : List Kd), (∀ k ∈ ks, HTy (k.1 φ) 0) → HTy (sgT c ks φ) 0
  | [], _ => HT_nil
  | [a], h => HT_app (h a List.mem_cons_self) HT_1
  | [a, b], h => by
    show HTy (if c = 46 then b.1 φ ++ (a.1 φ ++ [(1, 13)]) else a.1 φ ++ (b.1 φ ++ [(1, cdO c)])) 0
    have ha := h a List.mem_cons_self
    have hb := h b (List.mem_cons_of_mem _ List.mem_cons_self)
    split
    · exact HT_app hb (HT_app ha HT_1)
    · exact HT_app ha (HT_app hb HT_1)
  | [a, b, d], h => HT_app (h a List.mem_cons_self) (HT_c (show ¬ (1 : Int32) = 5 by decide) (show ¬ (1 : Int32) = 4 by decide) (HT_app (HT_lst (h b (List.mem_cons_of_mem _ List.mem_cons_self))) (HT_lst (h d (List.mem_cons_of_mem _ (List.mem_cons_of_mem _ List.mem_cons_self))))))
  | _ :: _ :: _ :: _ :: _, _ => HT_nil
theorem cR_ht {tx : Nat → Nat} {r : rM} : ∀ (f n e : Nat) (t : Tau), cR tx r f n e t → ∀ φ, HTy (t φ) 0
  | 0, n, e, t, h, φ => absurd h id
  | f + 1, n, e, t, h, φ => by
    rcases h with ⟨h1, h2, h3⟩ | ⟨h1, h2, c, a, h3, h4, h5, h6, h7⟩ | ⟨h1, h2, a, a', d, D, h3, h4, h5, h6, h7⟩ | ⟨ks, l, h1, h2, h3, hT⟩
    · rw [h3]
      exact HT_c (show ¬ (1 : Int32) = 5 by decide) (show ¬ (1 : Int32) = 4 by decide) HT_1
    · rw [h7]
      exact HT_c (show ¬ (1 : Int32) = 5 by decide) (show ¬ (1 : Int32) = 4 by decide) (HT_c (show ¬ (6 : Int32) = 5 by decide) (show ¬ (6 : Int32) = 4 by decide) HT_nil)
    · rw [h7]
      exact HT_c (show ¬ (1 : Int32) = 5 by decide) (show ¬ (1 : Int32) = 4 by decide) (gD_ht _ _ _ _ _ _ _ h5)
    · obtain ⟨A1, -⟩ := cKL_all (fun i m t w => cR_lt (tx := tx) (r := r) f i m t w.1) ks _ _ _ h1
      have kid : ∀ k ∈ ks, ∀ φ, HTy (k.1 φ) 0 := fun k hk φ => by
        obtain ⟨a, b, -, -, w⟩ := A1 k hk
        exact cR_ht f a b k.1 w.1 φ
      rcases hT with ⟨k1, c, c1, c2, c3, c4, rfl⟩ | ⟨k1, a, args, rfl, c2, rfl⟩ | ⟨k1, a, ls, rfl, c2, c3, c4, c5, rfl⟩ | ⟨k1, a, args, ls, rfl, c2, c3, c4, c5, rfl⟩ | ⟨k1, a, args, ls, rfl, c2, c3, c4, c5, rfl⟩
      · exact sg_ht ks (fun k hk => kid k hk φ)
      · exact HT_app (HT_row args (fun k hk => kid k (List.mem_cons_of_mem _ hk) φ)) (HT_app (kid a List.mem_cons_self φ) HT_1)
      · exact HT_bo (kid a List.mem_cons_self _)
      · exact HT_app (HT_row args (fun k hk => kid k (List.mem_cons_of_mem _ hk) φ)) (HT_app (HT_bo (kid a List.mem_cons_self _)) HT_1)
      · exact HT_c (show ¬ (1 : Int32) = 5 by decide) (show ¬ (1 : Int32) = 4 by decide) (HT_app (HT_row args (fun k hk => kid k (List.mem_cons_of_mem _ hk) _)) (HT_app (HT_bo (kid a List.mem_cons_self _)) HT_1))
theorem ty_app {A B : TL} (hA : LTy A) {a b : LSt} (ha : GDl a) (h : LY (A ++ B) a b) {k : Sk} {n : Nat} {e : En} (hB : ∀ c, LY B a c → GDl c → c.2.2.2.2 = a.2.2.2.2 ∧ WTl c c.2.2.2.1 (false :: k) n false e) : b.2.2.2.2 = a.2.2.2.2 ∧ WTl b b.2.2.2.1 k n false e := by
  obtain ⟨c, h1, h2⟩ := LY_app _ _ _ _ h
  obtain ⟨g1, -⟩ := LY_gd _ _ _ ha h1
  obtain ⟨w1, w2⟩ := hB c h1 g1
  obtain ⟨p1, p2⟩ := hA c b g1 h2
  exact ⟨p1.trans w1, p2 k n e w2⟩
theorem row_app {ks : List Kd} {φ : Fr} {B : TL} (hA : ∀ k ∈ ks, LTy (k.1 φ)) {a b : LSt} (ha : GDl a) (h : LY (rowT ks φ ++ B) a b) {k : Sk} {n : Nat} {e : En} (hB : ∀ c, LY B a c → GDl c → c.2.2.2.2 = a.2.2.2.2 ∧ WTl c c.2.2.2.1 (true :: k) n false e) : b.2.2.2.2 = a.2.2.2.2 ∧ WTl b b.2.2.2.1 k n false e := by
  obtain ⟨c, h1, h2⟩ := LY_app _ _ _ _ h
  obtain ⟨g1, -⟩ := LY_gd _ _ _ ha h1
  obtain ⟨w1, w2⟩ := hB c h1 g1
  obtain ⟨p1, p2⟩ := row_ty ks hA c b g1 h2
  exact ⟨p1.trans w1, p2 k n e w2⟩
theorem LTy_of {T : TL} (hp : ∀ a b, GDl a → LY T a b → b.2.2.2.2 = a.2.2.2.2) (hw : ∀ a b, GDl a → LY T a b → ∀ k n e, WTl a a.2.2.2.1 (false :: k) n false e → WTl b b.2.2.2.1 k n false e) : LTy T := fun a b ha h => ⟨hp a b ha h, hw a b ha h⟩
end
