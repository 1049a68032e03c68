def tpf (H T : Nat → Vl) (ro : Nat → Bool) (b : Bool) (S : Vl) : Prop := b = true → ∃ a f g, S = vPr a ∧ H a = vFn f ∧ T f = vPr g ∧ ro g = true
def dmx (H T : Nat → Vl) (ro : Nat → Bool) (D : Vl) (e : En) : Prop := ∃ f, dmp H T ro f D e
def TS (H T : Nat → Vl) (ro : Nat → Bool) (U : Nat → Prop) (R : Vl) : Prop := SI H T ro U ∧ inU U R ∧ wtx H T ro R [] 0 false eStop
def TI (H T : Nat → Vl) (ro : Nat → Bool) (U : Nat → Prop) (S E C D R : Vl) (k : Sk) (n : Nat) (b : Bool) (e : En) : Prop :=
  TS H T ro U R ∧ (inU U S ∧ stk H T ro k S) ∧ (inU U E ∧ env T ro n E) ∧ (inU U C ∧ wtx H T ro C k n b e) ∧ (inU U D ∧ dmx H T ro D e) ∧ tpf H T ro b S
section TY
variable {H T H' T' : Nat → Vl} {ro ro' : Nat → Bool} {U U' : Nat → Prop} {S E C D R : Vl} {k : Sk} {n : Nat} {b : Bool} {e : En}
theorem gF_pr {a : Nat} : gF H T ro (vPr a) := fun f q => by cases q
theorem gF_nil : gF H T ro vNil := fun f q => by cases q
theorem gF_int {x : Int32} : gF H T ro (vInt x) := fun f q => by cases q
theorem dmx_ext (hS : SI H T ro U) (hX : Ext U H T ro H' T' ro') (hv : inU U D) (h : dmx H T ro D e) : dmx H' T' ro' D e := by
  obtain ⟨f, h⟩ := h
  exact ⟨f, dmp_ext hS hX f _ _ hv h⟩
theorem isE_gF {v : Vl} {H' T' : Nat → Vl} {ro' : Nat → Bool} (h : isE ro v) : gF H' T' ro' v := by
  rcases h with rfl | ⟨b, rfl, _⟩
  · exact gF_nil
  · exact gF_pr
theorem stk_gF {v : Vl} {H' T' : Nat → Vl} {ro' : Nat → Bool} (h : stk H T ro k v) : gF H' T' ro' v := by
  cases k with
  | nil =>
    cases h
    exact gF_nil
  | cons x k =>
    obtain ⟨a, rfl, -⟩ := h
    exact gF_pr
theorem wtx_gF {v : Vl} {H' T' : Nat → Vl} {ro' : Nat → Bool} (h : wtx H T ro v k n b e) : gF H' T' ro' v := by
  obtain ⟨f, h⟩ := h
  cases f with
  | zero => exact absurd h id
  | succ f =>
    obtain ⟨c, i, rfl, -⟩ := h
    exact gF_pr
theorem dmx_gF {v : Vl} {H' T' : Nat → Vl} {ro' : Nat → Bool} (h : dmx H T ro v e) : gF H' T' ro' v := by
  obtain ⟨f, h⟩ := h
  cases f with
  | zero =>
    obtain ⟨-, rfl⟩ := h
    exact gF_nil
  | succ f =>
    rcases h with ⟨-, a, b, c, k, n, e', rfl, -⟩ | ⟨k, n, a, e', -, rfl, -⟩ <;> exact gF_pr
theorem TS_new {a : Nat} {h t : Vl} {β : Bool} (hS : TS H T ro U R) (hn : ¬ U a) (uh : inU U h) (ut : inU U t) (gh : gF H T ro h) (gt : gF H T ro t) (hb : β = true → isE ro t ∧ lst T h) : TS (upW H a h) (upW T a t) (upW ro a β) (addU U a) R :=
  ⟨SI_new hS.1 hn uh ut gh gt hb, inU_mono (fun _ => Or.inl) hS.2.1, wtx_ext hS.1 (Ext_new hn) hS.2.1 hS.2.2⟩
theorem new_in {a : Nat} : addU U a a := Or.inr rfl
theorem in_new {a : Nat} {v : Vl} (h : inU U v) : inU (addU U a) v := inU_mono (fun _ => Or.inl) h
theorem T_push {a : Nat} {v : Vl} {t : Bool} (hS : TS H T ro U R) (hn : ¬ U a) (uv : inU U v) (gv : gF H T ro v) (lv : t = true → lst T v) (h1 : inU U S ∧ stk H T ro k S) (h2 : inU U E ∧ env T ro n E) (h3 : inU U C ∧ wtx H T ro C (t :: k) n false e) (h4 : inU U D ∧ dmx H T ro D e) :
    TI (upW H a v) (upW T a S) (upW ro a false) (addU U a) (vPr a) E C D R (t :: k) n false e := by
  have hX : Ext U H T ro (upW H a v) (upW T a S) (upW ro a false) := Ext_new hn
  have e1 : upW T a S a = S := if_pos rfl
  have e2 : upW H a v a = v := if_pos rfl
  refine ⟨TS_new hS hn uv h1.1 gv (stk_gF h1.2) (fun q => by cases q), ⟨pr_inU new_in, a, rfl, if_pos rfl, fun q => (by rw [e2]; exact lst_ext hS.1 hX uv (lv q)), ?_⟩, ⟨in_new h2.1, env_ext hS.1 hX _ _ h2.1 h2.2⟩, ⟨in_new h3.1, wtx_ext hS.1 hX h3.1 h3.2⟩, ⟨in_new h4.1, dmx_ext hS.1 hX h4.1 h4.2⟩, fun q => by cases q⟩
  rw [e1]
  exact stk_ext hS.1 hX _ _ h1.1 h1.2
theorem stk_top {x : Bool} (hS : SI H T ro U) (h : inU U S ∧ stk H T ro (x :: k) S) : ∃ a, S = vPr a ∧ U a ∧ (inU U (T a) ∧ stk H T ro k (T a)) ∧ (inU U (H a) ∧ gF H T ro (H a)) ∧ (x = true → lst T (H a)) := by
  obtain ⟨a, rfl, h1, h2, h3⟩ := h.2
  have ua := inU_pr h.1
  exact ⟨a, rfl, ua, ⟨SI_t hS ua, h3⟩, ⟨SI_h hS ua, (hS a ua).2.1.1⟩, h2⟩
theorem T_fun {a1 a2 : Nat} {V : Vl} (hS : TS H T ro U R) (hn1 : ¬ U a1) (hn2 : ¬ addU U a1 a2) (uV : inU U V) (wV : wtx H T ro V [] 1 false eRet) (h1 : inU U S ∧ stk H T ro k S) (h2 : inU U E ∧ env T ro n E) (h3 : inU U C ∧ wtx H T ro C (false :: k) n (decide (0 < n)) e) (h4 : inU U D ∧ dmx H T ro D e) :
    TI (upW (upW H a1 V) a2 (vFn a1)) (upW (upW T a1 E) a2 S) (upW (upW ro a1 false) a2 false) (addU (addU U a1) a2) (vPr a2) E C D R (false :: k) n (decide (0 < n)) e := by
  have hX : Ext U H T ro (upW H a1 V) (upW T a1 E) (upW ro a1 false) := Ext_new hn1
  have hS1 : TS (upW H a1 V) (upW T a1 E) (upW ro a1 false) (addU U a1) R := TS_new hS hn1 uV h2.1 (wtx_gF wV) (isE_gF (env_0 h2.2)) (fun q => by cases q)
  have hX2 : Ext (addU U a1) (upW H a1 V) (upW T a1 E) (upW ro a1 false) (upW (upW H a1 V) a2 (vFn a1)) (upW (upW T a1 E) a2 S) (upW (upW ro a1 false) a2 false) := Ext_new hn2
  have e1 : upW H a1 V a1 = V := if_pos rfl
  have e2 : upW T a1 E a1 = E := if_pos rfl
  have e3 : upW ro a1 false a1 = false := if_pos rfl
  have gf : gF (upW H a1 V) (upW T a1 E) (upW ro a1 false) (vFn a1) := by
    intro f q
    cases q
    rw [e1, e2]
    exact ⟨e3, wtx_ext hS.1 hX uV wV, isE_ext hX h2.1 (env_0 h2.2)⟩
  have e4 : upW (upW T a1 E) a2 S a2 = S := if_pos rfl
  have hne : ¬ a1 = a2 := fun q => hn2 (Or.inr q.symm)
  refine ⟨TS_new hS1 hn2 (fn_inU new_in) (in_new h1.1) gf (stk_gF h1.2) (fun q => by cases q), ⟨pr_inU new_in, a2, rfl, if_pos rfl, (fun q => by cases q), ?_⟩, ⟨in_new (in_new h2.1), env_ext hS1.1 hX2 _ _ (in_new h2.1) (env_ext hS.1 hX _ _ h2.1 h2.2)⟩, ⟨in_new (in_new h3.1), wtx_ext hS1.1 hX2 (in_new h3.1) (wtx_ext hS.1 hX h3.1 h3.2)⟩, ⟨in_new (in_new h4.1), dmx_ext hS1.1 hX2 (in_new h4.1) (dmx_ext hS.1 hX h4.1 h4.2)⟩, fun q => ?_⟩
  · rw [e4]
    exact stk_ext hS1.1 hX2 _ _ (in_new h1.1) (stk_ext hS.1 hX _ _ h1.1 h1.2)
  · have hn0 : 0 < n := of_decide_eq_true q
    obtain ⟨n, rfl⟩ : ∃ j, n = j + 1 := ⟨n - 1, by omega⟩
    obtain ⟨g, rfl, r1, r2⟩ := h2.2
    have ug := inU_pr h2.1
    refine ⟨a2, a1, g, rfl, if_pos rfl, ?_, ?_⟩
    · show (if a1 = a2 then S else upW T a1 (vPr g) a1) = vPr g
      rw [if_neg hne]
      exact if_pos rfl
    · rw [(hX2 g (Or.inl ug)).2.1, (hX g ug).2.1]
      exact r1
theorem T_save {a1 a2 a3 : Nat} {V X : Vl} (hS : TS H T ro U R) (hn1 : ¬ U a1) (hn2 : ¬ addU U a1 a2) (hn3 : ¬ addU (addU U a1) a2 a3) (h1 : inU U S ∧ stk H T ro k S) (h2 : inU U V ∧ env T ro n V) (h3 : inU U X ∧ wtx H T ro X (false :: k) n false e) (h4 : inU U D ∧ dmx H T ro D e) :
    TS (upW (upW (upW H a1 X) a2 V) a3 S) (upW (upW (upW T a1 D) a2 (vPr a1)) a3 (vPr a2)) (upW (upW (upW ro a1 false) a2 false) a3 false) (addU (addU (addU U a1) a2) a3) R
    ∧ Ext U H T ro (upW (upW (upW H a1 X) a2 V) a3 S) (upW (upW (upW T a1 D) a2 (vPr a1)) a3 (vPr a2)) (upW (upW (upW ro a1 false) a2 false) a3 false)
    ∧ dmx (upW (upW (upW H a1 X) a2 V) a3 S) (upW (upW (upW T a1 D) a2 (vPr a1)) a3 (vPr a2)) (upW (upW (upW ro a1 false) a2 false) a3 false) (vPr a3) eRet := by
  have x1 : Ext U H T ro (upW H a1 X) (upW T a1 D) (upW ro a1 false) := Ext_new hn1
  have s1 : TS (upW H a1 X) (upW T a1 D) (upW ro a1 false) (addU U a1) R := TS_new hS hn1 h3.1 h4.1 (wtx_gF h3.2) (dmx_gF h4.2) (fun q => by cases q)
  have x2 : Ext (addU U a1) (upW H a1 X) (upW T a1 D) (upW ro a1 false) (upW (upW H a1 X) a2 V) (upW (upW T a1 D) a2 (vPr a1)) (upW (upW ro a1 false) a2 false) := Ext_new hn2
  have s2 : TS (upW (upW H a1 X) a2 V) (upW (upW T a1 D) a2 (vPr a1)) (upW (upW ro a1 false) a2 false) (addU (addU U a1) a2) R := TS_new s1 hn2 (in_new h2.1) (pr_inU new_in) (isE_gF (env_0 h2.2)) gF_pr (fun q => by cases q)
  have x3 : Ext (addU (addU U a1) a2) (upW (upW H a1 X) a2 V) (upW (upW T a1 D) a2 (vPr a1)) (upW (upW ro a1 false) a2 false) (upW (upW (upW H a1 X) a2 V) a3 S) (upW (upW (upW T a1 D) a2 (vPr a1)) a3 (vPr a2)) (upW (upW (upW ro a1 false) a2 false) a3 false) := Ext_new hn3
  have n21 : ¬ a1 = a2 := fun q => hn2 (Or.inr q.symm)
  have n31 : ¬ a1 = a3 := fun q => hn3 (Or.inl (Or.inr q.symm))
  have n32 : ¬ a2 = a3 := fun q => hn3 (Or.inr q.symm)
  have f1 : ∀ (α : Type) (F : Nat → α) (p q r : α), upW (upW (upW F a1 p) a2 q) a3 r a1 = p ∧ upW (upW (upW F a1 p) a2 q) a3 r a2 = q ∧ upW (upW (upW F a1 p) a2 q) a3 r a3 = r := by
    intro α F p q r
    unfold upW
    rw [if_neg n31, if_neg n21, if_pos rfl, if_neg n32, if_pos rfl, if_pos rfl]
    exact ⟨rfl, rfl, rfl⟩
  have xx : Ext U H T ro (upW (upW (upW H a1 X) a2 V) a3 S) (upW (upW (upW T a1 D) a2 (vPr a1)) a3 (vPr a2)) (upW (upW (upW ro a1 false) a2 false) a3 false) := by
    intro a ua
    obtain ⟨p1, p2, p3⟩ := x1 a ua
    obtain ⟨q1, q2, q3⟩ := x2 a (Or.inl ua)
    obtain ⟨r1, r2, r3⟩ := x3 a (Or.inl (Or.inl ua))
    exact ⟨r1.trans (q1.trans p1), r2.trans (q2.trans p2), fun w => (r3 (q2.trans (p2.trans w))).trans ((q3 (p2.trans w)).trans (p3 w))⟩
  refine ⟨TS_new s2 hn3 (in_new (in_new h1.1)) (pr_inU new_in) (stk_gF h1.2) gF_pr (fun q => by cases q), xx, ?_⟩
  obtain ⟨f, hd⟩ := dmx_ext hS.1 xx h4.1 h4.2
  refine ⟨f + 1, Or.inl ⟨rfl, a3, a2, a1, k, n, e, rfl, (f1 Bool ro _ _ _).2.2, ?_, (f1 Vl T _ _ _).2.2, (f1 Bool ro _ _ _).2.1, ?_, (f1 Vl T _ _ _).2.1, (f1 Bool ro _ _ _).1, ?_, ?_⟩⟩
  · rw [(f1 Vl H _ _ _).2.2]
    exact stk_ext hS.1 xx _ _ h1.1 h1.2
  · rw [(f1 Vl H _ _ _).2.1]
    exact env_ext hS.1 xx _ _ h2.1 h2.2
  · rw [(f1 Vl H _ _ _).1]
    exact wtx_ext hS.1 xx h3.1 h3.2
  · rw [(f1 Vl T _ _ _).1]
    exact hd
theorem T_call {a1 a2 a3 a4 f : Nat} {A X : Vl} (hS : TS H T ro U R) (hn1 : ¬ U a1) (hn2 : ¬ addU U a1 a2) (hn3 : ¬ addU (addU U a1) a2 a3) (hn4 : ¬ addU (addU (addU U a1) a2) a3 a4) (h1 : inU U S ∧ stk H T ro k S) (h2 : inU U E ∧ env T ro n E) (h3 : inU U X ∧ wtx H T ro X (false :: k) n false e) (h4 : inU U D ∧ dmx H T ro D e) (hA : inU U A ∧ gF H T ro A) (lA : lst T A) (uf : U f) (gf : gF H T ro (vFn f)) :
    TI (upW (upW (upW (upW H a1 X) a2 E) a3 S) a4 A) (upW (upW (upW (upW T a1 D) a2 (vPr a1)) a3 (vPr a2)) a4 (T f)) (upW (upW (upW (upW ro a1 false) a2 false) a3 false) a4 true) (addU (addU (addU (addU U a1) a2) a3) a4) vNil (vPr a4) (H f) (vPr a3) R [] 1 false eRet := by
  obtain ⟨s1, x1, d1⟩ := T_save (D := D) hS hn1 hn2 hn3 h1 h2 h3 h4
  obtain ⟨g1, g2, g3⟩ := gf f rfl
  have uu : ∀ {v : Vl}, inU U v → inU (addU (addU (addU U a1) a2) a3) v := fun h => in_new (in_new (in_new h))
  have uT := SI_t hS.1 uf
  have uH := SI_h hS.1 uf
  have x2 : Ext (addU (addU (addU U a1) a2) a3) (upW (upW (upW H a1 X) a2 E) a3 S) (upW (upW (upW T a1 D) a2 (vPr a1)) a3 (vPr a2)) (upW (upW (upW ro a1 false) a2 false) a3 false) (upW (upW (upW (upW H a1 X) a2 E) a3 S) a4 A) (upW (upW (upW (upW T a1 D) a2 (vPr a1)) a3 (vPr a2)) a4 (T f)) (upW (upW (upW (upW ro a1 false) a2 false) a3 false) a4 true) := Ext_new hn4
  have hE := isE_ext x1 uT g3
  have ud : inU (addU (addU (addU U a1) a2) a3) (vPr a3) := pr_inU new_in
  refine ⟨TS_new s1 hn4 (uu hA.1) (uu uT) (gF_ext hS.1 x1 hA.1 hA.2) (isE_gF hE) (fun _ => ⟨hE, lst_ext hS.1 x1 hA.1 lA⟩), ⟨nil_inU, rfl⟩, ⟨pr_inU new_in, a4, rfl, if_pos rfl, ?_⟩, ⟨in_new (uu uH), wtx_ext s1.1 x2 (uu uH) (wtx_ext hS.1 x1 uH g2)⟩, ⟨in_new ud, dmx_ext s1.1 x2 ud d1⟩, fun q => by cases q⟩
  have e1 : upW (upW (upW (upW T a1 D) a2 (vPr a1)) a3 (vPr a2)) a4 (T f) a4 = T f := if_pos rfl
  rw [e1]
  exact isE_ext x2 (uu uT) hE
theorem T_call7 {a1 a2 a3 f g : Nat} {A X V : Vl} (hS : TS H T ro U R) (hn1 : ¬ U a1) (hn2 : ¬ addU U a1 a2) (hn3 : ¬ addU (addU U a1) a2 a3) (h1 : inU U S ∧ stk H T ro k S) (h2 : inU U V ∧ env T ro n V) (h3 : inU U X ∧ wtx H T ro X (false :: k) n false e) (h4 : inU U D ∧ dmx H T ro D e) (hA : inU U A ∧ gF H T ro A) (lA : lst T A) (uf : U f) (gf : gF H T ro (vFn f)) (eg : T f = vPr g) (rg : ro g = true) :
    TI (upW (upW (upW (upW H a1 X) a2 V) a3 S) g A) (upW (upW (upW T a1 D) a2 (vPr a1)) a3 (vPr a2)) (upW (upW (upW ro a1 false) a2 false) a3 false) (addU (addU (addU U a1) a2) a3) vNil (vPr g) (H f) (vPr a3) R [] 1 false eRet := by
  obtain ⟨s1, x1, d1⟩ := T_save (D := D) hS hn1 hn2 hn3 h1 h2 h3 h4
  obtain ⟨g1, g2, g3⟩ := gf f rfl
  have uu : ∀ {v : Vl}, inU U v → inU (addU (addU (addU U a1) a2) a3) v := fun h => in_new (in_new (in_new h))
  have ug := SI_tp hS.1 uf eg
  have uH := SI_h hS.1 uf
  have rg1 : upW (upW (upW ro a1 false) a2 false) a3 false g = true := (x1 g ug).2.1.trans rg
  have x2 : Ext (addU (addU (addU U a1) a2) a3) (upW (upW (upW H a1 X) a2 V) a3 S) (upW (upW (upW T a1 D) a2 (vPr a1)) a3 (vPr a2)) (upW (upW (upW ro a1 false) a2 false) a3 false) (upW (upW (upW (upW H a1 X) a2 V) a3 S) g A) (upW (upW (upW T a1 D) a2 (vPr a1)) a3 (vPr a2)) (upW (upW (upW ro a1 false) a2 false) a3 false) := Ext_set rg1
  have ud : inU (addU (addU (addU U a1) a2) a3) (vPr a3) := pr_inU new_in
  have uT := SI_t hS.1 ug
  refine ⟨⟨SI_set s1.1 rg1 (uu hA.1) (gF_ext hS.1 x1 hA.1 hA.2) (lst_ext hS.1 x1 hA.1 lA), s1.2.1, wtx_ext s1.1 x2 s1.2.1 s1.2.2⟩, ⟨nil_inU, rfl⟩, ⟨uu (pr_inU ug), g, rfl, rg1, ?_⟩, ⟨uu uH, wtx_ext s1.1 x2 (uu uH) (wtx_ext hS.1 x1 uH g2)⟩, ⟨ud, dmx_ext s1.1 x2 ud d1⟩, fun q => by cases q⟩
  rw [(x1 g ug).1]
  exact isE_ext x1 uT ((hS.1 g ug).2.2 rg).1
theorem T_frame {a : Nat} (hS : TS H T ro U R) (hn : ¬ U a) (h1 : inU U S ∧ stk H T ro k S) (h2 : inU U E ∧ env T ro n E) (h3 : inU U C ∧ wtx H T ro C k (n + 1) false e) (h4 : inU U D ∧ dmx H T ro D e) :
    TI (upW H a vNil) (upW T a E) (upW ro a true) (addU U a) S (vPr a) C D R k (n + 1) false e := by
  have hX : Ext U H T ro (upW H a vNil) (upW T a E) (upW ro a true) := Ext_new hn
  have hE := env_0 h2.2
  refine ⟨TS_new hS hn nil_inU h2.1 gF_nil (isE_gF hE) (fun _ => ⟨hE, 0, rfl⟩), ⟨in_new h1.1, stk_ext hS.1 hX _ _ h1.1 h1.2⟩, ⟨pr_inU new_in, a, rfl, if_pos rfl, ?_⟩, ⟨in_new h3.1, wtx_ext hS.1 hX h3.1 h3.2⟩, ⟨in_new h4.1, dmx_ext hS.1 hX h4.1 h4.2⟩, fun q => by cases q⟩
  have e1 : upW T a E a = E := if_pos rfl
  rw [e1]
  exact env_ext hS.1 hX _ _ h2.1 h2.2
theorem T_choose {a : Nat} {X : Vl} {k' : Sk} {n' : Nat} (hS : TS H T ro U R) (hn : ¬ U a) (h1 : inU U S ∧ stk H T ro k S) (h2 : inU U E ∧ env T ro n E) (h3 : inU U C ∧ wtx H T ro C k n false (eJoin k' n')) (h4 : inU U D ∧ dmx H T ro D e) (h5 : inU U X ∧ wtx H T ro X k' n' false e) :
    TI (upW H a X) (upW T a D) (upW ro a false) (addU U a) S E C (vPr a) R k n false (eJoin k' n') := by
  have hX : Ext U H T ro (upW H a X) (upW T a D) (upW ro a false) := Ext_new hn
  have e1 : upW T a D a = D := if_pos rfl
  have e2 : upW H a X a = X := if_pos rfl
  refine ⟨TS_new hS hn h5.1 h4.1 (wtx_gF h5.2) (dmx_gF h4.2) (fun q => by cases q), ⟨in_new h1.1, stk_ext hS.1 hX _ _ h1.1 h1.2⟩, ⟨in_new h2.1, env_ext hS.1 hX _ _ h2.1 h2.2⟩, ⟨in_new h3.1, wtx_ext hS.1 hX h3.1 h3.2⟩, ⟨pr_inU new_in, ?_⟩, fun q => by cases q⟩
  obtain ⟨f, hd⟩ := dmx_ext hS.1 hX h4.1 h4.2
  refine ⟨f + 1, Or.inr ⟨k', n', a, e, rfl, rfl, if_pos rfl, ?_, ?_⟩⟩
  · rw [e2]
    exact wtx_ext hS.1 hX h5.1 h5.2
  · rw [e1]
    exact hd
theorem dmx_ret (hS : SI H T ro U) (h : inU U D ∧ dmx H T ro D eRet) : ∃ a b c k n e', D = vPr a ∧ T a = vPr b ∧ T b = vPr c ∧ U a ∧ U b ∧ U c ∧ (inU U (H a) ∧ stk H T ro k (H a)) ∧ (inU U (H b) ∧ env T ro n (H b)) ∧ (inU U (H c) ∧ wtx H T ro (H c) (false :: k) n false e') ∧ (inU U (T c) ∧ dmx H T ro (T c) e') := by
  obtain ⟨u, f, h⟩ := h
  cases f with
  | zero => exact absurd h.1 (by intro q; cases q)
  | succ f =>
    rcases h with ⟨-, a, b, c, k, n, e', rfl, a1, a2, a3, a4, a5, a6, a7, a8, a9⟩ | ⟨k, n, a, e', q, -⟩
    · have ua := inU_pr u
      have ub := SI_tp hS ua a3
      have uc := SI_tp hS ub a6
      exact ⟨a, b, c, k, n, e', rfl, a3, a6, ua, ub, uc, ⟨SI_h hS ua, a2⟩, ⟨SI_h hS ub, a5⟩, ⟨SI_h hS uc, a8⟩, ⟨SI_t hS uc, f, a9⟩⟩
    · cases q
theorem dmx_join (hS : SI H T ro U) (h : inU U D ∧ dmx H T ro D (eJoin k n)) : ∃ a e', D = vPr a ∧ U a ∧ (inU U (H a) ∧ wtx H T ro (H a) k n false e') ∧ (inU U (T a) ∧ dmx H T ro (T a) e') := by
  obtain ⟨u, f, h⟩ := h
  cases f with
  | zero => exact absurd h.1 (by intro q; cases q)
  | succ f =>
    rcases h with ⟨q, -⟩ | ⟨k, n, a, e', q, rfl, a1, a2, a3⟩
    · cases q
    · cases q
      have ua := inU_pr u
      exact ⟨a, e', rfl, ua, ⟨SI_h hS ua, a2⟩, ⟨SI_t hS ua, f, a3⟩⟩
theorem TI_sub (h : TI H T ro U S E C D R k n b e) (hm : ∀ a, U' a → U a) (hc : ∀ a, U' a → inU U' (H a) ∧ inU U' (T a)) (uS : inU U' S) (uE : inU U' E) (uC : inU U' C) (uD : inU U' D) (uR : inU U' R) : TI H T ro U' S E C D R k n b e := by
  obtain ⟨⟨s1, s2, s3⟩, ⟨-, h1⟩, ⟨-, h2⟩, ⟨-, h3⟩, ⟨-, h4⟩, h5⟩ := h
  exact ⟨⟨SI_sub s1 hm hc, uR, s3⟩, ⟨uS, h1⟩, ⟨uE, h2⟩, ⟨uC, h3⟩, ⟨uD, h4⟩, h5⟩
theorem TI_start (hS : TS H T ro U R) : TI H T ro U vNil vNil R vNil R [] 0 false eStop :=
  ⟨hS, ⟨nil_inU, rfl⟩, ⟨nil_inU, Or.inl rfl⟩, ⟨hS.2.1, hS.2.2⟩, ⟨nil_inU, 0, rfl, rfl⟩, fun q => by cases q⟩
end TY
