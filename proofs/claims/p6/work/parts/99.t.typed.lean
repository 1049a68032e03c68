abbrev Sk : Type := List Bool
abbrev En : Type := Unit ⊕ Unit ⊕ (Sk × Nat)
abbrev eStop : En := .inl ()
abbrev eRet : En := .inr (.inl ())
abbrev eJoin (k : Sk) (n : Nat) : En := .inr (.inr (k, n))
def lsN (T : Nat → Vl) : Nat → Vl → Prop
  | 0, v => v = vNil
  | m + 1, v => ∃ a, v = vPr a ∧ lsN T m (T a)
def lst (T : Nat → Vl) (v : Vl) : Prop := ∃ m, lsN T m v
def wt (H T : Nat → Vl) (ro : Nat → Bool) : Nat → Vl → Sk → Nat → Bool → En → Prop
  | 0, _, _, _, _, _ => False
  | f + 1, v, k, n, b, e => ∃ c i, v = vPr c ∧ ro c = false ∧ H c = vInt i ∧ (
      (i = 1 ∧ ∃ d t, T c = vPr d ∧ ro d = false ∧ (t = true → H d = vNil) ∧ wt H T ro f (T d) (t :: k) n false e)
    ∨ (i = 2 ∧ ∃ d x, T c = vPr d ∧ ro d = false ∧ (x < 10000 ∧ H d = vInt (nI x)) ∧ wt H T ro f (T d) (false :: k) n false e)
    ∨ (i = 3 ∧ ∃ d, T c = vPr d ∧ ro d = false ∧ wt H T ro f (H d) [] 1 false eRet ∧ wt H T ro f (T d) (false :: k) n (decide (0 < n)) e)
    ∨ (i = 4 ∧ ∃ x k', k = x :: true :: k' ∧ wt H T ro f (T c) (false :: k') n false e)
    ∨ (i = 5 ∧ ∃ x k', k = x :: k' ∧ e = eRet)
    ∨ (i = 6 ∧ wt H T ro f (T c) k (n + 1) false e)
    ∨ (i = 7 ∧ ∃ x k', k = x :: true :: k' ∧ 1 ≤ n ∧ b = true ∧ wt H T ro f (T c) (false :: k') (n - 1) false e)
    ∨ (i = 8 ∧ ∃ x k' d q, k = x :: k' ∧ T c = vPr d ∧ ro d = false ∧ T d = vPr q ∧ ro q = false ∧ wt H T ro f (H d) k' n false (eJoin (false :: k') n) ∧ wt H T ro f (H q) k' n false (eJoin (false :: k') n) ∧ wt H T ro f (T q) (false :: k') n false e)
    ∨ (i = 9 ∧ e = eJoin k n)
    ∨ ((i = 10 ∨ i = 11 ∨ i = 12) ∧ ∃ x k', k = x :: k' ∧ wt H T ro f (T c) (false :: k') n false e)
    ∨ ((i = 13 ∨ i = 14 ∨ i = 15 ∨ i = 16 ∨ i = 17 ∨ i = 18) ∧ ∃ x y t k', k = x :: y :: k' ∧ (t = true → i = 13 ∧ y = true) ∧ wt H T ro f (T c) (t :: k') n false e)
    ∨ (i = 19 ∧ ∃ x k', k = x :: k' ∧ e = eStop))
def inU (U : Nat → Prop) (v : Vl) : Prop := ∀ a, ceV v = some a → U a
def isE (ro : Nat → Bool) (v : Vl) : Prop := v = vNil ∨ ∃ b, v = vPr b ∧ ro b = true
def stk (H T : Nat → Vl) (ro : Nat → Bool) : Sk → Vl → Prop
  | [], v => v = vNil
  | x :: k, v => ∃ a, v = vPr a ∧ ro a = false ∧ (x = true → lst T (H a)) ∧ stk H T ro k (T a)
def env (T : Nat → Vl) (ro : Nat → Bool) : Nat → Vl → Prop
  | 0, v => isE ro v
  | n + 1, v => ∃ a, v = vPr a ∧ ro a = true ∧ env T ro n (T a)
def wtx (H T : Nat → Vl) (ro : Nat → Bool) (v : Vl) (k : Sk) (n : Nat) (b : Bool) (e : En) : Prop := ∃ f, wt H T ro f v k n b e
def dmp (H T : Nat → Vl) (ro : Nat → Bool) : Nat → Vl → En → Prop
  | 0, v, e => e = eStop ∧ v = vNil
  | f + 1, v, e =>
      (e = eRet ∧ ∃ a b c k n e', v = vPr a ∧ ro a = false ∧ stk H T ro k (H a) ∧ T a = vPr b ∧ ro b = false ∧ env T ro n (H b) ∧ T b = vPr c ∧ ro c = false ∧ wtx H T ro (H c) (false :: k) n false e' ∧ dmp H T ro f (T c) e')
    ∨ (∃ k n a e', e = eJoin k n ∧ v = vPr a ∧ ro a = false ∧ wtx H T ro (H a) k n false e' ∧ dmp H T ro f (T a) e')
def gF (H T : Nat → Vl) (ro : Nat → Bool) (v : Vl) : Prop := ∀ f, v = vFn f → ro f = false ∧ wtx H T ro (H f) [] 1 false eRet ∧ isE ro (T f)
def SI (H T : Nat → Vl) (ro : Nat → Bool) (U : Nat → Prop) : Prop := ∀ a, U a → (inU U (H a) ∧ inU U (T a)) ∧ (gF H T ro (H a) ∧ gF H T ro (T a)) ∧ (ro a = true → isE ro (T a) ∧ lst T (H a))
def Ext (U : Nat → Prop) (H T : Nat → Vl) (ro : Nat → Bool) (H' T' : Nat → Vl) (ro' : Nat → Bool) : Prop := ∀ a, U a → T' a = T a ∧ ro' a = ro a ∧ (ro a = false → H' a = H a)
section TY
variable {H T H' T' : Nat → Vl} {ro ro' : Nat → Bool} {U U' : Nat → Prop}
theorem inU_pr {a : Nat} (h : inU U (vPr a)) : U a := h a rfl
theorem inU_fn {a : Nat} (h : inU U (vFn a)) : U a := h a rfl
theorem pr_inU {a : Nat} (h : U a) : inU U (vPr a) := fun b e => by cases e; exact h
theorem fn_inU {a : Nat} (h : U a) : inU U (vFn a) := fun b e => by cases e; exact h
theorem nil_inU : inU U vNil := fun b e => by cases e
theorem int_inU {x : Int32} : inU U (vInt x) := fun b e => by cases e
theorem SI_h (h : SI H T ro U) {a : Nat} (ha : U a) : inU U (H a) := (h a ha).1.1
theorem SI_t (h : SI H T ro U) {a : Nat} (ha : U a) : inU U (T a) := (h a ha).1.2
theorem SI_tp (h : SI H T ro U) {a b : Nat} (ha : U a) (e : T a = vPr b) : U b := by
  have := SI_t h ha
  rw [e] at this
  exact inU_pr this
theorem wt_mono : ∀ (f : Nat) (v : Vl) (k : Sk) (n : Nat) (b : Bool) (e : En), wt H T ro f v k n b e → wt H T ro (f + 1) v k n b e
  | 0, v, k, n, b, e, h => absurd h id
  | f + 1, v, k, n, b, e, h => by
    obtain ⟨c, i, h1, h2, h3, h⟩ := h
    refine ⟨c, i, h1, h2, h3, ?_⟩
    rcases h with ⟨e1, d, t, a1, a2, a0, a3⟩ | ⟨e1, d, x, a1, a2, a3, a4⟩ | ⟨e1, d, a1, a2, a3, a4⟩ | ⟨e1, x, k', a1, a2⟩ | ⟨e1, a1⟩ | ⟨e1, a1⟩ | ⟨e1, x, k', a1, a2, a3, a4⟩ | ⟨e1, x, k', d, q, a1, a2, a3, a4, a5, a6, a7, a8⟩ | ⟨e1, a1⟩ | ⟨e1, x, k', a1, a2⟩ | ⟨e1, x, y, t, k', a1, a0, a2⟩ | ⟨e1, a1⟩
    · exact Or.inl ⟨e1, d, t, a1, a2, a0, wt_mono f _ _ _ _ _ a3⟩
    · exact Or.inr (Or.inl ⟨e1, d, x, a1, a2, a3, wt_mono f _ _ _ _ _ a4⟩)
    · exact Or.inr (Or.inr (Or.inl ⟨e1, d, a1, a2, wt_mono f _ _ _ _ _ a3, wt_mono f _ _ _ _ _ a4⟩))
    · exact Or.inr (Or.inr (Or.inr (Or.inl ⟨e1, x, k', a1, wt_mono f _ _ _ _ _ a2⟩)))
    · exact Or.inr (Or.inr (Or.inr (Or.inr (Or.inl ⟨e1, a1⟩))))
    · exact Or.inr (Or.inr (Or.inr (Or.inr (Or.inr (Or.inl ⟨e1, wt_mono f _ _ _ _ _ a1⟩)))))
    · exact Or.inr (Or.inr (Or.inr (Or.inr (Or.inr (Or.inr (Or.inl ⟨e1, x, k', a1, a2, a3, wt_mono f _ _ _ _ _ a4⟩))))))
    · exact Or.inr (Or.inr (Or.inr (Or.inr (Or.inr (Or.inr (Or.inr (Or.inl ⟨e1, x, k', d, q, a1, a2, a3, a4, a5, wt_mono f _ _ _ _ _ a6, wt_mono f _ _ _ _ _ a7, wt_mono f _ _ _ _ _ a8⟩)))))))
    · exact Or.inr (Or.inr (Or.inr (Or.inr (Or.inr (Or.inr (Or.inr (Or.inr (Or.inl ⟨e1, a1⟩))))))))
    · exact Or.inr (Or.inr (Or.inr (Or.inr (Or.inr (Or.inr (Or.inr (Or.inr (Or.inr (Or.inl ⟨e1, x, k', a1, wt_mono f _ _ _ _ _ a2⟩)))))))))
    · exact Or.inr (Or.inr (Or.inr (Or.inr (Or.inr (Or.inr (Or.inr (Or.inr (Or.inr (Or.inr (Or.inl ⟨e1, x, y, t, k', a1, a0, wt_mono f _ _ _ _ _ a2⟩))))))))))
    · exact Or.inr (Or.inr (Or.inr (Or.inr (Or.inr (Or.inr (Or.inr (Or.inr (Or.inr (Or.inr (Or.inr ⟨e1, a1⟩))))))))))
theorem wt_b (f : Nat) (v : Vl) (k : Sk) (n : Nat) (b : Bool) (e : En) (h : wt H T ro f v k n false e) : wt H T ro f v k n b e := by
  cases f with
  | zero => exact absurd h id
  | succ f =>
    obtain ⟨c, i, h1, h2, h3, h⟩ := h
    refine ⟨c, i, h1, h2, h3, ?_⟩
    rcases h with q | q | q | q | q | q | ⟨e1, x, k', a1, a2, a3, a4⟩ | q
    · exact Or.inl q
    · exact Or.inr (Or.inl q)
    · exact Or.inr (Or.inr (Or.inl q))
    · exact Or.inr (Or.inr (Or.inr (Or.inl q)))
    · exact Or.inr (Or.inr (Or.inr (Or.inr (Or.inl q))))
    · exact Or.inr (Or.inr (Or.inr (Or.inr (Or.inr (Or.inl q)))))
    · exact absurd a3 (by decide)
    · exact Or.inr (Or.inr (Or.inr (Or.inr (Or.inr (Or.inr (Or.inr q))))))
theorem wt_ext (hS : SI H T ro U) (hX : Ext U H T ro H' T' ro') : ∀ (f : Nat) (v : Vl) (k : Sk) (n : Nat) (b : Bool) (e : En), inU U v → wt H T ro f v k n b e → wt H' T' ro' f v k n b e
  | 0, v, k, n, b, e, _, h => absurd h id
  | f + 1, v, k, n, b, e, hv, h => by
    obtain ⟨c, i, h1, h2, h3, h⟩ := h
    subst h1
    have uc := inU_pr hv
    obtain ⟨x1, x2, x3⟩ := hX c uc
    have ut := SI_t hS uc
    have ih := wt_ext hS hX f
    refine ⟨c, i, rfl, x2.trans h2, (x3 h2).trans h3, ?_⟩
    rw [x1]
    rcases h with ⟨e1, d, t, a1, a2, a0, a3⟩ | ⟨e1, d, x, a1, a2, a3, a4⟩ | ⟨e1, d, a1, a2, a3, a4⟩ | ⟨e1, x, k', a1, a2⟩ | ⟨e1, a1⟩ | ⟨e1, a1⟩ | ⟨e1, x, k', a1, a2, a3, a4⟩ | ⟨e1, x, k', d, q, a1, a2, a3, a4, a5, a6, a7, a8⟩ | ⟨e1, a1⟩ | ⟨e1, x, k', a1, a2⟩ | ⟨e1, x, y, t, k', a1, a0, a2⟩ | ⟨e1, a1⟩
    · have ud := SI_tp hS uc a1
      obtain ⟨y1, y2, y3⟩ := hX d ud
      exact Or.inl ⟨e1, d, t, a1, y2.trans a2, fun w => (y3 a2).trans (a0 w), by rw [y1]; exact ih _ _ _ _ _ (SI_t hS ud) a3⟩
    · have ud := SI_tp hS uc a1
      obtain ⟨y1, y2, y3⟩ := hX d ud
      exact Or.inr (Or.inl ⟨e1, d, x, a1, y2.trans a2, ⟨a3.1, (y3 a2).trans a3.2⟩, by rw [y1]; exact ih _ _ _ _ _ (SI_t hS ud) a4⟩)
    · have ud := SI_tp hS uc a1
      obtain ⟨y1, y2, y3⟩ := hX d ud
      exact Or.inr (Or.inr (Or.inl ⟨e1, d, a1, y2.trans a2, by rw [y3 a2]; exact ih _ _ _ _ _ (SI_h hS ud) a3, by rw [y1]; exact ih _ _ _ _ _ (SI_t hS ud) a4⟩))
    · exact Or.inr (Or.inr (Or.inr (Or.inl ⟨e1, x, k', a1, ih _ _ _ _ _ ut a2⟩)))
    · exact Or.inr (Or.inr (Or.inr (Or.inr (Or.inl ⟨e1, a1⟩))))
    · exact Or.inr (Or.inr (Or.inr (Or.inr (Or.inr (Or.inl ⟨e1, ih _ _ _ _ _ ut a1⟩)))))
    · exact Or.inr (Or.inr (Or.inr (Or.inr (Or.inr (Or.inr (Or.inl ⟨e1, x, k', a1, a2, a3, ih _ _ _ _ _ ut a4⟩))))))
    · have ud := SI_tp hS uc a2
      have uq := SI_tp hS ud a4
      obtain ⟨y1, y2, y3⟩ := hX d ud
      obtain ⟨z1, z2, z3⟩ := hX q uq
      exact Or.inr (Or.inr (Or.inr (Or.inr (Or.inr (Or.inr (Or.inr (Or.inl ⟨e1, x, k', d, q, a1, a2, y2.trans a3, y1.trans a4, z2.trans a5, by rw [y3 a3]; exact ih _ _ _ _ _ (SI_h hS ud) a6, by rw [z3 a5]; exact ih _ _ _ _ _ (SI_h hS uq) a7, by rw [z1]; exact ih _ _ _ _ _ (SI_t hS uq) a8⟩)))))))
    · exact Or.inr (Or.inr (Or.inr (Or.inr (Or.inr (Or.inr (Or.inr (Or.inr (Or.inl ⟨e1, a1⟩))))))))
    · exact Or.inr (Or.inr (Or.inr (Or.inr (Or.inr (Or.inr (Or.inr (Or.inr (Or.inr (Or.inl ⟨e1, x, k', a1, ih _ _ _ _ _ ut a2⟩)))))))))
    · exact Or.inr (Or.inr (Or.inr (Or.inr (Or.inr (Or.inr (Or.inr (Or.inr (Or.inr (Or.inr (Or.inl ⟨e1, x, y, t, k', a1, a0, ih _ _ _ _ _ ut a2⟩))))))))))
    · exact Or.inr (Or.inr (Or.inr (Or.inr (Or.inr (Or.inr (Or.inr (Or.inr (Or.inr (Or.inr (Or.inr ⟨e1, a1⟩))))))))))
theorem wtx_ext (hS : SI H T ro U) (hX : Ext U H T ro H' T' ro') {v : Vl} {k : Sk} {n : Nat} {b : Bool} {e : En} (hv : inU U v) (h : wtx H T ro v k n b e) : wtx H' T' ro' v k n b e := by
  obtain ⟨f, h⟩ := h
  exact ⟨f, wt_ext hS hX f _ _ _ _ _ hv h⟩
theorem lsN_ext (hS : SI H T ro U) (hX : Ext U H T ro H' T' ro') : ∀ (k : Nat) (v : Vl), inU U v → lsN T k v → lsN T' k v
  | 0, v, _, h => h
  | k + 1, v, hv, h => by
    obtain ⟨a, rfl, h⟩ := h
    have ua := inU_pr hv
    refine ⟨a, rfl, ?_⟩
    rw [(hX a ua).1]
    exact lsN_ext hS hX k _ (SI_t hS ua) h
theorem lst_ext (hS : SI H T ro U) (hX : Ext U H T ro H' T' ro') {v : Vl} (hv : inU U v) (h : lst T v) : lst T' v := by
  obtain ⟨k, h⟩ := h
  exact ⟨k, lsN_ext hS hX k v hv h⟩
theorem stk_ext (hS : SI H T ro U) (hX : Ext U H T ro H' T' ro') : ∀ (k : Sk) (v : Vl), inU U v → stk H T ro k v → stk H' T' ro' k v
  | [], v, _, h => h
  | x :: k, v, hv, h => by
    obtain ⟨a, rfl, h0, h1, h⟩ := h
    have ua := inU_pr hv
    obtain ⟨x1, x2, x3⟩ := hX a ua
    refine ⟨a, rfl, x2.trans h0, fun q => ?_, ?_⟩
    · rw [x3 h0]
      exact lst_ext hS hX (SI_h hS ua) (h1 q)
    · rw [x1]
      exact stk_ext hS hX k _ (SI_t hS ua) h
theorem isE_ext (hX : Ext U H T ro H' T' ro') {v : Vl} (hv : inU U v) (h : isE ro v) : isE ro' v := by
  rcases h with h | ⟨b, rfl, h⟩
  · exact Or.inl h
  · exact Or.inr ⟨b, rfl, (hX b (inU_pr hv)).2.1.trans h⟩
theorem env_ext (hS : SI H T ro U) (hX : Ext U H T ro H' T' ro') : ∀ (n : Nat) (v : Vl), inU U v → env T ro n v → env T' ro' n v
  | 0, v, hv, h => isE_ext hX hv h
  | n + 1, v, hv, h => by
    obtain ⟨a, rfl, h1, h⟩ := h
    have ua := inU_pr hv
    refine ⟨a, rfl, (hX a ua).2.1.trans h1, ?_⟩
    rw [(hX a ua).1]
    exact env_ext hS hX n _ (SI_t hS ua) h
theorem dmp_ext (hS : SI H T ro U) (hX : Ext U H T ro H' T' ro') : ∀ (f : Nat) (v : Vl) (e : En), inU U v → dmp H T ro f v e → dmp H' T' ro' f v e
  | 0, v, e, _, h => h
  | f + 1, v, e, hv, h => by
    rcases h with ⟨e1, a, b, c, k, n, e', rfl, a1, a2, a3, a4, a5, a6, a7, a8, a9⟩ | ⟨k, n, a, e', e1, rfl, a1, a2, a3⟩
    · have ua := inU_pr hv
      have ub := SI_tp hS ua a3
      have uc := SI_tp hS ub a6
      obtain ⟨x1, x2, x3⟩ := hX a ua
      obtain ⟨y1, y2, y3⟩ := hX b ub
      obtain ⟨z1, z2, z3⟩ := hX c uc
      refine Or.inl ⟨e1, a, b, c, k, n, e', rfl, x2.trans a1, ?_, x1.trans a3, y2.trans a4, ?_, y1.trans a6, z2.trans a7, ?_, ?_⟩
      · rw [x3 a1]
        exact stk_ext hS hX _ _ (SI_h hS ua) a2
      · rw [y3 a4]
        exact env_ext hS hX _ _ (SI_h hS ub) a5
      · rw [z3 a7]
        exact wtx_ext hS hX (SI_h hS uc) a8
      · rw [z1]
        exact dmp_ext hS hX f _ _ (SI_t hS uc) a9
    · have ua := inU_pr hv
      obtain ⟨x1, x2, x3⟩ := hX a ua
      refine Or.inr ⟨k, n, a, e', e1, rfl, x2.trans a1, ?_, ?_⟩
      · rw [x3 a1]
        exact wtx_ext hS hX (SI_h hS ua) a2
      · rw [x1]
        exact dmp_ext hS hX f _ _ (SI_t hS ua) a3
theorem gF_ext (hS : SI H T ro U) (hX : Ext U H T ro H' T' ro') {v : Vl} (hv : inU U v) (h : gF H T ro v) : gF H' T' ro' v := by
  intro f e
  subst e
  obtain ⟨h1, h2, h3⟩ := h f rfl
  have uf := inU_fn hv
  obtain ⟨x1, x2, x3⟩ := hX f uf
  refine ⟨x2.trans h1, ?_, ?_⟩
  · rw [x3 h1]
    exact wtx_ext hS hX (SI_h hS uf) h2
  · rw [x1]
    exact isE_ext hX (SI_t hS uf) h3
theorem inU_mono (h : ∀ a, U a → U' a) {v : Vl} (hv : inU U v) : inU U' v := fun a e => h a (hv a e)
def addU (U : Nat → Prop) (n : Nat) : Nat → Prop := fun a => U a ∨ a = n
theorem Ext_new {n : Nat} {h t : Vl} {b : Bool} (hn : ¬ U n) : Ext U H T ro (upW H n h) (upW T n t) (upW ro n b) := by
  intro a ha
  have hne : ¬ a = n := fun e => hn (e ▸ ha)
  unfold upW
  rw [if_neg hne, if_neg hne, if_neg hne]
  exact ⟨rfl, rfl, fun _ => rfl⟩
theorem SI_new {n : Nat} {h t : Vl} {b : Bool} (hS : SI H T ro U) (hn : ¬ U n) (uh : inU U h) (ut : inU U t) (gh : gF H T ro h) (gt : gF H T ro t) (hb : b = true → isE ro t ∧ lst T h) : SI (upW H n h) (upW T n t) (upW ro n b) (addU U n) := by
  have hX : Ext U H T ro (upW H n h) (upW T n t) (upW ro n b) := Ext_new hn
  have hm : ∀ a, U a → addU U n a := fun a => Or.inl
  intro a ha
  by_cases e : a = n
  · subst e
    have e1 : upW H a h a = h := if_pos rfl
    have e2 : upW T a t a = t := if_pos rfl
    have e3 : upW ro a b a = b := if_pos rfl
    rw [e1, e2, e3]
    exact ⟨⟨inU_mono hm uh, inU_mono hm ut⟩, ⟨gF_ext hS hX uh gh, gF_ext hS hX ut gt⟩, fun q => ⟨isE_ext hX ut (hb q).1, lst_ext hS hX uh (hb q).2⟩⟩
  · have ua : U a := ha.resolve_right e
    have e1 : upW H n h a = H a := if_neg e
    have e2 : upW T n t a = T a := if_neg e
    have e3 : upW ro n b a = ro a := if_neg e
    rw [e1, e2, e3]
    obtain ⟨⟨s1, s2⟩, ⟨s3, s4⟩, s5⟩ := hS a ua
    exact ⟨⟨inU_mono hm s1, inU_mono hm s2⟩, ⟨gF_ext hS hX s1 s3, gF_ext hS hX s2 s4⟩, fun q => ⟨isE_ext hX s2 (s5 q).1, lst_ext hS hX s1 (s5 q).2⟩⟩
theorem Ext_set {n : Nat} {h : Vl} (hr : ro n = true) : Ext U H T ro (upW H n h) T ro := by
  intro a ha
  refine ⟨rfl, rfl, fun q => ?_⟩
  unfold upW
  rw [if_neg]
  rintro rfl
  rw [hr] at q
  cases q
theorem SI_set {n : Nat} {h : Vl} (hS : SI H T ro U) (hr : ro n = true) (uh : inU U h) (gh : gF H T ro h) (lh : lst T h) : SI (upW H n h) T ro U := by
  have hX : Ext U H T ro (upW H n h) T ro := Ext_set hr
  intro a ua
  obtain ⟨⟨s1, s2⟩, ⟨s3, s4⟩, s5⟩ := hS a ua
  refine ⟨⟨?_, s2⟩, ⟨?_, gF_ext hS hX s2 s4⟩, fun q => ⟨(s5 q).1, ?_⟩⟩
  · unfold upW
    split
    · exact uh
    · exact s1
  · by_cases e : a = n
    · have e1 : upW H n h a = h := if_pos e
      rw [e1]
      exact gF_ext hS hX uh gh
    · have e1 : upW H n h a = H a := if_neg e
      rw [e1]
      exact gF_ext hS hX s1 s3
  · unfold upW
    split
    · exact lh
    · exact (s5 q).2
theorem SI_sub (hS : SI H T ro U) (hm : ∀ a, U' a → U a) (hc : ∀ a, U' a → inU U' (H a) ∧ inU U' (T a)) : SI H T ro U' := fun a ha => ⟨hc a ha, (hS a (hm a ha)).2⟩
theorem env_0 : ∀ {n : Nat} {v : Vl}, env T ro n v → isE ro v
  | 0, _, h => h
  | n + 1, _, ⟨a, e, h, _⟩ => Or.inr ⟨a, e, h⟩
theorem env_le : ∀ {n m : Nat} {v : Vl}, SI H T ro U → inU U v → m ≤ n → env T ro n v → env T ro m v
  | n, 0, v, _, _, _, h => env_0 h
  | 0, m + 1, v, _, _, hm, h => by omega
  | n + 1, m + 1, v, hS, hv, hm, ⟨a, e, h1, h2⟩ => ⟨a, e, h1, env_le hS (by subst e; exact SI_t hS (inU_pr hv)) (by omega) h2⟩
end TY
