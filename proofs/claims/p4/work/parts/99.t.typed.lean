section
abbrev Sk : Type := List Bool
abbrev En : Type := Unit ⊕ Unit ⊕ (Sk × Nat)
abbrev eStop : En := .inl ()
abbrev eRet : En := .inr (.inl ())
abbrev eJoin (k : Sk) (n : Nat) : En := .inr (.inr (k, n))
def lsN (T : Nat → Vl) : Nat → Vl → Prop
  | 0, v => v = vNil
  | m + 1, v => ∃ a, v = vPr a ∧ lsN T m (T a)
def lst (T : Nat → Vl) (v : Vl) : Prop := ∃ m, lsN T m v
def wt (H T : Nat → Vl) (ro : Nat → Bool) : Nat → Vl → Sk → Nat → Bool → En → Prop
  | 0, _, _, _, _, _ => False
  | f + 1, v, k, n, b, e => ∃ c i, v = vPr c ∧ ro c = false ∧ H c = vInt i ∧ (
      (i = 1 ∧ ∃ d t, T c = vPr d ∧ ro d = false ∧ (t = true → H d = vNil) ∧ wt H T ro f (T d) (t :: k) n false e)
    ∨ (i = 2 ∧ ∃ d x, T c = vPr d ∧ ro d = false ∧ (x < 10000 ∧ H d = vInt (nI x)) ∧ wt H T ro f (T d) (false :: k) n false e)
    ∨ (i = 3 ∧ ∃ d, T c = vPr d ∧ ro d = false ∧ wt H T ro f (H d) [] 1 false eRet ∧ wt H T ro f (T d) (false :: k) n (decide (0 < n)) e)
    ∨ (i = 4 ∧ ∃ x k', k = x :: true :: k' ∧ wt H T ro f (T c) (false :: k') n false e)
    ∨ (i = 5 ∧ ∃ x k', k = x :: k' ∧ e = eRet)
    ∨ (i = 6 ∧ wt H T ro f (T c) k (n + 1) false e)
    ∨ (i = 7 ∧ ∃ x k', k = x :: true :: k' ∧ 1 ≤ n ∧ b = true ∧ wt H T ro f (T c) (false :: k') (n - 1) false e)
    ∨ (i = 8 ∧ ∃ x k' d q, k = x :: k' ∧ T c = vPr d ∧ ro d = false ∧ T d = vPr q ∧ ro q = false ∧ wt H T ro f (H d) k' n false (eJoin (false :: k') n) ∧ wt H T ro f (H q) k' n false (eJoin (false :: k') n) ∧ wt H T ro f (T q) (false :: k') n false e)
    ∨ (i = 9 ∧ e = eJoin k n)
    ∨ ((i = 10 ∨ i = 11 ∨ i = 12) ∧ ∃ x k', k = x :: k' ∧ wt H T ro f (T c) (false :: k') n false e)
    ∨ ((i = 13 ∨ i = 14 ∨ i = 15 ∨ i = 16 ∨ i = 17 ∨ i = 18) ∧ ∃ x y t k', k = x :: y :: k' ∧ (t = true → i = 13 ∧ y = true) ∧ wt H T ro f (T c) (t :: k') n false e)
    ∨ (i = 19 ∧ ∃ x k', k = x :: k' ∧ e = eStop))
def inU (U : Nat → Prop) (v : Vl) : Prop := ∀ a, ceV v = some a → U a
def isE (ro : Nat → Bool) (v : Vl) : Prop := v = vNil ∨ ∃ b, v = vPr b ∧ ro b = true
def stk (H T : Nat → Vl) (ro : Nat → Bool) : Sk → Vl → Prop
  | [], v => v = vNil
  | x :: k, v => ∃ a, v = vPr a ∧ ro a = false ∧ (x = true → lst T (H a)) ∧ stk H T ro k (T a)
def env (T : Nat → Vl) (ro : Nat → Bool) : Nat → Vl → Prop
  | 0, v => isE ro v
  | n + 1, v => ∃ a, v = vPr a ∧ ro a = true ∧ env T ro n (T a)
def wtx (H T : Nat → Vl) (ro : Nat → Bool) (v : Vl) (k : Sk) (n : Nat) (b : Bool) (e : En) : Prop := ∃ f, wt H T ro f v k n b e
def dmp (H T : Nat → Vl) (ro : Nat → Bool) : Nat → Vl → En → Prop
  | 0, v, e => e = eStop ∧ v = vNil
  | f + 1, v, e =>
      (e = eRet ∧ ∃ a b c k n e', v = vPr a ∧ ro a = false ∧ stk H T ro k (H a) ∧ T a = vPr b ∧ ro b = false ∧ env T ro n (H b) ∧ T b = vPr c ∧ ro c = false ∧ wtx H T ro (H c) (false :: k) n false e' ∧ dmp H T ro f (T c) e')
    ∨ (∃ k n a e', e = eJoin k n ∧ v = vPr a ∧ ro a = false ∧ wtx H T ro (H a) k n false e' ∧ dmp H T ro f (T a) e')
def gF (H T : Nat → Vl) (ro : Nat → Bool) (v : Vl) : Prop := ∀ f, v = vFn f → ro f = false ∧ wtx H T ro (H f) [] 1 false eRet ∧ isE ro (T f)
def SI (H T : Nat → Vl) (ro : Nat → Bool) (U : Nat → Prop) : Prop := ∀ a, U a → (inU U (H a) ∧ inU U (T a)) ∧ (gF H T ro (H a) ∧ gF H T ro (T a)) ∧ (ro a = true → isE ro (T a) ∧ lst T (H a))
def Ext (U : Nat → Prop) (H T : Nat → Vl) (ro : Nat → Bool) (H' T' : Nat → Vl) (ro' : Nat → Bool) : Prop := ∀ a, U a → T' a = T a ∧ ro' a = ro a ∧ (ro a = false → H' a = H a)
section TY
variable {H T H' T' : Nat → Vl} {ro ro' : Nat → Bool} {U U' : Nat → Prop}
theorem inU_pr {a : Nat} (h : inU U (vPr a)) : U a := h a rfl
theorem inU_fn {a : Nat} (h : inU U (vFn a)) : U a := h a rfl
theorem pr_inU {a : Nat} (h : U a) : inU U (vPr a) := fun b e => by cases e; exact h
theorem fn_inU {a : Nat} (h : U a) : inU U (vFn a) := fun b e => by cases e; exact h
theorem nil_inU : inU U vNil := fun b e => by cases e
theorem int_inU {x : Int32} : inU U (vInt x) := fun b e => by cases e
theorem SI_h (h : SI H T ro U) {a : Nat} (ha : U a) : inU U (H a) := (h a ha).1.1
theorem SI_t (h : SI H T ro U) {a : Nat} (ha : U a) : inU U (T a) := (h a ha).1.2
theorem SI_tp (h : SI H T ro U) {a b : Nat} (ha : U a) (e : T a = vPr b) : U b := by
  have := SI_t h ha
  rw [e] at this
  exact inU_pr this
theorem wt_mono : ∀ (f : Nat) (v : Vl) (k : Sk) (n : Nat) (b : Bool) (e : En), wt H T ro f v k n b e → wt H T ro (f + 1) v k n b e
  | 0, v, k, n, b, e, h => absurd h id
  | f + 1, v, k, n, b, e, h => by
    obtain ⟨c, i, h1, h2, h3, h⟩ := h
    refine ⟨c, i, h1, h2, h3, ?_⟩
    rcases h with ⟨e1, d, t, a1, a2, a0, a3⟩ | ⟨e1, d, x, a1, a2, a3, a4⟩ | ⟨e1, d, a1, a2, a3, a4⟩ | ⟨e1, x, k', a1, a2⟩ | ⟨e1, a1⟩ | ⟨e1, a1⟩ | ⟨e1, x, k', a1, a2, a3, a4⟩ | ⟨e1, x, k', d, q, a1, a2, a3, a4, a5, a6, a7, a8⟩ | ⟨e1, a1⟩ | ⟨e1, x, k', a1, a2⟩ | ⟨e1, x, y, t, k', a1, a0, a2⟩ | ⟨e1, a1⟩
    · exact Or.inl ⟨e1, d, t, a1, a2, a0, wt_mono f _ _ _ _ _ a3⟩
    · exact Or.inr (Or.inl ⟨e1, d, x, a1, a2, a3, wt_mono f _ _ _ _ _ a4⟩)
    · exact Or.inr (Or.inr (Or.inl ⟨e1, d, a1, a2, wt_mono f _ _ _ _ _ a3, wt_mono f _ _ _ _ _ a4⟩))
    · exact Or.inr (Or.inr (Or.inr (Or.inl ⟨e1, x, k', a1, wt_mono f _ _ _ _ _ a2⟩)))
    · exact Or.inr (Or.inr (Or.inr (Or.inr (Or.inl ⟨e1, a1⟩))))
    · exact Or.inr (Or.inr (Or.inr (Or.inr (Or.inr (Or.inl ⟨e1, wt_mono f _ _ _ _ _ a1⟩)))))
    · exact Or.inr (Or.inr (Or.inr (Or.inr (Or.inr (Or.inr (Or.inl ⟨e1, x, k', a1, a2, a3, wt_mono f _ _ _ _ _ a4⟩))))))
    · exact Or.inr (Or.inr (Or.inr (Or.inr (Or.inr (Or.inr (Or.inr (Or.inl ⟨e1, x, k', d, q, a1, a2, a3, a4, a5, wt_mono f _ _ _ _ _ a6, wt_mono f _ _ _ _ _ a7, wt_mono f _ _ _ _ _ a8⟩)))))))
    · exact Or.inr (Or.inr (Or.inr (Or.inr (Or.inr (Or.inr (Or.inr (Or.inr (Or.inl ⟨e1, a1⟩))))))))
    · exact Or.inr (Or.inr (Or.inr (Or.inr (Or.inr (Or.inr (Or.inr (Or.inr (Or.inr (Or.inl ⟨e1, x, k', a1, wt_mono f _ _ _ _ _ a2⟩)))))))))
    · exact Or.inr (Or.inr (Or.inr (Or.inr (Or.inr (Or.inr (Or.inr (Or.inr (Or.inr (Or.inr (Or.inl ⟨e1, x, y, t, k', a1, a0, wt_mono f _ _ _ _ _ a2⟩))))))))))
    · exact Or.inr (Or.inr (Or.inr (Or.inr (Or.inr (Or.inr (Or.inr (Or.inr (Or.inr (Or.inr (Or.inr ⟨e1, a1⟩))))))))))
theorem wt_b (f : Nat) (v : Vl) (k : Sk) (n : Nat) (b : Bool) (e : En) (h : wt H T ro f v k n false e) : wt H T ro f v k n b e := by
  cases f with
  | zero => exact absurd h id
  | succ f =>
    obtain ⟨c, i, h1, h2, h3, h⟩ := h
    refine ⟨c, i, h1, h2, h3, ?_⟩
    rcases h with q | q | q | q | q | q | ⟨e1, x, k', a1, a2, a3, a4⟩ | q
    · exact Or.inl q
    · exact Or.inr (Or.inl q)
    · exact Or.inr (Or.inr (Or.inl q))
    · exact Or.inr (Or.inr (Or.inr (Or.inl q)))
    · exact Or.inr (Or.inr (Or.inr (Or.inr (Or.inl q))))
    · exact Or.inr (Or.inr (Or.inr (Or.inr (Or.inr (Or.inl q)))))
    · exact absurd a3 (by decide)
    · exact Or.inr (Or.inr (Or.inr (Or.inr (Or.inr (Or.inr (Or.inr q))))))
theorem wt_ext (hS : SI H T ro U) (hX : Ext U H T ro H' T' ro') : ∀ (f : Nat) (v : Vl) (k : Sk) (n : Nat) (b : Bool) (e : En), inU U v → wt H T ro f v k n b e → wt H' T' ro' f v k n b e
  | 0, v, k, n, b, e, _, h => absurd h id
  | f + 1, v, k, n, b, e, hv, h => by
    obtain ⟨c, i, h1, h2, h3, h⟩ := h
    subst h1
    have uc := inU_pr hv
    obtain ⟨x1, x2, x3⟩ := hX c uc
    have ut := SI_t hS uc
    have ih := wt_ext hS hX f
    refine ⟨c, i, rfl, x2.trans h2, (x3 h2).trans h3, ?_⟩
    rw [x1]
    rcases h with ⟨e1, d, t, a1, a2, a0, a3⟩ | ⟨e1, d, x, a1, a2, a3, a4⟩ | ⟨e1, d, a1, a2, a3, a4⟩ | ⟨e1, x, k', a1, a2⟩ | ⟨e1, a1⟩ | ⟨e1, a1⟩ | ⟨e1, x, k', a1, a2, a3, a4⟩ | ⟨e1, x, k', d, q, a1, a2, a3, a4, a5, a6, a7, a8⟩ | ⟨e1, a1⟩ | ⟨e1, x, k', a1, a2⟩ | ⟨e1, x, y, t, k', a1, a0, a2⟩ | ⟨e1, a1⟩
    · have ud := SI_tp hS uc a1
      obtain ⟨y1, y2, y3⟩ := hX d ud
      exact Or.inl ⟨e1, d, t, a1, y2.trans a2, fun w => (y3 a2).trans (a0 w), by rw [y1]; exact ih _ _ _ _ _ (SI_t hS ud) a3⟩
    · have ud := SI_tp hS uc a1
      obtain ⟨y1, y2, y3⟩ := hX d ud
      exact Or.inr (Or.inl ⟨e1, d, x, a1, y2.trans a2, ⟨a3.1, (y3 a2).trans a3.2⟩, by rw [y1]; exact ih _ _ _ _ _ (SI_t hS ud) a4⟩)
    · have ud := SI_tp hS uc a1
      obtain ⟨y1, y2, y3⟩ := hX d ud
      exact Or.inr (Or.inr (Or.inl ⟨e1, d, a1, y2.trans a2, by rw [y3 a2]; exact ih _ _ _ _ _ (SI_h hS ud) a3, by rw [y1]; exact ih _ _ _ _ _ (SI_t hS ud) a4⟩))
    · exact Or.inr (Or.inr (Or.inr (Or.inl ⟨e1, x, k', a1, ih _ _ _ _ _ ut a2⟩)))
    · exact Or.inr (Or.inr (Or.inr (Or.inr (Or.inl ⟨e1, a1⟩))))
    · exact Or.inr (Or.inr (Or.inr (Or.inr (Or.inr (Or.inl ⟨e1, ih _ _ _ _ _ ut a1⟩)))))
    · exact Or.inr (Or.inr (Or.inr (Or.inr (Or.inr (Or.inr (Or.inl ⟨e1, x, k', a1, a2, a3, ih _ _ _ _ _ ut a4⟩))))))
    · have ud := SI_tp hS uc a2
      have uq := SI_tp hS ud a4
      obtain ⟨y1, y2, y3⟩ := hX d ud
      obtain ⟨z1, z2, z3⟩ := hX q uq
      exact Or.inr (Or.inr (Or.inr (Or.inr (Or.inr (Or.inr (Or.inr (Or.inl ⟨e1, x, k', d, q, a1, a2, y2.trans a3, y1.trans a4, z2.trans a5, by rw [y3 a3]; exact ih _ _ _ _ _ (SI_h hS ud) a6, by rw [z3 a5]; exact ih _ _ _ _ _ (SI_h hS uq) a7, by rw [z1]; exact ih _ _ _ _ _ (SI_t hS uq) a8⟩)))))))
    · exact Or.inr (Or.inr (Or.inr (Or.inr (Or.inr (Or.inr (Or.inr (Or.inr (Or.inl ⟨e1, a1⟩))))))))
    · exact Or.inr (Or.inr (Or.inr (Or.inr (Or.inr (Or.inr (Or.inr (Or.inr (Or.inr (Or.inl ⟨e1, x, k', a1, ih _ _ _ _ _ ut a2⟩)))))))))
    · exact Or.inr (Or.inr (Or.inr (Or.inr (Or.inr (Or.inr (Or.inr (Or.inr (Or.inr (Or.inr (Or.inl ⟨e1, x, y, t, k', a1, a0, ih _ _ _ _ _ ut a2⟩))))))))))
    · exact Or.inr (Or.inr (Or.inr (Or.inr (Or.inr (Or.inr (Or.inr (Or.inr (Or.inr (Or.inr (Or.inr ⟨e1, a1⟩))))))))))
theorem wtx_ext (hS : SI H T ro U) (hX : Ext U H T ro H' T' ro') {v : Vl} {k : Sk} {n : Nat} {b : Bool} {e : En} (hv : inU U v) (h : wtx H T ro v k n b e) : wtx H' T' ro' v k n b e := by
  obtain ⟨f, h⟩ := h
  exact ⟨f, wt_ext hS hX f _ _ _ _ _ hv h⟩
theorem lsN_ext (hS : SI H T ro U) (hX : Ext U H T ro H' T' ro') : ∀ (k : Nat) (v : Vl), inU U v → lsN T k v → lsN T' k v
  | 0, v, _, h => h
  | k + 1, v, hv, h => by
    obtain ⟨a, rfl, h⟩ := h
    have ua := inU_pr hv
    refine ⟨a, rfl, ?_⟩
    rw [(hX a ua).1]
    exact lsN_ext hS hX k _ (SI_t hS ua) h
theorem lst_ext (hS : SI H T ro U) (hX : Ext U H T ro H' T' ro') {v : Vl} (hv : inU U v) (h : lst T v) : lst T' v := by
  obtain ⟨k, h⟩ := h
  exact ⟨k, lsN_ext hS hX k v hv h⟩
theorem stk_ext (hS : SI H T ro U) (hX : Ext U H T ro H' T' ro') : ∀ (k : Sk) (v : Vl), inU U v → stk H T ro k v → stk H' T' ro' k v
  | [], v, _, h => h
  | x :: k, v, hv, h => by
    obtain ⟨a, rfl, h0, h1, h⟩ := h
    have ua := inU_pr hv
    obtain ⟨x1, x2, x3⟩ := hX a ua
    refine ⟨a, rfl, x2.trans h0, fun q => ?_, ?_⟩
    · rw [x3 h0]
      exact lst_ext hS hX (SI_h hS ua) (h1 q)
    · rw [x1]
      exact stk_ext hS hX k _ (SI_t hS ua) h
theorem isE_ext (hX : Ext U H T ro H' T' ro') {v : Vl} (hv : inU U v) (h : isE ro v) : isE ro' v := by
  rcases h with h | ⟨b, rfl, h⟩
  · exact Or.inl h
  · exact Or.inr ⟨b, rfl, (hX b (inU_pr hv)).2.1.trans h⟩
theorem env_ext (hS : SI H T ro U) (hX : Ext U H T ro H' T' ro') : ∀ (n : Nat) (v : Vl), inU U v → env T ro n v → env T' ro' n v
  | 0, v, hv, h => isE_ext hX hv h
  | n + 1, v, hv, h => by
    obtain ⟨a, rfl, h1, h⟩ := h
    have ua := inU_pr hv
    refine ⟨a, rfl, (hX a ua).2.1.trans h1, ?_⟩
    rw [(hX a ua).1]
    exact env_ext hS hX n _ (SI_t hS ua) h
theorem dmp_ext (hS : SI H T ro U) (hX : Ext U H T ro H' T' ro') : ∀ (f : Nat) (v : Vl) (e : En), inU U v → dmp H T ro f v e → dmp H' T' ro' f v e
  | 0, v, e, _, h => h
  | f + 1, v, e, hv, h => by
    rcases h with ⟨e1, a, b, c, k, n, e', rfl, a1, a2, a3, a4, a5, a6, a7, a8, a9⟩ | ⟨k, n, a, e', e1, rfl, a1, a2, a3⟩
    · have ua := inU_pr hv
      have ub := SI_tp hS ua a3
      have uc := SI_tp hS ub a6
      obtain ⟨x1, x2, x3⟩ := hX a ua
      obtain ⟨y1, y2, y3⟩ := hX b ub
      obtain ⟨z1, z2, z3⟩ := hX c uc
      refine Or.inl ⟨e1, a, b, c, k, n, e', rfl, x2.trans a1, ?_, x1.trans a3, y2.trans a4, ?_, y1.trans a6, z2.trans a7, ?_, ?_⟩
      · rw [x3 a1]
        exact stk_ext hS hX _ _ (SI_h hS ua) a2
      · rw [y3 a4]
        exact env_ext hS hX _ _ (SI_h hS ub) a5
      · rw [z3 a7]
        exact wtx_ext hS hX (SI_h hS uc) a8
      · rw [z1]
        exact dmp_ext hS hX f _ _ (SI_t hS uc) a9
    · have ua := inU_pr hv
      obtain ⟨x1, x2, x3⟩ := hX a ua
      refine Or.inr ⟨k, n, a, e', e1, rfl, x2.trans a1, ?_, ?_⟩
      · rw [x3 a1]
        exact wtx_ext hS hX (SI_h hS ua) a2
      · rw [x1]
        exact dmp_ext hS hX f _ _ (SI_t hS ua) a3
theorem gF_ext (hS : SI H T ro U) (hX : Ext U H T ro H' T' ro') {v : Vl} (hv : inU U v) (h : gF H T ro v) : gF H' T' ro' v := by
  intro f e
  subst e
  obtain ⟨h1, h2, h3⟩ := h f rfl
  have uf := inU_fn hv
  obtain ⟨x1, x2, x3⟩ := hX f uf
  refine ⟨x2.trans h1, ?_, ?_⟩
  · rw [x3 h1]
    exact wtx_ext hS hX (SI_h hS uf) h2
  · rw [x1]
    exact isE_ext hX (SI_t hS uf) h3
theorem inU_mono (h : ∀ a, U a → U' a) {v : Vl} (hv : inU U v) : inU U' v := fun a e => h a (hv a e)
def addU (U : Nat → Prop) (n : Nat) : Nat → Prop := fun a => U a ∨ a = n
theorem Ext_new {n : Nat} {h t : Vl} {b : Bool} (hn : ¬ U n) : Ext U H T ro (upW H n h) (upW T n t) (upW ro n b) := by
  intro a ha
  have hne : ¬ a = n := fun e => hn (e ▸ ha)
  unfold upW
  rw [if_neg hne, if_neg hne, if_neg hne]
  exact ⟨rfl, rfl, fun _ => rfl⟩
theorem SI_new {n : Nat} {h t : Vl} {b : Bool} (hS : SI H T ro U) (hn : ¬ U n) (uh : inU U h) (ut : inU U t) (gh : gF H T ro h) (gt : gF H T ro t) (hb : b = true → isE ro t ∧ lst T h) : SI (upW H n h) (upW T n t) (upW ro n b) (addU U n) := by
  have hX : Ext U H T ro (upW H n h) (upW T n t) (upW ro n b) := Ext_new hn
  have hm : ∀ a, U a → addU U n a := fun a => Or.inl
  intro a ha
  by_cases e : a = n
  · subst e
    have e1 : upW H a h a = h := if_pos rfl
    have e2 : upW T a t a = t := if_pos rfl
    have e3 : upW ro a b a = b := if_pos rfl
    rw [e1, e2, e3]
    exact ⟨⟨inU_mono hm uh, inU_mono hm ut⟩, ⟨gF_ext hS hX uh gh, gF_ext hS hX ut gt⟩, fun q => ⟨isE_ext hX ut (hb q).1, lst_ext hS hX uh (hb q).2⟩⟩
  · have ua : U a := ha.resolve_right e
    have e1 : upW H n h a = H a := if_neg e
    have e2 : upW T n t a = T a := if_neg e
    have e3 : upW ro n b a = ro a := if_neg e
    rw [e1, e2, e3]
    obtain ⟨⟨s1, s2⟩, ⟨s3, s4⟩, s5⟩ := hS a ua
    exact ⟨⟨inU_mono hm s1, inU_mono hm s2⟩, ⟨gF_ext hS hX s1 s3, gF_ext hS hX s2 s4⟩, fun q => ⟨isE_ext hX s2 (s5 q).1, lst_ext hS hX s1 (s5 q).2⟩⟩
theorem Ext_set {n : Nat} {h : Vl} (hr : ro n = true) : Ext U H T ro (upW H n h) T ro := by
  intro a ha
  refine ⟨rfl, rfl, fun q => ?_⟩
  unfold upW
  rw [if_neg]
  rintro rfl
  rw [hr] at q
  cases q
theorem SI_set {n : Nat} {h : Vl} (hS : SI H T ro U) (hr : ro n = true) (uh : inU U h) (gh : gF H T ro h) (lh : lst T h) : SI (upW H n h) T ro U := by
  have hX : Ext U H T ro (upW H n h) T ro := Ext_set hr
  intro a ua
  obtain ⟨⟨s1, s2⟩, ⟨s3, s4⟩, s5⟩ := hS a ua
  refine ⟨⟨?_, s2⟩, ⟨?_, gF_ext hS hX s2 s4⟩, fun q => ⟨(s5 q).1, ?_⟩⟩
  · unfold upW
    split
    · exact uh
    · exact s1
  · by_cases e : a = n
    · have e1 : upW H n h a = h := if_pos e
      rw [e1]
      exact gF_ext hS hX uh gh
    · have e1 : upW H n h a = H a := if_neg e
      rw [e1]
      exact gF_ext hS hX s1 s3
  · unfold upW
    split
    · exact lh
    · exact (s5 q).2
theorem SI_sub (hS : SI H T ro U) (hm : ∀ a, U' a → U a) (hc : ∀ a, U' a → inU U' (H a) ∧ inU U' (T a)) : SI H T ro U' := fun a ha => ⟨hc a ha, (hS a (hm a ha)).2⟩
theorem env_0 : ∀ {n : Nat} {v : Vl}, env T ro n v → isE ro v
  | 0, _, h => h
  | n + 1, _, ⟨a, e, h, _⟩ => Or.inr ⟨a, e, h⟩
theorem env_le : ∀ {n m : Nat} {v : Vl}, SI H T ro U → inU U v → m ≤ n → env T ro n v → env T ro m v
  | n, 0, v, _, _, _, h => env_0 h
  | 0, m + 1, v, _, _, hm, h => by omega
  | n + 1, m + 1, v, hS, hv, hm, ⟨a, e, h1, h2⟩ => ⟨a, e, h1, env_le hS (by subst e; exact SI_t hS (inU_pr hv)) (by omega) h2⟩
end TY
end
section
def tpf (H T : Nat → Vl) (ro : Nat → Bool) (b : Bool) (S : Vl) : Prop := b = true → ∃ a f g, S = vPr a ∧ H a = vFn f ∧ T f = vPr g ∧ ro g = true
def dmx (H T : Nat → Vl) (ro : Nat → Bool) (D : Vl) (e : En) : Prop := ∃ f, dmp H T ro f D e
def TS (H T : Nat → Vl) (ro : Nat → Bool) (U : Nat → Prop) (R : Vl) : Prop := SI H T ro U ∧ inU U R ∧ wtx H T ro R [] 0 false eStop
def TI (H T : Nat → Vl) (ro : Nat → Bool) (U : Nat → Prop) (S E C D R : Vl) (k : Sk) (n : Nat) (b : Bool) (e : En) : Prop :=
  TS H T ro U R ∧ (inU U S ∧ stk H T ro k S) ∧ (inU U E ∧ env T ro n E) ∧ (inU U C ∧ wtx H T ro C k n b e) ∧ (inU U D ∧ dmx H T ro D e) ∧ tpf H T ro b S
section TY
variable {H T H' T' : Nat → Vl} {ro ro' : Nat → Bool} {U U' : Nat → Prop} {S E C D R : Vl} {k : Sk} {n : Nat} {b : Bool} {e : En}
theorem gF_pr {a : Nat} : gF H T ro (vPr a) := fun f q => by cases q
theorem gF_nil : gF H T ro vNil := fun f q => by cases q
theorem gF_int {x : Int32} : gF H T ro (vInt x) := fun f q => by cases q
theorem dmx_ext (hS : SI H T ro U) (hX : Ext U H T ro H' T' ro') (hv : inU U D) (h : dmx H T ro D e) : dmx H' T' ro' D e := by
  obtain ⟨f, h⟩ := h
  exact ⟨f, dmp_ext hS hX f _ _ hv h⟩
theorem isE_gF {v : Vl} {H' T' : Nat → Vl} {ro' : Nat → Bool} (h : isE ro v) : gF H' T' ro' v := by
  rcases h with rfl | ⟨b, rfl, _⟩
  · exact gF_nil
  · exact gF_pr
theorem stk_gF {v : Vl} {H' T' : Nat → Vl} {ro' : Nat → Bool} (h : stk H T ro k v) : gF H' T' ro' v := by
  cases k with
  | nil =>
    cases h
    exact gF_nil
  | cons x k =>
    obtain ⟨a, rfl, -⟩ := h
    exact gF_pr
theorem wtx_gF {v : Vl} {H' T' : Nat → Vl} {ro' : Nat → Bool} (h : wtx H T ro v k n b e) : gF H' T' ro' v := by
  obtain ⟨f, h⟩ := h
  cases f with
  | zero => exact absurd h id
  | succ f =>
    obtain ⟨c, i, rfl, -⟩ := h
    exact gF_pr
theorem dmx_gF {v : Vl} {H' T' : Nat → Vl} {ro' : Nat → Bool} (h : dmx H T ro v e) : gF H' T' ro' v := by
  obtain ⟨f, h⟩ := h
  cases f with
  | zero =>
    obtain ⟨-, rfl⟩ := h
    exact gF_nil
  | succ f =>
    rcases h with ⟨-, a, b, c, k, n, e', rfl, -⟩ | ⟨k, n, a, e', -, rfl, -⟩ <;> exact gF_pr
theorem TS_new {a : Nat} {h t : Vl} {β : Bool} (hS : TS H T ro U R) (hn : ¬ U a) (uh : inU U h) (ut : inU U t) (gh : gF H T ro h) (gt : gF H T ro t) (hb : β = true → isE ro t ∧ lst T h) : TS (upW H a h) (upW T a t) (upW ro a β) (addU U a) R :=
  ⟨SI_new hS.1 hn uh ut gh gt hb, inU_mono (fun _ => Or.inl) hS.2.1, wtx_ext hS.1 (Ext_new hn) hS.2.1 hS.2.2⟩
theorem new_in {a : Nat} : addU U a a := Or.inr rfl
theorem in_new {a : Nat} {v : Vl} (h : inU U v) : inU (addU U a) v := inU_mono (fun _ => Or.inl) h
theorem T_push {a : Nat} {v : Vl} {t : Bool} (hS : TS H T ro U R) (hn : ¬ U a) (uv : inU U v) (gv : gF H T ro v) (lv : t = true → lst T v) (h1 : inU U S ∧ stk H T ro k S) (h2 : inU U E ∧ env T ro n E) (h3 : inU U C ∧ wtx H T ro C (t :: k) n false e) (h4 : inU U D ∧ dmx H T ro D e) :
    TI (upW H a v) (upW T a S) (upW ro a false) (addU U a) (vPr a) E C D R (t :: k) n false e := by
  have hX : Ext U H T ro (upW H a v) (upW T a S) (upW ro a false) := Ext_new hn
  have e1 : upW T a S a = S := if_pos rfl
  have e2 : upW H a v a = v := if_pos rfl
  refine ⟨TS_new hS hn uv h1.1 gv (stk_gF h1.2) (fun q => by cases q), ⟨pr_inU new_in, a, rfl, if_pos rfl, fun q => (by rw [e2]; exact lst_ext hS.1 hX uv (lv q)), ?_⟩, ⟨in_new h2.1, env_ext hS.1 hX _ _ h2.1 h2.2⟩, ⟨in_new h3.1, wtx_ext hS.1 hX h3.1 h3.2⟩, ⟨in_new h4.1, dmx_ext hS.1 hX h4.1 h4.2⟩, fun q => by cases q⟩
  rw [e1]
  exact stk_ext hS.1 hX _ _ h1.1 h1.2
theorem stk_top {x : Bool} (hS : SI H T ro U) (h : inU U S ∧ stk H T ro (x :: k) S) : ∃ a, S = vPr a ∧ U a ∧ (inU U (T a) ∧ stk H T ro k (T a)) ∧ (inU U (H a) ∧ gF H T ro (H a)) ∧ (x = true → lst T (H a)) := by
  obtain ⟨a, rfl, h1, h2, h3⟩ := h.2
  have ua := inU_pr h.1
  exact ⟨a, rfl, ua, ⟨SI_t hS ua, h3⟩, ⟨SI_h hS ua, (hS a ua).2.1.1⟩, h2⟩
theorem T_fun {a1 a2 : Nat} {V : Vl} (hS : TS H T ro U R) (hn1 : ¬ U a1) (hn2 : ¬ addU U a1 a2) (uV : inU U V) (wV : wtx H T ro V [] 1 false eRet) (h1 : inU U S ∧ stk H T ro k S) (h2 : inU U E ∧ env T ro n E) (h3 : inU U C ∧ wtx H T ro C (false :: k) n (decide (0 < n)) e) (h4 : inU U D ∧ dmx H T ro D e) :
    TI (upW (upW H a1 V) a2 (vFn a1)) (upW (upW T a1 E) a2 S) (upW (upW ro a1 false) a2 false) (addU (addU U a1) a2) (vPr a2) E C D R (false :: k) n (decide (0 < n)) e := by
  have hX : Ext U H T ro (upW H a1 V) (upW T a1 E) (upW ro a1 false) := Ext_new hn1
  have hS1 : TS (upW H a1 V) (upW T a1 E) (upW ro a1 false) (addU U a1) R := TS_new hS hn1 uV h2.1 (wtx_gF wV) (isE_gF (env_0 h2.2)) (fun q => by cases q)
  have hX2 : Ext (addU U a1) (upW H a1 V) (upW T a1 E) (upW ro a1 false) (upW (upW H a1 V) a2 (vFn a1)) (upW (upW T a1 E) a2 S) (upW (upW ro a1 false) a2 false) := Ext_new hn2
  have e1 : upW H a1 V a1 = V := if_pos rfl
  have e2 : upW T a1 E a1 = E := if_pos rfl
  have e3 : upW ro a1 false a1 = false := if_pos rfl
  have gf : gF (upW H a1 V) (upW T a1 E) (upW ro a1 false) (vFn a1) := by
    intro f q
    cases q
    rw [e1, e2]
    exact ⟨e3, wtx_ext hS.1 hX uV wV, isE_ext hX h2.1 (env_0 h2.2)⟩
  have e4 : upW (upW T a1 E) a2 S a2 = S := if_pos rfl
  have hne : ¬ a1 = a2 := fun q => hn2 (Or.inr q.symm)
  refine ⟨TS_new hS1 hn2 (fn_inU new_in) (in_new h1.1) gf (stk_gF h1.2) (fun q => by cases q), ⟨pr_inU new_in, a2, rfl, if_pos rfl, (fun q => by cases q), ?_⟩, ⟨in_new (in_new h2.1), env_ext hS1.1 hX2 _ _ (in_new h2.1) (env_ext hS.1 hX _ _ h2.1 h2.2)⟩, ⟨in_new (in_new h3.1), wtx_ext hS1.1 hX2 (in_new h3.1) (wtx_ext hS.1 hX h3.1 h3.2)⟩, ⟨in_new (in_new h4.1), dmx_ext hS1.1 hX2 (in_new h4.1) (dmx_ext hS.1 hX h4.1 h4.2)⟩, fun q => ?_⟩
  · rw [e4]
    exact stk_ext hS1.1 hX2 _ _ (in_new h1.1) (stk_ext hS.1 hX _ _ h1.1 h1.2)
  · have hn0 : 0 < n := of_decide_eq_true q
    obtain ⟨n, rfl⟩ : ∃ j, n = j + 1 := ⟨n - 1, by omega⟩
    obtain ⟨g, rfl, r1, r2⟩ := h2.2
    have ug := inU_pr h2.1
    refine ⟨a2, a1, g, rfl, if_pos rfl, ?_, ?_⟩
    · show (if a1 = a2 then S else upW T a1 (vPr g) a1) = vPr g
      rw [if_neg hne]
      exact if_pos rfl
    · rw [(hX2 g (Or.inl ug)).2.1, (hX g ug).2.1]
      exact r1
theorem T_save {a1 a2 a3 : Nat} {V X : Vl} (hS : TS H T ro U R) (hn1 : ¬ U a1) (hn2 : ¬ addU U a1 a2) (hn3 : ¬ addU (addU U a1) a2 a3) (h1 : inU U S ∧ stk H T ro k S) (h2 : inU U V ∧ env T ro n V) (h3 : inU U X ∧ wtx H T ro X (false :: k) n false e) (h4 : inU U D ∧ dmx H T ro D e) :
    TS (upW (upW (upW H a1 X) a2 V) a3 S) (upW (upW (upW T a1 D) a2 (vPr a1)) a3 (vPr a2)) (upW (upW (upW ro a1 false) a2 false) a3 false) (addU (addU (addU U a1) a2) a3) R
    ∧ Ext U H T ro (upW (upW (upW H a1 X) a2 V) a3 S) (upW (upW (upW T a1 D) a2 (vPr a1)) a3 (vPr a2)) (upW (upW (upW ro a1 false) a2 false) a3 false)
    ∧ dmx (upW (upW (upW H a1 X) a2 V) a3 S) (upW (upW (upW T a1 D) a2 (vPr a1)) a3 (vPr a2)) (upW (upW (upW ro a1 false) a2 false) a3 false) (vPr a3) eRet := by
  have x1 : Ext U H T ro (upW H a1 X) (upW T a1 D) (upW ro a1 false) := Ext_new hn1
  have s1 : TS (upW H a1 X) (upW T a1 D) (upW ro a1 false) (addU U a1) R := TS_new hS hn1 h3.1 h4.1 (wtx_gF h3.2) (dmx_gF h4.2) (fun q => by cases q)
  have x2 : Ext (addU U a1) (upW H a1 X) (upW T a1 D) (upW ro a1 false) (upW (upW H a1 X) a2 V) (upW (upW T a1 D) a2 (vPr a1)) (upW (upW ro a1 false) a2 false) := Ext_new hn2
  have s2 : TS (upW (upW H a1 X) a2 V) (upW (upW T a1 D) a2 (vPr a1)) (upW (upW ro a1 false) a2 false) (addU (addU U a1) a2) R := TS_new s1 hn2 (in_new h2.1) (pr_inU new_in) (isE_gF (env_0 h2.2)) gF_pr (fun q => by cases q)
  have x3 : Ext (addU (addU U a1) a2) (upW (upW H a1 X) a2 V) (upW (upW T a1 D) a2 (vPr a1)) (upW (upW ro a1 false) a2 false) (upW (upW (upW H a1 X) a2 V) a3 S) (upW (upW (upW T a1 D) a2 (vPr a1)) a3 (vPr a2)) (upW (upW (upW ro a1 false) a2 false) a3 false) := Ext_new hn3
  have n21 : ¬ a1 = a2 := fun q => hn2 (Or.inr q.symm)
  have n31 : ¬ a1 = a3 := fun q => hn3 (Or.inl (Or.inr q.symm))
  have n32 : ¬ a2 = a3 := fun q => hn3 (Or.inr q.symm)
  have f1 : ∀ (α : Type) (F : Nat → α) (p q r : α), upW (upW (upW F a1 p) a2 q) a3 r a1 = p ∧ upW (upW (upW F a1 p) a2 q) a3 r a2 = q ∧ upW (upW (upW F a1 p) a2 q) a3 r a3 = r := by
    intro α F p q r
    unfold upW
    rw [if_neg n31, if_neg n21, if_pos rfl, if_neg n32, if_pos rfl, if_pos rfl]
    exact ⟨rfl, rfl, rfl⟩
  have xx : Ext U H T ro (upW (upW (upW H a1 X) a2 V) a3 S) (upW (upW (upW T a1 D) a2 (vPr a1)) a3 (vPr a2)) (upW (upW (upW ro a1 false) a2 false) a3 false) := by
    intro a ua
    obtain ⟨p1, p2, p3⟩ := x1 a ua
    obtain ⟨q1, q2, q3⟩ := x2 a (Or.inl ua)
    obtain ⟨r1, r2, r3⟩ := x3 a (Or.inl (Or.inl ua))
    exact ⟨r1.trans (q1.trans p1), r2.trans (q2.trans p2), fun w => (r3 (q2.trans (p2.trans w))).trans ((q3 (p2.trans w)).trans (p3 w))⟩
  refine ⟨TS_new s2 hn3 (in_new (in_new h1.1)) (pr_inU new_in) (stk_gF h1.2) gF_pr (fun q => by cases q), xx, ?_⟩
  obtain ⟨f, hd⟩ := dmx_ext hS.1 xx h4.1 h4.2
  refine ⟨f + 1, Or.inl ⟨rfl, a3, a2, a1, k, n, e, rfl, (f1 Bool ro _ _ _).2.2, ?_, (f1 Vl T _ _ _).2.2, (f1 Bool ro _ _ _).2.1, ?_, (f1 Vl T _ _ _).2.1, (f1 Bool ro _ _ _).1, ?_, ?_⟩⟩
  · rw [(f1 Vl H _ _ _).2.2]
    exact stk_ext hS.1 xx _ _ h1.1 h1.2
  · rw [(f1 Vl H _ _ _).2.1]
    exact env_ext hS.1 xx _ _ h2.1 h2.2
  · rw [(f1 Vl H _ _ _).1]
    exact wtx_ext hS.1 xx h3.1 h3.2
  · rw [(f1 Vl T _ _ _).1]
    exact hd
theorem T_call {a1 a2 a3 a4 f : Nat} {A X : Vl} (hS : TS H T ro U R) (hn1 : ¬ U a1) (hn2 : ¬ addU U a1 a2) (hn3 : ¬ addU (addU U a1) a2 a3) (hn4 : ¬ addU (addU (addU U a1) a2) a3 a4) (h1 : inU U S ∧ stk H T ro k S) (h2 : inU U E ∧ env T ro n E) (h3 : inU U X ∧ wtx H T ro X (false :: k) n false e) (h4 : inU U D ∧ dmx H T ro D e) (hA : inU U A ∧ gF H T ro A) (lA : lst T A) (uf : U f) (gf : gF H T ro (vFn f)) :
    TI (upW (upW (upW (upW H a1 X) a2 E) a3 S) a4 A) (upW (upW (upW (upW T a1 D) a2 (vPr a1)) a3 (vPr a2)) a4 (T f)) (upW (upW (upW (upW ro a1 false) a2 false) a3 false) a4 true) (addU (addU (addU (addU U a1) a2) a3) a4) vNil (vPr a4) (H f) (vPr a3) R [] 1 false eRet := by
  obtain ⟨s1, x1, d1⟩ := T_save (D := D) hS hn1 hn2 hn3 h1 h2 h3 h4
  obtain ⟨g1, g2, g3⟩ := gf f rfl
  have uu : ∀ {v : Vl}, inU U v → inU (addU (addU (addU U a1) a2) a3) v := fun h => in_new (in_new (in_new h))
  have uT := SI_t hS.1 uf
  have uH := SI_h hS.1 uf
  have x2 : Ext (addU (addU (addU U a1) a2) a3) (upW (upW (upW H a1 X) a2 E) a3 S) (upW (upW (upW T a1 D) a2 (vPr a1)) a3 (vPr a2)) (upW (upW (upW ro a1 false) a2 false) a3 false) (upW (upW (upW (upW H a1 X) a2 E) a3 S) a4 A) (upW (upW (upW (upW T a1 D) a2 (vPr a1)) a3 (vPr a2)) a4 (T f)) (upW (upW (upW (upW ro a1 false) a2 false) a3 false) a4 true) := Ext_new hn4
  have hE := isE_ext x1 uT g3
  have ud : inU (addU (addU (addU U a1) a2) a3) (vPr a3) := pr_inU new_in
  refine ⟨TS_new s1 hn4 (uu hA.1) (uu uT) (gF_ext hS.1 x1 hA.1 hA.2) (isE_gF hE) (fun _ => ⟨hE, lst_ext hS.1 x1 hA.1 lA⟩), ⟨nil_inU, rfl⟩, ⟨pr_inU new_in, a4, rfl, if_pos rfl, ?_⟩, ⟨in_new (uu uH), wtx_ext s1.1 x2 (uu uH) (wtx_ext hS.1 x1 uH g2)⟩, ⟨in_new ud, dmx_ext s1.1 x2 ud d1⟩, fun q => by cases q⟩
  have e1 : upW (upW (upW (upW T a1 D) a2 (vPr a1)) a3 (vPr a2)) a4 (T f) a4 = T f := if_pos rfl
  rw [e1]
  exact isE_ext x2 (uu uT) hE
theorem T_call7 {a1 a2 a3 f g : Nat} {A X V : Vl} (hS : TS H T ro U R) (hn1 : ¬ U a1) (hn2 : ¬ addU U a1 a2) (hn3 : ¬ addU (addU U a1) a2 a3) (h1 : inU U S ∧ stk H T ro k S) (h2 : inU U V ∧ env T ro n V) (h3 : inU U X ∧ wtx H T ro X (false :: k) n false e) (h4 : inU U D ∧ dmx H T ro D e) (hA : inU U A ∧ gF H T ro A) (lA : lst T A) (uf : U f) (gf : gF H T ro (vFn f)) (eg : T f = vPr g) (rg : ro g = true) :
    TI (upW (upW (upW (upW H a1 X) a2 V) a3 S) g A) (upW (upW (upW T a1 D) a2 (vPr a1)) a3 (vPr a2)) (upW (upW (upW ro a1 false) a2 false) a3 false) (addU (addU (addU U a1) a2) a3) vNil (vPr g) (H f) (vPr a3) R [] 1 false eRet := by
  obtain ⟨s1, x1, d1⟩ := T_save (D := D) hS hn1 hn2 hn3 h1 h2 h3 h4
  obtain ⟨g1, g2, g3⟩ := gf f rfl
  have uu : ∀ {v : Vl}, inU U v → inU (addU (addU (addU U a1) a2) a3) v := fun h => in_new (in_new (in_new h))
  have ug := SI_tp hS.1 uf eg
  have uH := SI_h hS.1 uf
  have rg1 : upW (upW (upW ro a1 false) a2 false) a3 false g = true := (x1 g ug).2.1.trans rg
  have x2 : Ext (addU (addU (addU U a1) a2) a3) (upW (upW (upW H a1 X) a2 V) a3 S) (upW (upW (upW T a1 D) a2 (vPr a1)) a3 (vPr a2)) (upW (upW (upW ro a1 false) a2 false) a3 false) (upW (upW (upW (upW H a1 X) a2 V) a3 S) g A) (upW (upW (upW T a1 D) a2 (vPr a1)) a3 (vPr a2)) (upW (upW (upW ro a1 false) a2 false) a3 false) := Ext_set rg1
  have ud : inU (addU (addU (addU U a1) a2) a3) (vPr a3) := pr_inU new_in
  have uT := SI_t hS.1 ug
  refine ⟨⟨SI_set s1.1 rg1 (uu hA.1) (gF_ext hS.1 x1 hA.1 hA.2) (lst_ext hS.1 x1 hA.1 lA), s1.2.1, wtx_ext s1.1 x2 s1.2.1 s1.2.2⟩, ⟨nil_inU, rfl⟩, ⟨uu (pr_inU ug), g, rfl, rg1, ?_⟩, ⟨uu uH, wtx_ext s1.1 x2 (uu uH) (wtx_ext hS.1 x1 uH g2)⟩, ⟨ud, dmx_ext s1.1 x2 ud d1⟩, fun q => by cases q⟩
  rw [(x1 g ug).1]
  exact isE_ext x1 uT ((hS.1 g ug).2.2 rg).1
theorem T_frame {a : Nat} (hS : TS H T ro U R) (hn : ¬ U a) (h1 : inU U S ∧ stk H T ro k S) (h2 : inU U E ∧ env T ro n E) (h3 : inU U C ∧ wtx H T ro C k (n + 1) false e) (h4 : inU U D ∧ dmx H T ro D e) :
    TI (upW H a vNil) (upW T a E) (upW ro a true) (addU U a) S (vPr a) C D R k (n + 1) false e := by
  have hX : Ext U H T ro (upW H a vNil) (upW T a E) (upW ro a true) := Ext_new hn
  have hE := env_0 h2.2
  refine ⟨TS_new hS hn nil_inU h2.1 gF_nil (isE_gF hE) (fun _ => ⟨hE, 0, rfl⟩), ⟨in_new h1.1, stk_ext hS.1 hX _ _ h1.1 h1.2⟩, ⟨pr_inU new_in, a, rfl, if_pos rfl, ?_⟩, ⟨in_new h3.1, wtx_ext hS.1 hX h3.1 h3.2⟩, ⟨in_new h4.1, dmx_ext hS.1 hX h4.1 h4.2⟩, fun q => by cases q⟩
  have e1 : upW T a E a = E := if_pos rfl
  rw [e1]
  exact env_ext hS.1 hX _ _ h2.1 h2.2
theorem T_choose {a : Nat} {X : Vl} {k' : Sk} {n' : Nat} (hS : TS H T ro U R) (hn : ¬ U a) (h1 : inU U S ∧ stk H T ro k S) (h2 : inU U E ∧ env T ro n E) (h3 : inU U C ∧ wtx H T ro C k n false (eJoin k' n')) (h4 : inU U D ∧ dmx H T ro D e) (h5 : inU U X ∧ wtx H T ro X k' n' false e) :
    TI (upW H a X) (upW T a D) (upW ro a false) (addU U a) S E C (vPr a) R k n false (eJoin k' n') := by
  have hX : Ext U H T ro (upW H a X) (upW T a D) (upW ro a false) := Ext_new hn
  have e1 : upW T a D a = D := if_pos rfl
  have e2 : upW H a X a = X := if_pos rfl
  refine ⟨TS_new hS hn h5.1 h4.1 (wtx_gF h5.2) (dmx_gF h4.2) (fun q => by cases q), ⟨in_new h1.1, stk_ext hS.1 hX _ _ h1.1 h1.2⟩, ⟨in_new h2.1, env_ext hS.1 hX _ _ h2.1 h2.2⟩, ⟨in_new h3.1, wtx_ext hS.1 hX h3.1 h3.2⟩, ⟨pr_inU new_in, ?_⟩, fun q => by cases q⟩
  obtain ⟨f, hd⟩ := dmx_ext hS.1 hX h4.1 h4.2
  refine ⟨f + 1, Or.inr ⟨k', n', a, e, rfl, rfl, if_pos rfl, ?_, ?_⟩⟩
  · rw [e2]
    exact wtx_ext hS.1 hX h5.1 h5.2
  · rw [e1]
    exact hd
theorem dmx_ret (hS : SI H T ro U) (h : inU U D ∧ dmx H T ro D eRet) : ∃ a b c k n e', D = vPr a ∧ T a = vPr b ∧ T b = vPr c ∧ U a ∧ U b ∧ U c ∧ (inU U (H a) ∧ stk H T ro k (H a)) ∧ (inU U (H b) ∧ env T ro n (H b)) ∧ (inU U (H c) ∧ wtx H T ro (H c) (false :: k) n false e') ∧ (inU U (T c) ∧ dmx H T ro (T c) e') := by
  obtain ⟨u, f, h⟩ := h
  cases f with
  | zero => exact absurd h.1 (by intro q; cases q)
  | succ f =>
    rcases h with ⟨-, a, b, c, k, n, e', rfl, a1, a2, a3, a4, a5, a6, a7, a8, a9⟩ | ⟨k, n, a, e', q, -⟩
    · have ua := inU_pr u
      have ub := SI_tp hS ua a3
      have uc := SI_tp hS ub a6
      exact ⟨a, b, c, k, n, e', rfl, a3, a6, ua, ub, uc, ⟨SI_h hS ua, a2⟩, ⟨SI_h hS ub, a5⟩, ⟨SI_h hS uc, a8⟩, ⟨SI_t hS uc, f, a9⟩⟩
    · cases q
theorem dmx_join (hS : SI H T ro U) (h : inU U D ∧ dmx H T ro D (eJoin k n)) : ∃ a e', D = vPr a ∧ U a ∧ (inU U (H a) ∧ wtx H T ro (H a) k n false e') ∧ (inU U (T a) ∧ dmx H T ro (T a) e') := by
  obtain ⟨u, f, h⟩ := h
  cases f with
  | zero => exact absurd h.1 (by intro q; cases q)
  | succ f =>
    rcases h with ⟨q, -⟩ | ⟨k, n, a, e', q, rfl, a1, a2, a3⟩
    · cases q
    · cases q
      have ua := inU_pr u
      exact ⟨a, e', rfl, ua, ⟨SI_h hS ua, a2⟩, ⟨SI_t hS ua, f, a3⟩⟩
theorem TI_sub (h : TI H T ro U S E C D R k n b e) (hm : ∀ a, U' a → U a) (hc : ∀ a, U' a → inU U' (H a) ∧ inU U' (T a)) (uS : inU U' S) (uE : inU U' E) (uC : inU U' C) (uD : inU U' D) (uR : inU U' R) : TI H T ro U' S E C D R k n b e := by
  obtain ⟨⟨s1, s2, s3⟩, ⟨-, h1⟩, ⟨-, h2⟩, ⟨-, h3⟩, ⟨-, h4⟩, h5⟩ := h
  exact ⟨⟨SI_sub s1 hm hc, uR, s3⟩, ⟨uS, h1⟩, ⟨uE, h2⟩, ⟨uC, h3⟩, ⟨uD, h4⟩, h5⟩
theorem TI_start (hS : TS H T ro U R) : TI H T ro U vNil vNil R vNil R [] 0 false eStop :=
  ⟨hS, ⟨nil_inU, rfl⟩, ⟨nil_inU, Or.inl rfl⟩, ⟨hS.2.1, hS.2.2⟩, ⟨nil_inU, 0, rfl, rfl⟩, fun q => by cases q⟩
end TY
end
section
def Ur (r : rM) (a : Nat) : Prop := a < r.z ∧ ¬ r.used a = 0
def rv (r : rM) (v : Vl) (kd x : Int32) : Prop := match v with
  | .inl _ => kd = 0 ∧ x = 0
  | .inr (.inl y) => kd = 1 ∧ x = y
  | .inr (.inr (.inl y)) => kd = 2 ∧ x = y
  | .inr (.inr (.inr (.inl a))) => kd = 3 ∧ x = nI a ∧ Ur r a ∧ r.function a = 0
  | .inr (.inr (.inr (.inr a))) => kd = 3 ∧ x = nI a ∧ Ur r a ∧ ¬ r.function a = 0
def rg (r : rM) (v : Vl) (x : Int32) : Prop := (v = vNil ∧ x = -1) ∨ ∃ a, v = vPr a ∧ x = nI a ∧ Ur r a ∧ r.function a = 0
def raw (r : rM) : Prop := ∀ a, a < 250 → (r.headKind a = 3 → ∃ j, j < r.z ∧ r.head a = nI j) ∧ (r.tailKind a = 3 → ∃ j, j < r.z ∧ r.tail a = nI j)
def RB (r : rM) (H T : Nat → Vl) : Prop := (1 ≤ r.z ∧ r.z ≤ 250) ∧ (∀ a, Ur r a → rv r (H a) (r.headKind a) (r.head a) ∧ rv r (T a) (r.tailKind a) (r.tail a)) ∧ raw r
def fz (r : rM) : Nat := czN r.used r.z 0 0
def mkR (r : rM) (k : Nat) (a b c : Int32) : rM := ((((((r.s_used (upd r.used k 1)).s_function (upd r.function k 0)).s_headKind (upd r.headKind k a)).s_head (upd r.head k b)).s_tailKind (upd r.tailKind k (if c < 0 then 0 else 3))).s_tail (upd r.tail k (if c < 0 then 0 else c)))
theorem czN_add (u : Nat → Int32) : ∀ n k a, czN u n k a = a + czN u n k 0
  | 0, k, a => rfl
  | n + 1, k, a => by
    have e1 : czN u (n + 1) k a = czN u n (k + 1) (if u k = 0 then a + 1 else a) := rfl
    have e2 : czN u (n + 1) k 0 = czN u n (k + 1) (if u k = 0 then 0 + 1 else 0) := rfl
    rw [e1, e2]
    split
    · rw [czN_add u n (k + 1) (a + 1), czN_add u n (k + 1) (0 + 1)]
      omega
    · rw [czN_add u n (k + 1) a]
theorem czN_ex (u : Nat → Int32) : ∀ n k, 1 ≤ czN u n k 0 → ∃ i, k ≤ i ∧ i < k + n ∧ u i = 0
  | 0, k, h => absurd h (by show ¬ 1 ≤ 0; decide)
  | n + 1, k, h => by
    by_cases hk : u k = 0
    · exact ⟨k, Nat.le_refl _, by omega, hk⟩
    · have e : czN u (n + 1) k 0 = czN u n (k + 1) (if u k = 0 then 0 + 1 else 0) := rfl
      rw [e, if_neg hk] at h
      obtain ⟨i, h1, h2, h3⟩ := czN_ex u n (k + 1) h
      exact ⟨i, by omega, by omega, h3⟩
theorem czN_out (u : Nat → Int32) (i : Nat) (y : Int32) : ∀ n k a, (i < k ∨ k + n ≤ i) → czN (upd u i y) n k a = czN u n k a
  | 0, k, a, _ => rfl
  | n + 1, k, a, h => by
    have e1 : czN u (n + 1) k a = czN u n (k + 1) (if u k = 0 then a + 1 else a) := rfl
    have e2 : czN (upd u i y) (n + 1) k a = czN (upd u i y) n (k + 1) (if upd u i y k = 0 then a + 1 else a) := rfl
    have e3 : upd u i y k = u k := if_neg (by omega)
    rw [e1, e2, e3]
    exact czN_out u i y n (k + 1) _ (by omega)
theorem czN_upd (u : Nat → Int32) (i : Nat) (hi : u i = 0) : ∀ n k a, k ≤ i → i < k + n → czN (upd u i 1) n k a + 1 = czN u n k a
  | 0, k, a, h1, h2 => by omega
  | n + 1, k, a, h1, h2 => by
    have e1 : czN u (n + 1) k a = czN u n (k + 1) (if u k = 0 then a + 1 else a) := rfl
    have e2 : czN (upd u i 1) (n + 1) k a = czN (upd u i 1) n (k + 1) (if upd u i 1 k = 0 then a + 1 else a) := rfl
    by_cases e : k = i
    · subst e
      have e3 : upd u k 1 k = 1 := if_pos rfl
      rw [e1, e2, e3, if_neg (by decide), if_pos hi, czN_out u k 1 n (k + 1) a (Or.inl (by omega)), czN_add u n (k + 1) (a + 1), czN_add u n (k + 1) a]
      omega
    · have e3 : upd u i 1 k = u k := if_neg e
      rw [e1, e2, e3]
      exact czN_upd u i hi n (k + 1) _ (by omega) (by omega)
theorem ffN_zero (u : Nat → Int32) : ∀ n k, (∃ i, k ≤ i ∧ i ≤ k + n ∧ u i = 0) → u (ffN u n k) = 0
  | 0, k, ⟨i, h1, h2, h3⟩ => by
    obtain rfl : i = k := by omega
    exact h3
  | n + 1, k, ⟨i, h1, h2, h3⟩ => by
    have e : ffN u (n + 1) k = if u k = 0 then k else ffN u n (k + 1) := rfl
    rw [e]
    split
    · assumption
    · next hk =>
      refine ffN_zero u n (k + 1) ⟨i, ?_, by omega, h3⟩
      rcases Nat.lt_or_ge k i with h | h
      · exact h
      · obtain rfl : i = k := by omega
        exact absurd h3 hk
section RR
variable {r r' : rM} {H T : Nat → Vl} {v h t : Vl} {x a b c kd : Int32} {k : Nat}
theorem nIj {i j : Nat} (hi : i < 2 ^ 31) (hj : j < 2 ^ 31) (e : nI i = nI j) : i = j := by
  have := congrArg Int32.toNatClampNeg e
  rwa [nI_clamp hi, nI_clamp hj] at this
theorem rg_neg (h : rg r v x) (hz : r.z ≤ 250) : (v = vNil ∧ x < 0 ∧ x = -1) ∨ ∃ a, v = vPr a ∧ x = nI a ∧ ¬ x < 0 ∧ Ur r a ∧ r.function a = 0 ∧ a < 250 := by
  rcases h with ⟨rfl, rfl⟩ | ⟨a, rfl, rfl, h1, h2⟩
  · exact Or.inl ⟨rfl, by decide, rfl⟩
  · have := h1.1
    exact Or.inr ⟨a, rfl, rfl, nI_pos (by omega), h1, h2, by omega⟩
theorem rg_rv (h : rg r v x) (hz : r.z ≤ 250) : rv r v (if x < 0 then 0 else 3) (if x < 0 then 0 else x) := by
  rcases rg_neg h hz with ⟨rfl, h1, rfl⟩ | ⟨a, rfl, h1, h2, h3, h4, -⟩
  · rw [if_pos h1, if_pos h1]
    exact ⟨rfl, rfl⟩
  · rw [if_neg h2, if_neg h2]
    exact ⟨rfl, h1, h3, h4⟩
theorem rv_raw (h : rv r v kd x) (e : kd = 3) : ∃ j, j < r.z ∧ x = nI j := by
  rcases v with u | y | y | i | i
  · obtain ⟨h1, -⟩ := h
    rw [e] at h1
    exact absurd h1 (by decide)
  · obtain ⟨h1, -⟩ := h
    rw [e] at h1
    exact absurd h1 (by decide)
  · obtain ⟨h1, -⟩ := h
    rw [e] at h1
    exact absurd h1 (by decide)
  · exact ⟨i, h.2.2.1.1, h.2.1⟩
  · exact ⟨i, h.2.2.1.1, h.2.1⟩
def upR (r r' : rM) : Prop := r'.z = r.z ∧ ∀ a, Ur r a → Ur r' a ∧ (r'.function a = r.function a)
theorem rv_up (hu : upR r r') (h : rv r v kd x) : rv r' v kd x := by
  rcases v with u | y | y | i | i
  · exact h
  · exact h
  · exact h
  · obtain ⟨h1, h2, h3, h4⟩ := h
    exact ⟨h1, h2, (hu.2 i h3).1, (hu.2 i h3).2.trans h4⟩
  · obtain ⟨h1, h2, h3, h4⟩ := h
    exact ⟨h1, h2, (hu.2 i h3).1, by rw [(hu.2 i h3).2]; exact h4⟩
theorem rg_up (hu : upR r r') (h : rg r v x) : rg r' v x := by
  rcases h with h | ⟨a, h1, h2, h3, h4⟩
  · exact Or.inl h
  · exact Or.inr ⟨a, h1, h2, (hu.2 a h3).1, (hu.2 a h3).2.trans h4⟩
theorem mk_ok (hB : RB r H T) (hf : 1 ≤ fz r) (hk : k = ffN r.used (r.z - 1) 0) (hh : rv r h a b) (ht : rg r t c) :
    (¬ Ur r k) ∧ k < r.z ∧ upR r (mkR r k a b c) ∧ RB (mkR r k a b c) (upW H k h) (upW T k t) ∧ rg (mkR r k a b c) (vPr k) (nI k) ∧ Ur (mkR r k a b c) = addU (Ur r) k ∧ fz (mkR r k a b c) + 1 = fz r := by
  obtain ⟨⟨z1, z2⟩, hS, hr⟩ := hB
  have hlt : k < r.z := by
    have := ffN_le r.used (r.z - 1) 0
    omega
  have h0 : r.used k = 0 := by
    rw [hk]
    refine ffN_zero r.used (r.z - 1) 0 ?_
    obtain ⟨i, h1, h2, h3⟩ := czN_ex r.used r.z 0 hf
    exact ⟨i, h1, by omega, h3⟩
  have hnu : ¬ Ur r k := fun q => q.2 h0
  have hU : ∀ i, Ur (mkR r k a b c) i ↔ addU (Ur r) k i := by
    intro i
    unfold Ur addU mkR
    show (i < r.z ∧ ¬ upd r.used k 1 i = 0) ↔ _
    unfold upd
    by_cases e : i = k
    · subst e
      rw [if_pos rfl]
      exact ⟨fun _ => Or.inr rfl, fun _ => ⟨hlt, by decide⟩⟩
    · rw [if_neg e]
      exact ⟨Or.inl, fun q => q.resolve_right e⟩
  have hup : upR r (mkR r k a b c) := by
    refine ⟨rfl, fun i hi => ⟨(hU i).mpr (Or.inl hi), ?_⟩⟩
    show upd r.function k 0 i = r.function i
    exact if_neg (fun (e : i = k) => hnu (e ▸ hi))
  refine ⟨hnu, hlt, hup, ⟨⟨z1, z2⟩, ?_, ?_⟩, ?_, funext (fun i => propext (hU i)), ?_⟩
  · intro i hi
    by_cases e : i = k
    · subst e
      have e1 : upW H i h i = h := if_pos rfl
      have e2 : upW T i t i = t := if_pos rfl
      have e3 : (mkR r i a b c).headKind i = a := if_pos rfl
      have e4 : (mkR r i a b c).head i = b := if_pos rfl
      have e5 : (mkR r i a b c).tailKind i = if c < 0 then 0 else 3 := if_pos rfl
      have e6 : (mkR r i a b c).tail i = if c < 0 then 0 else c := if_pos rfl
      rw [e1, e2, e3, e4, e5, e6]
      exact ⟨rv_up hup hh, rv_up hup (rg_rv ht z2)⟩
    · have hi2 : Ur r i := ((hU i).mp hi).resolve_right e
      have e1 : upW H k h i = H i := if_neg e
      have e2 : upW T k t i = T i := if_neg e
      have e3 : (mkR r k a b c).headKind i = r.headKind i := if_neg e
      have e4 : (mkR r k a b c).head i = r.head i := if_neg e
      have e5 : (mkR r k a b c).tailKind i = r.tailKind i := if_neg e
      have e6 : (mkR r k a b c).tail i = r.tail i := if_neg e
      rw [e1, e2, e3, e4, e5, e6]
      exact ⟨rv_up hup (hS i hi2).1, rv_up hup (hS i hi2).2⟩
  · intro i hi
    by_cases e : i = k
    · subst e
      have e3 : (mkR r i a b c).headKind i = a := if_pos rfl
      have e4 : (mkR r i a b c).head i = b := if_pos rfl
      have e5 : (mkR r i a b c).tailKind i = if c < 0 then 0 else 3 := if_pos rfl
      have e6 : (mkR r i a b c).tail i = if c < 0 then 0 else c := if_pos rfl
      rw [e3, e4, e5, e6]
      exact ⟨fun q => rv_raw (r := r) hh q, fun q => rv_raw (r := r) (rg_rv ht z2) q⟩
    · have e3 : (mkR r k a b c).headKind i = r.headKind i := if_neg e
      have e4 : (mkR r k a b c).head i = r.head i := if_neg e
      have e5 : (mkR r k a b c).tailKind i = r.tailKind i := if_neg e
      have e6 : (mkR r k a b c).tail i = r.tail i := if_neg e
      rw [e3, e4, e5, e6]
      exact hr i hi
  · exact Or.inr ⟨k, rfl, rfl, (hU k).mpr (Or.inr rfl), if_pos rfl⟩
  · exact czN_upd r.used k h0 r.z 0 0 (Nat.zero_le _) (by omega)
def fnR (r : rM) (k : Nat) : rM := (r.s_function (upd r.function k 1))
theorem fn_ok (hB : RB r H T) (uk : Ur r k) (hh : ∀ i, Ur r i → ¬ ceV (H i) = some k ∧ ¬ ceV (T i) = some k) :
    RB (fnR r k) H T ∧ Ur (fnR r k) = Ur r ∧ fz (fnR r k) = fz r ∧ rv (fnR r k) (vFn k) 3 (nI k) ∧ (∀ v x, rg r v x → ¬ ceV v = some k → rg (fnR r k) v x) := by
  obtain ⟨⟨z1, z2⟩, hS, hr⟩ := hB
  have key : ∀ v kd x, rv r v kd x → ¬ ceV v = some k → rv (fnR r k) v kd x := by
    intro v kd x q w
    rcases v with u | y | y | i | i
    · exact q
    · exact q
    · exact q
    · obtain ⟨q1, q2, q3, q4⟩ := q
      refine ⟨q1, q2, q3, ?_⟩
      show upd r.function k 1 i = 0
      unfold upd
      rw [if_neg (fun e => w (by rw [e]; rfl))]
      exact q4
    · obtain ⟨q1, q2, q3, q4⟩ := q
      refine ⟨q1, q2, q3, ?_⟩
      show ¬ upd r.function k 1 i = 0
      unfold upd
      rw [if_neg (fun e => w (by rw [e]; rfl))]
      exact q4
  refine ⟨⟨⟨z1, z2⟩, fun i hi => ⟨key _ _ _ (hS i hi).1 (hh i hi).1, key _ _ _ (hS i hi).2 (hh i hi).2⟩, hr⟩, rfl, rfl, ⟨rfl, rfl, uk, ?_⟩, ?_⟩
  · show ¬ upd r.function k 1 k = 0
    unfold upd
    rw [if_pos rfl]
    decide
  · intro v x q w
    rcases q with q | ⟨a, rfl, q2, q3, q4⟩
    · exact Or.inl q
    · refine Or.inr ⟨a, rfl, q2, q3, ?_⟩
      show upd r.function k 1 a = 0
      unfold upd
      rw [if_neg (fun e => w (by rw [e]; rfl))]
      exact q4
theorem rs_pr (hB : RB r H T) {i j : Nat} (ui : Ur r i) (e : T i = vPr j) : rsN r i = nI j := by
  have := (hB.2.1 i ui).2
  rw [e] at this
  unfold rsN
  rw [if_pos this.1]
  exact this.2.1
theorem rs_nil (hB : RB r H T) {i : Nat} (ui : Ur r i) (e : T i = vNil) : rsN r i = -1 := by
  have := (hB.2.1 i ui).2
  rw [e] at this
  unfold rsN
  rw [if_neg]
  rw [this.1]
  decide
theorem hl_pr (hB : RB r H T) {i j : Nat} (ui : Ur r i) (e : H i = vPr j) : hlN r i = nI j := by
  have := (hB.2.1 i ui).1
  rw [e] at this
  unfold hlN
  rw [if_pos this.1]
  exact this.2.1
theorem hl_nil (hB : RB r H T) {i : Nat} (ui : Ur r i) (e : H i = vNil) : hlN r i = -1 := by
  have := (hB.2.1 i ui).1
  rw [e] at this
  unfold hlN
  rw [if_neg]
  rw [this.1]
  decide
def isL_ (v : Vl) : Prop := v = vNil ∨ ∃ a, v = vPr a
theorem rs_rg (hB : RB r H T) {i : Nat} (ui : Ur r i) (e : isL_ (T i)) : rg r (T i) (rsN r i) := by
  rcases e with e | ⟨j, e⟩
  · exact Or.inl ⟨e, rs_nil hB ui e⟩
  · have := (hB.2.1 i ui).2
    rw [e] at this
    exact Or.inr ⟨j, e, rs_pr hB ui e, this.2.2.1, this.2.2.2⟩
theorem hl_rg (hB : RB r H T) {i : Nat} (ui : Ur r i) (e : isL_ (H i)) : rg r (H i) (hlN r i) := by
  rcases e with e | ⟨j, e⟩
  · exact Or.inl ⟨e, hl_nil hB ui e⟩
  · have := (hB.2.1 i ui).1
    rw [e] at this
    exact Or.inr ⟨j, e, hl_pr hB ui e, this.2.2.1, this.2.2.2⟩
end RR
theorem isL_stk {H T : Nat → Vl} {ro : Nat → Bool} {k : Sk} {v : Vl} (h : stk H T ro k v) : isL_ v := by
  cases k with
  | nil => exact Or.inl h
  | cons x k =>
    obtain ⟨a, e, -⟩ := h
    exact Or.inr ⟨a, e⟩
theorem isL_isE {ro : Nat → Bool} {v : Vl} (h : isE ro v) : isL_ v := by
  rcases h with h | ⟨a, e, -⟩
  · exact Or.inl h
  · exact Or.inr ⟨a, e⟩
theorem isL_env {T : Nat → Vl} {ro : Nat → Bool} {n : Nat} {v : Vl} (h : env T ro n v) : isL_ v := isL_isE (env_0 h)
theorem isL_wtx {H T : Nat → Vl} {ro : Nat → Bool} {k : Sk} {n : Nat} {b : Bool} {e : En} {v : Vl} (h : wtx H T ro v k n b e) : isL_ v := by
  obtain ⟨f, h⟩ := h
  cases f with
  | zero => exact absurd h id
  | succ f =>
    obtain ⟨c, i, q, -⟩ := h
    exact Or.inr ⟨c, q⟩
theorem isL_dmx {H T : Nat → Vl} {ro : Nat → Bool} {e : En} {v : Vl} (h : dmx H T ro v e) : isL_ v := by
  obtain ⟨f, h⟩ := h
  cases f with
  | zero => exact Or.inl h.2
  | succ f =>
    rcases h with ⟨-, a, b, c, k, n, e', q, -⟩ | ⟨k, n, a, e', -, q, -⟩ <;> exact Or.inr ⟨a, q⟩
end
section
def kp (r r' : rM) : Prop := (r'.z = r.z ∧ r'.typed = r.typed ∧ r'.text = r.text ∧ r'.error = r.error ∧ (r'.program, r'.thrown) = (r.program, r.thrown)) ∧ (r'.collections = r.collections ∧ r'.takenBack = r.takenBack ∧ r'.steps = r.steps ∧ r'.shown = r.shown ∧ (r'.show_, r'.marked) = (r.show_, r.marked))
def sm (r r' : rM) : Prop := kp r r' ∧ r'.state = r.state ∧ (r'.used = r.used ∧ r'.function = r.function) ∧ (r'.headKind = r.headKind ∧ r'.head = r.head) ∧ (r'.tailKind = r.tailKind ∧ r'.tail = r.tail)
def RX (r : rM) (H T : Nat → Vl) (S E C D R : Vl) : Prop := RB r H T ∧ rg r S (r.reg 0) ∧ rg r E (r.reg 1) ∧ rg r C (r.reg 2) ∧ rg r D (r.reg 3) ∧ rg r R (r.reg 4)
def sR (r : rM) (f : Nat → Int32) : rM := (r.s_reg f)
def gR (r : rM) (a b : Int32) : rM := ((r.s_gotKind a).s_got b)
def stR (r : rM) (x : Int32) : rM := (r.s_state x)
def mkd (r r' : rM) (H T : Nat → Vl) (k : Nat) (h t : Vl) : Prop := (¬ Ur r k ∧ k < 250) ∧ (kp r r' ∧ r'.state = r.state ∧ upR r r') ∧ RB r' (upW H k h) (upW T k t) ∧ Ur r' = addU (Ur r) k ∧ fz r' + 1 = fz r ∧ rg r' (vPr k) (nI k)
section RI0
variable {r r' r2 : rM} {H T : Nat → Vl} {v : Vl} {x kd : Int32}
theorem kp_tr (h1 : kp r r') (h2 : kp r' r2) : kp r r2 := by
  obtain ⟨⟨a1, a2, a3, a4, a5⟩, a6, a7, a8, a9, a10⟩ := h1
  obtain ⟨⟨b1, b2, b3, b4, b5⟩, b6, b7, b8, b9, b10⟩ := h2
  exact ⟨⟨b1.trans a1, b2.trans a2, b3.trans a3, b4.trans a4, b5.trans a5⟩, b6.trans a6, b7.trans a7, b8.trans a8, b9.trans a9, b10.trans a10⟩
theorem sm_tr (h1 : sm r r') (h2 : sm r' r2) : sm r r2 := by
  obtain ⟨a1, a2, ⟨a3, a4⟩, ⟨a5, a6⟩, a7, a8⟩ := h1
  obtain ⟨b1, b2, ⟨b3, b4⟩, ⟨b5, b6⟩, b7, b8⟩ := h2
  exact ⟨kp_tr a1 b1, b2.trans a2, ⟨b3.trans a3, b4.trans a4⟩, ⟨b5.trans a5, b6.trans a6⟩, b7.trans a7, b8.trans a8⟩
theorem kp_sR {f : Nat → Int32} : kp r (sR r f) := ⟨⟨rfl, rfl, rfl, rfl, rfl⟩, rfl, rfl, rfl, rfl, rfl⟩
theorem sm_sR {f : Nat → Int32} : sm r (sR r f) := ⟨kp_sR, rfl, ⟨rfl, rfl⟩, ⟨rfl, rfl⟩, rfl, rfl⟩
theorem sm_gR {a b : Int32} : sm r (gR r a b) := ⟨⟨⟨rfl, rfl, rfl, rfl, rfl⟩, rfl, rfl, rfl, rfl, rfl⟩, rfl, ⟨rfl, rfl⟩, ⟨rfl, rfl⟩, rfl, rfl⟩
theorem sm_z (h : sm r r') : r'.z = r.z := h.1.1.1
theorem sm_Ur (h : sm r r') : Ur r' = Ur r := by
  unfold Ur
  rw [sm_z h, h.2.2.1.1]
theorem sm_fz (h : sm r r') : fz r' = fz r := by
  unfold fz
  rw [sm_z h, h.2.2.1.1]
theorem sm_up (h : sm r r') : upR r r' := ⟨sm_z h, fun a ha => ⟨by rw [sm_Ur h]; exact ha, by rw [h.2.2.1.2]⟩⟩
theorem sm_rs (h : sm r r') (k : Nat) : rsN r' k = rsN r k := by
  unfold rsN
  rw [h.2.2.2.2.1, h.2.2.2.2.2]
theorem sm_hl (h : sm r r') (k : Nat) : hlN r' k = hlN r k := by
  unfold hlN
  rw [h.2.2.2.1.1, h.2.2.2.1.2]
theorem sm_rv (h : sm r r') (q : rv r v kd x) : rv r' v kd x := rv_up (sm_up h) q
theorem sm_rg (h : sm r r') (q : rg r v x) : rg r' v x := rg_up (sm_up h) q
theorem sm_RB (h : sm r r') (q : RB r H T) : RB r' H T := by
  obtain ⟨q1, q2, q3⟩ := q
  refine ⟨by rw [sm_z h]; exact q1, fun a ha => ?_, fun a ha => ?_⟩
  · rw [sm_Ur h] at ha
    rw [h.2.2.2.1.1, h.2.2.2.1.2, h.2.2.2.2.1, h.2.2.2.2.2]
    exact ⟨sm_rv h (q2 a ha).1, sm_rv h (q2 a ha).2⟩
  · rw [h.2.2.2.1.1, h.2.2.2.1.2, h.2.2.2.2.1, h.2.2.2.2.2, sm_z h]
    exact q3 a ha
theorem up_tr (h1 : upR r r') (h2 : upR r' r2) : upR r r2 := ⟨h2.1.trans h1.1, fun a ha => ⟨(h2.2 a (h1.2 a ha).1).1, (h2.2 a (h1.2 a ha).1).2.trans (h1.2 a ha).2⟩⟩
end RI0
section RI
variable {cst : Nat → Option (Nat × (Nat → Int32))} {m b0 b1 : Nat} {op : Bool} {tl : List mj_O} {Q : mj_R → Prop} {s : cS} {r : rM} {H T : Nat → Vl} {S E C D R : Vl}
set_option maxRecDepth 10000
theorem i51 : vp_in 1 5 := vp_in_nI (show 1 < 5 by decide) (by decide)
theorem i52 : vp_in 2 5 := vp_in_nI (show 2 < 5 by decide) (by decide)
theorem i53 : vp_in 3 5 := vp_in_nI (show 3 < 5 by decide) (by decide)
theorem Ur_lt (hB : RB r H T) {a : Nat} (u : Ur r a) : a < 250 := Nat.lt_of_lt_of_le u.1 hB.1.2
theorem R_rest {k : Nat} {x : Int32} (hx : x = nI k) (hk : k < 250) (hQ : Q (.inl (some (.int (rsN r k))), (cW s (rW r tl), b0, b1, op))) : mj_Mt gT cst gnw (m + 1) y_R_rest [.ref 27, .int x] (cW s (rW r tl), b0, b1, op) Q := by
  subst hx
  exact r_rest hk hQ
theorem R_headList {k : Nat} {x : Int32} (hx : x = nI k) (hk : k < 250) (hQ : Q (.inl (some (.int (hlN r k))), (cW s (rW r tl), b0, b1, op))) : mj_Mt gT cst gnw (m + 1) y_R_headList [.ref 27, .int x] (cW s (rW r tl), b0, b1, op) Q := by
  subst hx
  exact r_headList hk hQ
theorem R_peek0 {k : Nat} (hk : k < 250) (h0 : r.reg 0 = nI k) (hQ : ∀ r', sm r r' → r'.reg = r.reg → r'.gotKind = r.headKind k → r'.got = r.head k → Q (.inl none, (cW s (rW r' tl), b0, b1, op))) : mj_Mt gT cst gnw (m + 2) y_R_peek [.ref 27, .int 0] (cW s (rW r tl), b0, b1, op) Q := r_peek0 hk h0 (hQ (gR r (r.headKind k) (r.head k)) sm_gR rfl rfl rfl)
theorem R_peek1 {k j : Nat} (hk : k < 250) (hj : j < 250) (h0 : r.reg 0 = nI j) (h1 : rsN r j = nI k) (hQ : ∀ r', sm r r' → r'.reg = r.reg → r'.gotKind = r.headKind k → r'.got = r.head k → Q (.inl none, (cW s (rW r' tl), b0, b1, op))) : mj_Mt gT cst gnw (m + 2) y_R_peek [.ref 27, .int 1] (cW s (rW r tl), b0, b1, op) Q := r_peek1 hk hj h0 h1 (hQ (gR r (r.headKind k) (r.head k)) sm_gR rfl rfl rfl)
theorem R_drop {j : Nat} (hj : j < 250) (h0 : r.reg 0 = nI j) (hQ : ∀ r', sm r r' → r'.reg = upd r.reg 0 (rsN r j) → r'.gotKind = r.gotKind → r'.got = r.got → Q (.inl none, (cW s (rW r' tl), b0, b1, op))) : mj_Mt gT cst gnw (m + 2) y_R_drop [.ref 27] (cW s (rW r tl), b0, b1, op) Q := r_drop hj h0 (hQ (sR r (upd r.reg 0 (rsN r j))) sm_sR rfl rfl rfl)
theorem R_stop {x : Int32} (hQ : ∀ r', kp r r' → r'.state = x → upR r r' → Ur r' = Ur r → r'.reg = r.reg → (∀ H T, RB r H T → RB r' H T) → Q (.inl none, (cW s (rW r' tl), b0, b1, op))) : mj_Mt gT cst gnw (m + 1) y_R_stop [.ref 27, .int x] (cW s (rW r tl), b0, b1, op) Q := r_stop (hQ (stR r x) ⟨⟨rfl, rfl, rfl, rfl, rfl⟩, rfl, rfl, rfl, rfl, rfl⟩ rfl ⟨rfl, fun a ha => ⟨ha, rfl⟩⟩ rfl rfl (fun H T h => h))
theorem mkd_of {h t : Vl} {a b c : Int32} {k : Nat} (hB : RB r H T) (hf : 1 ≤ fz r) (hh : rv r h a b) (ht : rg r t c) (hk : k = ffN r.used (r.z - 1) 0) : mkd r (mkR r k a b c) H T k h t := by
  obtain ⟨m1, m2, m3, m4, m5, m6, m7⟩ := mk_ok hB hf hk hh ht
  exact ⟨⟨m1, Nat.lt_of_lt_of_le m2 hB.1.2⟩, ⟨⟨⟨rfl, rfl, rfl, rfl, rfl⟩, rfl, rfl, rfl, rfl, rfl⟩, rfl, m3⟩, m4, m6, m7, m5⟩
theorem R_make {h t : Vl} {a b c : Int32} (hB : RB r H T) (hf : 1 ≤ fz r) (hh : rv r h a b) (ht : rg r t c) (hQ : ∀ k r', mkd r r' H T k h t → r'.reg = r.reg → Q (.inl (some (.int (nI k))), (cW s (rW r' tl), b0, b1, op))) : mj_Mt gT cst gnw (m + 1) y_R_make [.ref 27, .int a, .int b, .int c] (cW s (rW r tl), b0, b1, op) Q := r_make hB.1.2 hB.1.1 (fun k hk => hQ k (mkR r k a b c) (mkd_of hB hf hh ht hk) rfl)
theorem R_makeOf {h t : Vl} {b c : Int32} (hB : RB r H T) (hf : 1 ≤ fz r) (hh : rg r h b) (ht : rg r t c) (hQ : ∀ k r', mkd r r' H T k h t → r'.reg = r.reg → r'.got = r.got → Q (.inl (some (.int (nI k))), (cW s (rW r' tl), b0, b1, op))) : mj_Mt gT cst gnw (m + 2) y_R_makeOf [.ref 27, .int b, .int c] (cW s (rW r tl), b0, b1, op) Q := r_makeOf hB.1.2 hB.1.1 (fun k hk => hQ k (mkR r k _ _ c) (mkd_of hB hf (rg_rv hh hB.1.2) ht hk) rfl rfl)
theorem mkd_sR {r' : rM} {h t : Vl} {k : Nat} {f : Nat → Int32} (hm : mkd r r' H T k h t) : mkd r (sR r' f) H T k h t := by
  obtain ⟨h1, ⟨h2, h3, h4⟩, h5, h6, h7, h8⟩ := hm
  exact ⟨h1, ⟨kp_tr h2 kp_sR, h3, h4⟩, sm_RB sm_sR h5, h6, h7, sm_rg sm_sR h8⟩
theorem R_push {h : Vl} {a b : Int32} (hB : RB r H T) (hf : 1 ≤ fz r) (hh : rv r h a b) (ht : rg r S (r.reg 0)) (hQ : ∀ k r', mkd r r' H T k h S → r'.reg = upd r.reg 0 (nI k) → Q (.inl none, (cW s (rW r' tl), b0, b1, op))) : mj_Mt gT cst gnw (m + 2) y_R_push [.ref 27, .int a, .int b] (cW s (rW r tl), b0, b1, op) Q := r_push hB.1.2 hB.1.1 (fun k hk => hQ k (sR (mkR r k a b (r.reg 0)) (upd r.reg 0 (nI k))) (mkd_sR (mkd_of hB hf hh ht hk)) rfl)
theorem RX_up {r' : rM} {H' T' : Nat → Vl} (hB : RB r' H' T') (hu : upR r r') {x0 x1 x2 x3 x4 : Int32} (h0 : rg r' S x0) (h1 : rg r E x1) (h2 : rg r C x2) (h3 : rg r D x3) (h4 : rg r R x4) (e0 : r'.reg 0 = x0) (e1 : r'.reg 1 = x1) (e2 : r'.reg 2 = x2) (e3 : r'.reg 3 = x3) (e4 : r'.reg 4 = x4) : RX r' H' T' S E C D R := by
  subst e0 e1 e2 e3 e4
  exact ⟨hB, h0, rg_up hu h1, rg_up hu h2, rg_up hu h3, rg_up hu h4⟩
theorem R_comeBack {a d1 d2 d3 : Nat} (hB : RB r H T) (hf : 1 ≤ fz r) (h0 : r.reg 0 = nI a) (ua : Ur r a) (h3 : r.reg 3 = nI d1) (u1 : Ur r d1) (e1 : T d1 = vPr d2) (u2 : Ur r d2) (e2 : T d2 = vPr d3) (u3 : Ur r d3) (l1 : isL_ (H d1)) (l2 : isL_ (H d2)) (l3 : isL_ (H d3)) (l4 : isL_ (T d3)) (h4 : rg r R (r.reg 4))
    (hQ : ∀ k r', ¬ Ur r k → kp r r' → r'.state = r.state → RX r' (upW H k (H a)) (upW T k (H d1)) (vPr k) (H d2) (H d3) (T d3) R → Ur r' = addU (Ur r) k → Q (.inl none, (cW s (rW r' tl), b0, b1, op))) : mj_Mt gT cst gnw (m + 3) y_R_comeBack [.ref 27] (cW s (rW r tl), b0, b1, op) Q := by
  intro J hJ
  refine hJ _ _ _ _ ?_
  refine R_peek0 (Ur_lt hB ua) h0 (fun r1 s1 g1 g2 g3 => ?_)
  have hB1 := sm_RB s1 hB
  have h31 : r1.reg 3 = nI d1 := by rw [g1]; exact h3
  have v1 : ∀ {a}, Ur r a → Ur r1 a := fun h => by rw [sm_Ur s1]; exact h
  refine And.intro i53 ?_
  refine R_headList h31 (Ur_lt hB u1) ?_
  refine And.intro (in0 (by decide)) ?_
  change mj_sg _ _ _ _ _ _ _ _ _ _ _ _ (cW s (rW (sR r1 (upd r1.reg 0 (hlN r1 d1))) tl), b0, b1, op)
  refine R_rest h31 (Ur_lt hB u1) ?_
  refine R_headList (rs_pr hB1 (v1 u1) e1) (Ur_lt hB u2) ?_
  refine And.intro i51 ?_
  change mj_sg _ _ _ _ _ _ _ _ _ _ _ _ (cW s (rW (sR r1 (upd (upd r1.reg 0 (hlN r1 d1)) 1 (hlN r1 d2))) tl), b0, b1, op)
  refine R_rest (rs_pr hB1 (v1 u1) e1) (Ur_lt hB u2) ?_
  refine R_headList (rs_pr hB1 (v1 u2) e2) (Ur_lt hB u3) ?_
  refine And.intro i52 ?_
  change mj_sg _ _ _ _ _ _ _ _ _ _ _ _ (cW s (rW (sR r1 (upd (upd (upd r1.reg 0 (hlN r1 d1)) 1 (hlN r1 d2)) 2 (hlN r1 d3))) tl), b0, b1, op)
  refine R_rest (rs_pr hB1 (v1 u2) e2) (Ur_lt hB u3) ?_
  refine And.intro i53 ?_
  obtain ⟨r2, hr2⟩ : ∃ r2, r2 = sR r1 (upd (upd (upd (upd r1.reg 0 (hlN r1 d1)) 1 (hlN r1 d2)) 2 (hlN r1 d3)) 3 (rsN r1 d3)) := ⟨_, rfl⟩
  change mj_sg _ _ _ _ _ _ _ _ _ _ _ _ (cW s (rW (sR r1 (upd (upd (upd (upd r1.reg 0 (hlN r1 d1)) 1 (hlN r1 d2)) 2 (hlN r1 d3)) 3 (rsN r1 d3))) tl), b0, b1, op)
  rw [← hr2]
  have s2 : sm r1 r2 := by rw [hr2]; exact sm_sR
  have q1 : r2.gotKind = r.headKind a := by rw [hr2]; exact g2
  have q2 : r2.got = r.head a := by rw [hr2]; exact g3
  have q3 : r2.reg = upd (upd (upd (upd r1.reg 0 (hlN r1 d1)) 1 (hlN r1 d2)) 2 (hlN r1 d3)) 3 (rsN r1 d3) := by rw [hr2]; rfl
  have s3 := sm_tr s1 s2
  have k1 := hl_rg hB1 (v1 u1) l1
  have k2 := hl_rg hB1 (v1 u2) l2
  have k3 := hl_rg hB1 (v1 u3) l3
  have k4 := rs_rg hB1 (v1 u3) l4
  clear hr2
  refine R_push (S := H d1) (h := H a) (sm_RB s3 hB) (by rw [sm_fz s3]; exact hf) (by rw [q1, q2]; exact sm_rv s3 (hB.2.1 a ua).1) (by rw [q3]; exact sm_rg s2 k1) (fun k r3 hm g4 => ?_)
  obtain ⟨⟨m1, -⟩, ⟨m2, m3, m4⟩, m5, m6, m7, m8⟩ := hm
  rw [sm_Ur s3] at m1 m6
  rw [q3] at g4
  refine hQ k r3 m1 (kp_tr s3.1 m2) (m3.trans s3.2.1) ?_ m6
  exact RX_up (r := r1) (x0 := nI k) (x1 := hlN r1 d2) (x2 := hlN r1 d3) (x3 := rsN r1 d3) (x4 := r1.reg 4) m5 (up_tr (sm_up s2) m4) m8 k2 k3 k4 (by rw [g1]; exact sm_rg s1 h4) (by rw [g4]; rfl) (by rw [g4]; rfl) (by rw [g4]; rfl) (by rw [g4]; rfl) (by rw [g4]; rfl)
end RI
end
section
theorem beh_step {T : Nat → Vl} {k : Nat} {v : Vl} : ∀ {a : Nat}, behV T k v = vPr a → behV T (k + 1) v = T a := by
  induction k generalizing v with
  | zero =>
    intro a h
    have h : v = vPr a := h
    subst h
    rfl
  | succ k ih =>
    intro a h
    rcases v with u | x | x | i | i
    · cases h
    · cases h
    · cases h
    · exact ih (v := T i) h
    · cases h
theorem beh_nil {T : Nat → Vl} {v : Vl} : ∀ (k j : Nat), behV T k v = vNil → k ≤ j → behV T j v = vNil := by
  intro k
  induction k generalizing v with
  | zero =>
    intro j h _
    have h : v = vNil := h
    subst h
    exact behV_stop (by decide) j
  | succ k ih =>
    intro j h hj
    obtain ⟨j, rfl⟩ : ∃ i, j = i + 1 := ⟨j - 1, by omega⟩
    rcases v with u | x | x | i | i
    · rfl
    · cases h
    · cases h
    · exact ih (v := T i) j h (by omega)
    · cases h
section RL
variable {cst : Nat → Option (Nat × (Nat → Int32))} {m b0 b1 : Nat} {op : Bool} {tl : List mj_O} {Q : mj_R → Prop} {s : cS} {r : rM} {H T : Nat → Vl} {S E C D R C' : Vl} {ro : Nat → Bool}
set_option maxRecDepth 10000
theorem R_look {p : Nat} {y : Int32} (hp : p < 10000) (hX : RX r H T S E C D R) (hf : 1 ≤ fz r) (hE : isE ro E) (hro : ∀ a, Ur r a → ro a = true → isE ro (T a) ∧ lst T (H a)) (hC : rg r C' y)
    (h1 : ∀ r', kp r r' → r'.state = 3 → RX r' H T S E C D R → Ur r' = Ur r → (¬ kV (behV T (p / 16) E) = 3 ∨ ¬ kV (behV T (p % 16) (ofV H (behV T (p / 16) E))) = 3) → Q (.inl none, (cW s (rW r' tl), b0, b1, op)))
    (h2 : ∀ k r', ¬ Ur r k → kp r r' → r'.state = r.state → kV (behV T (p / 16) E) = 3 → kV (behV T (p % 16) (ofV H (behV T (p / 16) E))) = 3 → RX r' (upW H k (ofV H (behV T (p % 16) (ofV H (behV T (p / 16) E))))) (upW T k S) (vPr k) E C' D R → Ur r' = addU (Ur r) k → Q (.inl none, (cW s (rW r' tl), b0, b1, op))) :
    mj_Mt gT cst gnw (m + 3) y_R_look [.ref 27, .int (nI p), .int y] (cW s (rW r tl), b0, b1, op) Q := by
  obtain ⟨hB, x0, x1, x2, x3, x4⟩ := hX
  have hz := hB.1.2
  have d1 := (nI_16 (n := p) (by omega)).1
  have d2 := (nI_16 (n := p) (by omega)).2
  have wrong : ∀ r', kp r r' → r'.state = 3 → upR r r' → Ur r' = Ur r → r'.reg = r.reg → (∀ H T, RB r H T → RB r' H T) → RX r' H T S E C D R := by
    intro r' _ _ c3 c4 c5 c6
    exact ⟨c6 H T hB, by rw [c5]; exact rg_up c3 x0, by rw [c5]; exact rg_up c3 x1, by rw [c5]; exact rg_up c3 x2, by rw [c5]; exact rg_up c3 x3, by rw [c5]; exact rg_up c3 x4⟩
  intro J hJ
  have fin : ∀ (x e4 e5 : Int32) (V : Vl), isL_ V → rg r V e4 → (V = vNil → ¬ kV (behV T (p / 16) E) = 3 ∨ ¬ kV (behV T (p % 16) (ofV H (behV T (p / 16) E))) = 3) → (∀ a, V = vPr a → kV (behV T (p / 16) E) = 3 ∧ behV T (p % 16) (ofV H (behV T (p / 16) E)) = vPr a) → ∀ F : Nat, mj_sg (mj_Mt gT cst gnw (m + 2)) cst gnw (mj_hd (mj_off kO_R_look) kH_R_look) kC_R_look J Q (F + 60) false 43 [some (.ref 27), some (.int (nI p)), some (.int y), some (.int x), some (.int e4), some (.int e5)] [] (cW s (rW r tl), b0, b1, op) := by
    intro x e4 e5 V hL hV hn hs F
    rcases rg_neg hV hz with ⟨q1, q2, q3⟩ | ⟨a, q1, q2, q3, q4, q5, q6⟩
    · refine And.intro (fun (g : 0 ≤ e4) => absurd q2 (Int32.not_lt.mpr g)) (fun _ => ?_)
      refine R_stop (fun r' c1 c2 c3 c4 c5 c6 => ?_)
      exact h1 r' c1 c2 (wrong r' c1 c2 c3 c4 c5 c6) c4 (hn q1)
    · obtain ⟨s1, s2⟩ := hs a q1
      subst q2
      have ek : (nI a).toNatClampNeg = a := nI_clamp (by omega)
      refine And.intro (fun _ => ?_) (fun (g : ¬ 0 ≤ nI a) => absurd (Int32.not_lt.mp q3) g)
      refine And.intro (vp_in_nI q6 (by decide)) ?_
      rw [ek]
      refine And.intro (vp_in_nI q6 (by decide)) ?_
      rw [ek]
      refine R_push (S := S) (h := H a) hB hf (hB.2.1 a q4).1 x0 (fun k r3 hm g4 => ?_)
      obtain ⟨⟨m1, -⟩, ⟨m2, m3, m4⟩, m5, m6, m7, m8⟩ := hm
      refine And.intro i52 ?_
      have e9 : ofV H (behV T (p % 16) (ofV H (behV T (p / 16) E))) = H a := by rw [s2]; rfl
      have h9 := h2 k (sR r3 (upd r3.reg 2 y)) m1 (kp_tr m2 kp_sR) m3 s1 (by rw [s2]; rfl)
      rw [e9] at h9
      refine h9 ?_ (by rw [← m6]; exact sm_Ur sm_sR)
      exact RX_up (r := r) (x0 := nI k) (x1 := r.reg 1) (x2 := y) (x3 := r.reg 3) (x4 := r.reg 4) (sm_RB sm_sR m5) (up_tr m4 (sm_up sm_sR)) (sm_rg sm_sR m8) x1 hC x3 x4 (by show upd r3.reg 2 y 0 = nI k; rw [g4]; rfl) (by show upd r3.reg 2 y 1 = _; rw [g4]; rfl) rfl (by show upd r3.reg 2 y 3 = _; rw [g4]; rfl) (by show upd r3.reg 2 y 4 = _; rw [g4]; rfl)
  have loop2 : ∀ (j k : Nat) (x e4 : Int32) (V : Vl), j + k = p % 16 → ((kV (behV T (p / 16) E) = 3 ∧ V = behV T k (ofV H (behV T (p / 16) E)) ∧ lst T V) ∨ (¬ kV (behV T (p / 16) E) = 3 ∧ V = vNil)) → rg r V e4 → J 30 [some (.ref 27), some (.int (nI p)), some (.int y), some (.int x), some (.int e4), some (.int (nI k))] [] (cW s (rW r tl), b0, b1, op) := by
    intro j
    induction j with
    | zero =>
      intro k x e4 V hk hV hg
      refine hJ _ _ _ _ ?_
      refine And.intro (by decide) ?_
      rw [d2]
      refine And.intro (fun _ => ?_) (fun (g : ¬ nI (p % 16) ≤ nI k) => absurd (nI_le (by omega) (by omega)) g)
      refine fin x e4 _ V ?_ hg ?_ ?_ _
      · rcases hg with ⟨q, -⟩ | ⟨a, q, -⟩
        · exact Or.inl q
        · exact Or.inr ⟨a, q⟩
      · intro e
        rcases hV with ⟨c1, c2, -⟩ | ⟨c1, -⟩
        · refine Or.inr ?_
          rw [show p % 16 = k by omega, ← c2, e]
          decide
        · exact Or.inl c1
      · intro a e
        rcases hV with ⟨c1, c2, -⟩ | ⟨c1, c2⟩
        · refine ⟨c1, ?_⟩
          rw [show p % 16 = k by omega, ← c2, e]
        · rw [c2] at e
          cases e
    | succ j ih =>
      intro k x e4 V hk hV hg
      refine hJ _ _ _ _ ?_
      refine And.intro (by decide) ?_
      rw [d2]
      refine And.intro (fun (g : nI (p % 16) ≤ nI k) => absurd g (nI_ge (by omega) (by omega))) (fun _ => ?_)
      rcases rg_neg hg hz with ⟨q1, q2, q3⟩ | ⟨a, q1, q2, q3, q4, q5, q6⟩
      · refine And.intro (fun _ => ?_) (fun (g : ¬ e4 < 0) => absurd q2 g)
        refine fin x e4 _ V (Or.inl q1) hg (fun _ => ?_) (fun a e => ?_) _
        · rcases hV with ⟨c1, c2, -⟩ | ⟨c1, -⟩
          · refine Or.inr ?_
            rw [beh_nil k (p % 16) (c2.symm.trans q1) (by omega)]
            decide
          · exact Or.inl c1
        · rw [q1] at e
          cases e
      · refine And.intro (fun (g : e4 < 0) => absurd g q3) (fun _ => ?_)
        refine R_rest q2 q6 ?_
        rcases hV with ⟨c1, c2, c3⟩ | ⟨c1, c2⟩
        · have l1 : lst T (T a) := by
            obtain ⟨mm, c3⟩ := c3
            rw [q1] at c3
            cases mm with
            | zero => cases c3
            | succ mm =>
              obtain ⟨a', c4, c5⟩ := c3
              cases c4
              exact ⟨mm, c5⟩
          have l2 : isL_ (T a) := by
            obtain ⟨mm, l1⟩ := l1
            cases mm with
            | zero => exact Or.inl l1
            | succ mm =>
              obtain ⟨a', c4, c5⟩ := l1
              exact Or.inr ⟨a', c4⟩
          have key : ∀ z : Int32, z = nI (k + 1) → J 30 [some (.ref 27), some (.int (nI p)), some (.int y), some (.int x), some (.int (rsN r a)), some (.int z)] [] (cW s (rW r tl), b0, b1, op) := by
            rintro z rfl
            exact ih (k + 1) x (rsN r a) (T a) (by omega) (Or.inl ⟨c1, (beh_step (c2.symm.trans q1)).symm, l1⟩) (rs_rg hB q4 l2)
          exact key _ (nI_succ k).symm
        · rw [q1] at c2
          cases c2
  have mid : ∀ (e3 : Int32) (e4 : Option Value) (V : Vl), V = behV T (p / 16) E → isE ro V → rg r V e3 → (∃ k, e4 = some (.int k)) → ∀ F : Nat, mj_sg (mj_Mt gT cst gnw (m + 2)) cst gnw (mj_hd (mj_off kO_R_look) kH_R_look) kC_R_look J Q (F + 60) false 20 [some (.ref 27), some (.int (nI p)), some (.int y), some (.int e3), e4, none] [] (cW s (rW r tl), b0, b1, op) := by
    rintro e3 e4 V hV hE hg ⟨k, rfl⟩ F
    rcases rg_neg hg hz with ⟨q1, q2, q3⟩ | ⟨a, q1, q2, q3, q4, q5, q6⟩
    · refine And.intro (fun (g : 0 ≤ e3) => absurd q2 (Int32.not_lt.mpr g)) (fun _ => ?_)
      exact loop2 (p % 16) 0 e3 (-1) vNil (by omega) (Or.inr ⟨by rw [← hV, q1]; decide, rfl⟩) (Or.inl ⟨rfl, rfl⟩)
    · refine And.intro (fun _ => ?_) (fun (g : ¬ 0 ≤ e3) => absurd (Int32.not_lt.mp q3) g)
      refine R_headList q2 q6 ?_
      have hra : ro a = true := by
        rcases hE with h | ⟨b, h, hb⟩
        · rw [q1] at h
          cases h
        · rw [q1] at h
          cases h
          exact hb
      have l1 := (hro a q4 hra).2
      have l2 : isL_ (H a) := by
        obtain ⟨mm, l1⟩ := l1
        cases mm with
        | zero => exact Or.inl l1
        | succ mm =>
          obtain ⟨a', c4, c5⟩ := l1
          exact Or.inr ⟨a', c4⟩
      exact loop2 (p % 16) 0 e3 (hlN r a) (H a) (by omega) (Or.inl ⟨by rw [← hV, q1]; rfl, by rw [← hV, q1]; rfl, l1⟩) (hl_rg hB q4 l2)
  have loop1 : ∀ (j k : Nat) (e3 : Int32) (V : Vl), j + k = p / 16 → V = behV T k E → isE ro V → rg r V e3 → J 7 [some (.ref 27), some (.int (nI p)), some (.int y), some (.int e3), some (.int (nI k)), none] [] (cW s (rW r tl), b0, b1, op) := by
    intro j
    induction j with
    | zero =>
      intro k e3 V hk hV hE hg
      refine hJ _ _ _ _ ?_
      refine And.intro (by decide) ?_
      rw [d1]
      refine And.intro (fun _ => ?_) (fun (g : ¬ nI (p / 16) ≤ nI k) => absurd (nI_le (by omega) (by omega)) g)
      exact mid e3 _ V (by rw [hV, show k = p / 16 by omega]) hE hg ⟨_, rfl⟩ _
    | succ j ih =>
      intro k e3 V hk hV hE hg
      refine hJ _ _ _ _ ?_
      refine And.intro (by decide) ?_
      rw [d1]
      refine And.intro (fun (g : nI (p / 16) ≤ nI k) => absurd g (nI_ge (by omega) (by omega))) (fun _ => ?_)
      rcases rg_neg hg hz with ⟨q1, q2, q3⟩ | ⟨a, q1, q2, q3, q4, q5, q6⟩
      · refine And.intro (fun _ => ?_) (fun (g : ¬ e3 < 0) => absurd q2 g)
        exact mid e3 _ V (by rw [q1, beh_nil k (p / 16) (hV.symm.trans q1) (by omega)]) hE hg ⟨_, rfl⟩ _
      · refine And.intro (fun (g : e3 < 0) => absurd g q3) (fun _ => ?_)
        refine R_rest q2 q6 ?_
        have hra : ro a = true := by
          rcases hE with h | ⟨b, h, hb⟩
          · rw [q1] at h
            cases h
          · rw [q1] at h
            cases h
            exact hb
        have l1 := (hro a q4 hra).1
        have key : ∀ z : Int32, z = nI (k + 1) → J 7 [some (.ref 27), some (.int (nI p)), some (.int y), some (.int (rsN r a)), some (.int z), none] [] (cW s (rW r tl), b0, b1, op) := by
          rintro z rfl
          exact ih (k + 1) (rsN r a) (T a) (by omega) (beh_step (hV.symm.trans q1)).symm l1 (rs_rg hB q4 (isL_isE l1))
        exact key _ (nI_succ k).symm
  refine hJ _ _ _ _ ?_
  refine And.intro i51 ?_
  exact loop1 (p / 16) 0 (r.reg 1) E (by omega) rfl hE x1
end RL
end
section
section RC
variable {cst : Nat → Option (Nat × (Nat → Int32))} {m b0 b1 : Nat} {op : Bool} {tl : List mj_O} {Q : mj_R → Prop} {s : cS} {r : rM} {H T : Nat → Vl} {S E C D R C' : Vl}
set_option maxRecDepth 10000
theorem rv_int {v : Vl} {kd x : Int32} (h : rv r v kd x) : kd = 1 ↔ kV v = 1 := by
  rcases v with u | y | y | i | i
  · rw [h.1]
    exact ⟨fun q => absurd q (by decide), fun q => absurd q (show ¬ 0 = 1 by decide)⟩
  · rw [h.1]
    exact ⟨fun _ => rfl, fun _ => rfl⟩
  · rw [h.1]
    exact ⟨fun q => absurd q (by decide), fun q => absurd q (show ¬ 2 = 1 by decide)⟩
  · rw [h.1]
    exact ⟨fun q => absurd q (by decide), fun q => absurd q (show ¬ 3 = 1 by decide)⟩
  · rw [h.1]
    exact ⟨fun q => absurd q (by decide), fun q => absurd q (show ¬ 4 = 1 by decide)⟩
theorem rv_int2 {v : Vl} {kd x : Int32} (h : rv r v kd x) (e : kV v = 1) : v = vInt x := by
  rcases v with u | y | y | i | i
  · cases e
  · rw [h.2]
  · cases e
  · cases e
  · cases e
theorem rv_pair {v : Vl} {kd x : Int32} (h : rv r v kd x) : (kV v = 3 ∧ ∃ k, v = vPr k ∧ kd = 3 ∧ x = nI k ∧ Ur r k ∧ r.function k = 0) ∨ (¬ kV v = 3 ∧ (¬ kd = 3 ∨ ∃ k, kd = 3 ∧ x = nI k ∧ Ur r k ∧ ¬ r.function k = 0)) := by
  rcases v with u | y | y | i | i
  · exact Or.inr ⟨by show ¬ 0 = 3; decide, Or.inl (by rw [h.1]; decide)⟩
  · exact Or.inr ⟨by show ¬ 1 = 3; decide, Or.inl (by rw [h.1]; decide)⟩
  · exact Or.inr ⟨by show ¬ 2 = 3; decide, Or.inl (by rw [h.1]; decide)⟩
  · exact Or.inl ⟨rfl, i, rfl, h⟩
  · exact Or.inr ⟨by show ¬ 4 = 3; decide, Or.inr ⟨i, h⟩⟩
theorem R_wrong {r1 r' : rM} (hX : RX r H T S E C D R) (s1 : sm r r1) (g1 : r1.reg = r.reg) (c1 : kp r1 r') (c2 : r'.state = 3) (c3 : upR r1 r') (c4 : Ur r' = Ur r1) (c5 : r'.reg = r1.reg) (c6 : ∀ H T, RB r1 H T → RB r' H T) : kp r r' ∧ r'.state = 3 ∧ RX r' H T S E C D R ∧ Ur r' = Ur r := by
  obtain ⟨hB, x0, x1, x2, x3, x4⟩ := hX
  have hu := up_tr (sm_up s1) c3
  have e := c5.trans g1
  refine ⟨kp_tr s1.1 c1, c2, ⟨c6 H T (sm_RB s1 hB), by rw [e]; exact rg_up hu x0, by rw [e]; exact rg_up hu x1, by rw [e]; exact rg_up hu x2, by rw [e]; exact rg_up hu x3, by rw [e]; exact rg_up hu x4⟩, c4.trans (sm_Ur s1)⟩
theorem R_choose {a d q : Nat} {y : Int32} (hX : RX r H T (vPr a) E C D R) (hf : 1 ≤ fz r) (lT : isL_ (T a)) (ey : y = nI d) (ud : Ur r d) (e1 : T d = vPr q) (uq : Ur r q) (lq : isL_ (T q)) (l1 : isL_ (H d)) (l2 : isL_ (H q))
    (h1 : ∀ r', kp r r' → r'.state = 3 → RX r' H T (vPr a) E C D R → Ur r' = Ur r → ¬ kV (H a) = 1 → Q (.inl none, (cW s (rW r' tl), b0, b1, op)))
    (h2 : ∀ k r' x, ¬ Ur r k → kp r r' → r'.state = r.state → H a = vInt x → RX r' (upW H k (T q)) (upW T k D) (T a) E (if x = 0 then H q else H d) (vPr k) R → Ur r' = addU (Ur r) k → Q (.inl none, (cW s (rW r' tl), b0, b1, op))) :
    mj_Mt gT cst gnw (m + 3) y_R_choose [.ref 27, .int y] (cW s (rW r tl), b0, b1, op) Q := by
  subst ey
  have hX0 := hX
  obtain ⟨hB, x0, x1, x2, x3, x4⟩ := hX
  obtain ⟨a', ea, h0, ua, -⟩ := x0.resolve_left (fun q => by cases q.1)
  cases ea
  have hz := hB.1.2
  have hv := (hB.2.1 a ua).1
  intro J hJ
  refine hJ _ _ _ _ ?_
  refine R_peek0 (Ur_lt hB ua) h0 (fun r1 s1 g1 g2 g3 => ?_)
  have hB1 := sm_RB s1 hB
  have v1 : ∀ {a}, Ur r a → Ur r1 a := fun h => by rw [sm_Ur s1]; exact h
  refine And.intro (fun (w : r1.gotKind = 1) => ?_) (fun (w : ¬ r1.gotKind = 1) => ?_)
  · rw [g2] at w
    have hi := (rv_int hv).mp w
    have hx := rv_int2 hv hi
    refine R_drop (Ur_lt hB ua) (by rw [g1]; exact h0) (fun r2 s2 g4 g5 g6 => ?_)
    have s12 := sm_tr s1 s2
    have hB2 := sm_RB s12 hB
    have v2 : ∀ {a}, Ur r a → Ur r2 a := fun h => by rw [sm_Ur s12]; exact h
    rw [g1] at g4
    refine R_rest rfl (Ur_lt hB ud) ?_
    refine R_rest (rs_pr hB2 (v2 ud) e1) (Ur_lt hB uq) ?_
    refine And.intro i53 ?_
    refine R_makeOf (h := T q) (t := D) hB2 (by rw [sm_fz s12]; exact hf) (rs_rg hB2 (v2 uq) lq) (by rw [g4]; exact sm_rg s12 x3) (fun k r3 hm g7 g8 => ?_)
    obtain ⟨⟨m1, -⟩, ⟨m2, m3, m4⟩, m5, m6, m7, m8⟩ := hm
    rw [sm_Ur s12] at m1 m6
    have g9 : r3.got = r.head a := g8.trans (g6.trans g3)
    refine And.intro i53 ?_
    change mj_sg _ _ _ _ _ _ _ _ _ _ _ _ (cW s (rW (sR r3 (upd r3.reg 3 (nI k))) tl), b0, b1, op)
    have hu3 := up_tr (sm_up s12) m4
    have k1 : ∀ i, hlN (sR r3 (upd r3.reg 3 (nI k))) i = hlN r3 i := fun _ => rfl
    have fin : ∀ (V : Vl) (w : Int32), rg r3 V w → (V = if r.head a = 0 then H q else H d) → Q (.inl none, (cW s (rW (sR r3 (upd (upd r3.reg 3 (nI k)) 2 w)) tl), b0, b1, op)) := by
      intro V w hV eV
      have h9 := h2 k (sR r3 (upd (upd r3.reg 3 (nI k)) 2 w)) (r.head a) m1 (kp_tr (kp_tr s12.1 m2) kp_sR) (m3.trans s12.2.1) hx
      rw [← eV] at h9
      refine h9 ?_ (by rw [← m6]; exact sm_Ur sm_sR)
      refine ⟨sm_RB sm_sR m5, ?_, ?_, ?_, ?_, ?_⟩
      · show rg _ _ (r3.reg 0)
        rw [g7, g4]
        refine sm_rg sm_sR (rg_up hu3 ?_)
        show rg r (T a) (rsN r1 a)
        rw [sm_rs s1]
        exact rs_rg hB ua lT
      · show rg _ _ (r3.reg 1)
        rw [g7, g4]
        exact sm_rg sm_sR (rg_up hu3 x1)
      · exact sm_rg sm_sR hV
      · exact sm_rg sm_sR m8
      · show rg _ _ (r3.reg 4)
        rw [g7, g4]
        exact sm_rg sm_sR (rg_up hu3 x4)
    have mk : ∀ i, Ur r i → isL_ (H i) → rg r3 (H i) (hlN r3 i) := by
      intro i ui hi
      have hne : ¬ i = k := fun e => m1 (e ▸ ui)
      have e9 : upW H k (T q) i = H i := if_neg hne
      have q1 := hl_rg m5 (hu3.2 i ui).1 (by rw [e9]; exact hi)
      rw [e9] at q1
      exact q1
    refine And.intro (fun (w : (sR r3 (upd r3.reg 3 (nI k))).got = 0) => ?_) (fun (w : ¬ (sR r3 (upd r3.reg 3 (nI k))).got = 0) => ?_)
    · have w2 : r.head a = 0 := g9.symm.trans w
      refine R_headList (rs_pr hB2 (v2 ud) e1) (Ur_lt hB uq) ?_
      refine And.intro i52 ?_
      exact fin (H q) _ (mk q uq l2) (by rw [if_pos w2])
    · have w2 : ¬ r.head a = 0 := fun e => w (g9.trans e)
      refine R_headList rfl (Ur_lt hB ud) ?_
      refine And.intro i52 ?_
      exact fin (H d) _ (mk d ud l1) (by rw [if_neg w2])
  · refine R_stop (fun r' c1 c2 c3 c4 c5 c6 => ?_)
    obtain ⟨w1, w2, w3, w4⟩ := R_wrong hX0 s1 g1 c1 c2 c3 c4 c5 c6
    exact h1 r' w1 w2 w3 w4 (fun e => w (by rw [g2]; exact (rv_int hv).mpr e))
theorem R_ofOne {a : Nat} {i y : Int32} (hi : i = 10 ∨ i = 11 ∨ i = 12) (hX : RX r H T (vPr a) E C D R) (hf : 1 ≤ fz r) (lT : isL_ (T a)) (hC : rg r C' y)
    (h1 : ∀ r', kp r r' → r'.state = 3 → RX r' H T (vPr a) E C D R → Ur r' = Ur r → ¬ i = 12 → ¬ kV (H a) = 3 → Q (.inl none, (cW s (rW r' tl), b0, b1, op)))
    (h2 : ∀ k r' w, ¬ Ur r k → kp r r' → r'.state = r.state → ((i = 10 ∧ kV (H a) = 3 ∧ w = ofV H (H a)) ∨ (i = 11 ∧ kV (H a) = 3 ∧ w = ofV T (H a)) ∨ (i = 12 ∧ w = vInt (if kV (H a) = 3 then 0 else 1))) → RX r' (upW H k w) (upW T k (T a)) (vPr k) E C' D R → Ur r' = addU (Ur r) k → Q (.inl none, (cW s (rW r' tl), b0, b1, op))) :
    mj_Mt gT cst gnw (m + 3) y_R_ofOne [.ref 27, .int i, .int y] (cW s (rW r tl), b0, b1, op) Q := by
  have hX0 := hX
  obtain ⟨hB, x0, x1, x2, x3, x4⟩ := hX
  obtain ⟨a', ea, h0, ua, -⟩ := x0.resolve_left (fun q => by cases q.1)
  cases ea
  have hz := hB.1.2
  have hv := (hB.2.1 a ua).1
  intro J hJ
  refine hJ _ _ _ _ ?_
  refine R_peek0 (Ur_lt hB ua) h0 (fun r1 s1 g1 g2 g3 => ?_)
  have hB1 := sm_RB s1 hB
  have v1 : ∀ {a}, Ur r a → Ur r1 a := fun h => by rw [sm_Ur s1]; exact h
  have fin : ∀ (r2 : rM) (w : Vl) (kd x : Int32), sm r r2 → r2.reg = upd r.reg 0 (rsN r a) → rv r w kd x → ((i = 10 ∧ kV (H a) = 3 ∧ w = ofV H (H a)) ∨ (i = 11 ∧ kV (H a) = 3 ∧ w = ofV T (H a)) ∨ (i = 12 ∧ w = vInt (if kV (H a) = 3 then 0 else 1))) → ∀ Q' : mj_R → Prop, (∀ r3, (∀ r4, r4 = sR r3 (upd r3.reg 2 y) → Q (.inl none, (cW s (rW r4 tl), b0, b1, op))) → Q' (.inl none, (cW s (rW r3 tl), b0, b1, op))) → mj_Mt gT cst gnw (m + 2) y_R_push [.ref 27, .int kd, .int x] (cW s (rW r2 tl), b0, b1, op) Q' := by
    intro r2 w kd x s2 g4 hw hc Q' hQ'
    refine R_push (S := T a) (h := w) (sm_RB s2 hB) (by rw [sm_fz s2]; exact hf) (sm_rv s2 hw) (by rw [g4]; exact sm_rg s2 (rs_rg hB ua lT)) (fun k r3 hm g5 => ?_)
    obtain ⟨⟨m1, -⟩, ⟨m2, m3, m4⟩, m5, m6, m7, m8⟩ := hm
    rw [sm_Ur s2] at m1 m6
    refine hQ' r3 (fun r4 e4 => ?_)
    subst e4
    refine h2 k _ w m1 (kp_tr (kp_tr s2.1 m2) kp_sR) (m3.trans s2.2.1) hc ?_ (by rw [← m6]; exact sm_Ur sm_sR)
    exact RX_up (r := r) (x0 := nI k) (x1 := r.reg 1) (x2 := y) (x3 := r.reg 3) (x4 := r.reg 4) (sm_RB sm_sR m5) (up_tr (sm_up s2) (up_tr m4 (sm_up sm_sR))) (sm_rg sm_sR m8) x1 hC x3 x4 (by show upd r3.reg 2 y 0 = nI k; rw [g5]; rfl) (by show upd r3.reg 2 y 1 = _; rw [g5, g4]; rfl) rfl (by show upd r3.reg 2 y 3 = _; rw [g5, g4]; rfl) (by show upd r3.reg 2 y 4 = _; rw [g5, g4]; rfl)
  have mid : ∀ F : Nat, (¬ i = 12 → kV (H a) = 3) → mj_sg (mj_Mt gT cst gnw (m + 2)) cst gnw (mj_hd (mj_off kO_R_ofOne) kH_R_ofOne) kC_R_ofOne J Q (F + 100) false 13 [some (.ref 27), some (.int i), some (.int y), none, none] [] (cW s (rW r1 tl), b0, b1, op) := by
    intro F hk
    have hg : r1.gotKind = 3 → ∃ k, k < 250 ∧ r1.got = nI k := by
      intro w
      rw [g2] at w
      obtain ⟨j, hj, ej⟩ := rv_raw hv w
      exact ⟨j, by omega, by rw [g3, ej]⟩
    refine r_isPair hg (fun k w1 w2 w3 w4 => ?_) (fun w => ?_)
    · have hw : kV (H a) = 3 ∧ H a = vPr k ∧ Ur r k := by
        rcases rv_pair hv with ⟨p1, j, p2, p3, p4, p5, p6⟩ | ⟨p1, p2⟩
        · have e : k = j := nIj (by omega) (by have := p5.1; omega) (by rw [← w2, g3, p4])
          subst e
          exact ⟨p1, p2, p5⟩
        · exfalso
          rcases p2 with p2 | ⟨j, p2, p3, p4, p5⟩
          · exact p2 (by rw [← g2]; exact w1)
          · have e : k = j := nIj (by omega) (by have := p4.1; omega) (by rw [← w2, g3, p3])
            subst e
            rw [s1.2.2.1.2] at w4
            exact p5 w4
      obtain ⟨hk3, eH, uk⟩ := hw
      refine R_drop (Ur_lt hB ua) (by rw [g1]; exact h0) (fun r2 s2 g4 g5 g6 => ?_)
      have s12 := sm_tr s1 s2
      have g7 : r2.reg = upd r.reg 0 (rsN r a) := by rw [g4, g1, sm_rs s1]
      have ec : r1.got.toNatClampNeg = k := by rw [w2]; exact nI_clamp (by omega)
      have hin : vp_in r1.got 250 := by rw [w2]; exact vp_in_nI w3 (by decide)
      rcases hi with rfl | rfl | rfl
      · refine And.intro (fun (g : ¬ (10 : Int32) = 10) => absurd rfl g) (fun _ => ?_)
        refine And.intro hin (And.intro hin ?_)
        refine fin r2 (ofV H (H a)) _ _ s12 g7 ?_ (Or.inl ⟨rfl, hk3, rfl⟩) _ (fun r3 h4 => ?_)
        · rw [ec, s12.2.2.2.1.1, s12.2.2.2.1.2, eH]
          exact (hB.2.1 k uk).1
        · exact And.intro i52 (h4 _ rfl)
      · refine And.intro (fun _ => ?_) (fun (g : (11 : Int32) = 10) => absurd g (by decide))
        refine And.intro (fun (g : ¬ (11 : Int32) = 11) => absurd rfl g) (fun _ => ?_)
        refine And.intro hin (And.intro hin ?_)
        refine fin r2 (ofV T (H a)) _ _ s12 g7 ?_ (Or.inr (Or.inl ⟨rfl, hk3, rfl⟩)) _ (fun r3 h4 => ?_)
        · rw [ec, s12.2.2.2.2.1, s12.2.2.2.2.2, eH]
          exact (hB.2.1 k uk).2
        · exact And.intro i52 (h4 _ rfl)
      · refine And.intro (fun _ => ?_) (fun (g : (12 : Int32) = 10) => absurd g (by decide))
        refine And.intro (fun _ => ?_) (fun (g : (12 : Int32) = 11) => absurd g (by decide))
        refine And.intro (fun (g : (1 : Int32) = 0) => absurd g (by decide)) (fun _ => ?_)
        refine fin r2 (vInt 0) _ _ s12 g7 ⟨rfl, rfl⟩ (Or.inr (Or.inr ⟨rfl, by rw [if_pos hk3]⟩)) _ (fun r3 h4 => ?_)
        exact And.intro i52 (h4 _ rfl)
    · have hk3 : ¬ kV (H a) = 3 := by
        intro p1
        rcases rv_pair hv with ⟨-, j, p2, p3, p4, p5, p6⟩ | ⟨p2, -⟩
        · rcases w with w | ⟨k, w1, w2, w3⟩
          · exact w (by rw [g2]; exact p3)
          · have e : k = j := nIj (by omega) (by have := p5.1; omega) (by rw [← w2, g3, p4])
            subst e
            rw [s1.2.2.1.2] at w3
            exact w3 p6
        · exact p2 p1
      have e12 : i = 12 := by
        by_cases e : i = 12
        · exact e
        · exact absurd (hk e) hk3
      subst e12
      refine R_drop (Ur_lt hB ua) (by rw [g1]; exact h0) (fun r2 s2 g4 g5 g6 => ?_)
      have s12 := sm_tr s1 s2
      have g7 : r2.reg = upd r.reg 0 (rsN r a) := by rw [g4, g1, sm_rs s1]
      refine And.intro (fun _ => ?_) (fun (g : (12 : Int32) = 10) => absurd g (by decide))
      refine And.intro (fun _ => ?_) (fun (g : (12 : Int32) = 11) => absurd g (by decide))
      refine And.intro (fun _ => ?_) (fun (g : ¬ (0 : Int32) = 0) => absurd rfl g)
      refine fin r2 (vInt 1) _ _ s12 g7 ⟨rfl, rfl⟩ (Or.inr (Or.inr ⟨rfl, by rw [if_neg hk3]⟩)) _ (fun r3 h4 => ?_)
      exact And.intro i52 (h4 _ rfl)
  refine And.intro (fun (w : (12 : Int32) ≤ i) => ?_) (fun (w : ¬ (12 : Int32) ≤ i) => ?_)
  · refine mid _ (fun e => ?_)
    rcases hi with rfl | rfl | rfl
    · exact absurd w (by decide)
    · exact absurd w (by decide)
    · exact absurd rfl e
  · have n12 : ¬ i = 12 := fun e => w (by rw [e]; decide)
    have hg : r1.gotKind = 3 → ∃ k, k < 250 ∧ r1.got = nI k := by
      intro w
      rw [g2] at w
      obtain ⟨j, hj, ej⟩ := rv_raw hv w
      exact ⟨j, by omega, by rw [g3, ej]⟩
    refine r_isPair hg (fun k w1 w2 w3 w4 => ?_) (fun w => ?_)
    · refine And.intro (fun _ => ?_) (fun (g : (1 : Int32) = 0) => absurd g (by decide))
      refine mid _ (fun _ => ?_)
      rcases rv_pair hv with ⟨p1, -⟩ | ⟨p1, p2⟩
      · exact p1
      · exfalso
        rcases p2 with p2 | ⟨j, p2, p3, p4, p5⟩
        · exact p2 (by rw [← g2]; exact w1)
        · have e : k = j := nIj (by omega) (by have := p4.1; omega) (by rw [← w2, g3, p3])
          subst e
          rw [s1.2.2.1.2] at w4
          exact p5 w4
    · refine And.intro (fun (g : ¬ (0 : Int32) = 0) => absurd rfl g) (fun _ => ?_)
      refine R_stop (fun r' c1 c2 c3 c4 c5 c6 => ?_)
      obtain ⟨w1, w2, w3, w4⟩ := R_wrong hX0 s1 g1 c1 c2 c3 c4 c5 c6
      refine h1 r' w1 w2 w3 w4 n12 (fun p1 => ?_)
      rcases rv_pair hv with ⟨-, j, p2, p3, p4, p5, p6⟩ | ⟨p2, -⟩
      · rcases w with w | ⟨k, w1, w2, w3⟩
        · exact w (by rw [g2]; exact p3)
        · have e : k = j := nIj (by omega) (by have := p5.1; omega) (by rw [← w2, g3, p4])
          subst e
          rw [s1.2.2.1.2] at w3
          exact w3 p6
      · exact p2 p1
end RC
end
