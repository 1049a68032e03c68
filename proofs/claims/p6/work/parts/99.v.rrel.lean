def Ur (r : rM) (a : Nat) : Prop := a < r.z ∧ ¬ r.used a = 0
def rv (r : rM) (v : Vl) (kd x : Int32) : Prop := match v with
  | .inl _ => kd = 0 ∧ x = 0
  | .inr (.inl y) => kd = 1 ∧ x = y
  | .inr (.inr (.inl y)) => kd = 2 ∧ x = y
  | .inr (.inr (.inr (.inl a))) => kd = 3 ∧ x = nI a ∧ Ur r a ∧ r.function a = 0
  | .inr (.inr (.inr (.inr a))) => kd = 3 ∧ x = nI a ∧ Ur r a ∧ ¬ r.function a = 0
def rg (r : rM) (v : Vl) (x : Int32) : Prop := (v = vNil ∧ x = -1) ∨ ∃ a, v = vPr a ∧ x = nI a ∧ Ur r a ∧ r.function a = 0
def raw (r : rM) : Prop := ∀ a, a < 250 → (r.headKind a = 3 → ∃ j, j < r.z ∧ r.head a = nI j) ∧ (r.tailKind a = 3 → ∃ j, j < r.z ∧ r.tail a = nI j)
def RB (r : rM) (H T : Nat → Vl) : Prop := (1 ≤ r.z ∧ r.z ≤ 250) ∧ (∀ a, Ur r a → rv r (H a) (r.headKind a) (r.head a) ∧ rv r (T a) (r.tailKind a) (r.tail a)) ∧ raw r
def fz (r : rM) : Nat := czN r.used r.z 0 0
def mkR (r : rM) (k : Nat) (a b c : Int32) : rM := ((((((r.s_used (upd r.used k 1)).s_function (upd r.function k 0)).s_headKind (upd r.headKind k a)).s_head (upd r.head k b)).s_tailKind (upd r.tailKind k (if c < 0 then 0 else 3))).s_tail (upd r.tail k (if c < 0 then 0 else c)))
theorem czN_add (u : Nat → Int32) : ∀ n k a, czN u n k a = a + czN u n k 0
  | 0, k, a => rfl
  | n + 1, k, a => by
    have e1 : czN u (n + 1) k a = czN u n (k + 1) (if u k = 0 then a + 1 else a) := rfl
    have e2 : czN u (n + 1) k 0 = czN u n (k + 1) (if u k = 0 then 0 + 1 else 0) := rfl
    rw [e1, e2]
    split
    · rw [czN_add u n (k + 1) (a + 1), czN_add u n (k + 1) (0 + 1)]
      omega
    · rw [czN_add u n (k + 1) a]
theorem czN_ex (u : Nat → Int32) : ∀ n k, 1 ≤ czN u n k 0 → ∃ i, k ≤ i ∧ i < k + n ∧ u i = 0
  | 0, k, h => absurd h (by show ¬ 1 ≤ 0; decide)
  | n + 1, k, h => by
    by_cases hk : u k = 0
    · exact ⟨k, Nat.le_refl _, by omega, hk⟩
    · have e : czN u (n + 1) k 0 = czN u n (k + 1) (if u k = 0 then 0 + 1 else 0) := rfl
      rw [e, if_neg hk] at h
      obtain ⟨i, h1, h2, h3⟩ := czN_ex u n (k + 1) h
      exact ⟨i, by omega, by omega, h3⟩
theorem czN_out (u : Nat → Int32) (i : Nat) (y : Int32) : ∀ n k a, (i < k ∨ k + n ≤ i) → czN (upd u i y) n k a = czN u n k a
  | 0, k, a, _ => rfl
  | n + 1, k, a, h => by
    have e1 : czN u (n + 1) k a = czN u n (k + 1) (if u k = 0 then a + 1 else a) := rfl
    have e2 : czN (upd u i y) (n + 1) k a = czN (upd u i y) n (k + 1) (if upd u i y k = 0 then a + 1 else a) := rfl
    have e3 : upd u i y k = u k := if_neg (by omega)
    rw [e1, e2, e3]
    exact czN_out u i y n (k + 1) _ (by omega)
theorem czN_upd (u : Nat → Int32) (i : Nat) (hi : u i = 0) : ∀ n k a, k ≤ i → i < k + n → czN (upd u i 1) n k a + 1 = czN u n k a
  | 0, k, a, h1, h2 => by omega
  | n + 1, k, a, h1, h2 => by
    have e1 : czN u (n + 1) k a = czN u n (k + 1) (if u k = 0 then a + 1 else a) := rfl
    have e2 : czN (upd u i 1) (n + 1) k a = czN (upd u i 1) n (k + 1) (if upd u i 1 k = 0 then a + 1 else a) := rfl
    by_cases e : k = i
    · subst e
      have e3 : upd u k 1 k = 1 := if_pos rfl
      rw [e1, e2, e3, if_neg (by decide), if_pos hi, czN_out u k 1 n (k + 1) a (Or.inl (by omega)), czN_add u n (k + 1) (a + 1), czN_add u n (k + 1) a]
      omega
    · have e3 : upd u i 1 k = u k := if_neg e
      rw [e1, e2, e3]
      exact czN_upd u i hi n (k + 1) _ (by omega) (by omega)
theorem ffN_zero (u : Nat → Int32) : ∀ n k, (∃ i, k ≤ i ∧ i ≤ k + n ∧ u i = 0) → u (ffN u n k) = 0
  | 0, k, ⟨i, h1, h2, h3⟩ => by
    obtain rfl : i = k := by omega
    exact h3
  | n + 1, k, ⟨i, h1, h2, h3⟩ => by
    have e : ffN u (n + 1) k = if u k = 0 then k else ffN u n (k + 1) := rfl
    rw [e]
    split
    · assumption
    · next hk =>
      refine ffN_zero u n (k + 1) ⟨i, ?_, by omega, h3⟩
      rcases Nat.lt_or_ge k i with h | h
      · exact h
      · obtain rfl : i = k := by omega
        exact absurd h3 hk
section RR
variable {r r' : rM} {H T : Nat → Vl} {v h t : Vl} {x a b c kd : Int32} {k : Nat}
theorem nIj {i j : Nat} (hi : i < 2 ^ 31) (hj : j < 2 ^ 31) (e : nI i = nI j) : i = j := by
  have := congrArg Int32.toNatClampNeg e
  rwa [nI_clamp hi, nI_clamp hj] at this
theorem rg_neg (h : rg r v x) (hz : r.z ≤ 250) : (v = vNil ∧ x < 0 ∧ x = -1) ∨ ∃ a, v = vPr a ∧ x = nI a ∧ ¬ x < 0 ∧ Ur r a ∧ r.function a = 0 ∧ a < 250 := by
  rcases h with ⟨rfl, rfl⟩ | ⟨a, rfl, rfl, h1, h2⟩
  · exact Or.inl ⟨rfl, by decide, rfl⟩
  · have := h1.1
    exact Or.inr ⟨a, rfl, rfl, nI_pos (by omega), h1, h2, by omega⟩
theorem rg_rv (h : rg r v x) (hz : r.z ≤ 250) : rv r v (if x < 0 then 0 else 3) (if x < 0 then 0 else x) := by
  rcases rg_neg h hz with ⟨rfl, h1, rfl⟩ | ⟨a, rfl, h1, h2, h3, h4, -⟩
  · rw [if_pos h1, if_pos h1]
    exact ⟨rfl, rfl⟩
  · rw [if_neg h2, if_neg h2]
    exact ⟨rfl, h1, h3, h4⟩
theorem rv_raw (h : rv r v kd x) (e : kd = 3) : ∃ j, j < r.z ∧ x = nI j := by
  rcases v with u | y | y | i | i
  · obtain ⟨h1, -⟩ := h
    rw [e] at h1
    exact absurd h1 (by decide)
  · obtain ⟨h1, -⟩ := h
    rw [e] at h1
    exact absurd h1 (by decide)
  · obtain ⟨h1, -⟩ := h
    rw [e] at h1
    exact absurd h1 (by decide)
  · exact ⟨i, h.2.2.1.1, h.2.1⟩
  · exact ⟨i, h.2.2.1.1, h.2.1⟩
def upR (r r' : rM) : Prop := r'.z = r.z ∧ ∀ a, Ur r a → Ur r' a ∧ (r'.function a = r.function a)
theorem rv_up (hu : upR r r') (h : rv r v kd x) : rv r' v kd x := by
  rcases v with u | y | y | i | i
  · exact h
  · exact h
  · exact h
  · obtain ⟨h1, h2, h3, h4⟩ := h
    exact ⟨h1, h2, (hu.2 i h3).1, (hu.2 i h3).2.trans h4⟩
  · obtain ⟨h1, h2, h3, h4⟩ := h
    exact ⟨h1, h2, (hu.2 i h3).1, by rw [(hu.2 i h3).2]; exact h4⟩
theorem rg_up (hu : upR r r') (h : rg r v x) : rg r' v x := by
  rcases h with h | ⟨a, h1, h2, h3, h4⟩
  · exact Or.inl h
  · exact Or.inr ⟨a, h1, h2, (hu.2 a h3).1, (hu.2 a h3).2.trans h4⟩
theorem mk_ok (hB : RB r H T) (hf : 1 ≤ fz r) (hk : k = ffN r.used (r.z - 1) 0) (hh : rv r h a b) (ht : rg r t c) :
    (¬ Ur r k) ∧ k < r.z ∧ upR r (mkR r k a b c) ∧ RB (mkR r k a b c) (upW H k h) (upW T k t) ∧ rg (mkR r k a b c) (vPr k) (nI k) ∧ Ur (mkR r k a b c) = addU (Ur r) k ∧ fz (mkR r k a b c) + 1 = fz r := by
  obtain ⟨⟨z1, z2⟩, hS, hr⟩ := hB
  have hlt : k < r.z := by
    have := ffN_le r.used (r.z - 1) 0
    omega
  have h0 : r.used k = 0 := by
    rw [hk]
    refine ffN_zero r.used (r.z - 1) 0 ?_
    obtain ⟨i, h1, h2, h3⟩ := czN_ex r.used r.z 0 hf
    exact ⟨i, h1, by omega, h3⟩
  have hnu : ¬ Ur r k := fun q => q.2 h0
  have hU : ∀ i, Ur (mkR r k a b c) i ↔ addU (Ur r) k i := by
    intro i
    unfold Ur addU mkR
    show (i < r.z ∧ ¬ upd r.used k 1 i = 0) ↔ _
    unfold upd
    by_cases e : i = k
    · subst e
      rw [if_pos rfl]
      exact ⟨fun _ => Or.inr rfl, fun _ => ⟨hlt, by decide⟩⟩
    · rw [if_neg e]
      exact ⟨Or.inl, fun q => q.resolve_right e⟩
  have hup : upR r (mkR r k a b c) := by
    refine ⟨rfl, fun i hi => ⟨(hU i).mpr (Or.inl hi), ?_⟩⟩
    show upd r.function k 0 i = r.function i
    exact if_neg (fun (e : i = k) => hnu (e ▸ hi))
  refine ⟨hnu, hlt, hup, ⟨⟨z1, z2⟩, ?_, ?_⟩, ?_, funext (fun i => propext (hU i)), ?_⟩
  · intro i hi
    by_cases e : i = k
    · subst e
      have e1 : upW H i h i = h := if_pos rfl
      have e2 : upW T i t i = t := if_pos rfl
      have e3 : (mkR r i a b c).headKind i = a := if_pos rfl
      have e4 : (mkR r i a b c).head i = b := if_pos rfl
      have e5 : (mkR r i a b c).tailKind i = if c < 0 then 0 else 3 := if_pos rfl
      have e6 : (mkR r i a b c).tail i = if c < 0 then 0 else c := if_pos rfl
      rw [e1, e2, e3, e4, e5, e6]
      exact ⟨rv_up hup hh, rv_up hup (rg_rv ht z2)⟩
    · have hi2 : Ur r i := ((hU i).mp hi).resolve_right e
      have e1 : upW H k h i = H i := if_neg e
      have e2 : upW T k t i = T i := if_neg e
      have e3 : (mkR r k a b c).headKind i = r.headKind i := if_neg e
      have e4 : (mkR r k a b c).head i = r.head i := if_neg e
      have e5 : (mkR r k a b c).tailKind i = r.tailKind i := if_neg e
      have e6 : (mkR r k a b c).tail i = r.tail i := if_neg e
      rw [e1, e2, e3, e4, e5, e6]
      exact ⟨rv_up hup (hS i hi2).1, rv_up hup (hS i hi2).2⟩
  · intro i hi
    by_cases e : i = k
    · subst e
      have e3 : (mkR r i a b c).headKind i = a := if_pos rfl
      have e4 : (mkR r i a b c).head i = b := if_pos rfl
      have e5 : (mkR r i a b c).tailKind i = if c < 0 then 0 else 3 := if_pos rfl
      have e6 : (mkR r i a b c).tail i = if c < 0 then 0 else c := if_pos rfl
      rw [e3, e4, e5, e6]
      exact ⟨fun q => rv_raw (r := r) hh q, fun q => rv_raw (r := r) (rg_rv ht z2) q⟩
    · have e3 : (mkR r k a b c).headKind i = r.headKind i := if_neg e
      have e4 : (mkR r k a b c).head i = r.head i := if_neg e
      have e5 : (mkR r k a b c).tailKind i = r.tailKind i := if_neg e
      have e6 : (mkR r k a b c).tail i = r.tail i := if_neg e
      rw [e3, e4, e5, e6]
      exact hr i hi
  · exact Or.inr ⟨k, rfl, rfl, (hU k).mpr (Or.inr rfl), if_pos rfl⟩
  · exact czN_upd r.used k h0 r.z 0 0 (Nat.zero_le _) (by omega)
def fnR (r : rM) (k : Nat) : rM := (r.s_function (upd r.function k 1))
theorem fn_ok (hB : RB r H T) (uk : Ur r k) (hh : ∀ i, Ur r i → ¬ ceV (H i) = some k ∧ ¬ ceV (T i) = some k) :
    RB (fnR r k) H T ∧ Ur (fnR r k) = Ur r ∧ fz (fnR r k) = fz r ∧ rv (fnR r k) (vFn k) 3 (nI k) ∧ (∀ v x, rg r v x → ¬ ceV v = some k → rg (fnR r k) v x) := by
  obtain ⟨⟨z1, z2⟩, hS, hr⟩ := hB
  have key : ∀ v kd x, rv r v kd x → ¬ ceV v = some k → rv (fnR r k) v kd x := by
    intro v kd x q w
    rcases v with u | y | y | i | i
    · exact q
    · exact q
    · exact q
    · obtain ⟨q1, q2, q3, q4⟩ := q
      refine ⟨q1, q2, q3, ?_⟩
      show upd r.function k 1 i = 0
      unfold upd
      rw [if_neg (fun e => w (by rw [e]; rfl))]
      exact q4
    · obtain ⟨q1, q2, q3, q4⟩ := q
      refine ⟨q1, q2, q3, ?_⟩
      show ¬ upd r.function k 1 i = 0
      unfold upd
      rw [if_neg (fun e => w (by rw [e]; rfl))]
      exact q4
  refine ⟨⟨⟨z1, z2⟩, fun i hi => ⟨key _ _ _ (hS i hi).1 (hh i hi).1, key _ _ _ (hS i hi).2 (hh i hi).2⟩, hr⟩, rfl, rfl, ⟨rfl, rfl, uk, ?_⟩, ?_⟩
  · show ¬ upd r.function k 1 k = 0
    unfold upd
    rw [if_pos rfl]
    decide
  · intro v x q w
    rcases q with q | ⟨a, rfl, q2, q3, q4⟩
    · exact Or.inl q
    · refine Or.inr ⟨a, rfl, q2, q3, ?_⟩
      show upd r.function k 1 a = 0
      unfold upd
      rw [if_neg (fun e => w (by rw [e]; rfl))]
      exact q4
theorem rs_pr (hB : RB r H T) {i j : Nat} (ui : Ur r i) (e : T i = vPr j) : rsN r i = nI j := by
  have := (hB.2.1 i ui).2
  rw [e] at this
  unfold rsN
  rw [if_pos this.1]
  exact this.2.1
theorem rs_nil (hB : RB r H T) {i : Nat} (ui : Ur r i) (e : T i = vNil) : rsN r i = -1 := by
  have := (hB.2.1 i ui).2
  rw [e] at this
  unfold rsN
  rw [if_neg]
  rw [this.1]
  decide
theorem hl_pr (hB : RB r H T) {i j : Nat} (ui : Ur r i) (e : H i = vPr j) : hlN r i = nI j := by
  have := (hB.2.1 i ui).1
  rw [e] at this
  unfold hlN
  rw [if_pos this.1]
  exact this.2.1
theorem hl_nil (hB : RB r H T) {i : Nat} (ui : Ur r i) (e : H i = vNil) : hlN r i = -1 := by
  have := (hB.2.1 i ui).1
  rw [e] at this
  unfold hlN
  rw [if_neg]
  rw [this.1]
  decide
def isL_ (v : Vl) : Prop := v = vNil ∨ ∃ a, v = vPr a
theorem rs_rg (hB : RB r H T) {i : Nat} (ui : Ur r i) (e : isL_ (T i)) : rg r (T i) (rsN r i) := by
  rcases e with e | ⟨j, e⟩
  · exact Or.inl ⟨e, rs_nil hB ui e⟩
  · have := (hB.2.1 i ui).2
    rw [e] at this
    exact Or.inr ⟨j, e, rs_pr hB ui e, this.2.2.1, this.2.2.2⟩
theorem hl_rg (hB : RB r H T) {i : Nat} (ui : Ur r i) (e : isL_ (H i)) : rg r (H i) (hlN r i) := by
  rcases e with e | ⟨j, e⟩
  · exact Or.inl ⟨e, hl_nil hB ui e⟩
  · have := (hB.2.1 i ui).1
    rw [e] at this
    exact Or.inr ⟨j, e, hl_pr hB ui e, this.2.2.1, this.2.2.2⟩
end RR
theorem isL_stk {H T : Nat → Vl} {ro : Nat → Bool} {k : Sk} {v : Vl} (h : stk H T ro k v) : isL_ v := by
  cases k with
  | nil => exact Or.inl h
  | cons x k =>
    obtain ⟨a, e, -⟩ := h
    exact Or.inr ⟨a, e⟩
theorem isL_isE {ro : Nat → Bool} {v : Vl} (h : isE ro v) : isL_ v := by
  rcases h with h | ⟨a, e, -⟩
  · exact Or.inl h
  · exact Or.inr ⟨a, e⟩
theorem isL_env {T : Nat → Vl} {ro : Nat → Bool} {n : Nat} {v : Vl} (h : env T ro n v) : isL_ v := isL_isE (env_0 h)
theorem isL_wtx {H T : Nat → Vl} {ro : Nat → Bool} {k : Sk} {n : Nat} {b : Bool} {e : En} {v : Vl} (h : wtx H T ro v k n b e) : isL_ v := by
  obtain ⟨f, h⟩ := h
  cases f with
  | zero => exact absurd h id
  | succ f =>
    obtain ⟨c, i, q, -⟩ := h
    exact Or.inr ⟨c, q⟩
theorem isL_dmx {H T : Nat → Vl} {ro : Nat → Bool} {e : En} {v : Vl} (h : dmx H T ro v e) : isL_ v := by
  obtain ⟨f, h⟩ := h
  cases f with
  | zero => exact Or.inl h.2
  | succ f =>
    rcases h with ⟨-, a, b, c, k, n, e', q, -⟩ | ⟨k, n, a, e', -, q, -⟩ <;> exact Or.inr ⟨a, q⟩
