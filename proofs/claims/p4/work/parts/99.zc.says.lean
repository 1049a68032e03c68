def XP (z d : Nat) (τ : Tau) : KP := fun t n => ∀ (f δ : Nat) (s : cD_) (φ : Fr), δ ≤ d → 11 ≤ f + δ → φ.length ≤ d → FRM t (dF s) (dK s) φ → RES z (τ φ) s (dEx z t f δ (some n) s)
def DP (z d : Nat) (D : TL) : KP := fun t n => ∀ (f δ : Nat) (s : cD_), δ ≤ d → 11 ≤ f + δ → RES z D s (dDa z t f δ (some n) s)
def PP (ls : List Nat) : KP := fun t n => n < tn t ∧ LTR t (tF t n) ls
def LtP (c : Nat) : KP := fun t n => tV t n = nI c
def BP (z d c : Nat) (τ : Tau) : KP := fun t n => n < tn t ∧ tV t n = nI c ∧ ∃ j, tF t n = some j ∧ XP z d τ t j
def GOX (z : Nat) (t : tS) (go : Option Nat → cD_ → cD_) (c : Nat) (τ : Tau) (φ : Fr) : Prop := ∀ s, FRM t (dF s) (dK s) φ → RES z (τ φ) s (go (some c) s)
theorem XP_go {z d g δ c : Nat} {t : tS} {τ : Tau} {φ : Fr} (h : XP z d τ t c) (h1 : δ + 1 ≤ d) (h2 : 11 ≤ g + 1 + δ) (h3 : φ.length ≤ d) : GOX z t (dEx z t g (δ + 1)) c τ φ := fun s hs => h g (δ + 1) s φ h1 (by omega) h3 hs
theorem F2K_lt {t : tS} : ∀ {Ps : List KP} {cs : List Nat}, F2K t Ps cs → ∀ c, c ∈ cs → c < tn t
  | [], [], _, c, hc => by cases hc
  | P :: Ps, d :: cs, ⟨h1, h2⟩, c, hc => by
    rcases List.mem_cons.mp hc with rfl | hc
    · exact h1.1
    · exact F2K_lt h2 c hc
  | [], _ :: _, h, _, _ => absurd h id
  | _ :: _, [], h, _, _ => absurd h id
theorem F2K_len {t : tS} : ∀ {Ps : List KP} {cs : List Nat}, F2K t Ps cs → cs.length = Ps.length
  | [], [], _ => rfl
  | P :: Ps, d :: cs, ⟨_, h2⟩ => congrArg (· + 1) (F2K_len h2)
  | [], _ :: _, h => absurd h id
  | _ :: _, [], h => absurd h id
theorem F2K_get {t : tS} {P : KP} : ∀ {Ps : List KP} {cs : List Nat} (i : Nat), F2K t Ps cs → Ps[i]? = some P → ∃ c, cs[i]? = some c ∧ c < tn t ∧ P t c
  | [], [], i, _, h => by cases h
  | Q :: Ps, d :: cs, 0, ⟨h1, _⟩, h => by
    cases h
    exact ⟨d, rfl, h1.1, h1.2⟩
  | Q :: Ps, d :: cs, i + 1, ⟨_, h2⟩, h => F2K_get i h2 h
  | [], _ :: _, _, h, _ => absurd h id
  | _ :: _, [], _, h, _ => absurd h id
theorem chain_cn {t : tS} : ∀ (cs : List Nat) (o : Option Nat) (k : Nat), (∀ c, c ∈ cs → c < tn t) → cs.length ≤ k → chain t o cs → tCn t k o = cs.length
  | [], o, k, _, _, h => by
    rw [show o = none from h]
    cases k <;> rfl
  | c :: cs, o, 0, _, hk, _ => absurd hk (Nat.not_succ_le_zero _)
  | c :: cs, o, k + 1, hc, hk, ⟨h1, h2⟩ => by
    rw [h1]
    show tCn t k (tEn t (tN t) (some c)) + 1 = cs.length + 1
    rw [tEn_in (hc c List.mem_cons_self), chain_cn cs _ k (fun d hd => hc d (List.mem_cons_of_mem _ hd)) (Nat.le_of_succ_le_succ hk) h2]
theorem NODE_s {k v p : Int32} {Ps : List KP} {t : tS} {n : Nat} (h : NODE k v p Ps t n) : tEi t (tK t) (some n) = k ∧ tEi t (tV t) (some n) = v ∧ tCn t 96 (tEn t (tF t) (some n)) = Ps.length ∧ (∀ i, Ps.length ≤ i → dPt t i (some n) = none) ∧ ∀ i P, Ps[i]? = some P → ∃ c, dPt t i (some n) = some c ∧ c < tn t ∧ P t c := by
  obtain ⟨h1, ⟨hk, hv, hp⟩, h96, cs, h2, h3⟩ := h
  have hl := F2K_len h3
  have hpt : ∀ i, dPt t i (some n) = cs[i]? := fun i => by
    unfold dPt
    rw [tEn_in h1]
    exact chain_pt cs _ i (F2K_lt h3) h2
  refine ⟨(if_pos h1).trans hk, (if_pos h1).trans hv, ?_, fun i hi => ?_, fun i P hi => ?_⟩
  · rw [tEn_in h1, chain_cn cs _ 96 (F2K_lt h3) (by omega) h2, hl]
  · rw [hpt]
    exact List.getElem?_eq_none (by omega)
  · obtain ⟨c, q1, q2, q3⟩ := F2K_get i h3 hi
    exact ⟨c, (hpt i).trans q1, q2, q3⟩
theorem FRM_I {z : Nat} {t : tS} {s : cD_} {φ : Fr} {x : Int32} (h : FRM t (dF s) (dK s) φ) : FRM t (dF (dI z s x)) (dK (dI z s x)) φ := h
section ZC
variable {z : Nat} {t : tS} {go : Option Nat → cD_ → cD_} {φ : Fr} {s s1 : cD_} {τ : Tau} {c : Nat}
theorem RES_lst {i : Int32} (h : GOX z t go c τ φ) (hs : FRM t (dF s) (dK s) φ) : RES z (lstT i τ φ) s (dLi z go (some c) i s) := by
  have h1 := h (dB z s) hs
  have h2 := RES_li (RES_app h1 (RES_I (z := z) i))
  unfold lstT
  rw [show τ φ ++ [((1 : Int32), i), (5, 0)] = (τ φ ++ [(1, i)]) ++ [(5, 0)] by rw [List.append_assoc]; rfl]
  exact h2
theorem RES_BA : RES z [(1, 1), (0, 0)] s (dBA z s) := RES_app (RES_I (z := z) 1) (RES_N (z := z))
theorem RES_en {T : TL} {fl : Option Nat} {ls : List Nat} (hk : dK s < 9) (h : FRM t (upW (dF s) (dK s) fl) (dK s + 1) (ls :: φ) → RES z T (dEn s fl) s1) (hf : LTR t fl ls) (h3 : ls.length ≤ 3) (hc : ∀ c ∈ ls, c < 256) (hs : FRM t (dF s) (dK s) φ) : RES z T s (dLv s1) := by
  have e : dEn s fl = (dC s, upW (dF s) (dK s) fl, dK s + 1, dU s) := if_pos hk
  have hF : FRM t (upW (dF s) (dK s) fl) (dK s + 1) (ls :: φ) := ⟨dK s, rfl, by rw [show upW (dF s) (dK s) fl (dK s) = fl from if_pos rfl]; exact hf, h3, hc, FRM_ag (fun i hi => if_neg (by omega)) hs⟩
  have h1 := h hF
  rw [e] at h1
  obtain ⟨a1, a2, a3, a4⟩ := h1
  refine ⟨a1, ?_, fun i hi => ?_, a4⟩
  · show dK s1 - 1 = dK s
    have a2 : dK s1 = dK s + 1 := a2
    omega
  · have := a3 i (show i < dK s + 1 by omega)
    exact this.trans (if_neg (by omega))
theorem RES_bo {fl : Option Nat} {ls : List Nat} (h : GOX z t go c τ (ls :: φ)) (hf : LTR t fl ls) (h3 : ls.length ≤ 3) (hc : ∀ c ∈ ls, c < 256) (hs : FRM t (dF s) (dK s) φ) (hk : dK s < 9) : RES z (boT (τ, 0) ls φ) s (dBo z go (some c) fl s) := by
  have h1 : RES z [(1, 3)] s (dI z s 3) := RES_I (z := z) 3
  have h2 : RES z (lstT 5 τ (ls :: φ)) (dI z s 3) (dLv (dLi z go (some c) 5 (dEn (dI z s 3) fl))) := by
    refine RES_en (t := t) (φ := φ) (ls := ls) (fl := fl) hk (fun hF => ?_) hf h3 hc hs
    refine RES_lst h ?_
    rw [show dEn (dI z s 3) fl = (dC (dI z s 3), upW (dF s) (dK s) fl, dK s + 1, dU s) from if_pos hk]
    exact hF
  exact RES_app h1 h2
theorem RES_as {pick : Nat → Option Nat} (ks : List Kd) (hk : ∀ i k, ks[i]? = some k → ∃ c, pick (i + 1) = some c ∧ GOX z t go c k.1 φ) : ∀ (j : Nat) (s0 : cD_), j ≤ ks.length → FRM t (dF s0) (dK s0) φ → RES z (rowT (ks.drop j) φ) s s0 → RES z (rowT ks φ) s (dAs z go pick j s0)
  | 0, s0, _, _, h => h
  | j + 1, s0, hj, hs, h => by
    have hg : ks[j]? = some ks[j] := List.getElem?_eq_getElem hj
    obtain ⟨c, e, hx⟩ := hk j _ hg
    have hd : ks.drop j = ks[j] :: ks.drop (j + 1) := List.drop_eq_getElem_cons hj
    have h1 := RES_app (hx s0 hs) (RES_I (z := z) 13)
    show RES z (rowT ks φ) s (dAs z go pick j (dAr z go (pick (j + 1)) s0))
    rw [e]
    refine RES_as ks hk j _ (by omega) (FRM_res h1 hs) ?_
    rw [hd]
    exact RES_app h h1
theorem RES_row {pick : Nat → Option Nat} (ks : List Kd) (hk : ∀ i k, ks[i]? = some k → ∃ c, pick (i + 1) = some c ∧ GOX z t go c k.1 φ) (hs : FRM t (dF s) (dK s) φ) : RES z (rowT ks φ) s (dAs z go pick ks.length (dBA z s)) := by
  refine RES_as ks hk ks.length _ (Nat.le_refl _) (FRM_res (RES_BA (z := z)) hs) ?_
  rw [List.drop_length]
  exact RES_BA
end ZC
theorem opO_cs {c o : Nat} (h : opO c = some o) : (c = 63 ∧ o = 8) ∨ (c = 94 ∧ o = 10) ∨ (c = 95 ∧ o = 11) ∨ (c = 33 ∧ o = 12) ∨ (c = 46 ∧ o = 13) ∨ (c = 61 ∧ o = 14) ∨ (c = 43 ∧ o = 15) ∨ (c = 45 ∧ o = 16) ∨ (c = 42 ∧ o = 17) ∨ (c = 60 ∧ o = 18) := by
  have e0 : fdx c 9 0 = if 94 = c then some 0 else if 95 = c then some 1 else if 33 = c then some 2 else if 46 = c then some 3 else if 61 = c then some 4 else if 43 = c then some 5 else if 45 = c then some 6 else if 42 = c then some 7 else if 60 = c then some 8 else none := rfl
  unfold opO at h
  rw [e0] at h
  by_cases h1 : c = 63
  · rw [if_pos h1] at h
    cases h
    exact Or.inl ⟨h1, rfl⟩
  rw [if_neg h1] at h
  refine Or.inr ?_
  by_cases h2 : 94 = c
  · rw [if_pos h2] at h
    cases h
    exact Or.inl ⟨h2.symm, rfl⟩
  rw [if_neg h2] at h
  refine Or.inr ?_
  by_cases h2 : 95 = c
  · rw [if_pos h2] at h
    cases h
    exact Or.inl ⟨h2.symm, rfl⟩
  rw [if_neg h2] at h
  refine Or.inr ?_
  by_cases h2 : 33 = c
  · rw [if_pos h2] at h
    cases h
    exact Or.inl ⟨h2.symm, rfl⟩
  rw [if_neg h2] at h
  refine Or.inr ?_
  by_cases h2 : 46 = c
  · rw [if_pos h2] at h
    cases h
    exact Or.inl ⟨h2.symm, rfl⟩
  rw [if_neg h2] at h
  refine Or.inr ?_
  by_cases h2 : 61 = c
  · rw [if_pos h2] at h
    cases h
    exact Or.inl ⟨h2.symm, rfl⟩
  rw [if_neg h2] at h
  refine Or.inr ?_
  by_cases h2 : 43 = c
  · rw [if_pos h2] at h
    cases h
    exact Or.inl ⟨h2.symm, rfl⟩
  rw [if_neg h2] at h
  refine Or.inr ?_
  by_cases h2 : 45 = c
  · rw [if_pos h2] at h
    cases h
    exact Or.inl ⟨h2.symm, rfl⟩
  rw [if_neg h2] at h
  refine Or.inr ?_
  by_cases h2 : 42 = c
  · rw [if_pos h2] at h
    cases h
    exact Or.inl ⟨h2.symm, rfl⟩
  rw [if_neg h2] at h
  refine Or.inr ?_
  by_cases h2 : 60 = c
  · rw [if_pos h2] at h
    cases h
    exact ⟨h2.symm, rfl⟩
  rw [if_neg h2] at h
  cases h
theorem ar_op {c : Nat} : (0 < ar c ↔ ∃ o, opO c = some o) := by
  constructor
  · intro h
    unfold ar at h
    split at h
    · next h1 =>
      rcases h1 with rfl | rfl | rfl | rfl | rfl | rfl <;> exact ⟨_, rfl⟩
    · split at h
      · next h1 =>
        rcases h1 with rfl | rfl | rfl <;> exact ⟨_, rfl⟩
      · split at h
        · next h1 =>
          subst h1
          exact ⟨_, rfl⟩
        · exact absurd h (Nat.lt_irrefl _)
  · rintro ⟨o, h⟩
    rcases opO_cs h with ⟨rfl, -⟩ | ⟨rfl, -⟩ | ⟨rfl, -⟩ | ⟨rfl, -⟩ | ⟨rfl, -⟩ | ⟨rfl, -⟩ | ⟨rfl, -⟩ | ⟨rfl, -⟩ | ⟨rfl, -⟩ | ⟨rfl, -⟩ <;> decide
theorem opN_ar {c o : Nat} (h : opO c = some o) : opN o = ar c := by
  rcases opO_cs h with ⟨rfl, rfl⟩ | ⟨rfl, rfl⟩ | ⟨rfl, rfl⟩ | ⟨rfl, rfl⟩ | ⟨rfl, rfl⟩ | ⟨rfl, rfl⟩ | ⟨rfl, rfl⟩ | ⟨rfl, rfl⟩ | ⟨rfl, rfl⟩ | ⟨rfl, rfl⟩ <;> rfl
theorem l_two {α : Type} : ∀ {l : List α}, l.length = 2 → ∃ a b, l = [a, b]
  | [a, b], _ => ⟨a, b, rfl⟩
  | [], h => by cases h
  | [_], h => by cases h
  | _ :: _ :: _ :: _, h => by simp at h
theorem l_three {α : Type} : ∀ {l : List α}, l.length = 3 → ∃ a b c, l = [a, b, c]
  | [a, b, c], _ => ⟨a, b, c, rfl⟩
  | [], h => by cases h
  | [_], h => by cases h
  | [_, _], h => by cases h
  | _ :: _ :: _ :: _ :: _, h => by simp at h
section ZC2
variable {z d : Nat} {t : tS} {n : Nat} {p : Int32}
theorem E_num {v : Int32} (hd : d ≤ 9) (h : NODE 1 v p [] t n) : XP z d (fun _ => [(1, 1), (1, v)]) t n := by
  intro f δ s φ h1 h2 h3 hs
  obtain ⟨e1, e2, -⟩ := NODE_s h
  obtain ⟨g, rfl⟩ : ∃ g, f = g + 1 := ⟨f - 1, by omega⟩
  rw [dEx, if_neg (by omega), e1, if_pos rfl]
  show RES z _ s (dDa z t (10 + 1) δ (some n) (dI z s 1))
  rw [dDa, if_neg (by omega), e1, if_pos rfl, e2]
  exact RES_app (RES_I (z := z) 1) (RES_I (z := z) v)
theorem E_var {c a : Nat} (hd : d ≤ 9) (hc : c < 256) (ha : a ≤ 96) (h : NODE 2 (nI c) (nI a) [] t n) : XP z d (fun φ => [(1, 2), (6, lkF c (uP a) φ 0)]) t n := by
  intro f δ s φ h1 h2 h3 hs
  obtain ⟨e1, e2, -⟩ := NODE_s h
  obtain ⟨g, rfl⟩ : ∃ g, f = g + 1 := ⟨f - 1, by omega⟩
  rw [dEx, if_neg (by omega), e1, if_neg (by decide), if_pos rfl]
  exact RES_va hc ha h.1 h.2.1.2.1 h.2.1.2.2 (by omega) hs
theorem D_num {v : Int32} (hd : d ≤ 9) (h : NODE 1 v p [] t n) : DP z d [(1, v)] t n := by
  intro f δ s h1 h2
  obtain ⟨e1, e2, -⟩ := NODE_s h
  obtain ⟨g, rfl⟩ : ∃ g, f = g + 1 := ⟨f - 1, by omega⟩
  rw [dDa, if_neg (by omega), e1, if_pos rfl, e2]
  exact RES_I (z := z) v
theorem D_sym {v : Int32} (hd : d ≤ 9) (h : NODE 2 v p [] t n) : DP z d [(2, v)] t n := by
  intro f δ s h1 h2
  obtain ⟨e1, e2, -⟩ := NODE_s h
  obtain ⟨g, rfl⟩ : ∃ g, f = g + 1 := ⟨f - 1, by omega⟩
  rw [dDa, if_neg (by omega), e1, if_neg (by decide), if_pos rfl, e2]
  exact RES_y (z := z) v
def catL : List TL → TL
  | [] => []
  | D :: Ds => D ++ catL Ds
theorem RES_rw {f δ : Nat} (h1 : δ ≤ d) (h2 : 11 ≤ f + δ) : ∀ (Ds : List TL) (cs : List Nat) (o : Option Nat) (k : Nat) (s : cD_), chain t o cs → F2K t (Ds.map (DP z d)) cs → cs.length ≤ k → RES z (catL Ds) s (dRow t (dDa z t f δ) k o s)
  | [], [], o, k, s, hc, _, _ => by
    rw [show o = none from hc]
    cases k <;> exact RES_nil
  | D :: Ds, c :: cs, o, 0, s, _, _, hk => absurd hk (Nat.not_succ_le_zero _)
  | D :: Ds, c :: cs, o, k + 1, s, ⟨e1, e2⟩, ⟨g1, g2⟩, hk => by
    rw [e1]
    show RES z (D ++ catL Ds) s (dRow t (dDa z t f δ) k (tEn t (tN t) (some c)) (dDa z t f δ (some c) s))
    rw [tEn_in g1.1]
    exact RES_app (g1.2 f δ s h1 h2) (RES_rw h1 h2 Ds cs _ k _ e2 g2 (Nat.le_of_succ_le_succ hk))
  | [], _ :: _, _, _, _, _, h, _ => absurd h id
  | _ :: _, [], _, _, _, _, h, _ => absurd h id
theorem D_lst {Ds : List TL} (hd : d + 1 ≤ 9) (h : NODE 3 0 p (Ds.map (DP z (d + 1))) t n) : DP z d ((4, 0) :: (catL Ds ++ [(5, 0)])) t n := by
  intro f δ s h1 h2
  obtain ⟨e1, e2, -⟩ := NODE_s h
  obtain ⟨hn, -, h96, cs, c1, c2⟩ := h
  have hl := F2K_len c2
  obtain ⟨g, rfl⟩ : ∃ g, f = g + 1 := ⟨f - 1, by omega⟩
  rw [dDa, if_neg (by omega), e1, if_neg (by decide), if_neg (by decide), tEn_in hn]
  exact RES_li (RES_rw (d := d + 1) (f := g) (δ := δ + 1) (by omega) (by omega) Ds cs _ 96 _ c1 c2 (by omega))
theorem E_quo {D : TL} (hd : d ≤ 9) (h : NODE 4 0 p [DP z d D] t n) : XP z d (fun _ => (1, 1) :: D) t n := by
  intro f δ s φ h1 h2 h3 hs
  obtain ⟨e1, e2, -, -, e5⟩ := NODE_s h
  obtain ⟨c, c1, c2, c3⟩ := e5 0 _ rfl
  have c1 : tEn t (tF t) (some n) = some c := c1
  obtain ⟨g, rfl⟩ : ∃ g, f = g + 1 := ⟨f - 1, by omega⟩
  rw [dEx, if_neg (by omega), e1, if_neg (by decide), if_neg (by decide), if_pos rfl, c1]
  exact RES_app (RES_I (z := z) 1) (c3 11 δ _ h1 (by omega))
theorem E_call {h0 : Kd} {ks : List Kd} (hd : d + 1 ≤ 9) (h : NODE 11 0 p ((h0 :: ks).map (fun k => XP z (d + 1) k.1)) t n) : XP z d (caT h0 ks) t n := by
  intro f δ s φ h1 h2 h3 hs
  obtain ⟨e1, e2, e3, -, e5⟩ := NODE_s h
  rw [List.length_map] at e3
  obtain ⟨g, rfl⟩ : ∃ g, f = g + 1 := ⟨f - 1, by omega⟩
  rw [dEx, if_neg (by omega), e1, if_neg (by decide), if_neg (by decide), if_neg (by decide), if_neg (by decide), if_neg (by decide), if_neg (by decide), if_neg (by decide), if_pos rfl]
  unfold dCa
  rw [e3]
  obtain ⟨c, c1, c2, c3⟩ := e5 0 _ rfl
  rw [c1]
  have hr : RES z (rowT ks φ) s (dAs z (dEx z t g (δ + 1)) (fun k => dPt t k (some n)) ks.length (dBA z s)) := by
    refine RES_row (t := t) ks (fun i k hi => ?_) hs
    obtain ⟨c, c1, c2, c3⟩ := e5 (i + 1) (XP z (d + 1) k.1) (by rw [List.map_cons, List.getElem?_cons_succ, List.getElem?_map, hi]; rfl)
    exact ⟨c, c1, XP_go c3 (by omega) h2 (by omega)⟩
  have hx := XP_go (z := z) (φ := φ) c3 (show δ + 1 ≤ d + 1 by omega) h2 (by omega) _ (FRM_res hr hs)
  exact RES_app hr (RES_app hx (RES_I (z := z) 4))
theorem E_fun {τ : Tau} {ls : List Nat} (hd : d + 1 ≤ 9) (h3l : ls.length ≤ 3) (hls : ∀ c ∈ ls, c < 256) (h : NODE 6 0 p [PP ls, XP z (d + 1) τ] t n) : XP z d (boT (τ, 0) ls) t n := by
  intro f δ s φ h1 h2 h3 hs
  obtain ⟨e1, e2, e3, -, e5⟩ := NODE_s h
  obtain ⟨g, rfl⟩ : ∃ g, f = g + 1 := ⟨f - 1, by omega⟩
  rw [dEx, if_neg (by omega), e1, if_neg (by decide), if_neg (by decide), if_neg (by decide), if_neg (by decide), if_pos rfl]
  obtain ⟨c0, a1, a2, a3⟩ := e5 0 _ rfl
  obtain ⟨c1, b1, b2, b3⟩ := e5 1 _ rfl
  rw [a1, b1, tEn_in a2]
  have hK := FRM_len hs
  exact RES_bo (XP_go b3 (by omega) h2 (by show φ.length + 1 ≤ d + 1; omega)) a3.2 h3l hls hs (by omega)
def BPs (z d : Nat) : List Kd → List Nat → List KP
  | k :: ks, c :: ls => BP z d c k.1 :: BPs z d ks ls
  | _, _ => []
theorem BPs_len {z d : Nat} : ∀ {ks : List Kd} {ls : List Nat}, ks.length = ls.length → (BPs z d ks ls).length = ks.length
  | [], [], _ => rfl
  | k :: ks, c :: ls, h => congrArg (· + 1) (BPs_len (Nat.succ.inj h))
  | [], _ :: _, h => by cases h
  | _ :: _, [], h => by cases h
theorem BPs_app {z d : Nat} {k : Kd} {c : Nat} : ∀ {ks : List Kd} {ls : List Nat}, ks.length = ls.length → BPs z d (ks ++ [k]) (ls ++ [c]) = BPs z d ks ls ++ [BP z d c k.1]
  | [], [], _ => rfl
  | k :: ks, c :: ls, h => congrArg (_ :: ·) (BPs_app (Nat.succ.inj h))
  | [], _ :: _, h => by cases h
  | _ :: _, [], h => by cases h
theorem BPs_LTR {z d : Nat} {t : tS} : ∀ {ks : List Kd} {ls cs : List Nat} {o : Option Nat}, ks.length = ls.length → chain t o cs → F2K t (BPs z d ks ls) cs → LTR t o ls
  | [], [], [], o, _, h, _ => h
  | k :: ks, c :: ls, i :: cs, o, h, ⟨c1, c2⟩, ⟨g1, g2⟩ => ⟨i, c1, g1.1, g1.2.2.1, BPs_LTR (Nat.succ.inj h) c2 g2⟩
  | [], [], _ :: _, _, _, _, h => absurd h id
  | _ :: _, _ :: _, [], _, _, _, h => absurd h id
  | [], _ :: _, _, _, h, _, _ => by cases h
  | _ :: _, [], _, _, h, _, _ => by cases h
theorem BPs_get {z d : Nat} {k : Kd} : ∀ {ks : List Kd} {ls : List Nat} (i : Nat), ks.length = ls.length → ks[i]? = some k → ∃ c, (BPs z d ks ls)[i]? = some (BP z d c k.1)
  | [], _, i, _, h => by cases h
  | k :: ks, c :: ls, 0, _, h => by
    cases h
    exact ⟨c, rfl⟩
  | k :: ks, c :: ls, i + 1, hl, h => BPs_get (ks := ks) (ls := ls) i (Nat.succ.inj hl) h
  | _ :: _, [], _, h, _ => by cases h
theorem LTR_LtP {t : tS} : ∀ {ls cs : List Nat} {o : Option Nat}, chain t o cs → F2K t (ls.map LtP) cs → LTR t o ls
  | [], [], o, h, _ => h
  | c :: ls, i :: cs, o, ⟨c1, c2⟩, ⟨g1, g2⟩ => ⟨i, c1, g1.1, g1.2, LTR_LtP c2 g2⟩
  | [], _ :: _, _, _, h => absurd h id
  | _ :: _, [], _, _, h => absurd h id
theorem bnd {k : Int32} {d' g δ : Nat} {h0 : Kd} {ks : List Kd} {ls : List Nat} (hl : ks.length = ls.length) (h : NODE k 0 p (XP z (d + 1) h0.1 :: BPs z d' ks ls) t n) (hd : d + 1 ≤ d') (h1 : δ ≤ d) (h2 : 11 ≤ g + 1 + δ) : tCn t 96 (tEn t (tF t) (some n)) - 1 = ks.length ∧ LTR t (dPt t 1 (some n)) ls ∧ (∃ c, dPt t 0 (some n) = some c ∧ ∀ φ : Fr, φ.length ≤ d + 1 → GOX z t (dEx z t g (δ + 1)) c h0.1 φ) ∧ ∀ φ : Fr, φ.length ≤ d' → ∀ i k, ks[i]? = some k → ∃ c, tEn t (tF t) (dPt t (i + 1) (some n)) = some c ∧ GOX z t (dEx z t g (δ + 1)) c k.1 φ := by
  obtain ⟨e1, e2, e3, -, e5⟩ := NODE_s h
  obtain ⟨hn, -, h96, cs, c1, c2⟩ := h
  have hbl := BPs_len (z := z) (d := d') hl
  refine ⟨by rw [e3, List.length_cons, hbl]; rfl, ?_, ?_, fun φ hφ i k hi => ?_⟩
  · cases cs with
    | nil => exact absurd c2 id
    | cons c cs =>
      obtain ⟨q1, q2⟩ := c1
      obtain ⟨g1, g2⟩ := c2
      have e : dPt t 1 (some n) = tN t c := by
        unfold dPt
        rw [tEn_in hn, q1]
        exact tEn_in g1.1
      rw [e]
      exact BPs_LTR hl q2 g2
  · obtain ⟨c, q1, q2, q3⟩ := e5 0 _ rfl
    exact ⟨c, q1, fun φ hφ => XP_go q3 (by omega) h2 hφ⟩
  · obtain ⟨c, hc⟩ := BPs_get (z := z) (d := d') i hl hi
    obtain ⟨j, q1, q2, -, -, j2, q3, q4⟩ := e5 (i + 1) (BP z d' c k.1) (by rw [List.getElem?_cons_succ]; exact hc)
    refine ⟨j2, ?_, XP_go q4 (by omega) h2 hφ⟩
    rw [q1, tEn_in q2]
    exact q3
theorem E_let {d' : Nat} {h0 : Kd} {ks : List Kd} {ls : List Nat} (hd : d + 1 ≤ 9) (hd' : d + 1 ≤ d') (hl : ks.length = ls.length) (h3l : ls.length ≤ 3) (hls : ∀ c ∈ ls, c < 256) (h : NODE 8 0 p (XP z (d + 1) h0.1 :: BPs z d' ks ls) t n) : XP z d (leT h0 ks ls) t n := by
  intro f δ s φ h1 h2 h3 hs
  obtain ⟨e1, -⟩ := NODE_s h
  obtain ⟨g, rfl⟩ : ∃ g, f = g + 1 := ⟨f - 1, by omega⟩
  obtain ⟨b1, b2, ⟨c, b3, b4⟩, b5⟩ := bnd hl h hd' h1 h2
  rw [dEx, if_neg (by omega), e1, if_neg (by decide), if_neg (by decide), if_neg (by decide), if_neg (by decide), if_neg (by decide), if_pos rfl]
  unfold dBd dBs
  rw [b1, b3]
  have hr := RES_row (z := z) (s := s) (t := t) (φ := φ) (pick := fun k => tEn t (tF t) (dPt t k (some n))) ks (b5 φ (by omega)) hs
  have hs2 := FRM_res hr hs
  have hK := FRM_len hs2
  exact RES_app hr (RES_app (RES_bo (τ := h0.1) (b4 (ls :: φ) (by show φ.length + 1 ≤ d + 1; omega)) b2 h3l hls hs2 (by omega)) (RES_I (z := z) 4))
theorem E_rec {d' : Nat} {h0 : Kd} {ks : List Kd} {ls : List Nat} (hd : d + 1 ≤ 9) (hd' : d + 1 ≤ d') (hl : ks.length = ls.length) (h3l : ls.length ≤ 3) (hls : ∀ c ∈ ls, c < 256) (h : NODE 9 0 p (XP z (d + 1) h0.1 :: BPs z d' ks ls) t n) : XP z d (reT h0 ks ls) t n := by
  intro f δ s φ h1 h2 h3 hs
  obtain ⟨e1, -⟩ := NODE_s h
  obtain ⟨g, rfl⟩ : ∃ g, f = g + 1 := ⟨f - 1, by omega⟩
  obtain ⟨b1, b2, ⟨c, b3, b4⟩, b5⟩ := bnd hl h hd' h1 h2
  rw [dEx, if_neg (by omega), e1, if_neg (by decide), if_neg (by decide), if_neg (by decide), if_neg (by decide), if_neg (by decide), if_neg (by decide), if_pos rfl]
  unfold dBf dBs
  rw [b1, b3]
  have hK := FRM_len hs
  have h6 : RES z [(1, 6)] s (dI z s 6) := RES_I (z := z) 6
  have hr : RES z (rowT ks (ls :: φ)) (dI z s 6) (dLv (dAs z (dEx z t g (δ + 1)) (fun k => tEn t (tF t) (dPt t k (some n))) ks.length (dBA z (dEn (dI z s 6) (dPt t 1 (some n)))))) := by
    refine RES_en (t := t) (φ := φ) (ls := ls) (fl := dPt t 1 (some n)) (show dK s < 9 by omega) (fun hF => ?_) b2 h3l hls hs
    refine RES_row (t := t) (φ := ls :: φ) ks (b5 (ls :: φ) (by show φ.length + 1 ≤ d'; omega)) ?_
    rw [show dEn (dI z s 6) (dPt t 1 (some n)) = (dC (dI z s 6), upW (dF s) (dK s) (dPt t 1 (some n)), dK s + 1, dU s) from if_pos (show dK s < 9 by omega)]
    exact hF
  have hs2 := FRM_res hr (show FRM t (dF (dI z s 6)) (dK (dI z s 6)) φ from hs)
  have hK2 := FRM_len hs2
  exact RES_app h6 (RES_app hr (RES_app (RES_bo (τ := h0.1) (b4 (ls :: φ) (by show φ.length + 1 ≤ d + 1; omega)) b2 h3l hls hs2 (by omega)) (RES_I (z := z) 7)))
theorem E_op {c o : Nat} {ks : List Kd} (hd : d + 1 ≤ 9) (ho : opO c = some o) (hk : ks.length = ar c) (h : NODE 5 (nI o) p (ks.map (fun k => XP z (d + 1) k.1)) t n) : XP z d (sgT c ks) t n := by
  intro f δ s φ h1 h2 h3 hs
  obtain ⟨e1, e2, e3, -, e5⟩ := NODE_s h
  rw [List.length_map] at e3
  obtain ⟨g, rfl⟩ : ∃ g, f = g + 1 := ⟨f - 1, by omega⟩
  rw [dEx, if_neg (by omega), e1, if_neg (by decide), if_neg (by decide), if_neg (by decide), if_pos rfl]
  have kid : ∀ i k, ks[i]? = some k → ∃ c, dPt t i (some n) = some c ∧ GOX z t (dEx z t g (δ + 1)) c k.1 φ := fun i k hi => by
    obtain ⟨c, c1, c2, c3⟩ := e5 i (XP z (d + 1) k.1) (by rw [List.getElem?_map, hi]; rfl)
    exact ⟨c, c1, XP_go c3 (by omega) h2 (by omega)⟩
  unfold dOn
  rw [e2, e3]
  generalize hgo : dEx z t g (δ + 1) = go at kid ⊢
  clear hgo
  have one : ∀ (w : Int32) (a : Kd), ks = [a] → ¬ w = 13 → RES z (a.1 φ ++ [(1, w)]) s (dI z (dOp t go (some n) w ks.length ks.length 0 s) w) := by
    intro w a e hw
    subst e
    obtain ⟨c, c1, c2⟩ := kid 0 a rfl
    show RES z _ s (dI z (go (dPt t (if w = 13 then 1 - 1 - 0 else 0) (some n)) s) w)
    rw [if_neg hw, c1]
    exact RES_app (c2 s hs) (RES_I (z := z) w)
  have two : ∀ (w : Int32) (a b : Kd), ks = [a, b] → ¬ w = 13 → RES z (a.1 φ ++ (b.1 φ ++ [(1, w)])) s (dI z (dOp t go (some n) w ks.length ks.length 0 s) w) := by
    intro w a b e hw
    subst e
    obtain ⟨c, c1, c2⟩ := kid 0 a rfl
    obtain ⟨c', c3, c4⟩ := kid 1 b rfl
    show RES z _ s (dI z (go (dPt t (if w = 13 then 2 - 1 - (0 + 1) else 0 + 1) (some n)) (go (dPt t (if w = 13 then 2 - 1 - 0 else 0) (some n)) s)) w)
    rw [if_neg hw, if_neg hw, c1, show dPt t (0 + 1) (some n) = some c' from c3]
    have r1 := c2 s hs
    exact RES_app r1 (RES_app (c4 _ (FRM_res r1 hs)) (RES_I (z := z) w))
  have len1 : ks.length = 1 → ∃ a, ks = [a] := fun h => List.length_eq_one_iff.mp h
  have len2 : ks.length = 2 → ∃ a b, ks = [a, b] := fun h => l_two h
  rcases opO_cs ho with ⟨rfl, rfl⟩ | ⟨rfl, rfl⟩ | ⟨rfl, rfl⟩ | ⟨rfl, rfl⟩ | ⟨rfl, rfl⟩ | ⟨rfl, rfl⟩ | ⟨rfl, rfl⟩ | ⟨rfl, rfl⟩ | ⟨rfl, rfl⟩ | ⟨rfl, rfl⟩
  · obtain ⟨a, b, e, rfl⟩ : ∃ a b e, ks = [a, b, e] := l_three hk
    rw [if_pos (show nI 8 = 8 by decide)]
    obtain ⟨c, c1, c2⟩ := kid 0 a rfl
    obtain ⟨c', c3, c4⟩ := kid 1 b rfl
    obtain ⟨c'', c5, c6⟩ := kid 2 e rfl
    unfold dCh
    rw [c1, c3, c5]
    have r1 := RES_app (c2 s hs) (RES_I (z := z) 8)
    have hs1 := FRM_res r1 hs
    have r2 := RES_lst (z := z) (i := 9) c4 hs1
    have r3 := RES_lst (z := z) (i := 9) c6 (FRM_res r2 hs1)
    have r4 := RES_app r1 (RES_app r2 r3)
    rw [List.append_assoc] at r4
    exact r4
  · obtain ⟨a, rfl⟩ := len1 hk
    rw [if_neg (by decide)]
    exact one _ a rfl (by decide)
  · obtain ⟨a, rfl⟩ := len1 hk
    rw [if_neg (by decide)]
    exact one _ a rfl (by decide)
  · obtain ⟨a, rfl⟩ := len1 hk
    rw [if_neg (by decide)]
    exact one _ a rfl (by decide)
  · obtain ⟨a, b, rfl⟩ := len2 hk
    rw [if_neg (by decide)]
    obtain ⟨c, c1, c2⟩ := kid 0 a rfl
    obtain ⟨c', c3, c4⟩ := kid 1 b rfl
    show RES z (b.1 φ ++ (a.1 φ ++ [(1, 13)])) s (dI z (go (dPt t (if nI 13 = 13 then 2 - 1 - (0 + 1) else 0 + 1) (some n)) (go (dPt t (if nI 13 = 13 then 2 - 1 - 0 else 0) (some n)) s)) (nI 13))
    rw [if_pos (by decide), if_pos (by decide), show dPt t (2 - 1 - (0 + 1)) (some n) = some c from c1, show dPt t (2 - 1 - 0) (some n) = some c' from c3]
    have r1 := c4 s hs
    exact RES_app r1 (RES_app (c2 _ (FRM_res r1 hs)) (RES_I (z := z) 13))
  · obtain ⟨a, b, rfl⟩ := len2 hk
    rw [if_neg (by decide)]
    exact two _ a b rfl (by decide)
  · obtain ⟨a, b, rfl⟩ := len2 hk
    rw [if_neg (by decide)]
    exact two _ a b rfl (by decide)
  · obtain ⟨a, b, rfl⟩ := len2 hk
    rw [if_neg (by decide)]
    exact two _ a b rfl (by decide)
  · obtain ⟨a, b, rfl⟩ := len2 hk
    rw [if_neg (by decide)]
    exact two _ a b rfl (by decide)
  · obtain ⟨a, b, rfl⟩ := len2 hk
    rw [if_neg (by decide)]
    exact two _ a b rfl (by decide)
end ZC2
