def ly1 (z : Nat) (x : Int32 × Int32) (p : cC × List Nat) : cC × List Nat :=
  if x.1 = 5 then (match p.2 with | [] => p | q :: st => (cEd p.1 q, st))
  else if x.1 = 4 then (cBg z p.1, cn p.1 :: p.2)
  else if x.1 = 0 then (cAp z p.1 vNil, p.2)
  else if x.1 = 2 then (cAp z p.1 (vSym x.2), p.2)
  else (cAp z p.1 (vInt x.2), p.2)
def lyS (z : Nat) : TL → cC × List Nat → cC × List Nat
  | [], p => p
  | x :: T, p => lyS z T (ly1 z x p)
def knT (T : TL) : Prop := ∀ x ∈ T, x.1 = 6 → ¬ x.2 < 0
def uM1 (x : Int32 × Int32) (u : Int32) : Int32 := if x.1 = 6 ∧ x.2 < 0 then (if u = -1 ∨ x.2 + 128 < u then x.2 + 128 else u) else u
def uMf : TL → Int32 → Int32
  | [], u => u
  | x :: T, u => uMf T (uM1 x u)
theorem uMf_app : ∀ (A B : TL) (u : Int32), uMf (A ++ B) u = uMf B (uMf A u)
  | [], B, u => rfl
  | x :: A, B, u => uMf_app A B (uM1 x u)
theorem uM1_n {x : Int32 × Int32} {u : Int32} (h : ¬ x.1 = 6) : uM1 x u = u := if_neg (fun q => h q.1)
def RES (z : Nat) (T : TL) (s s' : cD_) : Prop := (knT T → ∀ st, lyS z T (dC s, st) = (dC s', st)) ∧ dK s' = dK s ∧ (∀ i, i < dK s → dF s' i = dF s i) ∧ (dU s' = -1 ↔ dU s = -1 ∧ knT T) ∧ dU s' = uMf T (dU s)
theorem lyS_app (z : Nat) : ∀ (A B : TL) (p : cC × List Nat), lyS z (A ++ B) p = lyS z B (lyS z A p)
  | [], B, p => rfl
  | x :: A, B, p => lyS_app z A B (ly1 z x p)
theorem knT_app {A B : TL} : knT (A ++ B) ↔ knT A ∧ knT B := by
  refine ⟨fun h => ⟨fun x hx => h x (List.mem_append_left _ hx), fun x hx => h x (List.mem_append_right _ hx)⟩, fun h x hx => ?_⟩
  rcases List.mem_append.mp hx with w | w
  · exact h.1 x w
  · exact h.2 x w
theorem knT_1 {x : Int32 × Int32} (h : ¬ x.1 = 6) : knT [x] := fun y hy => by
  rw [List.mem_singleton.mp hy]
  exact fun e => absurd e h
section ZA
variable {z : Nat} {A B T : TL} {s s1 s2 : cD_}
theorem RES_nil : RES z [] s s := ⟨fun _ _ => rfl, rfl, fun _ _ => rfl, ⟨fun h => ⟨h, fun x hx => by cases hx⟩, fun h => h.1⟩, rfl⟩
theorem RES_app (h1 : RES z A s s1) (h2 : RES z B s1 s2) : RES z (A ++ B) s s2 := by
  obtain ⟨a1, a2, a3, a4, a5⟩ := h1
  obtain ⟨b1, b2, b3, b4, b5⟩ := h2
  refine ⟨fun hk st => ?_, b2.trans a2, fun i hi => (b3 i (by omega)).trans (a3 i hi), ?_, by rw [uMf_app, ← a5]; exact b5⟩
  · rw [lyS_app, a1 (knT_app.mp hk).1, b1 (knT_app.mp hk).2]
  · rw [b4, a4, knT_app]
    exact ⟨fun h => ⟨h.1.1, h.1.2, h.2⟩, fun h => ⟨⟨h.1, h.2.1⟩, h.2.2⟩⟩
theorem RES_one {x : Int32 × Int32} {v : Vl} (hx : ∀ p, ly1 z x p = (cAp z p.1 v, p.2)) (h6 : ¬ x.1 = 6) : RES z [x] s (dA z s v) := by
  refine ⟨fun _ st => hx (dC s, st), rfl, fun _ _ => rfl, ⟨fun h => ⟨h, knT_1 h6⟩, fun h => h.1⟩, (uM1_n h6).symm⟩
theorem RES_I (x : Int32) : RES z [(1, x)] s (dI z s x) := RES_one (fun _ => rfl) (show ¬ (1 : Int32) = 6 by decide)
theorem RES_N : RES z [(0, 0)] s (dA z s vNil) := RES_one (fun _ => rfl) (show ¬ (0 : Int32) = 6 by decide)
theorem RES_y (x : Int32) : RES z [(2, x)] s (dA z s (vSym x)) := RES_one (fun _ => rfl) (show ¬ (2 : Int32) = 6 by decide)
theorem RES_li (h : RES z T (dB z s) s1) : RES z ((4, 0) :: (T ++ [(5, 0)])) s (dE s1 (cn (dC s))) := by
  obtain ⟨a1, a2, a3, a4, a5⟩ := h
  refine ⟨fun hk st => ?_, a2, a3, ?_, ?_⟩
  · show lyS z (T ++ [(5, 0)]) (cBg z (dC s), cn (dC s) :: st) = _
    rw [lyS_app]
    have := a1 (fun x hx => hk x (List.mem_cons_of_mem _ (List.mem_append_left _ hx))) (cn (dC s) :: st)
    rw [show (dC (dB z s)) = cBg z (dC s) from rfl] at this
    rw [this]
    rfl
  · show dU s1 = -1 ↔ _
    rw [a4]
    have e : dU (dB z s) = dU s := rfl
    rw [e]
    refine ⟨fun h => ⟨h.1, ?_⟩, fun h => ⟨h.1, ?_⟩⟩
    · intro x hx
      rcases List.mem_cons.mp hx with w | w
      · rw [w]
        exact fun e => absurd e (by decide)
      · rcases List.mem_append.mp w with w | w
        · exact h.2 x w
        · rw [List.mem_singleton.mp w]
          exact fun e => absurd e (by decide)
    · exact fun x hx => h.2 x (List.mem_cons_of_mem _ (List.mem_append_left _ hx))
  · show dU s1 = uMf (T ++ [(5, 0)]) (uM1 (4, 0) (dU s))
    rw [uM1_n (show ¬ (4 : Int32) = 6 by decide), uMf_app]
    show dU s1 = uM1 (5, 0) (uMf T (dU s))
    rw [uM1_n (show ¬ (5 : Int32) = 6 by decide)]
    exact a5
end ZA
def LTR (t : tS) : Option Nat → List Nat → Prop
  | o, [] => o = none
  | o, c :: ls => ∃ i, o = some i ∧ i < tn t ∧ tV t i = nI c ∧ LTR t (tN t i) ls
def FRM (t : tS) (F : Nat → Option Nat) : Nat → Fr → Prop
  | k, [] => k = 0
  | k, ls :: φ => ∃ j, k = j + 1 ∧ LTR t (F j) ls ∧ ls.length ≤ 3 ∧ (∀ c ∈ ls, c < 256) ∧ FRM t F j φ
theorem FRM_len {t : tS} {F : Nat → Option Nat} : ∀ {φ : Fr} {k : Nat}, FRM t F k φ → k = φ.length
  | [], k, h => h
  | ls :: φ, k, ⟨j, h1, _, _, _, h2⟩ => by rw [h1, FRM_len h2]; rfl
theorem FRM_ag {t : tS} {F F' : Nat → Option Nat} : ∀ {φ : Fr} {k : Nat}, (∀ i, i < k → F' i = F i) → FRM t F k φ → FRM t F' k φ
  | [], k, _, h => h
  | ls :: φ, k, hF, ⟨j, h1, h2, h3, h4, h5⟩ => ⟨j, h1, by rw [hF j (by omega)]; exact h2, h3, h4, FRM_ag (fun i hi => hF i (by omega)) h5⟩
theorem FRM_res {z : Nat} {T : TL} {t : tS} {s s' : cD_} {φ : Fr} (h : RES z T s s') (hf : FRM t (dF s) (dK s) φ) : FRM t (dF s') (dK s') φ := by
  obtain ⟨-, h2, h3, -⟩ := h
  rw [h2]
  exact FRM_ag h3 hf
theorem plc_sh (c : Nat) : ∀ (ls : List Nat) (i : Nat), plc c ls i = (plc c ls 0).map (· + i)
  | [], i => rfl
  | y :: ls, i => by
    have e1 : plc c (y :: ls) i = if y = c then some i else plc c ls (i + 1) := rfl
    have e2 : plc c (y :: ls) 0 = if y = c then some 0 else plc c ls (0 + 1) := rfl
    rw [e1, e2]
    split
    · show some i = some (0 + i)
      rw [Nat.zero_add]
    · rw [plc_sh c ls (i + 1), plc_sh c ls (0 + 1), Option.map_map]
      congr 1
      funext x
      show x + (i + 1) = x + (0 + 1) + i
      omega
theorem tPl_plc {t : tS} {c : Nat} (hc : c < 256) : ∀ (ls : List Nat) (o : Option Nat) (k : Nat), LTR t o ls → (∀ y ∈ ls, y < 256) → ls.length < k → tPl t (nI c) k o = plc c ls 0
  | [], o, k, h, _, hk => by
    rw [show o = none from h]
    cases k with
    | zero => rfl
    | succ k => rfl
  | y :: ls, o, k, ⟨i, h1, h2, h3, h4⟩, hl, hk => by
    subst h1
    cases k with
    | zero => exact absurd hk (Nat.not_lt_zero _)
    | succ k =>
      have e1 : tPl t (nI c) (k + 1) (some i) = if i < tn t then (if tV t i = nI c then some 0 else (tPl t (nI c) k (tN t i)).map (· + 1)) else none := rfl
      have e2 : plc c (y :: ls) 0 = if y = c then some 0 else plc c ls (0 + 1) := rfl
      have hy := hl y List.mem_cons_self
      have hk : ls.length + 1 < k + 1 := hk
      rw [e1, if_pos h2, e2, h3]
      by_cases e : y = c
      · rw [if_pos (by rw [e]), if_pos e]
      · rw [if_neg (fun q => e (nIj (by omega) (by omega) q)), if_neg e, tPl_plc hc ls (tN t i) k h4 (fun q hq => hl q (List.mem_cons_of_mem _ hq)) (by omega), plc_sh c ls (0 + 1)]
theorem dPl_lk {t : tS} {F : Nat → Option Nat} {c : Nat} (hc : c < 256) : ∀ (φ : Fr) (k i kn : Nat), FRM t F k φ → kn = k + i → dPl t F (nI c) kn k i = lkF c (-1) φ i
  | [], k, i, kn, h, _ => by
    rw [show k = 0 from h]
    rfl
  | ls :: φ, k, i, kn, ⟨j, h1, h2, h3, h4, h5⟩, hk => by
    subst h1
    have e1 : dPl t F (nI c) kn (j + 1) i = match tPl t (nI c) 96 (F (kn - 1 - i)) with | some p => nI (16 * i + p) | none => dPl t F (nI c) kn j (i + 1) := rfl
    have e2 : lkF c (-1) (ls :: φ) i = match plc c ls 0 with | some p => nI (16 * i + p) | none => lkF c (-1) φ (i + 1) := rfl
    rw [e1, e2, show kn - 1 - i = j by omega, tPl_plc hc ls (F j) 96 h2 h4 (by omega), dPl_lk hc φ j (i + 1) kn h5 (by omega)]
theorem plc_b {c : Nat} : ∀ (ls : List Nat) (i p : Nat), plc c ls i = some p → p < i + ls.length
  | [], i, p, h => by cases h
  | y :: ls, i, p, h => by
    have h : (if y = c then some i else plc c ls (i + 1)) = some p := h
    show p < i + (ls.length + 1)
    split at h
    · cases h
      omega
    · have := plc_b ls (i + 1) p h
      omega
theorem lkF_or {t : tS} {F : Nat → Option Nat} {c : Nat} {u : Int32} : ∀ (φ : Fr) (k i : Nat), FRM t F k φ → i + φ.length ≤ 600 → (lkF c (-1) φ i = -1 ∧ lkF c u φ i = u) ∨ ∃ X, X < 10000 ∧ lkF c (-1) φ i = nI X ∧ lkF c u φ i = nI X
  | [], k, i, h, _ => Or.inl ⟨rfl, rfl⟩
  | ls :: φ, k, i, ⟨j, h1, h2, h3, h4, h5⟩, hi => by
    have hi : i + (φ.length + 1) ≤ 600 := hi
    have e2 : ∀ u, lkF c u (ls :: φ) i = match plc c ls 0 with | some p => nI (16 * i + p) | none => lkF c u φ (i + 1) := fun _ => rfl
    rw [e2, e2]
    cases hp : plc c ls 0 with
    | none => exact lkF_or φ j (i + 1) h5 (by omega)
    | some p =>
      have := plc_b ls 0 p hp
      exact Or.inr ⟨16 * i + p, by omega, rfl, rfl⟩
theorem nI_nn {n : Nat} (h : n < 2 ^ 31) : ¬ nI n = -1 := oV_ne (k := n) h
theorem dNo_U {s : cD_} {a : Nat} (ha : a ≤ 96) : ¬ dU (dNo s (nI a)) = -1 ∧ dC (dNo s (nI a)) = dC s ∧ dF (dNo s (nI a)) = dF s ∧ dK (dNo s (nI a)) = dK s := by
  unfold dNo
  split
  · exact ⟨nI_nn (by omega), rfl, rfl, rfl⟩
  · next h => exact ⟨fun e => h (Or.inl e), rfl, rfl, rfl⟩
theorem RES_va {z : Nat} {t : tS} {s : cD_} {φ : Fr} {c a n : Nat} (hc : c < 256) (ha : a ≤ 96) (hn : n < tn t) (hv : tV t n = nI c) (hp : tP t n = nI a) (hφ : φ.length ≤ 600) (hf : FRM t (dF s) (dK s) φ) : RES z [(1, 2), (6, lkF c (uP a) φ 0)] s (dVa z t (some n) s) := by
  have ev : tEi t (tV t) (some n) = nI c := (if_pos hn).trans hv
  have ep : tEi t (tP t) (some n) = nI a := (if_pos hn).trans hp
  have el := dPl_lk (F := dF s) hc φ (dK s) 0 (dK s) hf rfl
  have eo : ∀ u, uM1 ((1 : Int32), (2 : Int32)) u = u := fun u => uM1_n (show ¬ (1 : Int32) = 6 by decide)
  unfold dVa
  rw [ev, ep, el]
  rcases lkF_or (c := c) (u := uP a) φ (dK s) 0 hf (by omega) with ⟨e, e'⟩ | ⟨X, hX, e, e'⟩
  · rw [if_pos e]
    obtain ⟨u1, u2, u3, u4⟩ := dNo_U (s := s) ha
    have hn : uP a < 0 := uP_neg ha
    have nk : ¬ knT [(1, 2), (6, lkF c (uP a) φ 0)] := fun h => h (6, lkF c (uP a) φ 0) (List.mem_cons_of_mem _ List.mem_cons_self) rfl (by rw [e']; exact hn)
    refine ⟨fun h => absurd h nk, u4, fun i _ => by show dF (dNo s (nI a)) i = _; rw [u3], ⟨fun h => absurd h u1, fun h => absurd h.2 nk⟩, ?_⟩
    show dU (dNo s (nI a)) = uMf [(1, 2), (6, lkF c (uP a) φ 0)] (dU s)
    rw [e']
    show dU (dNo s (nI a)) = uM1 (6, uP a) (uM1 (1, 2) (dU s))
    have e3 : uM1 ((6 : Int32), uP a) (dU s) = if dU s = -1 ∨ uP a + 128 < dU s then uP a + 128 else dU s := if_pos ⟨rfl, hn⟩
    rw [eo, e3, uP_128]
    unfold dNo
    by_cases hc2 : dU s = -1 ∨ nI a < dU s
    · rw [if_pos hc2, if_pos hc2]
    · rw [if_neg hc2, if_neg hc2]
  · rw [if_neg (by rw [e]; exact nI_nn (by omega))]
    refine ⟨fun _ st => ?_, rfl, fun _ _ => rfl, ⟨fun h => ⟨h, fun x hx h6 => ?_⟩, fun h => h.1⟩, ?_⟩
    · show (cAp z (cAp z (dC s) (vInt 2)) (vInt (lkF c (uP a) φ 0)), st) = (cAp z (cAp z (dC s) (vInt 2)) (vInt (lkF c (-1) φ 0)), st)
      rw [e, e']
    · rcases List.mem_cons.mp hx with w | w
      · rw [w] at h6
        exact absurd h6 (by decide)
      · rw [List.mem_singleton.mp w]
        show ¬ lkF c (uP a) φ 0 < 0
        rw [e']
        exact nI_pos (by omega)
    · show dU s = uM1 (6, lkF c (uP a) φ 0) (uM1 (1, 2) (dU s))
      rw [eo, e']
      exact (if_neg (fun q => nI_pos (n := X) (by omega) q.2)).symm
