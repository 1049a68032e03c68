abbrev Fr : Type := List (List Nat)
abbrev Tau : Type := Fr → TL
abbrev Kd : Type := Tau × Int32
abbrev GR : Type := (Tau × Nat) ⊕ Nat
def plc (x : Nat) : List Nat → Nat → Option Nat
  | [], _ => none
  | y :: l, i => if y = x then some i else plc x l (i + 1)
def uP (a : Nat) : Int32 := nI a - 128
def nr (y : Int32) : Int32 := if y < 0 then -1 else y
def pn (at_ : Nat → Int32) (i : Nat) : Nat := (at_ i).toNatClampNeg
theorem uP_neg {a : Nat} (h : a ≤ 96) : uP a < 0 := by
  have key : ∀ a, a < 97 → uP a < 0 := by decide +kernel
  exact key a (by omega)
theorem uP_128 (a : Nat) : uP a + 128 = nI a := Int32.sub_add_cancel _ _
def lkF (x : Nat) (u : Int32) : Fr → Nat → Int32
  | [], _ => u
  | l :: φ, j => match plc x l 0 with
    | some i => nI (16 * j + i)
    | none => lkF x u φ (j + 1)
def ar (c : Nat) : Nat := if c = 43 ∨ c = 45 ∨ c = 42 ∨ c = 61 ∨ c = 60 ∨ c = 46 then 2 else if c = 94 ∨ c = 95 ∨ c = 33 then 1 else if c = 63 then 3 else 0
def cdO (c : Nat) : Int32 := if c = 94 then 10 else if c = 95 then 11 else if c = 33 then 12 else if c = 46 then 13 else if c = 61 then 14 else if c = 43 then 15 else if c = 45 then 16 else if c = 42 then 17 else 18
def rowT : List Kd → Fr → TL
  | [], _ => [(1, 1), (0, 0)]
  | k :: ks, φ => rowT ks φ ++ (k.1 φ ++ [(1, 13)])
def lstT (i : Int32) (t : Tau) (φ : Fr) : TL := (4, 0) :: (t φ ++ [(1, i), (5, 0)])
def sgT (c : Nat) (ks : List Kd) (φ : Fr) : TL := match ks with
  | [a] => a.1 φ ++ [(1, cdO c)]
  | [a, b] => if c = 46 then b.1 φ ++ (a.1 φ ++ [(1, 13)]) else a.1 φ ++ (b.1 φ ++ [(1, cdO c)])
  | [a, b, d] => a.1 φ ++ ((1, 8) :: (lstT 9 b.1 φ ++ lstT 9 d.1 φ))
  | _ => []
def caT (a : Kd) (ks : List Kd) (φ : Fr) : TL := rowT ks φ ++ (a.1 φ ++ [(1, 4)])
def boT (a : Kd) (ls : List Nat) (φ : Fr) : TL := (1, 3) :: lstT 5 a.1 (ls :: φ)
def leT (a : Kd) (ks : List Kd) (ls : List Nat) (φ : Fr) : TL := rowT ks φ ++ (boT a ls φ ++ [(1, 4)])
def reT (a : Kd) (ks : List Kd) (ls : List Nat) (φ : Fr) : TL := (1, 6) :: (rowT ks (ls :: φ) ++ (boT a ls φ ++ [(1, 7)]))
section GRD
variable (tx : Nat → Nat)
def gCl (t : Tau) (a : Nat) : GR := if tx a = 41 then .inl (t, a + 1) else .inr a
def gAr (pe : Nat → GR) (c : Nat) : Nat → Nat → List Kd → GR
  | 0, a, ks => gCl tx (sgT c ks) a
  | k + 1, a, ks => if tx a = 32 then (match pe (a + 1) with
      | .inr e => .inr e
      | .inl (t, a2) => gAr pe c k a2 (ks ++ [(t, 0)])) else .inr a
def gMo (pe : Nat → GR) (h : Kd) : Nat → Nat → List Kd → GR
  | 0, a, ks => gCl tx (caT h ks) a
  | k + 1, a, ks => if tx a = 32 then (match pe (a + 1) with
      | .inr e => .inr e
      | .inl (t, a2) => gMo pe h k a2 (ks ++ [(t, 0)])) else gCl tx (caT h ks) a
def gLs : Nat → Nat → List Nat → (List Nat × Nat) ⊕ Nat
  | 0, a, _ => .inr a
  | k + 1, a, ls => if cL (tx a) = true ∧ ¬ tx a ∈ ls then
      (if tx (a + 1) = 32 ∧ ¬ k = 0 then gLs k (a + 1 + 1) (ls ++ [tx a]) else
        (if tx (a + 1) = 41 then (if tx (a + 1 + 1) = 32 then .inl (ls ++ [tx a], a + 1 + 1 + 1) else .inr (a + 1 + 1)) else .inr (a + 1)))
    else .inr a
def gPa (d a : Nat) : (List Nat × Nat) ⊕ Nat := if tx a = 32 then
    (if tx (a + 1) = 40 ∧ d < 9 then
      (if cL (tx (a + 1 + 1)) then gLs tx 3 (a + 1 + 1) [] else (if tx (a + 1 + 1) = 41 then (if tx (a + 1 + 1 + 1) = 32 then .inl ([], a + 1 + 1 + 1 + 1) else .inr (a + 1 + 1 + 1)) else .inr (a + 1 + 1)))
    else .inr (a + 1))
  else .inr a
def gB1 (pe : Nat → GR) (rc : Bool) (d a : Nat) (bs : List Nat) (ct : Tau → Nat → GR) : GR := if tx a = 40 ∧ d < 9 then
      (if cL (tx (a + 1)) = true ∧ ¬ tx (a + 1) ∈ bs then
        (if tx (a + 1 + 1) = 32 then
          (if rc = true ∧ ¬ (tx (a + 1 + 1 + 1) = 40 ∧ d + 1 < 9) then .inr (a + 1 + 1 + 1)
          else if rc = true ∧ ¬ tx (a + 1 + 1 + 1 + 1) = 92 then .inr (a + 1 + 1 + 1 + 1)
          else match pe (a + 1 + 1 + 1) with
            | .inr e => .inr e
            | .inl (t, a3) => if tx a3 = 41 then ct t (a3 + 1) else .inr a3)
        else .inr (a + 1 + 1))
      else .inr (a + 1))
    else .inr a
def gBi (pe : Nat → GR) (rc : Bool) (d : Nat) (fin : List Kd → List Nat → Tau) : Nat → Nat → List Kd → List Nat → GR
  | 0, a, ks, bs => gB1 tx pe rc d a bs (fun t a4 => gCl tx (fin (ks ++ [(t, nI (tx (a + 1)))]) (bs ++ [tx (a + 1)])) a4)
  | k + 1, a, ks, bs => gB1 tx pe rc d a bs (fun t a4 => if tx a4 = 32 then gBi pe rc d fin k (a4 + 1) (ks ++ [(t, nI (tx (a + 1)))]) (bs ++ [tx (a + 1)]) else gCl tx (fin (ks ++ [(t, nI (tx (a + 1)))]) (bs ++ [tx (a + 1)])) a4)
def gLe (pe pe2 : Nat → GR) (rc : Bool) (d a : Nat) : GR := if tx (a + 1) = 32 then
    (match pe (a + 1 + 1) with
    | .inr e => .inr e
    | .inl (t, a2) => if tx a2 = 32 then gBi tx pe2 rc d (fun ks ls => if rc = true then reT (t, 0) ks ls else leT (t, 0) ks ls) 2 (a2 + 1) [] [] else .inr a2)
  else .inr (a + 1)
def gBo (pe : Nat → GR) (d a : Nat) : GR := match gPa tx d (a + 1) with
  | .inr e => .inr e
  | .inl (ls, a2) => match pe a2 with
    | .inr e => .inr e
    | .inl (t, a3) => gCl tx (boT (t, 0) ls) a3
def gCa (pe : Nat → GR) (a : Nat) : GR := match pe a with
  | .inr e => .inr e
  | .inl (t, a2) => gMo tx pe (t, 0) 3 a2 []
def gSg (pe : Nat → GR) (a : Nat) : GR := if tx (a + 1) = 32 then
    (match pe (a + 1 + 1) with
    | .inr e => .inr e
    | .inl (t, a2) => gAr tx pe (tx a) (ar (tx a) - 1) a2 [(t, 0)])
  else .inr (a + 1)
def gBr (pe pe2 : Nat → GR) (d a : Nat) : GR :=
  if 0 < ar (tx a) ∧ ¬ (tx a = 45 ∧ cD (tx (a + 1)) = true) then gSg tx pe a
  else if tx a = 92 then gBo tx pe d a
  else if tx a = 58 ∨ tx a = 59 then gLe tx pe pe2 (decide (tx a = 59)) d a
  else gCa tx pe a
def gEx : Nat → Nat → Nat → GR
  | 0, _, a => .inr a
  | f + 1, d, a => if cL (tx a) then .inl (fun φ => [(1, 2), (6, lkF (tx a) (uP a) φ 0)], a + 1)
    else if tx a = 39 then (match gD tx 200 false 0 d (a + 1) with
      | .inr e => .inr e
      | .inl (D, a2) => .inl (fun _ => (1, 1) :: D, a2))
    else if tx a = 40 then (if d < 9 then gBr tx (gEx f (d + 1)) (gEx f (d + 2)) (d + 1) (a + 1) else .inr a)
    else if cD (tx (pA1 tx a)) then .inl (fun _ => [(1, 1), (1, pVal tx a)], (pDg tx 4 (pA1 tx a) 0).1) else .inr (pA1 tx a)
end GRD
def cKL (P : Nat → Nat → Tau → Prop) (nx bo : Nat → Int32) : List Kd → Nat → Nat → Nat → Prop
  | [], _, _, _ => False
  | k :: [], i, l, m => i = l ∧ P i m k.1 ∧ bo i = k.2
  | k :: k2 :: ks, i, l, m => ∃ j, P i j k.1 ∧ bo i = k.2 ∧ nx i = nI j ∧ cKL P nx bo (k2 :: ks) j l m
def cT (r : rM) (n : Nat) (ks : List Kd) (t : Tau) : Prop :=
    (r.kind n = 3 ∧ ∃ c, c < 256 ∧ r.value n = nI c ∧ 0 < ar c ∧ ks.length = ar c ∧ t = sgT c ks)
  ∨ (r.kind n = 4 ∧ ∃ a args, ks = a :: args ∧ args.length ≤ 3 ∧ t = caT a args)
  ∨ (r.kind n = 5 ∧ ∃ a ls, ks = [a] ∧ ls.length ≤ 3 ∧ r.value n = nI ls.length ∧ (∀ i c, ls[i]? = some c → r.letters (3 * n + i) = nI c) ∧ (∀ c ∈ ls, c < 256) ∧ t = boT a ls)
  ∨ (r.kind n = 6 ∧ ∃ a args ls, ks = a :: args ∧ 1 ≤ args.length ∧ args.length ≤ 3 ∧ args.map (fun k => k.2) = ls.map nI ∧ (∀ c ∈ ls, c < 256) ∧ t = leT a args ls)
  ∨ (r.kind n = 7 ∧ ∃ a args ls, ks = a :: args ∧ 1 ≤ args.length ∧ args.length ≤ 3 ∧ args.map (fun k => k.2) = ls.map nI ∧ (∀ c ∈ ls, c < 256) ∧ t = reT a args ls)
def cR (tx : Nat → Nat) (r : rM) : Nat → Nat → Nat → Tau → Prop
  | 0, _, _, _ => False
  | f + 1, n, e, t =>
      (r.kind n = 0 ∧ e = n + 1 ∧ t = fun _ => [(1, 1), (1, r.value n)])
    ∨ (r.kind n = 1 ∧ e = n + 1 ∧ ∃ c a, c < 256 ∧ a ≤ 96 ∧ r.at_ n = nI a ∧ r.value n = nI c ∧ t = fun φ => [(1, 2), (6, lkF c (uP a) φ 0)])
    ∨ (r.kind n = 2 ∧ e = n + 1 ∧ ∃ a a' d D, r.at_ n = nI a ∧ r.until_ n = nI a' ∧ gD tx 200 false 0 d (a + 1) = .inl (D, a') ∧ d ≤ 9 ∧ t = fun _ => (1, 1) :: D)
    ∨ (∃ ks l, cKL (fun i m t => cR tx r f i m t ∧ r.parent i = nI n) r.next r.bound ks (n + 1) l e ∧ r.next l = -1 ∧ r.first n = nI (n + 1) ∧ cT r n ks t)
def agR (r r' : rM) (n e : Nat) : Prop := (∀ i, n ≤ i → i < e → (r'.kind i = r.kind i ∧ r'.value i = r.value i ∧ r'.at_ i = r.at_ i ∧ r'.until_ i = r.until_ i ∧ r'.first i = r.first i)) ∧ (∀ i, 3 * n ≤ i → i < 3 * e → r'.letters i = r.letters i) ∧ (∀ i, n < i → i < e → r'.next i = r.next i ∧ r'.bound i = r.bound i ∧ r'.parent i = r.parent i)
theorem agR_sub {r r' : rM} {n e n2 e2 : Nat} (h : agR r r' n e) (h1 : n ≤ n2) (h2 : e2 ≤ e) : agR r r' n2 e2 := ⟨fun i a b => h.1 i (by omega) (by omega), fun i a b => h.2.1 i (by omega) (by omega), fun i a b => h.2.2 i (by omega) (by omega)⟩
theorem cKL_lt {P : Nat → Nat → Tau → Prop} {nx bo : Nat → Int32} (hP : ∀ i m t, P i m t → i < m) : ∀ (ks : List Kd) (i l m : Nat), cKL P nx bo ks i l m → i ≤ l ∧ l < m
  | [], _, _, _, h => absurd h id
  | k :: [], i, l, m, h => by
    obtain ⟨rfl, h2, -⟩ := h
    exact ⟨Nat.le_refl _, hP _ _ _ h2⟩
  | k :: k2 :: ks, i, l, m, h => by
    obtain ⟨j, h1, -, -, h4⟩ := h
    have := cKL_lt hP (k2 :: ks) j l m h4
    have := hP _ _ _ h1
    omega
theorem cR_lt {tx : Nat → Nat} {r : rM} : ∀ (f n e : Nat) (t : Tau), cR tx r f n e t → n < e
  | 0, _, _, _, h => absurd h id
  | f + 1, n, e, t, h => by
    rcases h with ⟨-, h, -⟩ | ⟨-, h, -⟩ | ⟨-, h, -⟩ | ⟨ks, l, h, -⟩
    · omega
    · omega
    · omega
    · have := cKL_lt (fun i m t w => cR_lt f i m t w.1) ks _ _ _ h
      omega
theorem cKL_ag {P P' : Nat → Nat → Tau → Prop} {nx bo nx' bo' : Nat → Int32} {e : Nat} (hlt : ∀ i m t, P i m t → i < m) : ∀ (ks : List Kd) (i l m : Nat), (∀ a b t, i ≤ a → b ≤ m → P a b t → P' a b t) → (∀ a, i ≤ a → a < l → nx' a = nx a) → (∀ a, i ≤ a → a ≤ l → bo' a = bo a) → cKL P nx bo ks i l m → cKL P' nx' bo' ks i l m
  | [], _, _, _, _, _, _, h => absurd h id
  | k :: [], i, l, m, hP, hn, hb, h => by
    obtain ⟨rfl, h2, h3⟩ := h
    exact ⟨rfl, hP _ _ _ (Nat.le_refl _) (Nat.le_refl _) h2, by rw [hb i (Nat.le_refl _) (Nat.le_refl _)]; exact h3⟩
  | k :: k2 :: ks, i, l, m, hP, hn, hb, h => by
    obtain ⟨j, h1, h2, h3, h4⟩ := h
    have c1 := hlt _ _ _ h1
    have c2 := cKL_lt hlt (k2 :: ks) j l m h4
    exact ⟨j, hP _ _ _ (Nat.le_refl _) (by omega) h1, by rw [hb i (Nat.le_refl _) (by omega)]; exact h2, by rw [hn i (Nat.le_refl _) (by omega)]; exact h3, cKL_ag (e := e) hlt (k2 :: ks) j l m (fun a b t q => hP a b t (by omega)) (fun a q => hn a (by omega)) (fun a q => hb a (by omega)) h4⟩
theorem cT_ag {r r' : rM} {n : Nat} {ks : List Kd} {t : Tau} (hk : r'.kind n = r.kind n) (hv : r'.value n = r.value n) (hl : ∀ i, 3 * n ≤ i → i < 3 * n + 3 → r'.letters i = r.letters i) (h : cT r n ks t) : cT r' n ks t := by
  unfold cT at h ⊢
  rw [hk, hv]
  rcases h with h | h | ⟨h1, a, ls, h2, h3, h4, h5, h6⟩ | h | h
  · exact Or.inl h
  · exact Or.inr (Or.inl h)
  · refine Or.inr (Or.inr (Or.inl ⟨h1, a, ls, h2, h3, h4, fun i c hi => ?_, h6⟩))
    have : i < ls.length := by
      rcases Nat.lt_or_ge i ls.length with w | w
      · exact w
      · rw [List.getElem?_eq_none w] at hi
        cases hi
    rw [hl (3 * n + i) (by omega) (by omega)]
    exact h5 i c hi
  · exact Or.inr (Or.inr (Or.inr (Or.inl h)))
  · exact Or.inr (Or.inr (Or.inr (Or.inr h)))
theorem cR_ag {tx : Nat → Nat} {r r' : rM} : ∀ (f n e : Nat) (t : Tau), agR r r' n e → cR tx r f n e t → cR tx r' f n e t
  | 0, _, _, _, _, h => absurd h id
  | f + 1, n, e, t, hA, h => by
    have hlt := cR_lt (f + 1) n e t h
    obtain ⟨k1, k2, k3, k4, k5⟩ := hA.1 n (Nat.le_refl _) hlt
    rcases h with ⟨h1, h2, h3⟩ | ⟨h1, h2, h3⟩ | ⟨h1, h2, h3⟩ | ⟨ks, l, h1, h2, h3, h4⟩
    · refine Or.inl ⟨k1.trans h1, h2, ?_⟩
      rw [k2]
      exact h3
    · refine Or.inr (Or.inl ⟨k1.trans h1, h2, ?_⟩)
      rw [k2, k3]
      exact h3
    · refine Or.inr (Or.inr (Or.inl ⟨k1.trans h1, h2, ?_⟩))
      rw [k3, k4]
      exact h3
    · have hl := cKL_lt (fun i m t w => cR_lt (tx := tx) (r := r) f i m t w.1) ks _ _ _ h1
      refine Or.inr (Or.inr (Or.inr ⟨ks, l, ?_, ?_, k5.trans h3, ?_⟩))
      · exact cKL_ag (e := e) (fun i m t w => cR_lt (tx := tx) (r := r) f i m t w.1) ks _ _ _ (fun a b t q1 q2 q3 => ⟨cR_ag f a b t (agR_sub hA (by omega) q2) q3.1, (hA.2.2 a (by omega) (by have := cR_lt f a b t q3.1; omega)).2.2.trans q3.2⟩) (fun a q1 q2 => (hA.2.2 a (by omega) (by omega)).1) (fun a q1 q2 => (hA.2.2 a (by omega) (by omega)).2.1) h1
      · rw [(hA.2.2 l (by omega) (by omega)).1]
        exact h2
      · exact cT_ag k1 k2 (fun i q1 q2 => hA.2.1 i q1 (by omega)) h4
theorem cKL_app {P : Nat → Nat → Tau → Prop} {nx bo : Nat → Int32} {k' : Kd} {m' : Nat} : ∀ (ks : List Kd) (i l m : Nat), cKL P nx bo ks i l m → nx l = nI m → P m m' k'.1 → bo m = k'.2 → cKL P nx bo (ks ++ [k']) i m m'
  | [], _, _, _, h, _, _, _ => absurd h id
  | k :: [], i, l, m, h, h1, h2, h3 => by
    obtain ⟨rfl, h5, h6⟩ := h
    exact ⟨m, h5, h6, h1, rfl, h2, h3⟩
  | k :: k2 :: ks, i, l, m, h, h1, h2, h3 => by
    obtain ⟨j, h5, h6, h7, h8⟩ := h
    exact ⟨j, h5, h6, h7, cKL_app (k2 :: ks) j l m h8 h1 h2 h3⟩
