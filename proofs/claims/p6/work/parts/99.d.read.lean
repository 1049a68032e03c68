abbrev PR : Type := (Nat × Nat × tS) ⊕ (Nat × tS)
abbrev PU : Type := (Nat × tS) ⊕ (Nat × tS)
section RD
variable (tx : Nat → Nat)
def pClose (n a : Nat) (t : tS) : PR := if tx a = 41 then .inl (n, a + 1, t) else .inr (a, t)
def pMore (pe : Nat → tS → PR) (n : Nat) : Nat → Nat → tS → PR
  | 0, a, t => pClose tx n a t
  | k + 1, a, t => if tx a = 32 then (match pe (a + 1) t with
      | .inr e => .inr e
      | .inl (c, a2, t2) => pMore pe n k a2 (tPart t2 n c)) else pClose tx n a t
def pArgs (pe : Nat → tS → PR) (n : Nat) : Nat → Nat → tS → PR
  | 0, a, t => pClose tx n a t
  | k + 1, a, t => if tx a = 32 then (match pe (a + 1) t with
      | .inr e => .inr e
      | .inl (c, a2, t2) => pArgs pe n k a2 (tPart t2 n c)) else .inr (a, t)
def pDg : Nat → Nat → Int32 → Nat × Int32
  | 0, a, v => (a, v)
  | k + 1, a, v => if cD (tx a) then pDg k (a + 1) (Int32.ofInt 10 * v + nI (tx a) - Int32.ofInt 48) else (a, v)
def pA1 (a : Nat) : Nat := if tx a = 45 then a + 1 else a
def pVal (a : Nat) : Int32 := if tx a = 45 then -(pDg tx 4 (pA1 tx a) 0).2 else (pDg tx 4 (pA1 tx a) 0).2
def pNum (a : Nat) (t : tS) : PR := if cD (tx (pA1 tx a)) then .inl (tn t, (pDg tx 4 (pA1 tx a) 0).1, tAdd t 1 (pVal tx a) (nI a)) else .inr (pA1 tx a, t)
def pAtom (a : Nat) (t : tS) : PR := if cL (tx a) then .inl (tn t, a + 1, tAdd t 2 (nI (tx a)) (nI a)) else pNum tx a t
def pDat : Nat → Nat → Nat → tS → PR
  | 0, _, a, t => .inr (a, t)
  | f + 1, d, a, t => if tx a = 40 then
      (if 9 ≤ d then .inr (a, tAdd t 3 0 (nI a)) else if tx (a + 1) = 41 then .inl (tn t, a + 1 + 1, tAdd t 3 0 (nI a)) else
        match pDat f (d + 1) (a + 1) (tAdd t 3 0 (nI a)) with
        | .inr e => .inr e
        | .inl (c, a2, t2) => pMore tx (pDat f (d + 1)) (tn t) 95 a2 (tPart t2 (tn t) c))
    else pAtom tx a t
def pLet (p a : Nat) (t : tS) : PU := if cL (tx a) = true ∧ tPl t (nI (tx a)) 96 (tEn t (tF t) (some p)) = none then .inl (a + 1, tPart (tAdd t 2 (nI (tx a)) (nI a)) p (tn t)) else .inr (a, t)
def pLs (p : Nat) : Nat → Nat → tS → PR
  | 0, a, t => pClose tx p a t
  | k + 1, a, t => if tx a = 32 then (match pLet tx p (a + 1) t with
      | .inr e => .inr e
      | .inl (a2, t2) => pLs p k a2 t2) else pClose tx p a t
def pPar (d a : Nat) (t : tS) : PR := if d < 9 ∧ tx a = 40 then
    (if tx (a + 1) = 41 then .inl (tn t, a + 1 + 1, tAdd t 7 0 (nI a)) else match pLet tx (tn t) (a + 1) (tAdd t 7 0 (nI a)) with
      | .inr e => .inr e
      | .inl (a2, t2) => pLs tx (tn t) 2 a2 t2)
  else .inr (a, tAdd t 7 0 (nI a))
def pFun (pe : Nat → tS → PR) (d a : Nat) (t : tS) : PR := if tx a = 92 then
    (if tx (a + 1) = 32 then (match pPar tx d (a + 1 + 1) (tAdd t 6 0 (nI a)) with
      | .inr e => .inr e
      | .inl (p, a2, t2) => if tx a2 = 32 then (match pe (a2 + 1) (tPart t2 (tn t) p) with
        | .inr e => .inr e
        | .inl (c, a4, t4) => pClose tx (tn t) a4 (tPart t4 (tn t) c)) else .inr (a2, tPart t2 (tn t) p))
    else .inr (a + 1, tAdd t 6 0 (nI a)))
  else .inr (a, tAdd t 6 0 (nI a))
def pBv (pe pf : Nat → tS → PR) (d n a : Nat) (t : tS) : PR := if tEi t (tK t) (some n) = 9 then (if d + 1 < 9 ∧ tx a = 40 then pf (a + 1) t else .inr (a, t)) else pe a t
def pBind (pe pf : Nat → tS → PR) (d n a : Nat) (t : tS) : PU := if d < 9 ∧ tx a = 40 then
    (if cL (tx (a + 1)) = true ∧ tPl t (nI (tx (a + 1))) 96 (tPt t 1 (tEn t (tF t) (some n))) = none then
      (if tx (a + 1 + 1) = 32 then
        (match pBv tx pe pf d n (a + 1 + 1 + 1) (tAdd t 10 (nI (tx (a + 1))) (nI (a + 1))) with
        | .inr e => .inr e
        | .inl (c, a2, t2) => if tx a2 = 41 then .inl (a2 + 1, tPart (tPart t2 (tn t) c) n (tn t)) else .inr (a2, tPart t2 (tn t) c))
      else .inr (a + 1 + 1, tAdd t 10 (nI (tx (a + 1))) (nI (a + 1))))
    else .inr (a + 1, t))
  else .inr (a, t)
def pBs (pb : Nat → tS → PU) (n : Nat) : Nat → Nat → tS → PR
  | 0, a, t => pClose tx n a t
  | k + 1, a, t => if tx a = 32 then (match pb (a + 1) t with
      | .inr e => .inr e
      | .inl (a2, t2) => pBs pb n k a2 t2) else pClose tx n a t
def pBou (pe : Nat → tS → PR) (pb : Nat → Nat → tS → PU) (kd : Int32) (a : Nat) (t : tS) : PR := if tx (a + 1) = 32 then
    (match pe (a + 1 + 1) (tAdd t kd 0 (nI a)) with
    | .inr e => .inr e
    | .inl (c, a2, t2) => if tx a2 = 32 then (match pb (tn t) (a2 + 1) (tPart t2 (tn t) c) with
      | .inr e => .inr e
      | .inl (a4, t4) => pBs tx (pb (tn t)) (tn t) 2 a4 t4) else .inr (a2, tPart t2 (tn t) c))
  else .inr (a + 1, tAdd t kd 0 (nI a))
def pCall (pe : Nat → tS → PR) (a : Nat) (t : tS) : PR := match pe a (tAdd t 11 0 (nI a)) with
  | .inr e => .inr e
  | .inl (c, a2, t2) => pMore tx pe (tn t) 3 a2 (tPart t2 (tn t) c)
def opN (o : Nat) : Nat := if o = 8 then 3 else if o ≤ 12 then 1 else 2
def pOp (pe : Nat → tS → PR) (o a : Nat) (t : tS) : PR := pArgs tx pe (tn t) (opN o) (a + 1) (tAdd t 5 (nI o) (nI a))
def sgl : List Nat := [94, 95, 33, 46, 61, 43, 45, 42, 60]
def fdx (c : Nat) : Nat → Nat → Option Nat
  | 0, _ => none
  | k + 1, i => if sgl.getD i 0 = c then some i else fdx c k (i + 1)
def opO (c : Nat) : Option Nat := if c = 63 then some 8 else (fdx c 9 0).map (10 + ·)
def pBra (pe pe2 pe3 : Nat → tS → PR) (d a : Nat) (t : tS) : PR :=
  if tx a = 92 then pFun tx pe d a t
  else if tx a = 58 ∨ tx a = 59 then pBou tx pe (pBind tx pe2 (pFun tx pe3 (d + 2)) d) (if tx a = 59 then 9 else 8) a t
  else match opO (tx a) with
    | none => pCall tx pe a t
    | some o => if tx a = 45 ∧ cD (tx (a + 1)) = true then pCall tx pe a t else pOp tx pe o a t
def pEx : Nat → Nat → Nat → tS → PR
  | 0, _, a, t => .inr (a, t)
  | f + 1, d, a, t => if tx a = 40 then (if d < 9 then pBra tx (pEx f (d + 1)) (pEx f (d + 2)) (pEx f (d + 3)) (d + 1) (a + 1) t else .inr (a, t))
    else if tx a = 39 then (match pDat tx 11 d (a + 1) (tAdd t 4 0 (nI a)) with
      | .inr e => .inr e
      | .inl (c, a2, t2) => .inl (tn t, a2, tPart t2 (tn t) c))
    else pAtom tx a t
def gd (len n : Nat) : PR → Prop
  | .inl (nd, a, t) => nd = n ∧ tOK t ∧ n < tn t ∧ tn t ≤ a ∧ a ≤ len
  | .inr (a, t) => tOK t ∧ n ≤ tn t ∧ a ≤ len
def gu (len n : Nat) : PU → Prop
  | .inl (a, t) => tOK t ∧ n ≤ tn t ∧ tn t ≤ a ∧ a ≤ len
  | .inr (a, t) => tOK t ∧ n ≤ tn t ∧ a ≤ len
def GE (len : Nat) (pe : Nat → tS → PR) : Prop := ∀ a t, tOK t → tn t ≤ a → a ≤ len → gd len (tn t) (pe a t)
variable {tx} {X : Nat → Int32} {len : Nat}
theorem tn_add {t : tS} {k v p : Int32} : tn (tAdd t k v p) = tn t + 1 := rfl
theorem g_close (hx : txOK X len tx) {n a : Nat} {t : tS} (ht : tOK t) (hn : n < tn t) (ha : tn t ≤ a) (hl : a ≤ len) : gd len n (pClose tx n a t) := by
  unfold pClose
  split
  · next h =>
    have := hx.lt (a := a) (by omega)
    exact ⟨rfl, ht, hn, by omega, by omega⟩
  · exact ⟨ht, by omega, hl⟩
theorem g_more (hx : txOK X len tx) {pe : Nat → tS → PR} (hp : GE len pe) {n : Nat} : ∀ (k a : Nat) (t : tS), tOK t → n < tn t → tn t ≤ a → a ≤ len → gd len n (pMore tx pe n k a t)
  | 0, a, t, ht, hn, ha, hl => g_close hx ht hn ha hl
  | k + 1, a, t, ht, hn, ha, hl => by
    unfold pMore
    split
    · next h =>
      have h1 := hx.lt (a := a) (by omega)
      have hg := hp (a + 1) t ht (by omega) (by omega)
      have h96 := hx.1
      generalize pe (a + 1) t = r at hg
      rcases r with ⟨c, a2, t2⟩ | ⟨a2, t2⟩
      · obtain ⟨rfl, g1, g2, g3, g4⟩ := hg
        refine g_more hx hp k a2 _ (tOK_part g1 (by omega)) ?_ ?_ g4
        · rw [tn_part]; omega
        · rw [tn_part]; exact g3
      · obtain ⟨g1, g2, g3⟩ := hg
        exact ⟨g1, by omega, g3⟩
    · exact g_close hx ht hn ha hl
theorem g_args (hx : txOK X len tx) {pe : Nat → tS → PR} (hp : GE len pe) {n : Nat} : ∀ (k a : Nat) (t : tS), tOK t → n < tn t → tn t ≤ a → a ≤ len → gd len n (pArgs tx pe n k a t)
  | 0, a, t, ht, hn, ha, hl => g_close hx ht hn ha hl
  | k + 1, a, t, ht, hn, ha, hl => by
    unfold pArgs
    split
    · next h =>
      have h1 := hx.lt (a := a) (by omega)
      have hg := hp (a + 1) t ht (by omega) (by omega)
      have h96 := hx.1
      generalize pe (a + 1) t = r at hg
      rcases r with ⟨c, a2, t2⟩ | ⟨a2, t2⟩
      · obtain ⟨rfl, g1, g2, g3, g4⟩ := hg
        refine g_args hx hp k a2 _ (tOK_part g1 (by omega)) ?_ ?_ g4
        · rw [tn_part]; omega
        · rw [tn_part]; exact g3
      · obtain ⟨g1, g2, g3⟩ := hg
        exact ⟨g1, by omega, g3⟩
    · exact ⟨ht, by omega, hl⟩
theorem g_dg (hx : txOK X len tx) : ∀ (k a : Nat) (v : Int32), a ≤ len → a ≤ (pDg tx k a v).1 ∧ (pDg tx k a v).1 ≤ len
  | 0, a, v, hl => ⟨Nat.le_refl _, hl⟩
  | k + 1, a, v, hl => by
    unfold pDg
    split
    · next h =>
      have h1 := hx.lt (a := a) (fun e => by rw [e] at h; exact absurd h (by decide))
      have := g_dg hx k (a + 1) (Int32.ofInt 10 * v + nI (tx a) - Int32.ofInt 48) (by omega)
      omega
    · exact ⟨Nat.le_refl _, hl⟩
theorem g_num (hx : txOK X len tx) : GE len (pNum tx) := by
  intro a t ht hn hl
  have h96 := hx.1
  have ha1 : a ≤ pA1 tx a ∧ pA1 tx a ≤ len := by
    unfold pA1
    split
    · next h =>
      have := hx.lt (a := a) (by omega)
      omega
    · omega
  unfold pNum
  split
  · next h =>
    have h1 := hx.lt (a := pA1 tx a) (fun e => by rw [e] at h; exact absurd h (by decide))
    have h2 : (pDg tx 4 (pA1 tx a) 0).1 = (pDg tx 3 (pA1 tx a + 1) (Int32.ofInt 10 * 0 + nI (tx (pA1 tx a)) - Int32.ofInt 48)).1 := by
      show (pDg tx (3 + 1) (pA1 tx a) 0).1 = _
      rw [pDg, if_pos h]
    have h3 := g_dg hx 3 (pA1 tx a + 1) (Int32.ofInt 10 * 0 + nI (tx (pA1 tx a)) - Int32.ofInt 48) (by omega)
    rw [← h2] at h3
    exact ⟨rfl, tOK_add ht (by omega), by rw [tn_add]; omega, by rw [tn_add]; omega, h3.2⟩
  · exact ⟨ht, Nat.le_refl _, ha1.2⟩
theorem cL_ne {c : Nat} (h : cL c = true) : ¬ c = 0 := fun e => by rw [e] at h; exact absurd h (by decide)
theorem g_atom (hx : txOK X len tx) : GE len (pAtom tx) := by
  intro a t ht hn hl
  have h96 := hx.1
  unfold pAtom
  split
  · next h =>
    have h1 := hx.lt (cL_ne h)
    exact ⟨rfl, tOK_add ht (by omega) (fun _ => ⟨_, by have := hx.le a; omega, rfl⟩), by rw [tn_add]; omega, by rw [tn_add]; omega, by omega⟩
  · exact g_num hx a t ht hn hl
theorem g_dat (hx : txOK X len tx) : ∀ f d, GE len (pDat tx f d)
  | 0, d, a, t, ht, hn, hl => ⟨ht, Nat.le_refl _, hl⟩
  | f + 1, d, a, t, ht, hn, hl => by
    have h96 := hx.1
    unfold pDat
    split
    · next h =>
      have h1 := hx.lt (a := a) (by omega)
      have ht1 : tOK (tAdd t 3 0 (nI a)) := tOK_add ht (by omega)
      split
      · exact ⟨ht1, by rw [tn_add]; omega, hl⟩
      · split
        · next h2 =>
          have := hx.lt (a := a + 1) (by omega)
          exact ⟨rfl, ht1, by rw [tn_add]; omega, by rw [tn_add]; omega, by omega⟩
        · have hg := g_dat hx f (d + 1) (a + 1) (tAdd t 3 0 (nI a)) ht1 (by rw [tn_add]; omega) (by omega)
          rw [tn_add] at hg
          generalize pDat tx f (d + 1) (a + 1) (tAdd t 3 0 (nI a)) = r at hg
          rcases r with ⟨c, a2, t2⟩ | ⟨a2, t2⟩
          · obtain ⟨rfl, g1, g2, g3, g4⟩ := hg
            exact g_more hx (g_dat hx f (d + 1)) 95 a2 _ (tOK_part g1 (by omega)) (by rw [tn_part]; omega) (by rw [tn_part]; exact g3) g4
          · obtain ⟨g1, g2, g3⟩ := hg
            exact ⟨g1, by omega, g3⟩
    · exact g_atom hx a t ht hn hl
theorem g_let (hx : txOK X len tx) {p a : Nat} {t : tS} (ht : tOK t) (hn : tn t ≤ a) (hl : a ≤ len) : gu len (tn t) (pLet tx p a t) := by
  have h96 := hx.1
  unfold pLet
  split
  · next h =>
    have h1 := hx.lt (cL_ne h.1)
    exact ⟨tOK_part (tOK_add ht (by omega) (fun _ => ⟨_, by have := hx.le a; omega, rfl⟩)) (by omega), by rw [tn_part, tn_add]; omega, by rw [tn_part, tn_add]; omega, by omega⟩
  · exact ⟨ht, Nat.le_refl _, hl⟩
theorem g_ls (hx : txOK X len tx) {p : Nat} : ∀ (k a : Nat) (t : tS), tOK t → p < tn t → tn t ≤ a → a ≤ len → gd len p (pLs tx p k a t)
  | 0, a, t, ht, hn, ha, hl => g_close hx ht hn ha hl
  | k + 1, a, t, ht, hn, ha, hl => by
    unfold pLs
    split
    · next h =>
      have h1 := hx.lt (a := a) (by omega)
      have hg := g_let hx (p := p) (a := a + 1) ht (by omega) (by omega)
      generalize pLet tx p (a + 1) t = r at hg
      rcases r with ⟨a2, t2⟩ | ⟨a2, t2⟩
      · obtain ⟨g1, g2, g3, g4⟩ := hg
        exact g_ls hx k a2 t2 g1 (by omega) g3 g4
      · obtain ⟨g1, g2, g3⟩ := hg
        exact ⟨g1, by omega, g3⟩
    · exact g_close hx ht hn ha hl
theorem g_par (hx : txOK X len tx) {d a : Nat} {t : tS} (ht : tOK t) (hn : tn t + 2 ≤ a) (hl : a ≤ len) : gd len (tn t) (pPar tx d a t) := by
  have h96 := hx.1
  have ht1 : tOK (tAdd t 7 0 (nI a)) := tOK_add ht (by omega)
  unfold pPar
  split
  · next h =>
    have h1 := hx.lt (a := a) (by omega)
    split
    · next h2 =>
      have := hx.lt (a := a + 1) (by omega)
      exact ⟨rfl, ht1, by rw [tn_add]; omega, by rw [tn_add]; omega, by omega⟩
    · have hg := g_let hx (p := tn t) (a := a + 1) ht1 (by rw [tn_add]; omega) (by omega)
      rw [tn_add] at hg
      generalize pLet tx (tn t) (a + 1) (tAdd t 7 0 (nI a)) = r at hg
      rcases r with ⟨a2, t2⟩ | ⟨a2, t2⟩
      · obtain ⟨g1, g2, g3, g4⟩ := hg
        exact g_ls hx 2 a2 t2 g1 (by omega) g3 g4
      · obtain ⟨g1, g2, g3⟩ := hg
        exact ⟨g1, by omega, g3⟩
  · exact ⟨ht1, by rw [tn_add]; omega, hl⟩
theorem g_fun (hx : txOK X len tx) {pe : Nat → tS → PR} (hp : GE len pe) {d a : Nat} {t : tS} (ht : tOK t) (hn : tn t + 1 ≤ a) (hl : a ≤ len) : gd len (tn t) (pFun tx pe d a t) := by
  have h96 := hx.1
  have ht1 : tOK (tAdd t 6 0 (nI a)) := tOK_add ht (by omega)
  unfold pFun
  split
  · next h =>
    have h1 := hx.lt (a := a) (by omega)
    split
    · next h2 =>
      have h3 := hx.lt (a := a + 1) (by omega)
      have hg := g_par hx (d := d) (a := a + 1 + 1) ht1 (by rw [tn_add]; omega) (by omega)
      rw [tn_add] at hg
      generalize pPar tx d (a + 1 + 1) (tAdd t 6 0 (nI a)) = r at hg
      rcases r with ⟨c, a2, t2⟩ | ⟨a2, t2⟩
      · obtain ⟨rfl, g1, g2, g3, g4⟩ := hg
        have ht2 : tOK (tPart t2 (tn t) (tn t + 1)) := tOK_part g1 (by omega)
        show gd len (tn t) (if tx a2 = 32 then _ else _)
        split
        · next h4 =>
          have h5 := hx.lt (a := a2) (by omega)
          have hg2 := hp (a2 + 1) _ ht2 (by rw [tn_part]; omega) (by omega)
          rw [tn_part] at hg2
          generalize pe (a2 + 1) (tPart t2 (tn t) (tn t + 1)) = r2 at hg2
          rcases r2 with ⟨c, a4, t4⟩ | ⟨a4, t4⟩
          · obtain ⟨rfl, g5, g6, g7, g8⟩ := hg2
            exact g_close hx (tOK_part g5 (by omega)) (by rw [tn_part]; omega) (by rw [tn_part]; exact g7) g8
          · obtain ⟨g5, g6, g7⟩ := hg2
            exact ⟨g5, by omega, g7⟩
        · exact ⟨ht2, by rw [tn_part]; omega, g4⟩
      · obtain ⟨g1, g2, g3⟩ := hg
        exact ⟨g1, by omega, g3⟩
    · exact ⟨ht1, by rw [tn_add]; omega, by omega⟩
  · exact ⟨ht1, by rw [tn_add]; omega, hl⟩
theorem g_bv (hx : txOK X len tx) {pe pf : Nat → tS → PR} (hp : GE len pe) (hf : ∀ a t, tOK t → tn t + 1 ≤ a → a ≤ len → gd len (tn t) (pf a t)) {d n a : Nat} {t : tS} (ht : tOK t) (hn : tn t ≤ a) (hl : a ≤ len) : gd len (tn t) (pBv tx pe pf d n a t) := by
  unfold pBv
  split
  · split
    · next h =>
      have h1 := hx.lt (a := a) (by omega)
      exact hf _ _ ht (by omega) (by omega)
    · exact ⟨ht, Nat.le_refl _, hl⟩
  · exact hp _ _ ht hn hl
theorem g_bind (hx : txOK X len tx) {pe pf : Nat → tS → PR} (hp : GE len pe) (hf : ∀ a t, tOK t → tn t + 1 ≤ a → a ≤ len → gd len (tn t) (pf a t)) {d n a : Nat} {t : tS} (ht : tOK t) (hn : tn t ≤ a) (hl : a ≤ len) : gu len (tn t) (pBind tx pe pf d n a t) := by
  have h96 := hx.1
  unfold pBind
  split
  · next h =>
    have h1 := hx.lt (a := a) (by omega)
    split
    · next h2 =>
      have h3 := hx.lt (cL_ne h2.1)
      have ht1 : tOK (tAdd t 10 (nI (tx (a + 1))) (nI (a + 1))) := tOK_add ht (by omega)
      split
      · next h4 =>
        have h5 := hx.lt (a := a + 1 + 1) (by omega)
        have hg := g_bv hx hp hf (d := d) (n := n) (a := a + 1 + 1 + 1) ht1 (by rw [tn_add]; omega) (by omega)
        rw [tn_add] at hg
        generalize pBv tx pe pf d n (a + 1 + 1 + 1) (tAdd t 10 (nI (tx (a + 1))) (nI (a + 1))) = r at hg
        rcases r with ⟨c, a2, t2⟩ | ⟨a2, t2⟩
        · obtain ⟨rfl, g1, g2, g3, g4⟩ := hg
          have ht2 : tOK (tPart t2 (tn t) (tn t + 1)) := tOK_part g1 (by omega)
          show gu len (tn t) (if tx a2 = 41 then _ else _)
          split
          · next h6 =>
            have h7 := hx.lt (a := a2) (by omega)
            exact ⟨tOK_part ht2 (by omega), by rw [tn_part, tn_part]; omega, by rw [tn_part, tn_part]; omega, by omega⟩
          · exact ⟨ht2, by rw [tn_part]; omega, g4⟩
        · obtain ⟨g1, g2, g3⟩ := hg
          exact ⟨g1, by omega, g3⟩
      · exact ⟨ht1, by rw [tn_add]; omega, by omega⟩
    · exact ⟨ht, Nat.le_refl _, by omega⟩
  · exact ⟨ht, Nat.le_refl _, hl⟩
theorem g_bs (hx : txOK X len tx) {pb : Nat → tS → PU} (hp : ∀ a t, tOK t → tn t ≤ a → a ≤ len → gu len (tn t) (pb a t)) {n : Nat} : ∀ (k a : Nat) (t : tS), tOK t → n < tn t → tn t ≤ a → a ≤ len → gd len n (pBs tx pb n k a t)
  | 0, a, t, ht, hn, ha, hl => g_close hx ht hn ha hl
  | k + 1, a, t, ht, hn, ha, hl => by
    unfold pBs
    split
    · next h =>
      have h1 := hx.lt (a := a) (by omega)
      have hg := hp (a + 1) t ht (by omega) (by omega)
      generalize pb (a + 1) t = r at hg
      rcases r with ⟨a2, t2⟩ | ⟨a2, t2⟩
      · obtain ⟨g1, g2, g3, g4⟩ := hg
        exact g_bs hx hp k a2 t2 g1 (by omega) g3 g4
      · obtain ⟨g1, g2, g3⟩ := hg
        exact ⟨g1, by omega, g3⟩
    · exact g_close hx ht hn ha hl
theorem g_bou (hx : txOK X len tx) {pe : Nat → tS → PR} {pb : Nat → Nat → tS → PU} (hp : GE len pe) (hb : ∀ n a t, tOK t → tn t ≤ a → a ≤ len → gu len (tn t) (pb n a t)) {kd : Int32} (hkd : ¬ kd = 2) {a : Nat} {t : tS} (ht : tOK t) (hn : tn t + 1 ≤ a) (hl : a ≤ len) (h0 : ¬ tx a = 0) : gd len (tn t) (pBou tx pe pb kd a t) := by
  have h96 := hx.1
  have ht1 : tOK (tAdd t kd 0 (nI a)) := tOK_add ht (by omega) (fun h => absurd h hkd)
  have h9 := hx.lt h0
  unfold pBou
  split
  · next h =>
    have h1 := hx.lt (a := a + 1) (by omega)
    have hg := hp (a + 1 + 1) _ ht1 (by rw [tn_add]; omega) (by omega)
    rw [tn_add] at hg
    generalize pe (a + 1 + 1) (tAdd t kd 0 (nI a)) = r at hg
    rcases r with ⟨c, a2, t2⟩ | ⟨a2, t2⟩
    · obtain ⟨rfl, g1, g2, g3, g4⟩ := hg
      have ht2 : tOK (tPart t2 (tn t) (tn t + 1)) := tOK_part g1 (by omega)
      show gd len (tn t) (if tx a2 = 32 then _ else _)
      split
      · next h4 =>
        have h5 := hx.lt (a := a2) (by omega)
        have hg2 := hb (tn t) (a2 + 1) _ ht2 (by rw [tn_part]; omega) (by omega)
        rw [tn_part] at hg2
        generalize pb (tn t) (a2 + 1) (tPart t2 (tn t) (tn t + 1)) = r2 at hg2
        rcases r2 with ⟨a4, t4⟩ | ⟨a4, t4⟩
        · obtain ⟨g5, g6, g7, g8⟩ := hg2
          exact g_bs hx (hb (tn t)) 2 a4 t4 g5 (by omega) g7 g8
        · obtain ⟨g5, g6, g7⟩ := hg2
          exact ⟨g5, by omega, g7⟩
      · exact ⟨ht2, by rw [tn_part]; omega, g4⟩
    · obtain ⟨g1, g2, g3⟩ := hg
      exact ⟨g1, by omega, g3⟩
  · exact ⟨ht1, by rw [tn_add]; omega, by omega⟩
theorem g_call (hx : txOK X len tx) {pe : Nat → tS → PR} (hp : GE len pe) {a : Nat} {t : tS} (ht : tOK t) (hn : tn t + 1 ≤ a) (hl : a ≤ len) : gd len (tn t) (pCall tx pe a t) := by
  have h96 := hx.1
  have hg := hp a _ (tOK_add (k := 11) (v := 0) (p := nI a) ht (by omega)) (by rw [tn_add]; omega) hl
  rw [tn_add] at hg
  unfold pCall
  generalize pe a (tAdd t 11 0 (nI a)) = r at hg
  rcases r with ⟨c, a2, t2⟩ | ⟨a2, t2⟩
  · obtain ⟨rfl, g1, g2, g3, g4⟩ := hg
    exact g_more hx hp 3 a2 _ (tOK_part g1 (by omega)) (by rw [tn_part]; omega) (by rw [tn_part]; exact g3) g4
  · obtain ⟨g1, g2, g3⟩ := hg
    exact ⟨g1, by omega, g3⟩
theorem g_op (hx : txOK X len tx) {pe : Nat → tS → PR} (hp : GE len pe) {o a : Nat} {t : tS} (ht : tOK t) (hn : tn t + 1 ≤ a) (hl : a < len) : gd len (tn t) (pOp tx pe o a t) := by
  have h96 := hx.1
  exact g_args hx hp _ _ _ (tOK_add ht (by omega)) (by rw [tn_add]; omega) (by rw [tn_add]; omega) (by omega)
theorem opO_0 : opO 0 = none := by decide
theorem g_bra (hx : txOK X len tx) {pe pe2 pe3 : Nat → tS → PR} (h1 : GE len pe) (h2 : GE len pe2) (h3 : GE len pe3) {d a : Nat} {t : tS} (ht : tOK t) (hn : tn t + 1 ≤ a) (hl : a ≤ len) : gd len (tn t) (pBra tx pe pe2 pe3 d a t) := by
  unfold pBra
  split
  · exact g_fun hx h1 ht hn hl
  · split
    · next h =>
      exact g_bou hx h1 (hkd := by split <;> decide) (fun n a t g1 g2 g3 => g_bind hx h2 (fun a t q1 q2 q3 => g_fun hx h3 q1 q2 q3) g1 g2 g3) ht hn hl (by omega)
    · split
      · exact g_call hx h1 ht hn hl
      · next o ho =>
        have h0 : ¬ tx a = 0 := fun e => by rw [e, opO_0] at ho; cases ho
        split
        · exact g_call hx h1 ht hn hl
        · exact g_op hx h1 ht hn (hx.lt h0)
theorem g_ex (hx : txOK X len tx) : ∀ f d, GE len (pEx tx f d)
  | 0, d, a, t, ht, hn, hl => ⟨ht, Nat.le_refl _, hl⟩
  | f + 1, d, a, t, ht, hn, hl => by
    have h96 := hx.1
    unfold pEx
    split
    · next h =>
      have h1 := hx.lt (a := a) (by omega)
      split
      · exact g_bra hx (g_ex hx f (d + 1)) (g_ex hx f (d + 2)) (g_ex hx f (d + 3)) ht (by omega) (by omega)
      · exact ⟨ht, Nat.le_refl _, hl⟩
    · split
      · next h2 =>
        have h1 := hx.lt (a := a) (by omega)
        have hg := g_dat hx 11 d (a + 1) _ (tOK_add (k := 4) (v := 0) (p := nI a) ht (by omega)) (by rw [tn_add]; omega) (by omega)
        rw [tn_add] at hg
        generalize pDat tx 11 d (a + 1) (tAdd t 4 0 (nI a)) = r at hg
        rcases r with ⟨c, a2, t2⟩ | ⟨a2, t2⟩
        · obtain ⟨rfl, g1, g2, g3, g4⟩ := hg
          exact ⟨rfl, tOK_part g1 (by omega), by rw [tn_part]; omega, by rw [tn_part]; exact g3, g4⟩
        · obtain ⟨g1, g2, g3⟩ := hg
          exact ⟨g1, by omega, g3⟩
      · exact g_atom hx a t ht hn hl
end RD
