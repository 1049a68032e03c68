def wr (t : tS) : PR → Prop
  | .inl (nd, _, t') => nd = tn t ∧ WS t' (tn t) (tn t') ∧ tn t < tn t' ∧ tN t' (tn t) = none ∧ agT (tn t) t t'
  | .inr _ => True
def WE (pe : Nat → tS → PR) : Prop := ∀ a t, wr t (pe a t)
section WT
variable {tx : Nat → Nat}
def Opd (t0 t : tS) (n : Nat) : Prop := n = tn t0 ∧ (∃ cs, Opn t n cs) ∧ tN t n = none ∧ agT n t0 t
def wu (t0 : tS) (n : Nat) : PU → Prop
  | .inl (_, t2) => Opd t0 t2 n
  | .inr _ => True
theorem opd_new {t : tS} {k v p : Int32} : Opd t (tAdd t k v p) (tn t) := ⟨rfl, ⟨[], add_new.1⟩, add_new.2, agT_add⟩
theorem opd_part {t0 t t2 : tS} {n c a2 : Nat} (h : Opd t0 t n) (hw : wr t (.inl (c, a2, t2))) : Opd t0 (tPart t2 n c) n ∧ c = tn t := by
  obtain ⟨h1, ⟨cs, h2⟩, h3, h4⟩ := h
  obtain ⟨rfl, w1, w2, w3, w4⟩ := hw
  obtain ⟨g1, g2, g3⟩ := op_part h2 w4 w1 w2 w3
  exact ⟨⟨h1, ⟨_, g1⟩, g3.trans h3, h4.tr g2⟩, rfl⟩
theorem opd_done {t0 t : tS} {n a : Nat} (h : Opd t0 t n) : wr t0 (.inl (n, a, t)) := by
  obtain ⟨rfl, ⟨cs, h2⟩, h3, h4⟩ := h
  exact ⟨rfl, op_ws h2, h2.1, h3, h4⟩
theorem w_close {t0 t : tS} {n a : Nat} (h : Opd t0 t n) : wr t0 (pClose tx n a t) := by
  unfold pClose
  split
  · exact opd_done h
  · exact trivial
theorem w_more {pe : Nat → tS → PR} (hp : WE pe) {t0 : tS} {n : Nat} : ∀ (k a : Nat) (t : tS), Opd t0 t n → wr t0 (pMore tx pe n k a t)
  | 0, a, t, h => w_close h
  | k + 1, a, t, h => by
    unfold pMore
    split
    · have hw := hp (a + 1) t
      generalize pe (a + 1) t = r at hw
      rcases r with ⟨c, a2, t2⟩ | e
      · exact w_more hp k a2 _ (opd_part h hw).1
      · exact trivial
    · exact w_close h
theorem w_args {pe : Nat → tS → PR} (hp : WE pe) {t0 : tS} {n : Nat} : ∀ (k a : Nat) (t : tS), Opd t0 t n → wr t0 (pArgs tx pe n k a t)
  | 0, a, t, h => w_close h
  | k + 1, a, t, h => by
    unfold pArgs
    split
    · have hw := hp (a + 1) t
      generalize pe (a + 1) t = r at hw
      rcases r with ⟨c, a2, t2⟩ | e
      · exact w_args hp k a2 _ (opd_part h hw).1
      · exact trivial
    · exact trivial
theorem w_atom : WE (pAtom tx) := by
  intro a t
  unfold pAtom
  split
  · exact opd_done opd_new
  · unfold pNum
    split
    · exact opd_done opd_new
    · exact trivial
theorem w_dat : ∀ f d, WE (pDat tx f d)
  | 0, d, a, t => trivial
  | f + 1, d, a, t => by
    unfold pDat
    split
    · split
      · exact trivial
      · split
        · exact opd_done opd_new
        · have hw := w_dat f (d + 1) (a + 1) (tAdd t 3 0 (nI a))
          generalize pDat tx f (d + 1) (a + 1) (tAdd t 3 0 (nI a)) = r at hw
          rcases r with ⟨c, a2, t2⟩ | e
          · exact w_more (w_dat f (d + 1)) 95 a2 _ (opd_part opd_new hw).1
          · exact trivial
    · exact w_atom a t
theorem w_let {t0 t : tS} {p a : Nat} (h : Opd t0 t p) : wu t0 p (pLet tx p a t) := by
  unfold pLet
  split
  · have := opd_part (c := tn t) (a2 := 0) (t2 := tAdd t 2 (nI (tx a)) (nI a)) h (opd_done opd_new)
    exact this.1
  · exact trivial
theorem w_ls {t0 : tS} {p : Nat} : ∀ (k a : Nat) (t : tS), Opd t0 t p → wr t0 (pLs tx p k a t)
  | 0, a, t, h => w_close h
  | k + 1, a, t, h => by
    unfold pLs
    split
    · have hw := w_let (tx := tx) (a := a + 1) h
      generalize pLet tx p (a + 1) t = r at hw
      rcases r with ⟨a2, t2⟩ | e
      · exact w_ls k a2 t2 hw
      · exact trivial
    · exact w_close h
theorem w_par {d : Nat} : WE (pPar tx d) := by
  intro a t
  unfold pPar
  split
  · split
    · exact opd_done opd_new
    · have hw := w_let (tx := tx) (a := a + 1) (opd_new (t := t) (k := 7) (v := 0) (p := nI a))
      generalize pLet tx (tn t) (a + 1) (tAdd t 7 0 (nI a)) = r at hw
      rcases r with ⟨a2, t2⟩ | e
      · exact w_ls 2 a2 t2 hw
      · exact trivial
  · exact trivial
theorem w_fun {pe : Nat → tS → PR} (hp : WE pe) {d : Nat} : WE (pFun tx pe d) := by
  intro a t
  unfold pFun
  split
  · split
    · have hw := w_par (tx := tx) (d := d) (a + 1 + 1) (tAdd t 6 0 (nI a))
      generalize pPar tx d (a + 1 + 1) (tAdd t 6 0 (nI a)) = r at hw
      rcases r with ⟨c, a2, t2⟩ | e
      · have h1 := (opd_part opd_new hw).1
        show wr t (if tx a2 = 32 then _ else _)
        split
        · have hw2 := hp (a2 + 1) (tPart t2 (tn t) c)
          generalize pe (a2 + 1) (tPart t2 (tn t) c) = r2 at hw2
          rcases r2 with ⟨c2, a4, t4⟩ | e
          · exact w_close (opd_part h1 hw2).1
          · exact trivial
        · exact trivial
      · exact trivial
    · exact trivial
  · exact trivial
theorem w_bv {pe pf : Nat → tS → PR} (hp : WE pe) (hf : WE pf) {d n : Nat} : WE (pBv tx pe pf d n) := by
  intro a t
  unfold pBv
  split
  · split
    · exact hf _ _
    · exact trivial
  · exact hp _ _
theorem w_bind {pe pf : Nat → tS → PR} (hp : WE pe) (hf : WE pf) {t0 t : tS} {d n a : Nat} (h : Opd t0 t n) : wu t0 n (pBind tx pe pf d n a t) := by
  unfold pBind
  split
  · split
    · split
      · have hw := w_bv (tx := tx) hp hf (d := d) (n := n) (a + 1 + 1 + 1) (tAdd t 10 (nI (tx (a + 1))) (nI (a + 1)))
        generalize pBv tx pe pf d n (a + 1 + 1 + 1) (tAdd t 10 (nI (tx (a + 1))) (nI (a + 1))) = r at hw
        rcases r with ⟨c, a2, t2⟩ | e
        · have h1 := (opd_part opd_new hw).1
          have h2 := (opd_part (a2 := 0) h (opd_done h1)).1
          show wu t0 n (if tx a2 = 41 then _ else _)
          split
          · exact h2
          · exact trivial
        · exact trivial
      · exact trivial
    · exact trivial
  · exact trivial
theorem w_bs {pb : Nat → tS → PU} {t0 : tS} {n : Nat} (hp : ∀ a t, Opd t0 t n → wu t0 n (pb a t)) : ∀ (k a : Nat) (t : tS), Opd t0 t n → wr t0 (pBs tx pb n k a t)
  | 0, a, t, h => w_close h
  | k + 1, a, t, h => by
    unfold pBs
    split
    · have hw := hp (a + 1) t h
      generalize pb (a + 1) t = r at hw
      rcases r with ⟨a2, t2⟩ | e
      · exact w_bs hp k a2 t2 hw
      · exact trivial
    · exact w_close h
theorem w_bou {pe pe2 pf : Nat → tS → PR} (hp : WE pe) (hp2 : WE pe2) (hf : WE pf) {kd : Int32} {d : Nat} : WE (pBou tx pe (pBind tx pe2 pf d) kd) := by
  intro a t
  unfold pBou
  split
  · have hw := hp (a + 1 + 1) (tAdd t kd 0 (nI a))
    generalize pe (a + 1 + 1) (tAdd t kd 0 (nI a)) = r at hw
    rcases r with ⟨c, a2, t2⟩ | e
    · have h1 := (opd_part opd_new hw).1
      show wr t (if tx a2 = 32 then _ else _)
      split
      · have hw2 := w_bind (tx := tx) hp2 hf (d := d) (a := a2 + 1) h1
        generalize pBind tx pe2 pf d (tn t) (a2 + 1) (tPart t2 (tn t) c) = r2 at hw2
        rcases r2 with ⟨a4, t4⟩ | e
        · exact w_bs (fun a t h => w_bind hp2 hf h) 2 a4 t4 hw2
        · exact trivial
      · exact trivial
    · exact trivial
  · exact trivial
theorem w_call {pe : Nat → tS → PR} (hp : WE pe) : WE (pCall tx pe) := by
  intro a t
  have hw := hp a (tAdd t 11 0 (nI a))
  unfold pCall
  generalize pe a (tAdd t 11 0 (nI a)) = r at hw
  rcases r with ⟨c, a2, t2⟩ | e
  · exact w_more hp 3 a2 _ (opd_part opd_new hw).1
  · exact trivial
theorem w_ex : ∀ f d, WE (pEx tx f d)
  | 0, d, a, t => trivial
  | f + 1, d, a, t => by
    unfold pEx
    split
    · split
      · unfold pBra
        split
        · exact w_fun (w_ex f (d + 1)) _ _
        · split
          · exact w_bou (w_ex f (d + 1)) (w_ex f (d + 2)) (w_fun (w_ex f (d + 3))) _ _
          · split
            · exact w_call (w_ex f (d + 1)) _ _
            · split
              · exact w_call (w_ex f (d + 1)) _ _
              · exact w_args (w_ex f (d + 1)) _ _ _ opd_new
      · exact trivial
    · split
      · have hw := w_dat (tx := tx) 11 d (a + 1) (tAdd t 4 0 (nI a))
        generalize pDat tx 11 d (a + 1) (tAdd t 4 0 (nI a)) = r at hw
        rcases r with ⟨c, a2, t2⟩ | e
        · exact opd_done (opd_part opd_new hw).1
        · exact trivial
      · exact w_atom a t
end WT
