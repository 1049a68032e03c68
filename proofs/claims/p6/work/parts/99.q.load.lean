def OC (z : Nat) (s : cD_) : Prop := okA z (cH_ (dC s)) ∧ okA z (cT_ (dC s))
def OGo (z : Nat) (go : Option Nat → cD_ → cD_) : Prop := ∀ o s, OC z s → OC z (go o s)
section OCS
variable {z : Nat} {t : tS} {s : cD_} {go : Option Nat → cD_ → cD_}
theorem oc_Ap {H T : Nat → Vl} {n : Nat} {l : Option Nat} {b : Bool} {v : Vl} (hv : okV z v) (h : okA z H ∧ okA z T) : okA z (cAp z (H, T, n, l, b) v).1 ∧ okA z (cAp z (H, T, n, l, b) v).2.1 := by
  unfold cAp
  split
  · next hn =>
    have hn : n < z := hn
    have h1 := okA_upd (k := n) h.1 hv
    have h2 := okA_upd (k := n) (x := vNil) h.2 trivial
    show okA z (cLk z (upW H n v) (upW T n vNil) l b (vPr n)).1 ∧ okA z (cLk z (upW H n v) (upW T n vNil) l b (vPr n)).2
    unfold cLk
    split
    · exact ⟨h1, h2⟩
    · split
      · split
        · exact ⟨okA_upd h1 hn, h2⟩
        · exact ⟨h1, okA_upd h2 hn⟩
      · exact ⟨h1, h2⟩
  · exact h
theorem oc_A {v : Vl} (hv : okV z v) (h : OC z s) : OC z (dA z s v) := oc_Ap (n := cn (dC s)) (l := cl (dC s)) (b := ci (dC s)) hv h
theorem oc_I {x : Int32} (h : OC z s) : OC z (dI z s x) := oc_A (v := vInt x) trivial h
theorem oc_B (h : OC z s) : OC z (dB z s) := oc_Ap (n := cn (dC s)) (l := cl (dC s)) (b := ci (dC s)) (v := vNil) trivial h
theorem oc_E {p : Nat} (h : OC z s) : OC z (dE s p) := h
theorem oc_Lv (h : OC z s) : OC z (dLv s) := h
theorem oc_En {o : Option Nat} (h : OC z s) : OC z (dEn s o) := by
  unfold dEn
  split <;> exact h
theorem oc_No {p : Int32} (h : OC z s) : OC z (dNo s p) := by
  unfold dNo
  split <;> exact h
theorem oc_Va {o : Option Nat} (h : OC z s) : OC z (dVa z t o s) := by
  unfold dVa
  refine oc_I (oc_I ?_)
  split
  · exact oc_No h
  · exact h
theorem oc_Row (hg : OGo z go) : ∀ (k : Nat) (o : Option Nat) (s : cD_), OC z s → OC z (dRow t go k o s)
  | 0, o, s, h => h
  | k + 1, none, s, h => h
  | k + 1, some i, s, h => oc_Row hg k _ _ (hg _ _ h)
theorem sym_ok (ht : tOK t) {o : Option Nat} (hk : tEi t (tK t) o = 2) : okV z (vSym (tEi t (tV t) o)) := by
  cases o with
  | none => exact absurd hk (show ¬ (-1 : Int32) = 2 by decide)
  | some i =>
    unfold tEi at hk ⊢
    by_cases hi : i < tn t
    · simp only [hi, if_true] at hk ⊢
      exact ht.2.2.1.2 i hi hk
    · simp only [hi, if_false] at hk
      exact absurd hk (by decide)
theorem oc_Da (ht : tOK t) : ∀ f d, OGo z (dDa z t f d)
  | 0, d, o, s, h => h
  | f + 1, d, o, s, h => by
    unfold dDa
    split
    · exact h
    · split
      · exact oc_A trivial h
      · split
        · next hk => exact oc_A (sym_ok ht hk) h
        · exact oc_E (oc_Row (oc_Da ht f (d + 1)) 96 _ _ (oc_B h))
theorem oc_Li (hg : OGo z go) {o : Option Nat} {x : Int32} (h : OC z s) : OC z (dLi z go o x s) := oc_E (oc_I (hg _ _ (oc_B h)))
theorem oc_Op (hg : OGo z go) {o : Option Nat} {w : Int32} {n : Nat} : ∀ (j i : Nat) (s : cD_), OC z s → OC z (dOp t go o w n j i s)
  | 0, i, s, h => h
  | j + 1, i, s, h => oc_Op hg j (i + 1) _ (hg _ _ h)
theorem oc_Bo (hg : OGo z go) {o fl : Option Nat} (h : OC z s) : OC z (dBo z go o fl s) := oc_Lv (oc_Li hg (oc_En (oc_I h)))
theorem oc_BA (h : OC z s) : OC z (dBA z s) := oc_A (v := vNil) trivial (oc_I h)
theorem oc_As (hg : OGo z go) {pick : Nat → Option Nat} : ∀ (k : Nat) (s : cD_), OC z s → OC z (dAs z go pick k s)
  | 0, s, h => h
  | k + 1, s, h => oc_As hg k _ (oc_I (hg _ _ h))
theorem oc_Bs (hg : OGo z go) {o : Option Nat} (h : OC z s) : OC z (dBs z t go o s) := oc_As hg _ _ (oc_BA h)
end OCS
theorem oc_Ex {z : Nat} {t : tS} (ht : tOK t) : ∀ f d, OGo z (dEx z t f d)
  | 0, d, o, s, h => h
  | f + 1, d, o, s, h => by
    have hg := oc_Ex (z := z) ht f (d + 1)
    unfold dEx
    split
    · exact h
    · split
      · exact oc_Da ht 11 d o _ (oc_I h)
      · split
        · exact oc_Va h
        · split
          · exact oc_Da ht 11 d _ _ (oc_I h)
          · split
            · unfold dOn
              split
              · exact oc_Li hg (oc_Li hg (oc_I (hg _ _ h)))
              · exact oc_I (oc_Op hg _ _ _ h)
            · split
              · exact oc_Bo hg h
              · split
                · exact oc_I (oc_Bo hg (oc_Bs hg h))
                · split
                  · exact oc_I (oc_Bo hg (oc_Lv (oc_Bs hg (oc_En (oc_I h)))))
                  · split
                    · exact oc_I (hg _ _ (oc_As hg _ _ (oc_BA h)))
                    · exact h
def WC (z : Nat) (err : Int32) (t : tS) (X : Nat → Int32) (len a : Nat) (s : cD_) (S E C D : Vl) (mode colls taken steps : Int32) (H T : Nat → Vl) (fr : Nat → Nat) (g : gS) (f c : Nat) (k : Int32) (n : Nat) (fb : Nat → Nat) (R : Nat → Vl) (tl : List mj_O) : List mj_O :=
  cdW (oF 0 [.int (nI z), .ref 8, .ref 10, .ref 11, .ref 14, .ref 16, .int err]) t X len a z s (oF 6 [.ref 17, .ref 23, .long (encV S), .long (encV E), .long (encV C), .long (encV D), .int mode, .int colls, .int taken, .int steps] ::
    oF 7 [.int (nI z), .ref 18, .ref 19, .ref 20, .ref 21, .ref 22, .int (nI f), .int (nI g.2.2), .int (nI c)] :: oJ z (eH H) :: oJ z (eH T) :: oI z (eN fr) :: oZ z (eB g.1) :: oI z (eN g.2.1) ::
    oF 8 [.ref 17, .ref 24, .ref 26, .int k] :: .inr (.inr (.inl (n, fb))) :: .inr (.inr (.inr ())) :: oJ 120 (eH R) :: tl)
section P2o
variable {m b0 b1 : Nat} {op : Bool} {tl : List mj_O} {Q : mj_R → Prop} {xs : List Int32}
variable {z : Nat} {err : Int32} {t : tS} {X : Nat → Int32} {len a : Nat} {s : cD_} {S E C D : Vl} {mode colls taken steps : Int32} {H T : Nat → Vl} {fr : Nat → Nat} {g : gS} {f c : Nat} {k : Int32} {n : Nat} {fb : Nat → Nat} {R : Nat → Vl}
set_option maxRecDepth 10000
theorem e_cells {o0 : mj_O} (hQ : Q (.inl (some (.int (nI (cn (dC s))))), (cdW o0 t X len a z s tl, b0, b1, op))) : mj_Mt gT (law_cst xs) gnw (m + 1) y_Code_cells [.ref 11] (cdW o0 t X len a z s tl, b0, b1, op) Q := by
  intro J hJ
  refine hJ _ _ _ _ ?_
  exact hQ
theorem e_head {o0 : mj_O} {i : Nat} (hz : z ≤ 250) (hi : i < z) (hQ : Q (.inl (some (.long (encV (cH_ (dC s) i)))), (cdW o0 t X len a z s tl, b0, b1, op))) : mj_Mt gT (law_cst xs) gnw (m + 1) y_Code_head [.ref 11, .int (nI i)] (cdW o0 t X len a z s tl, b0, b1, op) Q := by
  intro J hJ
  refine hJ _ _ _ _ ?_
  refine And.intro (fun q => absurd q (nI_pos (by omega))) (fun _ => ?_)
  refine And.intro (fun q => absurd q (nI_ge (a := i) (b := z) hi (by omega))) (fun _ => ?_)
  refine And.intro (vp_in_nI hi (by omega)) ?_
  have key : ∀ j, j = i → Q (.inl (some (.long (eH (cH_ (dC s)) j))), (cdW o0 t X len a z s tl, b0, b1, op)) := by
    rintro j rfl
    exact hQ
  exact key _ (nI_clamp (by omega))
theorem e_tail {o0 : mj_O} {i : Nat} (hz : z ≤ 250) (hi : i < z) (hQ : Q (.inl (some (.long (encV (cT_ (dC s) i)))), (cdW o0 t X len a z s tl, b0, b1, op))) : mj_Mt gT (law_cst xs) gnw (m + 1) y_Code_tail [.ref 11, .int (nI i)] (cdW o0 t X len a z s tl, b0, b1, op) Q := by
  intro J hJ
  refine hJ _ _ _ _ ?_
  refine And.intro (fun q => absurd q (nI_pos (by omega))) (fun _ => ?_)
  refine And.intro (fun q => absurd q (nI_ge (a := i) (b := z) hi (by omega))) (fun _ => ?_)
  refine And.intro (vp_in_nI hi (by omega)) ?_
  have key : ∀ j, j = i → Q (.inl (some (.long (eH (cT_ (dC s)) j))), (cdW o0 t X len a z s tl, b0, b1, op)) := by
    rintro j rfl
    exact hQ
  exact key _ (nI_clamp (by omega))
def cpV (A B : Nat → Vl) (k : Nat) : Nat → Vl := fun i => if i < k then A i else B i
theorem cpV_s (A B : Nat → Vl) (k : Nat) : upW (cpV A B k) k (A k) = cpV A B (k + 1) := by
  funext i
  unfold upW cpV
  by_cases h : i = k
  · rw [if_pos h, if_pos (by omega), h]
  · rw [if_neg h]
    by_cases h2 : i < k
    · rw [if_pos h2, if_pos (by omega)]
    · rw [if_neg h2, if_neg (by omega)]
theorem cpV_0 (A B : Nat → Vl) : cpV A B 0 = B := by
  funext i
  exact if_neg (Nat.not_lt_zero i)
theorem s_load (hz : z ≤ 250) (hc : cn (dC s) ≤ z) (hQ : Q (.inl none, (WC z err t X len a s S E C D mode colls taken steps (cpV (cH_ (dC s)) H (cn (dC s))) (cpV (cT_ (dC s)) T (cn (dC s))) (faN (z - cn (dC s)) (cn (dC s)) (fr, 0)).1 g (faN (z - cn (dC s)) (cn (dC s)) (fr, 0)).2 (cn (dC s)) k n fb R tl, b0, b1, op))) : mj_Mt gT (law_cst xs) gnw (m + 2) y_Store_load [.ref 17, .ref 11] (WC z err t X len a s S E C D mode colls taken steps H T fr g f c k n fb R tl, b0, b1, op) Q := by
  intro J hJ
  refine hJ _ _ _ _ ?_
  refine e_cells ?_
  have em : (if nI z < nI (cn (dC s)) then nI z else nI (cn (dC s))) = nI (cn (dC s)) := if_neg (nI_nlt hc (by omega))
  have loop : ∀ (j i : Nat) (x : Int32), j + i = cn (dC s) → x = nI i → J 9 [some (.ref 17), some (.ref 11), some (.int x)] [] (WC z err t X len a s S E C D mode colls taken steps (cpV (cH_ (dC s)) H i) (cpV (cT_ (dC s)) T i) fr g f (cn (dC s)) k n fb R tl, b0, b1, op) := by
    intro j
    induction j with
    | zero =>
      intro i x hi hx
      subst hx
      obtain rfl : i = cn (dC s) := by omega
      refine hJ _ _ _ _ ?_
      refine And.intro (fun _ => ?_) (fun q => absurd (nI_le (Nat.le_refl _) (by omega)) q)
      refine s_freeAllButCode hz hc ?_
      exact hQ
    | succ j ih =>
      intro i x hi hx
      subst hx
      have ec : (nI i).toNatClampNeg = i := nI_clamp (by omega)
      refine hJ _ _ _ _ ?_
      refine And.intro (fun q => absurd q (nI_ge (a := i) (b := cn (dC s)) (by omega) (by omega))) (fun _ => ?_)
      refine e_head hz (by omega) ?_
      refine And.intro (vp_in_nI (by omega) (by omega)) ?_
      refine e_tail hz (by omega) ?_
      refine And.intro (vp_in_nI (by omega) (by omega)) ?_
      have h9 := ih (i + 1) (nI (i + 1)) (by omega) rfl
      rw [← cpV_s, ← cpV_s] at h9
      have key : ∀ (j2 : Nat) (x : Int32), j2 = i → x = nI (i + 1) → J 9 [some (.ref 17), some (.ref 11), some (.int x)] [] (cdW (oF 0 [.int (nI z), .ref 8, .ref 10, .ref 11, .ref 14, .ref 16, .int err]) t X len a z s (oF 6 [.ref 17, .ref 23, .long (encV S), .long (encV E), .long (encV C), .long (encV D), .int mode, .int colls, .int taken, .int steps] ::
    oF 7 [.int (nI z), .ref 18, .ref 19, .ref 20, .ref 21, .ref 22, .int (nI f), .int (nI g.2.2), .int (nI (cn (dC s)))] :: oJ z (vp_updL (eH (cpV (cH_ (dC s)) H i)) j2 (encV (cH_ (dC s) i))) :: oJ z (vp_updL (eH (cpV (cT_ (dC s)) T i)) j2 (encV (cT_ (dC s) i))) :: oI z (eN fr) :: oZ z (eB g.1) :: oI z (eN g.2.1) ::
    oF 8 [.ref 17, .ref 24, .ref 26, .int k] :: .inr (.inr (.inl (n, fb))) :: .inr (.inr (.inr ())) :: oJ 120 (eH R) :: tl), b0, b1, op) := by
        rintro j2 x rfl rfl
        rw [updL_enc, updL_enc]
        exact h9
      exact key _ _ ec (nI_1 i)
  have h0 := loop (cn (dC s)) 0 (nI 0) rfl rfl
  rw [cpV_0, cpV_0] at h0
  have key : ∀ x : Int32, x = nI (cn (dC s)) → J 9 [some (.ref 17), some (.ref 11), some (.int 0)] [] (cdW (oF 0 [.int (nI z), .ref 8, .ref 10, .ref 11, .ref 14, .ref 16, .int err]) t X len a z s (oF 6 [.ref 17, .ref 23, .long (encV S), .long (encV E), .long (encV C), .long (encV D), .int mode, .int colls, .int taken, .int steps] ::
    oF 7 [.int (nI z), .ref 18, .ref 19, .ref 20, .ref 21, .ref 22, .int (nI f), .int (nI g.2.2), .int x] :: oJ z (eH H) :: oJ z (eH T) :: oI z (eN fr) :: oZ z (eB g.1) :: oI z (eN g.2.1) ::
    oF 8 [.ref 17, .ref 24, .ref 26, .int k] :: .inr (.inr (.inl (n, fb))) :: .inr (.inr (.inr ())) :: oJ 120 (eH R) :: tl), b0, b1, op) := by
    rintro x rfl
    exact h0
  exact key _ em
end P2o
