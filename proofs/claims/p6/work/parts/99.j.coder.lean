def sOK (s : cD_) : Prop := dK s ≤ 9 ∧ (∀ k, cl (dC s) = some k → k ≤ cn (dC s)) ∧ ∀ i j, dF s i = some j → j < 1000
def sM (s s' : cD_) : Prop := sOK s' ∧ cn (dC s) ≤ cn (dC s')
def oB (o : Option Nat) : Prop := ∀ i, o = some i → i < 1000
def SGo (go : Option Nat → cD_ → cD_) : Prop := ∀ o s, oB o → sOK s → sM s (go o s)
theorem sM.tr {a b c : cD_} (h1 : sM a b) (h2 : sM b c) : sM a c := ⟨h2.1, Nat.le_trans h1.2 h2.2⟩
theorem sM.rf {a : cD_} (h : sOK a) : sM a a := ⟨h, Nat.le_refl _⟩
theorem s_A {z : Nat} {s : cD_} {v : Vl} (h : sOK s) : sM s (dA z s v) := by
  obtain ⟨h1, h2⟩ := cAp_n z (dC s) v
  refine ⟨⟨h.1, fun k e => ?_, h.2.2⟩, ?_⟩
  · have e : cl (cAp z (dC s) v) = some k := e
    rw [h2] at e
    cases e
    show cn (dC s) ≤ cn (cAp z (dC s) v)
    omega
  · show cn (dC s) ≤ cn (cAp z (dC s) v)
    omega
theorem s_B {z : Nat} {s : cD_} (h : sOK s) : sM s (dB z s) ∧ cn (dC (dB z s)) = cn (dC s) + 1 := by
  obtain ⟨h1, h2⟩ := cAp_n z (dC s) vNil
  refine ⟨⟨⟨h.1, fun k e => ?_, h.2.2⟩, ?_⟩, h1⟩
  · have e : cl (cAp z (dC s) vNil) = some k := e
    rw [h2] at e
    cases e
    show cn (dC s) ≤ cn (cAp z (dC s) vNil)
    omega
  · show cn (dC s) ≤ cn (cAp z (dC s) vNil)
    omega
theorem s_E {s : cD_} {p : Nat} (h : sOK s) (hp : p ≤ cn (dC s)) : sM s (dE s p) := by
  refine ⟨⟨h.1, fun k e => ?_, h.2.2⟩, Nat.le_refl _⟩
  have e : some p = some k := e
  cases e
  exact hp
theorem s_En {s : cD_} {o : Option Nat} (ho : oB o) (h : sOK s) : sM s (dEn s o) := by
  unfold dEn
  split
  · next h9 =>
    refine ⟨⟨h9, h.2.1, fun i j e => ?_⟩, Nat.le_refl _⟩
    have e : (if i = dK s then o else dF s i) = some j := e
    split at e
    · exact ho j e
    · exact h.2.2 i j e
  · exact sM.rf h
theorem s_Lv {s : cD_} (h : sOK s) : sM s (dLv s) := ⟨⟨by show dK s - 1 ≤ 9; have := h.1; omega, h.2.1, h.2.2⟩, Nat.le_refl _⟩
theorem s_No {s : cD_} {p : Int32} (h : sOK s) : sM s (dNo s p) := by
  unfold dNo
  split
  · exact ⟨⟨h.1, h.2.1, h.2.2⟩, Nat.le_refl _⟩
  · exact sM.rf h
theorem s_Va {z : Nat} {t : tS} {o : Option Nat} {s : cD_} (h : sOK s) : sM s (dVa z t o s) := by
  unfold dVa dI
  split
  · exact (s_No h).tr ((s_A (s_No h).1).tr (s_A (s_A (s_No h).1).1))
  · exact (s_A h).tr (s_A (s_A h).1)
theorem s_Row {t : tS} {go : Option Nat → cD_ → cD_} (ht : tOK t) (hg : SGo go) : ∀ (k : Nat) (o : Option Nat) (s : cD_), oB o → sOK s → sM s (dRow t go k o s)
  | 0, o, s, ho, h => sM.rf h
  | k + 1, none, s, ho, h => sM.rf h
  | k + 1, some i, s, ho, h => (hg _ _ ho h).tr (s_Row ht hg k _ _ (tEn_lt ht.2.2.2 _) (hg _ _ ho h).1)
theorem s_Da {z : Nat} {t : tS} (ht : tOK t) : ∀ f d, SGo (dDa z t f d)
  | 0, d, o, s, ho, h => sM.rf h
  | f + 1, d, o, s, ho, h => by
    unfold dDa
    split
    · exact sM.rf h
    · split
      · exact s_A h
      · split
        · exact s_A h
        · obtain ⟨h1, h2⟩ := s_B (z := z) h
          have h3 := s_Row ht (s_Da (z := z) ht f (d + 1)) 96 (tEn t (tF t) o) (dB z s) (tEn_lt ht.2.1 _) h1.1
          exact (h1.tr h3).tr (s_E h3.1 (by have := h1.2; have := h3.2; omega))
section SG
variable {z : Nat} {t : tS} {go : Option Nat → cD_ → cD_}
theorem s_Li {o : Option Nat} {x : Int32} {s : cD_} (hg : SGo go) (ho : oB o) (h : sOK s) : sM s (dLi z go o x s) := by
  obtain ⟨h1, h2⟩ := s_B (z := z) h
  have h3 := hg _ _ ho h1.1
  have h4 := s_A (z := z) (v := vInt x) h3.1
  exact ((h1.tr h3).tr h4).tr (s_E h4.1 (by have := h1.2; have := h3.2; have := h4.2; omega))
theorem oB_pt (ht : tOK t) (k : Nat) (o : Option Nat) : oB (dPt t k o) := tPt_lt ht k _ (tEn_lt ht.2.1 o)
theorem s_Op (ht : tOK t) (hg : SGo go) {o : Option Nat} {w : Int32} {n : Nat} : ∀ (j i : Nat) (s : cD_), sOK s → sM s (dOp t go o w n j i s)
  | 0, i, s, h => sM.rf h
  | j + 1, i, s, h => (hg _ _ (oB_pt ht _ o) h).tr (s_Op ht hg j (i + 1) _ (hg _ _ (oB_pt ht _ o) h).1)
theorem s_Ch (ht : tOK t) (hg : SGo go) {o : Option Nat} {s : cD_} (h : sOK s) : sM s (dCh z t go o s) := by
  have h1 := hg _ _ (oB_pt ht 0 o) h
  have h2 := s_A (z := z) (v := vInt 8) h1.1
  have h3 := s_Li (z := z) (x := 9) hg (oB_pt ht 1 o) h2.1
  exact ((h1.tr h2).tr h3).tr (s_Li hg (oB_pt ht 2 o) h3.1)
theorem s_Bo (hg : SGo go) {o fl : Option Nat} {s : cD_} (ho : oB o) (hf : oB fl) (h : sOK s) : sM s (dBo z go o fl s) := by
  have h1 := s_A (z := z) (v := vInt 3) h
  have h2 := s_En hf h1.1
  have h3 := s_Li (z := z) (x := 5) hg ho h2.1
  exact ((h1.tr h2).tr h3).tr (s_Lv h3.1)
theorem s_As (hg : SGo go) {pick : Nat → Option Nat} (hp : ∀ k, oB (pick k)) : ∀ (k : Nat) (s : cD_), sOK s → sM s (dAs z go pick k s)
  | 0, s, h => sM.rf h
  | k + 1, s, h => by
    have h1 := hg _ _ (hp (k + 1)) h
    have h2 := s_A (z := z) (v := vInt 13) h1.1
    exact (h1.tr h2).tr (s_As hg hp k _ h2.1)
theorem s_BA {s : cD_} (h : sOK s) : sM s (dBA z s) := (s_A h).tr (s_A (s_A h).1)
theorem s_Ca (ht : tOK t) (hg : SGo go) {o : Option Nat} {s : cD_} (h : sOK s) : sM s (dCa z t go o s) := by
  have h1 := s_BA (z := z) h
  have h2 := s_As (z := z) hg (pick := fun k => dPt t k o) (fun k => oB_pt ht k o) (tCn t 96 (tEn t (tF t) o) - 1) _ h1.1
  have h3 := hg _ _ (oB_pt ht 0 o) h2.1
  exact ((h1.tr h2).tr h3).tr (s_A h3.1)
theorem s_Bs (ht : tOK t) (hg : SGo go) {o : Option Nat} {s : cD_} (h : sOK s) : sM s (dBs z t go o s) := by
  have h1 := s_BA (z := z) h
  exact h1.tr (s_As (z := z) hg (pick := fun k => tEn t (tF t) (dPt t k o)) (fun k => tEn_lt ht.2.1 _) (tCn t 96 (tEn t (tF t) o) - 1) _ h1.1)
theorem s_Bd (ht : tOK t) (hg : SGo go) {o : Option Nat} {s : cD_} (h : sOK s) : sM s (dBd z t go o s) := by
  have h1 := s_Bs (z := z) ht hg (o := o) h
  have h2 := s_Bo (z := z) hg (oB_pt ht 0 o) (oB_pt ht 1 o) h1.1
  exact (h1.tr h2).tr (s_A h2.1)
theorem s_Bf (ht : tOK t) (hg : SGo go) {o : Option Nat} {s : cD_} (h : sOK s) : sM s (dBf z t go o s) := by
  have h1 := s_A (z := z) (v := vInt 6) h
  have h2 := s_En (oB_pt ht 1 o) h1.1
  have h3 := s_Bs (z := z) ht hg (o := o) h2.1
  have h4 := s_Lv h3.1
  have h5 := s_Bo (z := z) hg (oB_pt ht 0 o) (oB_pt ht 1 o) h4.1
  exact ((((h1.tr h2).tr h3).tr h4).tr h5).tr (s_A h5.1)
theorem s_On (ht : tOK t) (hg : SGo go) {o : Option Nat} {s : cD_} (h : sOK s) : sM s (dOn z t go o s) := by
  unfold dOn
  split
  · exact s_Ch ht hg h
  · have h1 := s_Op ht hg (o := o) (w := tEi t (tV t) o) (n := tCn t 96 (tEn t (tF t) o)) (tCn t 96 (tEn t (tF t) o)) 0 s h
    exact h1.tr (s_A h1.1)
end SG
theorem s_Ex {z : Nat} {t : tS} (ht : tOK t) : ∀ f d, SGo (dEx z t f d)
  | 0, d, o, s, ho, h => sM.rf h
  | f + 1, d, o, s, ho, h => by
    have hg := s_Ex (z := z) ht f (d + 1)
    unfold dEx
    split
    · exact sM.rf h
    · split
      · exact (s_A h).tr (s_Da ht 11 d o _ ho (s_A h).1)
      · split
        · exact s_Va h
        · split
          · exact (s_A h).tr (s_Da ht 11 d _ _ (tEn_lt ht.2.1 _) (s_A h).1)
          · split
            · exact s_On ht hg h
            · split
              · exact s_Bo hg (oB_pt ht 1 o) (tEn_lt ht.2.1 _) h
              · split
                · exact s_Bd ht hg h
                · split
                  · exact s_Bf ht hg h
                  · split
                    · exact s_Ca ht hg h
                    · exact sM.rf h
