abbrev cC : Type := (Nat → Vl) × (Nat → Vl) × Nat × Option Nat × Bool
abbrev cH_ (s : cC) : Nat → Vl := s.1
abbrev cT_ (s : cC) : Nat → Vl := s.2.1
abbrev cn (s : cC) : Nat := s.2.2.1
abbrev cl (s : cC) : Option Nat := s.2.2.2.1
abbrev ci (s : cC) : Bool := s.2.2.2.2
def cLk (z : Nat) (H T : Nat → Vl) (l : Option Nat) (b : Bool) (p : Vl) : (Nat → Vl) × (Nat → Vl) := match l with
  | none => (H, T)
  | some k => if k < z then (if b then (upW H k p, T) else (H, upW T k p)) else (H, T)
def cAp (z : Nat) (s : cC) (v : Vl) : cC :=
  if cn s < z then ((cLk z (upW (cH_ s) (cn s) v) (upW (cT_ s) (cn s) vNil) (cl s) (ci s) (vPr (cn s))).1, (cLk z (upW (cH_ s) (cn s) v) (upW (cT_ s) (cn s) vNil) (cl s) (ci s) (vPr (cn s))).2, cn s + 1, some (cn s), false)
  else (cH_ s, cT_ s, cn s + 1, some (cn s), false)
def cIn (z : Nat) (s : cC) (x : Int32) : cC := cAp z s (vInt x)
def cBg (z : Nat) (s : cC) : cC := ((cAp z s vNil).1, (cAp z s vNil).2.1, (cAp z s vNil).2.2.1, (cAp z s vNil).2.2.2.1, true)
def cEd (s : cC) (p : Nat) : cC := (cH_ s, cT_ s, cn s, some p, false)
theorem cAp_n (z : Nat) (s : cC) (v : Vl) : cn (cAp z s v) = cn s + 1 ∧ cl (cAp z s v) = some (cn s) := by
  unfold cAp
  split <;> exact ⟨rfl, rfl⟩
abbrev cD_ : Type := cC × (Nat → Option Nat) × Nat × Int32
abbrev dC (s : cD_) : cC := s.1
abbrev dF (s : cD_) : Nat → Option Nat := s.2.1
abbrev dK (s : cD_) : Nat := s.2.2.1
abbrev dU (s : cD_) : Int32 := s.2.2.2
def dA (z : Nat) (s : cD_) (v : Vl) : cD_ := (cAp z (dC s) v, dF s, dK s, dU s)
def dI (z : Nat) (s : cD_) (x : Int32) : cD_ := dA z s (vInt x)
def dB (z : Nat) (s : cD_) : cD_ := (cBg z (dC s), dF s, dK s, dU s)
def dE (s : cD_) (p : Nat) : cD_ := (cEd (dC s) p, dF s, dK s, dU s)
def dEn (s : cD_) (o : Option Nat) : cD_ := if dK s < 9 then (dC s, upW (dF s) (dK s) o, dK s + 1, dU s) else s
def dLv (s : cD_) : cD_ := (dC s, dF s, dK s - 1, dU s)
def dPl (t : tS) (F : Nat → Option Nat) (c : Int32) (kn : Nat) : Nat → Nat → Int32
  | 0, _ => -1
  | j + 1, i => match tPl t c 96 (F (kn - 1 - i)) with
    | some p => nI (16 * i + p)
    | none => dPl t F c kn j (i + 1)
def dNo (s : cD_) (p : Int32) : cD_ := if dU s = -1 ∨ p < dU s then (dC s, dF s, dK s, p) else s
def dVa (z : Nat) (t : tS) (o : Option Nat) (s : cD_) : cD_ :=
  dI z (dI z (if dPl t (dF s) (tEi t (tV t) o) (dK s) (dK s) 0 = -1 then dNo s (tEi t (tP t) o) else s) 2) (dPl t (dF s) (tEi t (tV t) o) (dK s) (dK s) 0)
def dRow (t : tS) (go : Option Nat → cD_ → cD_) : Nat → Option Nat → cD_ → cD_
  | 0, _, s => s
  | _ + 1, none, s => s
  | k + 1, some i, s => dRow t go k (tEn t (tN t) (some i)) (go (some i) s)
def dDa (z : Nat) (t : tS) : Nat → Nat → Option Nat → cD_ → cD_
  | 0, _, _, s => s
  | f + 1, d, o, s => if 9 < d then s else
      if tEi t (tK t) o = 1 then dA z s (vInt (tEi t (tV t) o))
      else if tEi t (tK t) o = 2 then dA z s (vSym (tEi t (tV t) o))
      else dE (dRow t (dDa z t f (d + 1)) 96 (tEn t (tF t) o) (dB z s)) (cn (dC s))
section DG
variable (z : Nat) (t : tS) (go : Option Nat → cD_ → cD_)
def dLi (o : Option Nat) (x : Int32) (s : cD_) : cD_ := dE (dI z (go o (dB z s)) x) (cn (dC s))
def dPt (k : Nat) (o : Option Nat) : Option Nat := tPt t k (tEn t (tF t) o)
def dOp (o : Option Nat) (w : Int32) (n : Nat) : Nat → Nat → cD_ → cD_
  | 0, _, s => s
  | j + 1, i, s => dOp o w n j (i + 1) (go (dPt t (if w = 13 then n - 1 - i else i) o) s)
def dCh (o : Option Nat) (s : cD_) : cD_ := dLi z go (dPt t 2 o) 9 (dLi z go (dPt t 1 o) 9 (dI z (go (dPt t 0 o) s) 8))
def dBo (o fl : Option Nat) (s : cD_) : cD_ := dLv (dLi z go o 5 (dEn (dI z s 3) fl))
def dAr (o : Option Nat) (s : cD_) : cD_ := dI z (go o s) 13
def dBA (s : cD_) : cD_ := dA z (dI z s 1) vNil
def dAs (pick : Nat → Option Nat) : Nat → cD_ → cD_
  | 0, s => s
  | k + 1, s => dAs pick k (dAr z go (pick (k + 1)) s)
def dCa (o : Option Nat) (s : cD_) : cD_ := dI z (go (dPt t 0 o) (dAs z go (fun k => dPt t k o) (tCn t 96 (tEn t (tF t) o) - 1) (dBA z s))) 4
def dBs (o : Option Nat) (s : cD_) : cD_ := dAs z go (fun k => tEn t (tF t) (dPt t k o)) (tCn t 96 (tEn t (tF t) o) - 1) (dBA z s)
def dBd (o : Option Nat) (s : cD_) : cD_ := dI z (dBo z go (dPt t 0 o) (dPt t 1 o) (dBs z t go o s)) 4
def dBf (o : Option Nat) (s : cD_) : cD_ := dI z (dBo z go (dPt t 0 o) (dPt t 1 o) (dLv (dBs z t go o (dEn (dI z s 6) (dPt t 1 o))))) 7
def dOn (o : Option Nat) (s : cD_) : cD_ := if tEi t (tV t) o = 8 then dCh z t go o s else dI z (dOp t go o (tEi t (tV t) o) (tCn t 96 (tEn t (tF t) o)) (tCn t 96 (tEn t (tF t) o)) 0 s) (tEi t (tV t) o)
end DG
def dEx (z : Nat) (t : tS) : Nat → Nat → Option Nat → cD_ → cD_
  | 0, _, _, s => s
  | f + 1, d, o, s => if 9 < d then s else
      if tEi t (tK t) o = 1 then dDa z t 11 d o (dI z s 1)
      else if tEi t (tK t) o = 2 then dVa z t o s
      else if tEi t (tK t) o = 4 then dDa z t 11 d (tEn t (tF t) o) (dI z s 1)
      else if tEi t (tK t) o = 5 then dOn z t (dEx z t f (d + 1)) o s
      else if tEi t (tK t) o = 6 then dBo z (dEx z t f (d + 1)) (dPt t 1 o) (tEn t (tF t) (dPt t 0 o)) s
      else if tEi t (tK t) o = 8 then dBd z t (dEx z t f (d + 1)) o s
      else if tEi t (tK t) o = 9 then dBf z t (dEx z t f (d + 1)) o s
      else if tEi t (tK t) o = 11 then dCa z t (dEx z t f (d + 1)) o s
      else s
def cdW (o0 : mj_O) (t : tS) (X : Nat → Int32) (len a : Nat) (z : Nat) (s : cD_) (tl : List mj_O) : List mj_O :=
  rdW o0 t X len a (oF 4 [.ref 12, .ref 13, .int (nI (cn (dC s))), .int (oV (cl (dC s))), .int (bI (ci (dC s)))] :: oJ z (eH (cH_ (dC s))) :: oJ z (eH (cT_ (dC s))) :: oF 5 [.ref 1, .ref 11, .ref 15, .int (nI (dK s)), .int (dU s)] :: oI 9 (eO (dF s)) :: tl)
section P2k
variable {m b0 b1 : Nat} {op : Bool} {tl : List mj_O} {Q : mj_R → Prop} {xs : List Int32}
variable {o0 : mj_O} {t : tS} {X : Nat → Int32} {len a z : Nat} {s : cD_}
set_option maxRecDepth 10000
theorem e_link {H T : Nat → Vl} {n : Nat} {l : Option Nat} {b : Bool} {p : Vl} {F : Nat → Option Nat} {K : Nat} {U : Int32} (hz : z ≤ 250) (hl : ∀ k, l = some k → k < 2 ^ 31) (hQ : Q (.inl none, (cdW o0 t X len a z (((cLk z H T l b p).1, (cLk z H T l b p).2, n, l, b), F, K, U) tl, b0, b1, op))) : mj_Mt gT (law_cst xs) gnw (m + 1) y_Code_link [.ref 11, .long (encV p)] (cdW o0 t X len a z ((H, T, n, l, b), F, K, U) tl, b0, b1, op) Q := by
  intro J hJ
  refine hJ _ _ _ _ ?_
  cases l with
  | none =>
    refine And.intro (fun _ => ?_) (fun g => absurd (show (-1 : Int32) < 0 by decide) g)
    exact hQ
  | some k =>
    have hk := hl k rfl
    refine And.intro (fun g => absurd g (nI_pos (n := k) hk)) (fun _ => ?_)
    refine And.intro (fun (g : nI k < nI z) => ?_) (fun (g : ¬ nI k < nI z) => ?_)
    · have h1 := (nI_ltI hk (by omega)).mp g
      have e : cLk z H T (some k) b p = (if b then (upW H k p, T) else (H, upW T k p)) := if_pos h1
      rw [e] at hQ
      have ec : (nI k).toNatClampNeg = k := nI_clamp hk
      cases b with
      | false =>
        refine And.intro (fun _ => ?_) (fun g => absurd rfl g)
        refine And.intro (vp_in_nI h1 (by omega)) ?_
        have key : ∀ (j : Nat) (W : Nat → Int64), j = k → W = vp_updL (eH T) j (encV p) → Q (.inl none, (rdW o0 t X len a (oF 4 [.ref 12, .ref 13, .int (nI n), .int (oV (some k)), .int (bI false)] :: oJ z (eH H) :: oJ z W :: oF 5 [.ref 1, .ref 11, .ref 15, .int (nI K), .int U] :: oI 9 (eO F) :: tl), b0, b1, op)) := by
          rintro j W rfl rfl
          rw [updL_enc]
          exact hQ
        exact key _ _ ec rfl
      | true =>
        refine And.intro (fun g => absurd (show (1 : Int32) = 0 from g) (by decide)) (fun _ => ?_)
        refine And.intro (vp_in_nI h1 (by omega)) ?_
        have key : ∀ (j : Nat) (W : Nat → Int64), j = k → W = vp_updL (eH H) j (encV p) → Q (.inl none, (rdW o0 t X len a (oF 4 [.ref 12, .ref 13, .int (nI n), .int (oV (some k)), .int (bI true)] :: oJ z W :: oJ z (eH T) :: oF 5 [.ref 1, .ref 11, .ref 15, .int (nI K), .int U] :: oI 9 (eO F) :: tl), b0, b1, op)) := by
          rintro j W rfl rfl
          rw [updL_enc]
          exact hQ
        exact key _ _ ec rfl
    · have h1 : ¬ k < z := fun q => g (nI_lt q (by omega))
      have e : cLk z H T (some k) b p = (H, T) := if_neg h1
      rw [e] at hQ
      exact hQ
theorem e_append {v : Vl} (hz : z ≤ 250) (hn : cn (dC s) < 2 ^ 30) (hl : ∀ k, cl (dC s) = some k → k < 2 ^ 31) (hQ : Q (.inl none, (cdW o0 t X len a z (dA z s v) tl, b0, b1, op))) : mj_Mt gT (law_cst xs) gnw (m + 2) y_Code_append [.ref 11, .long (encV v)] (cdW o0 t X len a z s tl, b0, b1, op) Q := by
  obtain ⟨⟨H, T, n, l, b⟩, F, K, U⟩ := s
  have hn : n < 2 ^ 30 := hn
  have hl : ∀ k, l = some k → k < 2 ^ 31 := hl
  unfold dA cAp at hQ
  intro J hJ
  refine hJ _ _ _ _ ?_
  refine And.intro (fun (g : nI z ≤ nI n) => ?_) (fun (g : ¬ nI z ≤ nI n) => ?_)
  · have h1 := (nI_leI (by omega) (by omega)).mp g
    rw [if_neg (show ¬ cn (dC (((H, T, n, l, b), F, K, U) : cD_)) < z from by show ¬ n < z; omega)] at hQ
    have key : ∀ x : Int32, x = nI (n + 1) → Q (.inl none, (rdW o0 t X len a (oF 4 [.ref 12, .ref 13, .int x, .int (nI n), .int 0] :: oJ z (eH H) :: oJ z (eH T) :: oF 5 [.ref 1, .ref 11, .ref 15, .int (nI K), .int U] :: oI 9 (eO F) :: tl), b0, b1, op)) := by
      rintro x rfl
      exact hQ
    exact And.intro (Or.inl rfl) (key _ (nI_1 n))
  · have h1 : n < z := Nat.lt_of_not_le (fun q => g (nI_le q (by omega)))
    rw [if_pos (show cn (dC (((H, T, n, l, b), F, K, U) : cD_)) < z from h1)] at hQ
    have ec : (nI n).toNatClampNeg = n := nI_clamp (by omega)
    refine And.intro (vp_in_nI h1 (by omega)) (And.intro (vp_in_nI h1 (by omega)) ?_)
    refine v_pair ?_
    have key : ∀ (x : Int32) (i : Nat) (w : Int64), x = nI (n + 1) → i = n → w = encV vNil → mj_Mt gT (law_cst xs) gnw (m + 1) y_Code_link [.ref 11, .long (encV (vPr n))] (rdW o0 t X len a (oF 4 [.ref 12, .ref 13, .int x, .int (oV l), .int (bI b)] :: oJ z (vp_updL (eH H) i (encV v)) :: oJ z (vp_updL (eH T) i w) :: oF 5 [.ref 1, .ref 11, .ref 15, .int (nI K), .int U] :: oI 9 (eO F) :: tl), b0, b1, op) (mj_after (mj_hd (mj_off kO_Code_append) kH_Code_append) Q (mj_sg (mj_Mt gT (law_cst xs) gnw (m + 1)) (law_cst xs) gnw (mj_hd (mj_off kO_Code_append) kH_Code_append) kC_Code_append J Q 372 false) 27 [some (.ref 11), some (.long (encV v)), none, some (.int (nI n))] []) := by
      rintro x i w rfl rfl rfl
      rw [updL_enc, updL_enc]
      refine e_link (n := i + 1) (F := F) (K := K) (U := U) hz hl ?_
      exact And.intro (Or.inl rfl) hQ
    exact key _ _ _ (nI_1 n) ec rfl
theorem e_instr {x : Int32} (hz : z ≤ 250) (hn : cn (dC s) < 2 ^ 30) (hl : ∀ k, cl (dC s) = some k → k < 2 ^ 31) (hQ : Q (.inl none, (cdW o0 t X len a z (dI z s x) tl, b0, b1, op))) : mj_Mt gT (law_cst xs) gnw (m + 3) y_Code_instruction [.ref 11, .int x] (cdW o0 t X len a z s tl, b0, b1, op) Q := by
  intro J hJ
  refine hJ _ _ _ _ ?_
  refine v_number ?_
  refine e_append hz hn hl ?_
  exact hQ
theorem e_begin (hz : z ≤ 250) (hn : cn (dC s) < 2 ^ 30) (hl : ∀ k, cl (dC s) = some k → k < 2 ^ 31) (hQ : Q (.inl (some (.int (nI (cn (dC s))))), (cdW o0 t X len a z (dB z s) tl, b0, b1, op))) : mj_Mt gT (law_cst xs) gnw (m + 3) y_Code_beginList [.ref 11] (cdW o0 t X len a z s tl, b0, b1, op) Q := by
  intro J hJ
  refine hJ _ _ _ _ ?_
  refine e_append (v := vNil) hz hn hl ?_
  refine And.intro (Or.inr rfl) ?_
  have e := (cAp_n z (dC s) vNil).2
  have key : ∀ o : Option Nat, o = some (cn (dC s)) → Q (.inl (some (.int (oV o))), (cdW o0 t X len a z (dB z s) tl, b0, b1, op)) := by
    rintro o rfl
    exact hQ
  exact key _ e
theorem e_end {p : Nat} (hQ : Q (.inl none, (cdW o0 t X len a z (dE s p) tl, b0, b1, op))) : mj_Mt gT (law_cst xs) gnw (m + 1) y_Code_endList [.ref 11, .int (nI p)] (cdW o0 t X len a z s tl, b0, b1, op) Q := by
  intro J hJ
  refine hJ _ _ _ _ ?_
  exact And.intro (Or.inl rfl) hQ
end P2k
