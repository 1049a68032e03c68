section
abbrev tS : Type := Nat × (Nat → Int32) × (Nat → Int32) × (Nat → Int32) × (Nat → Option Nat) × (Nat → Option Nat) × (Nat → Option Nat)
abbrev tn (t : tS) : Nat := t.1
abbrev tK (t : tS) : Nat → Int32 := t.2.1
abbrev tV (t : tS) : Nat → Int32 := t.2.2.1
abbrev tP (t : tS) : Nat → Int32 := t.2.2.2.1
abbrev tF (t : tS) : Nat → Option Nat := t.2.2.2.2.1
abbrev tL (t : tS) : Nat → Option Nat := t.2.2.2.2.2.1
abbrev tN (t : tS) : Nat → Option Nat := t.2.2.2.2.2.2
def oV : Option Nat → Int32
  | none => -1
  | some k => nI k
abbrev eO (g : Nat → Option Nat) : Nat → Int32 := fun i => oV (g i)
theorem upd_eO (g : Nat → Option Nat) (k : Nat) (x : Option Nat) : upd (eO g) k (oV x) = eO (upW g k x) := by
  funext j
  show (if j = k then oV x else oV (g j)) = oV (if j = k then x else g j)
  split <;> rfl
theorem oV_ne {k : Nat} (h : k < 2 ^ 31) : ¬ oV (some k) = -1 := by
  intro e
  have := congrArg Int32.toInt e
  rw [show oV (some k) = nI k from rfl, nI_toInt h] at this
  have h2 : (-1 : Int32).toInt = -1 := by decide
  omega
def tAdd (t : tS) (k v p : Int32) : tS := (tn t + 1, upd (tK t) (tn t) k, upd (tV t) (tn t) v, upd (tP t) (tn t) p, upW (tF t) (tn t) none, upW (tL t) (tn t) none, upW (tN t) (tn t) none)
def tPart (t : tS) (nd pt : Nat) : tS := match tL t nd with
  | none => (tn t, tK t, tV t, tP t, upW (tF t) nd (some pt), upW (tL t) nd (some pt), tN t)
  | some l => (tn t, tK t, tV t, tP t, tF t, upW (tL t) nd (some pt), upW (tN t) l (some pt))
def tEn (t : tS) (g : Nat → Option Nat) : Option Nat → Option Nat
  | none => none
  | some i => if i < tn t then g i else none
def tEi (t : tS) (g : Nat → Int32) : Option Nat → Int32
  | none => -1
  | some i => if i < tn t then g i else -1
def tPt (t : tS) : Nat → Option Nat → Option Nat
  | 0, o => o
  | k + 1, o => tPt t k (tEn t (tN t) o)
def tCn (t : tS) : Nat → Option Nat → Nat
  | 0, _ => 0
  | _ + 1, none => 0
  | k + 1, some i => tCn t k (tEn t (tN t) (some i)) + 1
def tPl (t : tS) (c : Int32) : Nat → Option Nat → Option Nat
  | 0, _ => none
  | _ + 1, none => none
  | k + 1, some i => if i < tn t then (if tV t i = c then some 0 else (tPl t c k (tN t i)).map (· + 1)) else none
def tOK (t : tS) : Prop := tn t ≤ 96 ∧ (∀ i j, tF t i = some j → j < 96) ∧ ((∀ i j, tL t i = some j → j < 96) ∧ ∀ i, i < tn t → tK t i = 2 → ∃ c : Nat, c < 256 ∧ tV t i = nI c) ∧ ∀ i j, tN t i = some j → j < 96
theorem upW_lt {g : Nat → Option Nat} {k : Nat} {x : Option Nat} (h : ∀ i j, g i = some j → j < 96) (hx : ∀ j, x = some j → j < 96) : ∀ i j, upW g k x i = some j → j < 96 := by
  intro i j e
  unfold upW at e
  split at e
  · exact hx j e
  · exact h i j e
theorem tOK_add {t : tS} {k v p : Int32} (h : tOK t) (hn : tn t < 96) (hk : k = 2 → ∃ c : Nat, c < 256 ∧ v = nI c := by exact fun h => absurd h (by decide)) : tOK (tAdd t k v p) := by
  refine ⟨hn, upW_lt h.2.1 (fun _ e => by cases e), ⟨upW_lt h.2.2.1.1 (fun _ e => by cases e), fun i hi e => ?_⟩, upW_lt h.2.2.2 (fun _ e => by cases e)⟩
  have hi : i < tn t + 1 := hi
  have e : (if i = tn t then k else tK t i) = 2 := e
  show ∃ c : Nat, c < 256 ∧ (if i = tn t then v else tV t i) = nI c
  by_cases h1 : i = tn t
  · rw [if_pos h1] at e ⊢
    exact hk e
  · rw [if_neg h1] at e ⊢
    exact h.2.2.1.2 i (by omega) e
theorem tOK_part {t : tS} {nd pt : Nat} (h : tOK t) (hp : pt < 96) : tOK (tPart t nd pt) := by
  unfold tPart
  split
  · exact ⟨h.1, upW_lt h.2.1 (fun _ e => by cases e; exact hp), ⟨upW_lt h.2.2.1.1 (fun _ e => by cases e; exact hp), h.2.2.1.2⟩, h.2.2.2⟩
  · exact ⟨h.1, h.2.1, ⟨upW_lt h.2.2.1.1 (fun _ e => by cases e; exact hp), h.2.2.1.2⟩, upW_lt h.2.2.2 (fun _ e => by cases e; exact hp)⟩
theorem tn_part {t : tS} {nd pt : Nat} : tn (tPart t nd pt) = tn t := by
  unfold tPart
  split <;> rfl
def rdX (o0 : mj_O) (t : tS) (X : Nat → Int32) (len : Nat) (x : Int32) (tl : List mj_O) : List mj_O :=
  o0 :: oF 2 [.ref 2, .ref 3, .ref 4, .ref 5, .ref 6, .ref 7, .int (nI (tn t))] :: oI 96 (tK t) :: oI 96 (tV t) :: oI 96 (tP t) :: oI 96 (eO (tF t)) :: oI 96 (eO (tL t)) :: oI 96 (eO (tN t)) :: oF 1 [.ref 9, .int (nI len)] :: oC 96 X :: oF 3 [.ref 8, .ref 1, .int x] :: tl
abbrev rdW (o0 : mj_O) (t : tS) (X : Nat → Int32) (len a : Nat) (tl : List mj_O) : List mj_O := rdX o0 t X len (nI a) tl
def txOK (X : Nat → Int32) (len : Nat) (tx : Nat → Nat) : Prop := len ≤ 96 ∧ (∀ i, i < len → X i = nI (tx i) ∧ 32 ≤ tx i ∧ tx i ≤ 126) ∧ ∀ i, len ≤ i → tx i = 0
theorem txOK.lt {X : Nat → Int32} {len : Nat} {tx : Nat → Nat} (h : txOK X len tx) {a : Nat} (ha : ¬ tx a = 0) : a < len := Nat.lt_of_not_le (fun q => ha (h.2.2 a q))
theorem txOK.le {X : Nat → Int32} {len : Nat} {tx : Nat → Nat} (h : txOK X len tx) (a : Nat) : tx a ≤ 126 := by
  by_cases e : a < len
  · exact (h.2.1 a e).2.2
  · rw [h.2.2 a (by omega)]; omega
def cL (c : Nat) : Bool := decide (97 ≤ c ∧ c ≤ 122)
def cD (c : Nat) : Bool := decide (48 ≤ c ∧ c ≤ 57)
section P2f
variable {cst : Nat → Option (Nat × (Nat → Int32))} {m b0 b1 : Nat} {op : Bool} {tl : List mj_O} {Q : mj_R → Prop} {xs : List Int32}
variable {o0 : mj_O} {t : tS} {X : Nat → Int32} {len a : Nat} {tx : Nat → Nat}
set_option maxRecDepth 10000
theorem q_fail {os : List mj_O} (h6 : 6 ≤ b1) (hQ : Q (.inr 0, (os, b0, b1 - 6, false))) : mj_Mt gT cst gnw (m + 1) y_Reader_fail [] (os, b0 + 1, b1, op) Q := by
  intro J hJ
  refine hJ _ _ _ _ ?_
  exact And.intro h6 hQ
theorem q_isLetter {h : mj_H} {c : Nat} (hc : c ≤ 126) (hQ : Q (.inl (some (.int (bJ (cL c)))), h)) : mj_Mt gT cst gnw (m + 1) y_Reader_isLetter [.int (nI c)] h Q := by
  intro J hJ
  refine hJ _ _ _ _ ?_
  refine And.intro (fun (g : nI c < nI 97) => ?_) (fun (g : ¬ nI c < nI 97) => ?_)
  · have h1 := (nI_ltI (by omega) (by decide)).mp g
    rw [show cL c = false from decide_eq_false (by omega)] at hQ
    exact And.intro (Or.inl rfl) hQ
  · have h1 : 97 ≤ c := Nat.le_of_not_lt (fun q => g (nI_lt q (by decide)))
    refine And.intro (fun (g2 : nI 122 < nI c) => ?_) (fun (g2 : ¬ nI 122 < nI c) => ?_)
    · have h2 := (nI_ltI (by decide) (by omega)).mp g2
      rw [show cL c = false from decide_eq_false (by omega)] at hQ
      exact And.intro (Or.inl rfl) hQ
    · have h2 : c ≤ 122 := Nat.le_of_not_lt (fun q => g2 (nI_lt q (by omega)))
      rw [show cL c = true from decide_eq_true ⟨h1, h2⟩] at hQ
      exact And.intro (Or.inr rfl) hQ
theorem q_isDigit {h : mj_H} {c : Nat} (hc : c ≤ 126) (hQ : Q (.inl (some (.int (bJ (cD c)))), h)) : mj_Mt gT cst gnw (m + 1) y_Reader_isDigit [.int (nI c)] h Q := by
  intro J hJ
  refine hJ _ _ _ _ ?_
  refine And.intro (fun (g : nI c < nI 48) => ?_) (fun (g : ¬ nI c < nI 48) => ?_)
  · have h1 := (nI_ltI (by omega) (by decide)).mp g
    rw [show cD c = false from decide_eq_false (by omega)] at hQ
    exact And.intro (Or.inl rfl) hQ
  · have h1 : 48 ≤ c := Nat.le_of_not_lt (fun q => g (nI_lt q (by decide)))
    refine And.intro (fun (g2 : nI 57 < nI c) => ?_) (fun (g2 : ¬ nI 57 < nI c) => ?_)
    · have h2 := (nI_ltI (by decide) (by omega)).mp g2
      rw [show cD c = false from decide_eq_false (by omega)] at hQ
      exact And.intro (Or.inl rfl) hQ
    · have h2 : c ≤ 57 := Nat.le_of_not_lt (fun q => g2 (nI_lt q (by omega)))
      rw [show cD c = true from decide_eq_true ⟨h1, h2⟩] at hQ
      exact And.intro (Or.inr rfl) hQ
theorem x_codeAt {a9 : Nat} {y : Int32} (hy : y = nI a9) (hx : txOK X len tx) (ha : a9 < 1000) (hQ : Q (.inl (some (.int (nI (tx a9)))), (rdW o0 t X len a tl, b0, b1, op))) : mj_Mt gT cst gnw (m + 1) y_Text_codeAt [.ref 8, .int y] (rdW o0 t X len a tl, b0, b1, op) Q := by
  subst hy
  have hl := hx.1
  intro J hJ
  refine hJ _ _ _ _ ?_
  refine And.intro (fun g => absurd g (nI_pos (by omega))) (fun _ => ?_)
  refine And.intro (fun (g : nI len ≤ nI a9) => ?_) (fun (g : ¬ nI len ≤ nI a9) => ?_)
  · have h1 := (nI_leI (by omega) (by omega)).mp g
    rw [hx.2.2 a9 h1] at hQ
    exact hQ
  · have h1 : a9 < len := Nat.lt_of_not_le (fun q => g (nI_le q (by omega)))
    refine And.intro (vp_in_nI (by omega) (by decide)) ?_
    rw [← (hx.2.1 a9 h1).1] at hQ
    have key : ∀ j, j = a9 → Q (.inl (some (.int (X j))), (rdW o0 t X len a tl, b0, b1, op)) := by
      rintro j rfl
      exact hQ
    exact key _ (nI_clamp (by omega))
theorem t_add {k v p : Int32} (hn : tn t < 96) (hQ : Q (.inl (some (.int (nI (tn t)))), (rdW o0 (tAdd t k v p) X len a tl, b0, b1, op))) : mj_Mt gT cst gnw (m + 1) y_Tree_add [.ref 1, .int k, .int v, .int p] (rdW o0 t X len a tl, b0, b1, op) Q := by
  have vin : vp_in (nI (tn t)) 96 := vp_in_nI hn (by decide)
  intro J hJ
  refine hJ _ _ _ _ ?_
  refine And.intro (fun _ => ?_) (fun g => absurd (nI_lt (a := tn t) (b := 96) hn (by decide)) g)
  refine And.intro vin (And.intro vin (And.intro vin (And.intro vin (And.intro vin (And.intro vin ?_)))))
  have key : ∀ (j : Nat) (x y : Int32), j = tn t → x = nI (tn t + 1) → y = oV none → Q (.inl (some (.int (nI (tn t)))), (o0 :: oF 2 [.ref 2, .ref 3, .ref 4, .ref 5, .ref 6, .ref 7, .int x] :: oI 96 (upd (tK t) j k) :: oI 96 (upd (tV t) j v) :: oI 96 (upd (tP t) j p) :: oI 96 (upd (eO (tF t)) j y) :: oI 96 (upd (eO (tL t)) j y) :: oI 96 (upd (eO (tN t)) j y) :: oF 1 [.ref 9, .int (nI len)] :: oC 96 X :: oF 3 [.ref 8, .ref 1, .int (nI a)] :: tl, b0, b1, op)) := by
    rintro j x y rfl rfl rfl
    rw [upd_eO, upd_eO, upd_eO]
    exact hQ
  exact key _ _ _ (nI_clamp (by omega)) (nI_1 _) rfl
theorem t_addPart {nd pt : Nat} (ht : tOK t) (hnd : nd < tn t) (hQ : Q (.inl none, (rdW o0 (tPart t nd pt) X len a tl, b0, b1, op))) : mj_Mt gT cst gnw (m + 1) y_Tree_addPart [.ref 1, .int (nI nd), .int (nI pt)] (rdW o0 t X len a tl, b0, b1, op) Q := by
  have h96 := ht.1
  have vin : vp_in (nI nd) 96 := vp_in_nI (by omega) (by decide)
  have ec : (nI nd).toNatClampNeg = nd := nI_clamp (by omega)
  intro J hJ
  refine hJ _ _ _ _ ?_
  refine And.intro (fun g => absurd g (nI_pos (by omega))) (fun _ => ?_)
  refine And.intro (fun _ => ?_) (fun g => absurd (nI_lt (a := nd) (b := tn t) hnd (by omega)) g)
  refine And.intro vin ?_
  unfold tPart at hQ
  cases hl : tL t nd with
  | none =>
    rw [hl] at hQ
    have e : eO (tL t) (nI nd).toNatClampNeg = -1 := by rw [ec]; show oV (tL t nd) = -1; rw [hl]; rfl
    refine And.intro (fun g => absurd e g) (fun _ => ?_)
    refine And.intro vin (And.intro vin ?_)
    have key : ∀ j, j = nd → Q (.inl none, (o0 :: oF 2 [.ref 2, .ref 3, .ref 4, .ref 5, .ref 6, .ref 7, .int (nI (tn t))] :: oI 96 (tK t) :: oI 96 (tV t) :: oI 96 (tP t) :: oI 96 (upd (eO (tF t)) j (oV (some pt))) :: oI 96 (upd (eO (tL t)) j (oV (some pt))) :: oI 96 (eO (tN t)) :: oF 1 [.ref 9, .int (nI len)] :: oC 96 X :: oF 3 [.ref 8, .ref 1, .int (nI a)] :: tl, b0, b1, op)) := by
      rintro j rfl
      rw [upd_eO, upd_eO]
      exact hQ
    exact key _ ec
  | some l =>
    have hl9 := ht.2.2.1.1 nd l hl
    rw [hl] at hQ
    have e : eO (tL t) (nI nd).toNatClampNeg = nI l := by rw [ec]; show oV (tL t nd) = nI l; rw [hl]; rfl
    refine And.intro (fun _ => ?_) (fun g => absurd (e.symm.trans g) (oV_ne (k := l) (by omega)))
    refine And.intro (show vp_in (eO (tL t) (nI nd).toNatClampNeg) 96 by rw [e]; exact vp_in_nI hl9 (by decide)) (And.intro vin ?_)
    have key : ∀ j i, j = nd → i = l → Q (.inl none, (o0 :: oF 2 [.ref 2, .ref 3, .ref 4, .ref 5, .ref 6, .ref 7, .int (nI (tn t))] :: oI 96 (tK t) :: oI 96 (tV t) :: oI 96 (tP t) :: oI 96 (eO (tF t)) :: oI 96 (upd (eO (tL t)) j (oV (some pt))) :: oI 96 (upd (eO (tN t)) i (oV (some pt))) :: oF 1 [.ref 9, .int (nI len)] :: oC 96 X :: oF 3 [.ref 8, .ref 1, .int (nI a)] :: tl, b0, b1, op)) := by
      rintro j i rfl rfl
      rw [upd_eO, upd_eO]
      exact hQ
    exact key _ _ ec (by rw [e]; exact nI_clamp (by omega))
theorem t_kind {o : Option Nat} {y : Int32} (hy : y = oV o) (ht : tn t ≤ 96) (ho : ∀ i, o = some i → i < 1000) (hQ : Q (.inl (some (.int (tEi t (tK t) o))), (rdW o0 t X len a tl, b0, b1, op))) : mj_Mt gT cst gnw (m + 2) y_Tree_kind [.ref 1, .int y] (rdW o0 t X len a tl, b0, b1, op) Q := by
  subst hy
  intro J hJ
  refine hJ _ _ _ _ ?_
  intro J2 hJ2
  refine hJ2 _ _ _ _ ?_
  cases o with
  | none =>
    refine And.intro (fun _ => ?_) (fun g => absurd (by decide) g)
    exact hQ
  | some i =>
    have hi := ho i rfl
    refine And.intro (fun g => absurd g (nI_pos (n := i) (by omega))) (fun _ => ?_)
    refine And.intro (fun (g : nI (tn t) ≤ nI i) => ?_) (fun (g : ¬ nI (tn t) ≤ nI i) => ?_)
    · have h1 := (nI_leI (by omega) (by omega)).mp g
      rw [show (tEi t (tK t) (some i)) = -1 from if_neg (by omega)] at hQ
      exact hQ
    · have h1 : i < tn t := Nat.lt_of_not_le (fun q => g (nI_le q (by omega)))
      refine And.intro (vp_in_nI (by omega) (by decide)) ?_
      rw [show (tEi t (tK t) (some i)) = (tK t) i from if_pos h1] at hQ
      have key : ∀ j, j = i → mj_after (mj_hd (mj_off kO_Tree_kind) kH_Tree_kind) Q (mj_sg (mj_Mt gT cst gnw (m + 1)) cst gnw (mj_hd (mj_off kO_Tree_kind) kH_Tree_kind) kC_Tree_kind J Q 395 false) 4 (mj_lay [.ref 1, .int (nI i)] 2) [] (.inl (some (.int ((tK t) j))), (rdW o0 t X len a tl, b0, b1, op)) := by
        rintro j rfl
        exact hQ
      exact key _ (nI_clamp (by omega))
theorem t_value {o : Option Nat} {y : Int32} (hy : y = oV o) (ht : tn t ≤ 96) (ho : ∀ i, o = some i → i < 1000) (hQ : Q (.inl (some (.int (tEi t (tV t) o))), (rdW o0 t X len a tl, b0, b1, op))) : mj_Mt gT cst gnw (m + 2) y_Tree_value [.ref 1, .int y] (rdW o0 t X len a tl, b0, b1, op) Q := by
  subst hy
  intro J hJ
  refine hJ _ _ _ _ ?_
  intro J2 hJ2
  refine hJ2 _ _ _ _ ?_
  cases o with
  | none =>
    refine And.intro (fun _ => ?_) (fun g => absurd (by decide) g)
    exact hQ
  | some i =>
    have hi := ho i rfl
    refine And.intro (fun g => absurd g (nI_pos (n := i) (by omega))) (fun _ => ?_)
    refine And.intro (fun (g : nI (tn t) ≤ nI i) => ?_) (fun (g : ¬ nI (tn t) ≤ nI i) => ?_)
    · have h1 := (nI_leI (by omega) (by omega)).mp g
      rw [show (tEi t (tV t) (some i)) = -1 from if_neg (by omega)] at hQ
      exact hQ
    · have h1 : i < tn t := Nat.lt_of_not_le (fun q => g (nI_le q (by omega)))
      refine And.intro (vp_in_nI (by omega) (by decide)) ?_
      rw [show (tEi t (tV t) (some i)) = (tV t) i from if_pos h1] at hQ
      have key : ∀ j, j = i → mj_after (mj_hd (mj_off kO_Tree_value) kH_Tree_value) Q (mj_sg (mj_Mt gT cst gnw (m + 1)) cst gnw (mj_hd (mj_off kO_Tree_value) kH_Tree_value) kC_Tree_value J Q 395 false) 4 (mj_lay [.ref 1, .int (nI i)] 2) [] (.inl (some (.int ((tV t) j))), (rdW o0 t X len a tl, b0, b1, op)) := by
        rintro j rfl
        exact hQ
      exact key _ (nI_clamp (by omega))
theorem t_positionOf {o : Option Nat} {y : Int32} (hy : y = oV o) (ht : tn t ≤ 96) (ho : ∀ i, o = some i → i < 1000) (hQ : Q (.inl (some (.int (tEi t (tP t) o))), (rdW o0 t X len a tl, b0, b1, op))) : mj_Mt gT cst gnw (m + 2) y_Tree_positionOf [.ref 1, .int y] (rdW o0 t X len a tl, b0, b1, op) Q := by
  subst hy
  intro J hJ
  refine hJ _ _ _ _ ?_
  intro J2 hJ2
  refine hJ2 _ _ _ _ ?_
  cases o with
  | none =>
    refine And.intro (fun _ => ?_) (fun g => absurd (by decide) g)
    exact hQ
  | some i =>
    have hi := ho i rfl
    refine And.intro (fun g => absurd g (nI_pos (n := i) (by omega))) (fun _ => ?_)
    refine And.intro (fun (g : nI (tn t) ≤ nI i) => ?_) (fun (g : ¬ nI (tn t) ≤ nI i) => ?_)
    · have h1 := (nI_leI (by omega) (by omega)).mp g
      rw [show (tEi t (tP t) (some i)) = -1 from if_neg (by omega)] at hQ
      exact hQ
    · have h1 : i < tn t := Nat.lt_of_not_le (fun q => g (nI_le q (by omega)))
      refine And.intro (vp_in_nI (by omega) (by decide)) ?_
      rw [show (tEi t (tP t) (some i)) = (tP t) i from if_pos h1] at hQ
      have key : ∀ j, j = i → mj_after (mj_hd (mj_off kO_Tree_positionOf) kH_Tree_positionOf) Q (mj_sg (mj_Mt gT cst gnw (m + 1)) cst gnw (mj_hd (mj_off kO_Tree_positionOf) kH_Tree_positionOf) kC_Tree_positionOf J Q 395 false) 4 (mj_lay [.ref 1, .int (nI i)] 2) [] (.inl (some (.int ((tP t) j))), (rdW o0 t X len a tl, b0, b1, op)) := by
        rintro j rfl
        exact hQ
      exact key _ (nI_clamp (by omega))
theorem t_firstPart {o : Option Nat} {y : Int32} (hy : y = oV o) (ht : tn t ≤ 96) (ho : ∀ i, o = some i → i < 1000) (hQ : Q (.inl (some (.int (oV (tEn t (tF t) o)))), (rdW o0 t X len a tl, b0, b1, op))) : mj_Mt gT cst gnw (m + 2) y_Tree_firstPart [.ref 1, .int y] (rdW o0 t X len a tl, b0, b1, op) Q := by
  subst hy
  intro J hJ
  refine hJ _ _ _ _ ?_
  intro J2 hJ2
  refine hJ2 _ _ _ _ ?_
  cases o with
  | none =>
    refine And.intro (fun _ => ?_) (fun g => absurd (by decide) g)
    exact hQ
  | some i =>
    have hi := ho i rfl
    refine And.intro (fun g => absurd g (nI_pos (n := i) (by omega))) (fun _ => ?_)
    refine And.intro (fun (g : nI (tn t) ≤ nI i) => ?_) (fun (g : ¬ nI (tn t) ≤ nI i) => ?_)
    · have h1 := (nI_leI (by omega) (by omega)).mp g
      rw [show (oV (tEn t (tF t) (some i))) = oV none from congrArg oV (if_neg (by omega))] at hQ
      exact hQ
    · have h1 : i < tn t := Nat.lt_of_not_le (fun q => g (nI_le q (by omega)))
      refine And.intro (vp_in_nI (by omega) (by decide)) ?_
      rw [show (oV (tEn t (tF t) (some i))) = (eO (tF t)) i from congrArg oV (if_pos h1)] at hQ
      have key : ∀ j, j = i → mj_after (mj_hd (mj_off kO_Tree_firstPart) kH_Tree_firstPart) Q (mj_sg (mj_Mt gT cst gnw (m + 1)) cst gnw (mj_hd (mj_off kO_Tree_firstPart) kH_Tree_firstPart) kC_Tree_firstPart J Q 395 false) 4 (mj_lay [.ref 1, .int (nI i)] 2) [] (.inl (some (.int ((eO (tF t)) j))), (rdW o0 t X len a tl, b0, b1, op)) := by
        rintro j rfl
        exact hQ
      exact key _ (nI_clamp (by omega))
theorem t_follower {o : Option Nat} {y : Int32} (hy : y = oV o) (ht : tn t ≤ 96) (ho : ∀ i, o = some i → i < 1000) (hQ : Q (.inl (some (.int (oV (tEn t (tN t) o)))), (rdW o0 t X len a tl, b0, b1, op))) : mj_Mt gT cst gnw (m + 2) y_Tree_follower [.ref 1, .int y] (rdW o0 t X len a tl, b0, b1, op) Q := by
  subst hy
  intro J hJ
  refine hJ _ _ _ _ ?_
  intro J2 hJ2
  refine hJ2 _ _ _ _ ?_
  cases o with
  | none =>
    refine And.intro (fun _ => ?_) (fun g => absurd (by decide) g)
    exact hQ
  | some i =>
    have hi := ho i rfl
    refine And.intro (fun g => absurd g (nI_pos (n := i) (by omega))) (fun _ => ?_)
    refine And.intro (fun (g : nI (tn t) ≤ nI i) => ?_) (fun (g : ¬ nI (tn t) ≤ nI i) => ?_)
    · have h1 := (nI_leI (by omega) (by omega)).mp g
      rw [show (oV (tEn t (tN t) (some i))) = oV none from congrArg oV (if_neg (by omega))] at hQ
      exact hQ
    · have h1 : i < tn t := Nat.lt_of_not_le (fun q => g (nI_le q (by omega)))
      refine And.intro (vp_in_nI (by omega) (by decide)) ?_
      rw [show (oV (tEn t (tN t) (some i))) = (eO (tN t)) i from congrArg oV (if_pos h1)] at hQ
      have key : ∀ j, j = i → mj_after (mj_hd (mj_off kO_Tree_follower) kH_Tree_follower) Q (mj_sg (mj_Mt gT cst gnw (m + 1)) cst gnw (mj_hd (mj_off kO_Tree_follower) kH_Tree_follower) kC_Tree_follower J Q 395 false) 4 (mj_lay [.ref 1, .int (nI i)] 2) [] (.inl (some (.int ((eO (tN t)) j))), (rdW o0 t X len a tl, b0, b1, op)) := by
        rintro j rfl
        exact hQ
      exact key _ (nI_clamp (by omega))
theorem tEn_lt {t : tS} {g : Nat → Option Nat} (hg : ∀ i j, g i = some j → j < 96) (o : Option Nat) : ∀ i, tEn t g o = some i → i < 1000 := by
  intro i e
  unfold tEn at e
  split at e
  · cases e
  · split at e
    · exact Nat.lt_trans (hg _ _ e) (by decide)
    · cases e
theorem t_part {o : Option Nat} {k : Nat} {y x : Int32} (hy : y = oV o) (hx : x = nI k) (hk : k < 1000) (ht : tOK t) (ho : ∀ i, o = some i → i < 1000) (hQ : Q (.inl (some (.int (oV (tPt t k (tEn t (tF t) o))))), (rdW o0 t X len a tl, b0, b1, op))) : mj_Mt gT cst gnw (m + 3) y_Tree_part [.ref 1, .int y, .int x] (rdW o0 t X len a tl, b0, b1, op) Q := by
  subst hx
  intro J hJ
  refine hJ _ _ _ _ ?_
  refine t_firstPart hy ht.1 ho ?_
  have loop : ∀ (j i : Nat) (o2 : Option Nat) (x2 : Int32), j + i = k → x2 = nI i → (∀ i, o2 = some i → i < 1000) → tPt t j o2 = tPt t k (tEn t (tF t) o) → J 6 [some (.ref 1), some (.int y), some (.int (nI k)), some (.int (oV o2)), some (.int x2)] [] (rdW o0 t X len a tl, b0, b1, op) := by
    intro j
    induction j with
    | zero =>
      intro i o2 x2 hi hx2 ho2 e
      subst hx2
      refine hJ _ _ _ _ ?_
      refine And.intro (fun _ => ?_) (fun g => absurd (nI_le (a := k) (b := i) (by omega) (by omega)) g)
      rw [← e] at hQ
      exact hQ
    | succ j ih =>
      intro i o2 x2 hi hx2 ho2 e
      subst hx2
      refine hJ _ _ _ _ ?_
      refine And.intro (fun g => absurd g (nI_ge (a := i) (b := k) (by omega) (by omega))) (fun _ => ?_)
      refine t_follower rfl ht.1 ho2 ?_
      exact ih (i + 1) _ _ (by omega) (nI_1 i) (tEn_lt ht.2.2.2 o2) e
  exact loop k 0 _ _ (by omega) rfl (tEn_lt ht.2.1 o) rfl
theorem t_parts {o : Option Nat} {y : Int32} (hy : y = oV o) (ht : tOK t) (ho : ∀ i, o = some i → i < 1000) (hQ : Q (.inl (some (.int (nI (tCn t 96 (tEn t (tF t) o))))), (rdW o0 t X len a tl, b0, b1, op))) : mj_Mt gT cst gnw (m + 3) y_Tree_parts [.ref 1, .int y] (rdW o0 t X len a tl, b0, b1, op) Q := by
  intro J hJ
  refine hJ _ _ _ _ ?_
  refine t_firstPart hy ht.1 ho ?_
  have loop : ∀ (j i : Nat) (o2 : Option Nat) (x2 : Int32), j + i = 96 → x2 = nI i → (∀ i, o2 = some i → i < 1000) → tCn t j o2 + i = tCn t 96 (tEn t (tF t) o) → J 6 [some (.ref 1), some (.int y), some (.int x2), some (.int (oV o2))] [] (rdW o0 t X len a tl, b0, b1, op) := by
    intro j
    induction j with
    | zero =>
      intro i o2 x2 hi hx2 ho2 e
      subst hx2
      obtain rfl : i = 96 := by omega
      refine hJ _ _ _ _ ?_
      have e2 : tCn t 96 (tEn t (tF t) o) = 96 := by rw [← e]; simp [tCn]
      rw [e2] at hQ
      refine And.intro (fun _ => ?_) (fun _ => ?_)
      · exact hQ
      · refine And.intro (fun _ => ?_) (fun g => absurd (by decide) g)
        exact hQ
    | succ j ih =>
      intro i o2 x2 hi hx2 ho2 e
      subst hx2
      refine hJ _ _ _ _ ?_
      cases o2 with
      | none =>
        refine And.intro (fun _ => ?_) (fun g => absurd rfl g)
        have e2 : tCn t 96 (tEn t (tF t) o) = i := by rw [← e]; simp [tCn]
        rw [e2] at hQ
        exact hQ
      | some q =>
        have hq := ho2 q rfl
        refine And.intro (fun g => absurd g (oV_ne (k := q) (by omega))) (fun _ => ?_)
        refine And.intro (fun g => absurd g (nI_ge (a := i) (b := 96) (by omega) (by decide))) (fun _ => ?_)
        refine t_follower rfl ht.1 ho2 ?_
        refine ih (i + 1) _ _ (by omega) (nI_1 i) (tEn_lt ht.2.2.2 _) ?_
        rw [← e]
        show _ = tCn t j (tEn t (tN t) (some q)) + 1 + i
        omega
  exact loop 96 0 _ _ rfl rfl (tEn_lt ht.2.1 o) rfl
theorem t_placeOf {c : Int32} {o : Option Nat} {y : Int32} (hy : y = oV o) (ht : tOK t) (ho : ∀ i, o = some i → i < 1000) (hQ : Q (.inl (some (.int (oV (tPl t c 96 o)))), (rdW o0 t X len a tl, b0, b1, op))) : mj_Mt gT cst gnw (m + 1) y_Tree_placeOf [.ref 1, .int c, .int y] (rdW o0 t X len a tl, b0, b1, op) Q := by
  have h96 := ht.1
  intro J hJ
  refine hJ _ _ _ _ ?_
  have loop : ∀ (j i : Nat) (o2 : Option Nat) (x2 y2 : Int32), j + i = 96 → x2 = nI i → y2 = oV o2 → (∀ i, o2 = some i → i < 1000) → (tPl t c j o2).map (· + i) = tPl t c 96 o → J 4 [some (.ref 1), some (.int c), some (.int y), some (.int x2), some (.int y2)] [] (rdW o0 t X len a tl, b0, b1, op) := by
    intro j
    induction j with
    | zero =>
      intro i o2 x2 y2 hi hx2 hy2 ho2 e
      subst hx2
      subst hy2
      obtain rfl : i = 96 := by omega
      rw [← e] at hQ
      refine hJ _ _ _ _ ?_
      refine And.intro (fun _ => ?_) (fun _ => ?_)
      · exact hQ
      · refine And.intro (fun _ => ?_) (fun _ => ?_)
        · exact hQ
        · refine And.intro (fun _ => ?_) (fun g => absurd (by decide) g)
          exact hQ
    | succ j ih =>
      intro i o2 x2 y2 hi hx2 hy2 ho2 e
      subst hx2
      subst hy2
      refine hJ _ _ _ _ ?_
      cases o2 with
      | none =>
        refine And.intro (fun _ => ?_) (fun g => absurd (by decide) g)
        rw [← e] at hQ
        exact hQ
      | some q =>
        have hq := ho2 q rfl
        refine And.intro (fun g => absurd g (nI_pos (n := q) (by omega))) (fun _ => ?_)
        refine And.intro (fun (g : nI (tn t) ≤ nI q) => ?_) (fun (g : ¬ nI (tn t) ≤ nI q) => ?_)
        · have h1 := (nI_leI (by omega) (by omega)).mp g
          rw [← e, show tPl t c (j + 1) (some q) = none by unfold tPl; rw [if_neg (by omega)]] at hQ
          exact hQ
        · have h1 : q < tn t := Nat.lt_of_not_le (fun w => g (nI_le w (by omega)))
          have ec : (nI q).toNatClampNeg = q := nI_clamp (by omega)
          refine And.intro (fun g => absurd g (nI_ge (a := i) (b := 96) (by omega) (by decide))) (fun _ => ?_)
          refine And.intro (vp_in_nI (by omega) (by decide)) ?_
          have ev : ∀ w, w = q → tV t w = tV t q := by rintro w rfl; rfl
          refine And.intro (fun g => ?_) (fun g => ?_)
          · have g : ¬ tV t q = c := fun w => g ((ev _ ec).trans w)
            refine And.intro (vp_in_nI (by omega) (by decide)) ?_
            refine ih (i + 1) (tN t q) _ _ (by omega) (nI_1 i) (by rw [show (oV (some q)).toNatClampNeg = q from ec]) (fun w ew => Nat.lt_trans (ht.2.2.2 _ _ ew) (by decide)) ?_
            rw [← e, show tPl t c (j + 1) (some q) = (tPl t c j (tN t q)).map (· + 1) by rw [tPl, if_pos h1, if_neg g], Option.map_map]
            congr 1
            funext w
            show w + (i + 1) = w + 1 + i
            omega
          · have g : tV t q = c := (ev _ ec).symm.trans g
            rw [← e, show tPl t c (j + 1) (some q) = some 0 by rw [tPl, if_pos h1, if_pos g]] at hQ
            rw [show (some 0).map (· + i) = some i by simp] at hQ
            exact hQ
  refine loop 96 0 o _ _ rfl rfl hy ho ?_
  cases tPl t c 96 o <;> rfl
end P2f
end
section
abbrev PR : Type := (Nat × Nat × tS) ⊕ (Nat × tS)
abbrev PU : Type := (Nat × tS) ⊕ (Nat × tS)
section RD
variable (tx : Nat → Nat)
def pClose (n a : Nat) (t : tS) : PR := if tx a = 41 then .inl (n, a + 1, t) else .inr (a, t)
def pMore (pe : Nat → tS → PR) (n : Nat) : Nat → Nat → tS → PR
  | 0, a, t => pClose tx n a t
  | k + 1, a, t => if tx a = 32 then (match pe (a + 1) t with
      | .inr e => .inr e
      | .inl (c, a2, t2) => pMore pe n k a2 (tPart t2 n c)) else pClose tx n a t
def pArgs (pe : Nat → tS → PR) (n : Nat) : Nat → Nat → tS → PR
  | 0, a, t => pClose tx n a t
  | k + 1, a, t => if tx a = 32 then (match pe (a + 1) t with
      | .inr e => .inr e
      | .inl (c, a2, t2) => pArgs pe n k a2 (tPart t2 n c)) else .inr (a, t)
def pDg : Nat → Nat → Int32 → Nat × Int32
  | 0, a, v => (a, v)
  | k + 1, a, v => if cD (tx a) then pDg k (a + 1) (Int32.ofInt 10 * v + nI (tx a) - Int32.ofInt 48) else (a, v)
def pA1 (a : Nat) : Nat := if tx a = 45 then a + 1 else a
def pVal (a : Nat) : Int32 := if tx a = 45 then -(pDg tx 4 (pA1 tx a) 0).2 else (pDg tx 4 (pA1 tx a) 0).2
def pNum (a : Nat) (t : tS) : PR := if cD (tx (pA1 tx a)) then .inl (tn t, (pDg tx 4 (pA1 tx a) 0).1, tAdd t 1 (pVal tx a) (nI a)) else .inr (pA1 tx a, t)
def pAtom (a : Nat) (t : tS) : PR := if cL (tx a) then .inl (tn t, a + 1, tAdd t 2 (nI (tx a)) (nI a)) else pNum tx a t
def pDat : Nat → Nat → Nat → tS → PR
  | 0, _, a, t => .inr (a, t)
  | f + 1, d, a, t => if tx a = 40 then
      (if 9 ≤ d then .inr (a, tAdd t 3 0 (nI a)) else if tx (a + 1) = 41 then .inl (tn t, a + 1 + 1, tAdd t 3 0 (nI a)) else
        match pDat f (d + 1) (a + 1) (tAdd t 3 0 (nI a)) with
        | .inr e => .inr e
        | .inl (c, a2, t2) => pMore tx (pDat f (d + 1)) (tn t) 95 a2 (tPart t2 (tn t) c))
    else pAtom tx a t
def pLet (p a : Nat) (t : tS) : PU := if cL (tx a) = true ∧ tPl t (nI (tx a)) 96 (tEn t (tF t) (some p)) = none then .inl (a + 1, tPart (tAdd t 2 (nI (tx a)) (nI a)) p (tn t)) else .inr (a, t)
def pLs (p : Nat) : Nat → Nat → tS → PR
  | 0, a, t => pClose tx p a t
  | k + 1, a, t => if tx a = 32 then (match pLet tx p (a + 1) t with
      | .inr e => .inr e
      | .inl (a2, t2) => pLs p k a2 t2) else pClose tx p a t
def pPar (d a : Nat) (t : tS) : PR := if d < 9 ∧ tx a = 40 then
    (if tx (a + 1) = 41 then .inl (tn t, a + 1 + 1, tAdd t 7 0 (nI a)) else match pLet tx (tn t) (a + 1) (tAdd t 7 0 (nI a)) with
      | .inr e => .inr e
      | .inl (a2, t2) => pLs tx (tn t) 2 a2 t2)
  else .inr (a, tAdd t 7 0 (nI a))
def pFun (pe : Nat → tS → PR) (d a : Nat) (t : tS) : PR := if tx a = 92 then
    (if tx (a + 1) = 32 then (match pPar tx d (a + 1 + 1) (tAdd t 6 0 (nI a)) with
      | .inr e => .inr e
      | .inl (p, a2, t2) => if tx a2 = 32 then (match pe (a2 + 1) (tPart t2 (tn t) p) with
        | .inr e => .inr e
        | .inl (c, a4, t4) => pClose tx (tn t) a4 (tPart t4 (tn t) c)) else .inr (a2, tPart t2 (tn t) p))
    else .inr (a + 1, tAdd t 6 0 (nI a)))
  else .inr (a, tAdd t 6 0 (nI a))
def pBv (pe pf : Nat → tS → PR) (d n a : Nat) (t : tS) : PR := if tEi t (tK t) (some n) = 9 then (if d + 1 < 9 ∧ tx a = 40 then pf (a + 1) t else .inr (a, t)) else pe a t
def pBind (pe pf : Nat → tS → PR) (d n a : Nat) (t : tS) : PU := if d < 9 ∧ tx a = 40 then
    (if cL (tx (a + 1)) = true ∧ tPl t (nI (tx (a + 1))) 96 (tPt t 1 (tEn t (tF t) (some n))) = none then
      (if tx (a + 1 + 1) = 32 then
        (match pBv tx pe pf d n (a + 1 + 1 + 1) (tAdd t 10 (nI (tx (a + 1))) (nI (a + 1))) with
        | .inr e => .inr e
        | .inl (c, a2, t2) => if tx a2 = 41 then .inl (a2 + 1, tPart (tPart t2 (tn t) c) n (tn t)) else .inr (a2, tPart t2 (tn t) c))
      else .inr (a + 1 + 1, tAdd t 10 (nI (tx (a + 1))) (nI (a + 1))))
    else .inr (a + 1, t))
  else .inr (a, t)
def pBs (pb : Nat → tS → PU) (n : Nat) : Nat → Nat → tS → PR
  | 0, a, t => pClose tx n a t
  | k + 1, a, t => if tx a = 32 then (match pb (a + 1) t with
      | .inr e => .inr e
      | .inl (a2, t2) => pBs pb n k a2 t2) else pClose tx n a t
def pBou (pe : Nat → tS → PR) (pb : Nat → Nat → tS → PU) (kd : Int32) (a : Nat) (t : tS) : PR := if tx (a + 1) = 32 then
    (match pe (a + 1 + 1) (tAdd t kd 0 (nI a)) with
    | .inr e => .inr e
    | .inl (c, a2, t2) => if tx a2 = 32 then (match pb (tn t) (a2 + 1) (tPart t2 (tn t) c) with
      | .inr e => .inr e
      | .inl (a4, t4) => pBs tx (pb (tn t)) (tn t) 2 a4 t4) else .inr (a2, tPart t2 (tn t) c))
  else .inr (a + 1, tAdd t kd 0 (nI a))
def pCall (pe : Nat → tS → PR) (a : Nat) (t : tS) : PR := match pe a (tAdd t 11 0 (nI a)) with
  | .inr e => .inr e
  | .inl (c, a2, t2) => pMore tx pe (tn t) 3 a2 (tPart t2 (tn t) c)
def opN (o : Nat) : Nat := if o = 8 then 3 else if o ≤ 12 then 1 else 2
def pOp (pe : Nat → tS → PR) (o a : Nat) (t : tS) : PR := pArgs tx pe (tn t) (opN o) (a + 1) (tAdd t 5 (nI o) (nI a))
def sgl : List Nat := [94, 95, 33, 46, 61, 43, 45, 42, 60]
def fdx (c : Nat) : Nat → Nat → Option Nat
  | 0, _ => none
  | k + 1, i => if sgl.getD i 0 = c then some i else fdx c k (i + 1)
def opO (c : Nat) : Option Nat := if c = 63 then some 8 else (fdx c 9 0).map (10 + ·)
def pBra (pe pe2 pe3 : Nat → tS → PR) (d a : Nat) (t : tS) : PR :=
  if tx a = 92 then pFun tx pe d a t
  else if tx a = 58 ∨ tx a = 59 then pBou tx pe (pBind tx pe2 (pFun tx pe3 (d + 2)) d) (if tx a = 59 then 9 else 8) a t
  else match opO (tx a) with
    | none => pCall tx pe a t
    | some o => if tx a = 45 ∧ cD (tx (a + 1)) = true then pCall tx pe a t else pOp tx pe o a t
def pEx : Nat → Nat → Nat → tS → PR
  | 0, _, a, t => .inr (a, t)
  | f + 1, d, a, t => if tx a = 40 then (if d < 9 then pBra tx (pEx f (d + 1)) (pEx f (d + 2)) (pEx f (d + 3)) (d + 1) (a + 1) t else .inr (a, t))
    else if tx a = 39 then (match pDat tx 11 d (a + 1) (tAdd t 4 0 (nI a)) with
      | .inr e => .inr e
      | .inl (c, a2, t2) => .inl (tn t, a2, tPart t2 (tn t) c))
    else pAtom tx a t
def gd (len n : Nat) : PR → Prop
  | .inl (nd, a, t) => nd = n ∧ tOK t ∧ n < tn t ∧ tn t ≤ a ∧ a ≤ len
  | .inr (a, t) => tOK t ∧ n ≤ tn t ∧ a ≤ len
def gu (len n : Nat) : PU → Prop
  | .inl (a, t) => tOK t ∧ n ≤ tn t ∧ tn t ≤ a ∧ a ≤ len
  | .inr (a, t) => tOK t ∧ n ≤ tn t ∧ a ≤ len
def GE (len : Nat) (pe : Nat → tS → PR) : Prop := ∀ a t, tOK t → tn t ≤ a → a ≤ len → gd len (tn t) (pe a t)
variable {tx} {X : Nat → Int32} {len : Nat}
theorem tn_add {t : tS} {k v p : Int32} : tn (tAdd t k v p) = tn t + 1 := rfl
theorem g_close (hx : txOK X len tx) {n a : Nat} {t : tS} (ht : tOK t) (hn : n < tn t) (ha : tn t ≤ a) (hl : a ≤ len) : gd len n (pClose tx n a t) := by
  unfold pClose
  split
  · next h =>
    have := hx.lt (a := a) (by omega)
    exact ⟨rfl, ht, hn, by omega, by omega⟩
  · exact ⟨ht, by omega, hl⟩
theorem g_more (hx : txOK X len tx) {pe : Nat → tS → PR} (hp : GE len pe) {n : Nat} : ∀ (k a : Nat) (t : tS), tOK t → n < tn t → tn t ≤ a → a ≤ len → gd len n (pMore tx pe n k a t)
  | 0, a, t, ht, hn, ha, hl => g_close hx ht hn ha hl
  | k + 1, a, t, ht, hn, ha, hl => by
    unfold pMore
    split
    · next h =>
      have h1 := hx.lt (a := a) (by omega)
      have hg := hp (a + 1) t ht (by omega) (by omega)
      have h96 := hx.1
      generalize pe (a + 1) t = r at hg
      rcases r with ⟨c, a2, t2⟩ | ⟨a2, t2⟩
      · obtain ⟨rfl, g1, g2, g3, g4⟩ := hg
        refine g_more hx hp k a2 _ (tOK_part g1 (by omega)) ?_ ?_ g4
        · rw [tn_part]; omega
        · rw [tn_part]; exact g3
      · obtain ⟨g1, g2, g3⟩ := hg
        exact ⟨g1, by omega, g3⟩
    · exact g_close hx ht hn ha hl
theorem g_args (hx : txOK X len tx) {pe : Nat → tS → PR} (hp : GE len pe) {n : Nat} : ∀ (k a : Nat) (t : tS), tOK t → n < tn t → tn t ≤ a → a ≤ len → gd len n (pArgs tx pe n k a t)
  | 0, a, t, ht, hn, ha, hl => g_close hx ht hn ha hl
  | k + 1, a, t, ht, hn, ha, hl => by
    unfold pArgs
    split
    · next h =>
      have h1 := hx.lt (a := a) (by omega)
      have hg := hp (a + 1) t ht (by omega) (by omega)
      have h96 := hx.1
      generalize pe (a + 1) t = r at hg
      rcases r with ⟨c, a2, t2⟩ | ⟨a2, t2⟩
      · obtain ⟨rfl, g1, g2, g3, g4⟩ := hg
        refine g_args hx hp k a2 _ (tOK_part g1 (by omega)) ?_ ?_ g4
        · rw [tn_part]; omega
        · rw [tn_part]; exact g3
      · obtain ⟨g1, g2, g3⟩ := hg
        exact ⟨g1, by omega, g3⟩
    · exact ⟨ht, by omega, hl⟩
theorem g_dg (hx : txOK X len tx) : ∀ (k a : Nat) (v : Int32), a ≤ len → a ≤ (pDg tx k a v).1 ∧ (pDg tx k a v).1 ≤ len
  | 0, a, v, hl => ⟨Nat.le_refl _, hl⟩
  | k + 1, a, v, hl => by
    unfold pDg
    split
    · next h =>
      have h1 := hx.lt (a := a) (fun e => by rw [e] at h; exact absurd h (by decide))
      have := g_dg hx k (a + 1) (Int32.ofInt 10 * v + nI (tx a) - Int32.ofInt 48) (by omega)
      omega
    · exact ⟨Nat.le_refl _, hl⟩
theorem g_num (hx : txOK X len tx) : GE len (pNum tx) := by
  intro a t ht hn hl
  have h96 := hx.1
  have ha1 : a ≤ pA1 tx a ∧ pA1 tx a ≤ len := by
    unfold pA1
    split
    · next h =>
      have := hx.lt (a := a) (by omega)
      omega
    · omega
  unfold pNum
  split
  · next h =>
    have h1 := hx.lt (a := pA1 tx a) (fun e => by rw [e] at h; exact absurd h (by decide))
    have h2 : (pDg tx 4 (pA1 tx a) 0).1 = (pDg tx 3 (pA1 tx a + 1) (Int32.ofInt 10 * 0 + nI (tx (pA1 tx a)) - Int32.ofInt 48)).1 := by
      show (pDg tx (3 + 1) (pA1 tx a) 0).1 = _
      rw [pDg, if_pos h]
    have h3 := g_dg hx 3 (pA1 tx a + 1) (Int32.ofInt 10 * 0 + nI (tx (pA1 tx a)) - Int32.ofInt 48) (by omega)
    rw [← h2] at h3
    exact ⟨rfl, tOK_add ht (by omega), by rw [tn_add]; omega, by rw [tn_add]; omega, h3.2⟩
  · exact ⟨ht, Nat.le_refl _, ha1.2⟩
theorem cL_ne {c : Nat} (h : cL c = true) : ¬ c = 0 := fun e => by rw [e] at h; exact absurd h (by decide)
theorem g_atom (hx : txOK X len tx) : GE len (pAtom tx) := by
  intro a t ht hn hl
  have h96 := hx.1
  unfold pAtom
  split
  · next h =>
    have h1 := hx.lt (cL_ne h)
    exact ⟨rfl, tOK_add ht (by omega) (fun _ => ⟨_, by have := hx.le a; omega, rfl⟩), by rw [tn_add]; omega, by rw [tn_add]; omega, by omega⟩
  · exact g_num hx a t ht hn hl
theorem g_dat (hx : txOK X len tx) : ∀ f d, GE len (pDat tx f d)
  | 0, d, a, t, ht, hn, hl => ⟨ht, Nat.le_refl _, hl⟩
  | f + 1, d, a, t, ht, hn, hl => by
    have h96 := hx.1
    unfold pDat
    split
    · next h =>
      have h1 := hx.lt (a := a) (by omega)
      have ht1 : tOK (tAdd t 3 0 (nI a)) := tOK_add ht (by omega)
      split
      · exact ⟨ht1, by rw [tn_add]; omega, hl⟩
      · split
        · next h2 =>
          have := hx.lt (a := a + 1) (by omega)
          exact ⟨rfl, ht1, by rw [tn_add]; omega, by rw [tn_add]; omega, by omega⟩
        · have hg := g_dat hx f (d + 1) (a + 1) (tAdd t 3 0 (nI a)) ht1 (by rw [tn_add]; omega) (by omega)
          rw [tn_add] at hg
          generalize pDat tx f (d + 1) (a + 1) (tAdd t 3 0 (nI a)) = r at hg
          rcases r with ⟨c, a2, t2⟩ | ⟨a2, t2⟩
          · obtain ⟨rfl, g1, g2, g3, g4⟩ := hg
            exact g_more hx (g_dat hx f (d + 1)) 95 a2 _ (tOK_part g1 (by omega)) (by rw [tn_part]; omega) (by rw [tn_part]; exact g3) g4
          · obtain ⟨g1, g2, g3⟩ := hg
            exact ⟨g1, by omega, g3⟩
    · exact g_atom hx a t ht hn hl
theorem g_let (hx : txOK X len tx) {p a : Nat} {t : tS} (ht : tOK t) (hn : tn t ≤ a) (hl : a ≤ len) : gu len (tn t) (pLet tx p a t) := by
  have h96 := hx.1
  unfold pLet
  split
  · next h =>
    have h1 := hx.lt (cL_ne h.1)
    exact ⟨tOK_part (tOK_add ht (by omega) (fun _ => ⟨_, by have := hx.le a; omega, rfl⟩)) (by omega), by rw [tn_part, tn_add]; omega, by rw [tn_part, tn_add]; omega, by omega⟩
  · exact ⟨ht, Nat.le_refl _, hl⟩
theorem g_ls (hx : txOK X len tx) {p : Nat} : ∀ (k a : Nat) (t : tS), tOK t → p < tn t → tn t ≤ a → a ≤ len → gd len p (pLs tx p k a t)
  | 0, a, t, ht, hn, ha, hl => g_close hx ht hn ha hl
  | k + 1, a, t, ht, hn, ha, hl => by
    unfold pLs
    split
    · next h =>
      have h1 := hx.lt (a := a) (by omega)
      have hg := g_let hx (p := p) (a := a + 1) ht (by omega) (by omega)
      generalize pLet tx p (a + 1) t = r at hg
      rcases r with ⟨a2, t2⟩ | ⟨a2, t2⟩
      · obtain ⟨g1, g2, g3, g4⟩ := hg
        exact g_ls hx k a2 t2 g1 (by omega) g3 g4
      · obtain ⟨g1, g2, g3⟩ := hg
        exact ⟨g1, by omega, g3⟩
    · exact g_close hx ht hn ha hl
theorem g_par (hx : txOK X len tx) {d a : Nat} {t : tS} (ht : tOK t) (hn : tn t + 2 ≤ a) (hl : a ≤ len) : gd len (tn t) (pPar tx d a t) := by
  have h96 := hx.1
  have ht1 : tOK (tAdd t 7 0 (nI a)) := tOK_add ht (by omega)
  unfold pPar
  split
  · next h =>
    have h1 := hx.lt (a := a) (by omega)
    split
    · next h2 =>
      have := hx.lt (a := a + 1) (by omega)
      exact ⟨rfl, ht1, by rw [tn_add]; omega, by rw [tn_add]; omega, by omega⟩
    · have hg := g_let hx (p := tn t) (a := a + 1) ht1 (by rw [tn_add]; omega) (by omega)
      rw [tn_add] at hg
      generalize pLet tx (tn t) (a + 1) (tAdd t 7 0 (nI a)) = r at hg
      rcases r with ⟨a2, t2⟩ | ⟨a2, t2⟩
      · obtain ⟨g1, g2, g3, g4⟩ := hg
        exact g_ls hx 2 a2 t2 g1 (by omega) g3 g4
      · obtain ⟨g1, g2, g3⟩ := hg
        exact ⟨g1, by omega, g3⟩
  · exact ⟨ht1, by rw [tn_add]; omega, hl⟩
theorem g_fun (hx : txOK X len tx) {pe : Nat → tS → PR} (hp : GE len pe) {d a : Nat} {t : tS} (ht : tOK t) (hn : tn t + 1 ≤ a) (hl : a ≤ len) : gd len (tn t) (pFun tx pe d a t) := by
  have h96 := hx.1
  have ht1 : tOK (tAdd t 6 0 (nI a)) := tOK_add ht (by omega)
  unfold pFun
  split
  · next h =>
    have h1 := hx.lt (a := a) (by omega)
    split
    · next h2 =>
      have h3 := hx.lt (a := a + 1) (by omega)
      have hg := g_par hx (d := d) (a := a + 1 + 1) ht1 (by rw [tn_add]; omega) (by omega)
      rw [tn_add] at hg
      generalize pPar tx d (a + 1 + 1) (tAdd t 6 0 (nI a)) = r at hg
      rcases r with ⟨c, a2, t2⟩ | ⟨a2, t2⟩
      · obtain ⟨rfl, g1, g2, g3, g4⟩ := hg
        have ht2 : tOK (tPart t2 (tn t) (tn t + 1)) := tOK_part g1 (by omega)
        show gd len (tn t) (if tx a2 = 32 then _ else _)
        split
        · next h4 =>
          have h5 := hx.lt (a := a2) (by omega)
          have hg2 := hp (a2 + 1) _ ht2 (by rw [tn_part]; omega) (by omega)
          rw [tn_part] at hg2
          generalize pe (a2 + 1) (tPart t2 (tn t) (tn t + 1)) = r2 at hg2
          rcases r2 with ⟨c, a4, t4⟩ | ⟨a4, t4⟩
          · obtain ⟨rfl, g5, g6, g7, g8⟩ := hg2
            exact g_close hx (tOK_part g5 (by omega)) (by rw [tn_part]; omega) (by rw [tn_part]; exact g7) g8
          · obtain ⟨g5, g6, g7⟩ := hg2
            exact ⟨g5, by omega, g7⟩
        · exact ⟨ht2, by rw [tn_part]; omega, g4⟩
      · obtain ⟨g1, g2, g3⟩ := hg
        exact ⟨g1, by omega, g3⟩
    · exact ⟨ht1, by rw [tn_add]; omega, by omega⟩
  · exact ⟨ht1, by rw [tn_add]; omega, hl⟩
theorem g_bv (hx : txOK X len tx) {pe pf : Nat → tS → PR} (hp : GE len pe) (hf : ∀ a t, tOK t → tn t + 1 ≤ a → a ≤ len → gd len (tn t) (pf a t)) {d n a : Nat} {t : tS} (ht : tOK t) (hn : tn t ≤ a) (hl : a ≤ len) : gd len (tn t) (pBv tx pe pf d n a t) := by
  unfold pBv
  split
  · split
    · next h =>
      have h1 := hx.lt (a := a) (by omega)
      exact hf _ _ ht (by omega) (by omega)
    · exact ⟨ht, Nat.le_refl _, hl⟩
  · exact hp _ _ ht hn hl
theorem g_bind (hx : txOK X len tx) {pe pf : Nat → tS → PR} (hp : GE len pe) (hf : ∀ a t, tOK t → tn t + 1 ≤ a → a ≤ len → gd len (tn t) (pf a t)) {d n a : Nat} {t : tS} (ht : tOK t) (hn : tn t ≤ a) (hl : a ≤ len) : gu len (tn t) (pBind tx pe pf d n a t) := by
  have h96 := hx.1
  unfold pBind
  split
  · next h =>
    have h1 := hx.lt (a := a) (by omega)
    split
    · next h2 =>
      have h3 := hx.lt (cL_ne h2.1)
      have ht1 : tOK (tAdd t 10 (nI (tx (a + 1))) (nI (a + 1))) := tOK_add ht (by omega)
      split
      · next h4 =>
        have h5 := hx.lt (a := a + 1 + 1) (by omega)
        have hg := g_bv hx hp hf (d := d) (n := n) (a := a + 1 + 1 + 1) ht1 (by rw [tn_add]; omega) (by omega)
        rw [tn_add] at hg
        generalize pBv tx pe pf d n (a + 1 + 1 + 1) (tAdd t 10 (nI (tx (a + 1))) (nI (a + 1))) = r at hg
        rcases r with ⟨c, a2, t2⟩ | ⟨a2, t2⟩
        · obtain ⟨rfl, g1, g2, g3, g4⟩ := hg
          have ht2 : tOK (tPart t2 (tn t) (tn t + 1)) := tOK_part g1 (by omega)
          show gu len (tn t) (if tx a2 = 41 then _ else _)
          split
          · next h6 =>
            have h7 := hx.lt (a := a2) (by omega)
            exact ⟨tOK_part ht2 (by omega), by rw [tn_part, tn_part]; omega, by rw [tn_part, tn_part]; omega, by omega⟩
          · exact ⟨ht2, by rw [tn_part]; omega, g4⟩
        · obtain ⟨g1, g2, g3⟩ := hg
          exact ⟨g1, by omega, g3⟩
      · exact ⟨ht1, by rw [tn_add]; omega, by omega⟩
    · exact ⟨ht, Nat.le_refl _, by omega⟩
  · exact ⟨ht, Nat.le_refl _, hl⟩
theorem g_bs (hx : txOK X len tx) {pb : Nat → tS → PU} (hp : ∀ a t, tOK t → tn t ≤ a → a ≤ len → gu len (tn t) (pb a t)) {n : Nat} : ∀ (k a : Nat) (t : tS), tOK t → n < tn t → tn t ≤ a → a ≤ len → gd len n (pBs tx pb n k a t)
  | 0, a, t, ht, hn, ha, hl => g_close hx ht hn ha hl
  | k + 1, a, t, ht, hn, ha, hl => by
    unfold pBs
    split
    · next h =>
      have h1 := hx.lt (a := a) (by omega)
      have hg := hp (a + 1) t ht (by omega) (by omega)
      generalize pb (a + 1) t = r at hg
      rcases r with ⟨a2, t2⟩ | ⟨a2, t2⟩
      · obtain ⟨g1, g2, g3, g4⟩ := hg
        exact g_bs hx hp k a2 t2 g1 (by omega) g3 g4
      · obtain ⟨g1, g2, g3⟩ := hg
        exact ⟨g1, by omega, g3⟩
    · exact g_close hx ht hn ha hl
theorem g_bou (hx : txOK X len tx) {pe : Nat → tS → PR} {pb : Nat → Nat → tS → PU} (hp : GE len pe) (hb : ∀ n a t, tOK t → tn t ≤ a → a ≤ len → gu len (tn t) (pb n a t)) {kd : Int32} (hkd : ¬ kd = 2) {a : Nat} {t : tS} (ht : tOK t) (hn : tn t + 1 ≤ a) (hl : a ≤ len) (h0 : ¬ tx a = 0) : gd len (tn t) (pBou tx pe pb kd a t) := by
  have h96 := hx.1
  have ht1 : tOK (tAdd t kd 0 (nI a)) := tOK_add ht (by omega) (fun h => absurd h hkd)
  have h9 := hx.lt h0
  unfold pBou
  split
  · next h =>
    have h1 := hx.lt (a := a + 1) (by omega)
    have hg := hp (a + 1 + 1) _ ht1 (by rw [tn_add]; omega) (by omega)
    rw [tn_add] at hg
    generalize pe (a + 1 + 1) (tAdd t kd 0 (nI a)) = r at hg
    rcases r with ⟨c, a2, t2⟩ | ⟨a2, t2⟩
    · obtain ⟨rfl, g1, g2, g3, g4⟩ := hg
      have ht2 : tOK (tPart t2 (tn t) (tn t + 1)) := tOK_part g1 (by omega)
      show gd len (tn t) (if tx a2 = 32 then _ else _)
      split
      · next h4 =>
        have h5 := hx.lt (a := a2) (by omega)
        have hg2 := hb (tn t) (a2 + 1) _ ht2 (by rw [tn_part]; omega) (by omega)
        rw [tn_part] at hg2
        generalize pb (tn t) (a2 + 1) (tPart t2 (tn t) (tn t + 1)) = r2 at hg2
        rcases r2 with ⟨a4, t4⟩ | ⟨a4, t4⟩
        · obtain ⟨g5, g6, g7, g8⟩ := hg2
          exact g_bs hx (hb (tn t)) 2 a4 t4 g5 (by omega) g7 g8
        · obtain ⟨g5, g6, g7⟩ := hg2
          exact ⟨g5, by omega, g7⟩
      · exact ⟨ht2, by rw [tn_part]; omega, g4⟩
    · obtain ⟨g1, g2, g3⟩ := hg
      exact ⟨g1, by omega, g3⟩
  · exact ⟨ht1, by rw [tn_add]; omega, by omega⟩
theorem g_call (hx : txOK X len tx) {pe : Nat → tS → PR} (hp : GE len pe) {a : Nat} {t : tS} (ht : tOK t) (hn : tn t + 1 ≤ a) (hl : a ≤ len) : gd len (tn t) (pCall tx pe a t) := by
  have h96 := hx.1
  have hg := hp a _ (tOK_add (k := 11) (v := 0) (p := nI a) ht (by omega)) (by rw [tn_add]; omega) hl
  rw [tn_add] at hg
  unfold pCall
  generalize pe a (tAdd t 11 0 (nI a)) = r at hg
  rcases r with ⟨c, a2, t2⟩ | ⟨a2, t2⟩
  · obtain ⟨rfl, g1, g2, g3, g4⟩ := hg
    exact g_more hx hp 3 a2 _ (tOK_part g1 (by omega)) (by rw [tn_part]; omega) (by rw [tn_part]; exact g3) g4
  · obtain ⟨g1, g2, g3⟩ := hg
    exact ⟨g1, by omega, g3⟩
theorem g_op (hx : txOK X len tx) {pe : Nat → tS → PR} (hp : GE len pe) {o a : Nat} {t : tS} (ht : tOK t) (hn : tn t + 1 ≤ a) (hl : a < len) : gd len (tn t) (pOp tx pe o a t) := by
  have h96 := hx.1
  exact g_args hx hp _ _ _ (tOK_add ht (by omega)) (by rw [tn_add]; omega) (by rw [tn_add]; omega) (by omega)
theorem opO_0 : opO 0 = none := by decide
theorem g_bra (hx : txOK X len tx) {pe pe2 pe3 : Nat → tS → PR} (h1 : GE len pe) (h2 : GE len pe2) (h3 : GE len pe3) {d a : Nat} {t : tS} (ht : tOK t) (hn : tn t + 1 ≤ a) (hl : a ≤ len) : gd len (tn t) (pBra tx pe pe2 pe3 d a t) := by
  unfold pBra
  split
  · exact g_fun hx h1 ht hn hl
  · split
    · next h =>
      exact g_bou hx h1 (hkd := by split <;> decide) (fun n a t g1 g2 g3 => g_bind hx h2 (fun a t q1 q2 q3 => g_fun hx h3 q1 q2 q3) g1 g2 g3) ht hn hl (by omega)
    · split
      · exact g_call hx h1 ht hn hl
      · next o ho =>
        have h0 : ¬ tx a = 0 := fun e => by rw [e, opO_0] at ho; cases ho
        split
        · exact g_call hx h1 ht hn hl
        · exact g_op hx h1 ht hn (hx.lt h0)
theorem g_ex (hx : txOK X len tx) : ∀ f d, GE len (pEx tx f d)
  | 0, d, a, t, ht, hn, hl => ⟨ht, Nat.le_refl _, hl⟩
  | f + 1, d, a, t, ht, hn, hl => by
    have h96 := hx.1
    unfold pEx
    split
    · next h =>
      have h1 := hx.lt (a := a) (by omega)
      split
      · exact g_bra hx (g_ex hx f (d + 1)) (g_ex hx f (d + 2)) (g_ex hx f (d + 3)) ht (by omega) (by omega)
      · exact ⟨ht, Nat.le_refl _, hl⟩
    · split
      · next h2 =>
        have h1 := hx.lt (a := a) (by omega)
        have hg := g_dat hx 11 d (a + 1) _ (tOK_add (k := 4) (v := 0) (p := nI a) ht (by omega)) (by rw [tn_add]; omega) (by omega)
        rw [tn_add] at hg
        generalize pDat tx 11 d (a + 1) (tAdd t 4 0 (nI a)) = r at hg
        rcases r with ⟨c, a2, t2⟩ | ⟨a2, t2⟩
        · obtain ⟨rfl, g1, g2, g3, g4⟩ := hg
          exact ⟨rfl, tOK_part g1 (by omega), by rw [tn_part]; omega, by rw [tn_part]; exact g3, g4⟩
        · obtain ⟨g1, g2, g3⟩ := hg
          exact ⟨g1, by omega, g3⟩
      · exact g_atom hx a t ht hn hl
end RD
end
section
def rq (Q : mj_R → Prop) (o0 : mj_O) (X : Nat → Int32) (len : Nat) (tl : List mj_O) (b0 b1 : Nat) (op : Bool) : PR → Prop
  | .inl (nd, a, t) => Q (.inl (some (.int (nI nd))), (rdW o0 t X len a tl, b0 + 1, b1, op))
  | .inr (a, t) => Q (.inr 0, (rdW o0 t X len a tl, b0, b1 - 6, false))
def ru (Q : mj_R → Prop) (o0 : mj_O) (X : Nat → Int32) (len : Nat) (tl : List mj_O) (b0 b1 : Nat) (op : Bool) : PU → Prop
  | .inl (a, t) => Q (.inl none, (rdW o0 t X len a tl, b0 + 1, b1, op))
  | .inr (a, t) => Q (.inr 0, (rdW o0 t X len a tl, b0, b1 - 6, false))
section P2g
variable {m b0 b1 : Nat} {op : Bool} {tl : List mj_O} {Q : mj_R → Prop} {xs : List Int32}
variable {o0 : mj_O} {t : tS} {X : Nat → Int32} {len a : Nat} {tx : Nat → Nat}
set_option maxRecDepth 10000
theorem x_codeAtX {x : Int32} {a9 : Nat} {y : Int32} (hy : y = nI a9) (hx : txOK X len tx) (ha : a9 < 1000) (hQ : Q (.inl (some (.int (nI (tx a9)))), (rdX o0 t X len x tl, b0, b1, op))) : mj_Mt gT (law_cst xs) gnw (m + 1) y_Text_codeAt [.ref 8, .int y] (rdX o0 t X len x tl, b0, b1, op) Q := by
  subst hy
  have hl := hx.1
  intro J hJ
  refine hJ _ _ _ _ ?_
  refine And.intro (fun g => absurd g (nI_pos (by omega))) (fun _ => ?_)
  refine And.intro (fun (g : nI len ≤ nI a9) => ?_) (fun (g : ¬ nI len ≤ nI a9) => ?_)
  · have h1 := (nI_leI (by omega) (by omega)).mp g
    rw [hx.2.2 a9 h1] at hQ
    exact hQ
  · have h1 : a9 < len := Nat.lt_of_not_le (fun q => g (nI_le q (by omega)))
    refine And.intro (vp_in_nI (by omega) (by decide)) ?_
    rw [← (hx.2.1 a9 h1).1] at hQ
    have key : ∀ j, j = a9 → Q (.inl (some (.int (X j))), (rdX o0 t X len x tl, b0, b1, op)) := by
      rintro j rfl
      exact hQ
    exact key _ (nI_clamp (by omega))
theorem q_need {c : Nat} {y : Int32} (hy : y = nI c) (hx : txOK X len tx) (ha : a < 1000) (hc : c ≤ 126) (h6 : 6 ≤ b1) (h1 : tx a = c → Q (.inl none, (rdW o0 t X len (a + 1) tl, b0 + 1, b1, op))) (h2 : ¬ tx a = c → Q (.inr 0, (rdW o0 t X len a tl, b0, b1 - 6, false))) : mj_Mt gT (law_cst xs) gnw (m + 2) y_Reader_need [.ref 10, .int y] (rdW o0 t X len a tl, b0 + 1, b1, op) Q := by
  subst hy
  have hle := hx.le a
  intro J hJ
  refine hJ _ _ _ _ ?_
  refine x_codeAt rfl hx ha ?_
  refine And.intro (fun g => ?_) (fun g => ?_)
  · have key : ∀ x : Int32, x = nI (a + 1) → Q (.inl none, (rdX o0 t X len x tl, b0 + 1, b1, op)) := by
      rintro x rfl
      exact h1 ((nI_eq (by omega) (by omega)).mp g)
    exact key _ (nI_1 a)
  · refine q_fail h6 ?_
    exact h2 (fun e => g (by rw [e]))
theorem q_open {d : Nat} {y : Int32} (hy : y = nI d) (hx : txOK X len tx) (ha : a < 1000) (hd : d < 1000) (h6 : 6 ≤ b1) (h1 : d < 9 → tx a = 40 → Q (.inl none, (rdW o0 t X len (a + 1) tl, b0 + 1, b1, op))) (h2 : ¬ (d < 9 ∧ tx a = 40) → Q (.inr 0, (rdW o0 t X len a tl, b0, b1 - 6, false))) : mj_Mt gT (law_cst xs) gnw (m + 3) y_Reader_open [.ref 10, .int y] (rdW o0 t X len a tl, b0 + 1, b1, op) Q := by
  subst hy
  intro J hJ
  refine hJ _ _ _ _ ?_
  refine And.intro (fun (g : nI d < nI 9) => ?_) (fun (g : ¬ nI d < nI 9) => ?_)
  · have hd9 := (nI_ltI (by omega) (by decide)).mp g
    refine q_need (c := 40) rfl hx ha (by decide) h6 (fun h => ?_) (fun h => ?_)
    · exact h1 hd9 h
    · exact h2 (fun q => h q.2)
  · have hd9 : 9 ≤ d := Nat.le_of_not_lt (fun q => g (nI_lt q (by decide)))
    refine q_fail h6 ?_
    exact h2 (fun q => by omega)
theorem q_among {o : Option Nat} {y : Int32} (hy : y = oV o) (hx : txOK X len tx) (ha : a < 1000) (ht : tOK t) (ho : ∀ i, o = some i → i < 1000) (h6 : 6 ≤ b1) (h1 : cL (tx a) = true → tPl t (nI (tx a)) 96 o = none → Q (.inl (some (.int (nI (tx a)))), (rdW o0 t X len a tl, b0 + 1, b1, op))) (h2 : ¬ (cL (tx a) = true ∧ tPl t (nI (tx a)) 96 o = none) → Q (.inr 0, (rdW o0 t X len a tl, b0, b1 - 6, false))) : mj_Mt gT (law_cst xs) gnw (m + 2) y_Reader_letterNotAmong [.ref 10, .int y] (rdW o0 t X len a tl, b0 + 1, b1, op) Q := by
  have hle := hx.le a
  intro J hJ
  refine hJ _ _ _ _ ?_
  refine x_codeAt rfl hx ha ?_
  refine q_isLetter hle ?_
  cases hc : cL (tx a) with
  | false =>
    refine And.intro (fun _ => ?_) (fun g => absurd rfl g)
    refine q_fail h6 ?_
    exact h2 (fun q => by rw [hc] at q; cases q.1)
  | true =>
    refine And.intro (fun g => absurd g (by decide)) (fun _ => ?_)
    refine t_placeOf hy ht ho ?_
    cases hp : tPl t (nI (tx a)) 96 o with
    | none =>
      refine And.intro (fun _ => ?_) (fun g => absurd rfl g)
      exact h1 hc hp
    | some i =>
      refine And.intro (fun g => ?_) (fun _ => ?_)
      · have : ¬ oV (some i) = -1 := by
          by_cases hi : i < 2 ^ 31
          · exact oV_ne hi
          · exfalso
            have hb : ∀ (k : Nat) (o : Option Nat) (i : Nat), tPl t (nI (tx a)) k o = some i → i < k := by
              intro k
              induction k with
              | zero => intro o i e; cases e
              | succ k ih =>
                intro o i e
                cases o with
                | none => cases e
                | some q =>
                  unfold tPl at e
                  split at e
                  · split at e
                    · cases e; omega
                    · cases h9 : tPl t (nI (tx a)) k (tN t q) with
                      | none => rw [h9] at e; cases e
                      | some w =>
                        rw [h9] at e
                        have := ih _ _ h9
                        cases e
                        show w + 1 < k + 1
                        omega
                  · cases e
            have := hb 96 o i hp
            omega
        exact absurd g this
      · refine q_fail h6 ?_
        exact h2 (fun q => by rw [hp] at q; cases q.2)
theorem q_num (hx : txOK X len tx) (ht : tOK t) (hn : tn t ≤ a) (hl : a ≤ len) (h6 : 6 ≤ b1) (hQ : rq Q o0 X len tl b0 b1 op (pNum tx a t)) : mj_Mt gT (law_cst xs) gnw (m + 2) y_Reader_number [.ref 10] (rdW o0 t X len a tl, b0 + 1, b1, op) Q := by
  have h96 := hx.1
  have hle := hx.le a
  have hA : a ≤ pA1 tx a ∧ pA1 tx a ≤ a + 1 := by
    unfold pA1
    split <;> omega
  intro J hJ
  have fin : ∀ (F : Nat) (s2 : Int32) (v4 : Value) (a2 : Nat) (v : Int32), (∃ w, v4 = .int w) → a ≤ pA1 tx a → cD (tx (pA1 tx a)) = true → (s2 = 0 ∧ ¬ tx a = 45 ∨ s2 = 1 ∧ tx a = 45) → (a2, v) = pDg tx 4 (pA1 tx a) 0 → mj_sg (mj_Mt gT (law_cst xs) gnw (m + 1)) (law_cst xs) gnw (mj_hd (mj_off kO_Reader_number) kH_Reader_number) kC_Reader_number J Q (F + 30) false 64 [some (.ref 10), some (.int (nI a)), some (.int s2), some (.int v), some v4] [] (rdW o0 t X len a2 tl, b0 + 1, b1, op) := by
    rintro F s2 v4 a2 v ⟨w, rfl⟩ _ hd hs e
    have h1 := hx.lt (a := pA1 tx a) (fun e => by rw [e] at hd; exact absurd hd (by decide))
    unfold pNum at hQ
    rw [if_pos hd, ← e] at hQ
    rcases hs with ⟨rfl, hs⟩ | ⟨rfl, hs⟩
    · refine And.intro (fun _ => ?_) (fun g => absurd rfl g)
      refine t_add (by omega) ?_
      have ev : pVal tx a = v := by unfold pVal; rw [if_neg hs, ← e]
      rw [ev] at hQ
      exact hQ
    · refine And.intro (fun g => absurd g (by decide)) (fun _ => ?_)
      refine t_add (by omega) ?_
      have ev : pVal tx a = -v := by unfold pVal; rw [if_pos hs, ← e]
      rw [ev] at hQ
      exact hQ
  have loop : ∀ (s2 : Int32), cD (tx (pA1 tx a)) = true → (s2 = 0 ∧ ¬ tx a = 45 ∨ s2 = 1 ∧ tx a = 45) → ∀ (k i a2 : Nat) (v x : Int32), k + i = 4 → x = nI i → a2 ≤ a + 1 + i → pDg tx k a2 v = pDg tx 4 (pA1 tx a) 0 → J 34 [some (.ref 10), some (.int (nI a)), some (.int s2), some (.int v), some (.int x)] [] (rdW o0 t X len a2 tl, b0 + 1, b1, op) := by
    intro s2 hd hs k
    induction k with
    | zero =>
      intro i a2 v x hi hxi ha2 e
      subst hxi
      obtain rfl : i = 4 := by omega
      refine hJ _ _ _ _ ?_
      refine And.intro (fun _ => ?_) (fun g => absurd (by decide) g)
      exact fin _ s2 _ a2 v ⟨_, rfl⟩ hA.1 hd hs e
    | succ k ih =>
      intro i a2 v x hi hxi ha2 e
      subst hxi
      refine hJ _ _ _ _ ?_
      refine And.intro (fun g => absurd g (nI_ge (a := i) (b := 4) (by omega) (by decide))) (fun _ => ?_)
      refine x_codeAt rfl hx (by omega) ?_
      refine q_isDigit (hx.le a2) ?_
      cases hc : cD (tx a2) with
      | false =>
        refine And.intro (fun _ => ?_) (fun g => absurd rfl g)
        refine fin _ s2 _ a2 v ⟨_, rfl⟩ hA.1 hd hs ?_
        rw [← e, pDg, hc]
        rfl
      | true =>
        refine And.intro (fun g => absurd g (by decide)) (fun _ => ?_)
        refine x_codeAt rfl hx (by omega) ?_
        have key : ∀ (x y : Int32), x = nI (a2 + 1) → y = nI (i + 1) → J 34 [some (.ref 10), some (.int (nI a)), some (.int s2), some (.int (Int32.ofInt 10 * v + nI (tx a2) - Int32.ofInt 48)), some (.int y)] [] (rdX o0 t X len x tl, b0 + 1, b1, op) := by
          rintro x y rfl rfl
          refine ih (i + 1) (a2 + 1) _ _ (by omega) rfl (by omega) ?_
          rw [← e]
          show _ = pDg tx (k + 1) a2 v
          rw [pDg, hc]
          rfl
        exact key _ _ (nI_1 a2) (nI_1 i)
  have bad : cD (tx (pA1 tx a)) = false → ∀ x : Int32, x = nI (pA1 tx a) → Q (.inr 0, (rdX o0 t X len x tl, b0, b1 - 6, false)) := by
    rintro hc x rfl
    unfold pNum at hQ
    rw [hc] at hQ
    exact hQ
  have good : ∀ (s2 : Int32), cD (tx (pA1 tx a)) = true → (s2 = 0 ∧ ¬ tx a = 45 ∨ s2 = 1 ∧ tx a = 45) → ∀ x : Int32, x = nI (pA1 tx a) → J 34 [some (.ref 10), some (.int (nI a)), some (.int s2), some (.int 0), some (.int 0)] [] (rdX o0 t X len x tl, b0 + 1, b1, op) := by
    rintro s2 hc hs x rfl
    exact loop s2 hc hs 4 0 (pA1 tx a) 0 0 rfl rfl (by omega) rfl
  refine hJ _ _ _ _ ?_
  refine x_codeAt rfl hx (by omega) ?_
  refine And.intro (fun g => ?_) (fun g => ?_)
  · have h45 : ¬ tx a = 45 := fun e => g (by rw [e]; rfl)
    have e1 : pA1 tx a = a := by unfold pA1; rw [if_neg h45]
    refine And.intro (fun _ => ?_) (fun g => absurd rfl g)
    refine x_codeAtX (a9 := pA1 tx a) (by rw [e1]) hx (by omega) ?_
    refine q_isDigit (hx.le _) ?_
    cases hc : cD (tx (pA1 tx a)) with
    | false =>
      refine And.intro (fun g => absurd rfl g) (fun _ => ?_)
      refine q_fail h6 ?_
      exact bad hc _ (by rw [e1])
    | true =>
      refine And.intro (fun _ => ?_) (fun g => absurd g (by decide))
      exact good 0 hc (Or.inl ⟨rfl, h45⟩) _ (by rw [e1])
  · have h45 : tx a = 45 := (nI_eq (a := tx a) (b := 45) (by omega) (by decide)).mp g
    have e1 : pA1 tx a = a + 1 := by unfold pA1; rw [if_pos h45]
    have e2 : nI a + Int32.ofInt 1 = nI (pA1 tx a) := by rw [e1]; exact nI_1 a
    refine And.intro (fun g => absurd g (by decide)) (fun _ => ?_)
    refine x_codeAtX (a9 := pA1 tx a) e2 hx (by omega) ?_
    refine q_isDigit (hx.le _) ?_
    cases hc : cD (tx (pA1 tx a)) with
    | false =>
      refine And.intro (fun g => absurd rfl g) (fun _ => ?_)
      refine q_fail h6 ?_
      exact bad hc _ e2
    | true =>
      refine And.intro (fun _ => ?_) (fun g => absurd g (by decide))
      exact good 1 hc (Or.inr ⟨rfl, h45⟩) _ e2
theorem q_atom (hx : txOK X len tx) (ht : tOK t) (hn : tn t ≤ a) (hl : a ≤ len) (h6 : 6 ≤ b1) (hQ : rq Q o0 X len tl b0 b1 op (pAtom tx a t)) : mj_Mt gT (law_cst xs) gnw (m + 3) y_Reader_atom [.ref 10] (rdW o0 t X len a tl, b0 + 1, b1, op) Q := by
  have h96 := hx.1
  unfold pAtom at hQ
  intro J hJ
  refine hJ _ _ _ _ ?_
  refine x_codeAt rfl hx (by omega) ?_
  refine q_isLetter (hx.le a) ?_
  cases hc : cL (tx a) with
  | false =>
    rw [hc] at hQ
    refine And.intro (fun g => absurd rfl g) (fun _ => ?_)
    refine q_num hx ht hn hl h6 ?_
    have hQ : rq Q o0 X len tl b0 b1 op (pNum tx a t) := hQ
    generalize pNum tx a t = r at hQ
    rcases r with ⟨c, a2, t2⟩ | ⟨a2, t2⟩ <;> exact hQ
  | true =>
    rw [hc] at hQ
    have h1 := hx.lt (cL_ne hc)
    refine And.intro (fun _ => ?_) (fun g => absurd g (by decide))
    refine t_add (by omega) ?_
    have key : ∀ x : Int32, x = nI (a + 1) → Q (.inl (some (.int (nI (tn t)))), (rdX o0 (tAdd t 2 (nI (tx a)) (nI a)) X len x tl, b0 + 1, b1, op)) := by
      rintro x rfl
      exact hQ
    exact key _ (nI_1 a)
end P2g
end
section
section P2h
variable {m b0 b1 : Nat} {op : Bool} {tl : List mj_O} {Q : mj_R → Prop} {xs : List Int32}
variable {o0 : mj_O} {t : tS} {X : Nat → Int32} {len a : Nat} {tx : Nat → Nat}
set_option maxRecDepth 10000
def HE (xs : List Int32) (o0 : mj_O) (X : Nat → Int32) (len : Nat) (tl : List mj_O) (b0 b1 : Nat) (op : Bool) (y lv : Nat) (pe : Nat → tS → PR) (d : Nat) : Prop :=
  ∀ (ℓ a : Nat) (t : tS) (x : Int32) (Q : mj_R → Prop), x = nI d → lv ≤ ℓ → tOK t → tn t ≤ a → a ≤ len → rq Q o0 X len tl b0 b1 op (pe a t) → mj_Mt gT (law_cst xs) gnw ℓ y [.ref 10, .int x] (rdW o0 t X len a tl, b0 + 1, b1, op) Q
theorem q_datLoop {l d n : Nat} {y : Int32} {J : Nat → mj_L → List Value → mj_H → Prop} (hJ : ∀ pc ls st h, mj_sg (mj_Mt gT (law_cst xs) gnw l) (law_cst xs) gnw (mj_hd (mj_off kO_Reader_datum) kH_Reader_datum) kC_Reader_datum J Q 400 true pc ls st h → J pc ls st h) (hx : txOK X len tx) (h6 : 6 ≤ b1) {pe : Nat → tS → PR} {lv : Nat} (HH : HE xs o0 X len tl b0 b1 op y_Reader_datum lv pe (d + 1)) (hy : y = nI d) (hlv : lv ≤ l) (h3 : 3 ≤ l) (hg : GE len pe) :
    ∀ (k i a : Nat) (t : tS) (x : Int32), k + i = 96 → x = nI i → tOK t → n < tn t → tn t ≤ a → a ≤ len → rq Q o0 X len tl b0 b1 op (pMore tx pe n k a t) → J 39 [some (.ref 10), some (.int y), some (.int (nI n)), some (.int x)] [] (rdW o0 t X len a tl, b0 + 1, b1, op) := by
  subst hy
  obtain ⟨l, rfl⟩ : ∃ l', l = l' + 3 := ⟨l - 3, by omega⟩
  have h96 := hx.1
  intro k
  induction k with
  | zero =>
    intro i a t x hi hxi ht hn ha hl hQ
    subst hxi
    obtain rfl : i = 96 := by omega
    refine hJ _ _ _ _ ?_
    refine And.intro (fun _ => ?_) (fun g => absurd (by decide) g)
    unfold pMore at hQ
    unfold pClose at hQ
    refine q_need (c := 41) rfl hx (by omega) (by decide) h6 (fun h => ?_) (fun h => ?_)
    · rw [if_pos h] at hQ
      exact hQ
    · rw [if_neg h] at hQ
      exact hQ
  | succ k ih =>
    intro i a t x hi hxi ht hn ha hl hQ
    subst hxi
    have hle := hx.le a
    refine hJ _ _ _ _ ?_
    refine And.intro (fun g => absurd g (nI_ge (a := i) (b := 96) (by omega) (by decide))) (fun _ => ?_)
    refine x_codeAt rfl hx (by omega) ?_
    unfold pMore at hQ
    refine And.intro (fun g => ?_) (fun g => ?_)
    · have h32 : ¬ tx a = 32 := fun e => g (by rw [e]; rfl)
      rw [if_neg h32] at hQ
      unfold pClose at hQ
      refine q_need (c := 41) rfl hx (by omega) (by decide) h6 (fun h => ?_) (fun h => ?_)
      · rw [if_pos h] at hQ
        exact hQ
      · rw [if_neg h] at hQ
        exact hQ
    · have h32 : tx a = 32 := (nI_eq (a := tx a) (b := 32) (by omega) (by decide)).mp g
      have h1 := hx.lt (a := a) (by omega)
      rw [if_pos h32] at hQ
      have hgd := hg (a + 1) t ht (by omega) (by omega)
      have key : ∀ z : Int32, z = nI (a + 1) → ∀ (Q' : mj_R → Prop), rq Q' o0 X len tl b0 b1 op (pe (a + 1) t) → mj_Mt gT (law_cst xs) gnw (l + 3) y_Reader_datum [.ref 10, .int (nI d + Int32.ofInt 1)] (rdX o0 t X len z tl, b0 + 1, b1, op) Q' := by
        rintro z rfl Q' hq
        exact HH (l + 3) (a + 1) t _ Q' (nI_1 d) hlv ht (by omega) (by omega) hq
      refine key _ (nI_1 a) _ ?_
      generalize pe (a + 1) t = r at hgd hQ
      rcases r with ⟨c, a2, t2⟩ | ⟨a2, t2⟩
      · obtain ⟨rfl, g1, g2, g3, g4⟩ := hgd
        refine t_addPart g1 (by omega) ?_
        exact ih (i + 1) a2 _ _ (by omega) (nI_1 i) (tOK_part g1 (by omega)) (by rw [tn_part]; omega) (by rw [tn_part]; exact g3) g4 hQ
      · exact hQ
theorem q_callLoop {l d n : Nat} {y : Int32} {J : Nat → mj_L → List Value → mj_H → Prop} (hJ : ∀ pc ls st h, mj_sg (mj_Mt gT (law_cst xs) gnw l) (law_cst xs) gnw (mj_hd (mj_off kO_Reader_call) kH_Reader_call) kC_Reader_call J Q 400 true pc ls st h → J pc ls st h) (hx : txOK X len tx) (h6 : 6 ≤ b1) {pe : Nat → tS → PR} {lv : Nat} (HH : HE xs o0 X len tl b0 b1 op y_Reader_expression lv pe d) (hy : y = nI d) (hlv : lv ≤ l) (h3 : 3 ≤ l) (hg : GE len pe) :
    ∀ (k i a : Nat) (t : tS) (x : Int32), k + i = 3 → x = nI i → tOK t → n < tn t → tn t ≤ a → a ≤ len → rq Q o0 X len tl b0 b1 op (pMore tx pe n k a t) → J 17 [some (.ref 10), some (.int y), some (.int (nI n)), some (.int x)] [] (rdW o0 t X len a tl, b0 + 1, b1, op) := by
  subst hy
  obtain ⟨l, rfl⟩ : ∃ l', l = l' + 3 := ⟨l - 3, by omega⟩
  have h96 := hx.1
  intro k
  induction k with
  | zero =>
    intro i a t x hi hxi ht hn ha hl hQ
    subst hxi
    obtain rfl : i = 3 := by omega
    refine hJ _ _ _ _ ?_
    refine And.intro (fun _ => ?_) (fun g => absurd (by decide) g)
    unfold pMore at hQ
    unfold pClose at hQ
    refine q_need (c := 41) rfl hx (by omega) (by decide) h6 (fun h => ?_) (fun h => ?_)
    · rw [if_pos h] at hQ
      exact hQ
    · rw [if_neg h] at hQ
      exact hQ
  | succ k ih =>
    intro i a t x hi hxi ht hn ha hl hQ
    subst hxi
    have hle := hx.le a
    refine hJ _ _ _ _ ?_
    refine And.intro (fun g => absurd g (nI_ge (a := i) (b := 3) (by omega) (by decide))) (fun _ => ?_)
    refine x_codeAt rfl hx (by omega) ?_
    unfold pMore at hQ
    refine And.intro (fun g => ?_) (fun g => ?_)
    · have h32 : ¬ tx a = 32 := fun e => g (by rw [e]; rfl)
      rw [if_neg h32] at hQ
      unfold pClose at hQ
      refine q_need (c := 41) rfl hx (by omega) (by decide) h6 (fun h => ?_) (fun h => ?_)
      · rw [if_pos h] at hQ
        exact hQ
      · rw [if_neg h] at hQ
        exact hQ
    · have h32 : tx a = 32 := (nI_eq (a := tx a) (b := 32) (by omega) (by decide)).mp g
      have h1 := hx.lt (a := a) (by omega)
      rw [if_pos h32] at hQ
      have hgd := hg (a + 1) t ht (by omega) (by omega)
      have key : ∀ z : Int32, z = nI (a + 1) → ∀ (Q' : mj_R → Prop), rq Q' o0 X len tl b0 b1 op (pe (a + 1) t) → mj_Mt gT (law_cst xs) gnw (l + 3) y_Reader_expression [.ref 10, .int (nI d)] (rdX o0 t X len z tl, b0 + 1, b1, op) Q' := by
        rintro z rfl Q' hq
        exact HH (l + 3) (a + 1) t _ Q' rfl hlv ht (by omega) (by omega) hq
      refine key _ (nI_1 a) _ ?_
      generalize pe (a + 1) t = r at hgd hQ
      rcases r with ⟨c, a2, t2⟩ | ⟨a2, t2⟩
      · obtain ⟨rfl, g1, g2, g3, g4⟩ := hgd
        refine t_addPart g1 (by omega) ?_
        exact ih (i + 1) a2 _ _ (by omega) (nI_1 i) (tOK_part g1 (by omega)) (by rw [tn_part]; omega) (by rw [tn_part]; exact g3) g4 hQ
      · exact hQ
theorem q_dat (hx : txOK X len tx) (h6 : 6 ≤ b1) : ∀ (f d : Nat), 1 ≤ f → 10 ≤ f + d → d ≤ 20 → HE xs o0 X len tl b0 b1 op y_Reader_datum (f + 8) (pDat tx f d) d
  | 0, d, h, _, _ => by omega
  | f + 1, d, _, hfd, hd => by
    intro ℓ a t x Q hx9 hlv ht hn hl hQ
    subst hx9
    have h96 := hx.1
    have hle := hx.le a
    obtain ⟨l, rfl⟩ : ∃ l, ℓ = l + 8 := ⟨ℓ - 8, by omega⟩
    unfold pDat at hQ
    intro J hJ
    refine hJ _ _ _ _ ?_
    refine x_codeAt rfl hx (by omega) ?_
    refine And.intro (fun g => ?_) (fun g => ?_)
    · have h40 : tx a = 40 := (nI_eq (a := tx a) (b := 40) (by omega) (by decide)).mp g
      have h1 := hx.lt (a := a) (by omega)
      rw [if_pos h40] at hQ
      refine t_add (by omega) ?_
      have ht1 : tOK (tAdd t 3 0 (nI a)) := tOK_add ht (by omega)
      refine q_open rfl hx (by omega) (by omega) h6 (fun hd9 _ => ?_) (fun h => ?_)
      · rw [if_neg (by omega)] at hQ
        have hle1 := hx.le (a + 1)
        refine x_codeAt rfl hx (by omega) ?_
        refine And.intro (fun g2 => ?_) (fun g2 => ?_)
        · have h41 : tx (a + 1) = 41 := (nI_eq (a := tx (a + 1)) (b := 41) (by omega) (by decide)).mp g2
          rw [if_pos h41] at hQ
          refine q_need (c := 41) rfl hx (by omega) (by decide) h6 (fun h => ?_) (fun h => absurd h41 h)
          exact hQ
        · have h41 : ¬ tx (a + 1) = 41 := fun e => g2 (by rw [e]; rfl)
          rw [if_neg h41] at hQ
          have hgd := g_dat hx f (d + 1) (a + 1) (tAdd t 3 0 (nI a)) ht1 (by rw [tn_add]; omega) (by omega)
          rw [tn_add] at hgd
          have hH := q_dat hx h6 f (d + 1) (by omega) (by omega) (by omega)
          refine hH (l + 7) (a + 1) (tAdd t 3 0 (nI a)) _ _ (nI_1 d) (by omega) ht1 (by rw [tn_add]; omega) (by omega) ?_
          generalize pDat tx f (d + 1) (a + 1) (tAdd t 3 0 (nI a)) = r at hgd hQ
          rcases r with ⟨c, a2, t2⟩ | ⟨a2, t2⟩
          · obtain ⟨rfl, g1, g5, g3, g4⟩ := hgd
            refine t_addPart g1 (by omega) ?_
            exact q_datLoop hJ hx h6 hH rfl (by omega) (by omega) (g_dat hx f (d + 1)) 95 1 a2 _ _ rfl rfl (tOK_part g1 (by omega)) (by rw [tn_part]; omega) (by rw [tn_part]; exact g3) g4 hQ
          · exact hQ
      · rw [if_pos (by omega)] at hQ
        exact hQ
    · have h40 : ¬ tx a = 40 := fun e => g (by rw [e]; rfl)
      rw [if_neg h40] at hQ
      refine q_atom hx ht hn hl h6 ?_
      generalize pAtom tx a t = r at hQ
      rcases r with ⟨c, a2, t2⟩ | ⟨a2, t2⟩ <;> exact hQ
theorem q_let {p : Nat} {y : Int32} (hy : y = nI p) (hx : txOK X len tx) (ht : tOK t) (hp : p < tn t) (hn : tn t ≤ a) (hl : a ≤ len) (h6 : 6 ≤ b1) (hQ : ru Q o0 X len tl b0 b1 op (pLet tx p a t)) : mj_Mt gT (law_cst xs) gnw (m + 3) y_Reader_parameter [.ref 10, .int y] (rdW o0 t X len a tl, b0 + 1, b1, op) Q := by
  subst hy
  have h96 := hx.1
  unfold pLet at hQ
  intro J hJ
  refine hJ _ _ _ _ ?_
  refine t_firstPart (o := some p) rfl ht.1 (fun i e => by cases e; omega) ?_
  refine q_among rfl hx (by omega) ht (tEn_lt ht.2.1 _) h6 (fun g1 g2 => ?_) (fun g => ?_)
  · rw [if_pos ⟨g1, g2⟩] at hQ
    have h1 := hx.lt (cL_ne g1)
    refine t_add (by omega) ?_
    refine t_addPart (tOK_add ht (by omega) (fun _ => ⟨_, by have := hx.le a; omega, rfl⟩)) (by rw [tn_add]; omega) ?_
    have key : ∀ x : Int32, x = nI (a + 1) → Q (.inl none, (rdX o0 (tPart (tAdd t 2 (nI (tx a)) (nI a)) p (tn t)) X len x tl, b0 + 1, b1, op)) := by
      rintro x rfl
      exact hQ
    exact key _ (nI_1 a)
  · rw [if_neg g] at hQ
    exact hQ
theorem q_lsLoop {l n : Nat} {y : Int32} {J : Nat → mj_L → List Value → mj_H → Prop} (hJ : ∀ pc ls st h, mj_sg (mj_Mt gT (law_cst xs) gnw l) (law_cst xs) gnw (mj_hd (mj_off kO_Reader_parameters) kH_Reader_parameters) kC_Reader_parameters J Q 400 true pc ls st h → J pc ls st h) (hx : txOK X len tx) (h6 : 6 ≤ b1) (h3 : 3 ≤ l) :
    ∀ (k i a : Nat) (t : tS) (x : Int32), k + i = 3 → x = nI i → tOK t → n < tn t → tn t ≤ a → a ≤ len → rq Q o0 X len tl b0 b1 op (pLs tx n k a t) → J 23 [some (.ref 10), some (.int y), some (.int (nI n)), some (.int x)] [] (rdW o0 t X len a tl, b0 + 1, b1, op) := by
  obtain ⟨l, rfl⟩ : ∃ l', l = l' + 3 := ⟨l - 3, by omega⟩
  have h96 := hx.1
  intro k
  induction k with
  | zero =>
    intro i a t x hi hxi ht hn ha hl hQ
    subst hxi
    obtain rfl : i = 3 := by omega
    refine hJ _ _ _ _ ?_
    refine And.intro (fun _ => ?_) (fun g => absurd (by decide) g)
    unfold pLs at hQ
    unfold pClose at hQ
    refine q_need (c := 41) rfl hx (by omega) (by decide) h6 (fun h => ?_) (fun h => ?_)
    · rw [if_pos h] at hQ
      exact hQ
    · rw [if_neg h] at hQ
      exact hQ
  | succ k ih =>
    intro i a t x hi hxi ht hn ha hl hQ
    subst hxi
    have hle := hx.le a
    refine hJ _ _ _ _ ?_
    refine And.intro (fun g => absurd g (nI_ge (a := i) (b := 3) (by omega) (by decide))) (fun _ => ?_)
    refine x_codeAt rfl hx (by omega) ?_
    unfold pLs at hQ
    refine And.intro (fun g => ?_) (fun g => ?_)
    · have h32 : ¬ tx a = 32 := fun e => g (by rw [e]; rfl)
      rw [if_neg h32] at hQ
      unfold pClose at hQ
      refine q_need (c := 41) rfl hx (by omega) (by decide) h6 (fun h => ?_) (fun h => ?_)
      · rw [if_pos h] at hQ
        exact hQ
      · rw [if_neg h] at hQ
        exact hQ
    · have h32 : tx a = 32 := (nI_eq (a := tx a) (b := 32) (by omega) (by decide)).mp g
      have h1 := hx.lt (a := a) (by omega)
      rw [if_pos h32] at hQ
      have hgd := g_let hx (p := n) (a := a + 1) ht (by omega) (by omega)
      have key : ∀ z : Int32, z = nI (a + 1) → ∀ (Q' : mj_R → Prop), ru Q' o0 X len tl b0 b1 op (pLet tx n (a + 1) t) → mj_Mt gT (law_cst xs) gnw (l + 3) y_Reader_parameter [.ref 10, .int (nI n)] (rdX o0 t X len z tl, b0 + 1, b1, op) Q' := by
        rintro z rfl Q' hq
        exact q_let rfl hx ht hn (by omega) (by omega) h6 hq
      refine key _ (nI_1 a) _ ?_
      generalize pLet tx n (a + 1) t = r at hgd hQ
      rcases r with ⟨a2, t2⟩ | ⟨a2, t2⟩
      · obtain ⟨g1, g2, g3, g4⟩ := hgd
        exact ih (i + 1) a2 t2 _ (by omega) (nI_1 i) g1 (by omega) g3 g4 hQ
      · exact hQ
theorem q_par {d : Nat} {y : Int32} (hy : y = nI d) (hx : txOK X len tx) (ht : tOK t) (hn : tn t + 2 ≤ a) (hl : a ≤ len) (hd : d < 1000) (h6 : 6 ≤ b1) (hQ : rq Q o0 X len tl b0 b1 op (pPar tx d a t)) : mj_Mt gT (law_cst xs) gnw (m + 4) y_Reader_parameters [.ref 10, .int y] (rdW o0 t X len a tl, b0 + 1, b1, op) Q := by
  subst hy
  have h96 := hx.1
  have ht1 : tOK (tAdd t 7 0 (nI a)) := tOK_add ht (by omega)
  unfold pPar at hQ
  intro J hJ
  refine hJ _ _ _ _ ?_
  refine t_add (k := 7) (v := 0) (by omega) ?_
  refine q_open rfl hx (by omega) hd h6 (fun hd9 h40 => ?_) (fun h => ?_)
  · rw [if_pos ⟨hd9, h40⟩] at hQ
    have h1 := hx.lt (a := a) (by omega)
    have hle1 := hx.le (a + 1)
    refine x_codeAt rfl hx (by omega) ?_
    refine And.intro (fun g2 => ?_) (fun g2 => ?_)
    · have h41 : tx (a + 1) = 41 := (nI_eq (a := tx (a + 1)) (b := 41) (by omega) (by decide)).mp g2
      rw [if_pos h41] at hQ
      refine q_need (c := 41) rfl hx (by omega) (by decide) h6 (fun h => ?_) (fun h => absurd h41 h)
      exact hQ
    · have h41 : ¬ tx (a + 1) = 41 := fun e => g2 (by rw [e]; rfl)
      rw [if_neg h41] at hQ
      have hgd := g_let hx (p := tn t) (a := a + 1) ht1 (by rw [tn_add]; omega) (by omega)
      rw [tn_add] at hgd
      refine q_let (p := tn t) rfl hx ht1 (by rw [tn_add]; omega) (by rw [tn_add]; omega) (by omega) h6 ?_
      generalize pLet tx (tn t) (a + 1) (tAdd t 7 0 (nI a)) = r at hgd hQ
      rcases r with ⟨a2, t2⟩ | ⟨a2, t2⟩
      · obtain ⟨g1, g5, g3, g4⟩ := hgd
        exact q_lsLoop hJ hx h6 (by omega) 2 1 a2 t2 _ rfl rfl g1 (by omega) g3 g4 hQ
      · exact hQ
  · rw [if_neg h] at hQ
    exact hQ
theorem q_fun {l d : Nat} {y : Int32} (hy : y = nI d) (hx : txOK X len tx) (ht : tOK t) (hn : tn t + 1 ≤ a) (hl : a ≤ len) (hd : d < 1000) (h6 : 6 ≤ b1) {pe : Nat → tS → PR} {lv : Nat} (HH : HE xs o0 X len tl b0 b1 op y_Reader_expression lv pe d) (hlv : lv ≤ l) (h3 : 4 ≤ l) (hg : GE len pe) (hQ : rq Q o0 X len tl b0 b1 op (pFun tx pe d a t)) : mj_Mt gT (law_cst xs) gnw (l + 1) y_Reader_function [.ref 10, .int y] (rdW o0 t X len a tl, b0 + 1, b1, op) Q := by
  subst hy
  obtain ⟨l, rfl⟩ : ∃ l', l = l' + 4 := ⟨l - 4, by omega⟩
  have h96 := hx.1
  have ht1 : tOK (tAdd t 6 0 (nI a)) := tOK_add ht (by omega)
  unfold pFun at hQ
  intro J hJ
  refine hJ _ _ _ _ ?_
  refine t_add (k := 6) (v := 0) (by omega) ?_
  refine q_need (c := 92) rfl hx (by omega) (by decide) h6 (fun h => ?_) (fun h => ?_)
  · rw [if_pos h] at hQ
    have h1 := hx.lt (a := a) (by omega)
    refine q_need (c := 32) rfl hx (by omega) (by decide) h6 (fun h2 => ?_) (fun h2 => ?_)
    · rw [if_pos h2] at hQ
      have h3 := hx.lt (a := a + 1) (by omega)
      have hgd := g_par hx (d := d) (a := a + 1 + 1) ht1 (by rw [tn_add]; omega) (by omega)
      rw [tn_add] at hgd
      refine q_par rfl hx ht1 (by rw [tn_add]; omega) (by omega) hd h6 ?_
      generalize pPar tx d (a + 1 + 1) (tAdd t 6 0 (nI a)) = r at hgd hQ
      rcases r with ⟨c, a2, t2⟩ | ⟨a2, t2⟩
      · obtain ⟨rfl, g1, g2, g3, g4⟩ := hgd
        have ht2 : tOK (tPart t2 (tn t) (tn t + 1)) := tOK_part g1 (by omega)
        have hQ : rq Q o0 X len tl b0 b1 op (if tx a2 = 32 then _ else _) := hQ
        refine t_addPart g1 (by omega) ?_
        refine q_need (c := 32) rfl hx (by omega) (by decide) h6 (fun h4 => ?_) (fun h4 => ?_)
        · rw [if_pos h4] at hQ
          have h5 := hx.lt (a := a2) (by omega)
          have hg2 := hg (a2 + 1) _ ht2 (by rw [tn_part]; omega) (by omega)
          rw [tn_part] at hg2
          refine HH (l + 4) (a2 + 1) _ _ _ rfl hlv ht2 (by rw [tn_part]; omega) (by omega) ?_
          generalize pe (a2 + 1) (tPart t2 (tn t) (tn t + 1)) = r2 at hg2 hQ
          rcases r2 with ⟨c, a4, t4⟩ | ⟨a4, t4⟩
          · obtain ⟨rfl, g5, g6, g7, g8⟩ := hg2
            refine t_addPart g5 (by omega) ?_
            have hQ : rq Q o0 X len tl b0 b1 op (if tx a4 = 41 then _ else _) := hQ
            refine q_need (c := 41) rfl hx (by omega) (by decide) h6 (fun h => ?_) (fun h => ?_)
            · rw [if_pos h] at hQ
              exact hQ
            · rw [if_neg h] at hQ
              exact hQ
          · exact hQ
        · rw [if_neg h4] at hQ
          exact hQ
      · exact hQ
    · rw [if_neg h2] at hQ
      exact hQ
  · rw [if_neg h] at hQ
    exact hQ
end P2h
end
