abbrev tS : Type := Nat × (Nat → Int32) × (Nat → Int32) × (Nat → Int32) × (Nat → Option Nat) × (Nat → Option Nat) × (Nat → Option Nat)
abbrev tn (t : tS) : Nat := t.1
abbrev tK (t : tS) : Nat → Int32 := t.2.1
abbrev tV (t : tS) : Nat → Int32 := t.2.2.1
abbrev tP (t : tS) : Nat → Int32 := t.2.2.2.1
abbrev tF (t : tS) : Nat → Option Nat := t.2.2.2.2.1
abbrev tL (t : tS) : Nat → Option Nat := t.2.2.2.2.2.1
abbrev tN (t : tS) : Nat → Option Nat := t.2.2.2.2.2.2
def oV : Option Nat → Int32
  | none => -1
  | some k => nI k
abbrev eO (g : Nat → Option Nat) : Nat → Int32 := fun i => oV (g i)
theorem upd_eO (g : Nat → Option Nat) (k : Nat) (x : Option Nat) : upd (eO g) k (oV x) = eO (upW g k x) := by
  funext j
  show (if j = k then oV x else oV (g j)) = oV (if j = k then x else g j)
  split <;> rfl
theorem oV_ne {k : Nat} (h : k < 2 ^ 31) : ¬ oV (some k) = -1 := by
  intro e
  have := congrArg Int32.toInt e
  rw [show oV (some k) = nI k from rfl, nI_toInt h] at this
  have h2 : (-1 : Int32).toInt = -1 := by decide
  omega
def tAdd (t : tS) (k v p : Int32) : tS := (tn t + 1, upd (tK t) (tn t) k, upd (tV t) (tn t) v, upd (tP t) (tn t) p, upW (tF t) (tn t) none, upW (tL t) (tn t) none, upW (tN t) (tn t) none)
def tPart (t : tS) (nd pt : Nat) : tS := match tL t nd with
  | none => (tn t, tK t, tV t, tP t, upW (tF t) nd (some pt), upW (tL t) nd (some pt), tN t)
  | some l => (tn t, tK t, tV t, tP t, tF t, upW (tL t) nd (some pt), upW (tN t) l (some pt))
def tEn (t : tS) (g : Nat → Option Nat) : Option Nat → Option Nat
  | none => none
  | some i => if i < tn t then g i else none
def tEi (t : tS) (g : Nat → Int32) : Option Nat → Int32
  | none => -1
  | some i => if i < tn t then g i else -1
def tPt (t : tS) : Nat → Option Nat → Option Nat
  | 0, o => o
  | k + 1, o => tPt t k (tEn t (tN t) o)
def tCn (t : tS) : Nat → Option Nat → Nat
  | 0, _ => 0
  | _ + 1, none => 0
  | k + 1, some i => tCn t k (tEn t (tN t) (some i)) + 1
def tPl (t : tS) (c : Int32) : Nat → Option Nat → Option Nat
  | 0, _ => none
  | _ + 1, none => none
  | k + 1, some i => if i < tn t then (if tV t i = c then some 0 else (tPl t c k (tN t i)).map (· + 1)) else none
def tOK (t : tS) : Prop := tn t ≤ 96 ∧ (∀ i j, tF t i = some j → j < 96) ∧ ((∀ i j, tL t i = some j → j < 96) ∧ ∀ i, i < tn t → tK t i = 2 → ∃ c : Nat, c < 256 ∧ tV t i = nI c) ∧ ∀ i j, tN t i = some j → j < 96
theorem upW_lt {g : Nat → Option Nat} {k : Nat} {x : Option Nat} (h : ∀ i j, g i = some j → j < 96) (hx : ∀ j, x = some j → j < 96) : ∀ i j, upW g k x i = some j → j < 96 := by
  intro i j e
  unfold upW at e
  split at e
  · exact hx j e
  · exact h i j e
theorem tOK_add {t : tS} {k v p : Int32} (h : tOK t) (hn : tn t < 96) (hk : k = 2 → ∃ c : Nat, c < 256 ∧ v = nI c := by exact fun h => absurd h (by decide)) : tOK (tAdd t k v p) := by
  refine ⟨hn, upW_lt h.2.1 (fun _ e => by cases e), ⟨upW_lt h.2.2.1.1 (fun _ e => by cases e), fun i hi e => ?_⟩, upW_lt h.2.2.2 (fun _ e => by cases e)⟩
  have hi : i < tn t + 1 := hi
  have e : (if i = tn t then k else tK t i) = 2 := e
  show ∃ c : Nat, c < 256 ∧ (if i = tn t then v else tV t i) = nI c
  by_cases h1 : i = tn t
  · rw [if_pos h1] at e ⊢
    exact hk e
  · rw [if_neg h1] at e ⊢
    exact h.2.2.1.2 i (by omega) e
theorem tOK_part {t : tS} {nd pt : Nat} (h : tOK t) (hp : pt < 96) : tOK (tPart t nd pt) := by
  unfold tPart
  split
  · exact ⟨h.1, upW_lt h.2.1 (fun _ e => by cases e; exact hp), ⟨upW_lt h.2.2.1.1 (fun _ e => by cases e; exact hp), h.2.2.1.2⟩, h.2.2.2⟩
  · exact ⟨h.1, h.2.1, ⟨upW_lt h.2.2.1.1 (fun _ e => by cases e; exact hp), h.2.2.1.2⟩, upW_lt h.2.2.2 (fun _ e => by cases e; exact hp)⟩
theorem tn_part {t : tS} {nd pt : Nat} : tn (tPart t nd pt) = tn t := by
  unfold tPart
  split <;> rfl
def rdX (o0 : mj_O) (t : tS) (X : Nat → Int32) (len : Nat) (x : Int32) (tl : List mj_O) : List mj_O :=
  o0 :: oF 2 [.ref 2, .ref 3, .ref 4, .ref 5, .ref 6, .ref 7, .int (nI (tn t))] :: oI 96 (tK t) :: oI 96 (tV t) :: oI 96 (tP t) :: oI 96 (eO (tF t)) :: oI 96 (eO (tL t)) :: oI 96 (eO (tN t)) :: oF 1 [.ref 9, .int (nI len)] :: oC 96 X :: oF 3 [.ref 8, .ref 1, .int x] :: tl
abbrev rdW (o0 : mj_O) (t : tS) (X : Nat → Int32) (len a : Nat) (tl : List mj_O) : List mj_O := rdX o0 t X len (nI a) tl
def txOK (X : Nat → Int32) (len : Nat) (tx : Nat → Nat) : Prop := len ≤ 96 ∧ (∀ i, i < len → X i = nI (tx i) ∧ 32 ≤ tx i ∧ tx i ≤ 126) ∧ ∀ i, len ≤ i → tx i = 0
theorem txOK.lt {X : Nat → Int32} {len : Nat} {tx : Nat → Nat} (h : txOK X len tx) {a : Nat} (ha : ¬ tx a = 0) : a < len := Nat.lt_of_not_le (fun q => ha (h.2.2 a q))
theorem txOK.le {X : Nat → Int32} {len : Nat} {tx : Nat → Nat} (h : txOK X len tx) (a : Nat) : tx a ≤ 126 := by
  by_cases e : a < len
  · exact (h.2.1 a e).2.2
  · rw [h.2.2 a (by omega)]; omega
def cL (c : Nat) : Bool := decide (97 ≤ c ∧ c ≤ 122)
def cD (c : Nat) : Bool := decide (48 ≤ c ∧ c ≤ 57)
section P2f
variable {cst : Nat → Option (Nat × (Nat → Int32))} {m b0 b1 : Nat} {op : Bool} {tl : List mj_O} {Q : mj_R → Prop} {xs : List Int32}
variable {o0 : mj_O} {t : tS} {X : Nat → Int32} {len a : Nat} {tx : Nat → Nat}
set_option maxRecDepth 10000
theorem q_fail {os : List mj_O} (h6 : 6 ≤ b1) (hQ : Q (.inr 0, (os, b0, b1 - 6, false))) : mj_Mt gT cst gnw (m + 1) y_Reader_fail [] (os, b0 + 1, b1, op) Q := by
  intro J hJ
  refine hJ _ _ _ _ ?_
  exact And.intro h6 hQ
theorem q_isLetter {h : mj_H} {c : Nat} (hc : c ≤ 126) (hQ : Q (.inl (some (.int (bJ (cL c)))), h)) : mj_Mt gT cst gnw (m + 1) y_Reader_isLetter [.int (nI c)] h Q := by
  intro J hJ
  refine hJ _ _ _ _ ?_
  refine And.intro (fun (g : nI c < nI 97) => ?_) (fun (g : ¬ nI c < nI 97) => ?_)
  · have h1 := (nI_ltI (by omega) (by decide)).mp g
    rw [show cL c = false from decide_eq_false (by omega)] at hQ
    exact And.intro (Or.inl rfl) hQ
  · have h1 : 97 ≤ c := Nat.le_of_not_lt (fun q => g (nI_lt q (by decide)))
    refine And.intro (fun (g2 : nI 122 < nI c) => ?_) (fun (g2 : ¬ nI 122 < nI c) => ?_)
    · have h2 := (nI_ltI (by decide) (by omega)).mp g2
      rw [show cL c = false from decide_eq_false (by omega)] at hQ
      exact And.intro (Or.inl rfl) hQ
    · have h2 : c ≤ 122 := Nat.le_of_not_lt (fun q => g2 (nI_lt q (by omega)))
      rw [show cL c = true from decide_eq_true ⟨h1, h2⟩] at hQ
      exact And.intro (Or.inr rfl) hQ
theorem q_isDigit {h : mj_H} {c : Nat} (hc : c ≤ 126) (hQ : Q (.inl (some (.int (bJ (cD c)))), h)) : mj_Mt gT cst gnw (m + 1) y_Reader_isDigit [.int (nI c)] h Q := by
  intro J hJ
  refine hJ _ _ _ _ ?_
  refine And.intro (fun (g : nI c < nI 48) => ?_) (fun (g : ¬ nI c < nI 48) => ?_)
  · have h1 := (nI_ltI (by omega) (by decide)).mp g
    rw [show cD c = false from decide_eq_false (by omega)] at hQ
    exact And.intro (Or.inl rfl) hQ
  · have h1 : 48 ≤ c := Nat.le_of_not_lt (fun q => g (nI_lt q (by decide)))
    refine And.intro (fun (g2 : nI 57 < nI c) => ?_) (fun (g2 : ¬ nI 57 < nI c) => ?_)
    · have h2 := (nI_ltI (by decide) (by omega)).mp g2
      rw [show cD c = false from decide_eq_false (by omega)] at hQ
      exact And.intro (Or.inl rfl) hQ
    · have h2 : c ≤ 57 := Nat.le_of_not_lt (fun q => g2 (nI_lt q (by omega)))
      rw [show cD c = true from decide_eq_true ⟨h1, h2⟩] at hQ
      exact And.intro (Or.inr rfl) hQ
theorem x_codeAt {a9 : Nat} {y : Int32} (hy : y = nI a9) (hx : txOK X len tx) (ha : a9 < 1000) (hQ : Q (.inl (some (.int (nI (tx a9)))), (rdW o0 t X len a tl, b0, b1, op))) : mj_Mt gT cst gnw (m + 1) y_Text_codeAt [.ref 8, .int y] (rdW o0 t X len a tl, b0, b1, op) Q := by
  subst hy
  have hl := hx.1
  intro J hJ
  refine hJ _ _ _ _ ?_
  refine And.intro (fun g => absurd g (nI_pos (by omega))) (fun _ => ?_)
  refine And.intro (fun (g : nI len ≤ nI a9) => ?_) (fun (g : ¬ nI len ≤ nI a9) => ?_)
  · have h1 := (nI_leI (by omega) (by omega)).mp g
    rw [hx.2.2 a9 h1] at hQ
    exact hQ
  · have h1 : a9 < len := Nat.lt_of_not_le (fun q => g (nI_le q (by omega)))
    refine And.intro (vp_in_nI (by omega) (by decide)) ?_
    rw [← (hx.2.1 a9 h1).1] at hQ
    have key : ∀ j, j = a9 → Q (.inl (some (.int (X j))), (rdW o0 t X len a tl, b0, b1, op)) := by
      rintro j rfl
      exact hQ
    exact key _ (nI_clamp (by omega))
theorem t_add {k v p : Int32} (hn : tn t < 96) (hQ : Q (.inl (some (.int (nI (tn t)))), (rdW o0 (tAdd t k v p) X len a tl, b0, b1, op))) : mj_Mt gT cst gnw (m + 1) y_Tree_add [.ref 1, .int k, .int v, .int p] (rdW o0 t X len a tl, b0, b1, op) Q := by
  have vin : vp_in (nI (tn t)) 96 := vp_in_nI hn (by decide)
  intro J hJ
  refine hJ _ _ _ _ ?_
  refine And.intro (fun _ => ?_) (fun g => absurd (nI_lt (a := tn t) (b := 96) hn (by decide)) g)
  refine And.intro vin (And.intro vin (And.intro vin (And.intro vin (And.intro vin (And.intro vin ?_)))))
  have key : ∀ (j : Nat) (x y : Int32), j = tn t → x = nI (tn t + 1) → y = oV none → Q (.inl (some (.int (nI (tn t)))), (o0 :: oF 2 [.ref 2, .ref 3, .ref 4, .ref 5, .ref 6, .ref 7, .int x] :: oI 96 (upd (tK t) j k) :: oI 96 (upd (tV t) j v) :: oI 96 (upd (tP t) j p) :: oI 96 (upd (eO (tF t)) j y) :: oI 96 (upd (eO (tL t)) j y) :: oI 96 (upd (eO (tN t)) j y) :: oF 1 [.ref 9, .int (nI len)] :: oC 96 X :: oF 3 [.ref 8, .ref 1, .int (nI a)] :: tl, b0, b1, op)) := by
    rintro j x y rfl rfl rfl
    rw [upd_eO, upd_eO, upd_eO]
    exact hQ
  exact key _ _ _ (nI_clamp (by omega)) (nI_1 _) rfl
theorem t_addPart {nd pt : Nat} (ht : tOK t) (hnd : nd < tn t) (hQ : Q (.inl none, (rdW o0 (tPart t nd pt) X len a tl, b0, b1, op))) : mj_Mt gT cst gnw (m + 1) y_Tree_addPart [.ref 1, .int (nI nd), .int (nI pt)] (rdW o0 t X len a tl, b0, b1, op) Q := by
  have h96 := ht.1
  have vin : vp_in (nI nd) 96 := vp_in_nI (by omega) (by decide)
  have ec : (nI nd).toNatClampNeg = nd := nI_clamp (by omega)
  intro J hJ
  refine hJ _ _ _ _ ?_
  refine And.intro (fun g => absurd g (nI_pos (by omega))) (fun _ => ?_)
  refine And.intro (fun _ => ?_) (fun g => absurd (nI_lt (a := nd) (b := tn t) hnd (by omega)) g)
  refine And.intro vin ?_
  unfold tPart at hQ
  cases hl : tL t nd with
  | none =>
    rw [hl] at hQ
    have e : eO (tL t) (nI nd).toNatClampNeg = -1 := by rw [ec]; show oV (tL t nd) = -1; rw [hl]; rfl
    refine And.intro (fun g => absurd e g) (fun _ => ?_)
    refine And.intro vin (And.intro vin ?_)
    have key : ∀ j, j = nd → Q (.inl none, (o0 :: oF 2 [.ref 2, .ref 3, .ref 4, .ref 5, .ref 6, .ref 7, .int (nI (tn t))] :: oI 96 (tK t) :: oI 96 (tV t) :: oI 96 (tP t) :: oI 96 (upd (eO (tF t)) j (oV (some pt))) :: oI 96 (upd (eO (tL t)) j (oV (some pt))) :: oI 96 (eO (tN t)) :: oF 1 [.ref 9, .int (nI len)] :: oC 96 X :: oF 3 [.ref 8, .ref 1, .int (nI a)] :: tl, b0, b1, op)) := by
      rintro j rfl
      rw [upd_eO, upd_eO]
      exact hQ
    exact key _ ec
  | some l =>
    have hl9 := ht.2.2.1.1 nd l hl
    rw [hl] at hQ
    have e : eO (tL t) (nI nd).toNatClampNeg = nI l := by rw [ec]; show oV (tL t nd) = nI l; rw [hl]; rfl
    refine And.intro (fun _ => ?_) (fun g => absurd (e.symm.trans g) (oV_ne (k := l) (by omega)))
    refine And.intro (show vp_in (eO (tL t) (nI nd).toNatClampNeg) 96 by rw [e]; exact vp_in_nI hl9 (by decide)) (And.intro vin ?_)
    have key : ∀ j i, j = nd → i = l → Q (.inl none, (o0 :: oF 2 [.ref 2, .ref 3, .ref 4, .ref 5, .ref 6, .ref 7, .int (nI (tn t))] :: oI 96 (tK t) :: oI 96 (tV t) :: oI 96 (tP t) :: oI 96 (eO (tF t)) :: oI 96 (upd (eO (tL t)) j (oV (some pt))) :: oI 96 (upd (eO (tN t)) i (oV (some pt))) :: oF 1 [.ref 9, .int (nI len)] :: oC 96 X :: oF 3 [.ref 8, .ref 1, .int (nI a)] :: tl, b0, b1, op)) := by
      rintro j i rfl rfl
      rw [upd_eO, upd_eO]
      exact hQ
    exact key _ _ ec (by rw [e]; exact nI_clamp (by omega))
theorem t_kind {o : Option Nat} {y : Int32} (hy : y = oV o) (ht : tn t ≤ 96) (ho : ∀ i, o = some i → i < 1000) (hQ : Q (.inl (some (.int (tEi t (tK t) o))), (rdW o0 t X len a tl, b0, b1, op))) : mj_Mt gT cst gnw (m + 2) y_Tree_kind [.ref 1, .int y] (rdW o0 t X len a tl, b0, b1, op) Q := by
  subst hy
  intro J hJ
  refine hJ _ _ _ _ ?_
  intro J2 hJ2
  refine hJ2 _ _ _ _ ?_
  cases o with
  | none =>
    refine And.intro (fun _ => ?_) (fun g => absurd (by decide) g)
    exact hQ
  | some i =>
    have hi := ho i rfl
    refine And.intro (fun g => absurd g (nI_pos (n := i) (by omega))) (fun _ => ?_)
    refine And.intro (fun (g : nI (tn t) ≤ nI i) => ?_) (fun (g : ¬ nI (tn t) ≤ nI i) => ?_)
    · have h1 := (nI_leI (by omega) (by omega)).mp g
      rw [show (tEi t (tK t) (some i)) = -1 from if_neg (by omega)] at hQ
      exact hQ
    · have h1 : i < tn t := Nat.lt_of_not_le (fun q => g (nI_le q (by omega)))
      refine And.intro (vp_in_nI (by omega) (by decide)) ?_
      rw [show (tEi t (tK t) (some i)) = (tK t) i from if_pos h1] at hQ
      have key : ∀ j, j = i → mj_after (mj_hd (mj_off kO_Tree_kind) kH_Tree_kind) Q (mj_sg (mj_Mt gT cst gnw (m + 1)) cst gnw (mj_hd (mj_off kO_Tree_kind) kH_Tree_kind) kC_Tree_kind J Q 395 false) 4 (mj_lay [.ref 1, .int (nI i)] 2) [] (.inl (some (.int ((tK t) j))), (rdW o0 t X len a tl, b0, b1, op)) := by
        rintro j rfl
        exact hQ
      exact key _ (nI_clamp (by omega))
theorem t_value {o : Option Nat} {y : Int32} (hy : y = oV o) (ht : tn t ≤ 96) (ho : ∀ i, o = some i → i < 1000) (hQ : Q (.inl (some (.int (tEi t (tV t) o))), (rdW o0 t X len a tl, b0, b1, op))) : mj_Mt gT cst gnw (m + 2) y_Tree_value [.ref 1, .int y] (rdW o0 t X len a tl, b0, b1, op) Q := by
  subst hy
  intro J hJ
  refine hJ _ _ _ _ ?_
  intro J2 hJ2
  refine hJ2 _ _ _ _ ?_
  cases o with
  | none =>
    refine And.intro (fun _ => ?_) (fun g => absurd (by decide) g)
    exact hQ
  | some i =>
    have hi := ho i rfl
    refine And.intro (fun g => absurd g (nI_pos (n := i) (by omega))) (fun _ => ?_)
    refine And.intro (fun (g : nI (tn t) ≤ nI i) => ?_) (fun (g : ¬ nI (tn t) ≤ nI i) => ?_)
    · have h1 := (nI_leI (by omega) (by omega)).mp g
      rw [show (tEi t (tV t) (some i)) = -1 from if_neg (by omega)] at hQ
      exact hQ
    · have h1 : i < tn t := Nat.lt_of_not_le (fun q => g (nI_le q (by omega)))
      refine And.intro (vp_in_nI (by omega) (by decide)) ?_
      rw [show (tEi t (tV t) (some i)) = (tV t) i from if_pos h1] at hQ
      have key : ∀ j, j = i → mj_after (mj_hd (mj_off kO_Tree_value) kH_Tree_value) Q (mj_sg (mj_Mt gT cst gnw (m + 1)) cst gnw (mj_hd (mj_off kO_Tree_value) kH_Tree_value) kC_Tree_value J Q 395 false) 4 (mj_lay [.ref 1, .int (nI i)] 2) [] (.inl (some (.int ((tV t) j))), (rdW o0 t X len a tl, b0, b1, op)) := by
        rintro j rfl
        exact hQ
      exact key _ (nI_clamp (by omega))
theorem t_positionOf {o : Option Nat} {y : Int32} (hy : y = oV o) (ht : tn t ≤ 96) (ho : ∀ i, o = some i → i < 1000) (hQ : Q (.inl (some (.int (tEi t (tP t) o))), (rdW o0 t X len a tl, b0, b1, op))) : mj_Mt gT cst gnw (m + 2) y_Tree_positionOf [.ref 1, .int y] (rdW o0 t X len a tl, b0, b1, op) Q := by
  subst hy
  intro J hJ
  refine hJ _ _ _ _ ?_
  intro J2 hJ2
  refine hJ2 _ _ _ _ ?_
  cases o with
  | none =>
    refine And.intro (fun _ => ?_) (fun g => absurd (by decide) g)
    exact hQ
  | some i =>
    have hi := ho i rfl
    refine And.intro (fun g => absurd g (nI_pos (n := i) (by omega))) (fun _ => ?_)
    refine And.intro (fun (g : nI (tn t) ≤ nI i) => ?_) (fun (g : ¬ nI (tn t) ≤ nI i) => ?_)
    · have h1 := (nI_leI (by omega) (by omega)).mp g
      rw [show (tEi t (tP t) (some i)) = -1 from if_neg (by omega)] at hQ
      exact hQ
    · have h1 : i < tn t := Nat.lt_of_not_le (fun q => g (nI_le q (by omega)))
      refine And.intro (vp_in_nI (by omega) (by decide)) ?_
      rw [show (tEi t (tP t) (some i)) = (tP t) i from if_pos h1] at hQ
      have key : ∀ j, j = i → mj_after (mj_hd (mj_off kO_Tree_positionOf) kH_Tree_positionOf) Q (mj_sg (mj_Mt gT cst gnw (m + 1)) cst gnw (mj_hd (mj_off kO_Tree_positionOf) kH_Tree_positionOf) kC_Tree_positionOf J Q 395 false) 4 (mj_lay [.ref 1, .int (nI i)] 2) [] (.inl (some (.int ((tP t) j))), (rdW o0 t X len a tl, b0, b1, op)) := by
        rintro j rfl
        exact hQ
      exact key _ (nI_clamp (by omega))
theorem t_firstPart {o : Option Nat} {y : Int32} (hy : y = oV o) (ht : tn t ≤ 96) (ho : ∀ i, o = some i → i < 1000) (hQ : Q (.inl (some (.int (oV (tEn t (tF t) o)))), (rdW o0 t X len a tl, b0, b1, op))) : mj_Mt gT cst gnw (m + 2) y_Tree_firstPart [.ref 1, .int y] (rdW o0 t X len a tl, b0, b1, op) Q := by
  subst hy
  intro J hJ
  refine hJ _ _ _ _ ?_
  intro J2 hJ2
  refine hJ2 _ _ _ _ ?_
  cases o with
  | none =>
    refine And.intro (fun _ => ?_) (fun g => absurd (by decide) g)
    exact hQ
  | some i =>
    have hi := ho i rfl
    refine And.intro (fun g => absurd g (nI_pos (n := i) (by omega))) (fun _ => ?_)
    refine And.intro (fun (g : nI (tn t) ≤ nI i) => ?_) (fun (g : ¬ nI (tn t) ≤ nI i) => ?_)
    · have h1 := (nI_leI (by omega) (by omega)).mp g
      rw [show (oV (tEn t (tF t) (some i))) = oV none from congrArg oV (if_neg (by omega))] at hQ
      exact hQ
    · have h1 : i < tn t := Nat.lt_of_not_le (fun q => g (nI_le q (by omega)))
      refine And.intro (vp_in_nI (by omega) (by decide)) ?_
      rw [show (oV (tEn t (tF t) (some i))) = (eO (tF t)) i from congrArg oV (if_pos h1)] at hQ
      have key : ∀ j, j = i → mj_after (mj_hd (mj_off kO_Tree_firstPart) kH_Tree_firstPart) Q (mj_sg (mj_Mt gT cst gnw (m + 1)) cst gnw (mj_hd (mj_off kO_Tree_firstPart) kH_Tree_firstPart) kC_Tree_firstPart J Q 395 false) 4 (mj_lay [.ref 1, .int (nI i)] 2) [] (.inl (some (.int ((eO (tF t)) j))), (rdW o0 t X len a tl, b0, b1, op)) := by
        rintro j rfl
        exact hQ
      exact key _ (nI_clamp (by omega))
theorem t_follower {o : Option Nat} {y : Int32} (hy : y = oV o) (ht : tn t ≤ 96) (ho : ∀ i, o = some i → i < 1000) (hQ : Q (.inl (some (.int (oV (tEn t (tN t) o)))), (rdW o0 t X len a tl, b0, b1, op))) : mj_Mt gT cst gnw (m + 2) y_Tree_follower [.ref 1, .int y] (rdW o0 t X len a tl, b0, b1, op) Q := by
  subst hy
  intro J hJ
  refine hJ _ _ _ _ ?_
  intro J2 hJ2
  refine hJ2 _ _ _ _ ?_
  cases o with
  | none =>
    refine And.intro (fun _ => ?_) (fun g => absurd (by decide) g)
    exact hQ
  | some i =>
    have hi := ho i rfl
    refine And.intro (fun g => absurd g (nI_pos (n := i) (by omega))) (fun _ => ?_)
    refine And.intro (fun (g : nI (tn t) ≤ nI i) => ?_) (fun (g : ¬ nI (tn t) ≤ nI i) => ?_)
    · have h1 := (nI_leI (by omega) (by omega)).mp g
      rw [show (oV (tEn t (tN t) (some i))) = oV none from congrArg oV (if_neg (by omega))] at hQ
      exact hQ
    · have h1 : i < tn t := Nat.lt_of_not_le (fun q => g (nI_le q (by omega)))
      refine And.intro (vp_in_nI (by omega) (by decide)) ?_
      rw [show (oV (tEn t (tN t) (some i))) = (eO (tN t)) i from congrArg oV (if_pos h1)] at hQ
      have key : ∀ j, j = i → mj_after (mj_hd (mj_off kO_Tree_follower) kH_Tree_follower) Q (mj_sg (mj_Mt gT cst gnw (m + 1)) cst gnw (mj_hd (mj_off kO_Tree_follower) kH_Tree_follower) kC_Tree_follower J Q 395 false) 4 (mj_lay [.ref 1, .int (nI i)] 2) [] (.inl (some (.int ((eO (tN t)) j))), (rdW o0 t X len a tl, b0, b1, op)) := by
        rintro j rfl
        exact hQ
      exact key _ (nI_clamp (by omega))
theorem tEn_lt {t : tS} {g : Nat → Option Nat} (hg : ∀ i j, g i = some j → j < 96) (o : Option Nat) : ∀ i, tEn t g o = some i → i < 1000 := by
  intro i e
  unfold tEn at e
  split at e
  · cases e
  · split at e
    · exact Nat.lt_trans (hg _ _ e) (by decide)
    · cases e
theorem t_part {o : Option Nat} {k : Nat} {y x : Int32} (hy : y = oV o) (hx : x = nI k) (hk : k < 1000) (ht : tOK t) (ho : ∀ i, o = some i → i < 1000) (hQ : Q (.inl (some (.int (oV (tPt t k (tEn t (tF t) o))))), (rdW o0 t X len a tl, b0, b1, op))) : mj_Mt gT cst gnw (m + 3) y_Tree_part [.ref 1, .int y, .int x] (rdW o0 t X len a tl, b0, b1, op) Q := by
  subst hx
  intro J hJ
  refine hJ _ _ _ _ ?_
  refine t_firstPart hy ht.1 ho ?_
  have loop : ∀ (j i : Nat) (o2 : Option Nat) (x2 : Int32), j + i = k → x2 = nI i → (∀ i, o2 = some i → i < 1000) → tPt t j o2 = tPt t k (tEn t (tF t) o) → J 6 [some (.ref 1), some (.int y), some (.int (nI k)), some (.int (oV o2)), some (.int x2)] [] (rdW o0 t X len a tl, b0, b1, op) := by
    intro j
    induction j with
    | zero =>
      intro i o2 x2 hi hx2 ho2 e
      subst hx2
      refine hJ _ _ _ _ ?_
      refine And.intro (fun _ => ?_) (fun g => absurd (nI_le (a := k) (b := i) (by omega) (by omega)) g)
      rw [← e] at hQ
      exact hQ
    | succ j ih =>
      intro i o2 x2 hi hx2 ho2 e
      subst hx2
      refine hJ _ _ _ _ ?_
      refine And.intro (fun g => absurd g (nI_ge (a := i) (b := k) (by omega) (by omega))) (fun _ => ?_)
      refine t_follower rfl ht.1 ho2 ?_
      exact ih (i + 1) _ _ (by omega) (nI_1 i) (tEn_lt ht.2.2.2 o2) e
  exact loop k 0 _ _ (by omega) rfl (tEn_lt ht.2.1 o) rfl
theorem t_parts {o : Option Nat} {y : Int32} (hy : y = oV o) (ht : tOK t) (ho : ∀ i, o = some i → i < 1000) (hQ : Q (.inl (some (.int (nI (tCn t 96 (tEn t (tF t) o))))), (rdW o0 t X len a tl, b0, b1, op))) : mj_Mt gT cst gnw (m + 3) y_Tree_parts [.ref 1, .int y] (rdW o0 t X len a tl, b0, b1, op) Q := by
  intro J hJ
  refine hJ _ _ _ _ ?_
  refine t_firstPart hy ht.1 ho ?_
  have loop : ∀ (j i : Nat) (o2 : Option Nat) (x2 : Int32), j + i = 96 → x2 = nI i → (∀ i, o2 = some i → i < 1000) → tCn t j o2 + i = tCn t 96 (tEn t (tF t) o) → J 6 [some (.ref 1), some (.int y), some (.int x2), some (.int (oV o2))] [] (rdW o0 t X len a tl, b0, b1, op) := by
    intro j
    induction j with
    | zero =>
      intro i o2 x2 hi hx2 ho2 e
      subst hx2
      obtain rfl : i = 96 := by omega
      refine hJ _ _ _ _ ?_
      have e2 : tCn t 96 (tEn t (tF t) o) = 96 := by rw [← e]; simp [tCn]
      rw [e2] at hQ
      refine And.intro (fun _ => ?_) (fun _ => ?_)
      · exact hQ
      · refine And.intro (fun _ => ?_) (fun g => absurd (by decide) g)
        exact hQ
    | succ j ih =>
      intro i o2 x2 hi hx2 ho2 e
      subst hx2
      refine hJ _ _ _ _ ?_
      cases o2 with
      | none =>
        refine And.intro (fun _ => ?_) (fun g => absurd rfl g)
        have e2 : tCn t 96 (tEn t (tF t) o) = i := by rw [← e]; simp [tCn]
        rw [e2] at hQ
        exact hQ
      | some q =>
        have hq := ho2 q rfl
        refine And.intro (fun g => absurd g (oV_ne (k := q) (by omega))) (fun _ => ?_)
        refine And.intro (fun g => absurd g (nI_ge (a := i) (b := 96) (by omega) (by decide))) (fun _ => ?_)
        refine t_follower rfl ht.1 ho2 ?_
        refine ih (i + 1) _ _ (by omega) (nI_1 i) (tEn_lt ht.2.2.2 _) ?_
        rw [← e]
        show _ = tCn t j (tEn t (tN t) (some q)) + 1 + i
        omega
  exact loop 96 0 _ _ rfl rfl (tEn_lt ht.2.1 o) rfl
theorem t_placeOf {c : Int32} {o : Option Nat} {y : Int32} (hy : y = oV o) (ht : tOK t) (ho : ∀ i, o = some i → i < 1000) (hQ : Q (.inl (some (.int (oV (tPl t c 96 o)))), (rdW o0 t X len a tl, b0, b1, op))) : mj_Mt gT cst gnw (m + 1) y_Tree_placeOf [.ref 1, .int c, .int y] (rdW o0 t X len a tl, b0, b1, op) Q := by
  have h96 := ht.1
  intro J hJ
  refine hJ _ _ _ _ ?_
  have loop : ∀ (j i : Nat) (o2 : Option Nat) (x2 y2 : Int32), j + i = 96 → x2 = nI i → y2 = oV o2 → (∀ i, o2 = some i → i < 1000) → (tPl t c j o2).map (· + i) = tPl t c 96 o → J 4 [some (.ref 1), some (.int c), some (.int y), some (.int x2), some (.int y2)] [] (rdW o0 t X len a tl, b0, b1, op) := by
    intro j
    induction j with
    | zero =>
      intro i o2 x2 y2 hi hx2 hy2 ho2 e
      subst hx2
      subst hy2
      obtain rfl : i = 96 := by omega
      rw [← e] at hQ
      refine hJ _ _ _ _ ?_
      refine And.intro (fun _ => ?_) (fun _ => ?_)
      · exact hQ
      · refine And.intro (fun _ => ?_) (fun _ => ?_)
        · exact hQ
        · refine And.intro (fun _ => ?_) (fun g => absurd (by decide) g)
          exact hQ
    | succ j ih =>
      intro i o2 x2 y2 hi hx2 hy2 ho2 e
      subst hx2
      subst hy2
      refine hJ _ _ _ _ ?_
      cases o2 with
      | none =>
        refine And.intro (fun _ => ?_) (fun g => absurd (by decide) g)
        rw [← e] at hQ
        exact hQ
      | some q =>
        have hq := ho2 q rfl
        refine And.intro (fun g => absurd g (nI_pos (n := q) (by omega))) (fun _ => ?_)
        refine And.intro (fun (g : nI (tn t) ≤ nI q) => ?_) (fun (g : ¬ nI (tn t) ≤ nI q) => ?_)
        · have h1 := (nI_leI (by omega) (by omega)).mp g
          rw [← e, show tPl t c (j + 1) (some q) = none by unfold tPl; rw [if_neg (by omega)]] at hQ
          exact hQ
        · have h1 : q < tn t := Nat.lt_of_not_le (fun w => g (nI_le w (by omega)))
          have ec : (nI q).toNatClampNeg = q := nI_clamp (by omega)
          refine And.intro (fun g => absurd g (nI_ge (a := i) (b := 96) (by omega) (by decide))) (fun _ => ?_)
          refine And.intro (vp_in_nI (by omega) (by decide)) ?_
          have ev : ∀ w, w = q → tV t w = tV t q := by rintro w rfl; rfl
          refine And.intro (fun g => ?_) (fun g => ?_)
          · have g : ¬ tV t q = c := fun w => g ((ev _ ec).trans w)
            refine And.intro (vp_in_nI (by omega) (by decide)) ?_
            refine ih (i + 1) (tN t q) _ _ (by omega) (nI_1 i) (by rw [show (oV (some q)).toNatClampNeg = q from ec]) (fun w ew => Nat.lt_trans (ht.2.2.2 _ _ ew) (by decide)) ?_
            rw [← e, show tPl t c (j + 1) (some q) = (tPl t c j (tN t q)).map (· + 1) by rw [tPl, if_pos h1, if_neg g], Option.map_map]
            congr 1
            funext w
            show w + (i + 1) = w + 1 + i
            omega
          · have g : tV t q = c := (ev _ ec).symm.trans g
            rw [← e, show tPl t c (j + 1) (some q) = some 0 by rw [tPl, if_pos h1, if_pos g]] at hQ
            rw [show (some 0).map (· + i) = some i by simp] at hQ
            exact hQ
  refine loop 96 0 o _ _ rfl rfl hy ho ?_
  cases tPl t c 96 o <;> rfl
end P2f
