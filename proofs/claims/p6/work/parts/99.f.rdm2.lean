section P2h
variable {m b0 b1 : Nat} {op : Bool} {tl : List mj_O} {Q : mj_R → Prop} {xs : List Int32}
variable {o0 : mj_O} {t : tS} {X : Nat → Int32} {len a : Nat} {tx : Nat → Nat}
set_option maxRecDepth 10000
def HE (xs : List Int32) (o0 : mj_O) (X : Nat → Int32) (len : Nat) (tl : List mj_O) (b0 b1 : Nat) (op : Bool) (y lv : Nat) (pe : Nat → tS → PR) (d : Nat) : Prop :=
  ∀ (ℓ a : Nat) (t : tS) (x : Int32) (Q : mj_R → Prop), x = nI d → lv ≤ ℓ → tOK t → tn t ≤ a → a ≤ len → rq Q o0 X len tl b0 b1 op (pe a t) → mj_Mt gT (law_cst xs) gnw ℓ y [.ref 10, .int x] (rdW o0 t X len a tl, b0 + 1, b1, op) Q
theorem q_datLoop {l d n : Nat} {y : Int32} {J : Nat → mj_L → List Value → mj_H → Prop} (hJ : ∀ pc ls st h, mj_sg (mj_Mt gT (law_cst xs) gnw l) (law_cst xs) gnw (mj_hd (mj_off kO_Reader_datum) kH_Reader_datum) kC_Reader_datum J Q 400 true pc ls st h → J pc ls st h) (hx : txOK X len tx) (h6 : 6 ≤ b1) {pe : Nat → tS → PR} {lv : Nat} (HH : HE xs o0 X len tl b0 b1 op y_Reader_datum lv pe (d + 1)) (hy : y = nI d) (hlv : lv ≤ l) (h3 : 3 ≤ l) (hg : GE len pe) :
    ∀ (k i a : Nat) (t : tS) (x : Int32), k + i = 96 → x = nI i → tOK t → n < tn t → tn t ≤ a → a ≤ len → rq Q o0 X len tl b0 b1 op (pMore tx pe n k a t) → J 39 [some (.ref 10), some (.int y), some (.int (nI n)), some (.int x)] [] (rdW o0 t X len a tl, b0 + 1, b1, op) := by
  subst hy
  obtain ⟨l, rfl⟩ : ∃ l', l = l' + 3 := ⟨l - 3, by omega⟩
  have h96 := hx.1
  intro k
  induction k with
  | zero =>
    intro i a t x hi hxi ht hn ha hl hQ
    subst hxi
    obtain rfl : i = 96 := by omega
    refine hJ _ _ _ _ ?_
    refine And.intro (fun _ => ?_) (fun g => absurd (by decide) g)
    unfold pMore at hQ
    unfold pClose at hQ
    refine q_need (c := 41) rfl hx (by omega) (by decide) h6 (fun h => ?_) (fun h => ?_)
    · rw [if_pos h] at hQ
      exact hQ
    · rw [if_neg h] at hQ
      exact hQ
  | succ k ih =>
    intro i a t x hi hxi ht hn ha hl hQ
    subst hxi
    have hle := hx.le a
    refine hJ _ _ _ _ ?_
    refine And.intro (fun g => absurd g (nI_ge (a := i) (b := 96) (by omega) (by decide))) (fun _ => ?_)
    refine x_codeAt rfl hx (by omega) ?_
    unfold pMore at hQ
    refine And.intro (fun g => ?_) (fun g => ?_)
    · have h32 : ¬ tx a = 32 := fun e => g (by rw [e]; rfl)
      rw [if_neg h32] at hQ
      unfold pClose at hQ
      refine q_need (c := 41) rfl hx (by omega) (by decide) h6 (fun h => ?_) (fun h => ?_)
      · rw [if_pos h] at hQ
        exact hQ
      · rw [if_neg h] at hQ
        exact hQ
    · have h32 : tx a = 32 := (nI_eq (a := tx a) (b := 32) (by omega) (by decide)).mp g
      have h1 := hx.lt (a := a) (by omega)
      rw [if_pos h32] at hQ
      have hgd := hg (a + 1) t ht (by omega) (by omega)
      have key : ∀ z : Int32, z = nI (a + 1) → ∀ (Q' : mj_R → Prop), rq Q' o0 X len tl b0 b1 op (pe (a + 1) t) → mj_Mt gT (law_cst xs) gnw (l + 3) y_Reader_datum [.ref 10, .int (nI d + Int32.ofInt 1)] (rdX o0 t X len z tl, b0 + 1, b1, op) Q' := by
        rintro z rfl Q' hq
        exact HH (l + 3) (a + 1) t _ Q' (nI_1 d) hlv ht (by omega) (by omega) hq
      refine key _ (nI_1 a) _ ?_
      generalize pe (a + 1) t = r at hgd hQ
      rcases r with ⟨c, a2, t2⟩ | ⟨a2, t2⟩
      · obtain ⟨rfl, g1, g2, g3, g4⟩ := hgd
        refine t_addPart g1 (by omega) ?_
        exact ih (i + 1) a2 _ _ (by omega) (nI_1 i) (tOK_part g1 (by omega)) (by rw [tn_part]; omega) (by rw [tn_part]; exact g3) g4 hQ
      · exact hQ
theorem q_callLoop {l d n : Nat} {y : Int32} {J : Nat → mj_L → List Value → mj_H → Prop} (hJ : ∀ pc ls st h, mj_sg (mj_Mt gT (law_cst xs) gnw l) (law_cst xs) gnw (mj_hd (mj_off kO_Reader_call) kH_Reader_call) kC_Reader_call J Q 400 true pc ls st h → J pc ls st h) (hx : txOK X len tx) (h6 : 6 ≤ b1) {pe : Nat → tS → PR} {lv : Nat} (HH : HE xs o0 X len tl b0 b1 op y_Reader_expression lv pe d) (hy : y = nI d) (hlv : lv ≤ l) (h3 : 3 ≤ l) (hg : GE len pe) :
    ∀ (k i a : Nat) (t : tS) (x : Int32), k + i = 3 → x = nI i → tOK t → n < tn t → tn t ≤ a → a ≤ len → rq Q o0 X len tl b0 b1 op (pMore tx pe n k a t) → J 17 [some (.ref 10), some (.int y), some (.int (nI n)), some (.int x)] [] (rdW o0 t X len a tl, b0 + 1, b1, op) := by
  subst hy
  obtain ⟨l, rfl⟩ : ∃ l', l = l' + 3 := ⟨l - 3, by omega⟩
  have h96 := hx.1
  intro k
  induction k with
  | zero =>
    intro i a t x hi hxi ht hn ha hl hQ
    subst hxi
    obtain rfl : i = 3 := by omega
    refine hJ _ _ _ _ ?_
    refine And.intro (fun _ => ?_) (fun g => absurd (by decide) g)
    unfold pMore at hQ
    unfold pClose at hQ
    refine q_need (c := 41) rfl hx (by omega) (by decide) h6 (fun h => ?_) (fun h => ?_)
    · rw [if_pos h] at hQ
      exact hQ
    · rw [if_neg h] at hQ
      exact hQ
  | succ k ih =>
    intro i a t x hi hxi ht hn ha hl hQ
    subst hxi
    have hle := hx.le a
    refine hJ _ _ _ _ ?_
    refine And.intro (fun g => absurd g (nI_ge (a := i) (b := 3) (by omega) (by decide))) (fun _ => ?_)
    refine x_codeAt rfl hx (by omega) ?_
    unfold pMore at hQ
    refine And.intro (fun g => ?_) (fun g => ?_)
    · have h32 : ¬ tx a = 32 := fun e => g (by rw [e]; rfl)
      rw [if_neg h32] at hQ
      unfold pClose at hQ
      refine q_need (c := 41) rfl hx (by omega) (by decide) h6 (fun h => ?_) (fun h => ?_)
      · rw [if_pos h] at hQ
        exact hQ
      · rw [if_neg h] at hQ
        exact hQ
    · have h32 : tx a = 32 := (nI_eq (a := tx a) (b := 32) (by omega) (by decide)).mp g
      have h1 := hx.lt (a := a) (by omega)
      rw [if_pos h32] at hQ
      have hgd := hg (a + 1) t ht (by omega) (by omega)
      have key : ∀ z : Int32, z = nI (a + 1) → ∀ (Q' : mj_R → Prop), rq Q' o0 X len tl b0 b1 op (pe (a + 1) t) → mj_Mt gT (law_cst xs) gnw (l + 3) y_Reader_expression [.ref 10, .int (nI d)] (rdX o0 t X len z tl, b0 + 1, b1, op) Q' := by
        rintro z rfl Q' hq
        exact HH (l + 3) (a + 1) t _ Q' rfl hlv ht (by omega) (by omega) hq
      refine key _ (nI_1 a) _ ?_
      generalize pe (a + 1) t = r at hgd hQ
      rcases r with ⟨c, a2, t2⟩ | ⟨a2, t2⟩
      · obtain ⟨rfl, g1, g2, g3, g4⟩ := hgd
        refine t_addPart g1 (by omega) ?_
        exact ih (i + 1) a2 _ _ (by omega) (nI_1 i) (tOK_part g1 (by omega)) (by rw [tn_part]; omega) (by rw [tn_part]; exact g3) g4 hQ
      · exact hQ
theorem q_dat (hx : txOK X len tx) (h6 : 6 ≤ b1) : ∀ (f d : Nat), 1 ≤ f → 10 ≤ f + d → d ≤ 20 → HE xs o0 X len tl b0 b1 op y_Reader_datum (f + 8) (pDat tx f d) d
  | 0, d, h, _, _ => by omega
  | f + 1, d, _, hfd, hd => by
    intro ℓ a t x Q hx9 hlv ht hn hl hQ
    subst hx9
    have h96 := hx.1
    have hle := hx.le a
    obtain ⟨l, rfl⟩ : ∃ l, ℓ = l + 8 := ⟨ℓ - 8, by omega⟩
    unfold pDat at hQ
    intro J hJ
    refine hJ _ _ _ _ ?_
    refine x_codeAt rfl hx (by omega) ?_
    refine And.intro (fun g => ?_) (fun g => ?_)
    · have h40 : tx a = 40 := (nI_eq (a := tx a) (b := 40) (by omega) (by decide)).mp g
      have h1 := hx.lt (a := a) (by omega)
      rw [if_pos h40] at hQ
      refine t_add (by omega) ?_
      have ht1 : tOK (tAdd t 3 0 (nI a)) := tOK_add ht (by omega)
      refine q_open rfl hx (by omega) (by omega) h6 (fun hd9 _ => ?_) (fun h => ?_)
      · rw [if_neg (by omega)] at hQ
        have hle1 := hx.le (a + 1)
        refine x_codeAt rfl hx (by omega) ?_
        refine And.intro (fun g2 => ?_) (fun g2 => ?_)
        · have h41 : tx (a + 1) = 41 := (nI_eq (a := tx (a + 1)) (b := 41) (by omega) (by decide)).mp g2
          rw [if_pos h41] at hQ
          refine q_need (c := 41) rfl hx (by omega) (by decide) h6 (fun h => ?_) (fun h => absurd h41 h)
          exact hQ
        · have h41 : ¬ tx (a + 1) = 41 := fun e => g2 (by rw [e]; rfl)
          rw [if_neg h41] at hQ
          have hgd := g_dat hx f (d + 1) (a + 1) (tAdd t 3 0 (nI a)) ht1 (by rw [tn_add]; omega) (by omega)
          rw [tn_add] at hgd
          have hH := q_dat hx h6 f (d + 1) (by omega) (by omega) (by omega)
          refine hH (l + 7) (a + 1) (tAdd t 3 0 (nI a)) _ _ (nI_1 d) (by omega) ht1 (by rw [tn_add]; omega) (by omega) ?_
          generalize pDat tx f (d + 1) (a + 1) (tAdd t 3 0 (nI a)) = r at hgd hQ
          rcases r with ⟨c, a2, t2⟩ | ⟨a2, t2⟩
          · obtain ⟨rfl, g1, g5, g3, g4⟩ := hgd
            refine t_addPart g1 (by omega) ?_
            exact q_datLoop hJ hx h6 hH rfl (by omega) (by omega) (g_dat hx f (d + 1)) 95 1 a2 _ _ rfl rfl (tOK_part g1 (by omega)) (by rw [tn_part]; omega) (by rw [tn_part]; exact g3) g4 hQ
          · exact hQ
      · rw [if_pos (by omega)] at hQ
        exact hQ
    · have h40 : ¬ tx a = 40 := fun e => g (by rw [e]; rfl)
      rw [if_neg h40] at hQ
      refine q_atom hx ht hn hl h6 ?_
      generalize pAtom tx a t = r at hQ
      rcases r with ⟨c, a2, t2⟩ | ⟨a2, t2⟩ <;> exact hQ
theorem q_let {p : Nat} {y : Int32} (hy : y = nI p) (hx : txOK X len tx) (ht : tOK t) (hp : p < tn t) (hn : tn t ≤ a) (hl : a ≤ len) (h6 : 6 ≤ b1) (hQ : ru Q o0 X len tl b0 b1 op (pLet tx p a t)) : mj_Mt gT (law_cst xs) gnw (m + 3) y_Reader_parameter [.ref 10, .int y] (rdW o0 t X len a tl, b0 + 1, b1, op) Q := by
  subst hy
  have h96 := hx.1
  unfold pLet at hQ
  intro J hJ
  refine hJ _ _ _ _ ?_
  refine t_firstPart (o := some p) rfl ht.1 (fun i e => by cases e; omega) ?_
  refine q_among rfl hx (by omega) ht (tEn_lt ht.2.1 _) h6 (fun g1 g2 => ?_) (fun g => ?_)
  · rw [if_pos ⟨g1, g2⟩] at hQ
    have h1 := hx.lt (cL_ne g1)
    refine t_add (by omega) ?_
    refine t_addPart (tOK_add ht (by omega) (fun _ => ⟨_, by have := hx.le a; omega, rfl⟩)) (by rw [tn_add]; omega) ?_
    have key : ∀ x : Int32, x = nI (a + 1) → Q (.inl none, (rdX o0 (tPart (tAdd t 2 (nI (tx a)) (nI a)) p (tn t)) X len x tl, b0 + 1, b1, op)) := by
      rintro x rfl
      exact hQ
    exact key _ (nI_1 a)
  · rw [if_neg g] at hQ
    exact hQ
theorem q_lsLoop {l n : Nat} {y : Int32} {J : Nat → mj_L → List Value → mj_H → Prop} (hJ : ∀ pc ls st h, mj_sg (mj_Mt gT (law_cst xs) gnw l) (law_cst xs) gnw (mj_hd (mj_off kO_Reader_parameters) kH_Reader_parameters) kC_Reader_parameters J Q 400 true pc ls st h → J pc ls st h) (hx : txOK X len tx) (h6 : 6 ≤ b1) (h3 : 3 ≤ l) :
    ∀ (k i a : Nat) (t : tS) (x : Int32), k + i = 3 → x = nI i → tOK t → n < tn t → tn t ≤ a → a ≤ len → rq Q o0 X len tl b0 b1 op (pLs tx n k a t) → J 23 [some (.ref 10), some (.int y), some (.int (nI n)), some (.int x)] [] (rdW o0 t X len a tl, b0 + 1, b1, op) := by
  obtain ⟨l, rfl⟩ : ∃ l', l = l' + 3 := ⟨l - 3, by omega⟩
  have h96 := hx.1
  intro k
  induction k with
  | zero =>
    intro i a t x hi hxi ht hn ha hl hQ
    subst hxi
    obtain rfl : i = 3 := by omega
    refine hJ _ _ _ _ ?_
    refine And.intro (fun _ => ?_) (fun g => absurd (by decide) g)
    unfold pLs at hQ
    unfold pClose at hQ
    refine q_need (c := 41) rfl hx (by omega) (by decide) h6 (fun h => ?_) (fun h => ?_)
    · rw [if_pos h] at hQ
      exact hQ
    · rw [if_neg h] at hQ
      exact hQ
  | succ k ih =>
    intro i a t x hi hxi ht hn ha hl hQ
    subst hxi
    have hle := hx.le a
    refine hJ _ _ _ _ ?_
    refine And.intro (fun g => absurd g (nI_ge (a := i) (b := 3) (by omega) (by decide))) (fun _ => ?_)
    refine x_codeAt rfl hx (by omega) ?_
    unfold pLs at hQ
    refine And.intro (fun g => ?_) (fun g => ?_)
    · have h32 : ¬ tx a = 32 := fun e => g (by rw [e]; rfl)
      rw [if_neg h32] at hQ
      unfold pClose at hQ
      refine q_need (c := 41) rfl hx (by omega) (by decide) h6 (fun h => ?_) (fun h => ?_)
      · rw [if_pos h] at hQ
        exact hQ
      · rw [if_neg h] at hQ
        exact hQ
    · have h32 : tx a = 32 := (nI_eq (a := tx a) (b := 32) (by omega) (by decide)).mp g
      have h1 := hx.lt (a := a) (by omega)
      rw [if_pos h32] at hQ
      have hgd := g_let hx (p := n) (a := a + 1) ht (by omega) (by omega)
      have key : ∀ z : Int32, z = nI (a + 1) → ∀ (Q' : mj_R → Prop), ru Q' o0 X len tl b0 b1 op (pLet tx n (a + 1) t) → mj_Mt gT (law_cst xs) gnw (l + 3) y_Reader_parameter [.ref 10, .int (nI n)] (rdX o0 t X len z tl, b0 + 1, b1, op) Q' := by
        rintro z rfl Q' hq
        exact q_let rfl hx ht hn (by omega) (by omega) h6 hq
      refine key _ (nI_1 a) _ ?_
      generalize pLet tx n (a + 1) t = r at hgd hQ
      rcases r with ⟨a2, t2⟩ | ⟨a2, t2⟩
      · obtain ⟨g1, g2, g3, g4⟩ := hgd
        exact ih (i + 1) a2 t2 _ (by omega) (nI_1 i) g1 (by omega) g3 g4 hQ
      · exact hQ
theorem q_par {d : Nat} {y : Int32} (hy : y = nI d) (hx : txOK X len tx) (ht : tOK t) (hn : tn t + 2 ≤ a) (hl : a ≤ len) (hd : d < 1000) (h6 : 6 ≤ b1) (hQ : rq Q o0 X len tl b0 b1 op (pPar tx d a t)) : mj_Mt gT (law_cst xs) gnw (m + 4) y_Reader_parameters [.ref 10, .int y] (rdW o0 t X len a tl, b0 + 1, b1, op) Q := by
  subst hy
  have h96 := hx.1
  have ht1 : tOK (tAdd t 7 0 (nI a)) := tOK_add ht (by omega)
  unfold pPar at hQ
  intro J hJ
  refine hJ _ _ _ _ ?_
  refine t_add (k := 7) (v := 0) (by omega) ?_
  refine q_open rfl hx (by omega) hd h6 (fun hd9 h40 => ?_) (fun h => ?_)
  · rw [if_pos ⟨hd9, h40⟩] at hQ
    have h1 := hx.lt (a := a) (by omega)
    have hle1 := hx.le (a + 1)
    refine x_codeAt rfl hx (by omega) ?_
    refine And.intro (fun g2 => ?_) (fun g2 => ?_)
    · have h41 : tx (a + 1) = 41 := (nI_eq (a := tx (a + 1)) (b := 41) (by omega) (by decide)).mp g2
      rw [if_pos h41] at hQ
      refine q_need (c := 41) rfl hx (by omega) (by decide) h6 (fun h => ?_) (fun h => absurd h41 h)
      exact hQ
    · have h41 : ¬ tx (a + 1) = 41 := fun e => g2 (by rw [e]; rfl)
      rw [if_neg h41] at hQ
      have hgd := g_let hx (p := tn t) (a := a + 1) ht1 (by rw [tn_add]; omega) (by omega)
      rw [tn_add] at hgd
      refine q_let (p := tn t) rfl hx ht1 (by rw [tn_add]; omega) (by rw [tn_add]; omega) (by omega) h6 ?_
      generalize pLet tx (tn t) (a + 1) (tAdd t 7 0 (nI a)) = r at hgd hQ
      rcases r with ⟨a2, t2⟩ | ⟨a2, t2⟩
      · obtain ⟨g1, g5, g3, g4⟩ := hgd
        exact q_lsLoop hJ hx h6 (by omega) 2 1 a2 t2 _ rfl rfl g1 (by omega) g3 g4 hQ
      · exact hQ
  · rw [if_neg h] at hQ
    exact hQ
theorem q_fun {l d : Nat} {y : Int32} (hy : y = nI d) (hx : txOK X len tx) (ht : tOK t) (hn : tn t + 1 ≤ a) (hl : a ≤ len) (hd : d < 1000) (h6 : 6 ≤ b1) {pe : Nat → tS → PR} {lv : Nat} (HH : HE xs o0 X len tl b0 b1 op y_Reader_expression lv pe d) (hlv : lv ≤ l) (h3 : 4 ≤ l) (hg : GE len pe) (hQ : rq Q o0 X len tl b0 b1 op (pFun tx pe d a t)) : mj_Mt gT (law_cst xs) gnw (l + 1) y_Reader_function [.ref 10, .int y] (rdW o0 t X len a tl, b0 + 1, b1, op) Q := by
  subst hy
  obtain ⟨l, rfl⟩ : ∃ l', l = l' + 4 := ⟨l - 4, by omega⟩
  have h96 := hx.1
  have ht1 : tOK (tAdd t 6 0 (nI a)) := tOK_add ht (by omega)
  unfold pFun at hQ
  intro J hJ
  refine hJ _ _ _ _ ?_
  refine t_add (k := 6) (v := 0) (by omega) ?_
  refine q_need (c := 92) rfl hx (by omega) (by decide) h6 (fun h => ?_) (fun h => ?_)
  · rw [if_pos h] at hQ
    have h1 := hx.lt (a := a) (by omega)
    refine q_need (c := 32) rfl hx (by omega) (by decide) h6 (fun h2 => ?_) (fun h2 => ?_)
    · rw [if_pos h2] at hQ
      have h3 := hx.lt (a := a + 1) (by omega)
      have hgd := g_par hx (d := d) (a := a + 1 + 1) ht1 (by rw [tn_add]; omega) (by omega)
      rw [tn_add] at hgd
      refine q_par rfl hx ht1 (by rw [tn_add]; omega) (by omega) hd h6 ?_
      generalize pPar tx d (a + 1 + 1) (tAdd t 6 0 (nI a)) = r at hgd hQ
      rcases r with ⟨c, a2, t2⟩ | ⟨a2, t2⟩
      · obtain ⟨rfl, g1, g2, g3, g4⟩ := hgd
        have ht2 : tOK (tPart t2 (tn t) (tn t + 1)) := tOK_part g1 (by omega)
        have hQ : rq Q o0 X len tl b0 b1 op (if tx a2 = 32 then _ else _) := hQ
        refine t_addPart g1 (by omega) ?_
        refine q_need (c := 32) rfl hx (by omega) (by decide) h6 (fun h4 => ?_) (fun h4 => ?_)
        · rw [if_pos h4] at hQ
          have h5 := hx.lt (a := a2) (by omega)
          have hg2 := hg (a2 + 1) _ ht2 (by rw [tn_part]; omega) (by omega)
          rw [tn_part] at hg2
          refine HH (l + 4) (a2 + 1) _ _ _ rfl hlv ht2 (by rw [tn_part]; omega) (by omega) ?_
          generalize pe (a2 + 1) (tPart t2 (tn t) (tn t + 1)) = r2 at hg2 hQ
          rcases r2 with ⟨c, a4, t4⟩ | ⟨a4, t4⟩
          · obtain ⟨rfl, g5, g6, g7, g8⟩ := hg2
            refine t_addPart g5 (by omega) ?_
            have hQ : rq Q o0 X len tl b0 b1 op (if tx a4 = 41 then _ else _) := hQ
            refine q_need (c := 41) rfl hx (by omega) (by decide) h6 (fun h => ?_) (fun h => ?_)
            · rw [if_pos h] at hQ
              exact hQ
            · rw [if_neg h] at hQ
              exact hQ
          · exact hQ
        · rw [if_neg h4] at hQ
          exact hQ
      · exact hQ
    · rw [if_neg h2] at hQ
      exact hQ
  · rw [if_neg h] at hQ
    exact hQ
end P2h
