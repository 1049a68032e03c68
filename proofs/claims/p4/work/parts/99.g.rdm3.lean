section
section P2i
variable {m b0 b1 : Nat} {op : Bool} {tl : List mj_O} {Q : mj_R → Prop} {xs : List Int32}
variable {o0 : mj_O} {t : tS} {X : Nat → Int32} {len a : Nat} {tx : Nat → Nat}
set_option maxRecDepth 10000
theorem tPt_lt {t : tS} (ht : tOK t) : ∀ (k : Nat) (o : Option Nat), (∀ i, o = some i → i < 1000) → ∀ i, tPt t k o = some i → i < 1000
  | 0, o, h => h
  | k + 1, o, h => tPt_lt ht k _ (tEn_lt ht.2.2.2 o)
theorem q_bind {l d n : Nat} {y z : Int32} (hy : y = nI n) (hz : z = nI d) (hx : txOK X len tx) (ht : tOK t) (hp : n < tn t) (hn : tn t ≤ a) (hl : a ≤ len) (hd : d < 900) (h6 : 6 ≤ b1) {pe pe3 : Nat → tS → PR} {lv : Nat} (H2 : HE xs o0 X len tl b0 b1 op y_Reader_expression lv pe (d + 1)) (H3 : HE xs o0 X len tl b0 b1 op y_Reader_expression lv pe3 (d + 2)) (hlv : lv + 1 ≤ l) (h3 : 5 ≤ l) (hg : GE len pe) (hg3 : GE len pe3) (hQ : ru Q o0 X len tl b0 b1 op (pBind tx pe (pFun tx pe3 (d + 2)) d n a t)) : mj_Mt gT (law_cst xs) gnw (l + 1) y_Reader_binding [.ref 10, .int y, .int z] (rdW o0 t X len a tl, b0 + 1, b1, op) Q := by
  subst hy
  subst hz
  obtain ⟨l, rfl⟩ : ∃ l', l = l' + 5 := ⟨l - 5, by omega⟩
  have h96 := hx.1
  unfold pBind at hQ
  intro J hJ
  refine hJ _ _ _ _ ?_
  refine q_open rfl hx (by omega) (by omega) h6 (fun hd9 h40 => ?_) (fun h => ?_)
  · rw [if_pos ⟨hd9, h40⟩] at hQ
    have h1 := hx.lt (a := a) (by omega)
    refine t_part (o := some n) (k := 1) rfl rfl (by decide) ht (fun i e => by cases e; omega) ?_
    refine q_among rfl hx (by omega) ht (tPt_lt ht 1 _ (tEn_lt ht.2.1 _)) h6 (fun g1 g2 => ?_) (fun g => ?_)
    · rw [if_pos ⟨g1, g2⟩] at hQ
      have h3 := hx.lt (cL_ne g1)
      refine t_add (k := 10) (by omega) ?_
      have ht1 : tOK (tAdd t 10 (nI (tx (a + 1))) (nI (a + 1))) := tOK_add ht (by omega)
      have nd : ∀ z : Int32, z = nI (a + 1 + 1) → ∀ (Q' : mj_R → Prop), (tx (a + 1 + 1) = 32 → Q' (.inl none, (rdW o0 (tAdd t 10 (nI (tx (a + 1))) (nI (a + 1))) X len (a + 1 + 1 + 1) tl, b0 + 1, b1, op))) → (¬ tx (a + 1 + 1) = 32 → Q' (.inr 0, (rdW o0 (tAdd t 10 (nI (tx (a + 1))) (nI (a + 1))) X len (a + 1 + 1) tl, b0, b1 - 6, false))) → mj_Mt gT (law_cst xs) gnw (l + 5) y_Reader_need [.ref 10, .int (nI 32)] (rdX o0 (tAdd t 10 (nI (tx (a + 1))) (nI (a + 1))) X len z tl, b0 + 1, b1, op) Q' := by
        rintro z rfl Q' q1 q2
        exact q_need (c := 32) rfl hx (by omega) (by decide) h6 q1 q2
      refine nd _ (nI_1 (a + 1)) _ (fun h => ?_) (fun h => ?_)
      · rw [if_pos h] at hQ
        have h5 := hx.lt (a := a + 1 + 1) (by omega)
        have hgd := g_bv (pf := pFun tx pe3 (d + 2)) hx hg (fun a t q1 q2 q3 => g_fun hx hg3 q1 q2 q3) (d := d) (n := n) (a := a + 1 + 1 + 1) ht1 (by rw [tn_add]; omega) (by omega)
        rw [tn_add] at hgd
        refine t_kind (o := some n) rfl ht1.1 (fun i e => by cases e; omega) ?_
        have fin : ∀ (F c a2 : Nat) (t2 : tS), c = tn t + 1 → tOK t2 → tn t + 1 < tn t2 → tn t2 ≤ a2 → a2 ≤ len → ru Q o0 X len tl b0 b1 op (if tx a2 = 41 then .inl (a2 + 1, tPart (tPart t2 (tn t) c) n (tn t)) else .inr (a2, tPart t2 (tn t) c)) → mj_sg (mj_Mt gT (law_cst xs) gnw (l + 5)) (law_cst xs) gnw (mj_hd (mj_off kO_Reader_binding) kH_Reader_binding) kC_Reader_binding J Q (F + 20) false 58 [some (.ref 10), some (.int (nI n)), some (.int (nI d)), some (.int (nI (tx (a + 1)))), some (.int (nI (tn t)))] [] (rdW o0 (tPart t2 (tn t) c) X len a2 tl, b0 + 1, b1, op) := by
          intro F c a2 t2 q0 q1 q2 q3 q4 hq
          have hc2 : tn (tPart t2 (tn t) c) = tn t2 := tn_part
          refine q_need (c := 41) rfl hx (by omega) (by decide) h6 (fun h => ?_) (fun h => ?_)
          · rw [if_pos h] at hq
            refine t_addPart (tOK_part q1 (by omega)) (by rw [hc2]; omega) ?_
            exact hq
          · rw [if_neg h] at hq
            exact hq
        unfold pBv at hQ hgd
        by_cases h9 : tEi (tAdd t 10 (nI (tx (a + 1))) (nI (a + 1))) (tK (tAdd t 10 (nI (tx (a + 1))) (nI (a + 1)))) (some n) = 9
        · rw [if_pos h9] at hQ hgd
          refine And.intro (fun g => absurd h9 g) (fun _ => ?_)
          refine q_open (nI_1 d) hx (by omega) (by omega) h6 (fun e1 e2 => ?_) (fun e => ?_)
          · rw [if_pos ⟨e1, e2⟩] at hQ hgd
            have h7 := hx.lt (a := a + 1 + 1 + 1) (by omega)
            refine q_fun (l := l + 4) (nI_add d 2) hx ht1 (by rw [tn_add]; omega) (by omega) (by omega) h6 H3 (by omega) (by omega) hg3 ?_
            generalize pFun tx pe3 (d + 2) (a + 1 + 1 + 1 + 1) (tAdd t 10 (nI (tx (a + 1))) (nI (a + 1))) = r at hgd hQ
            rcases r with ⟨c, a2, t2⟩ | ⟨a2, t2⟩
            · obtain ⟨rfl, q1, q2, q3, q4⟩ := hgd
              refine t_addPart q1 (by omega) ?_
              exact fin _ _ a2 t2 rfl q1 q2 q3 q4 hQ
            · exact hQ
          · rw [if_neg e] at hQ
            exact hQ
        · rw [if_neg h9] at hQ hgd
          refine And.intro (fun _ => ?_) (fun g => absurd g h9)
          refine H2 (l + 5) (a + 1 + 1 + 1) _ _ _ (nI_1 d) (by omega) ht1 (by rw [tn_add]; omega) (by omega) ?_
          generalize pe (a + 1 + 1 + 1) (tAdd t 10 (nI (tx (a + 1))) (nI (a + 1))) = r at hgd hQ
          rcases r with ⟨c, a2, t2⟩ | ⟨a2, t2⟩
          · obtain ⟨rfl, q1, q2, q3, q4⟩ := hgd
            refine t_addPart q1 (by omega) ?_
            exact fin _ _ a2 t2 rfl q1 q2 q3 q4 hQ
          · exact hQ
      · rw [if_neg h] at hQ
        exact hQ
    · rw [if_neg g] at hQ
      exact hQ
  · rw [if_neg h] at hQ
    exact hQ
theorem q_bsLoop {l d n : Nat} {w : Value} {y4 : Int32} {J : Nat → mj_L → List Value → mj_H → Prop} (hJ : ∀ pc ls st h, mj_sg (mj_Mt gT (law_cst xs) gnw l) (law_cst xs) gnw (mj_hd (mj_off kO_Reader_bound) kH_Reader_bound) kC_Reader_bound J Q 400 true pc ls st h → J pc ls st h) (hx : txOK X len tx) (hd : d < 900) (h6 : 6 ≤ b1) {pe pe3 : Nat → tS → PR} {lv : Nat} (H2 : HE xs o0 X len tl b0 b1 op y_Reader_expression lv pe (d + 1)) (H3 : HE xs o0 X len tl b0 b1 op y_Reader_expression lv pe3 (d + 2)) (hlv : lv + 2 ≤ l) (h3 : 6 ≤ l) (hg : GE len pe) (hg3 : GE len pe3) :
    ∀ (k i a : Nat) (t : tS) (x : Int32), k + i = 3 → x = nI i → tOK t → n < tn t → tn t ≤ a → a ≤ len → rq Q o0 X len tl b0 b1 op (pBs tx (pBind tx pe (pFun tx pe3 (d + 2)) d n) n k a t) → J 40 [some (.ref 10), some (.int y4), some (.int (nI d)), some (.int (if y4 = 59 then 9 else 8)), some (.int (nI n)), some (.int x)] [] (rdW o0 t X len a tl, b0 + 1, b1, op) := by
  obtain ⟨l, rfl⟩ : ∃ l', l = l' + 6 := ⟨l - 6, by omega⟩
  have h96 := hx.1
  intro k
  induction k with
  | zero =>
    intro i a t x hi hxi ht hn ha hl hQ
    subst hxi
    obtain rfl : i = 3 := by omega
    refine hJ _ _ _ _ ?_
    refine And.intro (fun _ => ?_) (fun g => absurd (by decide) g)
    unfold pBs pClose at hQ
    refine q_need (c := 41) rfl hx (by omega) (by decide) h6 (fun h => ?_) (fun h => ?_)
    · rw [if_pos h] at hQ
      exact hQ
    · rw [if_neg h] at hQ
      exact hQ
  | succ k ih =>
    intro i a t x hi hxi ht hn ha hl hQ
    subst hxi
    have hle := hx.le a
    refine hJ _ _ _ _ ?_
    refine And.intro (fun g => absurd g (nI_ge (a := i) (b := 3) (by omega) (by decide))) (fun _ => ?_)
    refine x_codeAt rfl hx (by omega) ?_
    unfold pBs at hQ
    refine And.intro (fun g => ?_) (fun g => ?_)
    · have h32 : ¬ tx a = 32 := fun e => g (by rw [e]; rfl)
      rw [if_neg h32] at hQ
      unfold pClose at hQ
      refine q_need (c := 41) rfl hx (by omega) (by decide) h6 (fun h => ?_) (fun h => ?_)
      · rw [if_pos h] at hQ
        exact hQ
      · rw [if_neg h] at hQ
        exact hQ
    · have h32 : tx a = 32 := (nI_eq (a := tx a) (b := 32) (by omega) (by decide)).mp g
      have h1 := hx.lt (a := a) (by omega)
      rw [if_pos h32] at hQ
      have hgd := g_bind (pf := pFun tx pe3 (d + 2)) hx hg (fun a t q1 q2 q3 => g_fun hx hg3 q1 q2 q3) (d := d) (n := n) (a := a + 1) ht (by omega) (by omega)
      have key : ∀ z : Int32, z = nI (a + 1) → ∀ (Q' : mj_R → Prop), ru Q' o0 X len tl b0 b1 op (pBind tx pe (pFun tx pe3 (d + 2)) d n (a + 1) t) → mj_Mt gT (law_cst xs) gnw (l + 5 + 1) y_Reader_binding [.ref 10, .int (nI n), .int (nI d)] (rdX o0 t X len z tl, b0 + 1, b1, op) Q' := by
        rintro z rfl Q' hq
        exact q_bind rfl rfl hx ht hn (by omega) (by omega) hd h6 H2 H3 (by omega) (by omega) hg hg3 hq
      refine key _ (nI_1 a) _ ?_
      generalize pBind tx pe (pFun tx pe3 (d + 2)) d n (a + 1) t = r at hgd hQ
      rcases r with ⟨a2, t2⟩ | ⟨a2, t2⟩
      · obtain ⟨g1, g2, g3, g4⟩ := hgd
        exact ih (i + 1) a2 t2 _ (by omega) (nI_1 i) g1 (by omega) g3 g4 hQ
      · exact hQ
theorem q_bou {l d c : Nat} {y z : Int32} (hy : y = nI c) (hz : z = nI d) (hc : c = 58 ∨ c = 59) (hx : txOK X len tx) (ht : tOK t) (hn : tn t + 1 ≤ a) (hl : a < len) (hd : d < 900) (h6 : 6 ≤ b1) {pe pe2 pe3 : Nat → tS → PR} {lv : Nat} (H1 : HE xs o0 X len tl b0 b1 op y_Reader_expression lv pe d) (H2 : HE xs o0 X len tl b0 b1 op y_Reader_expression lv pe2 (d + 1)) (H3 : HE xs o0 X len tl b0 b1 op y_Reader_expression lv pe3 (d + 2)) (hlv : lv + 2 ≤ l) (h3 : 6 ≤ l) (hg : GE len pe) (hg2 : GE len pe2) (hg3 : GE len pe3) (hQ : rq Q o0 X len tl b0 b1 op (pBou tx pe (pBind tx pe2 (pFun tx pe3 (d + 2)) d) (if c = 59 then 9 else 8) a t)) : mj_Mt gT (law_cst xs) gnw (l + 1) y_Reader_bound [.ref 10, .int y, .int z] (rdW o0 t X len a tl, b0 + 1, b1, op) Q := by
  subst hy
  subst hz
  obtain ⟨l, rfl⟩ : ∃ l', l = l' + 6 := ⟨l - 6, by omega⟩
  have h96 := hx.1
  intro J hJ
  have ek : (if c = 59 then (9 : Int32) else 8) = (if nI c = 59 then 9 else 8) := by
    rcases hc with rfl | rfl <;> decide
  rw [ek] at hQ
  have go : ∀ (F : Nat) (kd : Int32), kd = (if nI c = 59 then 9 else 8) → mj_sg (mj_Mt gT (law_cst xs) gnw (l + 6)) (law_cst xs) gnw (mj_hd (mj_off kO_Reader_bound) kH_Reader_bound) kC_Reader_bound J Q (F + 100) false 14 [some (.ref 10), some (.int (nI c)), some (.int (nI d)), some (.int kd), none, none] [.int (nI (tn t))] (rdW o0 (tAdd t kd 0 (nI a)) X len a tl, b0 + 1, b1, op) := by
    intro F kd hkd
    rw [← hkd] at hQ
    have ht1 : tOK (tAdd t kd 0 (nI a)) := tOK_add ht (by omega) (fun h => by rw [h] at hkd; split at hkd <;> exact absurd hkd (by decide))
    unfold pBou at hQ
    have nd : ∀ z : Int32, z = nI (a + 1) → ∀ (Q' : mj_R → Prop), (tx (a + 1) = 32 → Q' (.inl none, (rdW o0 (tAdd t kd 0 (nI a)) X len (a + 1 + 1) tl, b0 + 1, b1, op))) → (¬ tx (a + 1) = 32 → Q' (.inr 0, (rdW o0 (tAdd t kd 0 (nI a)) X len (a + 1) tl, b0, b1 - 6, false))) → mj_Mt gT (law_cst xs) gnw (l + 6) y_Reader_need [.ref 10, .int (nI 32)] (rdX o0 (tAdd t kd 0 (nI a)) X len z tl, b0 + 1, b1, op) Q' := by
      rintro z rfl Q' q1 q2
      exact q_need (c := 32) rfl hx (by omega) (by decide) h6 q1 q2
    refine nd _ (nI_1 a) _ (fun h => ?_) (fun h => ?_)
    · rw [if_pos h] at hQ
      have h1 := hx.lt (a := a + 1) (by omega)
      have hgd := hg (a + 1 + 1) _ ht1 (by rw [tn_add]; omega) (by omega)
      rw [tn_add] at hgd
      refine H1 (l + 6) (a + 1 + 1) _ _ _ rfl (by omega) ht1 (by rw [tn_add]; omega) (by omega) ?_
      generalize pe (a + 1 + 1) (tAdd t kd 0 (nI a)) = r at hgd hQ
      rcases r with ⟨c2, a2, t2⟩ | ⟨a2, t2⟩
      · obtain ⟨rfl, g1, g2, g3, g4⟩ := hgd
        have ht2 : tOK (tPart t2 (tn t) (tn t + 1)) := tOK_part g1 (by omega)
        have hQ : rq Q o0 X len tl b0 b1 op (if tx a2 = 32 then _ else _) := hQ
        refine t_addPart g1 (by omega) ?_
        refine q_need (c := 32) rfl hx (by omega) (by decide) h6 (fun h4 => ?_) (fun h4 => ?_)
        · rw [if_pos h4] at hQ
          have h5 := hx.lt (a := a2) (by omega)
          have hgb := g_bind (pf := pFun tx pe3 (d + 2)) hx hg2 (fun a t q1 q2 q3 => g_fun hx hg3 q1 q2 q3) (d := d) (n := tn t) (a := a2 + 1) ht2 (by rw [tn_part]; omega) (by omega)
          rw [tn_part] at hgb
          refine q_bind (l := l + 5) rfl rfl hx ht2 (by rw [tn_part]; omega) (by rw [tn_part]; omega) (by omega) hd h6 H2 H3 (by omega) (by omega) hg2 hg3 ?_
          generalize pBind tx pe2 (pFun tx pe3 (d + 2)) d (tn t) (a2 + 1) (tPart t2 (tn t) (tn t + 1)) = r2 at hgb hQ
          rcases r2 with ⟨a4, t4⟩ | ⟨a4, t4⟩
          · obtain ⟨g5, g6, g7, g8⟩ := hgb
            rw [hkd]
            exact q_bsLoop (w := .null) hJ hx hd h6 H2 H3 (by omega) (by omega) hg2 hg3 2 1 a4 t4 _ rfl rfl g5 (by omega) g7 g8 hQ
          · exact hQ
        · rw [if_neg h4] at hQ
          exact hQ
      · exact hQ
    · rw [if_neg h] at hQ
      exact hQ
  refine hJ _ _ _ _ ?_
  refine And.intro (fun g => ?_) (fun g => ?_)
  · refine t_add (k := 8) (v := 0) (by omega) ?_
    exact go _ 8 (by rw [if_neg (show ¬ nI c = 59 from g)])
  · refine t_add (k := 9) (v := 0) (by omega) ?_
    exact go _ 9 (by rw [if_pos (show nI c = 59 from g)])
theorem q_call {l d : Nat} {y : Int32} (hy : y = nI d) (hx : txOK X len tx) (ht : tOK t) (hn : tn t + 1 ≤ a) (hl : a ≤ len) (h6 : 6 ≤ b1) {pe : Nat → tS → PR} {lv : Nat} (H1 : HE xs o0 X len tl b0 b1 op y_Reader_expression lv pe d) (hlv : lv ≤ l) (h3 : 3 ≤ l) (hg : GE len pe) (hQ : rq Q o0 X len tl b0 b1 op (pCall tx pe a t)) : mj_Mt gT (law_cst xs) gnw (l + 1) y_Reader_call [.ref 10, .int y] (rdW o0 t X len a tl, b0 + 1, b1, op) Q := by
  subst hy
  obtain ⟨l, rfl⟩ : ∃ l', l = l' + 3 := ⟨l - 3, by omega⟩
  have h96 := hx.1
  have ht1 : tOK (tAdd t 11 0 (nI a)) := tOK_add ht (by omega)
  unfold pCall at hQ
  intro J hJ
  refine hJ _ _ _ _ ?_
  refine t_add (k := 11) (v := 0) (by omega) ?_
  have hgd := hg a _ ht1 (by rw [tn_add]; omega) hl
  rw [tn_add] at hgd
  refine H1 (l + 3) a _ _ _ rfl hlv ht1 (by rw [tn_add]; omega) hl ?_
  generalize pe a (tAdd t 11 0 (nI a)) = r at hgd hQ
  rcases r with ⟨c, a2, t2⟩ | ⟨a2, t2⟩
  · obtain ⟨rfl, g1, g2, g3, g4⟩ := hgd
    refine t_addPart g1 (by omega) ?_
    exact q_callLoop hJ hx h6 H1 rfl hlv (by omega) hg 3 0 a2 _ _ rfl rfl (tOK_part g1 (by omega)) (by rw [tn_part]; omega) (by rw [tn_part]; exact g3) g4 hQ
  · exact hQ
theorem q_operands {h : mj_H} {o : Nat} {y : Int32} (hy : y = nI o) (ho : o < 1000) (hQ : Q (.inl (some (.int (nI (opN o)))), h)) : mj_Mt gT (law_cst xs) gnw (m + 1) y_Op_operands [.int y] h Q := by
  subst hy
  unfold opN at hQ
  intro J hJ
  refine hJ _ _ _ _ ?_
  refine And.intro (fun g => ?_) (fun g => ?_)
  · have h8 : ¬ o = 8 := fun e => g (by rw [e]; rfl)
    rw [if_neg h8] at hQ
    refine And.intro (fun (g2 : nI 12 < nI o) => ?_) (fun (g2 : ¬ nI 12 < nI o) => ?_)
    · have := (nI_ltI (by decide) (by omega)).mp g2
      rw [if_neg (by omega)] at hQ
      exact hQ
    · have : ¬ 12 < o := fun e => g2 (nI_lt e (by omega))
      rw [if_pos (by omega)] at hQ
      exact hQ
  · have h8 : o = 8 := (nI_eq (a := o) (b := 8) (by omega) (by decide)).mp g
    rw [if_pos h8] at hQ
    exact hQ
theorem q_argLoop {l d n o : Nat} {J : Nat → mj_L → List Value → mj_H → Prop} (hJ : ∀ pc ls st h, mj_sg (mj_Mt gT (law_cst xs) gnw l) (law_cst xs) gnw (mj_hd (mj_off kO_Reader_operation) kH_Reader_operation) kC_Reader_operation J Q 400 true pc ls st h → J pc ls st h) (ho : o < 1000) (hx : txOK X len tx) (h6 : 6 ≤ b1) {pe : Nat → tS → PR} {lv : Nat} (H1 : HE xs o0 X len tl b0 b1 op y_Reader_expression lv pe d) (hlv : lv ≤ l) (h3 : 3 ≤ l) (hg : GE len pe) :
    ∀ (k i a : Nat) (t : tS) (x : Int32), k + i = opN o → x = nI i → tOK t → n < tn t → tn t ≤ a → a ≤ len → rq Q o0 X len tl b0 b1 op (pArgs tx pe n k a t) → J 16 [some (.ref 10), some (.int (nI o)), some (.int (nI d)), some (.int (nI n)), some (.int x)] [] (rdW o0 t X len a tl, b0 + 1, b1, op) := by
  obtain ⟨l, rfl⟩ : ∃ l', l = l' + 3 := ⟨l - 3, by omega⟩
  have h96 := hx.1
  have hon : opN o ≤ 3 := by
    unfold opN
    split
    · omega
    · split <;> omega
  intro k
  induction k with
  | zero =>
    intro i a t x hi hxi ht hn ha hl hQ
    subst hxi
    refine hJ _ _ _ _ ?_
    refine q_operands rfl ho ?_
    refine And.intro (fun _ => ?_) (fun g => absurd (nI_le (a := opN o) (b := i) (by omega) (by omega)) g)
    unfold pArgs pClose at hQ
    refine q_need (c := 41) rfl hx (by omega) (by decide) h6 (fun h => ?_) (fun h => ?_)
    · rw [if_pos h] at hQ
      exact hQ
    · rw [if_neg h] at hQ
      exact hQ
  | succ k ih =>
    intro i a t x hi hxi ht hn ha hl hQ
    subst hxi
    refine hJ _ _ _ _ ?_
    refine q_operands rfl ho ?_
    refine And.intro (fun g => absurd g (nI_ge (a := i) (b := opN o) (by omega) (by omega))) (fun _ => ?_)
    unfold pArgs at hQ
    refine q_need (c := 32) rfl hx (by omega) (by decide) h6 (fun h => ?_) (fun h => ?_)
    · rw [if_pos h] at hQ
      have h1 := hx.lt (a := a) (by omega)
      have hgd := hg (a + 1) t ht (by omega) (by omega)
      refine H1 (l + 3) (a + 1) t _ _ rfl hlv ht (by omega) (by omega) ?_
      generalize pe (a + 1) t = r at hgd hQ
      rcases r with ⟨c, a2, t2⟩ | ⟨a2, t2⟩
      · obtain ⟨rfl, g1, g2, g3, g4⟩ := hgd
        refine t_addPart g1 (by omega) ?_
        exact ih (i + 1) a2 _ _ (by omega) (nI_1 i) (tOK_part g1 (by omega)) (by rw [tn_part]; omega) (by rw [tn_part]; exact g3) g4 hQ
      · exact hQ
    · rw [if_neg h] at hQ
      exact hQ
theorem q_op {l d o : Nat} {y z : Int32} (hy : y = nI o) (hz : z = nI d) (ho : o < 1000) (hx : txOK X len tx) (ht : tOK t) (hn : tn t + 1 ≤ a) (hl : a < len) (h6 : 6 ≤ b1) {pe : Nat → tS → PR} {lv : Nat} (H1 : HE xs o0 X len tl b0 b1 op y_Reader_expression lv pe d) (hlv : lv ≤ l) (h3 : 3 ≤ l) (hg : GE len pe) (hQ : rq Q o0 X len tl b0 b1 op (pOp tx pe o a t)) : mj_Mt gT (law_cst xs) gnw (l + 1) y_Reader_operation [.ref 10, .int y, .int z] (rdW o0 t X len a tl, b0 + 1, b1, op) Q := by
  subst hy
  subst hz
  have h96 := hx.1
  have ht1 : tOK (tAdd t 5 (nI o) (nI a)) := tOK_add ht (by omega)
  unfold pOp at hQ
  obtain ⟨l, rfl⟩ : ∃ l', l = l' + 3 := ⟨l - 3, by omega⟩
  intro J hJ
  refine hJ _ _ _ _ ?_
  refine t_add (k := 5) (by omega) ?_
  have key : ∀ z : Int32, z = nI (a + 1) → J 16 [some (.ref 10), some (.int (nI o)), some (.int (nI d)), some (.int (nI (tn t))), some (.int 0)] [] (rdX o0 (tAdd t 5 (nI o) (nI a)) X len z tl, b0 + 1, b1, op) := by
    rintro z rfl
    exact q_argLoop hJ ho hx h6 H1 hlv (by omega) hg (opN o) 0 (a + 1) _ _ rfl rfl ht1 (by rw [tn_add]; omega) (by rw [tn_add]; omega) (by omega) hQ
  exact key _ (nI_1 a)
end P2i
end
section
section P2j
variable {m b0 b1 : Nat} {op : Bool} {tl : List mj_O} {Q : mj_R → Prop} {xs : List Int32}
variable {o0 : mj_O} {t : tS} {X : Nat → Int32} {len a : Nat} {tx : Nat → Nat} {h : mj_H}
set_option maxRecDepth 10000
theorem j_sgl : ∀ i, i < 9 → ∀ c, c < 127 → (law_s2012.getD i 0 = sb_b c ↔ sgl.getD i 0 = c) := by decide +kernel
theorem j_canEncodeI {c : Nat} (hc : c < 127) (hQ : Q (.inl (some (.int 1)), h)) : mj_Mt gT (law_cst xs) gnw (m + 1) y_StringLatin1_canEncode_I [.int (nI c)] h Q := by
  intro J hJ
  refine hJ _ _ _ _ ?_
  refine And.intro (fun g => absurd g (nI_pos (by omega))) (fun _ => ?_)
  refine And.intro (fun g => absurd g (nI_nlt (a := 255) (b := c) (by omega) (by decide))) (fun _ => ?_)
  exact And.intro (Or.inr rfl) hQ
theorem j_idxChar {c : Nat} {z : Int32} (hz : z = nI 9) (hc : c < 127) (hQ : Q (.inl (some (.int (oV (fdx c 9 0)))), h)) : mj_Mt gT (law_cst xs) gnw (m + 1) y_StringLatin1_indexOfChar [.ref 1112, .int (nI c), .int 0, .int z] h Q := by
  subst hz
  intro J hJ
  have loop : ∀ (k i : Nat) (x : Int32), k + i = 9 → x = nI i → fdx c k i = fdx c 9 0 → J 5 [some (.ref 1112), some (.int (nI c)), some (.int 0), some (.int (nI 9)), some (.int (nI c).toInt8.toInt32), some (.int x)] [] h := by
    intro k
    induction k with
    | zero =>
      intro i x hi hx e
      subst hx
      obtain rfl : i = 9 := by omega
      refine hJ _ _ _ _ ?_
      refine And.intro (fun _ => ?_) (fun g => absurd (by decide) g)
      rw [← e] at hQ
      exact hQ
    | succ k ih =>
      intro i x hi hx e
      subst hx
      have ec : (nI i).toNatClampNeg = i := nI_clamp (by omega)
      refine hJ _ _ _ _ ?_
      refine And.intro (fun g => absurd g (nI_ge (a := i) (b := 9) (by omega) (by decide))) (fun _ => ?_)
      refine And.intro (vp_in_nI (by omega) (by decide)) ?_
      have ev : ∀ j, j = i → (law_s2012.getD j 0 = sb_b c ↔ sgl.getD i 0 = c) := by
        rintro j rfl
        exact j_sgl j (by omega) c hc
      refine And.intro (fun g => ?_) (fun g => ?_)
      · have g2 : ¬ sgl.getD i 0 = c := fun q => g ((ev _ ec).mpr q)
        refine ih (i + 1) _ (by omega) (nI_1 i) ?_
        rw [← e, fdx, if_neg g2]
      · have g2 : sgl.getD i 0 = c := (ev _ ec).mp g
        rw [← e, fdx, if_pos g2] at hQ
        exact hQ
  refine hJ _ _ _ _ ?_
  exact loop 9 0 _ rfl rfl rfl
theorem j_coder2012 (hQ : Q (.inl (some (.int 0)), h)) : mj_Mt gT (law_cst xs) gnw (m + 1) y_String_coder [.ref 2012] h Q := by
  intro J hJ
  refine hJ _ _ _ _ ?_
  refine And.intro (fun h => absurd h (by decide)) (fun _ => ?_)
  exact And.intro (by decide) hQ
theorem j_slen2012 (hQ : Q (.inl (some (.int (nI 9))), h)) : mj_Mt gT (law_cst xs) gnw (m + 2) y_String_length [.ref 2012] h Q := by
  intro J hJ
  refine hJ _ _ _ _ ?_
  refine j_coder2012 ?_
  rw [← sb_shr0 (nI 9)] at hQ
  exact hQ
theorem j_sLatin (hQ : Q (.inl (some (.int 1)), h)) : mj_Mt gT (law_cst xs) gnw (m + 1) y_String_isLatin1 [.ref 2012] h Q := by
  intro J hJ
  refine hJ _ _ _ _ ?_
  refine And.intro (fun h => absurd h (by decide)) (fun _ => ?_)
  refine And.intro (fun h => absurd rfl h) (fun _ => ?_)
  exact And.intro (Or.inr rfl) hQ
theorem j_l1idx {c : Nat} (hc : c < 127) (hQ : Q (.inl (some (.int (oV (fdx c 9 0)))), h)) : mj_Mt gT (law_cst xs) gnw (m + 2) y_StringLatin1_indexOf [.ref 1112, .int (nI c), .int 0, .int (nI 9)] h Q := by
  intro J hJ
  refine hJ _ _ _ _ ?_
  refine j_canEncodeI hc ?_
  refine And.intro (fun _ => ?_) (fun g => absurd g (by decide))
  refine And.intro (fun _ => ?_) (fun g => absurd (by decide) g)
  refine j_idxChar (by decide) hc ?_
  exact hQ
theorem j_indexOf2 {c : Nat} (hc : c < 127) (hQ : Q (.inl (some (.int (oV (fdx c 9 0)))), h)) : mj_Mt gT (law_cst xs) gnw (m + 3) y_String_indexOf_II [.ref 2012, .int (nI c), .int 0] h Q := by
  intro J hJ
  refine hJ _ _ _ _ ?_
  refine j_sLatin ?_
  refine And.intro (fun g => absurd g (by decide)) (fun _ => ?_)
  refine j_slen2012 ?_
  refine j_l1idx hc ?_
  exact hQ
theorem j_indexOf {c : Nat} {y : Int32} (hy : y = nI c) (hc : c < 127) (hQ : Q (.inl (some (.int (oV (fdx c 9 0)))), h)) : mj_Mt gT (law_cst xs) gnw (m + 4) y_String_indexOf_I [.ref 2012, .int y] h Q := by
  subst hy
  intro J hJ
  refine hJ _ _ _ _ ?_
  refine j_indexOf2 hc ?_
  exact hQ
theorem fdx_lt {c : Nat} : ∀ (k i j : Nat), fdx c k i = some j → j < i + k
  | 0, i, j, e => by cases e
  | k + 1, i, j, e => by
    unfold fdx at e
    split at e
    · cases e; omega
    · have := fdx_lt k (i + 1) j e
      omega
theorem o_of {c : Nat} (hc : c < 127) (hQ : Q (.inl (some (.int (oV (opO c)))), h)) : mj_Mt gT (law_cst xs) gnw (m + 5) y_Op_of [.int (nI c)] h Q := by
  unfold opO at hQ
  intro J hJ
  refine hJ _ _ _ _ ?_
  refine And.intro (fun g => ?_) (fun g => ?_)
  · have h63 : ¬ c = 63 := fun e => g (by rw [e]; rfl)
    rw [if_neg h63] at hQ
    refine j_indexOf (sb_byte c (by omega)).2.1 hc ?_
    cases hf : fdx c 9 0 with
    | none =>
      rw [hf] at hQ
      refine And.intro (fun g => absurd g (by decide)) (fun _ => ?_)
      exact hQ
    | some i =>
      have hi := fdx_lt 9 0 i hf
      rw [hf] at hQ
      refine And.intro (fun _ => ?_) (fun g => absurd (nI_pos' (n := i) (by omega)) g)
      have hQ : Q (.inl (some (.int (nI (10 + i)))), h) := hQ
      rw [← nI_add 10 i] at hQ
      exact hQ
  · have h63 : c = 63 := (nI_eq (a := c) (b := 63) (by omega) (by decide)).mp g
    rw [if_pos h63] at hQ
    exact hQ
theorem opO_lt {c o : Nat} (h : opO c = some o) : o < 20 := by
  unfold opO at h
  split at h
  · cases h; omega
  · cases hf : fdx c 9 0 with
    | none => rw [hf] at h; cases h
    | some i =>
      have := fdx_lt 9 0 i hf
      rw [hf] at h
      cases h
      show 10 + i < 20
      omega
theorem q_bra {l d : Nat} {y : Int32} (hy : y = nI d) (hx : txOK X len tx) (ht : tOK t) (hn : tn t ≤ a) (hl : a ≤ len) (hd : d < 800) (h6 : 6 ≤ b1) {pe pe2 pe3 : Nat → tS → PR} {lv : Nat} (H1 : HE xs o0 X len tl b0 b1 op y_Reader_expression lv pe (d + 1)) (H2 : HE xs o0 X len tl b0 b1 op y_Reader_expression lv pe2 (d + 2)) (H3 : HE xs o0 X len tl b0 b1 op y_Reader_expression lv pe3 (d + 3)) (hlv : lv + 3 ≤ l) (h3 : 8 ≤ l) (hg : GE len pe) (hg2 : GE len pe2) (hg3 : GE len pe3) (h40 : tx a = 40) (hQ : rq Q o0 X len tl b0 b1 op (if d < 9 then pBra tx pe pe2 pe3 (d + 1) (a + 1) t else .inr (a, t))) : mj_Mt gT (law_cst xs) gnw (l + 1) y_Reader_bracketed [.ref 10, .int y] (rdW o0 t X len a tl, b0 + 1, b1, op) Q := by
  subst hy
  obtain ⟨l, rfl⟩ : ∃ l', l = l' + 8 := ⟨l - 8, by omega⟩
  have h96 := hx.1
  have h1 := hx.lt (a := a) (by omega)
  have hle := hx.le (a + 1)
  intro J hJ
  refine hJ _ _ _ _ ?_
  refine q_open rfl hx (by omega) (by omega) h6 (fun hd9 _ => ?_) (fun h => ?_)
  · rw [if_pos hd9] at hQ
    unfold pBra at hQ
    refine x_codeAt rfl hx (by omega) ?_
    have call : ∀ (Q' : mj_R → Prop) (z : Int32), z = nI (d + 1) → rq Q' o0 X len tl b0 b1 op (pCall tx pe (a + 1) t) → mj_Mt gT (law_cst xs) gnw (l + 7 + 1) y_Reader_call [.ref 10, .int z] (rdW o0 t X len (a + 1) tl, b0 + 1, b1, op) Q' := fun Q' z hz hq => q_call hz hx ht (by omega) (by omega) h6 H1 (by omega) (by omega) hg hq
    refine And.intro (fun g => ?_) (fun g => ?_)
    · have h92 : ¬ tx (a + 1) = 92 := fun e => g (by rw [e]; rfl)
      rw [if_neg h92] at hQ
      have bou : (tx (a + 1) = 58 ∨ tx (a + 1) = 59) → ∀ (Q' : mj_R → Prop) (z : Int32), z = nI (d + 1) → rq Q' o0 X len tl b0 b1 op (pBou tx pe (pBind tx pe2 (pFun tx pe3 (d + 1 + 2)) (d + 1)) (if tx (a + 1) = 59 then 9 else 8) (a + 1) t) → mj_Mt gT (law_cst xs) gnw (l + 7 + 1) y_Reader_bound [.ref 10, .int (nI (tx (a + 1))), .int z] (rdW o0 t X len (a + 1) tl, b0 + 1, b1, op) Q' := by
        intro hc Q' z hz hq
        exact q_bou rfl hz hc hx ht (by omega) (hx.lt (by omega)) (by omega) h6 H1 H2 H3 (by omega) (by omega) hg hg2 hg3 hq
      refine And.intro (fun g2 => ?_) (fun g2 => ?_)
      · have hc : tx (a + 1) = 58 := (nI_eq (a := tx (a + 1)) (b := 58) (by omega) (by decide)).mp g2
        rw [if_pos (Or.inl hc)] at hQ
        refine bou (Or.inl hc) _ _ (nI_1 d) ?_
        generalize pBou tx pe (pBind tx pe2 (pFun tx pe3 (d + 1 + 2)) (d + 1)) (if tx (a + 1) = 59 then 9 else 8) (a + 1) t = r at hQ
        rcases r with ⟨c, a2, t2⟩ | ⟨a2, t2⟩ <;> exact hQ
      · have h58 : ¬ tx (a + 1) = 58 := fun e => g2 (by rw [e]; rfl)
        refine And.intro (fun g3 => ?_) (fun g3 => ?_)
        · have h59 : ¬ tx (a + 1) = 59 := fun e => g3 (by rw [e]; rfl)
          rw [if_neg (by omega)] at hQ
          have tail : ∀ (F : Nat) (s3 : Int32), (s3 = 0 ∧ ¬ (tx (a + 1) = 45 ∧ cD (tx (a + 1 + 1)) = true) ∨ s3 = 1 ∧ tx (a + 1) = 45 ∧ cD (tx (a + 1 + 1)) = true) → mj_sg (mj_Mt gT (law_cst xs) gnw (l + 8)) (law_cst xs) gnw (mj_hd (mj_off kO_Reader_bracketed) kH_Reader_bracketed) kC_Reader_bracketed J Q (F + 60) false 49 [some (.ref 10), some (.int (nI d)), some (.int (nI (tx (a + 1)))), some (.int s3), none] [.int (oV (opO (tx (a + 1))))] (rdW o0 t X len (a + 1) tl, b0 + 1, b1, op) := by
            intro F s3 hs
            cases ho : opO (tx (a + 1)) with
            | none =>
              rw [ho] at hQ
              refine And.intro (fun _ => ?_) (fun g => absurd rfl g)
              refine call _ _ (nI_1 d) ?_
              have hQ : rq Q o0 X len tl b0 b1 op (pCall tx pe (a + 1) t) := hQ
              generalize pCall tx pe (a + 1) t = r at hQ
              rcases r with ⟨c, a2, t2⟩ | ⟨a2, t2⟩ <;> exact hQ
            | some o =>
              have hol := opO_lt ho
              rw [ho] at hQ
              have hQ : rq Q o0 X len tl b0 b1 op (if tx (a + 1) = 45 ∧ cD (tx (a + 1 + 1)) = true then pCall tx pe (a + 1) t else pOp tx pe o (a + 1) t) := hQ
              have h0 : ¬ tx (a + 1) = 0 := fun e => by rw [e, opO_0] at ho; cases ho
              refine And.intro (fun g => absurd g (oV_ne (k := o) (by omega))) (fun _ => ?_)
              rcases hs with ⟨rfl, hs⟩ | ⟨rfl, hs⟩
              · rw [if_neg hs] at hQ
                refine And.intro (fun _ => ?_) (fun g => absurd rfl g)
                refine q_op (o := o) rfl (nI_1 d) (by omega) hx ht (by omega) (hx.lt h0) h6 H1 (by omega) (by omega) hg ?_
                generalize pOp tx pe o (a + 1) t = r at hQ
                rcases r with ⟨c, a2, t2⟩ | ⟨a2, t2⟩ <;> exact hQ
              · rw [if_pos hs] at hQ
                refine And.intro (fun g => absurd g (by decide)) (fun _ => ?_)
                refine call _ _ (nI_1 d) ?_
                generalize pCall tx pe (a + 1) t = r at hQ
                rcases r with ⟨c, a2, t2⟩ | ⟨a2, t2⟩ <;> exact hQ
          refine And.intro (fun g4 => ?_) (fun g4 => ?_)
          · have h45 : ¬ tx (a + 1) = 45 := fun e => g4 (by rw [e]; rfl)
            refine o_of (by omega) ?_
            exact tail _ 0 (Or.inl ⟨rfl, fun q => h45 q.1⟩)
          · have h45 : tx (a + 1) = 45 := (nI_eq (a := tx (a + 1)) (b := 45) (by omega) (by decide)).mp g4
            have h7 := hx.lt (a := a + 1) (by omega)
            refine x_codeAt (a9 := a + 1 + 1) (nI_1 (a + 1)) hx (by omega) ?_
            refine q_isDigit (hx.le _) ?_
            cases hc : cD (tx (a + 1 + 1)) with
            | false =>
              refine And.intro (fun _ => ?_) (fun g => absurd rfl g)
              refine o_of (by omega) ?_
              exact tail _ 0 (Or.inl ⟨rfl, fun q => by rw [hc] at q; cases q.2⟩)
            | true =>
              refine And.intro (fun g => absurd g (by decide)) (fun _ => ?_)
              refine o_of (by omega) ?_
              exact tail _ 1 (Or.inr ⟨rfl, h45, hc⟩)
        · have hc : tx (a + 1) = 59 := (nI_eq (a := tx (a + 1)) (b := 59) (by omega) (by decide)).mp g3
          rw [if_pos (Or.inr hc)] at hQ
          refine bou (Or.inr hc) _ _ (nI_1 d) ?_
          generalize pBou tx pe (pBind tx pe2 (pFun tx pe3 (d + 1 + 2)) (d + 1)) (if tx (a + 1) = 59 then 9 else 8) (a + 1) t = r at hQ
          rcases r with ⟨c, a2, t2⟩ | ⟨a2, t2⟩ <;> exact hQ
    · have h92 : tx (a + 1) = 92 := (nI_eq (a := tx (a + 1)) (b := 92) (by omega) (by decide)).mp g
      rw [if_pos h92] at hQ
      refine q_fun (l := l + 7) (nI_1 d) hx ht (by omega) (by omega) (by omega) h6 H1 (by omega) (by omega) hg ?_
      generalize pFun tx pe (d + 1) (a + 1) t = r at hQ
      rcases r with ⟨c, a2, t2⟩ | ⟨a2, t2⟩ <;> exact hQ
  · rw [if_neg (fun q => h ⟨q, h40⟩)] at hQ
    exact hQ
theorem q_ex (hx : txOK X len tx) (h6 : 6 ≤ b1) : ∀ (f d : Nat), 1 ≤ f → 10 ≤ f + d → d ≤ 20 → HE xs o0 X len tl b0 b1 op y_Reader_expression (5 * f + 30) (pEx tx f d) d
  | 0, d, h, _, _ => by omega
  | f + 1, d, _, hfd, hd => by
    intro ℓ a t x Q hx9 hlv ht hn hl hQ
    subst hx9
    have h96 := hx.1
    have hle := hx.le a
    obtain ⟨l, rfl⟩ : ∃ l, ℓ = l + 20 := ⟨ℓ - 20, by omega⟩
    unfold pEx at hQ
    intro J hJ
    refine hJ _ _ _ _ ?_
    refine x_codeAt rfl hx (by omega) ?_
    refine And.intro (fun g => ?_) (fun g => ?_)
    · have h40 : ¬ tx a = 40 := fun e => g (by rw [e]; rfl)
      rw [if_neg h40] at hQ
      refine And.intro (fun g2 => ?_) (fun g2 => ?_)
      · have h39 : tx a = 39 := (nI_eq (a := tx a) (b := 39) (by omega) (by decide)).mp g2
        have h1 := hx.lt (a := a) (by omega)
        rw [if_pos h39] at hQ
        have ht1 : tOK (tAdd t 4 0 (nI a)) := tOK_add ht (by omega)
        refine t_add (k := 4) (v := 0) (by omega) ?_
        have hgd := g_dat hx 11 d (a + 1) _ ht1 (by rw [tn_add]; omega) (by omega)
        rw [tn_add] at hgd
        have dat : ∀ (Q' : mj_R → Prop) (z : Int32), z = nI (a + 1) → rq Q' o0 X len tl b0 b1 op (pDat tx 11 d (a + 1) (tAdd t 4 0 (nI a))) → mj_Mt gT (law_cst xs) gnw (l + 19) y_Reader_datum [.ref 10, .int (nI d)] (rdX o0 (tAdd t 4 0 (nI a)) X len z tl, b0 + 1, b1, op) Q' := by
          rintro Q' z rfl hq
          exact q_dat hx h6 11 d (by decide) (by omega) hd (l + 19) (a + 1) _ _ _ rfl (by omega) ht1 (by rw [tn_add]; omega) (by omega) hq
        refine dat _ _ (nI_1 a) ?_
        generalize pDat tx 11 d (a + 1) (tAdd t 4 0 (nI a)) = r at hgd hQ
        rcases r with ⟨c, a2, t2⟩ | ⟨a2, t2⟩
        · obtain ⟨rfl, g1, g5, g3, g4⟩ := hgd
          refine t_addPart g1 (by omega) ?_
          exact hQ
        · exact hQ
      · have h39 : ¬ tx a = 39 := fun e => g2 (by rw [e]; rfl)
        rw [if_neg h39] at hQ
        refine q_atom hx ht hn hl h6 ?_
        generalize pAtom tx a t = r at hQ
        rcases r with ⟨c, a2, t2⟩ | ⟨a2, t2⟩ <;> exact hQ
    · have h40 : tx a = 40 := (nI_eq (a := tx a) (b := 40) (by omega) (by decide)).mp g
      rw [if_pos h40] at hQ
      by_cases hd9 : d < 9
      · refine q_bra (l := l + 18) rfl hx ht hn hl (by omega) h6 (q_ex hx h6 f (d + 1) (by omega) (by omega) (by omega)) (q_ex hx h6 f (d + 2) (by omega) (by omega) (by omega)) (q_ex hx h6 f (d + 3) (by omega) (by omega) (by omega)) (by omega) (by omega) (g_ex hx f (d + 1)) (g_ex hx f (d + 2)) (g_ex hx f (d + 3)) h40 ?_
        generalize (if d < 9 then pBra tx (pEx tx f (d + 1)) (pEx tx f (d + 2)) (pEx tx f (d + 3)) (d + 1) (a + 1) t else .inr (a, t) : PR) = r at hQ
        rcases r with ⟨c, a2, t2⟩ | ⟨a2, t2⟩ <;> exact hQ
      · rw [if_neg hd9] at hQ
        intro J2 hJ2
        refine hJ2 _ _ _ _ ?_
        refine q_open rfl hx (by omega) (by omega) h6 (fun e _ => absurd e hd9) (fun _ => ?_)
        exact hQ
end P2j
end
section
abbrev cC : Type := (Nat → Vl) × (Nat → Vl) × Nat × Option Nat × Bool
abbrev cH_ (s : cC) : Nat → Vl := s.1
abbrev cT_ (s : cC) : Nat → Vl := s.2.1
abbrev cn (s : cC) : Nat := s.2.2.1
abbrev cl (s : cC) : Option Nat := s.2.2.2.1
abbrev ci (s : cC) : Bool := s.2.2.2.2
def cLk (z : Nat) (H T : Nat → Vl) (l : Option Nat) (b : Bool) (p : Vl) : (Nat → Vl) × (Nat → Vl) := match l with
  | none => (H, T)
  | some k => if k < z then (if b then (upW H k p, T) else (H, upW T k p)) else (H, T)
def cAp (z : Nat) (s : cC) (v : Vl) : cC :=
  if cn s < z then ((cLk z (upW (cH_ s) (cn s) v) (upW (cT_ s) (cn s) vNil) (cl s) (ci s) (vPr (cn s))).1, (cLk z (upW (cH_ s) (cn s) v) (upW (cT_ s) (cn s) vNil) (cl s) (ci s) (vPr (cn s))).2, cn s + 1, some (cn s), false)
  else (cH_ s, cT_ s, cn s + 1, some (cn s), false)
def cIn (z : Nat) (s : cC) (x : Int32) : cC := cAp z s (vInt x)
def cBg (z : Nat) (s : cC) : cC := ((cAp z s vNil).1, (cAp z s vNil).2.1, (cAp z s vNil).2.2.1, (cAp z s vNil).2.2.2.1, true)
def cEd (s : cC) (p : Nat) : cC := (cH_ s, cT_ s, cn s, some p, false)
theorem cAp_n (z : Nat) (s : cC) (v : Vl) : cn (cAp z s v) = cn s + 1 ∧ cl (cAp z s v) = some (cn s) := by
  unfold cAp
  split <;> exact ⟨rfl, rfl⟩
abbrev cD_ : Type := cC × (Nat → Option Nat) × Nat × Int32
abbrev dC (s : cD_) : cC := s.1
abbrev dF (s : cD_) : Nat → Option Nat := s.2.1
abbrev dK (s : cD_) : Nat := s.2.2.1
abbrev dU (s : cD_) : Int32 := s.2.2.2
def dA (z : Nat) (s : cD_) (v : Vl) : cD_ := (cAp z (dC s) v, dF s, dK s, dU s)
def dI (z : Nat) (s : cD_) (x : Int32) : cD_ := dA z s (vInt x)
def dB (z : Nat) (s : cD_) : cD_ := (cBg z (dC s), dF s, dK s, dU s)
def dE (s : cD_) (p : Nat) : cD_ := (cEd (dC s) p, dF s, dK s, dU s)
def dEn (s : cD_) (o : Option Nat) : cD_ := if dK s < 9 then (dC s, upW (dF s) (dK s) o, dK s + 1, dU s) else s
def dLv (s : cD_) : cD_ := (dC s, dF s, dK s - 1, dU s)
def dPl (t : tS) (F : Nat → Option Nat) (c : Int32) (kn : Nat) : Nat → Nat → Int32
  | 0, _ => -1
  | j + 1, i => match tPl t c 96 (F (kn - 1 - i)) with
    | some p => nI (16 * i + p)
    | none => dPl t F c kn j (i + 1)
def dNo (s : cD_) (p : Int32) : cD_ := if dU s = -1 ∨ p < dU s then (dC s, dF s, dK s, p) else s
def dVa (z : Nat) (t : tS) (o : Option Nat) (s : cD_) : cD_ :=
  dI z (dI z (if dPl t (dF s) (tEi t (tV t) o) (dK s) (dK s) 0 = -1 then dNo s (tEi t (tP t) o) else s) 2) (dPl t (dF s) (tEi t (tV t) o) (dK s) (dK s) 0)
def dRow (t : tS) (go : Option Nat → cD_ → cD_) : Nat → Option Nat → cD_ → cD_
  | 0, _, s => s
  | _ + 1, none, s => s
  | k + 1, some i, s => dRow t go k (tEn t (tN t) (some i)) (go (some i) s)
def dDa (z : Nat) (t : tS) : Nat → Nat → Option Nat → cD_ → cD_
  | 0, _, _, s => s
  | f + 1, d, o, s => if 9 < d then s else
      if tEi t (tK t) o = 1 then dA z s (vInt (tEi t (tV t) o))
      else if tEi t (tK t) o = 2 then dA z s (vSym (tEi t (tV t) o))
      else dE (dRow t (dDa z t f (d + 1)) 96 (tEn t (tF t) o) (dB z s)) (cn (dC s))
section DG
variable (z : Nat) (t : tS) (go : Option Nat → cD_ → cD_)
def dLi (o : Option Nat) (x : Int32) (s : cD_) : cD_ := dE (dI z (go o (dB z s)) x) (cn (dC s))
def dPt (k : Nat) (o : Option Nat) : Option Nat := tPt t k (tEn t (tF t) o)
def dOp (o : Option Nat) (w : Int32) (n : Nat) : Nat → Nat → cD_ → cD_
  | 0, _, s => s
  | j + 1, i, s => dOp o w n j (i + 1) (go (dPt t (if w = 13 then n - 1 - i else i) o) s)
def dCh (o : Option Nat) (s : cD_) : cD_ := dLi z go (dPt t 2 o) 9 (dLi z go (dPt t 1 o) 9 (dI z (go (dPt t 0 o) s) 8))
def dBo (o fl : Option Nat) (s : cD_) : cD_ := dLv (dLi z go o 5 (dEn (dI z s 3) fl))
def dAr (o : Option Nat) (s : cD_) : cD_ := dI z (go o s) 13
def dBA (s : cD_) : cD_ := dA z (dI z s 1) vNil
def dAs (pick : Nat → Option Nat) : Nat → cD_ → cD_
  | 0, s => s
  | k + 1, s => dAs pick k (dAr z go (pick (k + 1)) s)
def dCa (o : Option Nat) (s : cD_) : cD_ := dI z (go (dPt t 0 o) (dAs z go (fun k => dPt t k o) (tCn t 96 (tEn t (tF t) o) - 1) (dBA z s))) 4
def dBs (o : Option Nat) (s : cD_) : cD_ := dAs z go (fun k => tEn t (tF t) (dPt t k o)) (tCn t 96 (tEn t (tF t) o) - 1) (dBA z s)
def dBd (o : Option Nat) (s : cD_) : cD_ := dI z (dBo z go (dPt t 0 o) (dPt t 1 o) (dBs z t go o s)) 4
def dBf (o : Option Nat) (s : cD_) : cD_ := dI z (dBo z go (dPt t 0 o) (dPt t 1 o) (dLv (dBs z t go o (dEn (dI z s 6) (dPt t 1 o))))) 7
def dOn (o : Option Nat) (s : cD_) : cD_ := if tEi t (tV t) o = 8 then dCh z t go o s else dI z (dOp t go o (tEi t (tV t) o) (tCn t 96 (tEn t (tF t) o)) (tCn t 96 (tEn t (tF t) o)) 0 s) (tEi t (tV t) o)
end DG
def dEx (z : Nat) (t : tS) : Nat → Nat → Option Nat → cD_ → cD_
  | 0, _, _, s => s
  | f + 1, d, o, s => if 9 < d then s else
      if tEi t (tK t) o = 1 then dDa z t 11 d o (dI z s 1)
      else if tEi t (tK t) o = 2 then dVa z t o s
      else if tEi t (tK t) o = 4 then dDa z t 11 d (tEn t (tF t) o) (dI z s 1)
      else if tEi t (tK t) o = 5 then dOn z t (dEx z t f (d + 1)) o s
      else if tEi t (tK t) o = 6 then dBo z (dEx z t f (d + 1)) (dPt t 1 o) (tEn t (tF t) (dPt t 0 o)) s
      else if tEi t (tK t) o = 8 then dBd z t (dEx z t f (d + 1)) o s
      else if tEi t (tK t) o = 9 then dBf z t (dEx z t f (d + 1)) o s
      else if tEi t (tK t) o = 11 then dCa z t (dEx z t f (d + 1)) o s
      else s
def cdW (o0 : mj_O) (t : tS) (X : Nat → Int32) (len a : Nat) (z : Nat) (s : cD_) (tl : List mj_O) : List mj_O :=
  rdW o0 t X len a (oF 4 [.ref 12, .ref 13, .int (nI (cn (dC s))), .int (oV (cl (dC s))), .int (bI (ci (dC s)))] :: oJ z (eH (cH_ (dC s))) :: oJ z (eH (cT_ (dC s))) :: oF 5 [.ref 1, .ref 11, .ref 15, .int (nI (dK s)), .int (dU s)] :: oI 9 (eO (dF s)) :: tl)
section P2k
variable {m b0 b1 : Nat} {op : Bool} {tl : List mj_O} {Q : mj_R → Prop} {xs : List Int32}
variable {o0 : mj_O} {t : tS} {X : Nat → Int32} {len a z : Nat} {s : cD_}
set_option maxRecDepth 10000
theorem e_link {H T : Nat → Vl} {n : Nat} {l : Option Nat} {b : Bool} {p : Vl} {F : Nat → Option Nat} {K : Nat} {U : Int32} (hz : z ≤ 250) (hl : ∀ k, l = some k → k < 2 ^ 31) (hQ : Q (.inl none, (cdW o0 t X len a z (((cLk z H T l b p).1, (cLk z H T l b p).2, n, l, b), F, K, U) tl, b0, b1, op))) : mj_Mt gT (law_cst xs) gnw (m + 1) y_Code_link [.ref 11, .long (encV p)] (cdW o0 t X len a z ((H, T, n, l, b), F, K, U) tl, b0, b1, op) Q := by
  intro J hJ
  refine hJ _ _ _ _ ?_
  cases l with
  | none =>
    refine And.intro (fun _ => ?_) (fun g => absurd (show (-1 : Int32) < 0 by decide) g)
    exact hQ
  | some k =>
    have hk := hl k rfl
    refine And.intro (fun g => absurd g (nI_pos (n := k) hk)) (fun _ => ?_)
    refine And.intro (fun (g : nI k < nI z) => ?_) (fun (g : ¬ nI k < nI z) => ?_)
    · have h1 := (nI_ltI hk (by omega)).mp g
      have e : cLk z H T (some k) b p = (if b then (upW H k p, T) else (H, upW T k p)) := if_pos h1
      rw [e] at hQ
      have ec : (nI k).toNatClampNeg = k := nI_clamp hk
      cases b with
      | false =>
        refine And.intro (fun _ => ?_) (fun g => absurd rfl g)
        refine And.intro (vp_in_nI h1 (by omega)) ?_
        have key : ∀ (j : Nat) (W : Nat → Int64), j = k → W = vp_updL (eH T) j (encV p) → Q (.inl none, (rdW o0 t X len a (oF 4 [.ref 12, .ref 13, .int (nI n), .int (oV (some k)), .int (bI false)] :: oJ z (eH H) :: oJ z W :: oF 5 [.ref 1, .ref 11, .ref 15, .int (nI K), .int U] :: oI 9 (eO F) :: tl), b0, b1, op)) := by
          rintro j W rfl rfl
          rw [updL_enc]
          exact hQ
        exact key _ _ ec rfl
      | true =>
        refine And.intro (fun g => absurd (show (1 : Int32) = 0 from g) (by decide)) (fun _ => ?_)
        refine And.intro (vp_in_nI h1 (by omega)) ?_
        have key : ∀ (j : Nat) (W : Nat → Int64), j = k → W = vp_updL (eH H) j (encV p) → Q (.inl none, (rdW o0 t X len a (oF 4 [.ref 12, .ref 13, .int (nI n), .int (oV (some k)), .int (bI true)] :: oJ z W :: oJ z (eH T) :: oF 5 [.ref 1, .ref 11, .ref 15, .int (nI K), .int U] :: oI 9 (eO F) :: tl), b0, b1, op)) := by
          rintro j W rfl rfl
          rw [updL_enc]
          exact hQ
        exact key _ _ ec rfl
    · have h1 : ¬ k < z := fun q => g (nI_lt q (by omega))
      have e : cLk z H T (some k) b p = (H, T) := if_neg h1
      rw [e] at hQ
      exact hQ
theorem e_append {v : Vl} (hz : z ≤ 250) (hn : cn (dC s) < 2 ^ 30) (hl : ∀ k, cl (dC s) = some k → k < 2 ^ 31) (hQ : Q (.inl none, (cdW o0 t X len a z (dA z s v) tl, b0, b1, op))) : mj_Mt gT (law_cst xs) gnw (m + 2) y_Code_append [.ref 11, .long (encV v)] (cdW o0 t X len a z s tl, b0, b1, op) Q := by
  obtain ⟨⟨H, T, n, l, b⟩, F, K, U⟩ := s
  have hn : n < 2 ^ 30 := hn
  have hl : ∀ k, l = some k → k < 2 ^ 31 := hl
  unfold dA cAp at hQ
  intro J hJ
  refine hJ _ _ _ _ ?_
  refine And.intro (fun (g : nI z ≤ nI n) => ?_) (fun (g : ¬ nI z ≤ nI n) => ?_)
  · have h1 := (nI_leI (by omega) (by omega)).mp g
    rw [if_neg (show ¬ cn (dC (((H, T, n, l, b), F, K, U) : cD_)) < z from by show ¬ n < z; omega)] at hQ
    have key : ∀ x : Int32, x = nI (n + 1) → Q (.inl none, (rdW o0 t X len a (oF 4 [.ref 12, .ref 13, .int x, .int (nI n), .int 0] :: oJ z (eH H) :: oJ z (eH T) :: oF 5 [.ref 1, .ref 11, .ref 15, .int (nI K), .int U] :: oI 9 (eO F) :: tl), b0, b1, op)) := by
      rintro x rfl
      exact hQ
    exact And.intro (Or.inl rfl) (key _ (nI_1 n))
  · have h1 : n < z := Nat.lt_of_not_le (fun q => g (nI_le q (by omega)))
    rw [if_pos (show cn (dC (((H, T, n, l, b), F, K, U) : cD_)) < z from h1)] at hQ
    have ec : (nI n).toNatClampNeg = n := nI_clamp (by omega)
    refine And.intro (vp_in_nI h1 (by omega)) (And.intro (vp_in_nI h1 (by omega)) ?_)
    refine v_pair ?_
    have key : ∀ (x : Int32) (i : Nat) (w : Int64), x = nI (n + 1) → i = n → w = encV vNil → mj_Mt gT (law_cst xs) gnw (m + 1) y_Code_link [.ref 11, .long (encV (vPr n))] (rdW o0 t X len a (oF 4 [.ref 12, .ref 13, .int x, .int (oV l), .int (bI b)] :: oJ z (vp_updL (eH H) i (encV v)) :: oJ z (vp_updL (eH T) i w) :: oF 5 [.ref 1, .ref 11, .ref 15, .int (nI K), .int U] :: oI 9 (eO F) :: tl), b0, b1, op) (mj_after (mj_hd (mj_off kO_Code_append) kH_Code_append) Q (mj_sg (mj_Mt gT (law_cst xs) gnw (m + 1)) (law_cst xs) gnw (mj_hd (mj_off kO_Code_append) kH_Code_append) kC_Code_append J Q 372 false) 27 [some (.ref 11), some (.long (encV v)), none, some (.int (nI n))] []) := by
      rintro x i w rfl rfl rfl
      rw [updL_enc, updL_enc]
      refine e_link (n := i + 1) (F := F) (K := K) (U := U) hz hl ?_
      exact And.intro (Or.inl rfl) hQ
    exact key _ _ _ (nI_1 n) ec rfl
theorem e_instr {x : Int32} (hz : z ≤ 250) (hn : cn (dC s) < 2 ^ 30) (hl : ∀ k, cl (dC s) = some k → k < 2 ^ 31) (hQ : Q (.inl none, (cdW o0 t X len a z (dI z s x) tl, b0, b1, op))) : mj_Mt gT (law_cst xs) gnw (m + 3) y_Code_instruction [.ref 11, .int x] (cdW o0 t X len a z s tl, b0, b1, op) Q := by
  intro J hJ
  refine hJ _ _ _ _ ?_
  refine v_number ?_
  refine e_append hz hn hl ?_
  exact hQ
theorem e_begin (hz : z ≤ 250) (hn : cn (dC s) < 2 ^ 30) (hl : ∀ k, cl (dC s) = some k → k < 2 ^ 31) (hQ : Q (.inl (some (.int (nI (cn (dC s))))), (cdW o0 t X len a z (dB z s) tl, b0, b1, op))) : mj_Mt gT (law_cst xs) gnw (m + 3) y_Code_beginList [.ref 11] (cdW o0 t X len a z s tl, b0, b1, op) Q := by
  intro J hJ
  refine hJ _ _ _ _ ?_
  refine e_append (v := vNil) hz hn hl ?_
  refine And.intro (Or.inr rfl) ?_
  have e := (cAp_n z (dC s) vNil).2
  have key : ∀ o : Option Nat, o = some (cn (dC s)) → Q (.inl (some (.int (oV o))), (cdW o0 t X len a z (dB z s) tl, b0, b1, op)) := by
    rintro o rfl
    exact hQ
  exact key _ e
theorem e_end {p : Nat} (hQ : Q (.inl none, (cdW o0 t X len a z (dE s p) tl, b0, b1, op))) : mj_Mt gT (law_cst xs) gnw (m + 1) y_Code_endList [.ref 11, .int (nI p)] (cdW o0 t X len a z s tl, b0, b1, op) Q := by
  intro J hJ
  refine hJ _ _ _ _ ?_
  exact And.intro (Or.inl rfl) hQ
end P2k
end
section
def sOK (s : cD_) : Prop := dK s ≤ 9 ∧ (∀ k, cl (dC s) = some k → k ≤ cn (dC s)) ∧ ∀ i j, dF s i = some j → j < 1000
def sM (s s' : cD_) : Prop := sOK s' ∧ cn (dC s) ≤ cn (dC s')
def oB (o : Option Nat) : Prop := ∀ i, o = some i → i < 1000
def SGo (go : Option Nat → cD_ → cD_) : Prop := ∀ o s, oB o → sOK s → sM s (go o s)
theorem sM.tr {a b c : cD_} (h1 : sM a b) (h2 : sM b c) : sM a c := ⟨h2.1, Nat.le_trans h1.2 h2.2⟩
theorem sM.rf {a : cD_} (h : sOK a) : sM a a := ⟨h, Nat.le_refl _⟩
theorem s_A {z : Nat} {s : cD_} {v : Vl} (h : sOK s) : sM s (dA z s v) := by
  obtain ⟨h1, h2⟩ := cAp_n z (dC s) v
  refine ⟨⟨h.1, fun k e => ?_, h.2.2⟩, ?_⟩
  · have e : cl (cAp z (dC s) v) = some k := e
    rw [h2] at e
    cases e
    show cn (dC s) ≤ cn (cAp z (dC s) v)
    omega
  · show cn (dC s) ≤ cn (cAp z (dC s) v)
    omega
theorem s_B {z : Nat} {s : cD_} (h : sOK s) : sM s (dB z s) ∧ cn (dC (dB z s)) = cn (dC s) + 1 := by
  obtain ⟨h1, h2⟩ := cAp_n z (dC s) vNil
  refine ⟨⟨⟨h.1, fun k e => ?_, h.2.2⟩, ?_⟩, h1⟩
  · have e : cl (cAp z (dC s) vNil) = some k := e
    rw [h2] at e
    cases e
    show cn (dC s) ≤ cn (cAp z (dC s) vNil)
    omega
  · show cn (dC s) ≤ cn (cAp z (dC s) vNil)
    omega
theorem s_E {s : cD_} {p : Nat} (h : sOK s) (hp : p ≤ cn (dC s)) : sM s (dE s p) := by
  refine ⟨⟨h.1, fun k e => ?_, h.2.2⟩, Nat.le_refl _⟩
  have e : some p = some k := e
  cases e
  exact hp
theorem s_En {s : cD_} {o : Option Nat} (ho : oB o) (h : sOK s) : sM s (dEn s o) := by
  unfold dEn
  split
  · next h9 =>
    refine ⟨⟨h9, h.2.1, fun i j e => ?_⟩, Nat.le_refl _⟩
    have e : (if i = dK s then o else dF s i) = some j := e
    split at e
    · exact ho j e
    · exact h.2.2 i j e
  · exact sM.rf h
theorem s_Lv {s : cD_} (h : sOK s) : sM s (dLv s) := ⟨⟨by show dK s - 1 ≤ 9; have := h.1; omega, h.2.1, h.2.2⟩, Nat.le_refl _⟩
theorem s_No {s : cD_} {p : Int32} (h : sOK s) : sM s (dNo s p) := by
  unfold dNo
  split
  · exact ⟨⟨h.1, h.2.1, h.2.2⟩, Nat.le_refl _⟩
  · exact sM.rf h
theorem s_Va {z : Nat} {t : tS} {o : Option Nat} {s : cD_} (h : sOK s) : sM s (dVa z t o s) := by
  unfold dVa dI
  split
  · exact (s_No h).tr ((s_A (s_No h).1).tr (s_A (s_A (s_No h).1).1))
  · exact (s_A h).tr (s_A (s_A h).1)
theorem s_Row {t : tS} {go : Option Nat → cD_ → cD_} (ht : tOK t) (hg : SGo go) : ∀ (k : Nat) (o : Option Nat) (s : cD_), oB o → sOK s → sM s (dRow t go k o s)
  | 0, o, s, ho, h => sM.rf h
  | k + 1, none, s, ho, h => sM.rf h
  | k + 1, some i, s, ho, h => (hg _ _ ho h).tr (s_Row ht hg k _ _ (tEn_lt ht.2.2.2 _) (hg _ _ ho h).1)
theorem s_Da {z : Nat} {t : tS} (ht : tOK t) : ∀ f d, SGo (dDa z t f d)
  | 0, d, o, s, ho, h => sM.rf h
  | f + 1, d, o, s, ho, h => by
    unfold dDa
    split
    · exact sM.rf h
    · split
      · exact s_A h
      · split
        · exact s_A h
        · obtain ⟨h1, h2⟩ := s_B (z := z) h
          have h3 := s_Row ht (s_Da (z := z) ht f (d + 1)) 96 (tEn t (tF t) o) (dB z s) (tEn_lt ht.2.1 _) h1.1
          exact (h1.tr h3).tr (s_E h3.1 (by have := h1.2; have := h3.2; omega))
section SG
variable {z : Nat} {t : tS} {go : Option Nat → cD_ → cD_}
theorem s_Li {o : Option Nat} {x : Int32} {s : cD_} (hg : SGo go) (ho : oB o) (h : sOK s) : sM s (dLi z go o x s) := by
  obtain ⟨h1, h2⟩ := s_B (z := z) h
  have h3 := hg _ _ ho h1.1
  have h4 := s_A (z := z) (v := vInt x) h3.1
  exact ((h1.tr h3).tr h4).tr (s_E h4.1 (by have := h1.2; have := h3.2; have := h4.2; omega))
theorem oB_pt (ht : tOK t) (k : Nat) (o : Option Nat) : oB (dPt t k o) := tPt_lt ht k _ (tEn_lt ht.2.1 o)
theorem s_Op (ht : tOK t) (hg : SGo go) {o : Option Nat} {w : Int32} {n : Nat} : ∀ (j i : Nat) (s : cD_), sOK s → sM s (dOp t go o w n j i s)
  | 0, i, s, h => sM.rf h
  | j + 1, i, s, h => (hg _ _ (oB_pt ht _ o) h).tr (s_Op ht hg j (i + 1) _ (hg _ _ (oB_pt ht _ o) h).1)
theorem s_Ch (ht : tOK t) (hg : SGo go) {o : Option Nat} {s : cD_} (h : sOK s) : sM s (dCh z t go o s) := by
  have h1 := hg _ _ (oB_pt ht 0 o) h
  have h2 := s_A (z := z) (v := vInt 8) h1.1
  have h3 := s_Li (z := z) (x := 9) hg (oB_pt ht 1 o) h2.1
  exact ((h1.tr h2).tr h3).tr (s_Li hg (oB_pt ht 2 o) h3.1)
theorem s_Bo (hg : SGo go) {o fl : Option Nat} {s : cD_} (ho : oB o) (hf : oB fl) (h : sOK s) : sM s (dBo z go o fl s) := by
  have h1 := s_A (z := z) (v := vInt 3) h
  have h2 := s_En hf h1.1
  have h3 := s_Li (z := z) (x := 5) hg ho h2.1
  exact ((h1.tr h2).tr h3).tr (s_Lv h3.1)
theorem s_As (hg : SGo go) {pick : Nat → Option Nat} (hp : ∀ k, oB (pick k)) : ∀ (k : Nat) (s : cD_), sOK s → sM s (dAs z go pick k s)
  | 0, s, h => sM.rf h
  | k + 1, s, h => by
    have h1 := hg _ _ (hp (k + 1)) h
    have h2 := s_A (z := z) (v := vInt 13) h1.1
    exact (h1.tr h2).tr (s_As hg hp k _ h2.1)
theorem s_BA {s : cD_} (h : sOK s) : sM s (dBA z s) := (s_A h).tr (s_A (s_A h).1)
theorem s_Ca (ht : tOK t) (hg : SGo go) {o : Option Nat} {s : cD_} (h : sOK s) : sM s (dCa z t go o s) := by
  have h1 := s_BA (z := z) h
  have h2 := s_As (z := z) hg (pick := fun k => dPt t k o) (fun k => oB_pt ht k o) (tCn t 96 (tEn t (tF t) o) - 1) _ h1.1
  have h3 := hg _ _ (oB_pt ht 0 o) h2.1
  exact ((h1.tr h2).tr h3).tr (s_A h3.1)
theorem s_Bs (ht : tOK t) (hg : SGo go) {o : Option Nat} {s : cD_} (h : sOK s) : sM s (dBs z t go o s) := by
  have h1 := s_BA (z := z) h
  exact h1.tr (s_As (z := z) hg (pick := fun k => tEn t (tF t) (dPt t k o)) (fun k => tEn_lt ht.2.1 _) (tCn t 96 (tEn t (tF t) o) - 1) _ h1.1)
theorem s_Bd (ht : tOK t) (hg : SGo go) {o : Option Nat} {s : cD_} (h : sOK s) : sM s (dBd z t go o s) := by
  have h1 := s_Bs (z := z) ht hg (o := o) h
  have h2 := s_Bo (z := z) hg (oB_pt ht 0 o) (oB_pt ht 1 o) h1.1
  exact (h1.tr h2).tr (s_A h2.1)
theorem s_Bf (ht : tOK t) (hg : SGo go) {o : Option Nat} {s : cD_} (h : sOK s) : sM s (dBf z t go o s) := by
  have h1 := s_A (z := z) (v := vInt 6) h
  have h2 := s_En (oB_pt ht 1 o) h1.1
  have h3 := s_Bs (z := z) ht hg (o := o) h2.1
  have h4 := s_Lv h3.1
  have h5 := s_Bo (z := z) hg (oB_pt ht 0 o) (oB_pt ht 1 o) h4.1
  exact ((((h1.tr h2).tr h3).tr h4).tr h5).tr (s_A h5.1)
theorem s_On (ht : tOK t) (hg : SGo go) {o : Option Nat} {s : cD_} (h : sOK s) : sM s (dOn z t go o s) := by
  unfold dOn
  split
  · exact s_Ch ht hg h
  · have h1 := s_Op ht hg (o := o) (w := tEi t (tV t) o) (n := tCn t 96 (tEn t (tF t) o)) (tCn t 96 (tEn t (tF t) o)) 0 s h
    exact h1.tr (s_A h1.1)
end SG
theorem s_Ex {z : Nat} {t : tS} (ht : tOK t) : ∀ f d, SGo (dEx z t f d)
  | 0, d, o, s, ho, h => sM.rf h
  | f + 1, d, o, s, ho, h => by
    have hg := s_Ex (z := z) ht f (d + 1)
    unfold dEx
    split
    · exact sM.rf h
    · split
      · exact (s_A h).tr (s_Da ht 11 d o _ ho (s_A h).1)
      · split
        · exact s_Va h
        · split
          · exact (s_A h).tr (s_Da ht 11 d _ _ (tEn_lt ht.2.1 _) (s_A h).1)
          · split
            · exact s_On ht hg h
            · split
              · exact s_Bo hg (oB_pt ht 1 o) (tEn_lt ht.2.1 _) h
              · split
                · exact s_Bd ht hg h
                · split
                  · exact s_Bf ht hg h
                  · split
                    · exact s_Ca ht hg h
                    · exact sM.rf h
end
section
section P2l
variable {m b0 b1 : Nat} {op : Bool} {tl : List mj_O} {Q : mj_R → Prop} {xs : List Int32}
variable {o0 : mj_O} {t : tS} {X : Nat → Int32} {len a z : Nat} {s : cD_}
set_option maxRecDepth 10000
def HC (xs : List Int32) (o0 : mj_O) (t : tS) (X : Nat → Int32) (len a z : Nat) (tl : List mj_O) (b0 b1 : Nat) (op : Bool) (y lv : Nat) (go : Option Nat → cD_ → cD_) (d : Nat) : Prop :=
  ∀ (ℓ : Nat) (o : Option Nat) (s : cD_) (x w : Int32) (Q : mj_R → Prop), x = oV o → w = nI d → lv ≤ ℓ → oB o → sOK s → cn (dC (go o s)) < 2 ^ 30 → Q (.inl none, (cdW o0 t X len a z (go o s) tl, b0, b1, op)) → mj_Mt gT (law_cst xs) gnw ℓ y [.ref 14, .int x, .int w] (cdW o0 t X len a z s tl, b0, b1, op) Q
theorem sOK.lt {s : cD_} (h : sOK s) (hn : cn (dC s) < 2 ^ 30) : ∀ k, cl (dC s) = some k → k < 2 ^ 31 := fun k e => by have := h.2.1 k e; omega
theorem m_in {x : Int32} (hz : z ≤ 250) (h : sOK s) (hn : cn (dC (dI z s x)) < 2 ^ 30) (hQ : Q (.inl none, (cdW o0 t X len a z (dI z s x) tl, b0, b1, op))) : mj_Mt gT (law_cst xs) gnw (m + 3) y_Code_instruction [.ref 11, .int x] (cdW o0 t X len a z s tl, b0, b1, op) Q := by
  have h1 : cn (dC (dI z s x)) = cn (dC s) + 1 := (cAp_n z (dC s) (vInt x)).1
  exact e_instr hz (by omega) (h.lt (by omega)) hQ
theorem m_ap {v : Vl} (hz : z ≤ 250) (h : sOK s) (hn : cn (dC (dA z s v)) < 2 ^ 30) (hQ : Q (.inl none, (cdW o0 t X len a z (dA z s v) tl, b0, b1, op))) : mj_Mt gT (law_cst xs) gnw (m + 2) y_Code_append [.ref 11, .long (encV v)] (cdW o0 t X len a z s tl, b0, b1, op) Q := by
  have h1 : cn (dC (dA z s v)) = cn (dC s) + 1 := (cAp_n z (dC s) v).1
  exact e_append hz (by omega) (h.lt (by omega)) hQ
theorem m_bg (hz : z ≤ 250) (h : sOK s) (hn : cn (dC (dB z s)) < 2 ^ 30) (hQ : Q (.inl (some (.int (nI (cn (dC s))))), (cdW o0 t X len a z (dB z s) tl, b0, b1, op))) : mj_Mt gT (law_cst xs) gnw (m + 3) y_Code_beginList [.ref 11] (cdW o0 t X len a z s tl, b0, b1, op) Q := by
  have h1 := (s_B (z := z) h).2
  exact e_begin hz (by omega) (h.lt (by omega)) hQ
theorem m_note {p : Int32} (hQ : Q (.inl none, (cdW o0 t X len a z (dNo s p) tl, b0, b1, op))) : mj_Mt gT (law_cst xs) gnw (m + 1) y_Coder_noteUnknown [.ref 14, .int p] (cdW o0 t X len a z s tl, b0, b1, op) Q := by
  unfold dNo at hQ
  intro J hJ
  refine hJ _ _ _ _ ?_
  refine And.intro (fun (g : dU s = -1) => ?_) (fun (g : ¬ dU s = -1) => ?_)
  · rw [if_pos (Or.inl g)] at hQ
    exact hQ
  · refine And.intro (fun (g2 : dU s ≤ p) => ?_) (fun (g2 : ¬ dU s ≤ p) => ?_)
    · rw [if_neg (fun q => q.elim g (fun q => absurd q (Int32.not_lt.mpr g2)))] at hQ
      exact hQ
    · rw [if_pos (Or.inr (Int32.not_le.mp g2))] at hQ
      exact hQ
theorem m_enter {o : Option Nat} {x : Int32} (hx : x = oV o) (h : sOK s) (hQ : Q (.inl none, (cdW o0 t X len a z (dEn s o) tl, b0, b1, op))) : mj_Mt gT (law_cst xs) gnw (m + 1) y_Coder_enter [.ref 14, .int x] (cdW o0 t X len a z s tl, b0, b1, op) Q := by
  subst hx
  have h9 := h.1
  obtain ⟨C, F, K, U⟩ := s
  have h9 : K ≤ 9 := h9
  unfold dEn at hQ
  intro J hJ
  refine hJ _ _ _ _ ?_
  refine And.intro (fun (g : nI 9 ≤ nI K) => ?_) (fun (g : ¬ nI 9 ≤ nI K) => ?_)
  · have h1 := (nI_leI (by decide) (by omega)).mp g
    rw [if_neg (show ¬ K < 9 by omega)] at hQ
    exact hQ
  · have h1 : K < 9 := Nat.lt_of_not_le (fun q => g (nI_le q (by omega)))
    rw [if_pos (show K < 9 from h1)] at hQ
    refine And.intro (vp_in_nI h1 (by decide)) ?_
    have key : ∀ (j : Nat) (y : Int32), j = K → y = nI (K + 1) → Q (.inl none, (rdW o0 t X len a (oF 4 [.ref 12, .ref 13, .int (nI (cn C)), .int (oV (cl C)), .int (bI (ci C))] :: oJ z (eH (cH_ C)) :: oJ z (eH (cT_ C)) :: oF 5 [.ref 1, .ref 11, .ref 15, .int y, .int U] :: oI 9 (upd (eO F) j (oV o)) :: tl), b0, b1, op)) := by
      rintro j y rfl rfl
      rw [upd_eO]
      exact hQ
    exact key _ _ (nI_clamp (by omega)) (nI_1 K)
theorem m_leave (h : sOK s) (hQ : Q (.inl none, (cdW o0 t X len a z (dLv s) tl, b0, b1, op))) : mj_Mt gT (law_cst xs) gnw (m + 1) y_Coder_leave [.ref 14] (cdW o0 t X len a z s tl, b0, b1, op) Q := by
  have h9 := h.1
  obtain ⟨C, F, K, U⟩ := s
  have h9 : K ≤ 9 := h9
  intro J hJ
  refine hJ _ _ _ _ ?_
  cases K with
  | zero =>
    refine And.intro (fun _ => ?_) (fun g => absurd (show nI 0 ≤ 0 by decide) g)
    exact hQ
  | succ K =>
    refine And.intro (fun g => absurd g (nI_nle (n := K + 1) (by omega) (by omega))) (fun _ => ?_)
    have key : ∀ (y : Int32), y = nI K → Q (.inl none, (rdW o0 t X len a (oF 4 [.ref 12, .ref 13, .int (nI (cn C)), .int (oV (cl C)), .int (bI (ci C))] :: oJ z (eH (cH_ C)) :: oJ z (eH (cT_ C)) :: oF 5 [.ref 1, .ref 11, .ref 15, .int y, .int U] :: oI 9 (eO F) :: tl), b0, b1, op)) := by
      rintro y rfl
      exact hQ
    exact key _ (nI_pred K)
theorem tPl_lt {t : tS} {c : Int32} : ∀ (k : Nat) (o : Option Nat) (i : Nat), tPl t c k o = some i → i < k := by
  intro k
  induction k with
  | zero => intro o i e; cases e
  | succ k ih =>
    intro o i e
    cases o with
    | none => cases e
    | some q =>
      unfold tPl at e
      split at e
      · split at e
        · cases e; omega
        · cases h9 : tPl t c k (tN t q) with
          | none => rw [h9] at e; cases e
          | some w =>
            rw [h9] at e
            have := ih _ _ h9
            cases e
            show w + 1 < k + 1
            omega
      · cases e
theorem m_placeOf {c : Int32} (ht : tOK t) (h : sOK s) (hQ : Q (.inl (some (.int (dPl t (dF s) c (dK s) (dK s) 0))), (cdW o0 t X len a z s tl, b0, b1, op))) : mj_Mt gT (law_cst xs) gnw (m + 2) y_Coder_placeOf [.ref 14, .int c] (cdW o0 t X len a z s tl, b0, b1, op) Q := by
  have h9 := h.1
  have hF := h.2.2
  obtain ⟨C, F, K, U⟩ := s
  have h9 : K ≤ 9 := h9
  have hF : ∀ i j, F i = some j → j < 1000 := hF
  have hQ : Q (.inl (some (.int (dPl t F c K K 0))), (cdW o0 t X len a z (C, F, K, U) tl, b0, b1, op)) := hQ
  generalize hr : dPl t F c K K 0 = r at hQ
  intro J hJ
  have loop : ∀ (j i : Nat) (x : Int32) (v3 : Option Value), (v3 = none ∨ ∃ w : Int32, v3 = some (.int w)) → j + i = K → x = nI i → dPl t F c K j i = r → J 2 [some (.ref 14), some (.int c), some (.int x), v3] [] (cdW o0 t X len a z (C, F, K, U) tl, b0, b1, op) := by
    intro j
    induction j with
    | zero =>
      intro i x v3 hv hi hx e
      subst hx
      refine hJ _ _ _ _ ?_
      refine And.intro (fun _ => ?_) (fun g => absurd (nI_le (a := K) (b := i) (by omega) (by omega)) g)
      rw [← e] at hQ
      exact hQ
    | succ j ih =>
      intro i x v3 hv hi hx e
      subst hx
      have e1 : nI K - Int32.ofInt 1 - nI i = nI (K - 1 - i) := by
        rw [show nI K - Int32.ofInt 1 = nI (K - 1) from pk_sub (a := K) (b := 1) (by omega)]
        exact pk_sub (by omega)
      have ec : (nI (K - 1 - i)).toNatClampNeg = K - 1 - i := nI_clamp (by omega)
      have go : ∀ (F2 : Nat) (w : Option Nat) (v3 : Option Value), w = tPl t c 96 (F (K - 1 - i)) → mj_sg (mj_Mt gT (law_cst xs) gnw (m + 1)) (law_cst xs) gnw (mj_hd (mj_off kO_Coder_placeOf) kH_Coder_placeOf) kC_Coder_placeOf J Q (F2 + 30) false 20 [some (.ref 14), some (.int c), some (.int (nI i)), some (.int (oV w))] [] (cdW o0 t X len a z (C, F, K, U) tl, b0, b1, op) := by
        intro F2 w v3 hw
        unfold dPl at e
        rw [← hw] at e
        cases w with
        | none =>
          refine And.intro (fun _ => ?_) (fun g => absurd rfl g)
          exact ih (i + 1) _ _ (Or.inr ⟨_, rfl⟩) (by omega) (nI_1 i) e
        | some p =>
          have hp := tPl_lt 96 _ p hw.symm
          refine And.intro (fun g => absurd g (oV_ne (k := p) (by omega))) (fun _ => ?_)
          have e2 : Int32.ofInt 16 * nI i + oV (some p) = nI (16 * i + p) := by
            rw [show Int32.ofInt 16 * nI i = nI (16 * i) from pk_mul 16 i]
            exact nI_add _ p
          have e : nI (16 * i + p) = r := e
          rw [← e, ← e2] at hQ
          exact hQ
      refine hJ _ _ _ _ ?_
      rcases hv with rfl | ⟨w, rfl⟩
      · refine And.intro (fun g => absurd g (nI_ge (a := i) (b := K) (by omega) (by omega))) (fun _ => ?_)
        refine And.intro (show vp_in (nI K - Int32.ofInt 1 - nI i) 9 by rw [e1]; exact vp_in_nI (by omega) (by decide)) ?_
        refine t_placeOf (o := F (K - 1 - i)) (by rw [e1, ec]) ht (hF _) ?_
        exact go _ _ none rfl
      · refine And.intro (fun g => absurd g (nI_ge (a := i) (b := K) (by omega) (by omega))) (fun _ => ?_)
        refine And.intro (show vp_in (nI K - Int32.ofInt 1 - nI i) 9 by rw [e1]; exact vp_in_nI (by omega) (by decide)) ?_
        refine t_placeOf (o := F (K - 1 - i)) (by rw [e1, ec]) ht (hF _) ?_
        exact go _ _ none rfl
  refine hJ _ _ _ _ ?_
  exact loop K 0 _ none (Or.inl rfl) rfl rfl hr
theorem m_var {o : Option Nat} {x : Int32} (hx : x = oV o) (hz : z ≤ 250) (ht : tOK t) (ho : oB o) (h : sOK s) (hn : cn (dC (dVa z t o s)) < 2 ^ 30) (hQ : Q (.inl none, (cdW o0 t X len a z (dVa z t o s) tl, b0, b1, op))) : mj_Mt gT (law_cst xs) gnw (m + 5) y_Coder_variable [.ref 14, .int x] (cdW o0 t X len a z s tl, b0, b1, op) Q := by
  unfold dVa at hQ hn
  intro J hJ
  refine hJ _ _ _ _ ?_
  refine t_value hx ht.1 ho ?_
  refine m_placeOf ht h ?_
  generalize dPl t (dF s) (tEi t (tV t) o) (dK s) (dK s) 0 = w at hQ hn
  have tail : ∀ (F : Nat) (s2 : cD_), sOK s2 → cn (dC (dI z (dI z s2 2) w)) < 2 ^ 30 → Q (.inl none, (cdW o0 t X len a z (dI z (dI z s2 2) w) tl, b0, b1, op)) → mj_sg (mj_Mt gT (law_cst xs) gnw (m + 4)) (law_cst xs) gnw (mj_hd (mj_off kO_Coder_variable) kH_Coder_variable) kC_Coder_variable J Q (F + 20) false 16 [some (.ref 14), some (.int x), some (.int w)] [] (cdW o0 t X len a z s2 tl, b0, b1, op) := by
    intro F s2 h2 hn2 hq
    have h3 := s_A (z := z) (v := vInt 2) h2
    have h4 := s_A (z := z) (v := vInt w) h3.1
    have := h4.2
    unfold dI at *
    refine m_in (x := 2) hz h2 (by unfold dI; omega) ?_
    refine v_number ?_
    refine m_ap hz h3.1 hn2 ?_
    exact hq
  by_cases hw : w = -1
  · rw [if_pos hw] at hQ hn
    refine And.intro (fun g => absurd hw g) (fun _ => ?_)
    refine t_positionOf hx ht.1 ho ?_
    refine m_note ?_
    exact tail _ _ (s_No h).1 hn hQ
  · rw [if_neg hw] at hQ hn
    refine And.intro (fun _ => ?_) (fun g => absurd g hw)
    exact tail _ _ h hn hQ
end P2l
end
section
section P2m
variable {m b0 b1 : Nat} {op : Bool} {tl : List mj_O} {Q : mj_R → Prop} {xs : List Int32}
variable {o0 : mj_O} {t : tS} {X : Nat → Int32} {len a z : Nat} {s : cD_}
set_option maxRecDepth 10000
theorem s_I {z : Nat} {s : cD_} {x : Int32} (h : sOK s) : sM s (dI z s x) := s_A h
theorem m_dat (hz : z ≤ 250) (ht : tOK t) : ∀ (f d : Nat), 1 ≤ f → 11 ≤ f + d → d ≤ 20 → HC xs o0 t X len a z tl b0 b1 op y_Coder_datum (f + 8) (dDa z t f d) d
  | 0, d, h, _, _ => by omega
  | f + 1, d, _, hfd, hd => by
    intro ℓ o s x w Q hx hw hlv ho h hn hQ
    subst hx
    subst hw
    obtain ⟨l, rfl⟩ : ∃ l, ℓ = l + 8 := ⟨ℓ - 8, by omega⟩
    unfold dDa at hQ hn
    intro J hJ
    refine hJ _ _ _ _ ?_
    refine And.intro (fun (g : nI d ≤ nI 9) => ?_) (fun (g : ¬ nI d ≤ nI 9) => ?_)
    · have hd9 := (nI_leI (by omega) (by decide)).mp g
      rw [if_neg (by omega)] at hQ hn
      refine t_kind rfl ht.1 ho ?_
      generalize tEi t (tK t) o = kd at hQ hn
      refine And.intro (fun (g1 : ¬ kd = 1) => ?_) (fun (g1 : kd = 1) => ?_)
      · rw [if_neg g1] at hQ hn
        refine And.intro (fun (g2 : ¬ kd = 2) => ?_) (fun (g2 : kd = 2) => ?_)
        · rw [if_neg g2] at hQ hn
          obtain ⟨hB1, hB2⟩ := s_B (z := z) h
          have hR := s_Row ht (s_Da (z := z) ht f (d + 1)) 96 (tEn t (tF t) o) (dB z s) (tEn_lt ht.2.1 _) hB1.1
          have hR2 := hR.2
          have hn2 : cn (dC (dRow t (dDa z t f (d + 1)) 96 (tEn t (tF t) o) (dB z s))) < 2 ^ 30 := hn
          refine m_bg hz h (by omega) ?_
          refine t_firstPart rfl ht.1 ho ?_
          have loop : ∀ (j i : Nat) (o2 : Option Nat) (s2 : cD_) (x2 : Int32), j + i = 96 → x2 = nI i → oB o2 → sOK s2 → dRow t (dDa z t f (d + 1)) j o2 s2 = dRow t (dDa z t f (d + 1)) 96 (tEn t (tF t) o) (dB z s) → J 44 [some (.ref 14), some (.int (oV o)), some (.int (nI d)), some (.int kd), some (.int (nI (cn (dC s)))), some (.int (oV o2)), some (.int x2)] [] (cdW o0 t X len a z s2 tl, b0, b1, op) := by
            intro j
            induction j with
            | zero =>
              intro i o2 s2 x2 hi hx2 ho2 h2 e
              subst hx2
              obtain rfl : i = 96 := by omega
              refine hJ _ _ _ _ ?_
              refine And.intro (fun _ => ?_) (fun g => absurd (by decide) g)
              rw [← e] at hQ
              exact e_end hQ
            | succ j ih =>
              intro i o2 s2 x2 hi hx2 ho2 h2 e
              subst hx2
              refine hJ _ _ _ _ ?_
              refine And.intro (fun g => absurd g (nI_ge (a := i) (b := 96) (by omega) (by decide))) (fun _ => ?_)
              cases o2 with
              | none =>
                refine And.intro (fun _ => ?_) (fun g => absurd rfl g)
                rw [← e] at hQ
                exact e_end hQ
              | some q =>
                have hq := ho2 q rfl
                refine And.intro (fun g => absurd g (oV_ne (k := q) (by omega))) (fun _ => ?_)
                have h3 := s_Da (z := z) ht f (d + 1) (some q) s2 ho2 h2
                have h4 := s_Row ht (s_Da (z := z) ht f (d + 1)) j (tEn t (tN t) (some q)) _ (tEn_lt ht.2.2.2 _) h3.1
                have e : dRow t (dDa z t f (d + 1)) j (tEn t (tN t) (some q)) (dDa z t f (d + 1) (some q) s2) = _ := e
                have h5 := h4.2
                rw [e] at h5
                refine m_dat hz ht f (d + 1) (by omega) (by omega) (by omega) (l + 7) (some q) s2 _ _ _ rfl (nI_1 d) (by omega) ho2 h2 (by omega) ?_
                refine t_follower rfl ht.1 ho2 ?_
                exact ih (i + 1) _ _ _ (by omega) (nI_1 i) (tEn_lt ht.2.2.2 _) h3.1 e
          exact loop 96 0 _ _ _ rfl rfl (tEn_lt ht.2.1 _) hB1.1 rfl
        · rw [if_pos g2] at hQ hn
          refine t_value rfl ht.1 ho ?_
          refine v_symbol ?_
          refine m_ap hz h hn ?_
          exact hQ
      · rw [if_pos g1] at hQ hn
        refine t_value rfl ht.1 ho ?_
        refine v_number ?_
        refine m_ap hz h hn ?_
        exact hQ
    · have hd9 : ¬ d ≤ 9 := fun q => g (nI_le q (by decide))
      rw [if_pos (by omega)] at hQ
      exact hQ
theorem m_con {o : Option Nat} {d l : Nat} {x w : Int32} (hx : x = oV o) (hw : w = nI d) (hl : 24 ≤ l) (hz : z ≤ 250) (ht : tOK t) (hd : d ≤ 9) (ho : oB o) (h : sOK s) (hn : cn (dC (dDa z t 11 d o (dI z s 1))) < 2 ^ 30) (hQ : Q (.inl none, (cdW o0 t X len a z (dDa z t 11 d o (dI z s 1)) tl, b0, b1, op))) : mj_Mt gT (law_cst xs) gnw l y_Coder_constant [.ref 14, .int x, .int w] (cdW o0 t X len a z s tl, b0, b1, op) Q := by
  subst hx
  subst hw
  obtain ⟨l, rfl⟩ : ∃ l', l = l' + 24 := ⟨l - 24, by omega⟩
  have h1 := s_I (z := z) (x := 1) h
  have h2 := s_Da (z := z) ht 11 d o _ ho h1.1
  have h3 := h2.2
  intro J hJ
  refine hJ _ _ _ _ ?_
  refine m_in (x := 1) hz h (by omega) ?_
  refine m_dat hz ht 11 d (by decide) (by omega) (by omega) (l + 23) o _ _ _ _ rfl rfl (by omega) ho h1.1 hn ?_
  exact hQ
variable {go : Option Nat → cD_ → cD_} {l lv d : Nat}
theorem t_partD {o : Option Nat} {k : Nat} {y x : Int32} (hy : y = oV o) (hx : x = nI k) (hk : k < 1000) (ht : tOK t) (ho : ∀ i, o = some i → i < 1000) (hQ : Q (.inl (some (.int (oV (dPt t k o)))), (rdW o0 t X len a tl, b0, b1, op))) : mj_Mt gT (law_cst xs) gnw (m + 3) y_Tree_part [.ref 1, .int y, .int x] (rdW o0 t X len a tl, b0, b1, op) Q := t_part hy hx hk ht ho hQ
theorem m_list {o : Option Nat} {x w q : Int32} (hx : x = oV o) (hw : w = nI d) (hz : z ≤ 250) (hg : SGo go) (Hg : HC xs o0 t X len a z tl b0 b1 op y_Coder_expression lv go (d + 1)) (hl : lv ≤ l) (hl3 : 4 ≤ l) (ho : oB o) (h : sOK s) (hn : cn (dC (dLi z go o q s)) < 2 ^ 30) (hQ : Q (.inl none, (cdW o0 t X len a z (dLi z go o q s) tl, b0, b1, op))) : mj_Mt gT (law_cst xs) gnw (l + 1) y_Coder_list [.ref 14, .int x, .int q, .int w] (cdW o0 t X len a z s tl, b0, b1, op) Q := by
  subst hx
  subst hw
  obtain ⟨l, rfl⟩ : ∃ l', l = l' + 4 := ⟨l - 4, by omega⟩
  obtain ⟨hB1, hB2⟩ := s_B (z := z) h
  have h2 := hg _ _ ho hB1.1
  have h3 := s_I (z := z) (x := q) h2.1
  have h4 := h3.2
  have h5 := h2.2
  have hn2 : cn (dC (dI z (go o (dB z s)) q)) < 2 ^ 30 := hn
  intro J hJ
  refine hJ _ _ _ _ ?_
  refine m_bg hz h (by omega) ?_
  refine Hg (l + 4) o _ _ _ _ rfl (nI_1 d) hl ho hB1.1 (by omega) ?_
  refine m_in hz h2.1 hn2 ?_
  refine e_end ?_
  exact hQ
theorem m_body {o fl : Option Nat} {x y w : Int32} (hx : x = oV o) (hy : y = oV fl) (hw : w = nI d) (hz : z ≤ 250) (hg : SGo go) (Hg : HC xs o0 t X len a z tl b0 b1 op y_Coder_expression lv go (d + 1)) (hl : lv + 1 ≤ l) (hl3 : 5 ≤ l) (ho : oB o) (hf : oB fl) (h : sOK s) (hn : cn (dC (dBo z go o fl s)) < 2 ^ 30) (hQ : Q (.inl none, (cdW o0 t X len a z (dBo z go o fl s) tl, b0, b1, op))) : mj_Mt gT (law_cst xs) gnw (l + 1) y_Coder_body [.ref 14, .int x, .int y, .int w] (cdW o0 t X len a z s tl, b0, b1, op) Q := by
  obtain ⟨l, rfl⟩ : ∃ l', l = l' + 5 := ⟨l - 5, by omega⟩
  have h1 := s_I (z := z) (x := 3) h
  have h2 := s_En hf h1.1
  have h3 := s_Li (z := z) (x := 5) hg ho h2.1
  have e2 := h2.2
  have e3 := h3.2
  have hn2 : cn (dC (dLi z go o 5 (dEn (dI z s 3) fl))) < 2 ^ 30 := hn
  intro J hJ
  refine hJ _ _ _ _ ?_
  refine m_in (x := 3) hz h (by omega) ?_
  refine m_enter hy h1.1 ?_
  refine m_list (l := l + 4) (q := 5) hx hw hz hg Hg (by omega) (by omega) ho h2.1 hn2 ?_
  refine m_leave h3.1 ?_
  exact hQ
theorem m_fun {o : Option Nat} {x w : Int32} (hx : x = oV o) (hw : w = nI d) (hz : z ≤ 250) (ht : tOK t) (hg : SGo go) (Hg : HC xs o0 t X len a z tl b0 b1 op y_Coder_expression lv go (d + 1)) (hl : lv + 2 ≤ l) (hl3 : 6 ≤ l) (ho : oB o) (h : sOK s) (hn : cn (dC (dBo z go (dPt t 1 o) (tEn t (tF t) (dPt t 0 o)) s)) < 2 ^ 30) (hQ : Q (.inl none, (cdW o0 t X len a z (dBo z go (dPt t 1 o) (tEn t (tF t) (dPt t 0 o)) s) tl, b0, b1, op))) : mj_Mt gT (law_cst xs) gnw (l + 1) y_Coder_function [.ref 14, .int x, .int w] (cdW o0 t X len a z s tl, b0, b1, op) Q := by
  obtain ⟨l, rfl⟩ : ∃ l', l = l' + 6 := ⟨l - 6, by omega⟩
  intro J hJ
  refine hJ _ _ _ _ ?_
  refine t_partD (k := 1) hx rfl (by decide) ht ho ?_
  refine t_partD (k := 0) hx rfl (by decide) ht ho ?_
  refine t_firstPart rfl ht.1 (oB_pt ht 0 o) ?_
  refine m_body (l := l + 5) rfl rfl hw hz hg Hg (by omega) (by omega) (oB_pt ht 1 o) (tEn_lt ht.2.1 _) h hn ?_
  exact hQ
theorem m_bargs (hz : z ≤ 250) (h : sOK s) (hn : cn (dC (dBA z s)) < 2 ^ 30) (hQ : Q (.inl none, (cdW o0 t X len a z (dBA z s) tl, b0, b1, op))) : mj_Mt gT (law_cst xs) gnw (m + 4) y_Coder_beginArguments [.ref 14] (cdW o0 t X len a z s tl, b0, b1, op) Q := by
  have h1 := s_I (z := z) (x := 1) h
  have h2 := s_A (z := z) (v := vNil) h1.1
  have e2 := h2.2
  have hn2 : cn (dC (dA z (dI z s 1) vNil)) < 2 ^ 30 := hn
  intro J hJ
  refine hJ _ _ _ _ ?_
  refine m_in (x := 1) hz h (by omega) ?_
  refine m_ap (v := vNil) hz h1.1 hn2 ?_
  exact hQ
theorem m_arg {o : Option Nat} {x w : Int32} (hx : x = oV o) (hw : w = nI d) (hz : z ≤ 250) (hg : SGo go) (Hg : HC xs o0 t X len a z tl b0 b1 op y_Coder_expression lv go (d + 1)) (hl : lv ≤ l) (hl3 : 4 ≤ l) (ho : oB o) (h : sOK s) (hn : cn (dC (dAr z go o s)) < 2 ^ 30) (hQ : Q (.inl none, (cdW o0 t X len a z (dAr z go o s) tl, b0, b1, op))) : mj_Mt gT (law_cst xs) gnw (l + 1) y_Coder_argument [.ref 14, .int x, .int w] (cdW o0 t X len a z s tl, b0, b1, op) Q := by
  subst hx
  subst hw
  obtain ⟨l, rfl⟩ : ∃ l', l = l' + 4 := ⟨l - 4, by omega⟩
  have h2 := hg _ _ ho h
  have h3 := s_I (z := z) (x := 13) h2.1
  have e3 := h3.2
  have hn2 : cn (dC (dI z (go o s) 13)) < 2 ^ 30 := hn
  intro J hJ
  refine hJ _ _ _ _ ?_
  refine Hg (l + 4) o _ _ _ _ rfl (nI_1 d) hl ho h (by omega) ?_
  refine m_in (x := 13) hz h2.1 hn2 ?_
  exact hQ
theorem tCn_le (t : tS) : ∀ (k : Nat) (o : Option Nat), tCn t k o ≤ k
  | 0, o => Nat.le_refl _
  | k + 1, none => Nat.zero_le _
  | k + 1, some i => Nat.succ_le_succ (tCn_le t k _)
theorem n_dec {k : Nat} (h : 1 ≤ k) (hk : k < 2 ^ 31) : nI k + Int32.ofInt (-1) = nI (k - 1) := sb_m1 h
theorem m_boundArgs {o : Option Nat} {x w : Int32} (hx : x = oV o) (hw : w = nI d) (hz : z ≤ 250) (ht : tOK t) (hg : SGo go) (Hg : HC xs o0 t X len a z tl b0 b1 op y_Coder_expression lv go (d + 1)) (hl : lv + 1 ≤ l) (hl3 : 5 ≤ l) (ho : oB o) (h : sOK s) (hn : cn (dC (dBs z t go o s)) < 2 ^ 30) (hQ : Q (.inl none, (cdW o0 t X len a z (dBs z t go o s) tl, b0, b1, op))) : mj_Mt gT (law_cst xs) gnw (l + 1) y_Coder_boundArguments [.ref 14, .int x, .int w] (cdW o0 t X len a z s tl, b0, b1, op) Q := by
  subst hx
  subst hw
  obtain ⟨l, rfl⟩ : ∃ l', l = l' + 5 := ⟨l - 5, by omega⟩
  have hpk : ∀ k, oB ((fun k => tEn t (tF t) (dPt t k o)) k) := fun k => tEn_lt ht.2.1 _
  have h1 := s_BA (z := z) h
  have hc := tCn_le t 96 (tEn t (tF t) o)
  have h2 := s_As (z := z) hg (pick := fun k => tEn t (tF t) (dPt t k o)) hpk (tCn t 96 (tEn t (tF t) o) - 1) _ h1.1
  have e1 := h1.2
  have e2 := h2.2
  intro J hJ
  refine hJ _ _ _ _ ?_
  have hnA : cn (dC (dAs z go (fun k => tEn t (tF t) (dPt t k o)) (tCn t 96 (tEn t (tF t) o) - 1) (dBA z s))) < 2 ^ 30 := hn
  refine m_bargs hz h (by omega) ?_
  refine t_parts rfl ht ho ?_
  have loop : ∀ (k : Nat) (s2 : cD_) (y : Int32), k ≤ 95 → (y = nI k ∨ k = 0 ∧ y = nI 0 - Int32.ofInt 1) → sOK s2 → dAs z go (fun k => tEn t (tF t) (dPt t k o)) k s2 = dAs z go (fun k => tEn t (tF t) (dPt t k o)) (tCn t 96 (tEn t (tF t) o) - 1) (dBA z s) → J 9 [some (.ref 14), some (.int (oV o)), some (.int (nI d)), some (.int y)] [] (cdW o0 t X len a z s2 tl, b0, b1, op) := by
    intro k
    induction k with
    | zero =>
      intro s2 y hk hy h3 e
      refine hJ _ _ _ _ ?_
      refine And.intro (fun _ => ?_) (fun g => absurd (show y < Int32.ofInt 1 by rcases hy with rfl | ⟨-, rfl⟩ <;> decide) g)
      have e : s2 = dAs z go (fun k => tEn t (tF t) (dPt t k o)) (tCn t 96 (tEn t (tF t) o) - 1) (dBA z s) := e
      subst e
      exact hQ
    | succ k ih =>
      intro s2 y hk hy h3 e
      obtain rfl : y = nI (k + 1) := by
        rcases hy with hy | hy
        · exact hy
        · omega
      have h4 := hg _ _ (hpk (k + 1)) h3
      have h5 := s_I (z := z) (x := 13) h4.1
      have h6 := s_As (z := z) hg (pick := fun k => tEn t (tF t) (dPt t k o)) hpk k _ h5.1
      have e : dAs z go (fun k => tEn t (tF t) (dPt t k o)) k (dAr z go (tEn t (tF t) (dPt t (k + 1) o)) s2) = _ := e
      have e6 := h6.2
      have e7 : cn (dC (dAr z go (tEn t (tF t) (dPt t (k + 1) o)) s2)) ≤ cn (dC (dAs z go (fun k => tEn t (tF t) (dPt t k o)) (tCn t 96 (tEn t (tF t) o) - 1) (dBA z s))) := by
        rw [← e]
        exact e6
      refine hJ _ _ _ _ ?_
      refine And.intro (fun g => absurd g (nI_nlt (a := k + 1) (b := 1) (by omega) (by omega))) (fun _ => ?_)
      refine t_partD (k := k + 1) rfl rfl (by omega) ht ho ?_
      refine t_firstPart rfl ht.1 (oB_pt ht (k + 1) o) ?_
      refine m_arg (l := l + 4) rfl rfl hz hg Hg (by omega) (by omega) (hpk (k + 1)) h3 (Nat.lt_of_le_of_lt e7 hnA) ?_
      refine ih _ _ (by omega) (Or.inl ?_) h5.1 e
      exact n_dec (by omega) (by omega)
  by_cases hc0 : tCn t 96 (tEn t (tF t) o) = 0
  · rw [hc0]
    refine loop 0 _ _ (by omega) (Or.inr ⟨rfl, rfl⟩) h1.1 ?_
    rw [hc0]
  · refine loop (tCn t 96 (tEn t (tF t) o) - 1) _ _ (by omega) (Or.inl ?_) h1.1 rfl
    exact pk_sub (a := tCn t 96 (tEn t (tF t) o)) (b := 1) (by omega)
theorem m_call {o : Option Nat} {x w : Int32} (hx : x = oV o) (hw : w = nI d) (hz : z ≤ 250) (ht : tOK t) (hg : SGo go) (Hg : HC xs o0 t X len a z tl b0 b1 op y_Coder_expression lv go (d + 1)) (hl : lv + 1 ≤ l) (hl3 : 5 ≤ l) (ho : oB o) (h : sOK s) (hn : cn (dC (dCa z t go o s)) < 2 ^ 30) (hQ : Q (.inl none, (cdW o0 t X len a z (dCa z t go o s) tl, b0, b1, op))) : mj_Mt gT (law_cst xs) gnw (l + 1) y_Coder_call [.ref 14, .int x, .int w] (cdW o0 t X len a z s tl, b0, b1, op) Q := by
  subst hx
  subst hw
  obtain ⟨l, rfl⟩ : ∃ l', l = l' + 5 := ⟨l - 5, by omega⟩
  have hpk : ∀ k, oB ((fun k => dPt t k o) k) := fun k => oB_pt ht k o
  have h1 := s_BA (z := z) h
  have hc := tCn_le t 96 (tEn t (tF t) o)
  have h2 := s_As (z := z) hg (pick := fun k => dPt t k o) hpk (tCn t 96 (tEn t (tF t) o) - 1) _ h1.1
  have e1 := h1.2
  have e2 := h2.2
  intro J hJ
  refine hJ _ _ _ _ ?_
  have h8 := hg _ _ (oB_pt ht 0 o) h2.1
  have h9 := s_I (z := z) (x := 4) h8.1
  have e8 := h8.2
  have e9 := h9.2
  have hn2 : cn (dC (dI z (go (dPt t 0 o) (dAs z go (fun k => dPt t k o) (tCn t 96 (tEn t (tF t) o) - 1) (dBA z s))) 4)) < 2 ^ 30 := hn
  have hnA : cn (dC (dAs z go (fun k => dPt t k o) (tCn t 96 (tEn t (tF t) o) - 1) (dBA z s))) < 2 ^ 30 := by omega
  refine m_bargs hz h (by omega) ?_
  refine t_parts rfl ht ho ?_
  have loop : ∀ (k : Nat) (s2 : cD_) (y : Int32), k ≤ 95 → (y = nI k ∨ k = 0 ∧ y = nI 0 - Int32.ofInt 1) → sOK s2 → dAs z go (fun k => dPt t k o) k s2 = dAs z go (fun k => dPt t k o) (tCn t 96 (tEn t (tF t) o) - 1) (dBA z s) → J 9 [some (.ref 14), some (.int (oV o)), some (.int (nI d)), some (.int y)] [] (cdW o0 t X len a z s2 tl, b0, b1, op) := by
    intro k
    induction k with
    | zero =>
      intro s2 y hk hy h3 e
      refine hJ _ _ _ _ ?_
      refine And.intro (fun _ => ?_) (fun g => absurd (show y < Int32.ofInt 1 by rcases hy with rfl | ⟨-, rfl⟩ <;> decide) g)
      have e : s2 = dAs z go (fun k => dPt t k o) (tCn t 96 (tEn t (tF t) o) - 1) (dBA z s) := e
      subst e
      refine t_partD (k := 0) rfl rfl (by decide) ht ho ?_
      refine Hg (l + 5) _ _ _ _ _ rfl (nI_1 d) (by omega) (oB_pt ht 0 o) h3 (by omega) ?_
      refine m_in (x := 4) hz h8.1 hn2 ?_
      exact hQ
    | succ k ih =>
      intro s2 y hk hy h3 e
      obtain rfl : y = nI (k + 1) := by
        rcases hy with hy | hy
        · exact hy
        · omega
      have h4 := hg _ _ (hpk (k + 1)) h3
      have h5 := s_I (z := z) (x := 13) h4.1
      have h6 := s_As (z := z) hg (pick := fun k => dPt t k o) hpk k _ h5.1
      have e : dAs z go (fun k => dPt t k o) k (dAr z go (dPt t (k + 1) o) s2) = _ := e
      have e6 := h6.2
      have e7 : cn (dC (dAr z go (dPt t (k + 1) o) s2)) ≤ cn (dC (dAs z go (fun k => dPt t k o) (tCn t 96 (tEn t (tF t) o) - 1) (dBA z s))) := by
        rw [← e]
        exact e6
      refine hJ _ _ _ _ ?_
      refine And.intro (fun g => absurd g (nI_nlt (a := k + 1) (b := 1) (by omega) (by omega))) (fun _ => ?_)
      refine t_partD (k := k + 1) rfl rfl (by omega) ht ho ?_
      refine m_arg (l := l + 4) rfl rfl hz hg Hg (by omega) (by omega) (hpk (k + 1)) h3 (Nat.lt_of_le_of_lt e7 hnA) ?_
      refine ih _ _ (by omega) (Or.inl ?_) h5.1 e
      exact n_dec (by omega) (by omega)
  by_cases hc0 : tCn t 96 (tEn t (tF t) o) = 0
  · rw [hc0]
    refine loop 0 _ _ (by omega) (Or.inr ⟨rfl, rfl⟩) h1.1 ?_
    rw [hc0]
  · refine loop (tCn t 96 (tEn t (tF t) o) - 1) _ _ (by omega) (Or.inl ?_) h1.1 rfl
    exact pk_sub (a := tCn t 96 (tEn t (tF t) o)) (b := 1) (by omega)
theorem m_bound {o : Option Nat} {x w : Int32} (hx : x = oV o) (hw : w = nI d) (hz : z ≤ 250) (ht : tOK t) (hg : SGo go) (Hg : HC xs o0 t X len a z tl b0 b1 op y_Coder_expression lv go (d + 1)) (hl : lv + 2 ≤ l) (hl3 : 6 ≤ l) (ho : oB o) (h : sOK s) (hn : cn (dC (dBd z t go o s)) < 2 ^ 30) (hQ : Q (.inl none, (cdW o0 t X len a z (dBd z t go o s) tl, b0, b1, op))) : mj_Mt gT (law_cst xs) gnw (l + 1) y_Coder_bound [.ref 14, .int x, .int w] (cdW o0 t X len a z s tl, b0, b1, op) Q := by
  obtain ⟨l, rfl⟩ : ∃ l', l = l' + 6 := ⟨l - 6, by omega⟩
  have h1 := s_Bs (z := z) ht hg (o := o) h
  have h2 := s_Bo (z := z) hg (oB_pt ht 0 o) (oB_pt ht 1 o) h1.1
  have h3 := s_I (z := z) (x := 4) h2.1
  have e2 := h2.2
  have e3 := h3.2
  have hn2 : cn (dC (dI z (dBo z go (dPt t 0 o) (dPt t 1 o) (dBs z t go o s)) 4)) < 2 ^ 30 := hn
  have hn3 : cn (dC (dI z (dBo z go (dPt t 0 o) (dPt t 1 o) (dBs z t go o s)) 4)) < 2 ^ 30 := hn
  intro J hJ
  refine hJ _ _ _ _ ?_
  refine m_boundArgs (l := l + 5) hx hw hz ht hg Hg (by omega) (by omega) ho h (by omega) ?_
  refine t_partD (k := 0) hx rfl (by decide) ht ho ?_
  refine t_partD (k := 1) hx rfl (by decide) ht ho ?_
  refine m_body (l := l + 5) rfl rfl hw hz hg Hg (by omega) (by omega) (oB_pt ht 0 o) (oB_pt ht 1 o) h1.1 (by omega) ?_
  refine m_in (x := 4) hz h2.1 hn2 ?_
  exact hQ
theorem m_boundF {o : Option Nat} {x w : Int32} (hx : x = oV o) (hw : w = nI d) (hz : z ≤ 250) (ht : tOK t) (hg : SGo go) (Hg : HC xs o0 t X len a z tl b0 b1 op y_Coder_expression lv go (d + 1)) (hl : lv + 2 ≤ l) (hl3 : 6 ≤ l) (ho : oB o) (h : sOK s) (hn : cn (dC (dBf z t go o s)) < 2 ^ 30) (hQ : Q (.inl none, (cdW o0 t X len a z (dBf z t go o s) tl, b0, b1, op))) : mj_Mt gT (law_cst xs) gnw (l + 1) y_Coder_boundInFrame [.ref 14, .int x, .int w] (cdW o0 t X len a z s tl, b0, b1, op) Q := by
  obtain ⟨l, rfl⟩ : ∃ l', l = l' + 6 := ⟨l - 6, by omega⟩
  have h1 := s_I (z := z) (x := 6) h
  have h2 := s_En (oB_pt ht 1 o) h1.1
  have h3 := s_Bs (z := z) ht hg (o := o) h2.1
  have h4 := s_Lv h3.1
  have h5 := s_Bo (z := z) hg (oB_pt ht 0 o) (oB_pt ht 1 o) h4.1
  have h6 := s_I (z := z) (x := 7) h5.1
  have e2 := h2.2
  have e3 := h3.2
  have e4 := h4.2
  have e5 := h5.2
  have e6 := h6.2
  have hn2 : cn (dC (dI z (dBo z go (dPt t 0 o) (dPt t 1 o) (dLv (dBs z t go o (dEn (dI z s 6) (dPt t 1 o))))) 7)) < 2 ^ 30 := hn
  have hn3 : cn (dC (dI z (dBo z go (dPt t 0 o) (dPt t 1 o) (dLv (dBs z t go o (dEn (dI z s 6) (dPt t 1 o))))) 7)) < 2 ^ 30 := hn
  intro J hJ
  refine hJ _ _ _ _ ?_
  refine m_in (x := 6) hz h (by omega) ?_
  refine t_partD (k := 1) hx rfl (by decide) ht ho ?_
  refine m_enter rfl h1.1 ?_
  refine m_boundArgs (l := l + 5) hx hw hz ht hg Hg (by omega) (by omega) ho h2.1 (by omega) ?_
  refine m_leave h3.1 ?_
  refine t_partD (k := 0) hx rfl (by decide) ht ho ?_
  refine t_partD (k := 1) hx rfl (by decide) ht ho ?_
  refine m_body (l := l + 5) rfl rfl hw hz hg Hg (by omega) (by omega) (oB_pt ht 0 o) (oB_pt ht 1 o) h4.1 (by omega) ?_
  refine m_in (x := 7) hz h5.1 hn2 ?_
  exact hQ
theorem m_choice {o : Option Nat} {x w : Int32} (hx : x = oV o) (hw : w = nI d) (hz : z ≤ 250) (ht : tOK t) (hg : SGo go) (Hg : HC xs o0 t X len a z tl b0 b1 op y_Coder_expression lv go (d + 1)) (hl : lv + 1 ≤ l) (hl3 : 6 ≤ l) (ho : oB o) (h : sOK s) (hn : cn (dC (dCh z t go o s)) < 2 ^ 30) (hQ : Q (.inl none, (cdW o0 t X len a z (dCh z t go o s) tl, b0, b1, op))) : mj_Mt gT (law_cst xs) gnw (l + 1) y_Coder_choice [.ref 14, .int x, .int w] (cdW o0 t X len a z s tl, b0, b1, op) Q := by
  subst hw
  obtain ⟨l, rfl⟩ : ∃ l', l = l' + 6 := ⟨l - 6, by omega⟩
  have h1 := hg _ _ (oB_pt ht 0 o) h
  have h2 := s_I (z := z) (x := 8) h1.1
  have h3 := s_Li (z := z) (x := 9) hg (oB_pt ht 1 o) h2.1
  have h4 := s_Li (z := z) (x := 9) hg (oB_pt ht 2 o) h3.1
  have e2 := h2.2
  have e3 := h3.2
  have e4 := h4.2
  have hn2 : cn (dC (dLi z go (dPt t 2 o) 9 (dLi z go (dPt t 1 o) 9 (dI z (go (dPt t 0 o) s) 8)))) < 2 ^ 30 := hn
  intro J hJ
  refine hJ _ _ _ _ ?_
  refine t_partD (k := 0) hx rfl (by decide) ht ho ?_
  refine Hg (l + 6) _ _ _ _ _ rfl (nI_1 d) (by omega) (oB_pt ht 0 o) h (by omega) ?_
  refine m_in (x := 8) hz h1.1 (by omega) ?_
  refine t_partD (k := 1) hx rfl (by decide) ht ho ?_
  refine m_list (l := l + 5) (q := 9) rfl rfl hz hg Hg (by omega) (by omega) (oB_pt ht 1 o) h2.1 (by omega) ?_
  refine t_partD (k := 2) hx rfl (by decide) ht ho ?_
  refine m_list (l := l + 5) (q := 9) rfl rfl hz hg Hg (by omega) (by omega) (oB_pt ht 2 o) h3.1 hn2 ?_
  exact hQ
theorem m_oper {o : Option Nat} {x w : Int32} (hx : x = oV o) (hw : w = nI d) (hz : z ≤ 250) (ht : tOK t) (hg : SGo go) (Hg : HC xs o0 t X len a z tl b0 b1 op y_Coder_expression lv go (d + 1)) (hl : lv + 2 ≤ l) (hl3 : 7 ≤ l) (ho : oB o) (h : sOK s) (hn : cn (dC (dOn z t go o s)) < 2 ^ 30) (hQ : Q (.inl none, (cdW o0 t X len a z (dOn z t go o s) tl, b0, b1, op))) : mj_Mt gT (law_cst xs) gnw (l + 1) y_Coder_operation [.ref 14, .int x, .int w] (cdW o0 t X len a z s tl, b0, b1, op) Q := by
  subst hx
  subst hw
  obtain ⟨l, rfl⟩ : ∃ l', l = l' + 7 := ⟨l - 7, by omega⟩
  unfold dOn at hQ hn
  intro J hJ
  refine hJ _ _ _ _ ?_
  refine t_value rfl ht.1 ho ?_
  generalize tEi t (tV t) o = v at hQ hn
  refine And.intro (fun (g : ¬ v = 8) => ?_) (fun (g : v = 8) => ?_)
  · rw [if_neg g] at hQ hn
    refine t_parts rfl ht ho ?_
    have hc := tCn_le t 96 (tEn t (tF t) o)
    generalize tCn t 96 (tEn t (tF t) o) = n at hQ hn hc
    have h1 := s_Op ht hg (o := o) (w := v) (n := n) n 0 s h
    have h2 := s_I (z := z) (x := v) h1.1
    have e2 := h2.2
    have hn2 : cn (dC (dI z (dOp t go o v n n 0 s) v)) < 2 ^ 30 := hn
    have loop : ∀ (j i : Nat) (s2 : cD_) (y : Int32) (v6 : Option Value), (v6 = none ∨ ∃ w : Int32, v6 = some (.int w)) → j + i = n → y = nI i → sOK s2 → dOp t go o v n j i s2 = dOp t go o v n n 0 s → J 20 [some (.ref 14), some (.int (oV o)), some (.int (nI d)), some (.int v), some (.int (nI n)), some (.int y), v6] [] (cdW o0 t X len a z s2 tl, b0, b1, op) := by
      intro j
      induction j with
      | zero =>
        intro i s2 y v6 hv hi hy h3 e
        subst hy
        have e : s2 = _ := e
        subst e
        refine hJ _ _ _ _ ?_
        refine And.intro (fun _ => ?_) (fun g => absurd (nI_le (a := n) (b := i) (by omega) (by omega)) g)
        refine m_in (x := v) hz h3 hn2 ?_
        exact hQ
      | succ j ih =>
        intro i s2 y v6 hv hi hy h3 e
        subst hy
        have e : dOp t go o v n j (i + 1) (go (dPt t (if v = 13 then n - 1 - i else i) o) s2) = _ := e
        have h4 := hg _ _ (oB_pt ht (if v = 13 then n - 1 - i else i) o) h3
        have h5 := s_Op ht hg (o := o) (w := v) (n := n) j (i + 1) _ h4.1
        have e5 := h5.2
        rw [e] at e5
        have go2 : ∀ (Q' : mj_R → Prop) (y6 : Int32), y6 = nI (if v = 13 then n - 1 - i else i) → Q' (.inl (some (.int (oV (dPt t (if v = 13 then n - 1 - i else i) o)))), (cdW o0 t X len a z s2 tl, b0, b1, op)) → mj_Mt gT (law_cst xs) gnw (l + 7) y_Tree_part [.ref 1, .int (oV o), .int y6] (cdW o0 t X len a z s2 tl, b0, b1, op) Q' := by
          intro Q' y6 hy6 hq
          exact t_partD (k := if v = 13 then n - 1 - i else i) rfl hy6 (by split <;> omega) ht ho hq
        refine hJ _ _ _ _ ?_
        rcases hv with rfl | ⟨w6, rfl⟩
        all_goals
          refine And.intro (fun g => absurd g (nI_ge (a := i) (b := n) (by omega) (by omega))) (fun _ => ?_)
          refine And.intro (fun (g13 : ¬ v = 13) => ?_) (fun (g13 : v = 13) => ?_)
          · refine go2 _ _ (by rw [if_neg g13]) ?_
            refine Hg (l + 7) _ _ _ _ _ rfl (nI_1 d) (by omega) (oB_pt ht _ o) h3 (by omega) ?_
            exact ih (i + 1) _ _ _ (Or.inr ⟨_, rfl⟩) (by omega) (nI_1 i) h4.1 e
          · refine go2 _ _ (by rw [if_pos g13, show nI n - Int32.ofInt 1 = nI (n - 1) from pk_sub (a := n) (b := 1) (by omega)]; exact pk_sub (by omega)) ?_
            refine Hg (l + 7) _ _ _ _ _ rfl (nI_1 d) (by omega) (oB_pt ht _ o) h3 (by omega) ?_
            exact ih (i + 1) _ _ _ (Or.inr ⟨_, rfl⟩) (by omega) (nI_1 i) h4.1 e
    exact loop n 0 s _ none (Or.inl rfl) rfl rfl h rfl
  · rw [if_pos g] at hQ hn
    refine m_choice (l := l + 6) rfl rfl hz ht hg Hg (by omega) (by omega) ho h hn ?_
    exact hQ
end P2m
end
