section P2i
variable {m b0 b1 : Nat} {op : Bool} {tl : List mj_O} {Q : mj_R → Prop} {xs : List Int32}
variable {o0 : mj_O} {t : tS} {X : Nat → Int32} {len a : Nat} {tx : Nat → Nat}
set_option maxRecDepth 10000
theorem tPt_lt {t : tS} (ht : tOK t) : ∀ (k : Nat) (o : Option Nat), (∀ i, o = some i → i < 1000) → ∀ i, tPt t k o = some i → i < 1000
  | 0, o, h => h
  | k + 1, o, h => tPt_lt ht k _ (tEn_lt ht.2.2.2 o)
theorem q_bind {l d n : Nat} {y z : Int32} (hy : y = nI n) (hz : z = nI d) (hx : txOK X len tx) (ht : tOK t) (hp : n < tn t) (hn : tn t ≤ a) (hl : a ≤ len) (hd : d < 900) (h6 : 6 ≤ b1) {pe pe3 : Nat → tS → PR} {lv : Nat} (H2 : HE xs o0 X len tl b0 b1 op y_Reader_expression lv pe (d + 1)) (H3 : HE xs o0 X len tl b0 b1 op y_Reader_expression lv pe3 (d + 2)) (hlv : lv + 1 ≤ l) (h3 : 5 ≤ l) (hg : GE len pe) (hg3 : GE len pe3) (hQ : ru Q o0 X len tl b0 b1 op (pBind tx pe (pFun tx pe3 (d + 2)) d n a t)) : mj_Mt gT (law_cst xs) gnw (l + 1) y_Reader_binding [.ref 10, .int y, .int z] (rdW o0 t X len a tl, b0 + 1, b1, op) Q := by
  subst hy
  subst hz
  obtain ⟨l, rfl⟩ : ∃ l', l = l' + 5 := ⟨l - 5, by omega⟩
  have h96 := hx.1
  unfold pBind at hQ
  intro J hJ
  refine hJ _ _ _ _ ?_
  refine q_open rfl hx (by omega) (by omega) h6 (fun hd9 h40 => ?_) (fun h => ?_)
  · rw [if_pos ⟨hd9, h40⟩] at hQ
    have h1 := hx.lt (a := a) (by omega)
    refine t_part (o := some n) (k := 1) rfl rfl (by decide) ht (fun i e => by cases e; omega) ?_
    refine q_among rfl hx (by omega) ht (tPt_lt ht 1 _ (tEn_lt ht.2.1 _)) h6 (fun g1 g2 => ?_) (fun g => ?_)
    · rw [if_pos ⟨g1, g2⟩] at hQ
      have h3 := hx.lt (cL_ne g1)
      refine t_add (k := 10) (by omega) ?_
      have ht1 : tOK (tAdd t 10 (nI (tx (a + 1))) (nI (a + 1))) := tOK_add ht (by omega)
      have nd : ∀ z : Int32, z = nI (a + 1 + 1) → ∀ (Q' : mj_R → Prop), (tx (a + 1 + 1) = 32 → Q' (.inl none, (rdW o0 (tAdd t 10 (nI (tx (a + 1))) (nI (a + 1))) X len (a + 1 + 1 + 1) tl, b0 + 1, b1, op))) → (¬ tx (a + 1 + 1) = 32 → Q' (.inr 0, (rdW o0 (tAdd t 10 (nI (tx (a + 1))) (nI (a + 1))) X len (a + 1 + 1) tl, b0, b1 - 6, false))) → mj_Mt gT (law_cst xs) gnw (l + 5) y_Reader_need [.ref 10, .int (nI 32)] (rdX o0 (tAdd t 10 (nI (tx (a + 1))) (nI (a + 1))) X len z tl, b0 + 1, b1, op) Q' := by
        rintro z rfl Q' q1 q2
        exact q_need (c := 32) rfl hx (by omega) (by decide) h6 q1 q2
      refine nd _ (nI_1 (a + 1)) _ (fun h => ?_) (fun h => ?_)
      · rw [if_pos h] at hQ
        have h5 := hx.lt (a := a + 1 + 1) (by omega)
        have hgd := g_bv (pf := pFun tx pe3 (d + 2)) hx hg (fun a t q1 q2 q3 => g_fun hx hg3 q1 q2 q3) (d := d) (n := n) (a := a + 1 + 1 + 1) ht1 (by rw [tn_add]; omega) (by omega)
        rw [tn_add] at hgd
        refine t_kind (o := some n) rfl ht1.1 (fun i e => by cases e; omega) ?_
        have fin : ∀ (F c a2 : Nat) (t2 : tS), c = tn t + 1 → tOK t2 → tn t + 1 < tn t2 → tn t2 ≤ a2 → a2 ≤ len → ru Q o0 X len tl b0 b1 op (if tx a2 = 41 then .inl (a2 + 1, tPart (tPart t2 (tn t) c) n (tn t)) else .inr (a2, tPart t2 (tn t) c)) → mj_sg (mj_Mt gT (law_cst xs) gnw (l + 5)) (law_cst xs) gnw (mj_hd (mj_off kO_Reader_binding) kH_Reader_binding) kC_Reader_binding J Q (F + 20) false 58 [some (.ref 10), some (.int (nI n)), some (.int (nI d)), some (.int (nI (tx (a + 1)))), some (.int (nI (tn t)))] [] (rdW o0 (tPart t2 (tn t) c) X len a2 tl, b0 + 1, b1, op) := by
          intro F c a2 t2 q0 q1 q2 q3 q4 hq
          have hc2 : tn (tPart t2 (tn t) c) = tn t2 := tn_part
          refine q_need (c := 41) rfl hx (by omega) (by decide) h6 (fun h => ?_) (fun h => ?_)
          · rw [if_pos h] at hq
            refine t_addPart (tOK_part q1 (by omega)) (by rw [hc2]; omega) ?_
            exact hq
          · rw [if_neg h] at hq
            exact hq
        unfold pBv at hQ hgd
        by_cases h9 : tEi (tAdd t 10 (nI (tx (a + 1))) (nI (a + 1))) (tK (tAdd t 10 (nI (tx (a + 1))) (nI (a + 1)))) (some n) = 9
        · rw [if_pos h9] at hQ hgd
          refine And.intro (fun g => absurd h9 g) (fun _ => ?_)
          refine q_open (nI_1 d) hx (by omega) (by omega) h6 (fun e1 e2 => ?_) (fun e => ?_)
          · rw [if_pos ⟨e1, e2⟩] at hQ hgd
            have h7 := hx.lt (a := a + 1 + 1 + 1) (by omega)
            refine q_fun (l := l + 4) (nI_add d 2) hx ht1 (by rw [tn_add]; omega) (by omega) (by omega) h6 H3 (by omega) (by omega) hg3 ?_
            generalize pFun tx pe3 (d + 2) (a + 1 + 1 + 1 + 1) (tAdd t 10 (nI (tx (a + 1))) (nI (a + 1))) = r at hgd hQ
            rcases r with ⟨c, a2, t2⟩ | ⟨a2, t2⟩
            · obtain ⟨rfl, q1, q2, q3, q4⟩ := hgd
              refine t_addPart q1 (by omega) ?_
              exact fin _ _ a2 t2 rfl q1 q2 q3 q4 hQ
            · exact hQ
          · rw [if_neg e] at hQ
            exact hQ
        · rw [if_neg h9] at hQ hgd
          refine And.intro (fun _ => ?_) (fun g => absurd g h9)
          refine H2 (l + 5) (a + 1 + 1 + 1) _ _ _ (nI_1 d) (by omega) ht1 (by rw [tn_add]; omega) (by omega) ?_
          generalize pe (a + 1 + 1 + 1) (tAdd t 10 (nI (tx (a + 1))) (nI (a + 1))) = r at hgd hQ
          rcases r with ⟨c, a2, t2⟩ | ⟨a2, t2⟩
          · obtain ⟨rfl, q1, q2, q3, q4⟩ := hgd
            refine t_addPart q1 (by omega) ?_
            exact fin _ _ a2 t2 rfl q1 q2 q3 q4 hQ
          · exact hQ
      · rw [if_neg h] at hQ
        exact hQ
    · rw [if_neg g] at hQ
      exact hQ
  · rw [if_neg h] at hQ
    exact hQ
theorem q_bsLoop {l d n : Nat} {w : Value} {y4 : Int32} {J : Nat → mj_L → List Value → mj_H → Prop} (hJ : ∀ pc ls st h, mj_sg (mj_Mt gT (law_cst xs) gnw l) (law_cst xs) gnw (mj_hd (mj_off kO_Reader_bound) kH_Reader_bound) kC_Reader_bound J Q 400 true pc ls st h → J pc ls st h) (hx : txOK X len tx) (hd : d < 900) (h6 : 6 ≤ b1) {pe pe3 : Nat → tS → PR} {lv : Nat} (H2 : HE xs o0 X len tl b0 b1 op y_Reader_expression lv pe (d + 1)) (H3 : HE xs o0 X len tl b0 b1 op y_Reader_expression lv pe3 (d + 2)) (hlv : lv + 2 ≤ l) (h3 : 6 ≤ l) (hg : GE len pe) (hg3 : GE len pe3) :
    ∀ (k i a : Nat) (t : tS) (x : Int32), k + i = 3 → x = nI i → tOK t → n < tn t → tn t ≤ a → a ≤ len → rq Q o0 X len tl b0 b1 op (pBs tx (pBind tx pe (pFun tx pe3 (d + 2)) d n) n k a t) → J 40 [some (.ref 10), some (.int y4), some (.int (nI d)), some (.int (if y4 = 59 then 9 else 8)), some (.int (nI n)), some (.int x)] [] (rdW o0 t X len a tl, b0 + 1, b1, op) := by
  obtain ⟨l, rfl⟩ : ∃ l', l = l' + 6 := ⟨l - 6, by omega⟩
  have h96 := hx.1
  intro k
  induction k with
  | zero =>
    intro i a t x hi hxi ht hn ha hl hQ
    subst hxi
    obtain rfl : i = 3 := by omega
    refine hJ _ _ _ _ ?_
    refine And.intro (fun _ => ?_) (fun g => absurd (by decide) g)
    unfold pBs pClose at hQ
    refine q_need (c := 41) rfl hx (by omega) (by decide) h6 (fun h => ?_) (fun h => ?_)
    · rw [if_pos h] at hQ
      exact hQ
    · rw [if_neg h] at hQ
      exact hQ
  | succ k ih =>
    intro i a t x hi hxi ht hn ha hl hQ
    subst hxi
    have hle := hx.le a
    refine hJ _ _ _ _ ?_
    refine And.intro (fun g => absurd g (nI_ge (a := i) (b := 3) (by omega) (by decide))) (fun _ => ?_)
    refine x_codeAt rfl hx (by omega) ?_
    unfold pBs at hQ
    refine And.intro (fun g => ?_) (fun g => ?_)
    · have h32 : ¬ tx a = 32 := fun e => g (by rw [e]; rfl)
      rw [if_neg h32] at hQ
      unfold pClose at hQ
      refine q_need (c := 41) rfl hx (by omega) (by decide) h6 (fun h => ?_) (fun h => ?_)
      · rw [if_pos h] at hQ
        exact hQ
      · rw [if_neg h] at hQ
        exact hQ
    · have h32 : tx a = 32 := (nI_eq (a := tx a) (b := 32) (by omega) (by decide)).mp g
      have h1 := hx.lt (a := a) (by omega)
      rw [if_pos h32] at hQ
      have hgd := g_bind (pf := pFun tx pe3 (d + 2)) hx hg (fun a t q1 q2 q3 => g_fun hx hg3 q1 q2 q3) (d := d) (n := n) (a := a + 1) ht (by omega) (by omega)
      have key : ∀ z : Int32, z = nI (a + 1) → ∀ (Q' : mj_R → Prop), ru Q' o0 X len tl b0 b1 op (pBind tx pe (pFun tx pe3 (d + 2)) d n (a + 1) t) → mj_Mt gT (law_cst xs) gnw (l + 5 + 1) y_Reader_binding [.ref 10, .int (nI n), .int (nI d)] (rdX o0 t X len z tl, b0 + 1, b1, op) Q' := by
        rintro z rfl Q' hq
        exact q_bind rfl rfl hx ht hn (by omega) (by omega) hd h6 H2 H3 (by omega) (by omega) hg hg3 hq
      refine key _ (nI_1 a) _ ?_
      generalize pBind tx pe (pFun tx pe3 (d + 2)) d n (a + 1) t = r at hgd hQ
      rcases r with ⟨a2, t2⟩ | ⟨a2, t2⟩
      · obtain ⟨g1, g2, g3, g4⟩ := hgd
        exact ih (i + 1) a2 t2 _ (by omega) (nI_1 i) g1 (by omega) g3 g4 hQ
      · exact hQ
theorem q_bou {l d c : Nat} {y z : Int32} (hy : y = nI c) (hz : z = nI d) (hc : c = 58 ∨ c = 59) (hx : txOK X len tx) (ht : tOK t) (hn : tn t + 1 ≤ a) (hl : a < len) (hd : d < 900) (h6 : 6 ≤ b1) {pe pe2 pe3 : Nat → tS → PR} {lv : Nat} (H1 : HE xs o0 X len tl b0 b1 op y_Reader_expression lv pe d) (H2 : HE xs o0 X len tl b0 b1 op y_Reader_expression lv pe2 (d + 1)) (H3 : HE xs o0 X len tl b0 b1 op y_Reader_expression lv pe3 (d + 2)) (hlv : lv + 2 ≤ l) (h3 : 6 ≤ l) (hg : GE len pe) (hg2 : GE len pe2) (hg3 : GE len pe3) (hQ : rq Q o0 X len tl b0 b1 op (pBou tx pe (pBind tx pe2 (pFun tx pe3 (d + 2)) d) (if c = 59 then 9 else 8) a t)) : mj_Mt gT (law_cst xs) gnw (l + 1) y_Reader_bound [.ref 10, .int y, .int z] (rdW o0 t X len a tl, b0 + 1, b1, op) Q := by
  subst hy
  subst hz
  obtain ⟨l, rfl⟩ : ∃ l', l = l' + 6 := ⟨l - 6, by omega⟩
  have h96 := hx.1
  intro J hJ
  have ek : (if c = 59 then (9 : Int32) else 8) = (if nI c = 59 then 9 else 8) := by
    rcases hc with rfl | rfl <;> decide
  rw [ek] at hQ
  have go : ∀ (F : Nat) (kd : Int32), kd = (if nI c = 59 then 9 else 8) → mj_sg (mj_Mt gT (law_cst xs) gnw (l + 6)) (law_cst xs) gnw (mj_hd (mj_off kO_Reader_bound) kH_Reader_bound) kC_Reader_bound J Q (F + 100) false 14 [some (.ref 10), some (.int (nI c)), some (.int (nI d)), some (.int kd), none, none] [.int (nI (tn t))] (rdW o0 (tAdd t kd 0 (nI a)) X len a tl, b0 + 1, b1, op) := by
    intro F kd hkd
    rw [← hkd] at hQ
    have ht1 : tOK (tAdd t kd 0 (nI a)) := tOK_add ht (by omega) (fun h => by rw [h] at hkd; split at hkd <;> exact absurd hkd (by decide))
    unfold pBou at hQ
    have nd : ∀ z : Int32, z = nI (a + 1) → ∀ (Q' : mj_R → Prop), (tx (a + 1) = 32 → Q' (.inl none, (rdW o0 (tAdd t kd 0 (nI a)) X len (a + 1 + 1) tl, b0 + 1, b1, op))) → (¬ tx (a + 1) = 32 → Q' (.inr 0, (rdW o0 (tAdd t kd 0 (nI a)) X len (a + 1) tl, b0, b1 - 6, false))) → mj_Mt gT (law_cst xs) gnw (l + 6) y_Reader_need [.ref 10, .int (nI 32)] (rdX o0 (tAdd t kd 0 (nI a)) X len z tl, b0 + 1, b1, op) Q' := by
      rintro z rfl Q' q1 q2
      exact q_need (c := 32) rfl hx (by omega) (by decide) h6 q1 q2
    refine nd _ (nI_1 a) _ (fun h => ?_) (fun h => ?_)
    · rw [if_pos h] at hQ
      have h1 := hx.lt (a := a + 1) (by omega)
      have hgd := hg (a + 1 + 1) _ ht1 (by rw [tn_add]; omega) (by omega)
      rw [tn_add] at hgd
      refine H1 (l + 6) (a + 1 + 1) _ _ _ rfl (by omega) ht1 (by rw [tn_add]; omega) (by omega) ?_
      generalize pe (a + 1 + 1) (tAdd t kd 0 (nI a)) = r at hgd hQ
      rcases r with ⟨c2, a2, t2⟩ | ⟨a2, t2⟩
      · obtain ⟨rfl, g1, g2, g3, g4⟩ := hgd
        have ht2 : tOK (tPart t2 (tn t) (tn t + 1)) := tOK_part g1 (by omega)
        have hQ : rq Q o0 X len tl b0 b1 op (if tx a2 = 32 then _ else _) := hQ
        refine t_addPart g1 (by omega) ?_
        refine q_need (c := 32) rfl hx (by omega) (by decide) h6 (fun h4 => ?_) (fun h4 => ?_)
        · rw [if_pos h4] at hQ
          have h5 := hx.lt (a := a2) (by omega)
          have hgb := g_bind (pf := pFun tx pe3 (d + 2)) hx hg2 (fun a t q1 q2 q3 => g_fun hx hg3 q1 q2 q3) (d := d) (n := tn t) (a := a2 + 1) ht2 (by rw [tn_part]; omega) (by omega)
          rw [tn_part] at hgb
          refine q_bind (l := l + 5) rfl rfl hx ht2 (by rw [tn_part]; omega) (by rw [tn_part]; omega) (by omega) hd h6 H2 H3 (by omega) (by omega) hg2 hg3 ?_
          generalize pBind tx pe2 (pFun tx pe3 (d + 2)) d (tn t) (a2 + 1) (tPart t2 (tn t) (tn t + 1)) = r2 at hgb hQ
          rcases r2 with ⟨a4, t4⟩ | ⟨a4, t4⟩
          · obtain ⟨g5, g6, g7, g8⟩ := hgb
            rw [hkd]
            exact q_bsLoop (w := .null) hJ hx hd h6 H2 H3 (by omega) (by omega) hg2 hg3 2 1 a4 t4 _ rfl rfl g5 (by omega) g7 g8 hQ
          · exact hQ
        · rw [if_neg h4] at hQ
          exact hQ
      · exact hQ
    · rw [if_neg h] at hQ
      exact hQ
  refine hJ _ _ _ _ ?_
  refine And.intro (fun g => ?_) (fun g => ?_)
  · refine t_add (k := 8) (v := 0) (by omega) ?_
    exact go _ 8 (by rw [if_neg (show ¬ nI c = 59 from g)])
  · refine t_add (k := 9) (v := 0) (by omega) ?_
    exact go _ 9 (by rw [if_pos (show nI c = 59 from g)])
theorem q_call {l d : Nat} {y : Int32} (hy : y = nI d) (hx : txOK X len tx) (ht : tOK t) (hn : tn t + 1 ≤ a) (hl : a ≤ len) (h6 : 6 ≤ b1) {pe : Nat → tS → PR} {lv : Nat} (H1 : HE xs o0 X len tl b0 b1 op y_Reader_expression lv pe d) (hlv : lv ≤ l) (h3 : 3 ≤ l) (hg : GE len pe) (hQ : rq Q o0 X len tl b0 b1 op (pCall tx pe a t)) : mj_Mt gT (law_cst xs) gnw (l + 1) y_Reader_call [.ref 10, .int y] (rdW o0 t X len a tl, b0 + 1, b1, op) Q := by
  subst hy
  obtain ⟨l, rfl⟩ : ∃ l', l = l' + 3 := ⟨l - 3, by omega⟩
  have h96 := hx.1
  have ht1 : tOK (tAdd t 11 0 (nI a)) := tOK_add ht (by omega)
  unfold pCall at hQ
  intro J hJ
  refine hJ _ _ _ _ ?_
  refine t_add (k := 11) (v := 0) (by omega) ?_
  have hgd := hg a _ ht1 (by rw [tn_add]; omega) hl
  rw [tn_add] at hgd
  refine H1 (l + 3) a _ _ _ rfl hlv ht1 (by rw [tn_add]; omega) hl ?_
  generalize pe a (tAdd t 11 0 (nI a)) = r at hgd hQ
  rcases r with ⟨c, a2, t2⟩ | ⟨a2, t2⟩
  · obtain ⟨rfl, g1, g2, g3, g4⟩ := hgd
    refine t_addPart g1 (by omega) ?_
    exact q_callLoop hJ hx h6 H1 rfl hlv (by omega) hg 3 0 a2 _ _ rfl rfl (tOK_part g1 (by omega)) (by rw [tn_part]; omega) (by rw [tn_part]; exact g3) g4 hQ
  · exact hQ
theorem q_operands {h : mj_H} {o : Nat} {y : Int32} (hy : y = nI o) (ho : o < 1000) (hQ : Q (.inl (some (.int (nI (opN o)))), h)) : mj_Mt gT (law_cst xs) gnw (m + 1) y_Op_operands [.int y] h Q := by
  subst hy
  unfold opN at hQ
  intro J hJ
  refine hJ _ _ _ _ ?_
  refine And.intro (fun g => ?_) (fun g => ?_)
  · have h8 : ¬ o = 8 := fun e => g (by rw [e]; rfl)
    rw [if_neg h8] at hQ
    refine And.intro (fun (g2 : nI 12 < nI o) => ?_) (fun (g2 : ¬ nI 12 < nI o) => ?_)
    · have := (nI_ltI (by decide) (by omega)).mp g2
      rw [if_neg (by omega)] at hQ
      exact hQ
    · have : ¬ 12 < o := fun e => g2 (nI_lt e (by omega))
      rw [if_pos (by omega)] at hQ
      exact hQ
  · have h8 : o = 8 := (nI_eq (a := o) (b := 8) (by omega) (by decide)).mp g
    rw [if_pos h8] at hQ
    exact hQ
theorem q_argLoop {l d n o : Nat} {J : Nat → mj_L → List Value → mj_H → Prop} (hJ : ∀ pc ls st h, mj_sg (mj_Mt gT (law_cst xs) gnw l) (law_cst xs) gnw (mj_hd (mj_off kO_Reader_operation) kH_Reader_operation) kC_Reader_operation J Q 400 true pc ls st h → J pc ls st h) (ho : o < 1000) (hx : txOK X len tx) (h6 : 6 ≤ b1) {pe : Nat → tS → PR} {lv : Nat} (H1 : HE xs o0 X len tl b0 b1 op y_Reader_expression lv pe d) (hlv : lv ≤ l) (h3 : 3 ≤ l) (hg : GE len pe) :
    ∀ (k i a : Nat) (t : tS) (x : Int32), k + i = opN o → x = nI i → tOK t → n < tn t → tn t ≤ a → a ≤ len → rq Q o0 X len tl b0 b1 op (pArgs tx pe n k a t) → J 16 [some (.ref 10), some (.int (nI o)), some (.int (nI d)), some (.int (nI n)), some (.int x)] [] (rdW o0 t X len a tl, b0 + 1, b1, op) := by
  obtain ⟨l, rfl⟩ : ∃ l', l = l' + 3 := ⟨l - 3, by omega⟩
  have h96 := hx.1
  have hon : opN o ≤ 3 := by
    unfold opN
    split
    · omega
    · split <;> omega
  intro k
  induction k with
  | zero =>
    intro i a t x hi hxi ht hn ha hl hQ
    subst hxi
    refine hJ _ _ _ _ ?_
    refine q_operands rfl ho ?_
    refine And.intro (fun _ => ?_) (fun g => absurd (nI_le (a := opN o) (b := i) (by omega) (by omega)) g)
    unfold pArgs pClose at hQ
    refine q_need (c := 41) rfl hx (by omega) (by decide) h6 (fun h => ?_) (fun h => ?_)
    · rw [if_pos h] at hQ
      exact hQ
    · rw [if_neg h] at hQ
      exact hQ
  | succ k ih =>
    intro i a t x hi hxi ht hn ha hl hQ
    subst hxi
    refine hJ _ _ _ _ ?_
    refine q_operands rfl ho ?_
    refine And.intro (fun g => absurd g (nI_ge (a := i) (b := opN o) (by omega) (by omega))) (fun _ => ?_)
    unfold pArgs at hQ
    refine q_need (c := 32) rfl hx (by omega) (by decide) h6 (fun h => ?_) (fun h => ?_)
    · rw [if_pos h] at hQ
      have h1 := hx.lt (a := a) (by omega)
      have hgd := hg (a + 1) t ht (by omega) (by omega)
      refine H1 (l + 3) (a + 1) t _ _ rfl hlv ht (by omega) (by omega) ?_
      generalize pe (a + 1) t = r at hgd hQ
      rcases r with ⟨c, a2, t2⟩ | ⟨a2, t2⟩
      · obtain ⟨rfl, g1, g2, g3, g4⟩ := hgd
        refine t_addPart g1 (by omega) ?_
        exact ih (i + 1) a2 _ _ (by omega) (nI_1 i) (tOK_part g1 (by omega)) (by rw [tn_part]; omega) (by rw [tn_part]; exact g3) g4 hQ
      · exact hQ
    · rw [if_neg h] at hQ
      exact hQ
theorem q_op {l d o : Nat} {y z : Int32} (hy : y = nI o) (hz : z = nI d) (ho : o < 1000) (hx : txOK X len tx) (ht : tOK t) (hn : tn t + 1 ≤ a) (hl : a < len) (h6 : 6 ≤ b1) {pe : Nat → tS → PR} {lv : Nat} (H1 : HE xs o0 X len tl b0 b1 op y_Reader_expression lv pe d) (hlv : lv ≤ l) (h3 : 3 ≤ l) (hg : GE len pe) (hQ : rq Q o0 X len tl b0 b1 op (pOp tx pe o a t)) : mj_Mt gT (law_cst xs) gnw (l + 1) y_Reader_operation [.ref 10, .int y, .int z] (rdW o0 t X len a tl, b0 + 1, b1, op) Q := by
  subst hy
  subst hz
  have h96 := hx.1
  have ht1 : tOK (tAdd t 5 (nI o) (nI a)) := tOK_add ht (by omega)
  unfold pOp at hQ
  obtain ⟨l, rfl⟩ : ∃ l', l = l' + 3 := ⟨l - 3, by omega⟩
  intro J hJ
  refine hJ _ _ _ _ ?_
  refine t_add (k := 5) (by omega) ?_
  have key : ∀ z : Int32, z = nI (a + 1) → J 16 [some (.ref 10), some (.int (nI o)), some (.int (nI d)), some (.int (nI (tn t))), some (.int 0)] [] (rdX o0 (tAdd t 5 (nI o) (nI a)) X len z tl, b0 + 1, b1, op) := by
    rintro z rfl
    exact q_argLoop hJ ho hx h6 H1 hlv (by omega) hg (opN o) 0 (a + 1) _ _ rfl rfl ht1 (by rw [tn_add]; omega) (by rw [tn_add]; omega) (by omega) hQ
  exact key _ (nI_1 a)
end P2i
