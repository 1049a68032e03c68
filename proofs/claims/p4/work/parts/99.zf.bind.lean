section ZF
variable {tx : Nat → Nat} {X : Nat → Int32} {len z d : Nat}
theorem BP_of {D c : Nat} {p : Int32} {τ : Tau} {t : tS} {n : Nat} (h : NODE 10 (nI c) p [XP z D τ] t n) : BP z D c τ t n := by
  obtain ⟨h1, ⟨-, h2, -⟩, -, cs, c1, c2⟩ := h
  refine ⟨h1, h2, ?_⟩
  cases cs with
  | nil => exact absurd c2 id
  | cons j cs => exact ⟨j, c1.1, c2.1.2⟩
def AB (t0 : tS) (n z D len : Nat) (kd p : Int32) (h0 : Kd) (ks : List Kd) (ls : List Nat) (x : Nat) (G : (Tau → Nat → GR) → GR) (w : Nat) : PU → Prop
  | .inr (e, _) => ∀ ct, G ct = .inr e
  | .inl (a', t') => ∃ τ, (∀ ct, G ct = ct τ a') ∧ OpQ t0 t' n kd 0 p (XP z w h0.1 :: BPs z D (ks ++ [(τ, nI x)]) (ls ++ [x])) ∧ tOK t' ∧ tn t' ≤ a' ∧ a' ≤ len ∧ x < 256
theorem al_bind (hx : txOK X len tx) {pe pf : Nat → tS → PR} {ge : Nat → GR} {rc : Bool} (hd : d + 1 ≤ 9) (hg : GE len pe) (hgf : ∀ a t, tOK t → tn t + 1 ≤ a → a ≤ len → gd len (tn t) (pf a t)) (hp : d + 1 < 9 → AE len z (d + 2) pe ge) (hfN : ∀ a t, ¬ tx a = 92 → ∃ t', pf a t = .inr (a, t')) (hfR : ∀ a t, tx a = 40 → tx (a + 1) = 92 → d + 2 < 9 → tOK t → tn t + 1 ≤ a + 1 → a + 1 ≤ len → AL z (d + 2) t (ge a) (pf (a + 1) t))
    {t0 t : tS} {n a : Nat} {p : Int32} {h0 : Kd} {ks : List Kd} {ls : List Nat} (hO : OpQ t0 t n (if rc = true then 9 else 8) 0 p (XP z (d + 1) h0.1 :: BPs z (d + 2) ks ls)) (hl : ks.length = ls.length) (hk : ls.length ≤ 2) (hls : ∀ y ∈ ls, y < 256) (ht : tOK t) (h1 : tn t ≤ a) (h2 : a ≤ len) :
    AB t0 n z (d + 2) len (if rc = true then 9 else 8) p h0 ks ls (tx (a + 1)) (fun ct => gB1 tx ge rc (d + 1) a ls ct) (d + 1) (pBind tx pe pf (d + 1) n a t) := by
  have h96 := hx.1
  have hcur := opq_cur hO ht.1
  have hn := hO.2.1
  have hltr := (bnd (g := 11) (δ := 0) hl hcur (by omega) (Nat.zero_le _) (by omega)).2.1
  have h256 := hx.le (a + 1)
  have hpl : tPl t (nI (tx (a + 1))) 96 (tPt t 1 (tEn t (tF t) (some n))) = none ↔ ¬ tx (a + 1) ∈ ls := by
    rw [show tPt t 1 (tEn t (tF t) (some n)) = dPt t 1 (some n) from rfl, tPl_plc (by omega) ls _ 96 hltr hls (by omega)]
    exact plc_none ls 0
  have hgb := g_bind hx hg hgf (d := d + 1) (n := n) (a := a) ht h1 h2
  unfold pBind at hgb ⊢
  by_cases e40 : tx a = 40 ∧ d + 1 < 9
  rotate_left
  · have n40 : ¬ (d + 1 < 9 ∧ tx a = 40) := fun q => e40 ⟨q.2, q.1⟩
    rw [if_neg n40]
    intro ct
    show gB1 tx ge rc (d + 1) a ls ct = .inr a
    unfold gB1
    rw [if_neg e40]
  have hlt := hx.lt (a := a) (by omega)
  have c40 : d + 1 < 9 ∧ tx a = 40 := ⟨e40.2, e40.1⟩
  rw [if_pos c40] at hgb ⊢
  by_cases eL : cL (tx (a + 1)) = true ∧ ¬ tx (a + 1) ∈ ls
  rotate_left
  · have nL : ¬ (cL (tx (a + 1)) = true ∧ tPl t (nI (tx (a + 1))) 96 (tPt t 1 (tEn t (tF t) (some n))) = none) := fun q => eL ⟨q.1, hpl.mp q.2⟩
    rw [if_neg nL]
    intro ct
    show gB1 tx ge rc (d + 1) a ls ct = .inr (a + 1)
    unfold gB1
    rw [if_pos e40, if_neg eL]
  have hlt1 := hx.lt (cL_ne eL.1)
  have c41 : cL (tx (a + 1)) = true ∧ tPl t (nI (tx (a + 1))) 96 (tPt t 1 (tEn t (tF t) (some n))) = none := ⟨eL.1, hpl.mpr eL.2⟩
  rw [if_pos c41] at hgb ⊢
  by_cases e32 : tx (a + 1 + 1) = 32
  rotate_left
  · rw [if_neg e32]
    intro ct
    show gB1 tx ge rc (d + 1) a ls ct = .inr (a + 1 + 1)
    unfold gB1
    rw [if_pos e40, if_pos eL, if_neg e32]
  have hlt2 := hx.lt (a := a + 1 + 1) (by omega)
  rw [if_pos e32] at hgb ⊢
  have ht1 : tOK (tAdd t 10 (nI (tx (a + 1))) (nI (a + 1))) := tOK_add ht (by omega)
  have hv : (∃ e t', pBv tx pe pf (d + 1) n (a + 1 + 1 + 1) (tAdd t 10 (nI (tx (a + 1))) (nI (a + 1))) = .inr (e, t') ∧ ∀ ct, gB1 tx ge rc (d + 1) a ls ct = .inr e) ∨ (∃ c a2 t2 τ, pBv tx pe pf (d + 1) n (a + 1 + 1 + 1) (tAdd t 10 (nI (tx (a + 1))) (nI (a + 1))) = .inl (c, a2, t2) ∧ (∀ ct, gB1 tx ge rc (d + 1) a ls ct = if tx a2 = 41 then ct τ (a2 + 1) else .inr a2) ∧ WR (tAdd t 10 (nI (tx (a + 1))) (nI (a + 1))) (XP z (d + 2) τ) c t2) := by
    have ek : tEi (tAdd t 10 (nI (tx (a + 1))) (nI (a + 1))) (tK (tAdd t 10 (nI (tx (a + 1))) (nI (a + 1)))) (some n) = if rc = true then 9 else 8 := by
      have e1 : tEi (tAdd t 10 (nI (tx (a + 1))) (nI (a + 1))) (tK (tAdd t 10 (nI (tx (a + 1))) (nI (a + 1)))) (some n) = upd (tK t) (tn t) 10 n := if_pos (show n < tn t + 1 by omega)
      rw [e1]
      exact (if_neg (by omega)).trans hO.2.2.1.1
    have gb : ∀ ct, gB1 tx ge rc (d + 1) a ls ct = (if rc = true ∧ ¬ (tx (a + 1 + 1 + 1) = 40 ∧ d + 1 + 1 < 9) then .inr (a + 1 + 1 + 1) else if rc = true ∧ ¬ tx (a + 1 + 1 + 1 + 1) = 92 then .inr (a + 1 + 1 + 1 + 1) else match ge (a + 1 + 1 + 1) with | .inr e => .inr e | .inl (t, a3) => if tx a3 = 41 then ct t (a3 + 1) else .inr a3) := by
      intro ct
      unfold gB1
      rw [if_pos e40, if_pos eL, if_pos e32]
      rfl
    have both : ∀ r : PR, AL z (d + 2) (tAdd t 10 (nI (tx (a + 1))) (nI (a + 1))) (ge (a + 1 + 1 + 1)) r → (∀ ct, gB1 tx ge rc (d + 1) a ls ct = match ge (a + 1 + 1 + 1) with | .inr e => .inr e | .inl (t, a3) => if tx a3 = 41 then ct t (a3 + 1) else .inr a3) → (∃ e t', r = .inr (e, t') ∧ ∀ ct, gB1 tx ge rc (d + 1) a ls ct = .inr e) ∨ (∃ c a2 t2 τ, r = .inl (c, a2, t2) ∧ (∀ ct, gB1 tx ge rc (d + 1) a ls ct = if tx a2 = 41 then ct τ (a2 + 1) else .inr a2) ∧ WR (tAdd t 10 (nI (tx (a + 1))) (nI (a + 1))) (XP z (d + 2) τ) c t2) := by
      intro r hr hgr
      rcases r with ⟨c, a2, t2⟩ | ⟨e, t2⟩
      · obtain ⟨τ, q1, q2⟩ := hr
        refine Or.inr ⟨c, a2, t2, τ, rfl, fun ct => ?_, q2⟩
        rw [hgr ct, q1]
      · have hr : ge (a + 1 + 1 + 1) = .inr e := hr
        refine Or.inl ⟨e, t2, rfl, fun ct => ?_⟩
        rw [hgr ct, hr]
    unfold pBv
    rw [ek]
    cases rc with
    | false =>
      rw [if_neg (show ¬ (if false = true then (9 : Int32) else 8) = 9 by decide)]
      refine both _ (hp e40.2 _ _ ht1 (by rw [tn_add]; omega) (by omega)) (fun ct => ?_)
      rw [gb ct, if_neg (fun q => absurd q.1 (by decide)), if_neg (fun q => absurd q.1 (by decide))]
    | true =>
      rw [if_pos (show (if true = true then (9 : Int32) else 8) = 9 by decide)]
      by_cases e4 : tx (a + 1 + 1 + 1) = 40 ∧ d + 1 + 1 < 9
      · have hlt3 := hx.lt (a := a + 1 + 1 + 1) (by omega)
        rw [if_pos ⟨e4.2, e4.1⟩]
        by_cases e92 : tx (a + 1 + 1 + 1 + 1) = 92
        · refine both _ (hfR _ _ e4.1 e92 (by omega) ht1 (by rw [tn_add]; omega) (by omega)) (fun ct => ?_)
          rw [gb ct, if_neg (fun q => q.2 e4), if_neg (fun q => q.2 e92)]
        · obtain ⟨t', et⟩ := hfN (a + 1 + 1 + 1 + 1) (tAdd t 10 (nI (tx (a + 1))) (nI (a + 1))) e92
          refine Or.inl ⟨_, t', et, fun ct => ?_⟩
          rw [gb ct, if_neg (fun q => q.2 e4), if_pos ⟨rfl, e92⟩]
      · rw [if_neg (fun q => e4 ⟨q.2, q.1⟩)]
        refine Or.inl ⟨_, _, rfl, fun ct => ?_⟩
        rw [gb ct, if_pos ⟨rfl, e4⟩]
  rcases hv with ⟨e, t', v1, v2⟩ | ⟨c, a2, t2, τ, v1, v2, v3⟩
  · rw [v1]
    exact v2
  · rw [v1] at hgb ⊢
    have hO1 : OpQ t (tPart t2 (tn t) c) (tn t) 10 (nI (tx (a + 1))) (nI (a + 1)) [XP z (d + 2) τ] := opq_part opq_new v3
    show AB t0 n z (d + 2) len _ p h0 ks ls (tx (a + 1)) _ (d + 1) (if tx a2 = 41 then .inl (a2 + 1, tPart (tPart t2 (tn t) c) n (tn t)) else .inr (a2, tPart t2 (tn t) c))
    have hgb : gu len (tn t) (if tx a2 = 41 then .inl (a2 + 1, tPart (tPart t2 (tn t) c) n (tn t)) else .inr (a2, tPart t2 (tn t) c)) := hgb
    by_cases e41 : tx a2 = 41
    · rw [if_pos e41] at hgb ⊢
      obtain ⟨g1, g2, g3, g4⟩ := hgb
      have h2n : tn (tPart t2 (tn t) c) ≤ 96 := by
        have := g1.1
        rw [tn_part] at this
        exact this
      have hw : WR t (BP z (d + 2) (tx (a + 1)) τ) (tn t) (tPart t2 (tn t) c) := opq_done hO1 h2n (fun t' hN => BP_of hN)
      have hO2 := opq_part hO hw
      rw [List.cons_append, ← BPs_app (k := (τ, nI (tx (a + 1)))) hl] at hO2
      exact ⟨τ, fun ct => by show gB1 tx ge rc (d + 1) a ls ct = _; rw [v2 ct, if_pos e41], hO2, g1, g3, g4, by omega⟩
    · rw [if_neg e41]
      intro ct
      show gB1 tx ge rc (d + 1) a ls ct = _
      rw [v2 ct, if_neg e41]
theorem al_bi (hx : txOK X len tx) {pe pf : Nat → tS → PR} {ge : Nat → GR} {rc : Bool} (hd : d + 1 ≤ 9) (hg : GE len pe) (hgf : ∀ a t, tOK t → tn t + 1 ≤ a → a ≤ len → gd len (tn t) (pf a t)) (hp : d + 1 < 9 → AE len z (d + 2) pe ge) (hfN : ∀ a t, ¬ tx a = 92 → ∃ t', pf a t = .inr (a, t')) (hfR : ∀ a t, tx a = 40 → tx (a + 1) = 92 → d + 2 < 9 → tOK t → tn t + 1 ≤ a + 1 → a + 1 ≤ len → AL z (d + 2) t (ge a) (pf (a + 1) t))
    {t0 : tS} {n : Nat} {p : Int32} {h0 : Kd} : ∀ (k a : Nat) (t : tS) (ks : List Kd) (ls : List Nat), ls.length + k = 2 → OpQ t0 t n (if rc = true then 9 else 8) 0 p (XP z (d + 1) h0.1 :: BPs z (d + 2) ks ls) → ks.length = ls.length → (∀ y ∈ ls, y < 256) → tOK t → tn t ≤ a → a ≤ len →
      AL z d t0 (gBi tx ge rc (d + 1) (fun ks ls => if rc = true then reT h0 ks ls else leT h0 ks ls) k a ks ls) (match pBind tx pe pf (d + 1) n a t with
        | .inr e => .inr e
        | .inl (a2, t2) => pBs tx (pBind tx pe pf (d + 1) n) n k a2 t2) := by
  have done : ∀ (a : Nat) (t : tS) (ks : List Kd) (ls : List Nat), OpQ t0 t n (if rc = true then 9 else 8) 0 p (XP z (d + 1) h0.1 :: BPs z (d + 2) ks ls) → ks.length = ls.length → ls.length ≤ 3 → (∀ y ∈ ls, y < 256) → tOK t → AL z d t0 (gCl tx (if rc = true then reT h0 ks ls else leT h0 ks ls) a) (pClose tx n a t) := by
    intro a t ks ls hO hl h3 hls ht
    refine al_close hO ht.1 (fun t' hN => ?_)
    cases rc with
    | false => exact E_let hd (by omega) hl h3 hls hN
    | true => exact E_rec hd (by omega) hl h3 hls hN
  intro k
  induction k with
  | zero =>
    intro a t ks ls hk hO hl hls ht h1 h2
    have hb := al_bind hx hd hg hgf hp hfN hfR hO hl (by omega) hls ht h1 h2
    unfold gBi
    generalize pBind tx pe pf (d + 1) n a t = r at hb
    rcases r with ⟨a2, t2⟩ | ⟨e, t2⟩
    · obtain ⟨τ, q1, q2, q3, q4, q5, q6⟩ := hb
      have q1 := q1 (fun t a4 => gCl tx (if rc = true then reT h0 (ks ++ [(t, nI (tx (a + 1)))]) (ls ++ [tx (a + 1)]) else leT h0 (ks ++ [(t, nI (tx (a + 1)))]) (ls ++ [tx (a + 1)])) a4)
      have q1 : gB1 tx ge rc (d + 1) a ls (fun t a4 => gCl tx (if rc = true then reT h0 (ks ++ [(t, nI (tx (a + 1)))]) (ls ++ [tx (a + 1)]) else leT h0 (ks ++ [(t, nI (tx (a + 1)))]) (ls ++ [tx (a + 1)])) a4) = gCl tx (if rc = true then reT h0 (ks ++ [(τ, nI (tx (a + 1)))]) (ls ++ [tx (a + 1)]) else leT h0 (ks ++ [(τ, nI (tx (a + 1)))]) (ls ++ [tx (a + 1)])) a2 := q1
      rw [q1]
      refine done a2 t2 _ _ q2 ?_ ?_ ?_ q3
      · rw [List.length_append, List.length_append, hl]
        rfl
      · rw [List.length_append]
        show ls.length + 1 ≤ 3
        omega
      · intro y hy
        rcases List.mem_append.mp hy with w | w
        · exact hls y w
        · rw [List.mem_singleton.mp w]
          exact q6
    · have q1 := hb (fun t a4 => gCl tx (if rc = true then reT h0 (ks ++ [(t, nI (tx (a + 1)))]) (ls ++ [tx (a + 1)]) else leT h0 (ks ++ [(t, nI (tx (a + 1)))]) (ls ++ [tx (a + 1)])) a4)
      exact q1
  | succ k ih =>
    intro a t ks ls hk hO hl hls ht h1 h2
    have hb := al_bind hx hd hg hgf hp hfN hfR hO hl (by omega) hls ht h1 h2
    unfold gBi
    generalize pBind tx pe pf (d + 1) n a t = r at hb
    rcases r with ⟨a2, t2⟩ | ⟨e, t2⟩
    · obtain ⟨τ, q1, q2, q3, q4, q5, q6⟩ := hb
      have q1 := q1 (fun t a4 => if tx a4 = 32 then gBi tx ge rc (d + 1) (fun ks ls => if rc = true then reT h0 ks ls else leT h0 ks ls) k (a4 + 1) (ks ++ [(t, nI (tx (a + 1)))]) (ls ++ [tx (a + 1)]) else gCl tx (if rc = true then reT h0 (ks ++ [(t, nI (tx (a + 1)))]) (ls ++ [tx (a + 1)]) else leT h0 (ks ++ [(t, nI (tx (a + 1)))]) (ls ++ [tx (a + 1)])) a4)
      have q1 : gB1 tx ge rc (d + 1) a ls (fun t a4 => if tx a4 = 32 then gBi tx ge rc (d + 1) (fun ks ls => if rc = true then reT h0 ks ls else leT h0 ks ls) k (a4 + 1) (ks ++ [(t, nI (tx (a + 1)))]) (ls ++ [tx (a + 1)]) else gCl tx (if rc = true then reT h0 (ks ++ [(t, nI (tx (a + 1)))]) (ls ++ [tx (a + 1)]) else leT h0 (ks ++ [(t, nI (tx (a + 1)))]) (ls ++ [tx (a + 1)])) a4) = (if tx a2 = 32 then gBi tx ge rc (d + 1) (fun ks ls => if rc = true then reT h0 ks ls else leT h0 ks ls) k (a2 + 1) (ks ++ [(τ, nI (tx (a + 1)))]) (ls ++ [tx (a + 1)]) else gCl tx (if rc = true then reT h0 (ks ++ [(τ, nI (tx (a + 1)))]) (ls ++ [tx (a + 1)]) else leT h0 (ks ++ [(τ, nI (tx (a + 1)))]) (ls ++ [tx (a + 1)])) a2) := q1
      rw [q1]
      have l1 : (ks ++ [((τ, nI (tx (a + 1))) : Kd)]).length = (ls ++ [tx (a + 1)]).length := by
        rw [List.length_append, List.length_append, hl]
        rfl
      have l2 : (ls ++ [tx (a + 1)]).length = ls.length + 1 := by
        rw [List.length_append]
        rfl
      have l3 : ∀ y ∈ ls ++ [tx (a + 1)], y < 256 := by
        intro y hy
        rcases List.mem_append.mp hy with w | w
        · exact hls y w
        · rw [List.mem_singleton.mp w]
          exact q6
      show AL z d t0 _ (pBs tx (pBind tx pe pf (d + 1) n) n (k + 1) a2 t2)
      unfold pBs
      by_cases e32 : tx a2 = 32
      · have hlt := hx.lt (a := a2) (by omega)
        rw [if_pos e32, if_pos e32]
        exact ih (a2 + 1) t2 _ _ (by omega) q2 l1 l3 q3 (by omega) (by omega)
      · rw [if_neg e32, if_neg e32]
        exact done a2 t2 _ _ q2 l1 (by omega) l3 q3
    · have q1 := hb (fun t a4 => if tx a4 = 32 then gBi tx ge rc (d + 1) (fun ks ls => if rc = true then reT h0 ks ls else leT h0 ks ls) k (a4 + 1) (ks ++ [(t, nI (tx (a + 1)))]) (ls ++ [tx (a + 1)]) else gCl tx (if rc = true then reT h0 (ks ++ [(t, nI (tx (a + 1)))]) (ls ++ [tx (a + 1)]) else leT h0 (ks ++ [(t, nI (tx (a + 1)))]) (ls ++ [tx (a + 1)])) a4)
      exact q1
theorem al_bou (hx : txOK X len tx) {pe pe2 pf : Nat → tS → PR} {ge ge2 : Nat → GR} {rc : Bool} (hd : d + 1 ≤ 9) (hg1 : GE len pe) (hp1 : AE len z (d + 1) pe ge) (hg : GE len pe2) (hgf : ∀ a t, tOK t → tn t + 1 ≤ a → a ≤ len → gd len (tn t) (pf a t)) (hp : d + 1 < 9 → AE len z (d + 2) pe2 ge2) (hfN : ∀ a t, ¬ tx a = 92 → ∃ t', pf a t = .inr (a, t')) (hfR : ∀ a t, tx a = 40 → tx (a + 1) = 92 → d + 2 < 9 → tOK t → tn t + 1 ≤ a + 1 → a + 1 ≤ len → AL z (d + 2) t (ge2 a) (pf (a + 1) t))
    {a : Nat} {t : tS} (h0 : ¬ tx a = 0) (ht : tOK t) (h1 : tn t + 1 ≤ a) (h2 : a ≤ len) : AL z d t (gLe tx ge ge2 rc (d + 1) a) (pBou tx pe (pBind tx pe2 pf (d + 1)) (if rc = true then 9 else 8) a t) := by
  have h96 := hx.1
  have hlt := hx.lt h0
  have ht1 : tOK (tAdd t (if rc = true then 9 else 8) 0 (nI a)) := tOK_add ht (by omega) (fun h => by cases rc <;> exact absurd h (by decide))
  unfold gLe pBou
  by_cases e32 : tx (a + 1) = 32
  · have hlt2 := hx.lt (a := a + 1) (by omega)
    rw [if_pos e32, if_pos e32]
    have ha := hp1 (a + 1 + 1) _ ht1 (by rw [tn_add]; omega) (by omega)
    have hgd := hg1 (a + 1 + 1) _ ht1 (by rw [tn_add]; omega) (by omega)
    rw [tn_add] at hgd
    generalize ge (a + 1 + 1) = G at ha
    generalize pe (a + 1 + 1) (tAdd t (if rc = true then 9 else 8) 0 (nI a)) = r at ha hgd
    rcases r with ⟨c, a2, t2⟩ | ⟨e, t2⟩
    · obtain ⟨τ, rfl, q2⟩ := ha
      obtain ⟨g0, g1, g2, g3, g4⟩ := hgd
      have hO : OpQ t (tPart t2 (tn t) c) (tn t) (if rc = true then 9 else 8) 0 (nI a) (XP z (d + 1) ((τ, 0) : Kd).1 :: BPs z (d + 2) [] []) := opq_part opq_new q2
      have ht2 : tOK (tPart t2 (tn t) c) := tOK_part g1 (by omega)
      show AL z d t (if tx a2 = 32 then gBi tx ge2 rc (d + 1) (fun ks ls => if rc = true then reT (τ, 0) ks ls else leT (τ, 0) ks ls) 2 (a2 + 1) [] [] else .inr a2) (if tx a2 = 32 then (match pBind tx pe2 pf (d + 1) (tn t) (a2 + 1) (tPart t2 (tn t) c) with | .inr e => .inr e | .inl (a4, t4) => pBs tx (pBind tx pe2 pf (d + 1) (tn t)) (tn t) 2 a4 t4) else .inr (a2, tPart t2 (tn t) c))
      by_cases e3 : tx a2 = 32
      · have hlt3 := hx.lt (a := a2) (by omega)
        rw [if_pos e3, if_pos e3]
        exact al_bi hx hd hg hgf hp hfN hfR 2 (a2 + 1) _ [] [] rfl hO rfl (fun y hy => by cases hy) ht2 (by rw [tn_part]; omega) (by omega)
      · rw [if_neg e3, if_neg e3]
        exact rfl
    · have ha : G = .inr e := ha
      subst ha
      exact rfl
  · rw [if_neg e32, if_neg e32]
    exact rfl
theorem gEx_e (tx : Nat → Nat) (f d a : Nat) : gEx tx (f + 1) d a = if cL (tx a) then .inl (fun φ => [(1, 2), (6, lkF (tx a) (uP a) φ 0)], a + 1) else if tx a = 39 then (match gD tx 200 false 0 d (a + 1) with | .inr e => .inr e | .inl (D, a2) => .inl (fun _ => (1, 1) :: D, a2)) else if tx a = 40 then (if d < 9 then gBr tx (gEx tx f (d + 1)) (gEx tx f (d + 2)) (d + 1) (a + 1) else .inr a) else if cD (tx (pA1 tx a)) then .inl (fun _ => [(1, 1), (1, pVal tx a)], (pDg tx 4 (pA1 tx a) 0).1) else .inr (pA1 tx a) := rfl
theorem pEx_e (tx : Nat → Nat) (f d a : Nat) (t : tS) : pEx tx (f + 1) d a t = if tx a = 40 then (if d < 9 then pBra tx (pEx tx f (d + 1)) (pEx tx f (d + 2)) (pEx tx f (d + 3)) (d + 1) (a + 1) t else .inr (a, t)) else if tx a = 39 then (match pDat tx 11 d (a + 1) (tAdd t 4 0 (nI a)) with | .inr e => .inr e | .inl (c, a2, t2) => .inl (tn t, a2, tPart t2 (tn t) c)) else pAtom tx a t := rfl
theorem pFun_no {pe : Nat → tS → PR} {D a : Nat} {t : tS} (h : ¬ tx a = 92) : ∃ t', pFun tx pe D a t = .inr (a, t') := ⟨_, if_neg h⟩
theorem gBr_fun {ge ge2 : Nat → GR} {D a : Nat} (h : tx a = 92) : gBr tx ge ge2 D a = gBo tx ge D a := by
  unfold gBr
  rw [if_neg (fun q => absurd q.1 (by rw [h]; decide)), if_pos h]
theorem al_ex (hx : txOK X len tx) : ∀ (f f' d : Nat), 10 ≤ f + d → 10 ≤ f' + d → d ≤ 9 → AE len z d (pEx tx f d) (gEx tx f' d)
  | 0, f', d, h, _, h9 => by omega
  | f + 1, 0, d, _, h, h9 => by omega
  | f + 1, f' + 1, d, hf, hf', h9 => by
    intro a t ht h1 h2
    have h96 := hx.1
    have h256 := hx.le a
    rw [pEx_e]
    by_cases e40 : tx a = 40
    · have hlt := hx.lt (a := a) (by omega)
      have nL : ¬ cL (tx a) = true := by rw [e40]; decide
      have n39 : ¬ tx a = 39 := by omega
      rw [if_pos e40, gEx_e, if_neg nL, if_neg n39, if_pos e40]
      by_cases hd : d < 9
      · rw [if_pos hd, if_pos hd]
        have A1 := al_ex hx f f' (d + 1) (by omega) (by omega) (by omega)
        have G1 := g_ex hx f (d + 1)
        unfold pBra
        by_cases e92 : tx (a + 1) = 92
        · rw [if_pos e92, gBr_fun e92]
          exact al_fun hx (by omega) G1 A1 e92 ht (by omega) (by omega)
        · rw [if_neg e92]
          by_cases e58 : tx (a + 1) = 58 ∨ tx (a + 1) = 59
          · rw [if_pos e58]
            have har : ¬ (0 < ar (tx (a + 1)) ∧ ¬ (tx (a + 1) = 45 ∧ cD (tx (a + 1 + 1)) = true)) := fun q => by
              rcases e58 with e | e <;> exact absurd q.1 (by rw [e]; decide)
            have eg : gBr tx (gEx tx f' (d + 1)) (gEx tx f' (d + 2)) (d + 1) (a + 1) = gLe tx (gEx tx f' (d + 1)) (gEx tx f' (d + 2)) (decide (tx (a + 1) = 59)) (d + 1) (a + 1) := by
              unfold gBr
              rw [if_neg har, if_neg e92, if_pos e58]
            have ek : (if tx (a + 1) = 59 then (9 : Int32) else 8) = if decide (tx (a + 1) = 59) = true then 9 else 8 := by
              by_cases e : tx (a + 1) = 59
              · rw [if_pos e, if_pos (decide_eq_true e)]
              · rw [if_neg e, if_neg (by simp [e])]
            rw [eg, ek]
            refine al_bou hx (by omega) G1 A1 (g_ex hx f (d + 2)) (fun a t q1 q2 q3 => g_fun hx (g_ex hx f (d + 3)) q1 q2 q3) (fun q => al_ex hx f f' (d + 2) (by omega) (by omega) (by omega)) (fun a t q => pFun_no q) (fun a t q1 q2 q3 q4 q5 q6 => ?_) (by omega) ht (by omega) (by omega)
            obtain ⟨g, rfl⟩ : ∃ g, f' = g + 1 := ⟨f' - 1, by omega⟩
            rw [gEx_br q1 (by omega), gBr_fun q2]
            exact al_fun (d := d + 2) hx (by omega) (g_ex hx f (d + 3)) (al_ex hx f g (d + 3) (by omega) (by omega) (by omega)) q2 q4 (by omega) q6
          · rw [if_neg e58]
            cases ho : opO (tx (a + 1)) with
            | none =>
              have har : ¬ (0 < ar (tx (a + 1)) ∧ ¬ (tx (a + 1) = 45 ∧ cD (tx (a + 1 + 1)) = true)) := fun q => by
                obtain ⟨o, h⟩ := ar_op.mp q.1
                rw [ho] at h
                cases h
              have eg : gBr tx (gEx tx f' (d + 1)) (gEx tx f' (d + 2)) (d + 1) (a + 1) = gCa tx (gEx tx f' (d + 1)) (a + 1) := by
                unfold gBr
                rw [if_neg har, if_neg e92, if_neg e58]
              rw [eg]
              exact al_call hx (by omega) G1 A1 ht (by omega) (by omega)
            | some o =>
              show AL z d t _ (if tx (a + 1) = 45 ∧ cD (tx (a + 1 + 1)) = true then pCall tx (pEx tx f (d + 1)) (a + 1) t else pOp tx (pEx tx f (d + 1)) o (a + 1) t)
              by_cases em : tx (a + 1) = 45 ∧ cD (tx (a + 1 + 1)) = true
              · rw [if_pos em]
                have eg : gBr tx (gEx tx f' (d + 1)) (gEx tx f' (d + 2)) (d + 1) (a + 1) = gCa tx (gEx tx f' (d + 1)) (a + 1) := by
                  unfold gBr
                  rw [if_neg (fun q => q.2 em), if_neg e92, if_neg e58]
                rw [eg]
                exact al_call hx (by omega) G1 A1 ht (by omega) (by omega)
              · rw [if_neg em]
                have eg : gBr tx (gEx tx f' (d + 1)) (gEx tx f' (d + 2)) (d + 1) (a + 1) = gSg tx (gEx tx f' (d + 1)) (a + 1) := by
                  unfold gBr
                  rw [if_pos ⟨ar_op.mpr ⟨o, ho⟩, em⟩]
                rw [eg]
                have h0 : ¬ tx (a + 1) = 0 := fun e => by rw [e, opO_0] at ho; cases ho
                exact al_op hx (by omega) G1 A1 ho ht (by omega) (hx.lt h0)
      · rw [if_neg hd, if_neg hd]
        exact rfl
    · rw [if_neg e40]
      by_cases e39 : tx a = 39
      · have hlt := hx.lt (a := a) (by omega)
        have nL : ¬ cL (tx a) = true := by rw [e39]; decide
        rw [if_pos e39, gEx_e, if_neg nL, if_pos e39]
        have ht1 : tOK (tAdd t 4 0 (nI a)) := tOK_add ht (by omega)
        have ha := al_dat (z := z) hx 11 d (by omega) h9 (a + 1) (tAdd t 4 0 (nI a)) 0 d rfl ht1 (by rw [tn_add]; omega) (by omega) (by rw [tn_add]; omega)
        have hgd := g_dat hx 11 d (a + 1) _ ht1 (by rw [tn_add]; omega) (by omega)
        rw [tn_add] at hgd
        generalize pDat tx 11 d (a + 1) (tAdd t 4 0 (nI a)) = r at ha hgd
        rcases r with ⟨c, a2, t2⟩ | ⟨e, t2⟩
        · obtain ⟨D, q1, q2⟩ := ha
          obtain ⟨g0, g1, g2, g3, g4⟩ := hgd
          have q1 : gD tx 200 false 0 d (a + 1) = .inl (D ++ [], a2) := q1 200 (by omega)
          rw [List.append_nil] at q1
          rw [q1]
          have hO : OpQ t (tPart t2 (tn t) c) (tn t) 4 0 (nI a) [DP z d D] := opq_part opq_new q2
          exact ⟨_, rfl, opq_done hO (tOK_part g1 (by omega)).1 (fun t' hN => E_quo h9 hN)⟩
        · rw [ha 200 (by omega)]
          exact rfl
      · rw [if_neg e39]
        unfold pAtom
        by_cases eL : cL (tx a) = true
        · have hlt := hx.lt (cL_ne eL)
          rw [if_pos eL, gEx_e, if_pos eL]
          exact ⟨_, rfl, opq_done opq_new (by rw [tn_add]; omega) (fun t' hN => E_var h9 (by omega) (by omega) hN)⟩
        · rw [if_neg eL, gEx_e, if_neg eL, if_neg e39, if_neg e40]
          unfold pNum
          by_cases eD : cD (tx (pA1 tx a)) = true
          · obtain ⟨w1, w2, w3⟩ := num_len hx h2 eD
            rw [if_pos eD, if_pos eD]
            exact ⟨_, rfl, opq_done opq_new (by rw [tn_add]; omega) (fun t' hN => E_num h9 hN)⟩
          · rw [if_neg eD, if_neg eD]
            exact rfl
end ZF
