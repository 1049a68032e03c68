section
def chL (nx bo : Nat → Int32) : List Int32 → Int32 → Prop
  | [], x => x = -1
  | b :: bs, x => ∃ i, i < 100 ∧ x = nI i ∧ bo i = b ∧ chL nx bo bs (nx i)
theorem cKL_ch {P : Nat → Nat → Tau → Prop} {nx bo : Nat → Int32} (hP : ∀ i m t, P i m t → i < m) : ∀ (ks : List Kd) (k : Kd) (i l m : Nat), cKL P nx bo (k :: ks) i l m → nx l = -1 → m ≤ 100 → chL nx bo (ks.map (fun k => k.2)) (nx i)
  | [], k, i, l, m, h, hl, hm => by
    obtain ⟨rfl, -⟩ := h
    exact hl
  | k2 :: ks, k, i, l, m, h, hl, hm => by
    obtain ⟨j, h1, h2, h3, h4⟩ := h
    have hj : j < m := by
      have := cKL_lt hP (k2 :: ks) j l m h4
      omega
    refine ⟨j, by omega, h3, ?_, cKL_ch hP ks k2 j l m h4 hl hm⟩
    cases ks with
    | nil => exact h4.2.2
    | cons k3 ks =>
      obtain ⟨j2, -, h5, -⟩ := h4
      exact h5
def gB0 (tx : Nat → Nat) (rc : Bool) (d a : Nat) (bs : List Nat) : Option Nat := if tx a = 40 ∧ d < 9 then
      (if cL (tx (a + 1)) = true ∧ ¬ tx (a + 1) ∈ bs then
        (if tx (a + 1 + 1) = 32 then
          (if rc = true ∧ ¬ (tx (a + 1 + 1 + 1) = 40 ∧ d + 1 < 9) then some (a + 1 + 1 + 1)
          else if rc = true ∧ ¬ tx (a + 1 + 1 + 1 + 1) = 92 then some (a + 1 + 1 + 1 + 1)
          else none)
        else some (a + 1 + 1))
      else some (a + 1))
    else some a
theorem gB1_e (tx : Nat → Nat) (pe : Nat → GR) (rc : Bool) (d a : Nat) (bs : List Nat) (ct : Tau → Nat → GR) : gB1 tx pe rc d a bs ct = match gB0 tx rc d a bs with
    | some e => .inr e
    | none => match pe (a + 1 + 1 + 1) with
      | .inr e => .inr e
      | .inl (t, a3) => if tx a3 = 41 then ct t (a3 + 1) else .inr a3 := by
  unfold gB1 gB0
  split
  · split
    · split
      · split
        · rfl
        · split <;> rfl
      · rfl
    · rfl
  · rfl
def ltR (r : rM) (i : Nat) (x : Int32) : rM := (r.s_letters (upd r.letters i x))
def boR (r : rM) (i : Nat) (x : Int32) : rM := (r.s_bound (upd r.bound i x))
section RD5
variable {cst : Nat → Option (Nat × (Nat → Int32))} {m b0 b1 : Nat} {op : Bool} {tl : List mj_O} {Q : mj_R → Prop} {s : cS} {r : rM} {a d n len : Nat} {tx : Nat → Nat}
set_option maxRecDepth 10000
set_option maxHeartbeats 4000000 in
theorem R_binding {rc : Bool} {i1 : Nat} {bs : List Nat} (hx : txOK r.text len tx) (ht : r.typed = nI len) (ha : a ≤ len) (hd : d ≤ 9) (hn : n < 100) (hk : r.kind n = if rc = true then 7 else 6) (hf1 : r.first n = nI i1) (hi1 : i1 < 100) (hch : chL r.next r.bound (bs.map nI) (r.next i1)) (hbs : ∀ c ∈ bs, c < 256)
    (h1 : gB0 tx rc d a bs = none → Q (.inl (some (.int 1)), (cW s (rW (pdR (ltR r (3 * n) (nI (tx (a + 1)))) (a + 1 + 1 + 1) (d + 1)) tl), b0, b1, op)))
    (h0 : ∀ a' r' d', gB0 tx rc d a bs = some a' → a' ≤ len → kr r r' → Q (.inl (some (.int 0)), (cW s (rW (pdR r' a' d') tl), b0, b1, op))) :
    mj_Mt gT cst gnw (m + 3) y_R_binding [.ref 27, .int (nI n)] (cW s (rW (pdR r a d) tl), b0, b1, op) Q := by
  have h96 := hx.1
  have hin : vp_in (nI n) 100 := vp_in_nI hn (by decide)
  have ekn : (nI n).toNatClampNeg = n := nI_clamp (by omega)
  have e0 : gB0 tx rc d a bs = if tx a = 40 ∧ d < 9 then (if cL (tx (a + 1)) = true ∧ ¬ tx (a + 1) ∈ bs then (if tx (a + 1 + 1) = 32 then (if rc = true ∧ ¬ (tx (a + 1 + 1 + 1) = 40 ∧ d + 1 < 9) then some (a + 1 + 1 + 1) else if rc = true ∧ ¬ tx (a + 1 + 1 + 1 + 1) = 92 then some (a + 1 + 1 + 1 + 1) else none) else some (a + 1 + 1)) else some (a + 1)) else some a := rfl
  rw [e0] at h1 h0
  intro J hJ
  refine hJ _ _ _ _ ?_
  refine R_opens hx ht (by omega) hd (fun e40 h9 => ?_) (fun e => ?_)
  rotate_left
  · rw [if_neg e] at h0
    refine And.intro (fun g => absurd rfl g) (fun _ => ?_)
    exact And.intro (Or.inl rfl) (h0 a r d rfl ha rfl)
  rw [if_pos ⟨e40, h9⟩] at h1 h0
  have hlt := hx.lt (a := a) (by omega)
  have hc1 := hx.le (a + 1)
  refine And.intro (fun _ => ?_) (fun (g : (1 : Int32) = 0) => absurd g (by decide))
  refine R_here0 hx ht (by omega) ?_
  have fin : ∀ (g : Bool) (x4 : Int32), (g = true ↔ (cL (tx (a + 1)) = true ∧ ¬ tx (a + 1) ∈ bs)) → ∀ F : Nat, mj_sg (mj_Mt gT cst gnw (m + 2)) cst gnw (mj_hd (mj_off kO_R_binding) kH_R_binding) kC_R_binding J Q (F + 100) false 40 [some (.ref 27), some (.int (nI n)), some (.int (nI (tx (a + 1)))), some (.int (bI g)), some (.int x4)] [] (cW s (rW (pdR r (a + 1) (d + 1)) tl), b0, b1, op) := by
    intro g x4 hg F
    cases g with
    | false =>
      rw [if_neg (fun w => by have := hg.mpr w; cases this)] at h0
      refine And.intro (fun (w : ¬ bI false = 0) => absurd rfl w) (fun _ => ?_)
      exact And.intro (Or.inl rfl) (h0 (a + 1) r (d + 1) rfl (by omega) rfl)
    | true =>
      have hg := hg.mp rfl
      rw [if_pos hg] at h1 h0
      have hlt2 := hx.lt (a := a + 1) (fun q => by rw [q] at hg; exact absurd hg.1 (by decide))
      refine And.intro (fun _ => ?_) (fun (w : bI true = 0) => absurd w (by decide))
      have i3 : Int32.ofInt 3 * nI n = nI (3 * n) := three_n n
      refine And.intro (show vp_in (Int32.ofInt 3 * nI n) 300 by rw [i3]; exact vp_in_nI (by omega) (by decide)) ?_
      have key : ∀ L : Nat → Int32, L = upd r.letters (3 * n) (nI (tx (a + 1))) → ∀ F : Nat, mj_sg (mj_Mt gT cst gnw (m + 2)) cst gnw (mj_hd (mj_off kO_R_binding) kH_R_binding) kC_R_binding J Q (F + 80) false 51 [some (.ref 27), some (.int (nI n)), some (.int (nI (tx (a + 1)))), some (.int (bI true)), some (.int x4)] [] (cW s (rW ((pdR r (a + 1) (d + 1)).s_letters L) tl), b0, b1, op) := by
        rintro L rfl F
        refine sg_pinc (r := ltR r (3 * n) (nI (tx (a + 1)))) (a := a + 1) (d := d + 1) rfl rfl rfl rfl rfl rfl rfl ?_
        refine R_takes (c := 32) (r := ltR r (3 * n) (nI (tx (a + 1)))) hx ht (by omega) (by decide) (fun e32 => ?_) (fun e32 => ?_)
        rotate_left
        · rw [if_neg e32] at h0
          refine And.intro (fun g => absurd rfl g) (fun _ => ?_)
          exact And.intro (Or.inl rfl) (h0 _ (ltR r (3 * n) (nI (tx (a + 1)))) _ rfl (by omega) rfl)
        rw [if_pos e32] at h1 h0
        have hlt3 := hx.lt (a := a + 1 + 1) (by omega)
        have hc3 := hx.le (a + 1 + 1 + 1)
        have hc4 := hx.le (a + 1 + 1 + 1 + 1)
        refine And.intro (fun _ => ?_) (fun (g : (1 : Int32) = 0) => absurd g (by decide))
        refine And.intro hin ?_
        have ekk : (pdR (ltR r (3 * n) (nI (tx (a + 1)))) (a + 1 + 1 + 1) (d + 1)).kind (nI n).toNatClampNeg = if rc = true then 7 else 6 := by
          rw [ekn]
          exact hk
        rw [ekk]
        cases rc with
        | false =>
          rw [if_neg (fun w => by cases w.1), if_neg (fun w => by cases w.1)] at h1
          refine And.intro (fun _ => ?_) (fun (g : (6 : Int32) = 7) => absurd g (by decide))
          refine And.intro hin ?_
          rw [ekk]
          refine And.intro (fun _ => ?_) (fun (g : ¬ (6 : Int32) = 6) => absurd rfl g)
          exact And.intro (Or.inr rfl) (h1 rfl)
        | true =>
          refine And.intro (fun (g : ¬ (7 : Int32) = 7) => absurd rfl g) (fun _ => ?_)
          refine R_here0 (r := ltR r (3 * n) (nI (tx (a + 1)))) hx ht (by omega) ?_
          have bad : ¬ (tx (a + 1 + 1 + 1) = 40 ∧ d + 1 < 9) → ∀ F : Nat, mj_sg (mj_Mt gT cst gnw (m + 2)) cst gnw (mj_hd (mj_off kO_R_binding) kH_R_binding) kC_R_binding J Q (F + 40) false 91 [some (.ref 27), some (.int (nI n)), some (.int (nI (tx (a + 1)))), some (.int (bI true)), some (.int x4)] [] (cW s (rW (pdR (ltR r (3 * n) (nI (tx (a + 1)))) (a + 1 + 1 + 1) (d + 1)) tl), b0, b1, op) := by
            intro hb F
            rw [if_pos ⟨rfl, hb⟩] at h0
            have h9' := h0 (a + 1 + 1 + 1) (ltR r (3 * n) (nI (tx (a + 1)))) (d + 1) rfl (by omega) rfl
            refine And.intro hin ?_
            rw [ekk]
            refine And.intro (fun (g : (7 : Int32) = 6) => absurd g (by decide)) (fun _ => ?_)
            refine R_here0 (r := ltR r (3 * n) (nI (tx (a + 1)))) hx ht (by omega) ?_
            refine And.intro (fun _ => And.intro (Or.inl rfl) h9') (fun (g2 : nI (tx (a + 1 + 1 + 1)) = 40) => ?_)
            refine And.intro (fun _ => And.intro (Or.inl rfl) h9') (fun (g3 : ¬ (9 : Int32) ≤ nI (d + 1)) => ?_)
            refine absurd ⟨nIj (j := 40) (by omega) (by decide) g2, ?_⟩ hb
            exact Nat.lt_of_not_le (fun w => g3 (nI_le (a := 9) w (by omega)))
          refine And.intro (fun (g2 : ¬ nI (tx (a + 1 + 1 + 1)) = 40) => bad (fun w => g2 (by rw [w.1]; rfl)) _) (fun (g2 : nI (tx (a + 1 + 1 + 1)) = 40) => ?_)
          have e3 : tx (a + 1 + 1 + 1) = 40 := nIj (j := 40) (by omega) (by decide) g2
          refine And.intro (fun (g3 : (9 : Int32) ≤ nI (d + 1)) => bad (fun w => nI_ge (b := 9) w.2 (by decide) g3) _) (fun (g3 : ¬ (9 : Int32) ≤ nI (d + 1)) => ?_)
          have hd1 : d + 1 < 9 := Nat.lt_of_not_le (fun w => g3 (nI_le (a := 9) w (by omega)))
          rw [if_neg (fun w => w.2 ⟨e3, hd1⟩)] at h1 h0
          have hlt4 := hx.lt (a := a + 1 + 1 + 1) (by omega)
          refine R_here (k := 1) (r := ltR r (3 * n) (nI (tx (a + 1)))) hx ht (by omega) ?_
          refine And.intro (fun (g4 : nI (tx (a + 1 + 1 + 1 + 1)) = 92) => ?_) (fun (g4 : ¬ nI (tx (a + 1 + 1 + 1 + 1)) = 92) => ?_)
          · have e4 : tx (a + 1 + 1 + 1 + 1) = 92 := nIj (j := 92) (by omega) (by decide) g4
            rw [if_neg (fun w => w.2 e4)] at h1
            refine And.intro hin ?_
            rw [ekk]
            refine And.intro (fun (g : (7 : Int32) = 6) => absurd g (by decide)) (fun _ => ?_)
            refine R_here0 (r := ltR r (3 * n) (nI (tx (a + 1)))) hx ht (by omega) ?_
            refine And.intro (fun (w : ¬ nI (tx (a + 1 + 1 + 1)) = 40) => absurd g2 w) (fun _ => ?_)
            refine And.intro (fun (w : (9 : Int32) ≤ nI (d + 1)) => absurd w g3) (fun _ => ?_)
            exact And.intro (Or.inr rfl) (h1 rfl)
          · have n4 : ¬ tx (a + 1 + 1 + 1 + 1) = 92 := fun e => g4 (by rw [e]; rfl)
            rw [if_pos ⟨rfl, n4⟩] at h0
            refine sg_pinc (r := ltR r (3 * n) (nI (tx (a + 1)))) (a := a + 1 + 1 + 1) (d := d + 1) rfl rfl rfl rfl rfl rfl rfl ?_
            exact And.intro (Or.inl rfl) (h0 _ (ltR r (3 * n) (nI (tx (a + 1)))) _ rfl (by omega) rfl)
      refine key (upd r.letters (Int32.ofInt 3 * nI n).toNatClampNeg (nI (tx (a + 1)))) ?_ _
      rw [i3, nI_clamp (by omega)]
  have loop : ∀ (bs2 : List Nat) (x : Int32) (g : Bool), chL r.next r.bound (bs2.map nI) x → (∀ c ∈ bs2, c < 256) → ((g = true ∧ ¬ tx (a + 1) ∈ bs2) ↔ (cL (tx (a + 1)) = true ∧ ¬ tx (a + 1) ∈ bs)) → J 20 [some (.ref 27), some (.int (nI n)), some (.int (nI (tx (a + 1)))), some (.int (bI g)), some (.int x)] [] (cW s (rW (pdR r (a + 1) (d + 1)) tl), b0, b1, op) := by
    intro bs2
    induction bs2 with
    | nil =>
      intro x g hc hb hg
      have hc : x = -1 := hc
      subst hc
      refine hJ _ _ _ _ ?_
      refine And.intro (fun _ => ?_) (fun (w : ¬ (-1 : Int32) < 0) => absurd (by decide) w)
      exact fin g (-1) ⟨fun w => hg.mp ⟨w, List.not_mem_nil⟩, fun w => (hg.mpr w).1⟩ _
    | cons b bs2 ih =>
      intro x g hc hb hg
      obtain ⟨i, hi, rfl, hbi, hc2⟩ := hc
      have hii : vp_in (nI i) 100 := vp_in_nI hi (by decide)
      have eki : (nI i).toNatClampNeg = i := nI_clamp (by omega)
      have hb256 := hb b List.mem_cons_self
      have hb2 : ∀ c ∈ bs2, c < 256 := fun c hc => hb c (List.mem_cons_of_mem _ hc)
      refine hJ _ _ _ _ ?_
      refine And.intro (fun (w : nI i < 0) => absurd w (nI_pos (by omega))) (fun _ => ?_)
      have nxt : ∀ (g2 : Bool) (v : Int32), v = bI g2 → ((g2 = true ∧ ¬ tx (a + 1) ∈ bs2) ↔ (cL (tx (a + 1)) = true ∧ ¬ tx (a + 1) ∈ bs)) → ∀ x2 : Int32, x2 = r.next i → J 20 [some (.ref 27), some (.int (nI n)), some (.int (nI (tx (a + 1)))), some (.int v), some (.int x2)] [] (cW s (rW (pdR r (a + 1) (d + 1)) tl), b0, b1, op) := by
        rintro g2 v rfl hg2 x2 rfl
        exact ih _ g2 hc2 hb2 hg2
      cases g with
      | false =>
        refine And.intro (fun _ => ?_) (fun (w : ¬ bI false = 0) => absurd rfl w)
        refine And.intro hii ?_
        refine nxt false 0 rfl ⟨fun w => (by cases w.1), fun w => ?_⟩ _ ?_
        · have := (hg.mpr w).1
          cases this
        · show r.next (nI i).toNatClampNeg = _
          rw [eki]
      | true =>
        refine And.intro (fun (w : bI true = 0) => absurd w (by decide)) (fun _ => ?_)
        refine And.intro hii ?_
        have eb : (pdR r (a + 1) (d + 1)).bound (nI i).toNatClampNeg = nI b := by
          rw [eki]
          exact hbi
        rw [eb]
        refine And.intro (fun (w : nI b = nI (tx (a + 1))) => ?_) (fun (w : ¬ nI b = nI (tx (a + 1))) => ?_)
        · have e := nIj (by omega) (by omega) w
          refine And.intro hii ?_
          refine nxt false 0 rfl ⟨fun w => (by cases w.1), fun w2 => ?_⟩ _ ?_
          · exact absurd (by rw [e]; exact List.mem_cons_self) (hg.mpr w2).2
          · show r.next (nI i).toNatClampNeg = _
            rw [eki]
        · have ne : ¬ tx (a + 1) = b := fun e => w (by rw [e])
          refine And.intro hii ?_
          refine nxt true 1 rfl ⟨fun w => hg.mp ⟨rfl, fun q => ?_⟩, fun w => ⟨rfl, fun q => (hg.mpr w).2 (List.mem_cons_of_mem _ q)⟩⟩ _ ?_
          · rcases List.mem_cons.mp q with q | q
            · exact ne q
            · exact w.2 q
          · show r.next (nI i).toNatClampNeg = _
            rw [eki]
  have st : ∀ (g : Bool), (g = true ↔ cL (tx (a + 1)) = true) → ∀ x : Int32, x = bI g → ∀ F : Nat, mj_sg (mj_Mt gT cst gnw (m + 2)) cst gnw (mj_hd (mj_off kO_R_binding) kH_R_binding) kC_R_binding J Q (F + 60) false 11 [some (.ref 27), some (.int (nI n)), some (.int (nI (tx (a + 1)))), none, none] [.int x] (cW s (rW (pdR r (a + 1) (d + 1)) tl), b0, b1, op) := by
    rintro g hg x rfl F
    refine And.intro hin ?_
    have e1 : (pdR r (a + 1) (d + 1)).first (nI n).toNatClampNeg = nI i1 := by
      rw [ekn]
      exact hf1
    rw [e1]
    refine And.intro (vp_in_nI hi1 (by decide)) ?_
    have key : ∀ x : Int32, x = r.next i1 → J 20 [some (.ref 27), some (.int (nI n)), some (.int (nI (tx (a + 1)))), some (.int (bI g)), some (.int x)] [] (cW s (rW (pdR r (a + 1) (d + 1)) tl), b0, b1, op) := by
      rintro x rfl
      exact loop bs _ g hch hbs ⟨fun w => ⟨hg.mp w.1, w.2⟩, fun w => ⟨hg.mpr w.1, w.2⟩⟩
    refine key _ ?_
    show r.next (nI i1).toNatClampNeg = _
    rw [nI_clamp (by omega)]
  refine R_isLetter (by omega) (fun hc => ?_) (fun hc => ?_)
  · exact st true ⟨fun _ => hc, fun _ => rfl⟩ 1 rfl _
  · exact st false ⟨fun w => (by cases w), fun w => (by rw [hc] at w; cases w)⟩ 0 rfl _
end RD5
end
section
section RD6
variable {cst : Nat → Option (Nat × (Nat → Int32))} {m b0 b1 : Nat} {op : Bool} {tl : List mj_O} {Q : mj_R → Prop} {s : cS} {r : rM} {a d n len : Nat} {tx : Nat → Nat} {J : Nat → mj_L → List Value → mj_H → Prop}
set_option maxRecDepth 10000
theorem G_108 (hx : txOK r.text len tx) (ht : r.typed = nI len) (ha : a ≤ 900) (h1 : tx a = 41 → Q (.inl (some (.int 0)), (cW s (rW (pdR r (a + 1) d) tl), b0, b1, op))) (h0 : ¬ tx a = 41 → Q (.inl (some (.int (-1))), (cW s (rW (pdR r a (d + 1)) tl), b0, b1, op))) (F : Nat) :
    mj_sg (mj_Mt gT cst gnw (m + 3)) cst gnw (mj_hd (mj_off kO_R_goOn) kH_R_goOn) kC_R_goOn J Q (F + 20) false 108 [some (.ref 27), some (.int (nI n))] [] (cW s (rW (pdR r a (d + 1)) tl), b0, b1, op) := by
  refine R_closes hx ht (by omega) (fun e => ?_) (fun e => ?_)
  · refine And.intro (fun (g : (1 : Int32) = 0) => absurd g (by decide)) (fun _ => ?_)
    exact h1 e
  · refine And.intro (fun _ => ?_) (fun g => absurd rfl g)
    exact h0 e
theorem G_43 (hn : n < 100) (h6 : ¬ r.kind n = 6) (h7 : ¬ r.kind n = 7) (hx : txOK r.text len tx) (ht : r.typed = nI len) (ha : a ≤ 900) (h1 : tx a = 41 → Q (.inl (some (.int 0)), (cW s (rW (pdR r (a + 1) d) tl), b0, b1, op))) (h0 : ¬ tx a = 41 → Q (.inl (some (.int (-1))), (cW s (rW (pdR r a (d + 1)) tl), b0, b1, op))) (F : Nat) :
    mj_sg (mj_Mt gT cst gnw (m + 3)) cst gnw (mj_hd (mj_off kO_R_goOn) kH_R_goOn) kC_R_goOn J Q (F + 60) false 43 [some (.ref 27), some (.int (nI n))] [] (cW s (rW (pdR r a (d + 1)) tl), b0, b1, op) := by
  have hin : vp_in (nI n) 100 := vp_in_nI hn (by decide)
  have ekn : (nI n).toNatClampNeg = n := nI_clamp (by omega)
  refine And.intro hin ?_
  rw [ekn]
  refine And.intro (fun (g : r.kind n = 6) => absurd g h6) (fun _ => ?_)
  refine And.intro hin ?_
  rw [ekn]
  refine And.intro (fun _ => ?_) (fun (g : r.kind n = 7) => absurd g h7)
  exact G_108 hx ht ha h1 h0 _
theorem R_go5 (hn : n < 100) (hk : r.kind n = 5) (hx : txOK r.text len tx) (ht : r.typed = nI len) (ha : a ≤ 900) (h1 : tx a = 41 → Q (.inl (some (.int 0)), (cW s (rW (pdR r (a + 1) d) tl), b0, b1, op))) (h0 : ¬ tx a = 41 → Q (.inl (some (.int (-1))), (cW s (rW (pdR r a (d + 1)) tl), b0, b1, op))) :
    mj_Mt gT cst gnw (m + 4) y_R_goOn [.ref 27, .int (nI n)] (cW s (rW (pdR r a (d + 1)) tl), b0, b1, op) Q := by
  have hin : vp_in (nI n) 100 := vp_in_nI hn (by decide)
  have ekn : (nI n).toNatClampNeg = n := nI_clamp (by omega)
  intro J hJ
  refine hJ _ _ _ _ ?_
  refine And.intro hin ?_
  rw [ekn]
  refine And.intro (fun _ => ?_) (fun (g : r.kind n = 3) => absurd (hk.symm.trans g) (by decide))
  refine And.intro hin ?_
  rw [ekn]
  refine And.intro (fun _ => ?_) (fun (g : r.kind n = 4) => absurd (hk.symm.trans g) (by decide))
  exact G_43 hn (by rw [hk]; decide) (by rw [hk]; decide) hx ht ha h1 h0 _
theorem R_go4 {k : Nat} (hn : n < 100) (hk : r.kind n = 4) (hm : r.many n = nI k) (hk10 : k ≤ 10) (hx : txOK r.text len tx) (ht : r.typed = nI len) (ha : a ≤ 900) (hs : k < 4 → tx a = 32 → Q (.inl (some (.int 1)), (cW s (rW (pdR r (a + 1) (d + 1)) tl), b0, b1, op))) (h1 : ¬ (k < 4 ∧ tx a = 32) → tx a = 41 → Q (.inl (some (.int 0)), (cW s (rW (pdR r (a + 1) d) tl), b0, b1, op))) (h0 : ¬ (k < 4 ∧ tx a = 32) → ¬ tx a = 41 → Q (.inl (some (.int (-1))), (cW s (rW (pdR r a (d + 1)) tl), b0, b1, op))) :
    mj_Mt gT cst gnw (m + 4) y_R_goOn [.ref 27, .int (nI n)] (cW s (rW (pdR r a (d + 1)) tl), b0, b1, op) Q := by
  have hin : vp_in (nI n) 100 := vp_in_nI hn (by decide)
  have ekn : (nI n).toNatClampNeg = n := nI_clamp (by omega)
  intro J hJ
  refine hJ _ _ _ _ ?_
  refine And.intro hin ?_
  rw [ekn]
  refine And.intro (fun _ => ?_) (fun (g : r.kind n = 3) => absurd (hk.symm.trans g) (by decide))
  refine And.intro hin ?_
  rw [ekn]
  refine And.intro (fun (g : ¬ r.kind n = 4) => absurd hk g) (fun _ => ?_)
  refine And.intro hin ?_
  rw [ekn]
  refine And.intro (fun (g : (4 : Int32) ≤ r.many n) => ?_) (fun (g : ¬ (4 : Int32) ≤ r.many n) => ?_)
  · rw [hm] at g
    have hk4 : ¬ k < 4 := fun w => nI_ge (b := 4) w (by decide) g
    exact G_43 hn (by rw [hk]; decide) (by rw [hk]; decide) hx ht ha (h1 (fun w => hk4 w.1)) (h0 (fun w => hk4 w.1)) _
  · rw [hm] at g
    have hk4 : k < 4 := Nat.lt_of_not_le (fun w => g (nI_le (a := 4) w (by omega)))
    refine R_takes (c := 32) hx ht (by omega) (by decide) (fun e => ?_) (fun e => ?_)
    · refine And.intro (fun (g : (1 : Int32) = 0) => absurd g (by decide)) (fun _ => ?_)
      exact hs hk4 e
    · refine And.intro (fun _ => ?_) (fun g => absurd rfl g)
      exact G_43 hn (by rw [hk]; decide) (by rw [hk]; decide) hx ht ha (h1 (fun w => e w.2)) (h0 (fun w => e w.2)) _
theorem R_go3 {k c : Nat} (hn : n < 100) (hk : r.kind n = 3) (hv : r.value n = nI c) (hc : c < 256) (hm : r.many n = nI k) (hk10 : k ≤ 10) (hx : txOK r.text len tx) (ht : r.typed = nI len) (ha : a ≤ 900) (hs : k < ar c → tx a = 32 → Q (.inl (some (.int 1)), (cW s (rW (pdR r (a + 1) (d + 1)) tl), b0, b1, op))) (hs0 : k < ar c → ¬ tx a = 32 → Q (.inl (some (.int (-1))), (cW s (rW (pdR r a (d + 1)) tl), b0, b1, op))) (h1 : ¬ k < ar c → tx a = 41 → Q (.inl (some (.int 0)), (cW s (rW (pdR r (a + 1) d) tl), b0, b1, op))) (h0 : ¬ k < ar c → ¬ tx a = 41 → Q (.inl (some (.int (-1))), (cW s (rW (pdR r a (d + 1)) tl), b0, b1, op))) :
    mj_Mt gT cst gnw (m + 4) y_R_goOn [.ref 27, .int (nI n)] (cW s (rW (pdR r a (d + 1)) tl), b0, b1, op) Q := by
  have hin : vp_in (nI n) 100 := vp_in_nI hn (by decide)
  have ekn : (nI n).toNatClampNeg = n := nI_clamp (by omega)
  have ha3 := ar_le c
  intro J hJ
  refine hJ _ _ _ _ ?_
  refine And.intro hin ?_
  rw [ekn]
  refine And.intro (fun (g : ¬ r.kind n = 3) => absurd hk g) (fun _ => ?_)
  refine And.intro hin ?_
  rw [ekn]
  refine And.intro hin ?_
  have key : ∀ x : Int32, x = nI c → ∀ Q' : mj_R → Prop, Q' (.inl (some (.int (nI (ar c)))), (cW s (rW (pdR r a (d + 1)) tl), b0, b1, op)) → mj_Mt gT cst gnw (m + 3) y_R_arity [.int x] (cW s (rW (pdR r a (d + 1)) tl), b0, b1, op) Q' := by
    rintro x rfl Q' h
    exact R_arity (by omega) h
  refine key _ ?_ _ ?_
  · show ((r.value (nI n).toNatClampNeg).toUInt32 % 65536).toInt32 = nI c
    rw [ekn, hv]
    exact (sb_byte c (by omega)).2.1
  refine And.intro (fun (g : nI (ar c) ≤ r.many n) => ?_) (fun (g : ¬ nI (ar c) ≤ r.many n) => ?_)
  · rw [hm] at g
    have hka : ¬ k < ar c := fun w => nI_ge w (by omega) g
    refine And.intro hin ?_
    rw [ekn]
    refine And.intro (fun _ => ?_) (fun (g : r.kind n = 4) => absurd (hk.symm.trans g) (by decide))
    exact G_43 hn (by rw [hk]; decide) (by rw [hk]; decide) hx ht ha (h1 hka) (h0 hka) _
  · rw [hm] at g
    have hka : k < ar c := Nat.lt_of_not_le (fun w => g (nI_le w (by omega)))
    refine R_takes (c := 32) hx ht (by omega) (by decide) (fun e => ?_) (fun e => ?_)
    · refine And.intro (fun (g : (1 : Int32) = 0) => absurd g (by decide)) (fun _ => ?_)
      exact hs hka e
    · refine And.intro (fun _ => ?_) (fun g => absurd rfl g)
      exact hs0 hka e
theorem G_96 {rc : Bool} {i1 : Nat} {bs : List Nat} (hx : txOK r.text len tx) (ht : r.typed = nI len) (ha : a ≤ len) (hd : d ≤ 9) (hn : n < 100) (hk : r.kind n = if rc = true then 7 else 6) (hf1 : r.first n = nI i1) (hi1 : i1 < 100) (hch : chL r.next r.bound (bs.map nI) (r.next i1)) (hbs : ∀ c ∈ bs, c < 256)
    (h1 : tx a = 32 → gB0 tx rc d (a + 1) bs = none → Q (.inl (some (.int 1)), (cW s (rW (pdR (ltR r (3 * n) (nI (tx (a + 1 + 1)))) (a + 1 + 1 + 1 + 1) (d + 1)) tl), b0, b1, op)))
    (h0 : ∀ a' r' d', tx a = 32 → gB0 tx rc d (a + 1) bs = some a' → a' ≤ len → kr r r' → Q (.inl (some (.int (-1))), (cW s (rW (pdR r' a' d') tl), b0, b1, op)))
    (h2 : ¬ tx a = 32 → Q (.inl (some (.int (-1))), (cW s (rW (pdR r a d) tl), b0, b1, op))) (F : Nat) :
    mj_sg (mj_Mt gT cst gnw (m + 3)) cst gnw (mj_hd (mj_off kO_R_goOn) kH_R_goOn) kC_R_goOn J Q (F + 20) false 96 [some (.ref 27), some (.int (nI n))] [] (cW s (rW (pdR r a d) tl), b0, b1, op) := by
  have h96 := hx.1
  refine R_takes (c := 32) hx ht (by omega) (by decide) (fun e => ?_) (fun e => ?_)
  · have hlt := hx.lt (a := a) (by omega)
    refine And.intro (fun (g : (1 : Int32) = 0) => absurd g (by decide)) (fun _ => ?_)
    refine R_binding (rc := rc) (i1 := i1) (bs := bs) hx ht (by omega) hd hn hk hf1 hi1 hch hbs (fun q => ?_) (fun a' r' d' q1 q2 q3 => ?_)
    · refine And.intro (fun (g : (1 : Int32) = 0) => absurd g (by decide)) (fun _ => ?_)
      exact h1 e q
    · refine And.intro (fun _ => ?_) (fun g => absurd rfl g)
      exact h0 a' r' d' e q1 q2 q3
  · refine And.intro (fun _ => ?_) (fun g => absurd rfl g)
    exact h2 e
theorem R_go6a {rc : Bool} {i1 : Nat} (hx : txOK r.text len tx) (ht : r.typed = nI len) (ha : a ≤ len) (hd : d ≤ 9) (hn : n < 100) (hk : r.kind n = if rc = true then 7 else 6) (hm : r.many n = 1) (hf1 : r.first n = nI i1) (hi1 : i1 < 100) (hch : r.next i1 = -1)
    (h1 : tx a = 32 → gB0 tx rc d (a + 1) [] = none → Q (.inl (some (.int 1)), (cW s (rW (pdR (ltR r (3 * n) (nI (tx (a + 1 + 1)))) (a + 1 + 1 + 1 + 1) (d + 1)) tl), b0, b1, op)))
    (h0 : ∀ a' r' d', tx a = 32 → gB0 tx rc d (a + 1) [] = some a' → a' ≤ len → kr r r' → Q (.inl (some (.int (-1))), (cW s (rW (pdR r' a' d') tl), b0, b1, op)))
    (h2 : ¬ tx a = 32 → Q (.inl (some (.int (-1))), (cW s (rW (pdR r a d) tl), b0, b1, op))) :
    mj_Mt gT cst gnw (m + 4) y_R_goOn [.ref 27, .int (nI n)] (cW s (rW (pdR r a d) tl), b0, b1, op) Q := by
  have hin : vp_in (nI n) 100 := vp_in_nI hn (by decide)
  have ekn : (nI n).toNatClampNeg = n := nI_clamp (by omega)
  have hkk : r.kind n = 6 ∨ r.kind n = 7 := by
    cases rc with
    | false => exact Or.inl hk
    | true => exact Or.inr hk
  have n3 : ¬ r.kind n = 3 := by rcases hkk with e | e <;> rw [e] <;> decide
  have n4 : ¬ r.kind n = 4 := by rcases hkk with e | e <;> rw [e] <;> decide
  intro J hJ
  have go : ∀ F : Nat, mj_sg (mj_Mt gT cst gnw (m + 3)) cst gnw (mj_hd (mj_off kO_R_goOn) kH_R_goOn) kC_R_goOn J Q (F + 100) false 55 [some (.ref 27), some (.int (nI n))] [] (cW s (rW (pdR r a d) tl), b0, b1, op) := by
    intro F
    refine And.intro hin ?_
    rw [ekn]
    refine And.intro (fun _ => ?_) (fun (g : ¬ r.many n ≤ 1) => absurd (by rw [hm]; decide) g)
    refine And.intro hin ?_
    rw [ekn]
    refine And.intro (fun _ => ?_) (fun (g : ¬ r.many n = 1) => absurd hm g)
    exact G_96 (rc := rc) (i1 := i1) (bs := []) hx ht ha hd hn hk hf1 hi1 hch (fun c hc => absurd hc List.not_mem_nil) h1 h0 h2 _
  refine hJ _ _ _ _ ?_
  refine And.intro hin ?_
  rw [ekn]
  refine And.intro (fun _ => ?_) (fun (g : r.kind n = 3) => absurd g n3)
  refine And.intro hin ?_
  rw [ekn]
  refine And.intro (fun _ => ?_) (fun (g : r.kind n = 4) => absurd g n4)
  refine And.intro hin ?_
  rw [ekn]
  refine And.intro (fun _ => go _) (fun (g : ¬ r.kind n = 6) => ?_)
  refine And.intro hin ?_
  rw [ekn]
  exact And.intro (fun (g2 : ¬ r.kind n = 7) => (hkk.elim (fun e => absurd e g) (fun e => absurd e g2))) (fun _ => go _)
theorem R_go6b {rc : Bool} {i1 l k : Nat} {bs : List Nat} (hx : txOK r.text len tx) (ht : r.typed = nI len) (ha : a ≤ len) (hd : d + 1 ≤ 9) (hn : n < 100) (hk : r.kind n = if rc = true then 7 else 6) (hm : r.many n = nI k) (hk2 : 2 ≤ k) (hk10 : k ≤ 10) (hf1 : r.first n = nI i1) (hi1 : i1 < 100) (hl : r.last n = nI l) (hl100 : l < 100) (hch : chL r.next (upd r.bound l (r.letters (3 * n))) (bs.map nI) (r.next i1)) (hbs : ∀ c ∈ bs, c < 256)
    (hc0 : ¬ tx a = 41 → Q (.inl (some (.int (-1))), (cW s (rW (pdR (boR r l (r.letters (3 * n))) a (d + 1 + 1)) tl), b0, b1, op)))
    (h1 : tx a = 41 → k < 4 → tx (a + 1) = 32 → gB0 tx rc (d + 1) (a + 1 + 1) bs = none → Q (.inl (some (.int 1)), (cW s (rW (pdR (ltR (boR r l (r.letters (3 * n))) (3 * n) (nI (tx (a + 1 + 1 + 1)))) (a + 1 + 1 + 1 + 1 + 1) (d + 1 + 1)) tl), b0, b1, op)))
    (h0 : ∀ a' r' d', tx a = 41 → k < 4 → tx (a + 1) = 32 → gB0 tx rc (d + 1) (a + 1 + 1) bs = some a' → a' ≤ len → kr r r' → Q (.inl (some (.int (-1))), (cW s (rW (pdR r' a' d') tl), b0, b1, op)))
    (h3 : tx a = 41 → ¬ (k < 4 ∧ tx (a + 1) = 32) → tx (a + 1) = 41 → Q (.inl (some (.int 0)), (cW s (rW (pdR (boR r l (r.letters (3 * n))) (a + 1 + 1) d) tl), b0, b1, op)))
    (h4 : tx a = 41 → ¬ (k < 4 ∧ tx (a + 1) = 32) → ¬ tx (a + 1) = 41 → Q (.inl (some (.int (-1))), (cW s (rW (pdR (boR r l (r.letters (3 * n))) (a + 1) (d + 1)) tl), b0, b1, op))) :
    mj_Mt gT cst gnw (m + 4) y_R_goOn [.ref 27, .int (nI n)] (cW s (rW (pdR r a (d + 1 + 1)) tl), b0, b1, op) Q := by
  have h96 := hx.1
  have hin : vp_in (nI n) 100 := vp_in_nI hn (by decide)
  have ekn : (nI n).toNatClampNeg = n := nI_clamp (by omega)
  have hkk : r.kind n = 6 ∨ r.kind n = 7 := by
    cases rc with
    | false => exact Or.inl hk
    | true => exact Or.inr hk
  have n3 : ¬ r.kind n = 3 := by rcases hkk with e | e <;> rw [e] <;> decide
  have n4 : ¬ r.kind n = 4 := by rcases hkk with e | e <;> rw [e] <;> decide
  have i3 : Int32.ofInt 3 * nI n = nI (3 * n) := three_n n
  intro J hJ
  have go79 : tx a = 41 → ∀ F : Nat, mj_sg (mj_Mt gT cst gnw (m + 3)) cst gnw (mj_hd (mj_off kO_R_goOn) kH_R_goOn) kC_R_goOn J Q (F + 60) false 79 [some (.ref 27), some (.int (nI n))] [] (cW s (rW (pdR (boR r l (r.letters (3 * n))) (a + 1) (d + 1)) tl), b0, b1, op) := by
    intro e41 F
    have hlt := hx.lt (a := a) (by omega)
    have hc1 := hx.le (a + 1)
    refine And.intro hin ?_
    rw [ekn]
    refine And.intro (fun (g : r.many n = 1) => ?_) (fun _ => ?_)
    · rw [hm] at g
      have := nIj (j := 1) (by omega) (by decide) g
      omega
    refine And.intro hin ?_
    rw [ekn]
    refine And.intro (fun (g : (4 : Int32) ≤ r.many n) => ?_) (fun (g : ¬ (4 : Int32) ≤ r.many n) => ?_)
    · rw [hm] at g
      have hk4 : ¬ k < 4 := fun w => nI_ge (b := 4) w (by decide) g
      exact G_108 (r := boR r l (r.letters (3 * n))) hx ht (by omega) (h3 e41 (fun w => hk4 w.1)) (h4 e41 (fun w => hk4 w.1)) _
    · rw [hm] at g
      have hk4 : k < 4 := Nat.lt_of_not_le (fun w => g (nI_le (a := 4) w (by omega)))
      refine R_here0 (r := boR r l (r.letters (3 * n))) hx ht (by omega) ?_
      refine And.intro (fun (g2 : ¬ nI (tx (a + 1)) = 32) => ?_) (fun (g2 : nI (tx (a + 1)) = 32) => ?_)
      · have n32 : ¬ tx (a + 1) = 32 := fun e => g2 (by rw [e]; rfl)
        exact G_108 (r := boR r l (r.letters (3 * n))) hx ht (by omega) (h3 e41 (fun w => n32 w.2)) (h4 e41 (fun w => n32 w.2)) _
      · have e32 : tx (a + 1) = 32 := nIj (j := 32) (by omega) (by decide) g2
        exact G_96 (r := boR r l (r.letters (3 * n))) (rc := rc) (i1 := i1) (bs := bs) hx ht (by omega) hd hn hk hf1 hi1 hch hbs (fun _ => h1 e41 hk4 e32) (fun a' r' d' _ => h0 a' r' d' e41 hk4 e32) (fun w => absurd e32 w) _
  have go : ∀ F : Nat, mj_sg (mj_Mt gT cst gnw (m + 3)) cst gnw (mj_hd (mj_off kO_R_goOn) kH_R_goOn) kC_R_goOn J Q (F + 100) false 55 [some (.ref 27), some (.int (nI n))] [] (cW s (rW (pdR r a (d + 1 + 1)) tl), b0, b1, op) := by
    intro F
    refine And.intro hin ?_
    rw [ekn]
    refine And.intro (fun (g : r.many n ≤ 1) => ?_) (fun _ => ?_)
    · rw [hm] at g
      have := (nI_leI (b := 1) (by omega) (by decide)).mp g
      omega
    refine And.intro hin ?_
    have el : (pdR r a (d + 1 + 1)).last (nI n).toNatClampNeg = nI l := by
      rw [ekn]
      exact hl
    rw [el]
    refine And.intro (show vp_in (Int32.ofInt 3 * nI n) 300 by rw [i3]; exact vp_in_nI (by omega) (by decide)) ?_
    refine And.intro (vp_in_nI hl100 (by decide)) ?_
    have key : ∀ B : Nat → Int32, B = upd r.bound l (r.letters (3 * n)) → ∀ F : Nat, mj_sg (mj_Mt gT cst gnw (m + 3)) cst gnw (mj_hd (mj_off kO_R_goOn) kH_R_goOn) kC_R_goOn J Q (F + 80) false 74 [some (.ref 27), some (.int (nI n))] [] (cW s (rW ((pdR r a (d + 1 + 1)).s_bound B) tl), b0, b1, op) := by
      rintro B rfl F
      refine R_closes (r := boR r l (r.letters (3 * n))) (a := a) (d := d + 1) hx ht (by omega) (fun e => ?_) (fun e => ?_)
      · refine And.intro (fun _ => go79 e _) (fun (g : (1 : Int32) = 0) => absurd g (by decide))
      · refine And.intro (fun g => absurd rfl g) (fun _ => ?_)
        exact hc0 e
    refine key (upd r.bound (nI l).toNatClampNeg (r.letters (Int32.ofInt 3 * nI n).toNatClampNeg)) ?_ _
    rw [i3, nI_clamp (by omega), nI_clamp (by omega)]
  refine hJ _ _ _ _ ?_
  refine And.intro hin ?_
  rw [ekn]
  refine And.intro (fun _ => ?_) (fun (g : r.kind n = 3) => absurd g n3)
  refine And.intro hin ?_
  rw [ekn]
  refine And.intro (fun _ => ?_) (fun (g : r.kind n = 4) => absurd g n4)
  refine And.intro hin ?_
  rw [ekn]
  refine And.intro (fun _ => go _) (fun (g : ¬ r.kind n = 6) => ?_)
  refine And.intro hin ?_
  rw [ekn]
  exact And.intro (fun (g2 : ¬ r.kind n = 7) => (hkk.elim (fun e => absurd e g) (fun e => absurd e g2))) (fun _ => go _)
end RD6
end
section
theorem cKL_ag2 {P P' : Nat → Nat → Tau → Prop} {nx bo nx' bo' : Nat → Int32} (hlt : ∀ i m t, P i m t → i < m) : ∀ (ks : List Kd) (i l m : Nat), (∀ a b t, i ≤ a → b ≤ m → (b ≤ l ∨ a = l) → P a b t → P' a b t) → (∀ a, i ≤ a → a < l → nx' a = nx a) → (∀ a, i ≤ a → a ≤ l → bo' a = bo a) → cKL P nx bo ks i l m → cKL P' nx' bo' ks i l m
  | [], _, _, _, _, _, _, h => absurd h id
  | k :: [], i, l, m, hP, hn, hb, h => by
    obtain ⟨rfl, h2, h3⟩ := h
    exact ⟨rfl, hP _ _ _ (Nat.le_refl _) (Nat.le_refl _) (Or.inr rfl) h2, by rw [hb i (Nat.le_refl _) (Nat.le_refl _)]; exact h3⟩
  | k :: k2 :: ks, i, l, m, hP, hn, hb, h => by
    obtain ⟨j, h1, h2, h3, h4⟩ := h
    have c1 := hlt _ _ _ h1
    have c2 := cKL_lt hlt (k2 :: ks) j l m h4
    exact ⟨j, hP _ _ _ (Nat.le_refl _) (by omega) (Or.inl c2.1) h1, by rw [hb i (Nat.le_refl _) (by omega)]; exact h2, by rw [hn i (Nat.le_refl _) (by omega)]; exact h3, cKL_ag2 hlt (k2 :: ks) j l m (fun a b t q => hP a b t (by omega)) (fun a q => hn a (by omega)) (fun a q => hb a (by omega)) h4⟩
theorem cKL_bo {P P' : Nat → Nat → Tau → Prop} {nx bo : Nat → Int32} {t : Tau} {x y : Int32} (hlt : ∀ i m t, P i m t → i < m) : ∀ (ks : List Kd) (i l m : Nat), (∀ a b t, i ≤ a → b ≤ m → (b ≤ l ∨ a = l) → P a b t → P' a b t) → cKL P nx bo (ks ++ [(t, y)]) i l m → cKL P' nx (upd bo l x) (ks ++ [(t, x)]) i l m
  | [], i, l, m, hP, h => by
    obtain ⟨rfl, h2, h3⟩ := h
    exact ⟨rfl, hP _ _ _ (Nat.le_refl _) (Nat.le_refl _) (Or.inr rfl) h2, if_pos rfl⟩
  | k :: ks, i, l, m, hP, h => by
    have e : ∀ z : Int32, ∃ k2 ks2, ks ++ [(t, z)] = k2 :: ks2 := by
      intro z
      cases ks with
      | nil => exact ⟨_, _, rfl⟩
      | cons k2 ks => exact ⟨_, _, rfl⟩
    obtain ⟨k2, ks2, e2⟩ := e y
    obtain ⟨k3, ks3, e3⟩ := e x
    have h : cKL P nx bo (k :: (ks ++ [(t, y)])) i l m := h
    rw [e2] at h
    obtain ⟨j, h1, h2, h3, h4⟩ := h
    have c1 := hlt _ _ _ h1
    have c2 := cKL_lt hlt (k2 :: ks2) j l m h4
    rw [← e2] at h4
    have h5 := cKL_bo (x := x) hlt ks j l m (fun a b t q => hP a b t (by omega)) h4
    show cKL P' nx (upd bo l x) (k :: (ks ++ [(t, x)])) i l m
    rw [e3] at h5 ⊢
    refine ⟨j, hP _ _ _ (Nat.le_refl _) (by omega) (Or.inl c2.1) h1, ?_, h3, h5⟩
    show (if i = l then x else bo i) = k.2
    rw [if_neg (by omega)]
    exact h2
def IN (tx : Nat → Nat) (f : Nat) (r0 r : rM) (n : Nat) (u : Option Nat) (ks : List Kd) (l mm : Nat) (kd : Int32) : Prop := FM r0 r n u ∧ r.parts = nI mm ∧ (cKL (fun i m t => cR tx r f i m t ∧ r.parent i = nI n) r.next r.bound ks (n + 1) l mm ∧ r.next l = -1 ∧ r.first n = nI (n + 1) ∧ r.last n = nI l ∧ r.many n = nI ks.length) ∧ (r.kind n = kd ∧ r.parent n = oV u ∧ r.next n = -1 ∧ r.bound n = 0)
theorem IN_lt {tx : Nat → Nat} {f : Nat} {r0 r : rM} {n : Nat} {u : Option Nat} {ks : List Kd} {l mm : Nat} {kd : Int32} (h : IN tx f r0 r n u ks l mm kd) : n < l ∧ l < mm := by
  have := cKL_lt (fun i m t w => cR_lt (tx := tx) (r := r) f i m t w.1) ks _ _ _ h.2.2.1.1
  omega
theorem IN_first {tx : Nat → Nat} {f : Nat} {r0 r1 r2 : rM} {n a e : Nat} {u : Option Nat} {t : Tau} {kd : Int32} (hn : n < 100) (h1 : BG r0 r1 n a u kd) (h2 : FM r1 r2 (n + 1) (some n)) (hp : r2.parts = nI e) (hk : cR tx r2 f (n + 1) e t) (hpa : r2.parent (n + 1) = nI n) (hx : r2.next (n + 1) = -1) (hb : r2.bound (n + 1) = 0) :
    IN tx f r0 r2 n u [(t, 0)] (n + 1) e kd ∧ r2.value n = r1.value n ∧ (∀ i, i < 3 * n + 3 → r2.letters i = r1.letters i) := by
  obtain ⟨b1, b2, ⟨b3, b4, b5⟩, b6, b7, b8, b9, b10⟩ := h1
  have hneg : r1.first n < 0 := by rw [b6]; decide
  have hbel : AG r1 r2 n := FM_below (l := 0) h2 (by omega) (by omega) (fun w => absurd hneg w)
  obtain ⟨a1, a2, a3, a4, a5, a6⟩ := h2
  obtain ⟨c1, c2, c3, c4⟩ := a6 n rfl (by omega)
  obtain ⟨d1, d2, d3, d4, d5, d6⟩ := a2 n (by omega)
  rw [if_pos hneg] at c1
  refine ⟨⟨FM_AG b1 hbel, hp, ⟨⟨rfl, ⟨hk, hpa⟩, hb⟩, hx, c1, c2, ?_⟩, d1.trans b4, d5.trans b3, ?_, d6.trans b10⟩, d2, fun i hi => a3 i (by omega)⟩
  · rw [c3, b9]
    rfl
  · rw [a5 n (by omega) (fun v hv w => by cases hv; exact absurd hneg w)]
    exact b8
theorem IN_next {tx : Nat → Nat} {f : Nat} {r0 r2 r3 : rM} {n e l mm : Nat} {u : Option Nat} {ks : List Kd} {t : Tau} {kd : Int32} (hm : mm < 100) (h1 : IN tx f r0 r2 n u ks l mm kd) (h2 : FM r2 r3 mm (some n)) (hp : r3.parts = nI e) (hk : cR tx r3 f mm e t) (hpa : r3.parent mm = nI n) (hx : r3.next mm = -1) (hb : r3.bound mm = 0) :
    IN tx f r0 r3 n u (ks ++ [(t, 0)]) mm e kd ∧ r3.value n = r2.value n ∧ (∀ i, i < 3 * mm → r3.letters i = r2.letters i) := by
  have hlt := IN_lt h1
  obtain ⟨b1, b2, ⟨b3, b4, b5, b6, b7⟩, b8, b9, b10, b11⟩ := h1
  have hpos : ¬ r2.first n < 0 := by rw [b5]; exact nI_pos (by omega)
  have hbel : AG r2 r3 n := FM_below (l := l) h2 (by omega) (by omega) (fun _ => ⟨b6, hlt.1, hlt.2⟩)
  obtain ⟨a1, a2, a3, a4, a5, a6⟩ := h2
  obtain ⟨c1, c2, c3, c4⟩ := a6 n rfl (by omega)
  obtain ⟨d1, d2, d3, d4, d5, d6⟩ := a2 n (by omega)
  rw [if_neg hpos] at c1
  have nxt : ∀ i, i < mm → ¬ i = l → r3.next i = r2.next i := by
    intro i hi hne
    refine a5 i hi (fun v hv w1 w2 => ?_)
    cases hv
    rw [b6] at w2
    exact hne (nIj (by omega) (by omega) w2).symm
  have nl : r3.next l = nI mm := c4 l hlt.2 hpos b6
  have old : cKL (fun i m t => cR tx r3 f i m t ∧ r3.parent i = nI n) r3.next r3.bound ks (n + 1) l mm := by
    refine cKL_ag2 (fun i m t w => cR_lt (tx := tx) (r := r2) f i m t w.1) ks _ _ _ (fun a b t q1 q2 q3 q4 => ?_) (fun a q1 q2 => nxt a (by omega) (by omega)) (fun a q1 q2 => (a2 a (by omega)).2.2.2.2.2) b3
    have qlt := cR_lt f a b t q4.1
    refine ⟨cR_ag f a b t ⟨fun i w1 w2 => ?_, fun i w1 w2 => a3 i (by omega), fun i w1 w2 => ⟨nxt i (by omega) (by omega), (a2 i (by omega)).2.2.2.2.2, (a2 i (by omega)).2.2.2.2.1⟩⟩ q4.1, (a2 a (by omega)).2.2.2.2.1.trans q4.2⟩
    obtain ⟨g1, g2, g3, g4, -⟩ := a2 i (by omega)
    exact ⟨g1, g2, g3, g4, (a4 i (by omega) (fun w => by cases w; omega)).1⟩
  refine ⟨⟨FM_AG b1 hbel, hp, ⟨cKL_app ks _ _ _ old nl ⟨hk, hpa⟩ hb, hx, c1.trans b5, c2, ?_⟩, d1.trans b8, d5.trans b9, ?_, d6.trans b11⟩, d2, a3⟩
  · rw [c3, b7, List.length_append]
    exact (nI_succ _).symm
  · rw [nxt n (by omega) (by omega)]
    exact b10
theorem IN_lt3 {tx : Nat → Nat} {f : Nat} {r0 r : rM} {n : Nat} {u : Option Nat} {ks : List Kd} {l mm : Nat} {kd x : Int32} (h : IN tx f r0 r n u ks l mm kd) : IN tx f r0 (ltR r (3 * n) x) n u ks l mm kd := by
  have hlt := IN_lt h
  obtain ⟨b1, b2, ⟨b3, b4⟩, b5⟩ := h
  refine ⟨FM_AG b1 ⟨rfl, fun i hi => ⟨⟨rfl, rfl, rfl, rfl, rfl, rfl⟩, rfl, rfl, rfl, rfl⟩, fun i hi => upd_lt _ _ hi⟩, b2, ⟨?_, b4⟩, b5⟩
  refine cKL_ag2 (fun i m t w => cR_lt (tx := tx) (r := r) f i m t w.1) ks _ _ _ (fun a b t q1 q2 q3 q4 => ?_) (fun a _ _ => rfl) (fun a _ _ => rfl) b3
  refine ⟨cR_ag (r := r) (r' := ltR r (3 * n) x) f a b t ⟨fun i _ _ => ⟨rfl, rfl, rfl, rfl, rfl⟩, fun i w1 w2 => ?_, fun i _ _ => ⟨rfl, rfl, rfl⟩⟩ q4.1, q4.2⟩
  show (if i = 3 * n then x else r.letters i) = r.letters i
  rw [if_neg (by omega)]
theorem IN_bo {tx : Nat → Nat} {f : Nat} {r0 r : rM} {n : Nat} {u : Option Nat} {ks : List Kd} {t : Tau} {l mm : Nat} {kd x y : Int32} (h : IN tx f r0 r n u (ks ++ [(t, y)]) l mm kd) : IN tx f r0 (boR r l x) n u (ks ++ [(t, x)]) l mm kd := by
  have hlt := IN_lt h
  obtain ⟨b1, b2, ⟨b3, b4, b5, b6, b7⟩, b8, b9, b10, b11⟩ := h
  have ub : ∀ i, ¬ i = l → upd r.bound l x i = r.bound i := fun i hi => if_neg hi
  refine ⟨FM_AG b1 ⟨rfl, fun i hi => ⟨⟨rfl, rfl, rfl, rfl, rfl, ub i (by omega)⟩, rfl, rfl, rfl, rfl⟩, fun i hi => rfl⟩, b2, ⟨?_, b4, b5, b6, ?_⟩, b8, b9, b10, (ub n (by omega)).trans b11⟩
  · refine cKL_bo (fun i m t w => cR_lt (tx := tx) (r := r) f i m t w.1) ks _ _ _ (fun a b t q1 q2 q3 q4 => ?_) b3
    exact ⟨cR_ag (r := r) (r' := boR r l x) f a b t ⟨fun i _ _ => ⟨rfl, rfl, rfl, rfl, rfl⟩, fun i w1 w2 => rfl, fun i w1 w2 => ⟨rfl, ub i (by omega), rfl⟩⟩ q4.1, q4.2⟩
  · have e1 : (ks ++ [(t, y)]).length = (ks ++ [(t, x)]).length := by rw [List.length_append, List.length_append]; rfl
    rw [← e1]
    exact b7
theorem IN_cR {tx : Nat → Nat} {f : Nat} {r0 r : rM} {n : Nat} {u : Option Nat} {ks : List Kd} {l mm : Nat} {kd : Int32} {t : Tau} (h : IN tx f r0 r n u ks l mm kd) (ht : cT r n ks t) : cR tx r (f + 1) n mm t := Or.inr (Or.inr (Or.inr ⟨ks, l, h.2.2.1.1, h.2.2.1.2.1, h.2.2.1.2.2.1, ht⟩))
end
