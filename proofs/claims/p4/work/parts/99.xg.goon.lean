section
def chL (nx bo : Nat → Int32) : List Int32 → Int32 → Prop
  | [], x => x = -1
  | b :: bs, x => ∃ i, i < 100 ∧ x = nI i ∧ bo i = b ∧ chL nx bo bs (nx i)
theorem cKL_ch {P : Nat → Nat → Tau → Prop} {nx bo : Nat → Int32} (hP : ∀ i m t, P i m t → i < m) : ∀ (ks : List Kd) (k : Kd) (i l m : Nat), cKL P nx bo (k :: ks) i l m → nx l = -1 → m ≤ 100 → chL nx bo (ks.map (fun k => k.2)) (nx i)
  | [], k, i, l, m, h, hl, hm => by
    obtain ⟨rfl, -⟩ := h
    exact hl
  | k2 :: ks, k, i, l, m, h, hl, hm => by
    obtain ⟨j, h1, h2, h3, h4⟩ := h
    have hj : j < m := by
      have := cKL_lt hP (k2 :: ks) j l m h4
      omega
    refine ⟨j, by omega, h3, ?_, cKL_ch hP ks k2 j l m h4 hl hm⟩
    cases ks with
    | nil => exact h4.2.2
    | cons k3 ks =>
      obtain ⟨j2, -, h5, -⟩ := h4
      exact h5
def gB0 (tx : Nat → Nat) (rc : Bool) (d a : Nat) (bs : List Nat) : Option Nat := if tx a = 40 ∧ d < 9 then
      (if cL (tx (a + 1)) = true ∧ ¬ tx (a + 1) ∈ bs then
        (if tx (a + 1 + 1) = 32 then
          (if rc = true ∧ ¬ (tx (a + 1 + 1 + 1) = 40 ∧ d + 1 < 9) then some (a + 1 + 1 + 1)
          else if rc = true ∧ ¬ tx (a + 1 + 1 + 1 + 1) = 92 then some (a + 1 + 1 + 1 + 1)
          else none)
        else some (a + 1 + 1))
      else some (a + 1))
    else some a
theorem gB1_e (tx : Nat → Nat) (pe : Nat → GR) (rc : Bool) (d a : Nat) (bs : List Nat) (ct : Tau → Nat → GR) : gB1 tx pe rc d a bs ct = match gB0 tx rc d a bs with
    | some e => .inr e
    | none => match pe (a + 1 + 1 + 1) with
      | .inr e => .inr e
      | .inl (t, a3) => if tx a3 = 41 then ct t (a3 + 1) else .inr a3 := by
  unfold gB1 gB0
  split
  · split
    · split
      · split
        · rfl
        · split <;> rfl
      · rfl
    · rfl
  · rfl
def ltR (r : rM) (i : Nat) (x : Int32) : rM := (r.s_letters (upd r.letters i x))
def boR (r : rM) (i : Nat) (x : Int32) : rM := (r.s_bound (upd r.bound i x))
section RD5
variable {cst : Nat → Option (Nat × (Nat → Int32))} {m b0 b1 : Nat} {op : Bool} {tl : List mj_O} {Q : mj_R → Prop} {s : cS} {r : rM} {a d n len : Nat} {tx : Nat → Nat}
set_option maxRecDepth 10000
set_option maxHeartbeats 4000000 in
theorem R_binding {rc : Bool} {i1 : Nat} {bs : List Nat} (hx : txOK r.text len tx) (ht : r.typed = nI len) (ha : a ≤ len) (hd : d ≤ 9) (hn : n < 100) (hk : r.kind n = if rc = true then 7 else 6) (hf1 : r.first n = nI i1) (hi1 : i1 < 100) (hch : chL r.next r.bound (bs.map nI) (r.next i1)) (hbs : ∀ c ∈ bs, c < 256)
    (h1 : gB0 tx rc d a bs = none → Q (.inl (some (.int 1)), (cW s (rW (pdR (ltR r (3 * n) (nI (tx (a + 1)))) (a + 1 + 1 + 1) (d + 1)) tl), b0, b1, op)))
    (h0 : ∀ a' r' d', gB0 tx rc d a bs = some a' → a' ≤ len → kr r r' → Q (.inl (some (.int 0)), (cW s (rW (pdR r' a' d') tl), b0, b1, op))) :
    mj_Mt gT cst gnw (m + 3) y_R_binding [.ref 27, .int (nI n)] (cW s (rW (pdR r a d) tl), b0, b1, op) Q := by
  have h96 := hx.1
  have hin : vp_in (nI n) 100 := vp_in_nI hn (by decide)
  have ekn : (nI n).toNatClampNeg = n := nI_clamp (by omega)
  have e0 : gB0 tx rc d a bs = if tx a = 40 ∧ d < 9 then (if cL (tx (a + 1)) = true ∧ ¬ tx (a + 1) ∈ bs then (if tx (a + 1 + 1) = 32 then (if rc = true ∧ ¬ (tx (a + 1 + 1 + 1) = 40 ∧ d + 1 < 9) then some (a + 1 + 1 + 1) else if rc = true ∧ ¬ tx (a + 1 + 1 + 1 + 1) = 92 then some (a + 1 + 1 + 1 + 1) else none) else some (a + 1 + 1)) else some (a + 1)) else some a := rfl
  rw [e0] at h1 h0
  intro J hJ
  refine hJ _ _ _ _ ?_
  refine R_opens hx ht (by omega) hd (fun e40 h9 => ?_) (fun e => ?_)
  rotate_left
  · rw [if_neg e] at h0
    refine And.intro (fun g => absurd rfl g) (fun _ => ?_)
    exact And.intro (Or.inl rfl) (h0 a r d rfl ha rfl)
  rw [if_pos ⟨e40, h9⟩] at h1 h0
  have hlt := hx.lt (a := a) (by omega)
  have hc1 := hx.le (a + 1)
  refine And.intro (fun _ => ?_) (fun (g : (1 : Int32) = 0) => absurd g (by decide))
  refine R_here0 hx ht (by omega) ?_
  have fin : ∀ (g : Bool) (x4 : Int32), (g = true ↔ (cL (tx (a + 1)) = true ∧ ¬ tx (a + 1) ∈ bs)) → ∀ F : Nat, mj_sg (mj_Mt gT cst gnw (m + 2)) cst gnw (mj_hd (mj_off kO_R_binding) kH_R_binding) kC_R_binding J Q (F + 100) false 40 [some (.ref 27), some (.int (nI n)), some (.int (nI (tx (a + 1)))), some (.int (bI g)), some (.int x4)] [] (cW s (rW (pdR r (a + 1) (d + 1)) tl), b0, b1, op) := by
    intro g x4 hg F
    cases g with
    | false =>
      rw [if_neg (fun w => by have := hg.mpr w; cases this)] at h0
      refine And.intro (fun (w : ¬ bI false = 0) => absurd rfl w) (fun _ => ?_)
      exact And.intro (Or.inl rfl) (h0 (a + 1) r (d + 1) rfl (by omega) rfl)
    | true =>
      have hg := hg.mp rfl
      rw [if_pos hg] at h1 h0
      have hlt2 := hx.lt (a := a + 1) (fun q => by rw [q] at hg; exact absurd hg.1 (by decide))
      refine And.intro (fun _ => ?_) (fun (w : bI true = 0) => absurd w (by decide))
      have i3 : Int32.ofInt 3 * nI n = nI (3 * n) := three_n n
      refine And.intro (show vp_in (Int32.ofInt 3 * nI n) 300 by rw [i3]; exact vp_in_nI (by omega) (by decide)) ?_
      have key : ∀ L : Nat → Int32, L = upd r.letters (3 * n) (nI (tx (a + 1))) → ∀ F : Nat, mj_sg (mj_Mt gT cst gnw (m + 2)) cst gnw (mj_hd (mj_off kO_R_binding) kH_R_binding) kC_R_binding J Q (F + 80) false 51 [some (.ref 27), some (.int (nI n)), some (.int (nI (tx (a + 1)))), some (.int (bI true)), some (.int x4)] [] (cW s (rW ((pdR r (a + 1) (d + 1)).s_letters L) tl), b0, b1, op) := by
        rintro L rfl F
        refine sg_pinc (r := ltR r (3 * n) (nI (tx (a + 1)))) (a := a + 1) (d := d + 1) rfl rfl rfl rfl rfl rfl rfl ?_
        refine R_takes (c := 32) (r := ltR r (3 * n) (nI (tx (a + 1)))) hx ht (by omega) (by decide) (fun e32 => ?_) (fun e32 => ?_)
        rotate_left
        · rw [if_neg e32] at h0
          refine And.intro (fun g => absurd rfl g) (fun _ => ?_)
          exact And.intro (Or.inl rfl) (h0 _ (ltR r (3 * n) (nI (tx (a + 1)))) _ rfl (by omega) rfl)
        rw [if_pos e32] at h1 h0
        have hlt3 := hx.lt (a := a + 1 + 1) (by omega)
        have hc3 := hx.le (a + 1 + 1 + 1)
        have hc4 := hx.le (a + 1 + 1 + 1 + 1)
        refine And.intro (fun _ => ?_) (fun (g : (1 : Int32) = 0) => absurd g (by decide))
        refine And.intro hin ?_
        have ekk : (pdR (ltR r (3 * n) (nI (tx (a + 1)))) (a + 1 + 1 + 1) (d + 1)).kind (nI n).toNatClampNeg = if rc = true then 7 else 6 := by
          rw [ekn]
          exact hk
        rw [ekk]
        cases rc with
        | false =>
          rw [if_neg (fun w => by cases w.1), if_neg (fun w => by cases w.1)] at h1
          refine And.intro (fun _ => ?_) (fun (g : (6 : Int32) = 7) => absurd g (by decide))
          refine And.intro hin ?_
          rw [ekk]
          refine And.intro (fun _ => ?_) (fun (g : ¬ (6 : Int32) = 6) => absurd rfl g)
          exact And.intro (Or.inr rfl) (h1 rfl)
        | true =>
          refine And.intro (fun (g : ¬ (7 : Int32) = 7) => absurd rfl g) (fun _ => ?_)
          refine R_here0 (r := ltR r (3 * n) (nI (tx (a + 1)))) hx ht (by omega) ?_
          have bad : ¬ (tx (a + 1 + 1 + 1) = 40 ∧ d + 1 < 9) → ∀ F : Nat, mj_sg (mj_Mt gT cst gnw (m + 2)) cst gnw (mj_hd (mj_off kO_R_binding) kH_R_binding) kC_R_binding J Q (F + 40) false 91 [some (.ref 27), some (.int (nI n)), some (.int (nI (tx (a + 1)))), some (.int (bI true)), some (.int x4)] [] (cW s (rW (pdR (ltR r (3 * n) (nI (tx (a + 1)))) (a + 1 + 1 + 1) (d + 1)) tl), b0, b1, op) := by
            intro hb F
            rw [if_pos ⟨rfl, hb⟩] at h0
            have h9' := h0 (a + 1 + 1 + 1) (ltR r (3 * n) (nI (tx (a + 1)))) (d + 1) rfl (by omega) rfl
            refine And.intro hin ?_
            rw [ekk]
            refine And.intro (fun (g : (7 : Int32) = 6) => absurd g (by decide)) (fun _ => ?_)
            refine R_here0 (r := ltR r (3 * n) (nI (tx (a + 1)))) hx ht (by omega) ?_
            refine And.intro (fun _ => And.intro (Or.inl rfl) h9') (fun (g2 : nI (tx (a + 1 + 1 + 1)) = 40) => ?_)
            refine And.intro (fun _ => And.intro (Or.inl rfl) h9') (fun (g3 : ¬ (9 : Int32) ≤ nI (d + 1)) => ?_)
            refine absurd ⟨nIj (j := 40) (by omega) (by decide) g2, ?_⟩ hb
            exact Nat.lt_of_not_le (fun w => g3 (nI_le (a := 9) w (by omega)))
          refine And.intro (fun (g2 : ¬ nI (tx (a + 1 + 1 + 1)) = 40) => bad (fun w => g2 (by rw [w.1]; rfl)) _) (fun (g2 : nI (tx (a + 1 + 1 + 1)) = 40) => ?_)
          have e3 : tx (a + 1 + 1 + 1) = 40 := nIj (j := 40) (by omega) (by decide) g2
          refine And.intro (fun (g3 : (9 : Int32) ≤ nI (d + 1)) => bad (fun w => nI_ge (b := 9) w.2 (by decide) g3) _) (fun (g3 : ¬ (9 : Int32) ≤ nI (d + 1)) => ?_)
          have hd1 : d + 1 < 9 := Nat.lt_of_not_le (fun w => g3 (nI_le (a := 9) w (by omega)))
          rw [if_neg (fun w => w.2 ⟨e3, hd1⟩)] at h1 h0
          have hlt4 := hx.lt (a := a + 1 + 1 + 1) (by omega)
          refine R_here (k := 1) (r := ltR r (3 * n) (nI (tx (a + 1)))) hx ht (by omega) ?_
          refine And.intro (fun (g4 : nI (tx (a + 1 + 1 + 1 + 1)) = 92) => ?_) (fun (g4 : ¬ nI (tx (a + 1 + 1 + 1 + 1)) = 92) => ?_)
          · have e4 : tx (a + 1 + 1 + 1 + 1) = 92 := nIj (j := 92) (by omega) (by decide) g4
            rw [if_neg (fun w => w.2 e4)] at h1
            refine And.intro hin ?_
            rw [ekk]
            refine And.intro (fun (g : (7 : Int32) = 6) => absurd g (by decide)) (fun _ => ?_)
            refine R_here0 (r := ltR r (3 * n) (nI (tx (a + 1)))) hx ht (by omega) ?_
            refine And.intro (fun (w : ¬ nI (tx (a + 1 + 1 + 1)) = 40) => absurd g2 w) (fun _ => ?_)
            refine And.intro (fun (w : (9 : Int32) ≤ nI (d + 1)) => absurd w g3) (fun _ => ?_)
            exact And.intro (Or.inr rfl) (h1 rfl)
          · have n4 : ¬ tx (a + 1 + 1 + 1 + 1) = 92 := fun e => g4 (by rw [e]; rfl)
            rw [if_pos ⟨rfl, n4⟩] at h0
            refine sg_pinc (r := ltR r (3 * n) (nI (tx (a + 1)))) (a := a + 1 + 1 + 1) (d := d + 1) rfl rfl rfl rfl rfl rfl rfl ?_
            exact And.intro (Or.inl rfl) (h0 _ (ltR r (3 * n) (nI (tx (a + 1)))) _ rfl (by omega) rfl)
      refine key (upd r.letters (Int32.ofInt 3 * nI n).toNatClampNeg (nI (tx (a + 1)))) ?_ _
      rw [i3, nI_clamp (by omega)]
  have loop : ∀ (bs2 : List Nat) (x : Int32) (g : Bool), chL r.next r.bound (bs2.map nI) x → (∀ c ∈ bs2, c < 256) → ((g = true ∧ ¬ tx (a + 1) ∈ bs2) ↔ (cL (tx (a + 1)) = true ∧ ¬ tx (a + 1) ∈ bs)) → J 20 [some (.ref 27), some (.int (nI n)), some (.int (nI (tx (a + 1)))), some (.int (bI g)), some (.int x)] [] (cW s (rW (pdR r (a + 1) (d + 1)) tl), b0, b1, op) := by
    intro bs2
    induction bs2 with
    | nil =>
      intro x g hc hb hg
      have hc : x = -1 := hc
      subst hc
      refine hJ _ _ _ _ ?_
      refine And.intro (fun _ => ?_) (fun (w : ¬ (-1 : Int32) < 0) => absurd (by decide) w)
      exact fin g (-1) ⟨fun w => hg.mp ⟨w, List.not_mem_nil⟩, fun w => (hg.mpr w).1⟩ _
    | cons b bs2 ih =>
      intro x g hc hb hg
      obtain ⟨i, hi, rfl, hbi, hc2⟩ := hc
      have hii : vp_in (nI i) 100 := vp_in_nI hi (by decide)
      have eki : (nI i).toNatClampNeg = i := nI_clamp (by omega)
      have hb256 := hb b List.mem_cons_self
      have hb2 : ∀ c ∈ bs2, c < 256 := fun c hc => hb c (List.mem_cons_of_mem _ hc)
      refine hJ _ _ _ _ ?_
      refine And.intro (fun (w : nI i < 0) => absurd w (nI_pos (by omega))) (fun _ => ?_)
      have nxt : ∀ (g2 : Bool) (v : Int32), v = bI g2 → ((g2 = true ∧ ¬ tx (a + 1) ∈ bs2) ↔ (cL (tx (a + 1)) = true ∧ ¬ tx (a + 1) ∈ bs)) → ∀ x2 : Int32, x2 = r.next i → J 20 [some (.ref 27), some (.int (nI n)), some (.int (nI (tx (a + 1)))), some (.int v), some (.int x2)] [] (cW s (rW (pdR r (a + 1) (d + 1)) tl), b0, b1, op) := by
        rintro g2 v rfl hg2 x2 rfl
        exact ih _ g2 hc2 hb2 hg2
      cases g with
      | false =>
        refine And.intro (fun _ => ?_) (fun (w : ¬ bI false = 0) => absurd rfl w)
        refine And.intro hii ?_
        refine nxt false 0 rfl ⟨fun w => (by cases w.1), fun w => ?_⟩ _ ?_
        · have := (hg.mpr w).1
          cases this
        · show r.next (nI i).toNatClampNeg = _
          rw [eki]
      | true =>
        refine And.intro (fun (w : bI true = 0) => absurd w (by decide)) (fun _ => ?_)
        refine And.intro hii ?_
        have eb : (pdR r (a + 1) (d + 1)).bound (nI i).toNatClampNeg = nI b := by
          rw [eki]
          exact hbi
        rw [eb]
        refine And.intro (fun (w : nI b = nI (tx (a + 1))) => ?_) (fun (w : ¬ nI b = nI (tx (a + 1))) => ?_)
        · have e := nIj (by omega) (by omega) w
          refine And.intro hii ?_
          refine nxt false 0 rfl ⟨fun w => (by cases w.1), fun w2 => ?_⟩ _ ?_
          · exact absurd (by rw [e]; exact List.mem_cons_self) (hg.mpr w2).2
          · show r.next (nI i).toNatClampNeg = _
            rw [eki]
        · have ne : ¬ tx (a + 1) = b := fun e => w (by rw [e])
          refine And.intro hii ?_
          refine nxt true 1 rfl ⟨fun w => hg.mp ⟨rfl, fun q => ?_⟩, fun w => ⟨rfl, fun q => (hg.mpr w).2 (List.mem_cons_of_mem _ q)⟩⟩ _ ?_
          · rcases List.mem_cons.mp q with q | q
            · exact ne q
            · exact w.2 q
          · show r.next (nI i).toNatClampNeg = _
            rw [eki]
  have st : ∀ (g : Bool), (g = true ↔ cL (tx (a + 1)) = true) → ∀ x : Int32, x = bI g → ∀ F : Nat, mj_sg (mj_Mt gT cst gnw (m + 2)) cst gnw (mj_hd (mj_off kO_R_binding) kH_R_binding) kC_R_binding J Q (F + 60) false 11 [some (.ref 27), some (.int (nI n)), some (.int (nI (tx (a + 1)))), none, none] [.int x] (cW s (rW (pdR r (a + 1) (d + 1)) tl), b0, b1, op) := by
    rintro g hg x rfl F
    refine And.intro hin ?_
    have e1 : (pdR r (a + 1) (d + 1)).first (nI n).toNatClampNeg = nI i1 := by
      rw [ekn]
      exact hf1
    rw [e1]
    refine And.intro (vp_in_nI hi1 (by decide)) ?_
    have key : ∀ x : Int32, x = r.next i1 → J 20 [some (.ref 27), some (.int (nI n)), some (.int (nI (tx (a + 1)))), some (.int (bI g)), some (.int x)] [] (cW s (rW (pdR r (a + 1) (d + 1)) tl), b0, b1, op) := by
      rintro x rfl
      exact loop bs _ g hch hbs ⟨fun w => ⟨hg.mp w.1, w.2⟩, fun w => ⟨hg.mpr w.1, w.2⟩⟩
    refine key _ ?_
    show r.next (nI i1).toNatClampNeg = _
    rw [nI_clamp (by omega)]
  refine R_isLetter (by omega) (fun hc => ?_) (fun hc => ?_)
  · exact st true ⟨fun _ => hc, fun _ => rfl⟩ 1 rfl _
  · exact st false ⟨fun w => (by cases w), fun w => (by rw [hc] at w; cases w)⟩ 0 rfl _
end RD5
end
section
section RD6
variable {cst : Nat → Option (Nat × (Nat → Int32))} {m b0 b1 : Nat} {op : Bool} {tl : List mj_O} {Q : mj_R → Prop} {s : cS} {r : rM} {a d n len : Nat} {tx : Nat → Nat} {J : Nat → mj_L → List Value → mj_H → Prop}
set_option maxRecDepth 10000
theorem G_108 (hx : txOK r.text len tx) (ht : r.typed = nI len) (ha : a ≤ 900) (h1 : tx a = 41 → Q (.inl (some (.int 0)), (cW s (rW (pdR r (a + 1) d) tl), b0, b1, op))) (h0 : ¬ tx a = 41 → Q (.inl (some (.int (-1))), (cW s (rW (pdR r a (d + 1)) tl), b0, b1, op))) (F : Nat) :
    mj_sg (mj_Mt gT cst gnw (m + 3)) cst gnw (mj_hd (mj_off kO_R_goOn) kH_R_goOn) kC_R_goOn J Q (F + 20) false 108 [some (.ref 27), some (.int (nI n))] [] (cW s (rW (pdR r a (d + 1)) tl), b0, b1, op) := by
  refine R_closes hx ht (by omega) (fun e => ?_) (fun e => ?_)
  · refine And.intro (fun (g : (1 : Int32) = 0) => absurd g (by decide)) (fun _ => ?_)
    exact h1 e
  · refine And.intro (fun _ => ?_) (fun g => absurd rfl g)
    exact h0 e
theorem G_43 (hn : n < 100) (h6 : ¬ r.kind n = 6) (h7 : ¬ r.kind n = 7) (hx : txOK r.text len tx) (ht : r.typed = nI len) (ha : a ≤ 900) (h1 : tx a = 41 → Q (.inl (some (.int 0)), (cW s (rW (pdR r (a + 1) d) tl), b0, b1, op))) (h0 : ¬ tx a = 41 → Q (.inl (some (.int (-1))), (cW s (rW (pdR r a (d + 1)) tl), b0, b1, op))) (F : Nat) :
    mj_sg (mj_Mt gT cst gnw (m + 3)) cst gnw (mj_hd (mj_off kO_R_goOn) kH_R_goOn) kC_R_goOn J Q (F + 60) false 43 [some (.ref 27), some (.int (nI n))] [] (cW s (rW (pdR r a (d + 1)) tl), b0, b1, op) := by
  have hin : vp_in (nI n) 100 := vp_in_nI hn (by decide)
  have ekn : (nI n).toNatClampNeg = n := nI_clamp (by omega)
  refine And.intro hin ?_
  rw [ekn]
  refine And.intro (fun (g : r.kind n = 6) => absurd g h6) (fun _ => ?_)
  refine And.intro hin ?_
  rw [ekn]
  refine And.intro (fun _ => ?_) (fun (g : r.kind n = 7) => absurd g h7)
  exact G_108 hx ht ha h1 h0 _
theorem R_go5 (hn : n < 100) (hk : r.kind n = 5) (hx : txOK r.text len tx) (ht : r.typed = nI len) (ha : a ≤ 900) (h1 : tx a = 41 → Q (.inl (some (.int 0)), (cW s (rW (pdR r (a + 1) d) tl), b0, b1, op))) (h0 : ¬ tx a = 41 → Q (.inl (some (.int (-1))), (cW s (rW (pdR r a (d + 1)) tl), b0, b1, op))) :
    mj_Mt gT cst gnw (m + 4) y_R_goOn [.ref 27, .int (nI n)] (cW s (rW (pdR r a (d + 1)) tl), b0, b1, op) Q := by
  have hin : vp_in (nI n) 100 := vp_in_nI hn (by decide)
  have ekn : (nI n).toNatClampNeg = n := nI_clamp (by omega)
  intro J hJ
  refine hJ _ _ _ _ ?_
  refine And.intro hin ?_
  rw [ekn]
  refine And.intro (fun _ => ?_) (fun (g : r.kind n = 3) => absurd (hk.symm.trans g) (by decide))
  refine And.intro hin ?_
  rw [ekn]
  refine And.intro (fun _ => ?_) (fun (g : r.kind n = 4) => absurd (hk.symm.trans g) (by decide))
  exact G_43 hn (by rw [hk]; decide) (by rw [hk]; decide) hx ht ha h1 h0 _
theorem R_go4 {k : Nat} (hn : n < 100) (hk : r.kind n = 4) (hm : r.many n = nI k) (hk10 : k ≤ 10) (hx : txOK r.text len tx) (ht : r.typed = nI len) (ha : a ≤ 900) (hs : k < 4 → tx a = 32 → Q (.inl (some (.int 1)), (cW s (rW (pdR r (a + 1) (d + 1)) tl), b0, b1, op))) (h1 : ¬ (k < 4 ∧ tx a = 32) → tx a = 41 → Q (.inl (some (.int 0)), (cW s (rW (pdR r (a + 1) d) tl), b0, b1, op))) (h0 : ¬ (k < 4 ∧ tx a = 32) → ¬ tx a = 41 → Q (.inl (some (.int (-1))), (cW s (rW (pdR r a (d + 1)) tl), b0, b1, op))) :
    mj_Mt gT cst gnw (m + 4) y_R_goOn [.ref 27, .int (nI n)] (cW s (rW (pdR r a (d + 1)) tl), b0, b1, op) Q := by
  have hin : vp_in (nI n) 100 := vp_in_nI hn (by decide)
  have ekn : (nI n).toNatClampNeg = n := nI_clamp (by omega)
  intro J hJ
  refine hJ _ _ _ _ ?_
  refine And.intro hin ?_
  rw [ekn]
  refine And.intro (fun _ => ?_) (fun (g : r.kind n = 3) => absurd (hk.symm.trans g) (by decide))
  refine And.intro hin ?_
  rw [ekn]
  refine And.intro (fun (g : ¬ r.kind n = 4) => absurd hk g) (fun _ => ?_)
  refine And.intro hin ?_
  rw [ekn]
  refine And.intro (fun (g : (4 : Int32) ≤ r.many n) => ?_) (fun (g : ¬ (4 : Int32) ≤ r.many n) => ?_)
  · rw [hm] at g
    have hk4 : ¬ k < 4 := fun w => nI_ge (b := 4) w (by decide) g
    exact G_43 hn (by rw [hk]; decide) (by rw [hk]; decide) hx ht ha (h1 (fun w => hk4 w.1)) (h0 (fun w => hk4 w.1)) _
  · rw [hm] at g
    have hk4 : k < 4 := Nat.lt_of_not_le (fun w => g (nI_le (a := 4) w (by omega)))
    refine R_takes (c := 32) hx ht (by omega) (by decide) (fun e => ?_) (fun e => ?_)
    · refine And.intro (fun (g : (1 : Int32) = 0) => absurd g (by decide)) (fun _ => ?_)
      exact hs hk4 e
    · refine And.intro (fun _ => ?_) (fun g => absurd rfl g)
      exact G_43 hn (by rw [hk]; decide) (by rw [hk]; decide) hx ht ha (h1 (fun w => e w.2)) (h0 (fun w => e w.2)) _
theorem R_go3 {k c : Nat} (hn : n < 100) (hk : r.kind n = 3) (hv : r.value n = nI c) (hc : c < 256) (hm : r.many n = nI k) (hk10 : k ≤ 10) (hx : txOK r.text len tx) (ht : r.typed = nI len) (ha : a ≤ 900) (hs : k < ar c → tx a = 32 → Q (.inl (some (.int 1)), (cW s (rW (pdR r (a + 1) (d + 1)) tl), b0, b1, op))) (hs0 : k < ar c → ¬ tx a = 32 → Q (.inl (some (.int (-1))), (cW s (rW (pdR r a (d + 1)) tl), b0, b1, op))) (h1 : ¬ k < ar c → tx a = 41 → Q (.inl (some (.int 0)), (cW s (rW (pdR r (a + 1) d) tl), b0, b1, op))) (h0 : ¬ k < ar c → ¬ tx a = 41 → Q (.inl (some (.int (-1))), (cW s (rW (pdR r a (d + 1)) tl), b0, b1, op))) :
    mj_Mt gT cst gnw (m + 4) y_R_goOn [.ref 27, .int (nI n)] (cW s (rW (pdR r a (d + 1)) tl), b0, b1, op) Q := by
  have hin : vp_in (nI n) 100 := vp_in_nI hn (by decide)
  have ekn : (nI n).toNatClampNeg = n := nI_clamp (by omega)
  have ha3 := ar_le c
  intro J hJ
  refine hJ _ _ _ _ ?_
  refine And.intro hin ?_
  rw [ekn]
  refine And.intro (fun (g : ¬ r.kind n = 3) => absurd hk g) (fun _ => ?_)
  refine And.intro hin ?_
  rw [ekn]
  refine And.intro hin ?_
  have key : ∀ x : Int32, x = nI c → ∀ Q' : mj_R → Prop, Q' (.inl (some (.int (nI (ar c)))), (cW s (rW (pdR r a (d + 1)) tl), b0, b1, op)) → mj_Mt gT cst gnw (m + 3) y_R_arity [.int x] (cW s (rW (pdR r a (d + 1)) tl), b0, b1, op) Q' := by
    rintro x rfl Q' h
    exact R_arity (by omega) h
  refine key _ ?_ _ ?_
  · show ((r.value (nI n).toNatClampNeg).toUInt32 % 65536).toInt32 = nI c
    rw [ekn, hv]
    exact (sb_byte c (by omega)).2.1
  refine And.intro (fun (g : nI (ar c) ≤ r.many n) => ?_) (fun (g : ¬ nI (ar c) ≤ r.many n) => ?_)
  · rw [hm] at g
    have hka : ¬ k < ar c := fun w => nI_ge w (by omega) g
    refine And.intro hin ?_
    rw [ekn]
    refine And.intro (fun _ => ?_) (fun (g : r.kind n = 4) => absurd (hk.symm.trans g) (by decide))
    exact G_43 hn (by rw [hk]; decide) (by rw [hk]; decide) hx ht ha (h1 hka) (h0 hka) _
  · rw [hm] at g
    have hka : k < ar c := Nat.lt_of_not_le (fun w => g (nI_le w (by omega)))
    refine R_takes (c := 32) hx ht (by omega) (by decide) (fun e => ?_) (fun e => ?_)
    · refine And.intro (fun (g : (1 : Int32) = 0) => absurd g (by decide)) (fun _ => ?_)
      exact hs hka e
    · refine And.intro (fun _ => ?_) (fun g => absurd rfl g)
      exact hs0 hka e
theorem G_96 {rc : Bool} {i1 : Nat} {bs : List Nat} (hx : txOK r.text len tx) (ht : r.typed = nI len) (ha : a ≤ len) (hd : d ≤ 9) (hn : n < 100) (hk : r.kind n = if rc = true then 7 else 6) (hf1 : r.first n = nI i1) (hi1 : i1 < 100) (hch : chL r.next r.bound (bs.map nI) (r.next i1)) (hbs : ∀ c ∈ bs, c < 256)
    (h1 : tx a = 32 → gB0 tx rc d (a + 1) bs = none → Q (.inl (some (.int 1)), (cW s (rW (pdR (ltR r (3 * n) (nI (tx (a + 1 + 1)))) (a + 1 + 1 + 1 + 1) (d + 1)) tl), b0, b1, op)))
    (h0 : ∀ a' r' d', tx a = 32 → gB0 tx rc d (a + 1) bs = some a' → a' ≤ len → kr r r' → Q (.inl (some (.int (-1))), (cW s (rW (pdR r' a' d') tl), b0, b1, op)))
    (h2 : ¬ tx a = 32 → Q (.inl (some (.int (-1))), (cW s (rW (pdR r a d) tl), b0, b1, op))) (F : Nat) :
    mj_sg (mj_Mt gT cst gnw (m + 3)) cst gnw (mj_hd (mj_off kO_R_goOn) kH_R_goOn) kC_R_goOn J Q (F + 20) false 96 [some (.ref 27), some (.int (nI n))] [] (cW s (rW (pdR r a d) tl), b0, b1, op) := by
  have h96 := hx.1
  refine R_takes (c := 32) hx ht (by omega) (by decide) (fun e => ?_) (fun e => ?_)
  · have hlt := hx.lt (a := a) (by omega)
    refine And.intro (fun (g : (1 : Int32) = 0) => absurd g (by decide)) (fun _ => ?_)
    refine R_binding (rc := rc) (i1 := i1) (bs := bs) hx ht (by omega) hd hn hk hf1 hi1 hch hbs (fun q => ?_) (fun a' r' d' q1 q2 q3 => ?_)
    · refine And.intro (fun (g : (1 : Int32) = 0) => absurd g (by decide)) (fun _ => ?_)
      exact h1 e q
    · refine And.intro (fun _ => ?_) (fun g => absurd rfl g)
      exact h0 a' r' d' e q1 q2 q3
  · refine And.intro (fun _ => ?_) (fun g => absurd rfl g)
    exact h2 e
theorem R_go6a {rc : Bool} {i1 : Nat} (hx : txOK r.text len tx) (ht : r.typed = nI len) (ha : a ≤ len) (hd : d ≤ 9) (hn : n < 100) (hk : r.kind n = if rc = true then 7 else 6) (hm : r.many n = 1) (hf1 : r.first n = nI i1) (hi1 : i1 < 100) (hch : r.next i1 = -1)
    (h1 : tx a = 32 → gB0 tx rc d (a + 1) [] = none → Q (.inl (some (.int 1)), (cW s (rW (pdR (ltR r (3 * n) (nI (tx (a + 1 + 1)))) (a + 1 + 1 + 1 + 1) (d + 1)) tl), b0, b1, op)))
    (h0 : ∀ a' r' d', tx a = 32 → gB0 tx rc d (a + 1) [] = some a' → a' ≤ len → kr r r' → Q (.inl (some (.int (-1))), (cW s (rW (pdR r' a' d') tl), b0, b1, op)))
    (h2 : ¬ tx a = 32 → Q (.inl (some (.int (-1))), (cW s (rW (pdR r a d) tl), b0, b1, op))) :
    mj_Mt gT cst gnw (m + 4) y_R_goOn [.ref 27, .int (nI n)] (cW s (rW (pdR r a d) tl), b0, b1, op) Q := by
  have hin : vp_in (nI n) 100 := vp_in_nI hn (by decide)
  have ekn : (nI n).toNatClampNeg = n := nI_clamp (by omega)
  have hkk : r.kind n = 6 ∨ r.kind n = 7 := by
    cases rc with
    | false => exact Or.inl hk
    | true => exact Or.inr hk
  have n3 : ¬ r.kind n = 3 := by rcases hkk with e | e <;> rw [e] <;> decide
  have n4 : ¬ r.kind n = 4 := by rcases hkk with e | e <;> rw [e] <;> decide
  intro J hJ
  have go : ∀ F : Nat, mj_sg (mj_Mt gT cst gnw (m + 3)) cst gnw (mj_hd (mj_off kO_R_goOn) kH_R_goOn) kC_R_goOn J Q (F + 100) false 55 [some (.ref 27), some (.int (nI n))] [] (cW s (rW (pdR r a d) tl), b0, b1, op) := by
    intro F
    refine And.intro hin ?_
    rw [ekn]
    refine And.intro (fun _ => ?_) (fun (g : ¬ r.many n ≤ 1) => absurd (by rw [hm]; decide) g)
    refine And.intro hin ?_
    rw [ekn]
    refine And.intro (fun _ => ?_) (fun (g : ¬ r.many n = 1) => absurd hm g)
    exact G_96 (rc := rc) (i1 := i1) (bs := []) hx ht ha hd hn hk hf1 hi1 hch (fun c hc => absurd hc List.not_mem_nil) h1 h0 h2 _
  refine hJ _ _ _ _ ?_
  refine And.intro hin ?_
  rw [ekn]
  refine And.intro (fun _ => ?_) (fun (g : r.kind n = 3) => absurd g n3)
  refine And.intro hin ?_
  rw [ekn]
  refine And.intro (fun _ => ?_) (fun (g : r.kind n = 4) => absurd g n4)
  refine And.intro hin ?_
  rw [ekn]
  refine And.intro (fun _ => go _) (fun (g : ¬ r.kind n = 6) => ?_)
  refine And.intro hin ?_
  rw [ekn]
  exact And.intro (fun (g2 : ¬ r.kind n = 7) => (hkk.elim (fun e => absurd e g) (fun e => absurd e g2))) (fun _ => go _)
theorem R_go6b {rc : Bool} {i1 l k : Nat} {bs : List Nat} (hx : txOK r.text len tx) (ht : r.typed = nI len) (ha : a ≤ len) (hd : d + 1 ≤ 9) (hn : n < 100) (hk : r.kind n = if rc = true then 7 else 6) (hm : r.many n = nI k) (hk2 : 2 ≤ k) (hk10 : k ≤ 10) (hf1 : r.first n = nI i1) (hi1 : i1 < 100) (hl : r.last n = nI l) (hl100 : l < 100) (hch : chL r.next (upd r.bound l (r.letters (3 * n))) (bs.map nI) (r.next i1)) (hbs : ∀ c ∈ bs, c < 256)
    (hc0 : ¬ tx a = 41 → Q (.inl (some (.int (-1))), (cW s (rW (pdR (boR r l (r.letters (3 * n))) a (d + 1 + 1)) tl), b0, b1, op)))
    (h1 : tx a = 41 → k < 4 → tx (a + 1) = 32 → gB0 tx rc (d + 1) (a + 1 + 1) bs = none → Q (.inl (some (.int 1)), (cW s (rW (pdR (ltR (boR r l (r.letters (3 * n))) (3 * n) (nI (tx (a + 1 + 1 + 1)))) (a + 1 + 1 + 1 + 1 + 1) (d + 1 + 1)) tl), b0, b1, op)))
    (h0 : ∀ a' r' d', tx a = 41 → k < 4 → tx (a + 1) = 32 → gB0 tx rc (d + 1) (a + 1 + 1) bs = some a' → a' ≤ len → kr r r' → Q (.inl (some (.int (-1))), (cW s (rW (pdR r' a' d') tl), b0, b1, op)))
    (h3 : tx a = 41 → ¬ (k < 4 ∧ tx (a + 1) = 32) → tx (a + 1) = 41 → Q (.inl (some (.int 0)), (cW s (rW (pdR (boR r l (r.letters (3 * n))) (a + 1 + 1) d) tl), b0, b1, op)))
    (h4 : tx a = 41 → ¬ (k < 4 ∧ tx (a + 1) = 32) → ¬ tx (a + 1) = 41 → Q (.inl (some (.int (-1))), (cW s (rW (pdR (boR r l (r.letters (3 * n))) (a + 1) (d + 1)) tl), b0, b1, op))) :
    mj_Mt gT cst gnw (m + 4) y_R_goOn [.ref 27, .int (nI n)] (cW s (rW (pdR r a (d + 1 + 1)) tl), b0, b1, op) Q := by
  have h96 := hx.1
  have hin : vp_in (nI n) 100 := vp_in_nI hn (by decide)
  have ekn : (nI n).toNatClampNeg = n := nI_clamp (by omega)
  have hkk : r.kind n = 6 ∨ r.kind n = 7 := by
    cases rc with
    | false => exact Or.inl hk
    | true => exact Or.inr hk
  have n3 : ¬ r.kind n = 3 := by rcases hkk with e | e <;> rw [e] <;> decide
  have n4 : ¬ r.kind n = 4 := by rcases hkk with e | e <;> rw [e] <;> decide
  have i3 : Int32.ofInt 3 * nI n = nI (3 * n) := three_n n
  intro J hJ
  have go79 : tx a = 41 → ∀ F : Nat, mj_sg (mj_Mt gT cst gnw (m + 3)) cst gnw (mj_hd (mj_off kO_R_goOn) kH_R_goOn) kC_R_goOn J Q (F + 60) false 79 [some (.ref 27), some (.int (nI n))] [] (cW s (rW (pdR (boR r l (r.letters (3 * n))) (a + 1) (d + 1)) tl), b0, b1, op) := by
    intro e41 F
    have hlt := hx.lt (a := a) (by omega)
    have hc1 := hx.le (a + 1)
    refine And.intro hin ?_
    rw [ekn]
    refine And.intro (fun (g : r.many n = 1) => ?_) (fun _ => ?_)
    · rw [hm] at g
      have := nIj (j := 1) (by omega) (by decide) g
      omega
    refine And.intro hin ?_
    rw [ekn]
    refine And.intro (fun (g : (4 : Int32) ≤ r.many n) => ?_) (fun (g : ¬ (4 : Int32) ≤ r.many n) => ?_)
    · rw [hm] at g
      have hk4 : ¬ k < 4 := fun w => nI_ge (b := 4) w (by decide) g
      exact G_108 (r := boR r l (r.letters (3 * n))) hx ht (by omega) (h3 e41 (fun w => hk4 w.1)) (h4 e41 (fun w => hk4 w.1)) _
    · rw [hm] at g
      have hk4 : k < 4 := Nat.lt_of_not_le (fun w => g (nI_le (a := 4) w (by omega)))
      refine R_here0 (r := boR r l (r.letters (3 * n))) hx ht (by omega) ?_
      refine And.intro (fun (g2 : ¬ nI (tx (a + 1)) = 32) => ?_) (fun (g2 : nI (tx (a + 1)) = 32) => ?_)
      · have n32 : ¬ tx (a + 1) = 32 := fun e => g2 (by rw [e]; rfl)
        exact G_108 (r := boR r l (r.letters (3 * n))) hx ht (by omega) (h3 e41 (fun w => n32 w.2)) (h4 e41 (fun w => n32 w.2)) _
      · have e32 : tx (a + 1) = 32 := nIj (j := 32) (by omega) (by decide) g2
        exact G_96 (r := boR r l (r.letters (3 * n))) (rc := rc) (i1 := i1) (bs := bs) hx ht (by omega) hd hn hk hf1 hi1 hch hbs (fun _ => h1 e41 hk4 e32) (fun a' r' d' _ => h0 a' r' d' e41 hk4 e32) (fun w => absurd e32 w) _
  have go : ∀ F : Nat, mj_sg (mj_Mt gT cst gnw (m + 3)) cst gnw (mj_hd (mj_off kO_R_goOn) kH_R_goOn) kC_R_goOn J Q (F + 100) false 55 [some (.ref 27), some (.int (nI n))] [] (cW s (rW (pdR r a (d + 1 + 1)) tl), b0, b1, op) := by
    intro F
    refine And.intro hin ?_
    rw [ekn]
    refine And.intro (fun (g : r.many n ≤ 1) => ?_) (fun _ => ?_)
    · rw [hm] at g
      have := (nI_leI (b := 1) (by omega) (by decide)).mp g
      omega
    refine And.intro hin ?_
    have el : (pdR r a (d + 1 + 1)).last (nI n).toNatClampNeg = nI l := by
      rw [ekn]
      exact hl
    rw [el]
    refine And.intro (show vp_in (Int32.ofInt 3 * nI n) 300 by rw [i3]; exact vp_in_nI (by omega) (by decide)) ?_
    refine And.intro (vp_in_nI hl100 (by decide)) ?_
    have key : ∀ B : Nat → Int32, B = upd r.bound l (r.letters (3 * n)) → ∀ F : Nat, mj_sg (mj_Mt gT cst gnw (m + 3)) cst gnw (mj_hd (mj_off kO_R_goOn) kH_R_goOn) kC_R_goOn J Q (F + 80) false 74 [some (.ref 27), some (.int (nI n))] [] (cW s (rW ((pdR r a (d + 1 + 1)).s_bound B) tl), b0, b1, op) := by
      rintro B rfl F
      refine R_closes (r := boR r l (r.letters (3 * n))) (a := a) (d := d + 1) hx ht (by omega) (fun e => ?_) (fun e => ?_)
      · refine And.intro (fun _ => go79 e _) (fun (g : (1 : Int32) = 0) => absurd g (by decide))
      · refine And.intro (fun g => absurd rfl g) (fun _ => ?_)
        exact hc0 e
    refine key (upd r.bound (nI l).toNatClampNeg (r.letters (Int32.ofInt 3 * nI n).toNatClampNeg)) ?_ _
    rw [i3, nI_clamp (by omega), nI_clamp (by omega)]
  refine hJ _ _ _ _ ?_
  refine And.intro hin ?_
  rw [ekn]
  refine And.intro (fun _ => ?_) (fun (g : r.kind n = 3) => absurd g n3)
  refine And.intro hin ?_
  rw [ekn]
  refine And.intro (fun _ => ?_) (fun (g : r.kind n = 4) => absurd g n4)
  refine And.intro hin ?_
  rw [ekn]
  refine And.intro (fun _ => go _) (fun (g : ¬ r.kind n = 6) => ?_)
  refine And.intro hin ?_
  rw [ekn]
  exact And.intro (fun (g2 : ¬ r.kind n = 7) => (hkk.elim (fun e => absurd e g) (fun e => absurd e g2))) (fun _ => go _)
end RD6
end
section
theorem cKL_ag2 {P P' : Nat → Nat → Tau → Prop} {nx bo nx' bo' : Nat → Int32} (hlt : ∀ i m t, P i m t → i < m) : ∀ (ks : List Kd) (i l m : Nat), (∀ a b t, i ≤ a → b ≤ m → (b ≤ l ∨ a = l) → P a b t → P' a b t) → (∀ a, i ≤ a → a < l → nx' a = nx a) → (∀ a, i ≤ a → a ≤ l → bo' a = bo a) → cKL P nx bo ks i l m → cKL P' nx' bo' ks i l m
  | [], _, _, _, _, _, _, h => absurd h id
  | k :: [], i, l, m, hP, hn, hb, h => by
    obtain ⟨rfl, h2, h3⟩ := h
    exact ⟨rfl, hP _ _ _ (Nat.le_refl _) (Nat.le_refl _) (Or.inr rfl) h2, by rw [hb i (Nat.le_refl _) (Nat.le_refl _)]; exact h3⟩
  | k :: k2 :: ks, i, l, m, hP, hn, hb, h => by
    obtain ⟨j, h1, h2, h3, h4⟩ := h
    have c1 := hlt _ _ _ h1
    have c2 := cKL_lt hlt (k2 :: ks) j l m h4
    exact ⟨j, hP _ _ _ (Nat.le_refl _) (by omega) (Or.inl c2.1) h1, by rw [hb i (Nat.le_refl _) (by omega)]; exact h2, by rw [hn i (Nat.le_refl _) (by omega)]; exact h3, cKL_ag2 hlt (k2 :: ks) j l m (fun a b t q => hP a b t (by omega)) (fun a q => hn a (by omega)) (fun a q => hb a (by omega)) h4⟩
theorem cKL_bo {P P' : Nat → Nat → Tau → Prop} {nx bo : Nat → Int32} {t : Tau} {x y : Int32} (hlt : ∀ i m t, P i m t → i < m) : ∀ (ks : List Kd) (i l m : Nat), (∀ a b t, i ≤ a → b ≤ m → (b ≤ l ∨ a = l) → P a b t → P' a b t) → cKL P nx bo (ks ++ [(t, y)]) i l m → cKL P' nx (upd bo l x) (ks ++ [(t, x)]) i l m
  | [], i, l, m, hP, h => by
    obtain ⟨rfl, h2, h3⟩ := h
    exact ⟨rfl, hP _ _ _ (Nat.le_refl _) (Nat.le_refl _) (Or.inr rfl) h2, if_pos rfl⟩
  | k :: ks, i, l, m, hP, h => by
    have e : ∀ z : Int32, ∃ k2 ks2, ks ++ [(t, z)] = k2 :: ks2 := by
      intro z
      cases ks with
      | nil => exact ⟨_, _, rfl⟩
      | cons k2 ks => exact ⟨_, _, rfl⟩
    obtain ⟨k2, ks2, e2⟩ := e y
    obtain ⟨k3, ks3, e3⟩ := e x
    have h : cKL P nx bo (k :: (ks ++ [(t, y)])) i l m := h
    rw [e2] at h
    obtain ⟨j, h1, h2, h3, h4⟩ := h
    have c1 := hlt _ _ _ h1
    have c2 := cKL_lt hlt (k2 :: ks2) j l m h4
    rw [← e2] at h4
    have h5 := cKL_bo (x := x) hlt ks j l m (fun a b t q => hP a b t (by omega)) h4
    show cKL P' nx (upd bo l x) (k :: (ks ++ [(t, x)])) i l m
    rw [e3] at h5 ⊢
    refine ⟨j, hP _ _ _ (Nat.le_refl _) (by omega) (Or.inl c2.1) h1, ?_, h3, h5⟩
    show (if i = l then x else bo i) = k.2
    rw [if_neg (by omega)]
    exact h2
def IN (tx : Nat → Nat) (f : Nat) (r0 r : rM) (n : Nat) (u : Option Nat) (ks : List Kd) (l mm : Nat) (kd : Int32) : Prop := FM r0 r n u ∧ r.parts = nI mm ∧ (cKL (fun i m t => cR tx r f i m t ∧ r.parent i = nI n) r.next r.bound ks (n + 1) l mm ∧ r.next l = -1 ∧ r.first n = nI (n + 1) ∧ r.last n = nI l ∧ r.many n = nI ks.length) ∧ (r.kind n = kd ∧ r.parent n = oV u ∧ r.next n = -1 ∧ r.bound n = 0)
theorem IN_lt {tx : Nat → Nat} {f : Nat} {r0 r : rM} {n : Nat} {u : Option Nat} {ks : List Kd} {l mm : Nat} {kd : Int32} (h : IN tx f r0 r n u ks l mm kd) : n < l ∧ l < mm := by
  have := cKL_lt (fun i m t w => cR_lt (tx := tx) (r := r) f i m t w.1) ks _ _ _ h.2.2.1.1
  omega
theorem IN_first {tx : Nat → Nat} {f : Nat} {r0 r1 r2 : rM} {n a e : Nat} {u : Option Nat} {t : Tau} {kd : Int32} (hn : n < 100) (h1 : BG r0 r1 n a u kd) (h2 : FM r1 r2 (n + 1) (some n)) (hp : r2.parts = nI e) (hk : cR tx r2 f (n + 1) e t) (hpa : r2.parent (n + 1) = nI n) (hx : r2.next (n + 1) = -1) (hb : r2.bound (n + 1) = 0) :
    IN tx f r0 r2 n u [(t, 0)] (n + 1) e kd ∧ r2.value n = r1.value n ∧ (∀ i, i < 3 * n + 3 → r2.letters i = r1.letters i) := by
  obtain ⟨b1, b2, ⟨b3, b4, b5⟩, b6, b7, b8, b9, b10⟩ := h1
  have hneg : r1.first n < 0 := by rw [b6]; decide
  have hbel : AG r1 r2 n := FM_below (l := 0) h2 (by omega) (by omega) (fun w => absurd hneg w)
  obtain ⟨a1, a2, a3, a4, a5, a6⟩ := h2
  obtain ⟨c1, c2, c3, c4⟩ := a6 n rfl (by omega)
  obtain ⟨d1, d2, d3, d4, d5, d6⟩ := a2 n (by omega)
  rw [if_pos hneg] at c1
  refine ⟨⟨FM_AG b1 hbel, hp, ⟨⟨rfl, ⟨hk, hpa⟩, hb⟩, hx, c1, c2, ?_⟩, d1.trans b4, d5.trans b3, ?_, d6.trans b10⟩, d2, fun i hi => a3 i (by omega)⟩
  · rw [c3, b9]
    rfl
  · rw [a5 n (by omega) (fun v hv w => by cases hv; exact absurd hneg w)]
    exact b8
theorem IN_next {tx : Nat → Nat} {f : Nat} {r0 r2 r3 : rM} {n e l mm : Nat} {u : Option Nat} {ks : List Kd} {t : Tau} {kd : Int32} (hm : mm < 100) (h1 : IN tx f r0 r2 n u ks l mm kd) (h2 : FM r2 r3 mm (some n)) (hp : r3.parts = nI e) (hk : cR tx r3 f mm e t) (hpa : r3.parent mm = nI n) (hx : r3.next mm = -1) (hb : r3.bound mm = 0) :
    IN tx f r0 r3 n u (ks ++ [(t, 0)]) mm e kd ∧ r3.value n = r2.value n ∧ (∀ i, i < 3 * mm → r3.letters i = r2.letters i) := by
  have hlt := IN_lt h1
  obtain ⟨b1, b2, ⟨b3, b4, b5, b6, b7⟩, b8, b9, b10, b11⟩ := h1
  have hpos : ¬ r2.first n < 0 := by rw [b5]; exact nI_pos (by omega)
  have hbel : AG r2 r3 n := FM_below (l := l) h2 (by omega) (by omega) (fun _ => ⟨b6, hlt.1, hlt.2⟩)
  obtain ⟨a1, a2, a3, a4, a5, a6⟩ := h2
  obtain ⟨c1, c2, c3, c4⟩ := a6 n rfl (by omega)
  obtain ⟨d1, d2, d3, d4, d5, d6⟩ := a2 n (by omega)
  rw [if_neg hpos] at c1
  have nxt : ∀ i, i < mm → ¬ i = l → r3.next i = r2.next i := by
    intro i hi hne
    refine a5 i hi (fun v hv w1 w2 => ?_)
    cases hv
    rw [b6] at w2
    exact hne (nIj (by omega) (by omega) w2).symm
  have nl : r3.next l = nI mm := c4 l hlt.2 hpos b6
  have old : cKL (fun i m t => cR tx r3 f i m t ∧ r3.parent i = nI n) r3.next r3.bound ks (n + 1) l mm := by
    refine cKL_ag2 (fun i m t w => cR_lt (tx := tx) (r := r2) f i m t w.1) ks _ _ _ (fun a b t q1 q2 q3 q4 => ?_) (fun a q1 q2 => nxt a (by omega) (by omega)) (fun a q1 q2 => (a2 a (by omega)).2.2.2.2.2) b3
    have qlt := cR_lt f a b t q4.1
    refine ⟨cR_ag f a b t ⟨fun i w1 w2 => ?_, fun i w1 w2 => a3 i (by omega), fun i w1 w2 => ⟨nxt i (by omega) (by omega), (a2 i (by omega)).2.2.2.2.2, (a2 i (by omega)).2.2.2.2.1⟩⟩ q4.1, (a2 a (by omega)).2.2.2.2.1.trans q4.2⟩
    obtain ⟨g1, g2, g3, g4, -⟩ := a2 i (by omega)
    exact ⟨g1, g2, g3, g4, (a4 i (by omega) (fun w => by cases w; omega)).1⟩
  refine ⟨⟨FM_AG b1 hbel, hp, ⟨cKL_app ks _ _ _ old nl ⟨hk, hpa⟩ hb, hx, c1.trans b5, c2, ?_⟩, d1.trans b8, d5.trans b9, ?_, d6.trans b11⟩, d2, a3⟩
  · rw [c3, b7, List.length_append]
    exact (nI_succ _).symm
  · rw [nxt n (by omega) (by omega)]
    exact b10
theorem IN_lt3 {tx : Nat → Nat} {f : Nat} {r0 r : rM} {n : Nat} {u : Option Nat} {ks : List Kd} {l mm : Nat} {kd x : Int32} (h : IN tx f r0 r n u ks l mm kd) : IN tx f r0 (ltR r (3 * n) x) n u ks l mm kd := by
  have hlt := IN_lt h
  obtain ⟨b1, b2, ⟨b3, b4⟩, b5⟩ := h
  refine ⟨FM_AG b1 ⟨rfl, fun i hi => ⟨⟨rfl, rfl, rfl, rfl, rfl, rfl⟩, rfl, rfl, rfl, rfl⟩, fun i hi => upd_lt _ _ hi⟩, b2, ⟨?_, b4⟩, b5⟩
  refine cKL_ag2 (fun i m t w => cR_lt (tx := tx) (r := r) f i m t w.1) ks _ _ _ (fun a b t q1 q2 q3 q4 => ?_) (fun a _ _ => rfl) (fun a _ _ => rfl) b3
  refine ⟨cR_ag (r := r) (r' := ltR r (3 * n) x) f a b t ⟨fun i _ _ => ⟨rfl, rfl, rfl, rfl, rfl⟩, fun i w1 w2 => ?_, fun i _ _ => ⟨rfl, rfl, rfl⟩⟩ q4.1, q4.2⟩
  show (if i = 3 * n then x else r.letters i) = r.letters i
  rw [if_neg (by omega)]
theorem IN_bo {tx : Nat → Nat} {f : Nat} {r0 r : rM} {n : Nat} {u : Option Nat} {ks : List Kd} {t : Tau} {l mm : Nat} {kd x y : Int32} (h : IN tx f r0 r n u (ks ++ [(t, y)]) l mm kd) : IN tx f r0 (boR r l x) n u (ks ++ [(t, x)]) l mm kd := by
  have hlt := IN_lt h
  obtain ⟨b1, b2, ⟨b3, b4, b5, b6, b7⟩, b8, b9, b10, b11⟩ := h
  have ub : ∀ i, ¬ i = l → upd r.bound l x i = r.bound i := fun i hi => if_neg hi
  refine ⟨FM_AG b1 ⟨rfl, fun i hi => ⟨⟨rfl, rfl, rfl, rfl, rfl, ub i (by omega)⟩, rfl, rfl, rfl, rfl⟩, fun i hi => rfl⟩, b2, ⟨?_, b4, b5, b6, ?_⟩, b8, b9, b10, (ub n (by omega)).trans b11⟩
  · refine cKL_bo (fun i m t w => cR_lt (tx := tx) (r := r) f i m t w.1) ks _ _ _ (fun a b t q1 q2 q3 q4 => ?_) b3
    exact ⟨cR_ag (r := r) (r' := boR r l x) f a b t ⟨fun i _ _ => ⟨rfl, rfl, rfl, rfl, rfl⟩, fun i w1 w2 => rfl, fun i w1 w2 => ⟨rfl, ub i (by omega), rfl⟩⟩ q4.1, q4.2⟩
  · have e1 : (ks ++ [(t, y)]).length = (ks ++ [(t, x)]).length := by rw [List.length_append, List.length_append]; rfl
    rw [← e1]
    exact b7
theorem IN_cR {tx : Nat → Nat} {f : Nat} {r0 r : rM} {n : Nat} {u : Option Nat} {ks : List Kd} {l mm : Nat} {kd : Int32} {t : Tau} (h : IN tx f r0 r n u ks l mm kd) (ht : cT r n ks t) : cR tx r (f + 1) n mm t := Or.inr (Or.inr (Or.inr ⟨ks, l, h.2.2.1.1, h.2.2.1.2.1, h.2.2.1.2.2.1, ht⟩))
end
section
def PO (kd at_ : Nat → Int32) (n e a a' : Nat) : Prop := a ≤ a' ∧ (∀ i, n ≤ i → i < e → kd i = 1 → a ≤ pn at_ i ∧ pn at_ i < a') ∧ (∀ i j, n ≤ i → i < j → j < e → kd i = 1 → kd j = 1 → pn at_ i < pn at_ j)
theorem PO_leaf {kd at_ : Nat → Int32} {n a a' : Nat} (h : at_ n = nI a) (ha : a ≤ 96) (h1 : a < a') : PO kd at_ n (n + 1) a a' := by
  refine ⟨by omega, fun i q1 q2 _ => ?_, fun i j q1 q2 q3 _ _ => by omega⟩
  obtain rfl : i = n := by omega
  unfold pn
  rw [h, nI_clamp (by omega)]
  exact ⟨Nat.le_refl _, h1⟩
theorem PO_up {kd at_ : Nat → Int32} {n e a b a' : Nat} (h : PO kd at_ n e b a') (hb : a ≤ b) : PO kd at_ n e a a' := ⟨Nat.le_trans hb h.1, fun i q1 q2 q3 => ⟨Nat.le_trans hb (h.2.1 i q1 q2 q3).1, (h.2.1 i q1 q2 q3).2⟩, h.2.2⟩
theorem PO_own {kd at_ : Nat → Int32} {n e a0 a a2 : Nat} (hk : ¬ kd n = 1) (h : PO kd at_ (n + 1) e a0 a) (ha : a ≤ a2) : PO kd at_ n e a0 a2 := by
  obtain ⟨h0, h1, h2⟩ := h
  refine ⟨by omega, fun i q1 q2 q3 => ?_, fun i j q1 q2 q3 q4 q5 => ?_⟩
  · have w : ¬ i = n := fun w => hk (by rw [← w]; exact q3)
    have := h1 i (by omega) q2 q3
    omega
  · have w : ¬ i = n := fun w => hk (by rw [← w]; exact q4)
    exact h2 i j (by omega) q2 q3 q4 q5
theorem PO_app {r r' : rM} {n mm e a0 a b a' : Nat} {u : Option Nat} (g : FM r r' mm u) (h1 : PO r.kind r.at_ (n + 1) mm a0 a) (h2 : PO r'.kind r'.at_ mm e b a') (hb : a ≤ b) : PO r'.kind r'.at_ (n + 1) e a0 a' := by
  have hk : ∀ i, i < mm → r'.kind i = r.kind i ∧ pn r'.at_ i = pn r.at_ i := fun i hi => by
    obtain ⟨w1, -, w2, -⟩ := g.2.1 i hi
    refine ⟨w1, ?_⟩
    unfold pn
    rw [w2]
  obtain ⟨p0, p1, p2⟩ := h1
  obtain ⟨s0, s1, s2⟩ := h2
  refine ⟨by omega, fun i q1 q2 q3 => ?_, fun i j q1 q2 q3 q4 q5 => ?_⟩
  · rcases Nat.lt_or_ge i mm with w | w
    · obtain ⟨k1, k2⟩ := hk i w
      rw [k1] at q3
      have := p1 i q1 w q3
      omega
    · have := s1 i w q2 q3
      omega
  · rcases Nat.lt_or_ge i mm with w | w
    · obtain ⟨k1, k2⟩ := hk i w
      rw [k1] at q4
      have e1 := p1 i q1 w q4
      rcases Nat.lt_or_ge j mm with v | v
      · obtain ⟨k3, k4⟩ := hk j v
        rw [k3] at q5
        have := p2 i j q1 q2 v q4 q5
        omega
      · have := s1 j v q3 q5
        omega
    · exact s2 i j w q2 q3 q4 q5
def EXP (tx : Nat → Nat) (len b0 b1 : Nat) (op : Bool) (tl : List mj_O) (s : cS) (Q : mj_R → Prop) (J : Nat → mj_L → List Value → mj_H → Prop) (f : Nat) : Prop := ∀ (d a n : Nat) (u : Option Nat) (r : rM) (x3 x4 x5 : Option Value), txOK r.text len tx → r.typed = nI len → a ≤ len → d ≤ 9 → 10 ≤ f + d → n ≤ a → r.parts = nI n → (∀ v, u = some v → v < n ∧ (r.first v < 0 ∨ ∃ l, l < n ∧ r.last v = nI l ∧ ¬ r.first v < 0)) →
  (∀ (t : Tau) (a' e : Nat) (r' : rM) (w3 w4 : Int32), gEx tx f d a = .inl (t, a') → FM r r' n u → r'.parts = nI e → r'.parent n = oV u → r'.next n = -1 → r'.bound n = 0 → cR tx r' f n e t → a' ≤ len → e ≤ a' → PO r'.kind r'.at_ n e a a' → J 35 [some (.ref 27), some (.int (oV u)), some (.int (nI (e - 1))), some (.int w3), some (.int w4), some (.int 0)] [] (cW s (rW (pdR r' a' d) tl), b0, b1, op)) →
  (∀ (a' d' : Nat) (r' : rM), gEx tx f d a = .inr a' → a' ≤ len → kr r r' → Q (.inl (some (.int 0)), (cW s (rW (pdR r' a' d') tl), b0, b1, op))) →
  J 13 [some (.ref 27), some (.int (oV u)), some (.int (nI n)), x3, x4, x5] [] (cW s (rW (pdR r a d) tl), b0, b1, op)
section RD7
variable {cst : Nat → Option (Nat × (Nat → Int32))} {m b0 b1 : Nat} {op : Bool} {tl : List mj_O} {Q : mj_R → Prop} {s : cS} {r0 r r1 : rM} {a a0 d n len mm l f : Nat} {tx : Nat → Nat} {J : Nat → mj_L → List Value → mj_H → Prop} {u : Option Nat} {ks : List Kd} {kd : Int32}
set_option maxRecDepth 10000
theorem X_1 {W : mj_H} {w3 w4 : Int32} (hJ : ∀ pc ls st h, mj_sg (mj_Mt gT cst gnw (m + 5)) cst gnw (mj_hd (mj_off kO_R_read) kH_R_read) kC_R_read J Q 400 true pc ls st h → J pc ls st h) (hm : 1 ≤ mm) (h : ∀ x3 x4 x5, J 13 [some (.ref 27), some (.int (nI n)), some (.int (nI mm)), x3, x4, x5] [] W) (F : Nat) :
    mj_sg (mj_Mt gT cst gnw (m + 5)) cst gnw (mj_hd (mj_off kO_R_read) kH_R_read) kC_R_read J Q (F + 20) false 51 [some (.ref 27), some (.int (nI n)), some (.int (nI (mm - 1))), some (.int w3), some (.int w4), some (.int 0)] [.int 1] W := by
  refine And.intro (fun _ => ?_) (fun (g : ¬ (0 : Int32) ≤ 1) => absurd (by decide) g)
  refine And.intro (fun _ => ?_) (fun (g : (1 : Int32) = 0) => absurd g (by decide))
  refine hJ _ _ _ _ ?_
  refine And.intro (fun _ => ?_) (fun (g : (1 : Int32) = 0) => absurd g (by decide))
  have key : ∀ x : Int32, x = nI mm → J 13 [some (.ref 27), some (.int (nI n)), some (.int x), some (.int w3), some (.int w4), some (.int 1)] [] W := by
    rintro x rfl
    exact h _ _ _
  refine key _ ?_
  have e := nI_succ (mm - 1)
  rw [show mm - 1 + 1 = mm by omega] at e
  exact e.symm
theorem X_0 {x2 : Int32} {w3 w4 : Int32} (hJ : ∀ pc ls st h, mj_sg (mj_Mt gT cst gnw (m + 5)) cst gnw (mj_hd (mj_off kO_R_read) kH_R_read) kC_R_read J Q 400 true pc ls st h → J pc ls st h) (hn : n < 100) (hp : r.parent n = oV u) (h : J 35 [some (.ref 27), some (.int (oV u)), some (.int x2), some (.int w3), some (.int w4), some (.int 0)] [] (cW s (rW (pdR r a d) tl), b0, b1, op)) (F : Nat) :
    mj_sg (mj_Mt gT cst gnw (m + 5)) cst gnw (mj_hd (mj_off kO_R_read) kH_R_read) kC_R_read J Q (F + 20) false 51 [some (.ref 27), some (.int (nI n)), some (.int x2), some (.int w3), some (.int w4), some (.int 0)] [.int 0] (cW s (rW (pdR r a d) tl), b0, b1, op) := by
  refine And.intro (fun _ => ?_) (fun (g : ¬ (0 : Int32) ≤ 0) => absurd (by decide) g)
  refine And.intro (fun (g : ¬ (0 : Int32) = 0) => absurd rfl g) (fun _ => ?_)
  refine And.intro (vp_in_nI hn (by decide)) ?_
  have key : ∀ x : Int32, x = oV u → J 35 [some (.ref 27), some (.int x), some (.int x2), some (.int w3), some (.int w4), some (.int 0)] [] (cW s (rW (pdR r a d) tl), b0, b1, op) := by
    rintro x rfl
    exact h
  refine key _ ?_
  show r.parent (nI n).toNatClampNeg = oV u
  rw [nI_clamp (by omega)]
  exact hp
theorem X_f {W : mj_H} {x2 : Int32} {w3 w4 : Int32} (h : Q (.inl (some (.int 0)), W)) (F : Nat) :
    mj_sg (mj_Mt gT cst gnw (m + 5)) cst gnw (mj_hd (mj_off kO_R_read) kH_R_read) kC_R_read J Q (F + 20) false 51 [some (.ref 27), some (.int (nI n)), some (.int x2), some (.int w3), some (.int w4), some (.int 0)] [.int (-1)] W := by
  refine And.intro (fun (g : (0 : Int32) ≤ -1) => absurd g (by decide)) (fun _ => ?_)
  exact And.intro (Or.inl rfl) h
theorem X_go {x2 : Int32} {w3 w4 : Int32} (hJ : ∀ pc ls st h, mj_sg (mj_Mt gT cst gnw (m + 5)) cst gnw (mj_hd (mj_off kO_R_read) kH_R_read) kC_R_read J Q 400 true pc ls st h → J pc ls st h) (hn : n < 100) (h : ∀ Q' : mj_R → Prop, (∀ (x : Int32) (W' : mj_H), (∀ F : Nat, mj_sg (mj_Mt gT cst gnw (m + 5)) cst gnw (mj_hd (mj_off kO_R_read) kH_R_read) kC_R_read J Q (F + 20) false 51 [some (.ref 27), some (.int (nI n)), some (.int x2), some (.int w3), some (.int w4), some (.int 0)] [.int x] W') → Q' (.inl (some (.int x)), W')) → mj_Mt gT cst gnw (m + 5) y_R_goOn [.ref 27, .int (nI n)] (cW s (rW (pdR r a d) tl), b0, b1, op) Q') : J 35 [some (.ref 27), some (.int (nI n)), some (.int x2), some (.int w3), some (.int w4), some (.int 0)] [] (cW s (rW (pdR r a d) tl), b0, b1, op) := by
  refine hJ _ _ _ _ ?_
  refine And.intro (fun (g : ¬ (0 : Int32) = 0) => absurd rfl g) (fun _ => ?_)
  refine And.intro (fun _ => ?_) (fun (g : ¬ (0 : Int32) ≤ nI n) => absurd (nI_le (a := 0) (Nat.zero_le _) (by omega)) g)
  refine h _ (fun x W' hh => ?_)
  exact hh _
theorem IN_kr {tx : Nat → Nat} (h : IN tx f r0 r n u ks l mm kd) : kr r0 r := h.1.1
theorem IN_hu {tx : Nat → Nat} (h : IN tx f r0 r n u ks l mm kd) (hm : mm ≤ 100) : ∀ v, (some n) = some v → v < mm ∧ (r.first v < 0 ∨ ∃ l, l < mm ∧ r.last v = nI l ∧ ¬ r.first v < 0) := by
  intro v hv
  cases hv
  have := IN_lt h
  refine ⟨by omega, Or.inr ⟨l, this.2, h.2.2.1.2.2.2.1, ?_⟩⟩
  rw [h.2.2.1.2.2.1]
  exact nI_pos (by omega)
def SUC (tx : Nat → Nat) (f b0 b1 : Nat) (op : Bool) (tl : List mj_O) (s : cS) (J : Nat → mj_L → List Value → mj_H → Prop) (r0 : rM) (n d len : Nat) (u : Option Nat) (t : Tau) (a' a0 : Nat) : Prop := ∀ (e : Nat) (r' : rM) (w3 w4 : Int32), FM r0 r' n u → r'.parts = nI e → r'.parent n = oV u → r'.next n = -1 → r'.bound n = 0 → cR tx r' (f + 1) n e t → a' ≤ len → e ≤ a' → PO r'.kind r'.at_ n e a0 a' → J 35 [some (.ref 27), some (.int (oV u)), some (.int (nI (e - 1))), some (.int w3), some (.int w4), some (.int 0)] [] (cW s (rW (pdR r' a' d) tl), b0, b1, op)
def FAI (b0 b1 : Nat) (op : Bool) (tl : List mj_O) (s : cS) (Q : mj_R → Prop) (r0 : rM) (len a' : Nat) : Prop := ∀ (d' : Nat) (r' : rM), a' ≤ len → kr r0 r' → Q (.inl (some (.int 0)), (cW s (rW (pdR r' a' d') tl), b0, b1, op))
theorem X_sign (hJ : ∀ pc ls st h, mj_sg (mj_Mt gT cst gnw (m + 5)) cst gnw (mj_hd (mj_off kO_R_read) kH_R_read) kC_R_read J Q 400 true pc ls st h → J pc ls st h) (hE : EXP tx len b0 b1 op tl s Q J f) {c : Nat} (hc : c < 256) (hcp : 0 < ar c) (hd : d + 1 ≤ 9) (hfd : 10 ≤ f + (d + 1)) :
    ∀ (j a l mm : Nat) (ks : List Kd) (r : rM) (w3 w4 : Int32), txOK r.text len tx → r.typed = nI len → a ≤ len → mm ≤ a → IN tx f r0 r n u ks l mm 3 → PO r.kind r.at_ (n + 1) mm a0 a → r.value n = nI c → ks.length + j = ar c → (∀ t a', gAr tx (gEx tx f (d + 1)) c j a ks = .inl (t, a') → SUC tx f b0 b1 op tl s J r0 n d len u t a' a0) → (∀ a', gAr tx (gEx tx f (d + 1)) c j a ks = .inr a' → FAI b0 b1 op tl s Q r0 len a') →
      J 35 [some (.ref 27), some (.int (nI n)), some (.int (nI (mm - 1))), some (.int w3), some (.int w4), some (.int 0)] [] (cW s (rW (pdR r a (d + 1)) tl), b0, b1, op) := by
  have ha3 := ar_le c
  intro j
  induction j with
  | zero =>
    intro a l mm ks r w3 w4 hx ht ha hma hI hP hv hk hs hf
    have h96 := hx.1
    have hlt := IN_lt hI
    refine X_go hJ (by omega) (fun Q' hQ' => ?_)
    have e0 : gAr tx (gEx tx f (d + 1)) c 0 a ks = gCl tx (sgT c ks) a := rfl
    rw [e0] at hs hf
    unfold gCl at hs hf
    refine R_go3 (k := ks.length) (c := c) (by omega) hI.2.2.2.1 hv hc hI.2.2.1.2.2.2.2 (by omega) hx ht (by omega) (fun w => by omega) (fun w => by omega) (fun _ e => ?_) (fun _ e => ?_)
    · rw [if_pos e] at hs
      have hlt2 := hx.lt (a := a) (by omega)
      refine hQ' 0 _ (fun F => X_0 hJ (by omega) hI.2.2.2.2.1 ?_ F)
      exact hs _ _ rfl mm r w3 w4 hI.1 hI.2.1 hI.2.2.2.2.1 hI.2.2.2.2.2.1 hI.2.2.2.2.2.2 (IN_cR hI (Or.inl ⟨hI.2.2.2.1, c, hc, hv, hcp, by omega, rfl⟩)) (by omega) (by omega) (PO_own (by rw [hI.2.2.2.1]; decide) hP (by omega))
    · rw [if_neg e] at hf
      refine hQ' (-1) _ (fun F => X_f ?_ F)
      exact hf a rfl _ _ ha (IN_kr hI)
  | succ j ih =>
    intro a l mm ks r w3 w4 hx ht ha hma hI hP hv hk hs hf
    have h96 := hx.1
    have hlt := IN_lt hI
    refine X_go hJ (by omega) (fun Q' hQ' => ?_)
    have e0 : gAr tx (gEx tx f (d + 1)) c (j + 1) a ks = if tx a = 32 then (match gEx tx f (d + 1) (a + 1) with | .inr e => .inr e | .inl (t, a2) => gAr tx (gEx tx f (d + 1)) c j a2 (ks ++ [(t, 0)])) else .inr a := rfl
    rw [e0] at hs hf
    refine R_go3 (k := ks.length) (c := c) (by omega) hI.2.2.2.1 hv hc hI.2.2.1.2.2.2.2 (by omega) hx ht (by omega) (fun _ e => ?_) (fun _ e => ?_) (fun w => absurd (by omega) w) (fun w => absurd (by omega) w)
    · rw [if_pos e] at hs hf
      have hlt2 := hx.lt (a := a) (by omega)
      refine hQ' 1 _ (fun F => X_1 hJ (by omega) (fun x3 x4 x5 => ?_) F)
      refine hE (d + 1) (a + 1) mm (some n) r x3 x4 x5 hx ht (by omega) hd hfd (by omega) hI.2.1 (IN_hu hI (by omega)) (fun t a' e2 r' w3 w4 g1 g2 g3 g4 g5 g6 g7 g9 g10 g11 => ?_) (fun a' d' r' g1 g2 g3 => ?_)
      · rw [g1] at hs hf
        obtain ⟨i1, i2, i3⟩ := IN_next (by omega) hI g2 g3 g7 g4 g5 g6
        have hkx := kr_text g2.1
        exact ih a' mm e2 (ks ++ [(t, 0)]) r' w3 w4 (by rw [hkx.1]; exact hx) (by rw [hkx.2]; exact ht) g9 g10 i1 (PO_app g2 hP g11 (by omega)) (i2.trans hv) (by rw [List.length_append, List.length_cons, List.length_nil]; omega) hs hf
      · rw [g1] at hf
        exact hf a' rfl d' r' g2 (kr_tr (IN_kr hI) g3)
    · rw [if_neg e] at hf
      refine hQ' (-1) _ (fun F => X_f ?_ F)
      exact hf a rfl _ _ ha (IN_kr hI)
theorem X_call (hJ : ∀ pc ls st h, mj_sg (mj_Mt gT cst gnw (m + 5)) cst gnw (mj_hd (mj_off kO_R_read) kH_R_read) kC_R_read J Q 400 true pc ls st h → J pc ls st h) (hE : EXP tx len b0 b1 op tl s Q J f) {h : Kd} (hd : d + 1 ≤ 9) (hfd : 10 ≤ f + (d + 1)) :
    ∀ (j a l mm : Nat) (ks : List Kd) (r : rM) (w3 w4 : Int32), txOK r.text len tx → r.typed = nI len → a ≤ len → mm ≤ a → IN tx f r0 r n u (h :: ks) l mm 4 → PO r.kind r.at_ (n + 1) mm a0 a → ks.length + j = 3 → (∀ t a', gMo tx (gEx tx f (d + 1)) h j a ks = .inl (t, a') → SUC tx f b0 b1 op tl s J r0 n d len u t a' a0) → (∀ a', gMo tx (gEx tx f (d + 1)) h j a ks = .inr a' → FAI b0 b1 op tl s Q r0 len a') →
      J 35 [some (.ref 27), some (.int (nI n)), some (.int (nI (mm - 1))), some (.int w3), some (.int w4), some (.int 0)] [] (cW s (rW (pdR r a (d + 1)) tl), b0, b1, op) := by
  intro j
  induction j with
  | zero =>
    intro a l mm ks r w3 w4 hx ht ha hma hI hP hk hs hf
    have h96 := hx.1
    have hlt := IN_lt hI
    have hkl : (h :: ks).length = ks.length + 1 := rfl
    refine X_go hJ (by omega) (fun Q' hQ' => ?_)
    have e0 : gMo tx (gEx tx f (d + 1)) h 0 a ks = gCl tx (caT h ks) a := rfl
    rw [e0] at hs hf
    unfold gCl at hs hf
    refine R_go4 (k := ks.length + 1) (by omega) hI.2.2.2.1 hI.2.2.1.2.2.2.2 (by omega) hx ht (by omega) (fun w => by omega) (fun _ e => ?_) (fun _ e => ?_)
    · rw [if_pos e] at hs
      have hlt2 := hx.lt (a := a) (by omega)
      refine hQ' 0 _ (fun F => X_0 hJ (by omega) hI.2.2.2.2.1 ?_ F)
      exact hs _ _ rfl mm r w3 w4 hI.1 hI.2.1 hI.2.2.2.2.1 hI.2.2.2.2.2.1 hI.2.2.2.2.2.2 (IN_cR hI (Or.inr (Or.inl ⟨hI.2.2.2.1, h, ks, rfl, by omega, rfl⟩))) (by omega) (by omega) (PO_own (by rw [hI.2.2.2.1]; decide) hP (by omega))
    · rw [if_neg e] at hf
      refine hQ' (-1) _ (fun F => X_f ?_ F)
      exact hf a rfl _ _ ha (IN_kr hI)
  | succ j ih =>
    intro a l mm ks r w3 w4 hx ht ha hma hI hP hk hs hf
    have h96 := hx.1
    have hlt := IN_lt hI
    refine X_go hJ (by omega) (fun Q' hQ' => ?_)
    have e0 : gMo tx (gEx tx f (d + 1)) h (j + 1) a ks = if tx a = 32 then (match gEx tx f (d + 1) (a + 1) with | .inr e => .inr e | .inl (t, a2) => gMo tx (gEx tx f (d + 1)) h j a2 (ks ++ [(t, 0)])) else gCl tx (caT h ks) a := rfl
    rw [e0] at hs hf
    refine R_go4 (k := ks.length + 1) (by omega) hI.2.2.2.1 hI.2.2.1.2.2.2.2 (by omega) hx ht (by omega) (fun _ e => ?_) (fun w e => ?_) (fun w e => ?_)
    · rw [if_pos e] at hs hf
      have hlt2 := hx.lt (a := a) (by omega)
      refine hQ' 1 _ (fun F => X_1 hJ (by omega) (fun x3 x4 x5 => ?_) F)
      refine hE (d + 1) (a + 1) mm (some n) r x3 x4 x5 hx ht (by omega) hd hfd (by omega) hI.2.1 (IN_hu hI (by omega)) (fun t a' e2 r' w3 w4 g1 g2 g3 g4 g5 g6 g7 g9 g10 g11 => ?_) (fun a' d' r' g1 g2 g3 => ?_)
      · rw [g1] at hs hf
        obtain ⟨i1, i2, i3⟩ := IN_next (by omega) hI g2 g3 g7 g4 g5 g6
        have hkx := kr_text g2.1
        exact ih a' mm e2 (ks ++ [(t, 0)]) r' w3 w4 (by rw [hkx.1]; exact hx) (by rw [hkx.2]; exact ht) g9 g10 (by have q := i1; rw [List.cons_append] at q; exact q) (PO_app g2 hP g11 (by omega)) (by rw [List.length_append, List.length_cons, List.length_nil]; omega) hs hf
      · rw [g1] at hf
        exact hf a' rfl d' r' g2 (kr_tr (IN_kr hI) g3)
    · have n32 : ¬ tx a = 32 := fun q => w ⟨by omega, q⟩
      rw [if_neg n32] at hs
      unfold gCl at hs
      rw [if_pos e] at hs
      have hlt2 := hx.lt (a := a) (by omega)
      refine hQ' 0 _ (fun F => X_0 hJ (by omega) hI.2.2.2.2.1 ?_ F)
      exact hs _ _ rfl mm r w3 w4 hI.1 hI.2.1 hI.2.2.2.2.1 hI.2.2.2.2.2.1 hI.2.2.2.2.2.2 (IN_cR hI (Or.inr (Or.inl ⟨hI.2.2.2.1, h, ks, rfl, by omega, rfl⟩))) (by omega) (by omega) (PO_own (by rw [hI.2.2.2.1]; decide) hP (by omega))
    · have n32 : ¬ tx a = 32 := fun q => w ⟨by omega, q⟩
      rw [if_neg n32] at hf
      unfold gCl at hf
      rw [if_neg e] at hf
      refine hQ' (-1) _ (fun F => X_f ?_ F)
      exact hf a rfl _ _ ha (IN_kr hI)
end RD7
end
section
def gCT (tx : Nat → Nat) (pe : Nat → GR) (rc : Bool) (d : Nat) (fin : List Kd → List Nat → Tau) (ks : List Kd) (bs : List Nat) (t : Tau) (c : Nat) : Nat → Nat → GR
  | 0, a => gCl tx (fin (ks ++ [(t, nI c)]) (bs ++ [c])) a
  | k + 1, a => if tx a = 32 then gBi tx pe rc d fin k (a + 1) (ks ++ [(t, nI c)]) (bs ++ [c]) else gCl tx (fin (ks ++ [(t, nI c)]) (bs ++ [c])) a
theorem gBi_e (tx : Nat → Nat) (pe : Nat → GR) (rc : Bool) (d : Nat) (fin : List Kd → List Nat → Tau) (k a : Nat) (ks : List Kd) (bs : List Nat) : gBi tx pe rc d fin k a ks bs = gB1 tx pe rc d a bs (fun t a4 => gCT tx pe rc d fin ks bs t (tx (a + 1)) k a4) := by
  cases k <;> rfl
theorem gB0_c {tx : Nat → Nat} {rc : Bool} {d a : Nat} {bs : List Nat} (h : gB0 tx rc d a bs = none) : cL (tx (a + 1)) = true ∧ d < 9 ∧ tx (a + 1 + 1) = 32 := by
  unfold gB0 at h
  split at h
  · next h1 =>
    split at h
    · next h2 =>
      split at h
      · next h3 => exact ⟨h2.1, h1.2, h3⟩
      · cases h
    · cases h
  · cases h
section RD8
variable {cst : Nat → Option (Nat × (Nat → Int32))} {m b0 b1 : Nat} {op : Bool} {tl : List mj_O} {Q : mj_R → Prop} {s : cS} {r0 r r1 : rM} {a a0 d n len mm l f : Nat} {tx : Nat → Nat} {J : Nat → mj_L → List Value → mj_H → Prop} {u : Option Nat} {ks : List Kd} {kd : Int32}
set_option maxRecDepth 10000
def fiN (rc : Bool) (h : Kd) (ks : List Kd) (ls : List Nat) : Tau := if rc = true then reT h ks ls else leT h ks ls
theorem cT_bi {rc : Bool} {h : Kd} {ls : List Nat} (hk : r.kind n = if rc = true then 7 else 6) (h1 : 1 ≤ ks.length) (h3 : ks.length ≤ 3) (hm : ks.map (fun k => k.2) = ls.map nI) (hl : ∀ c ∈ ls, c < 256) : cT r n (h :: ks) (fiN rc h ks ls) := by
  cases rc with
  | false => exact Or.inr (Or.inr (Or.inr (Or.inl ⟨hk, h, ks, ls, rfl, h1, h3, hm, hl, rfl⟩)))
  | true => exact Or.inr (Or.inr (Or.inr (Or.inr ⟨hk, h, ks, ls, rfl, h1, h3, hm, hl, rfl⟩)))
set_option maxHeartbeats 4000000 in
theorem X_bi (hJ : ∀ pc ls st h, mj_sg (mj_Mt gT cst gnw (m + 5)) cst gnw (mj_hd (mj_off kO_R_read) kH_R_read) kC_R_read J Q 400 true pc ls st h → J pc ls st h) (hE : EXP tx len b0 b1 op tl s Q J f) {rc : Bool} {h : Kd} (hd : d + 1 ≤ 9) (hfd : 10 ≤ f + (d + 1 + 1)) :
    ∀ (j a l mm c : Nat) (ks : List Kd) (bs : List Nat) (t : Tau) (r : rM) (w3 w4 : Int32), txOK r.text len tx → r.typed = nI len → a ≤ len → mm ≤ a → IN tx f r0 r n u (h :: (ks ++ [(t, 0)])) l mm (if rc = true then 7 else 6) → PO r.kind r.at_ (n + 1) mm a0 a → r.letters (3 * n) = nI c → c < 256 → ks.map (fun k => k.2) = bs.map nI → (∀ c ∈ bs, c < 256) → ks.length + j = 2 →
      (∀ t' a', (if tx a = 41 then gCT tx (gEx tx f (d + 2)) rc (d + 1) (fiN rc h) ks bs t c j (a + 1) else .inr a) = .inl (t', a') → SUC tx f b0 b1 op tl s J r0 n d len u t' a' a0) → (∀ a', (if tx a = 41 then gCT tx (gEx tx f (d + 2)) rc (d + 1) (fiN rc h) ks bs t c j (a + 1) else .inr a) = .inr a' → FAI b0 b1 op tl s Q r0 len a') →
      J 35 [some (.ref 27), some (.int (nI n)), some (.int (nI (mm - 1))), some (.int w3), some (.int w4), some (.int 0)] [] (cW s (rW (pdR r a (d + 1 + 1)) tl), b0, b1, op) := by
  intro j
  induction j with
  | zero =>
    intro a l mm c ks bs t r w3 w4 hx ht ha hma hI hP hlt3 hc hmap hbs hk hs hf
    have h96 := hx.1
    have hlt := IN_lt hI
    have hkl : (h :: (ks ++ [(t, 0)])).length = ks.length + 2 := by rw [List.length_cons, List.length_append]; rfl
    have hI0 := hI
    rw [← List.cons_append] at hI0
    have hI2 := IN_bo (x := nI c) hI0
    rw [List.cons_append] at hI2
    have hmap2 : (ks ++ [(t, nI c)]).map (fun k => k.2) = (bs ++ [c]).map nI := by rw [List.map_append, List.map_append, hmap]; rfl
    have hbs2 : ∀ x ∈ bs ++ [c], x < 256 := by
      intro x hx
      rcases List.mem_append.mp hx with w | w
      · exact hbs x w
      · rw [List.mem_singleton.mp w]
        exact hc
    have hch := cKL_ch (fun i m t w => cR_lt (tx := tx) (r := boR r l (nI c)) f i m t w.1) (ks ++ [(t, nI c)]) h _ _ _ hI2.2.2.1.1 hI2.2.2.1.2.1 (by omega)
    rw [hmap2] at hch
    rw [← hlt3] at hch hI2
    refine X_go hJ (by omega) (fun Q' hQ' => ?_)
    refine R_go6b (rc := rc) (i1 := n + 1) (l := l) (k := ks.length + 2) (bs := bs ++ [c]) hx ht ha hd (by omega) hI.2.2.2.1 (by rw [hI.2.2.1.2.2.2.2, hkl]) (by omega) (by omega) hI.2.2.1.2.2.1 (by omega) hI.2.2.1.2.2.2.1 (by omega) hch hbs2 (fun e => ?_) (fun _ w => by omega) (fun _ _ _ _ w => by omega) (fun e _ e2 => ?_) (fun e _ e2 => ?_)
    · rw [if_neg e] at hf
      refine hQ' (-1) _ (fun F => X_f ?_ F)
      exact hf a rfl _ _ ha (IN_kr hI2)
    · rw [if_pos e] at hs
      have hl2 := hx.lt (a := a) (by omega)
      have hl3 := hx.lt (a := a + 1) (by omega)
      have e3 : gCT tx (gEx tx f (d + 2)) rc (d + 1) (fiN rc h) ks bs t c 0 (a + 1) = .inl (fiN rc h (ks ++ [(t, nI c)]) (bs ++ [c]), a + 1 + 1) := if_pos e2
      refine hQ' 0 _ (fun F => X_0 hJ (by omega) hI2.2.2.2.2.1 ?_ F)
      rw [hlt3] at hI2 ⊢
      exact hs _ _ e3 mm (boR r l (nI c)) w3 w4 hI2.1 hI2.2.1 hI2.2.2.2.2.1 hI2.2.2.2.2.2.1 hI2.2.2.2.2.2.2 (IN_cR hI2 (cT_bi hI2.2.2.2.1 (by rw [List.length_append, List.length_cons, List.length_nil]; omega) (by rw [List.length_append, List.length_cons, List.length_nil]; omega) hmap2 hbs2)) (by omega) (by omega) (PO_own (by rw [hI2.2.2.2.1]; cases rc <;> decide) hP (by omega))
    · rw [if_pos e] at hf
      have hl2 := hx.lt (a := a) (by omega)
      have e3 : gCT tx (gEx tx f (d + 2)) rc (d + 1) (fiN rc h) ks bs t c 0 (a + 1) = .inr (a + 1) := if_neg e2
      refine hQ' (-1) _ (fun F => X_f ?_ F)
      exact hf (a + 1) e3 _ _ (by omega) (IN_kr hI2)
  | succ j ih =>
    intro a l mm c ks bs t r w3 w4 hx ht ha hma hI hP hlt3 hc hmap hbs hk hs hf
    have h96 := hx.1
    have hlt := IN_lt hI
    have hkl : (h :: (ks ++ [(t, 0)])).length = ks.length + 2 := by rw [List.length_cons, List.length_append]; rfl
    have hI0 := hI
    rw [← List.cons_append] at hI0
    have hI2 := IN_bo (x := nI c) hI0
    rw [List.cons_append] at hI2
    have hmap2 : (ks ++ [(t, nI c)]).map (fun k => k.2) = (bs ++ [c]).map nI := by rw [List.map_append, List.map_append, hmap]; rfl
    have hbs2 : ∀ x ∈ bs ++ [c], x < 256 := by
      intro x hx
      rcases List.mem_append.mp hx with w | w
      · exact hbs x w
      · rw [List.mem_singleton.mp w]
        exact hc
    have hch := cKL_ch (fun i m t w => cR_lt (tx := tx) (r := boR r l (nI c)) f i m t w.1) (ks ++ [(t, nI c)]) h _ _ _ hI2.2.2.1.1 hI2.2.2.1.2.1 (by omega)
    rw [hmap2] at hch
    rw [← hlt3] at hch hI2
    refine X_go hJ (by omega) (fun Q' hQ' => ?_)
    have e9 : gCT tx (gEx tx f (d + 2)) rc (d + 1) (fiN rc h) ks bs t c (j + 1) (a + 1) = if tx (a + 1) = 32 then gBi tx (gEx tx f (d + 2)) rc (d + 1) (fiN rc h) j (a + 1 + 1) (ks ++ [(t, nI c)]) (bs ++ [c]) else gCl tx (fiN rc h (ks ++ [(t, nI c)]) (bs ++ [c])) (a + 1) := rfl
    rw [e9] at hs hf
    refine R_go6b (rc := rc) (i1 := n + 1) (l := l) (k := ks.length + 2) (bs := bs ++ [c]) hx ht ha hd (by omega) hI.2.2.2.1 (by rw [hI.2.2.1.2.2.2.2, hkl]) (by omega) (by omega) hI.2.2.1.2.2.1 (by omega) hI.2.2.1.2.2.2.1 (by omega) hch hbs2 (fun e => ?_) (fun e _ e2 g0 => ?_) (fun a' r' d' e _ e2 g0 g1 g2 => ?_) (fun e w e2 => ?_) (fun e w e2 => ?_)
    · rw [if_neg e] at hf
      refine hQ' (-1) _ (fun F => X_f ?_ F)
      exact hf a rfl _ _ ha (IN_kr hI2)
    · rw [if_pos e, if_pos e2, gBi_e, gB1_e, g0] at hs hf
      obtain ⟨q1, q2, q3⟩ := gB0_c g0
      have hl2 := hx.lt (a := a + 1 + 1 + 1 + 1) (by omega)
      have hcc := hx.le (a + 1 + 1 + 1)
      have hI3 := IN_lt3 (x := nI (tx (a + 1 + 1 + 1))) hI2
      have hl0 : (ltR (boR r l (r.letters (3 * n))) (3 * n) (nI (tx (a + 1 + 1 + 1)))).letters (3 * n) = nI (tx (a + 1 + 1 + 1)) := if_pos rfl
      refine hQ' 1 _ (fun F => X_1 hJ (by omega) (fun x3 x4 x5 => ?_) F)
      refine hE (d + 1 + 1) (a + 1 + 1 + 1 + 1 + 1) mm (some n) (ltR (boR r l (r.letters (3 * n))) (3 * n) (nI (tx (a + 1 + 1 + 1)))) x3 x4 x5 hx ht (by omega) (by omega) hfd (by omega) hI3.2.1 (IN_hu hI3 (by omega)) (fun t2 a' e3 r' w3 w4 g1 g2 g3 g4 g5 g6 g7 g9 g10 g11 => ?_) (fun a' d' r' g1 g2 g3 => ?_)
      · have g1 : gEx tx f (d + 2) (a + 1 + 1 + 1 + 1 + 1) = .inl (t2, a') := g1
        rw [g1] at hs hf
        obtain ⟨i1, i2, i3⟩ := IN_next (by omega) hI3 g2 g3 g7 g4 g5 g6
        have hkx := kr_text g2.1
        rw [hlt3] at i1
        rw [List.cons_append] at i1
        exact ih a' mm e3 (tx (a + 1 + 1 + 1)) (ks ++ [(t, nI c)]) (bs ++ [c]) t2 r' w3 w4 (by rw [hkx.1]; exact hx) (by rw [hkx.2]; exact ht) g9 g10 i1 (PO_app g2 hP g11 (by omega)) ((i3 (3 * n) (by omega)).trans hl0) (by omega) hmap2 hbs2 (by rw [List.length_append, List.length_cons, List.length_nil]; omega) hs hf
      · have g1 : gEx tx f (d + 2) (a + 1 + 1 + 1 + 1 + 1) = .inr a' := g1
        rw [g1] at hf
        exact hf a' rfl d' r' g2 (kr_tr (IN_kr hI3) g3)
    · rw [if_pos e, if_pos e2, gBi_e, gB1_e, g0] at hf
      refine hQ' (-1) _ (fun F => X_f ?_ F)
      exact hf a' rfl _ _ g1 (kr_tr (IN_kr hI) g2)
    · have n32 : ¬ tx (a + 1) = 32 := fun q => w ⟨by omega, q⟩
      rw [if_pos e, if_neg n32] at hs
      have hl2 := hx.lt (a := a) (by omega)
      have hl3 := hx.lt (a := a + 1) (by omega)
      have e3 : gCl tx (fiN rc h (ks ++ [(t, nI c)]) (bs ++ [c])) (a + 1) = .inl (fiN rc h (ks ++ [(t, nI c)]) (bs ++ [c]), a + 1 + 1) := if_pos e2
      refine hQ' 0 _ (fun F => X_0 hJ (by omega) hI2.2.2.2.2.1 ?_ F)
      rw [hlt3] at hI2 ⊢
      exact hs _ _ e3 mm (boR r l (nI c)) w3 w4 hI2.1 hI2.2.1 hI2.2.2.2.2.1 hI2.2.2.2.2.2.1 hI2.2.2.2.2.2.2 (IN_cR hI2 (cT_bi hI2.2.2.2.1 (by rw [List.length_append, List.length_cons, List.length_nil]; omega) (by rw [List.length_append, List.length_cons, List.length_nil]; omega) hmap2 hbs2)) (by omega) (by omega) (PO_own (by rw [hI2.2.2.2.1]; cases rc <;> decide) hP (by omega))
    · have n32 : ¬ tx (a + 1) = 32 := fun q => w ⟨by omega, q⟩
      rw [if_pos e, if_neg n32] at hf
      have hl2 := hx.lt (a := a) (by omega)
      have e3 : gCl tx (fiN rc h (ks ++ [(t, nI c)]) (bs ++ [c])) (a + 1) = .inr (a + 1) := if_neg e2
      refine hQ' (-1) _ (fun F => X_f ?_ F)
      exact hf (a + 1) e3 _ _ (by omega) (IN_kr hI2)
theorem X_let (hJ : ∀ pc ls st h, mj_sg (mj_Mt gT cst gnw (m + 5)) cst gnw (mj_hd (mj_off kO_R_read) kH_R_read) kC_R_read J Q 400 true pc ls st h → J pc ls st h) (hE : EXP tx len b0 b1 op tl s Q J f) {rc : Bool} {h : Kd} (hd : d + 1 ≤ 9) (hfd : 10 ≤ f + (d + 1)) {w3 w4 : Int32} (hx : txOK r.text len tx) (ht : r.typed = nI len) (ha : a ≤ len) (hma : mm ≤ a) (hI : IN tx f r0 r n u [h] l mm (if rc = true then 7 else 6)) (hP : PO r.kind r.at_ (n + 1) mm a0 a)
    (hs : ∀ t' a', (if tx a = 32 then gBi tx (gEx tx f (d + 2)) rc (d + 1) (fiN rc h) 2 (a + 1) [] [] else .inr a) = .inl (t', a') → SUC tx f b0 b1 op tl s J r0 n d len u t' a' a0) (hf : ∀ a', (if tx a = 32 then gBi tx (gEx tx f (d + 2)) rc (d + 1) (fiN rc h) 2 (a + 1) [] [] else .inr a) = .inr a' → FAI b0 b1 op tl s Q r0 len a') :
    J 35 [some (.ref 27), some (.int (nI n)), some (.int (nI (mm - 1))), some (.int w3), some (.int w4), some (.int 0)] [] (cW s (rW (pdR r a (d + 1)) tl), b0, b1, op) := by
  have h96 := hx.1
  have hlt := IN_lt hI
  have hl1 : n + 1 = l := hI.2.2.1.1.1
  refine X_go hJ (by omega) (fun Q' hQ' => ?_)
  refine R_go6a (rc := rc) (i1 := n + 1) hx ht ha hd (by omega) hI.2.2.2.1 hI.2.2.1.2.2.2.2 hI.2.2.1.2.2.1 (by omega) (by rw [hl1]; exact hI.2.2.1.2.1) (fun e g0 => ?_) (fun a' r' d' e g0 g1 g2 => ?_) (fun e => ?_)
  · rw [if_pos e, gBi_e, gB1_e, g0] at hs hf
    obtain ⟨q1, q2, q3⟩ := gB0_c g0
    have hl2 := hx.lt (a := a + 1 + 1 + 1) (by omega)
    have hcc := hx.le (a + 1 + 1)
    have hI3 := IN_lt3 (x := nI (tx (a + 1 + 1))) hI
    have hl0 : (ltR r (3 * n) (nI (tx (a + 1 + 1)))).letters (3 * n) = nI (tx (a + 1 + 1)) := if_pos rfl
    refine hQ' 1 _ (fun F => X_1 hJ (by omega) (fun x3 x4 x5 => ?_) F)
    refine hE (d + 1 + 1) (a + 1 + 1 + 1 + 1) mm (some n) (ltR r (3 * n) (nI (tx (a + 1 + 1)))) x3 x4 x5 hx ht (by omega) (by omega) (by omega) (by omega) hI3.2.1 (IN_hu hI3 (by omega)) (fun t2 a' e3 r' w3 w4 g1 g2 g3 g4 g5 g6 g7 g9 g10 g11 => ?_) (fun a' d' r' g1 g2 g3 => ?_)
    · have g1 : gEx tx f (d + 2) (a + 1 + 1 + 1 + 1) = .inl (t2, a') := g1
      rw [g1] at hs hf
      obtain ⟨i1, i2, i3⟩ := IN_next (by omega) hI3 g2 g3 g7 g4 g5 g6
      have hkx := kr_text g2.1
      exact X_bi hJ hE hd (by omega) 2 a' mm e3 (tx (a + 1 + 1)) [] [] t2 r' w3 w4 (by rw [hkx.1]; exact hx) (by rw [hkx.2]; exact ht) g9 g10 i1 (PO_app g2 hP g11 (by omega)) ((i3 (3 * n) (by omega)).trans hl0) (by omega) rfl (fun c hc => absurd hc List.not_mem_nil) rfl hs hf
    · have g1 : gEx tx f (d + 2) (a + 1 + 1 + 1 + 1) = .inr a' := g1
      rw [g1] at hf
      exact hf a' rfl d' r' g2 (kr_tr (IN_kr hI3) g3)
  · rw [if_pos e, gBi_e, gB1_e, g0] at hf
    refine hQ' (-1) _ (fun F => X_f ?_ F)
    exact hf a' rfl _ _ g1 (kr_tr (IN_kr hI) g2)
  · rw [if_neg e] at hf
    refine hQ' (-1) _ (fun F => X_f ?_ F)
    exact hf a rfl _ _ ha (IN_kr hI)
end RD8
end
section
theorem gEx_br {tx : Nat → Nat} {f d a : Nat} (h : tx a = 40) (h9 : d < 9) : gEx tx (f + 1) d a = gBr tx (gEx tx f (d + 1)) (gEx tx f (d + 2)) (d + 1) (a + 1) := by
  have e0 : gEx tx (f + 1) d a = if cL (tx a) then .inl (fun φ => [(1, 2), (6, lkF (tx a) (uP a) φ 0)], a + 1) else if tx a = 39 then (match gD tx 200 false 0 d (a + 1) with | .inr e => .inr e | .inl (D, a2) => .inl (fun _ => (1, 1) :: D, a2)) else if tx a = 40 then (if d < 9 then gBr tx (gEx tx f (d + 1)) (gEx tx f (d + 2)) (d + 1) (a + 1) else .inr a) else if cD (tx (pA1 tx a)) then .inl (fun _ => [(1, 1), (1, pVal tx a)], (pDg tx 4 (pA1 tx a) 0).1) else .inr (pA1 tx a) := rfl
  rw [e0, if_neg (by rw [h]; decide), if_neg (by omega), if_pos h, if_pos h9]
section RD9
variable {cst : Nat → Option (Nat × (Nat → Int32))} {m b0 b1 : Nat} {op : Bool} {tl : List mj_O} {Q : mj_R → Prop} {s : cS} {r0 r r1 : rM} {len : Nat} {tx : Nat → Nat} {J : Nat → mj_L → List Value → mj_H → Prop}
set_option maxRecDepth 10000
theorem BG_hu {a n : Nat} {u : Option Nat} {kd : Int32} (h : BG r0 r1 n a u kd) : ∀ v, (some n) = some v → v < n + 1 ∧ (r1.first v < 0 ∨ ∃ l, l < n + 1 ∧ r1.last v = nI l ∧ ¬ r1.first v < 0) := by
  intro v hv
  cases hv
  refine ⟨by omega, Or.inl ?_⟩
  rw [h.2.2.2.1]
  decide
set_option maxHeartbeats 4000000 in
theorem R_ex (hJ : ∀ pc ls st h, mj_sg (mj_Mt gT cst gnw (m + 5)) cst gnw (mj_hd (mj_off kO_R_read) kH_R_read) kC_R_read J Q 400 true pc ls st h → J pc ls st h) : ∀ f : Nat, EXP tx len b0 b1 op tl s Q J f
  | 0 => by
    intro d a n u r x3 x4 x5 hx ht ha hd hfd
    omega
  | f + 1 => by
    have hE := R_ex hJ f
    intro d a n u r x3 x4 x5 hx ht ha hd hfd hna hn hu hs hf
    have h96 := hx.1
    refine hJ _ _ _ _ ?_
    refine And.intro (fun (g : (100 : Int32) ≤ nI n) => absurd g (nI_ge (b := 100) (by omega) (by decide))) (fun _ => ?_)
    have down : ∀ (r1 : rM) (a' : Nat), (∀ z : Int32, J 13 [some (.ref 27), some (.int (nI n)), some (.int (nI (n + 1))), some (.int z), some (.int 1), x5] [] (cW s (rW (pdR r1 a' (d + 1)) tl), b0, b1, op)) → ∀ F : Nat, ∀ z : Int32, z = nI n → mj_sg (mj_Mt gT cst gnw (m + 5)) cst gnw (mj_hd (mj_off kO_R_read) kH_R_read) kC_R_read J Q (F + 30) false 22 [some (.ref 27), some (.int (oV u)), some (.int (nI n)), some (.int z), x4, x5] [.int 1] (cW s (rW (pdR r1 a' (d + 1)) tl), b0, b1, op) := by
      rintro r1 a' h F z rfl
      refine And.intro (fun _ => ?_) (fun (g : ¬ (0 : Int32) ≤ 1) => absurd (by decide) g)
      refine And.intro (fun (g : ¬ (1 : Int32) = 1) => absurd rfl g) (fun _ => ?_)
      have key : ∀ y : Int32, y = nI (n + 1) → J 13 [some (.ref 27), some (.int (nI n)), some (.int y), some (.int (nI n)), some (.int 1), x5] [] (cW s (rW (pdR r1 a' (d + 1)) tl), b0, b1, op) := by
        rintro y rfl
        exact h _
      exact key _ (nI_succ n).symm
    have suc : ∀ (t : Tau) (a' : Nat), gEx tx (f + 1) d a = .inl (t, a') → SUC tx f b0 b1 op tl s J r n d len u t a' a := fun t a' e0 e r' w3 w4 g1 g2 g3 g4 g5 g6 g7 g8 g9 => hs t a' e r' w3 w4 e0 g1 g2 g3 g4 g5 g6 g7 g8 g9
    have fai : ∀ a', gEx tx (f + 1) d a = .inr a' → FAI b0 b1 op tl s Q r len a' := fun a' e0 d' r' g1 g2 => hf a' d' r' e0 g1 g2
    refine R_begin (f := f) hx ht ha hd hn (by omega) hu (fun t a' r' e0 hb hc h1 h2 => ?_) (fun a' r' d' e0 h1 h2 => ?_) (fun r1 e40 h9 hS e32 hb hv => ?_) (fun r1 ls a2 e40 h9 nS e92 hg hl1 hl2 hb hlen hv hlet h256 => ?_) (fun r1 e40 h9 nS n92 hbo e32 hb => ?_) (fun r1 e40 h9 nS n92 nbo hb => ?_)
    · obtain ⟨k, hb⟩ := hb
      refine And.intro (fun _ => ?_) (fun (g : ¬ (0 : Int32) ≤ 0) => absurd (by decide) g)
      refine And.intro (fun _ => ?_) (fun (g : (0 : Int32) = 1) => absurd g (by decide))
      exact hs t a' (n + 1) r' _ _ e0 hb.1 hb.2.1 hb.2.2.1.1 hb.2.2.2.2.2.1 hb.2.2.2.2.2.2.2 hc h2 (by omega) (PO_leaf hb.2.2.1.2.2 (by omega) h1)
    · refine And.intro (fun (g : (0 : Int32) ≤ -1) => absurd g (by decide)) (fun _ => ?_)
      exact And.intro (Or.inl rfl) (hf a' d' r' e0 h1 h2)
    · -- a sign
      have hk1 := kr_text hb.1.1
      have hl2 := hx.lt (a := a + 1 + 1) (by omega)
      have hcc := hx.le (a + 1)
      have eG : gEx tx (f + 1) d a = gSg tx (gEx tx f (d + 1)) (a + 1) := by
        rw [gEx_br e40 h9]
        exact if_pos hS
      unfold gSg at eG
      rw [if_pos e32] at eG
      refine down r1 _ (fun z => ?_) _ _ hn
      refine hE (d + 1) (a + 1 + 1 + 1) (n + 1) (some n) r1 _ _ _ (by rw [hk1.1]; exact hx) (by rw [hk1.2]; exact ht) (by omega) (by omega) (by omega) (by omega) hb.2.1 (BG_hu hb) (fun t a' e2 r' w3 w4 g1 g2 g3 g4 g5 g6 g7 g9 g10 g11 => ?_) (fun a' d' r' g1 g2 g3 => ?_)
      · rw [g1] at eG
        obtain ⟨i1, i2, i3⟩ := IN_first (by omega) hb g2 g3 g7 g4 g5 g6
        have hkx := kr_text g2.1
        exact X_sign hJ hE (c := tx (a + 1)) (by omega) hS.1 (by omega) (by omega) (ar (tx (a + 1)) - 1) a' (n + 1) e2 [(t, 0)] r' w3 w4 (by rw [hkx.1, hk1.1]; exact hx) (by rw [hkx.2, hk1.2]; exact ht) g9 g10 i1 (PO_up g11 (by omega)) (i2.trans hv) (by have := hS.1; rw [List.length_cons, List.length_nil]; omega) (fun t' a'' q => suc t' a'' (eG.trans q)) (fun a'' q => fai a'' (eG.trans q))
      · rw [g1] at eG
        exact hf a' d' r' eG g2 (kr_tr hb.1.1 g3)
    · -- a function
      have hk1 := kr_text hb.1.1
      have eG : gEx tx (f + 1) d a = gBo tx (gEx tx f (d + 1)) (d + 1) (a + 1) := by
        rw [gEx_br e40 h9]
        unfold gBr
        rw [if_neg (show ¬ (0 < ar (tx (a + 1)) ∧ ¬ (tx (a + 1) = 45 ∧ cD (tx (a + 1 + 1)) = true)) from nS), if_pos e92]
      unfold gBo at eG
      rw [hg] at eG
      refine down r1 _ (fun z => ?_) _ _ hn
      refine hE (d + 1) a2 (n + 1) (some n) r1 _ _ _ (by rw [hk1.1]; exact hx) (by rw [hk1.2]; exact ht) (by omega) (by omega) (by omega) (by omega) hb.2.1 (BG_hu hb) (fun t a' e2 r' w3 w4 g1 g2 g3 g4 g5 g6 g7 g9 g10 g11 => ?_) (fun a' d' r' g1 g2 g3 => ?_)
      · simp only [g1] at eG
        obtain ⟨i1, i2, i3⟩ := IN_first (by omega) hb g2 g3 g7 g4 g5 g6
        have hkx := kr_text g2.1
        have hx' : txOK r'.text len tx := by rw [hkx.1, hk1.1]; exact hx
        have ht' : r'.typed = nI len := by rw [hkx.2, hk1.2]; exact ht
        have hlt := IN_lt i1
        refine X_go hJ (by omega) (fun Q' hQ' => ?_)
        unfold gCl at eG
        refine R_go5 (by omega) i1.2.2.2.1 hx' ht' (by omega) (fun e => ?_) (fun e => ?_)
        · rw [if_pos e] at eG
          have hl3 := hx.lt (a := a') (by omega)
          refine hQ' 0 _ (fun F => X_0 hJ (by omega) i1.2.2.2.2.1 ?_ F)
          refine suc _ _ eG e2 r' w3 w4 i1.1 i1.2.1 i1.2.2.2.2.1 i1.2.2.2.2.2.1 i1.2.2.2.2.2.2 (IN_cR i1 (Or.inr (Or.inr (Or.inl ⟨i1.2.2.2.1, (t, 0), ls, rfl, hlen, i2.trans hv, fun i c hi => ?_, h256, rfl⟩)))) (by omega) (by omega) (PO_own (by rw [i1.2.2.2.1]; decide) (PO_up g11 (by omega)) (by omega))
          have : i < ls.length := by
            rcases Nat.lt_or_ge i ls.length with w | w
            · exact w
            · rw [List.getElem?_eq_none w] at hi
              cases hi
          rw [i3 _ (by omega)]
          exact hlet i c hi
        · rw [if_neg e] at eG
          refine hQ' (-1) _ (fun F => X_f ?_ F)
          exact fai _ eG _ _ g9 (IN_kr i1)
      · simp only [g1] at eG
        exact hf a' d' r' eG g2 (kr_tr hb.1.1 g3)
    · -- bound
      have hk1 := kr_text hb.1.1
      have hl2 := hx.lt (a := a + 1 + 1) (by omega)
      have eG : gEx tx (f + 1) d a = gLe tx (gEx tx f (d + 1)) (gEx tx f (d + 2)) (decide (tx (a + 1) = 59)) (d + 1) (a + 1) := by
        rw [gEx_br e40 h9]
        unfold gBr
        rw [if_neg (show ¬ (0 < ar (tx (a + 1)) ∧ ¬ (tx (a + 1) = 45 ∧ cD (tx (a + 1 + 1)) = true)) from nS), if_neg n92, if_pos hbo]
      have ekd : (if tx (a + 1) = 58 then (6 : Int32) else 7) = if decide (tx (a + 1) = 59) = true then 7 else 6 := by
        rcases hbo with e | e
        · rw [if_pos e, if_neg (by rw [e]; decide)]
        · rw [if_neg (by omega), if_pos (by rw [e]; decide)]
      rw [ekd] at hb
      generalize decide (tx (a + 1) = 59) = rc at eG hb
      unfold gLe at eG
      rw [if_pos e32] at eG
      refine down r1 _ (fun z => ?_) _ _ hn
      refine hE (d + 1) (a + 1 + 1 + 1) (n + 1) (some n) r1 _ _ _ (by rw [hk1.1]; exact hx) (by rw [hk1.2]; exact ht) (by omega) (by omega) (by omega) (by omega) hb.2.1 (BG_hu hb) (fun t a' e2 r' w3 w4 g1 g2 g3 g4 g5 g6 g7 g9 g10 g11 => ?_) (fun a' d' r' g1 g2 g3 => ?_)
      · simp only [g1] at eG
        obtain ⟨i1, i2, i3⟩ := IN_first (by omega) hb g2 g3 g7 g4 g5 g6
        have hkx := kr_text g2.1
        exact X_let hJ hE (rc := rc) (h := (t, 0)) (by omega) (by omega) (by rw [hkx.1, hk1.1]; exact hx) (by rw [hkx.2, hk1.2]; exact ht) g9 g10 i1 (PO_up g11 (by omega)) (fun t' a'' q => suc t' a'' (eG.trans q)) (fun a'' q => fai a'' (eG.trans q))
      · simp only [g1] at eG
        exact hf a' d' r' eG g2 (kr_tr hb.1.1 g3)
    · -- a call
      have hk1 := kr_text hb.1.1
      have hl2 := hx.lt (a := a) (by omega)
      have eG : gEx tx (f + 1) d a = gCa tx (gEx tx f (d + 1)) (a + 1) := by
        rw [gEx_br e40 h9]
        unfold gBr
        rw [if_neg (show ¬ (0 < ar (tx (a + 1)) ∧ ¬ (tx (a + 1) = 45 ∧ cD (tx (a + 1 + 1)) = true)) from nS), if_neg n92, if_neg nbo]
      unfold gCa at eG
      refine down r1 _ (fun z => ?_) _ _ hn
      refine hE (d + 1) (a + 1) (n + 1) (some n) r1 _ _ _ (by rw [hk1.1]; exact hx) (by rw [hk1.2]; exact ht) (by omega) (by omega) (by omega) (by omega) hb.2.1 (BG_hu hb) (fun t a' e2 r' w3 w4 g1 g2 g3 g4 g5 g6 g7 g9 g10 g11 => ?_) (fun a' d' r' g1 g2 g3 => ?_)
      · simp only [g1] at eG
        obtain ⟨i1, i2, i3⟩ := IN_first (by omega) hb g2 g3 g7 g4 g5 g6
        have hkx := kr_text g2.1
        exact X_call hJ hE (h := (t, 0)) (by omega) (by omega) 3 a' (n + 1) e2 [] r' w3 w4 (by rw [hkx.1, hk1.1]; exact hx) (by rw [hkx.2, hk1.2]; exact ht) g9 g10 i1 (PO_up g11 (by omega)) rfl (fun t' a'' q => suc t' a'' (eG.trans q)) (fun a'' q => fai a'' (eG.trans q))
      · simp only [g1] at eG
        exact hf a' d' r' eG g2 (kr_tr hb.1.1 g3)
theorem R_read (hx : txOK r.text len tx) (ht : r.typed = nI len)
    (h1 : ∀ t e r', gEx tx 10 0 0 = .inl (t, len) → kr r r' → r'.parts = nI e → e ≤ len → r'.parent 0 = -1 → cR tx r' 10 0 e t → PO r'.kind r'.at_ 0 e 0 len → Q (.inl (some (.int 1)), (cW s (rW (pdR r' len 0) tl), b0, b1, op)))
    (h2 : ∀ t a' r', gEx tx 10 0 0 = .inl (t, a') → ¬ a' = len → a' ≤ len → kr r r' → Q (.inl (some (.int 0)), (cW s (rW (pdR r' a' 0) tl), b0, b1, op)))
    (h0 : ∀ a' r' d', gEx tx 10 0 0 = .inr a' → a' ≤ len → kr r r' → Q (.inl (some (.int 0)), (cW s (rW (pdR r' a' d') tl), b0, b1, op))) : mj_Mt gT cst gnw (m + 6) y_R_read [.ref 27] (cW s (rW r tl), b0, b1, op) Q := by
  have h96 := hx.1
  intro J hJ
  have main := R_ex (tx := tx) (len := len) (b0 := b0) (b1 := b1) (op := op) (tl := tl) (s := s) hJ 10 0 0 0 none (r.s_parts (nI 0)) none none none hx ht (Nat.zero_le _) (by decide) (by decide) (Nat.le_refl _) rfl (fun v hv => by cases hv) (fun t a' e r' w3 w4 g1 g2 g3 g4 g5 g6 g7 g9 g10 g11 => ?_) (fun a' d' r' g1 g2 g3 => h0 a' r' d' g1 g2 g3)
  · refine hJ _ _ _ _ ?_
    exact main
  · have hkx := kr_text g2.1
    have ht' : r'.typed = nI len := hkx.2.trans ht
    refine hJ _ _ _ _ ?_
    refine And.intro (fun (g : ¬ (0 : Int32) = 0) => absurd rfl g) (fun _ => ?_)
    refine And.intro (fun (g : (0 : Int32) ≤ oV none) => absurd g (by decide)) (fun _ => ?_)
    refine And.intro (fun (g : ¬ nI a' = r'.typed) => ?_) (fun (g : nI a' = r'.typed) => ?_)
    · rw [ht'] at g
      exact And.intro (Or.inl rfl) (h2 t a' r' g1 (fun e => g (by rw [e])) g9 g2.1)
    · rw [ht'] at g
      have e : a' = len := nIj (by omega) (by omega) g
      subst e
      exact And.intro (Or.inr rfl) (h1 t e r' g1 g2.1 g3 g10 g4 g7 g11)
end RD9
end
