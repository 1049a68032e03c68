def chL (nx bo : Nat → Int32) : List Int32 → Int32 → Prop
  | [], x => x = -1
  | b :: bs, x => ∃ i, i < 100 ∧ x = nI i ∧ bo i = b ∧ chL nx bo bs (nx i)
theorem cKL_ch {P : Nat → Nat → Tau → Prop} {nx bo : Nat → Int32} (hP : ∀ i m t, P i m t → i < m) : ∀ (ks : List Kd) (k : Kd) (i l m : Nat), cKL P nx bo (k :: ks) i l m → nx l = -1 → m ≤ 100 → chL nx bo (ks.map (fun k => k.2)) (nx i)
  | [], k, i, l, m, h, hl, hm => by
    obtain ⟨rfl, -⟩ := h
    exact hl
  | k2 :: ks, k, i, l, m, h, hl, hm => by
    obtain ⟨j, h1, h2, h3, h4⟩ := h
    have hj : j < m := by
      have := cKL_lt hP (k2 :: ks) j l m h4
      omega
    refine ⟨j, by omega, h3, ?_, cKL_ch hP ks k2 j l m h4 hl hm⟩
    cases ks with
    | nil => exact h4.2.2
    | cons k3 ks =>
      obtain ⟨j2, -, h5, -⟩ := h4
      exact h5
def gB0 (tx : Nat → Nat) (rc : Bool) (d a : Nat) (bs : List Nat) : Option Nat := if tx a = 40 ∧ d < 9 then
      (if cL (tx (a + 1)) = true ∧ ¬ tx (a + 1) ∈ bs then
        (if tx (a + 1 + 1) = 32 then
          (if rc = true ∧ ¬ (tx (a + 1 + 1 + 1) = 40 ∧ d + 1 < 9) then some (a + 1 + 1 + 1)
          else if rc = true ∧ ¬ tx (a + 1 + 1 + 1 + 1) = 92 then some (a + 1 + 1 + 1 + 1)
          else none)
        else some (a + 1 + 1))
      else some (a + 1))
    else some a
theorem gB1_e (tx : Nat → Nat) (pe : Nat → GR) (rc : Bool) (d a : Nat) (bs : List Nat) (ct : Tau → Nat → GR) : gB1 tx pe rc d a bs ct = match gB0 tx rc d a bs with
    | some e => .inr e
    | none => match pe (a + 1 + 1 + 1) with
      | .inr e => .inr e
      | .inl (t, a3) => if tx a3 = 41 then ct t (a3 + 1) else .inr a3 := by
  unfold gB1 gB0
  split
  · split
    · split
      · split
        · rfl
        · split <;> rfl
      · rfl
    · rfl
  · rfl
def ltR (r : rM) (i : Nat) (x : Int32) : rM := (r.s_letters (upd r.letters i x))
def boR (r : rM) (i : Nat) (x : Int32) : rM := (r.s_bound (upd r.bound i x))
section RD5
variable {cst : Nat → Option (Nat × (Nat → Int32))} {m b0 b1 : Nat} {op : Bool} {tl : List mj_O} {Q : mj_R → Prop} {s : cS} {r : rM} {a d n len : Nat} {tx : Nat → Nat}
set_option maxRecDepth 10000
set_option maxHeartbeats 4000000 in
theorem R_binding {rc : Bool} {i1 : Nat} {bs : List Nat} (hx : txOK r.text len tx) (ht : r.typed = nI len) (ha : a ≤ len) (hd : d ≤ 9) (hn : n < 100) (hk : r.kind n = if rc = true then 7 else 6) (hf1 : r.first n = nI i1) (hi1 : i1 < 100) (hch : chL r.next r.bound (bs.map nI) (r.next i1)) (hbs : ∀ c ∈ bs, c < 256)
    (h1 : gB0 tx rc d a bs = none → Q (.inl (some (.int 1)), (cW s (rW (pdR (ltR r (3 * n) (nI (tx (a + 1)))) (a + 1 + 1 + 1) (d + 1)) tl), b0, b1, op)))
    (h0 : ∀ a' r' d', gB0 tx rc d a bs = some a' → a' ≤ len → kr r r' → Q (.inl (some (.int 0)), (cW s (rW (pdR r' a' d') tl), b0, b1, op))) :
    mj_Mt gT cst gnw (m + 3) y_R_binding [.ref 27, .int (nI n)] (cW s (rW (pdR r a d) tl), b0, b1, op) Q := by
  have h96 := hx.1
  have hin : vp_in (nI n) 100 := vp_in_nI hn (by decide)
  have ekn : (nI n).toNatClampNeg = n := nI_clamp (by omega)
  have e0 : gB0 tx rc d a bs = if tx a = 40 ∧ d < 9 then (if cL (tx (a + 1)) = true ∧ ¬ tx (a + 1) ∈ bs then (if tx (a + 1 + 1) = 32 then (if rc = true ∧ ¬ (tx (a + 1 + 1 + 1) = 40 ∧ d + 1 < 9) then some (a + 1 + 1 + 1) else if rc = true ∧ ¬ tx (a + 1 + 1 + 1 + 1) = 92 then some (a + 1 + 1 + 1 + 1) else none) else some (a + 1 + 1)) else some (a + 1)) else some a := rfl
  rw [e0] at h1 h0
  intro J hJ
  refine hJ _ _ _ _ ?_
  refine R_opens hx ht (by omega) hd (fun e40 h9 => ?_) (fun e => ?_)
  rotate_left
  · rw [if_neg e] at h0
    refine And.intro (fun g => absurd rfl g) (fun _ => ?_)
    exact And.intro (Or.inl rfl) (h0 a r d rfl ha rfl)
  rw [if_pos ⟨e40, h9⟩] at h1 h0
  have hlt := hx.lt (a := a) (by omega)
  have hc1 := hx.le (a + 1)
  refine And.intro (fun _ => ?_) (fun (g : (1 : Int32) = 0) => absurd g (by decide))
  refine R_here0 hx ht (by omega) ?_
  have fin : ∀ (g : Bool) (x4 : Int32), (g = true ↔ (cL (tx (a + 1)) = true ∧ ¬ tx (a + 1) ∈ bs)) → ∀ F : Nat, mj_sg (mj_Mt gT cst gnw (m + 2)) cst gnw (mj_hd (mj_off kO_R_binding) kH_R_binding) kC_R_binding J Q (F + 100) false 40 [some (.ref 27), some (.int (nI n)), some (.int (nI (tx (a + 1)))), some (.int (bI g)), some (.int x4)] [] (cW s (rW (pdR r (a + 1) (d + 1)) tl), b0, b1, op) := by
    intro g x4 hg F
    cases g with
    | false =>
      rw [if_neg (fun w => by have := hg.mpr w; cases this)] at h0
      refine And.intro (fun (w : ¬ bI false = 0) => absurd rfl w) (fun _ => ?_)
      exact And.intro (Or.inl rfl) (h0 (a + 1) r (d + 1) rfl (by omega) rfl)
    | true =>
      have hg := hg.mp rfl
      rw [if_pos hg] at h1 h0
      have hlt2 := hx.lt (a := a + 1) (fun q => by rw [q] at hg; exact absurd hg.1 (by decide))
      refine And.intro (fun _ => ?_) (fun (w : bI true = 0) => absurd w (by decide))
      have i3 : Int32.ofInt 3 * nI n = nI (3 * n) := three_n n
      refine And.intro (show vp_in (Int32.ofInt 3 * nI n) 300 by rw [i3]; exact vp_in_nI (by omega) (by decide)) ?_
      have key : ∀ L : Nat → Int32, L = upd r.letters (3 * n) (nI (tx (a + 1))) → ∀ F : Nat, mj_sg (mj_Mt gT cst gnw (m + 2)) cst gnw (mj_hd (mj_off kO_R_binding) kH_R_binding) kC_R_binding J Q (F + 80) false 51 [some (.ref 27), some (.int (nI n)), some (.int (nI (tx (a + 1)))), some (.int (bI true)), some (.int x4)] [] (cW s (rW ((pdR r (a + 1) (d + 1)).s_letters L) tl), b0, b1, op) := by
        rintro L rfl F
        refine sg_pinc (r := ltR r (3 * n) (nI (tx (a + 1)))) (a := a + 1) (d := d + 1) rfl rfl rfl rfl rfl rfl rfl ?_
        refine R_takes (c := 32) (r := ltR r (3 * n) (nI (tx (a + 1)))) hx ht (by omega) (by decide) (fun e32 => ?_) (fun e32 => ?_)
        rotate_left
        · rw [if_neg e32] at h0
          refine And.intro (fun g => absurd rfl g) (fun _ => ?_)
          exact And.intro (Or.inl rfl) (h0 _ (ltR r (3 * n) (nI (tx (a + 1)))) _ rfl (by omega) rfl)
        rw [if_pos e32] at h1 h0
        have hlt3 := hx.lt (a := a + 1 + 1) (by omega)
        have hc3 := hx.le (a + 1 + 1 + 1)
        have hc4 := hx.le (a + 1 + 1 + 1 + 1)
        refine And.intro (fun _ => ?_) (fun (g : (1 : Int32) = 0) => absurd g (by decide))
        refine And.intro hin ?_
        have ekk : (pdR (ltR r (3 * n) (nI (tx (a + 1)))) (a + 1 + 1 + 1) (d + 1)).kind (nI n).toNatClampNeg = if rc = true then 7 else 6 := by
          rw [ekn]
          exact hk
        rw [ekk]
        cases rc with
        | false =>
          rw [if_neg (fun w => by cases w.1), if_neg (fun w => by cases w.1)] at h1
          refine And.intro (fun _ => ?_) (fun (g : (6 : Int32) = 7) => absurd g (by decide))
          refine And.intro hin ?_
          rw [ekk]
          refine And.intro (fun _ => ?_) (fun (g : ¬ (6 : Int32) = 6) => absurd rfl g)
          exact And.intro (Or.inr rfl) (h1 rfl)
        | true =>
          refine And.intro (fun (g : ¬ (7 : Int32) = 7) => absurd rfl g) (fun _ => ?_)
          refine R_here0 (r := ltR r (3 * n) (nI (tx (a + 1)))) hx ht (by omega) ?_
          have bad : ¬ (tx (a + 1 + 1 + 1) = 40 ∧ d + 1 < 9) → ∀ F : Nat, mj_sg (mj_Mt gT cst gnw (m + 2)) cst gnw (mj_hd (mj_off kO_R_binding) kH_R_binding) kC_R_binding J Q (F + 40) false 91 [some (.ref 27), some (.int (nI n)), some (.int (nI (tx (a + 1)))), some (.int (bI true)), some (.int x4)] [] (cW s (rW (pdR (ltR r (3 * n) (nI (tx (a + 1)))) (a + 1 + 1 + 1) (d + 1)) tl), b0, b1, op) := by
            intro hb F
            rw [if_pos ⟨rfl, hb⟩] at h0
            have h9' := h0 (a + 1 + 1 + 1) (ltR r (3 * n) (nI (tx (a + 1)))) (d + 1) rfl (by omega) rfl
            refine And.intro hin ?_
            rw [ekk]
            refine And.intro (fun (g : (7 : Int32) = 6) => absurd g (by decide)) (fun _ => ?_)
            refine R_here0 (r := ltR r (3 * n) (nI (tx (a + 1)))) hx ht (by omega) ?_
            refine And.intro (fun _ => And.intro (Or.inl rfl) h9') (fun (g2 : nI (tx (a + 1 + 1 + 1)) = 40) => ?_)
            refine And.intro (fun _ => And.intro (Or.inl rfl) h9') (fun (g3 : ¬ (9 : Int32) ≤ nI (d + 1)) => ?_)
            refine absurd ⟨nIj (j := 40) (by omega) (by decide) g2, ?_⟩ hb
            exact Nat.lt_of_not_le (fun w => g3 (nI_le (a := 9) w (by omega)))
          refine And.intro (fun (g2 : ¬ nI (tx (a + 1 + 1 + 1)) = 40) => bad (fun w => g2 (by rw [w.1]; rfl)) _) (fun (g2 : nI (tx (a + 1 + 1 + 1)) = 40) => ?_)
          have e3 : tx (a + 1 + 1 + 1) = 40 := nIj (j := 40) (by omega) (by decide) g2
          refine And.intro (fun (g3 : (9 : Int32) ≤ nI (d + 1)) => bad (fun w => nI_ge (b := 9) w.2 (by decide) g3) _) (fun (g3 : ¬ (9 : Int32) ≤ nI (d + 1)) => ?_)
          have hd1 : d + 1 < 9 := Nat.lt_of_not_le (fun w => g3 (nI_le (a := 9) w (by omega)))
          rw [if_neg (fun w => w.2 ⟨e3, hd1⟩)] at h1 h0
          have hlt4 := hx.lt (a := a + 1 + 1 + 1) (by omega)
          refine R_here (k := 1) (r := ltR r (3 * n) (nI (tx (a + 1)))) hx ht (by omega) ?_
          refine And.intro (fun (g4 : nI (tx (a + 1 + 1 + 1 + 1)) = 92) => ?_) (fun (g4 : ¬ nI (tx (a + 1 + 1 + 1 + 1)) = 92) => ?_)
          · have e4 : tx (a + 1 + 1 + 1 + 1) = 92 := nIj (j := 92) (by omega) (by decide) g4
            rw [if_neg (fun w => w.2 e4)] at h1
            refine And.intro hin ?_
            rw [ekk]
            refine And.intro (fun (g : (7 : Int32) = 6) => absurd g (by decide)) (fun _ => ?_)
            refine R_here0 (r := ltR r (3 * n) (nI (tx (a + 1)))) hx ht (by omega) ?_
            refine And.intro (fun (w : ¬ nI (tx (a + 1 + 1 + 1)) = 40) => absurd g2 w) (fun _ => ?_)
            refine And.intro (fun (w : (9 : Int32) ≤ nI (d + 1)) => absurd w g3) (fun _ => ?_)
            exact And.intro (Or.inr rfl) (h1 rfl)
          · have n4 : ¬ tx (a + 1 + 1 + 1 + 1) = 92 := fun e => g4 (by rw [e]; rfl)
            rw [if_pos ⟨rfl, n4⟩] at h0
            refine sg_pinc (r := ltR r (3 * n) (nI (tx (a + 1)))) (a := a + 1 + 1 + 1) (d := d + 1) rfl rfl rfl rfl rfl rfl rfl ?_
            exact And.intro (Or.inl rfl) (h0 _ (ltR r (3 * n) (nI (tx (a + 1)))) _ rfl (by omega) rfl)
      refine key (upd r.letters (Int32.ofInt 3 * nI n).toNatClampNeg (nI (tx (a + 1)))) ?_ _
      rw [i3, nI_clamp (by omega)]
  have loop : ∀ (bs2 : List Nat) (x : Int32) (g : Bool), chL r.next r.bound (bs2.map nI) x → (∀ c ∈ bs2, c < 256) → ((g = true ∧ ¬ tx (a + 1) ∈ bs2) ↔ (cL (tx (a + 1)) = true ∧ ¬ tx (a + 1) ∈ bs)) → J 20 [some (.ref 27), some (.int (nI n)), some (.int (nI (tx (a + 1)))), some (.int (bI g)), some (.int x)] [] (cW s (rW (pdR r (a + 1) (d + 1)) tl), b0, b1, op) := by
    intro bs2
    induction bs2 with
    | nil =>
      intro x g hc hb hg
      have hc : x = -1 := hc
      subst hc
      refine hJ _ _ _ _ ?_
      refine And.intro (fun _ => ?_) (fun (w : ¬ (-1 : Int32) < 0) => absurd (by decide) w)
      exact fin g (-1) ⟨fun w => hg.mp ⟨w, List.not_mem_nil⟩, fun w => (hg.mpr w).1⟩ _
    | cons b bs2 ih =>
      intro x g hc hb hg
      obtain ⟨i, hi, rfl, hbi, hc2⟩ := hc
      have hii : vp_in (nI i) 100 := vp_in_nI hi (by decide)
      have eki : (nI i).toNatClampNeg = i := nI_clamp (by omega)
      have hb256 := hb b List.mem_cons_self
      have hb2 : ∀ c ∈ bs2, c < 256 := fun c hc => hb c (List.mem_cons_of_mem _ hc)
      refine hJ _ _ _ _ ?_
      refine And.intro (fun (w : nI i < 0) => absurd w (nI_pos (by omega))) (fun _ => ?_)
      have nxt : ∀ (g2 : Bool) (v : Int32), v = bI g2 → ((g2 = true ∧ ¬ tx (a + 1) ∈ bs2) ↔ (cL (tx (a + 1)) = true ∧ ¬ tx (a + 1) ∈ bs)) → ∀ x2 : Int32, x2 = r.next i → J 20 [some (.ref 27), some (.int (nI n)), some (.int (nI (tx (a + 1)))), some (.int v), some (.int x2)] [] (cW s (rW (pdR r (a + 1) (d + 1)) tl), b0, b1, op) := by
        rintro g2 v rfl hg2 x2 rfl
        exact ih _ g2 hc2 hb2 hg2
      cases g with
      | false =>
        refine And.intro (fun _ => ?_) (fun (w : ¬ bI false = 0) => absurd rfl w)
        refine And.intro hii ?_
        refine nxt false 0 rfl ⟨fun w => (by cases w.1), fun w => ?_⟩ _ ?_
        · have := (hg.mpr w).1
          cases this
        · show r.next (nI i).toNatClampNeg = _
          rw [eki]
      | true =>
        refine And.intro (fun (w : bI true = 0) => absurd w (by decide)) (fun _ => ?_)
        refine And.intro hii ?_
        have eb : (pdR r (a + 1) (d + 1)).bound (nI i).toNatClampNeg = nI b := by
          rw [eki]
          exact hbi
        rw [eb]
        refine And.intro (fun (w : nI b = nI (tx (a + 1))) => ?_) (fun (w : ¬ nI b = nI (tx (a + 1))) => ?_)
        · have e := nIj (by omega) (by omega) w
          refine And.intro hii ?_
          refine nxt false 0 rfl ⟨fun w => (by cases w.1), fun w2 => ?_⟩ _ ?_
          · exact absurd (by rw [e]; exact List.mem_cons_self) (hg.mpr w2).2
          · show r.next (nI i).toNatClampNeg = _
            rw [eki]
        · have ne : ¬ tx (a + 1) = b := fun e => w (by rw [e])
          refine And.intro hii ?_
          refine nxt true 1 rfl ⟨fun w => hg.mp ⟨rfl, fun q => ?_⟩, fun w => ⟨rfl, fun q => (hg.mpr w).2 (List.mem_cons_of_mem _ q)⟩⟩ _ ?_
          · rcases List.mem_cons.mp q with q | q
            · exact ne q
            · exact w.2 q
          · show r.next (nI i).toNatClampNeg = _
            rw [eki]
  have st : ∀ (g : Bool), (g = true ↔ cL (tx (a + 1)) = true) → ∀ x : Int32, x = bI g → ∀ F : Nat, mj_sg (mj_Mt gT cst gnw (m + 2)) cst gnw (mj_hd (mj_off kO_R_binding) kH_R_binding) kC_R_binding J Q (F + 60) false 11 [some (.ref 27), some (.int (nI n)), some (.int (nI (tx (a + 1)))), none, none] [.int x] (cW s (rW (pdR r (a + 1) (d + 1)) tl), b0, b1, op) := by
    rintro g hg x rfl F
    refine And.intro hin ?_
    have e1 : (pdR r (a + 1) (d + 1)).first (nI n).toNatClampNeg = nI i1 := by
      rw [ekn]
      exact hf1
    rw [e1]
    refine And.intro (vp_in_nI hi1 (by decide)) ?_
    have key : ∀ x : Int32, x = r.next i1 → J 20 [some (.ref 27), some (.int (nI n)), some (.int (nI (tx (a + 1)))), some (.int (bI g)), some (.int x)] [] (cW s (rW (pdR r (a + 1) (d + 1)) tl), b0, b1, op) := by
      rintro x rfl
      exact loop bs _ g hch hbs ⟨fun w => ⟨hg.mp w.1, w.2⟩, fun w => ⟨hg.mpr w.1, w.2⟩⟩
    refine key _ ?_
    show r.next (nI i1).toNatClampNeg = _
    rw [nI_clamp (by omega)]
  refine R_isLetter (by omega) (fun hc => ?_) (fun hc => ?_)
  · exact st true ⟨fun _ => hc, fun _ => rfl⟩ 1 rfl _
  · exact st false ⟨fun w => (by cases w), fun w => (by rw [hc] at w; cases w)⟩ 0 rfl _
end RD5
