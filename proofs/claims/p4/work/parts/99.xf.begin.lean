def kR (r : rM) (n : Nat) (x : Int32) : rM := (r.s_kind (upd r.kind n x))
def vR (r : rM) (n : Nat) (x : Int32) : rM := (r.s_value (upd r.value n x))
def uR (r : rM) (n : Nat) (x : Int32) : rM := (r.s_until_ (upd r.until_ n x))
theorem gD_len {X : Nat → Int32} {len : Nat} {tx : Nat → Nat} (hx : txOK X len tx) : ∀ (f : Nat) (b : Bool) (o d a : Nat), a ≤ len → (∀ D a', gD tx f b o d a = .inl (D, a') → a ≤ a' ∧ a' ≤ len) ∧ (∀ a', gD tx f b o d a = .inr a' → a' ≤ len)
  | 0, b, o, d, a, h => ⟨fun D a' e => (by cases e), fun a' e => (by cases e; exact h)⟩
  | f + 1, false, o, d, a, h => by
    have e0 : gD tx (f + 1) false o d a = if tx a = 40 then (if d + o < 9 then cns (4, 0) (gD tx f (decide (tx (a + 1) = 41)) (o + 1) d (a + 1)) else .inr a) else if cL (tx a) then cns (2, nI (tx a)) (gD tx f true o d (a + 1)) else if cD (tx (pA1 tx a)) then cns (1, pVal tx a) (gD tx f true o d (pDg tx 4 (pA1 tx a) 0).1) else .inr (pA1 tx a) := rfl
    have sub : ∀ (t : Int32 × Int32) (b : Bool) (o d a2 : Nat), a ≤ a2 → a2 ≤ len → (∀ D a', cns t (gD tx f b o d a2) = .inl (D, a') → a ≤ a' ∧ a' ≤ len) ∧ (∀ a', cns t (gD tx f b o d a2) = .inr a' → a' ≤ len) := by
      intro t b o d a2 h1 h2
      have := gD_len hx f b o d a2 h2
      generalize gD tx f b o d a2 = x at this
      rcases x with ⟨D, q⟩ | q
      · refine ⟨fun D' a' e => ?_, fun a' e => (by cases e)⟩
        cases e
        have := this.1 D q rfl
        omega
      · refine ⟨fun D' a' e => (by cases e), fun a' e => ?_⟩
        cases e
        exact this.2 q rfl
    rw [e0]
    split
    · next e40 =>
      have := hx.lt (a := a) (by omega)
      split
      · exact sub _ _ _ _ _ (by omega) (by omega)
      · exact ⟨fun D a' e => (by cases e), fun a' e => (by cases e; exact h)⟩
    · split
      · next hl =>
        have := hx.lt (a := a) (fun q => by rw [q] at hl; exact absurd hl (by decide))
        exact sub _ _ _ _ _ (by omega) (by omega)
      · split
        · next hd =>
          obtain ⟨w1, w2, w3⟩ := num_len hx h hd
          exact sub _ _ _ _ _ (by omega) w2
        · exact ⟨fun D a' e => (by cases e), fun a' e => (by cases e; exact (pA1_len hx h).2.1)⟩
  | f + 1, true, 0, d, a, h => ⟨fun D a' e => (by cases e; exact ⟨Nat.le_refl _, h⟩), fun a' e => (by cases e)⟩
  | f + 1, true, o + 1, d, a, h => by
    have e0 : gD tx (f + 1) true (o + 1) d a = if tx a = 41 then cns (5, 0) (gD tx f true o d (a + 1)) else if tx a = 32 then gD tx f false (o + 1) d (a + 1) else .inr a := rfl
    rw [e0]
    split
    · have hlt := hx.lt (a := a) (by omega)
      have := gD_len hx f true o d (a + 1) (by omega)
      generalize gD tx f true o d (a + 1) = x at this
      rcases x with ⟨D, q⟩ | q
      · refine ⟨fun D' a' e => ?_, fun a' e => (by cases e)⟩
        cases e
        have := this.1 D q rfl
        omega
      · refine ⟨fun D' a' e => (by cases e), fun a' e => ?_⟩
        cases e
        exact this.2 q rfl
    · split
      · have hlt := hx.lt (a := a) (by omega)
        have := gD_len hx f false (o + 1) d (a + 1) (by omega)
        exact ⟨fun D a' e => (by have := this.1 D a' e; omega), this.2⟩
      · exact ⟨fun D a' e => (by cases e), fun a' e => (by cases e; exact h)⟩
section RD4
variable {cst : Nat → Option (Nat × (Nat → Int32))} {m b0 b1 : Nat} {op : Bool} {tl : List mj_O} {Q : mj_R → Prop} {s : cS} {r r1 : rM} {a d n len : Nat} {tx : Nat → Nat} {u : Option Nat} {w : Int32}
set_option maxRecDepth 10000
theorem upd_lt (f : Nat → Int32) {i n : Nat} (x : Int32) (h : i < n) : upd f n x i = f i := if_neg (by omega)
theorem AG_k {x : Int32} : AG r1 (kR r1 n x) n := ⟨rfl, fun i hi => ⟨⟨upd_lt _ _ hi, rfl, rfl, rfl, rfl, rfl⟩, rfl, rfl, rfl, rfl⟩, fun i hi => rfl⟩
theorem AG_v {x : Int32} : AG r1 (vR r1 n x) n := ⟨rfl, fun i hi => ⟨⟨rfl, upd_lt _ _ hi, rfl, rfl, rfl, rfl⟩, rfl, rfl, rfl, rfl⟩, fun i hi => rfl⟩
theorem AG_u {x : Int32} : AG r1 (uR r1 n x) n := ⟨rfl, fun i hi => ⟨⟨rfl, rfl, rfl, upd_lt _ _ hi, rfl, rfl⟩, rfl, rfl, rfl, rfl⟩, fun i hi => rfl⟩
theorem AG_lv {x : Int32} {L : Nat → Int32} {ls : List Nat} (h : LT n r1.letters L ls) : AG r1 (lvR r1 n x L) n := ⟨rfl, fun i hi => ⟨⟨rfl, upd_lt _ _ hi, rfl, rfl, rfl, rfl⟩, rfl, rfl, rfl, rfl⟩, fun i hi => h.2.1 i hi⟩
theorem BG_k {x : Int32} (h : BG r r1 n a u w) : BG r (kR r1 n x) n a u x := by
  obtain ⟨h1, h2, ⟨h3, h4, h5⟩, h6⟩ := h
  exact ⟨FM_AG h1 AG_k, h2, ⟨h3, if_pos rfl, h5⟩, h6⟩
theorem BG_v {x : Int32} (h : BG r r1 n a u w) : BG r (vR r1 n x) n a u w := by
  obtain ⟨h1, h2, h3, h6⟩ := h
  exact ⟨FM_AG h1 AG_v, h2, h3, h6⟩
theorem BG_u {x : Int32} (h : BG r r1 n a u w) : BG r (uR r1 n x) n a u w := by
  obtain ⟨h1, h2, h3, h6⟩ := h
  exact ⟨FM_AG h1 AG_u, h2, h3, h6⟩
theorem BG_lv {x : Int32} {L : Nat → Int32} {ls : List Nat} (hl : LT n r1.letters L ls) (h : BG r r1 n a u w) : BG r (lvR r1 n x L) n a u w := by
  obtain ⟨h1, h2, h3, h6⟩ := h
  exact ⟨FM_AG h1 (AG_lv hl), h2, h3, h6⟩
theorem ar_le (c : Nat) : ar c ≤ 3 := by
  unfold ar
  split
  · decide
  · split
    · decide
    · split <;> decide
def isS (tx : Nat → Nat) (a : Nat) : Prop := 0 < ar (tx a) ∧ ¬ (tx a = 45 ∧ cD (tx (a + 1)) = true)
set_option maxHeartbeats 4000000 in
theorem R_begin {f : Nat} (hx : txOK r.text len tx) (ht : r.typed = nI len) (ha : a ≤ len) (hd : d ≤ 9) (hn : r.parts = nI n) (h100 : n < 100) (hu : ∀ v, u = some v → v < n ∧ (r.first v < 0 ∨ ∃ l, l < n ∧ r.last v = nI l ∧ ¬ r.first v < 0))
    (hl : ∀ t a' r', gEx tx (f + 1) d a = .inl (t, a') → (∃ k, BG r r' n a u k) → cR tx r' (f + 1) n (n + 1) t → a < a' → a' ≤ len → Q (.inl (some (.int 0)), (cW s (rW (pdR r' a' d) tl), b0, b1, op)))
    (hf : ∀ a' r' d', gEx tx (f + 1) d a = .inr a' → a' ≤ len → kr r r' → Q (.inl (some (.int (-1))), (cW s (rW (pdR r' a' d') tl), b0, b1, op)))
    (hS : ∀ r', tx a = 40 → d < 9 → isS tx (a + 1) → tx (a + 1 + 1) = 32 → BG r r' n a u 3 → r'.value n = nI (tx (a + 1)) → Q (.inl (some (.int 1)), (cW s (rW (pdR r' (a + 1 + 1 + 1) (d + 1)) tl), b0, b1, op)))
    (hB : ∀ r' ls a', tx a = 40 → d < 9 → ¬ isS tx (a + 1) → tx (a + 1) = 92 → gPa tx (d + 1) (a + 1 + 1) = .inl (ls, a') → a + 1 + 1 < a' → a' ≤ len → BG r r' n a u 5 → ls.length ≤ 3 → r'.value n = nI ls.length → (∀ i c, ls[i]? = some c → r'.letters (3 * n + i) = nI c) → (∀ c ∈ ls, c < 256) → Q (.inl (some (.int 1)), (cW s (rW (pdR r' a' (d + 1)) tl), b0, b1, op)))
    (hL : ∀ r', tx a = 40 → d < 9 → ¬ isS tx (a + 1) → ¬ tx (a + 1) = 92 → (tx (a + 1) = 58 ∨ tx (a + 1) = 59) → tx (a + 1 + 1) = 32 → BG r r' n a u (if tx (a + 1) = 58 then 6 else 7) → Q (.inl (some (.int 1)), (cW s (rW (pdR r' (a + 1 + 1 + 1) (d + 1)) tl), b0, b1, op)))
    (hC : ∀ r', tx a = 40 → d < 9 → ¬ isS tx (a + 1) → ¬ tx (a + 1) = 92 → ¬ (tx (a + 1) = 58 ∨ tx (a + 1) = 59) → BG r r' n a u 4 → Q (.inl (some (.int 1)), (cW s (rW (pdR r' (a + 1) (d + 1)) tl), b0, b1, op))) :
    mj_Mt gT cst gnw (m + 5) y_R_begin [.ref 27, .int (oV u)] (cW s (rW (pdR r a d) tl), b0, b1, op) Q := by
  have h96 := hx.1
  have e0 : gEx tx (f + 1) d a = if cL (tx a) then .inl (fun φ => [(1, 2), (6, lkF (tx a) (uP a) φ 0)], a + 1) else if tx a = 39 then (match gD tx 200 false 0 d (a + 1) with | .inr e => .inr e | .inl (D, a2) => .inl (fun _ => (1, 1) :: D, a2)) else if tx a = 40 then (if d < 9 then gBr tx (gEx tx f (d + 1)) (gEx tx f (d + 2)) (d + 1) (a + 1) else .inr a) else if cD (tx (pA1 tx a)) then .inl (fun _ => [(1, 1), (1, pVal tx a)], (pDg tx 4 (pA1 tx a) 0).1) else .inr (pA1 tx a) := rfl
  rw [e0] at hl hf
  have ekn : (nI n).toNatClampNeg = n := nI_clamp (by omega)
  have hin : vp_in (nI n) 100 := vp_in_nI h100 (by decide)
  have hca := hx.le a
  intro J hJ
  refine hJ _ _ _ _ ?_
  refine R_part hn h100 hu (fun r1 hb hv0 => ?_)
  have hk1 := hb.1.1
  have hx1 : txOK r1.text len tx := by rw [(kr_text hk1).1]; exact hx
  have ht1 : r1.typed = nI len := by rw [(kr_text hk1).2]; exact ht
  refine R_here0 hx1 ht1 (by omega) ?_
  refine R_isLetter (by omega) (fun hc => ?_) (fun hc => ?_)
  · -- a letter
    rw [if_pos hc] at hl
    have hlt := hx.lt (a := a) (fun q => by rw [q] at hc; exact absurd hc (by decide))
    refine And.intro (fun (g : (1 : Int32) = 0) => absurd g (by decide)) (fun _ => ?_)
    refine And.intro hin ?_
    rw [ekn]
    change mj_sg _ _ _ _ _ _ _ _ _ 17 _ _ (cW s (rW (pdR (kR r1 n 1) a d) tl), b0, b1, op)
    refine And.intro hin ?_
    rw [ekn]
    change mj_sg _ _ _ _ _ _ _ _ _ 22 _ _ (cW s (rW (pdR (vR (kR r1 n 1) n (nI (tx a))) a d) tl), b0, b1, op)
    refine sg_pinc (r := vR (kR r1 n 1) n (nI (tx a))) (a := a) (d := d) rfl rfl rfl rfl rfl rfl rfl ?_
    exact hl _ (a + 1) (vR (kR r1 n 1) n (nI (tx a))) rfl ⟨1, BG_v (BG_k hb)⟩ (Or.inr (Or.inl ⟨if_pos rfl, rfl, tx a, a, by omega, by omega, hb.2.2.1.2.2, if_pos rfl, rfl⟩)) (by omega) (by omega)
  rw [if_neg (by rw [hc]; decide)] at hl hf
  refine And.intro (fun _ => ?_) (fun g => absurd rfl g)
  refine And.intro (fun (g : ¬ nI (tx a) = 39) => ?_) (fun (g : nI (tx a) = 39) => ?_)
  rotate_left
  · -- a datum
    have e39 : tx a = 39 := nIj (j := 39) (by omega) (by decide) g
    rw [if_pos e39] at hl hf
    have hlt := hx.lt (a := a) (by omega)
    refine And.intro hin ?_
    rw [ekn]
    change mj_sg _ _ _ _ _ _ _ _ _ 38 _ _ (cW s (rW (pdR (kR r1 n 2) a d) tl), b0, b1, op)
    refine sg_pinc (r := kR r1 n 2) (a := a) (d := d) rfl rfl rfl rfl rfl rfl rfl ?_
    have hg := gD_len hx 200 false 0 d (a + 1) (by omega)
    refine R_datum (r := kR r1 n 2) hx1 ht1 (by omega) hd (fun D a' e => ?_) (fun a' d' e => ?_)
    · rw [e] at hl hg
      have hg1 := hg.1 D a' rfl
      refine And.intro hin ?_
      rw [ekn]
      change mj_sg _ _ _ _ _ _ _ _ _ 53 _ _ (cW s (rW (pdR (uR (kR r1 n 2) n (nI a')) a' d) tl), b0, b1, op)
      refine And.intro (fun (g : (1 : Int32) = 0) => absurd g (by decide)) (fun _ => ?_)
      exact hl _ a' (uR (kR r1 n 2) n (nI a')) rfl ⟨2, BG_u (BG_k hb)⟩ (Or.inr (Or.inr (Or.inl ⟨if_pos rfl, rfl, a, a', d, D, hb.2.2.1.2.2, if_pos rfl, e, hd, rfl⟩))) (by omega) (by omega)
    · rw [e] at hf hg
      have hg1 := hg.2 a' rfl
      refine And.intro hin ?_
      rw [ekn]
      change mj_sg _ _ _ _ _ _ _ _ _ 53 _ _ (cW s (rW (pdR (uR (kR r1 n 2) n (nI a')) a' d') tl), b0, b1, op)
      refine And.intro (fun _ => ?_) (fun g => absurd rfl g)
      exact hf a' (uR (kR r1 n 2) n (nI a')) d' rfl hg1 hk1
  have n39 : ¬ tx a = 39 := fun e => g (by rw [e]; rfl)
  rw [if_neg n39] at hl hf
  refine And.intro (fun (g2 : nI (tx a) = 40) => ?_) (fun (g2 : ¬ nI (tx a) = 40) => ?_)
  rotate_left
  · -- a number
    have n40 : ¬ tx a = 40 := fun e => g2 (by rw [e]; rfl)
    rw [if_neg n40] at hl hf
    refine R_number hx1 ht1 (by omega) (fun hn1 => ?_) (fun hn1 => ?_)
    · rw [if_pos hn1] at hl
      obtain ⟨w1, w2, w3⟩ := num_len hx ha hn1
      refine And.intro (fun (g : (1 : Int32) = 0) => absurd g (by decide)) (fun _ => ?_)
      refine And.intro hin ?_
      have e1 : (pdR r1 (pDg tx 4 (pA1 tx a) 0).1 d).at_ (nI n).toNatClampNeg = nI a := by
        rw [ekn]
        exact hb.2.2.1.2.2
      rw [e1]
      refine R_numberAt (r := pdR r1 (pDg tx 4 (pA1 tx a) 0).1 d) hx1 ht1 w3 ?_
      refine And.intro hin ?_
      rw [ekn]
      change mj_sg _ _ _ _ _ _ _ _ _ 79 _ _ (cW s (rW (pdR (vR r1 n (pVal tx a)) (pDg tx 4 (pA1 tx a) 0).1 d) tl), b0, b1, op)
      refine And.intro (fun (g : (1 : Int32) = 0) => absurd g (by decide)) (fun _ => ?_)
      refine hl _ _ (vR r1 n (pVal tx a)) rfl ⟨0, BG_v hb⟩ (Or.inl ⟨hb.2.2.1.2.1, rfl, ?_⟩) w1 w2
      have e2 : (vR r1 n (pVal tx a)).value n = pVal tx a := if_pos rfl
      rw [e2]
    · rw [if_neg (by rw [hn1]; decide)] at hf
      refine And.intro (fun _ => ?_) (fun g => absurd rfl g)
      refine And.intro hin ?_
      rw [ekn]
      change mj_sg _ _ _ _ _ _ _ _ _ 79 _ _ (cW s (rW (pdR (vR r1 n 0) (pA1 tx a) d) tl), b0, b1, op)
      refine And.intro (fun _ => ?_) (fun g => absurd rfl g)
      exact hf _ (vR r1 n 0) d rfl (pA1_len hx ha).2.1 hk1
  have e40 : tx a = 40 := nIj (j := 40) (by omega) (by decide) g2
  rw [if_pos e40] at hl hf
  have hlt := hx.lt (a := a) (by omega)
  refine R_opens hx1 ht1 (by omega) hd (fun _ h9 => ?_) (fun h9 => ?_)
  rotate_left
  · rw [if_neg (fun w => h9 ⟨e40, w⟩)] at hf
    refine And.intro (fun g => absurd rfl g) (fun _ => ?_)
    exact hf a r1 d rfl ha hk1
  rw [if_pos h9] at hl hf
  have e1 : gBr tx (gEx tx f (d + 1)) (gEx tx f (d + 2)) (d + 1) (a + 1) = if 0 < ar (tx (a + 1)) ∧ ¬ (tx (a + 1) = 45 ∧ cD (tx (a + 1 + 1)) = true) then gSg tx (gEx tx f (d + 1)) (a + 1) else if tx (a + 1) = 92 then gBo tx (gEx tx f (d + 1)) (d + 1) (a + 1) else if tx (a + 1) = 58 ∨ tx (a + 1) = 59 then gLe tx (gEx tx f (d + 1)) (gEx tx f (d + 2)) (decide (tx (a + 1) = 59)) (d + 1) (a + 1) else gCa tx (gEx tx f (d + 1)) (a + 1) := rfl
  rw [e1] at hf
  clear hl e0 e1
  have hc1 := hx.le (a + 1)
  have hc2 := hx.le (a + 1 + 1)
  refine And.intro (fun _ => ?_) (fun (g : (1 : Int32) = 0) => absurd g (by decide))
  refine R_here0 hx1 ht1 (by omega) ?_
  have no : ¬ isS tx (a + 1) → ∀ F : Nat, mj_sg (mj_Mt gT cst gnw (m + 4)) cst gnw (mj_hd (mj_off kO_R_begin) kH_R_begin) kC_R_begin J Q (F + 60) false 129 [some (.ref 27), some (.int (oV u)), some (.int (nI n)), some (.int (nI (tx (a + 1)))), none] [] (cW s (rW (pdR r1 (a + 1) (d + 1)) tl), b0, b1, op) := by
    intro hns F
    have hns2 : ¬ (0 < ar (tx (a + 1)) ∧ ¬ (tx (a + 1) = 45 ∧ cD (tx (a + 1 + 1)) = true)) := hns
    rw [if_neg hns2] at hf
    refine And.intro (fun (g : ¬ nI (tx (a + 1)) = 92) => ?_) (fun (g : nI (tx (a + 1)) = 92) => ?_)
    · have n92 : ¬ tx (a + 1) = 92 := fun e => g (by rw [e]; rfl)
      rw [if_neg n92] at hf
      have bou : (tx (a + 1) = 58 ∨ tx (a + 1) = 59) → ∀ F : Nat, mj_sg (mj_Mt gT cst gnw (m + 4)) cst gnw (mj_hd (mj_off kO_R_begin) kH_R_begin) kC_R_begin J Q (F + 40) false 157 [some (.ref 27), some (.int (oV u)), some (.int (nI n)), some (.int (nI (tx (a + 1)))), none] [] (cW s (rW (pdR r1 (a + 1) (d + 1)) tl), b0, b1, op) := by
        intro hbo F
        rw [if_pos hbo] at hf
        have hlt2 := hx.lt (a := a + 1) (by omega)
        have fin : ∀ (x : Int32), x = (if tx (a + 1) = 58 then 6 else 7) → ∀ F : Nat, mj_sg (mj_Mt gT cst gnw (m + 4)) cst gnw (mj_hd (mj_off kO_R_begin) kH_R_begin) kC_R_begin J Q (F + 30) false 167 [some (.ref 27), some (.int (oV u)), some (.int (nI n)), some (.int (nI (tx (a + 1)))), none] [] (cW s (rW (pdR (kR r1 n x) (a + 1) (d + 1)) tl), b0, b1, op) := by
          intro x ex F
          refine sg_pinc (r := kR r1 n x) (a := a + 1) (d := d + 1) rfl rfl rfl rfl rfl rfl rfl ?_
          refine R_takes (c := 32) hx1 ht1 (by omega) (by decide) (fun e => ?_) (fun e => ?_)
          · refine And.intro (fun (g : (1 : Int32) = 0) => absurd g (by decide)) (fun _ => ?_)
            exact hL (kR r1 n x) e40 h9 hns n92 hbo e (by rw [← ex]; exact BG_k hb)
          · refine And.intro (fun _ => ?_) (fun g => absurd rfl g)
            have e3 : gLe tx (gEx tx f (d + 1)) (gEx tx f (d + 2)) (decide (tx (a + 1) = 59)) (d + 1) (a + 1) = .inr (a + 1 + 1) := by
              unfold gLe
              rw [if_neg e]
            exact hf _ (kR r1 n x) _ e3 (by omega) hk1
        refine And.intro (fun (g3 : ¬ nI (tx (a + 1)) = 58) => ?_) (fun (g3 : nI (tx (a + 1)) = 58) => ?_)
        · have n58 : ¬ tx (a + 1) = 58 := fun e => g3 (by rw [e]; rfl)
          refine And.intro hin ?_
          rw [ekn]
          exact fin 7 (by rw [if_neg n58]) _
        · have e58 : tx (a + 1) = 58 := nIj (j := 58) (by omega) (by decide) g3
          refine And.intro hin ?_
          rw [ekn]
          exact fin 6 (by rw [if_pos e58]) _
      refine And.intro (fun (g3 : nI (tx (a + 1)) = 58) => bou (Or.inl (nIj (j := 58) (by omega) (by decide) g3)) _) (fun (g3 : ¬ nI (tx (a + 1)) = 58) => ?_)
      refine And.intro (fun (g4 : ¬ nI (tx (a + 1)) = 59) => ?_) (fun (g4 : nI (tx (a + 1)) = 59) => bou (Or.inr (nIj (j := 59) (by omega) (by decide) g4)) _)
      have nb : ¬ (tx (a + 1) = 58 ∨ tx (a + 1) = 59) := by
        rintro (e | e)
        · exact g3 (by rw [e]; rfl)
        · exact g4 (by rw [e]; rfl)
      refine And.intro hin ?_
      rw [ekn]
      exact hC (kR r1 n 4) e40 h9 hns n92 nb (BG_k hb)
    · have e92 : tx (a + 1) = 92 := nIj (j := 92) (by omega) (by decide) g
      rw [if_pos e92] at hf
      have hlt2 := hx.lt (a := a + 1) (by omega)
      refine And.intro hin ?_
      rw [ekn]
      change mj_sg _ _ _ _ _ _ _ _ _ 137 _ _ (cW s (rW (pdR (kR r1 n 5) (a + 1) (d + 1)) tl), b0, b1, op)
      refine sg_pinc (r := kR r1 n 5) (a := a + 1) (d := d + 1) rfl rfl rfl rfl rfl rfl rfl ?_
      refine R_parameters (r := kR r1 n 5) (a := a + 1 + 1) (d := d + 1) hx1 ht1 h100 (by omega) (by omega) hv0 (fun ls a' L q1 q2 q3 q4 q5 => ?_) (fun a' v L d' q1 q2 => ?_)
      · refine And.intro (fun (g : (1 : Int32) = 0) => absurd g (by decide)) (fun _ => ?_)
        exact hB (lvR (kR r1 n 5) n (nI ls.length) L) ls a' e40 h9 hns e92 q1 q4 q5 (BG_lv q3 (BG_k hb)) q2 (if_pos rfl) q3.1 q3.2.2
      · refine And.intro (fun _ => ?_) (fun g => absurd rfl g)
        have e3 : gBo tx (gEx tx f (d + 1)) (d + 1) (a + 1) = .inr a' := by
          unfold gBo
          rw [q1]
        exact hf a' (lvR (kR r1 n 5) n v L) d' e3 q2 hk1
  have sgn : isS tx (a + 1) → ∀ F : Nat, mj_sg (mj_Mt gT cst gnw (m + 4)) cst gnw (mj_hd (mj_off kO_R_begin) kH_R_begin) kC_R_begin J Q (F + 60) false 105 [some (.ref 27), some (.int (oV u)), some (.int (nI n)), some (.int (nI (tx (a + 1)))), none] [] (cW s (rW (pdR r1 (a + 1) (d + 1)) tl), b0, b1, op) := by
    intro hs F
    have hs2 : 0 < ar (tx (a + 1)) ∧ ¬ (tx (a + 1) = 45 ∧ cD (tx (a + 1 + 1)) = true) := hs
    rw [if_pos hs2] at hf
    have hlt2 := hx.lt (a := a + 1) (fun q => by rw [q] at hs2; exact absurd hs2.1 (by decide))
    refine And.intro hin ?_
    rw [ekn]
    change mj_sg _ _ _ _ _ _ _ _ _ 110 _ _ (cW s (rW (pdR (kR r1 n 3) (a + 1) (d + 1)) tl), b0, b1, op)
    refine And.intro hin ?_
    rw [ekn]
    change mj_sg _ _ _ _ _ _ _ _ _ 115 _ _ (cW s (rW (pdR (vR (kR r1 n 3) n (nI (tx (a + 1)))) (a + 1) (d + 1)) tl), b0, b1, op)
    refine sg_pinc (r := vR (kR r1 n 3) n (nI (tx (a + 1)))) (a := a + 1) (d := d + 1) rfl rfl rfl rfl rfl rfl rfl ?_
    refine R_takes (c := 32) (r := vR (kR r1 n 3) n (nI (tx (a + 1)))) hx1 ht1 (by omega) (by decide) (fun e => ?_) (fun e => ?_)
    · refine And.intro (fun (g : (1 : Int32) = 0) => absurd g (by decide)) (fun _ => ?_)
      exact hS (vR (kR r1 n 3) n (nI (tx (a + 1)))) e40 h9 hs e (BG_v (BG_k hb)) (if_pos rfl)
    · refine And.intro (fun _ => ?_) (fun g => absurd rfl g)
      have e3 : gSg tx (gEx tx f (d + 1)) (a + 1) = .inr (a + 1 + 1) := by
        unfold gSg
        rw [if_neg e]
      exact hf _ (vR (kR r1 n 3) n (nI (tx (a + 1)))) _ e3 (by omega) hk1
  refine R_arity (by omega) ?_
  have ha3 := ar_le (tx (a + 1))
  refine And.intro (fun (g : nI (ar (tx (a + 1))) ≤ 0) => no (fun w => ?_) _) (fun (g : ¬ nI (ar (tx (a + 1))) ≤ 0) => ?_)
  · have := (nI_leI (b := 0) (by omega) (by decide)).mp g
    have := w.1
    omega
  have hpos : 0 < ar (tx (a + 1)) := Nat.pos_of_ne_zero (fun w => g (by rw [w]; decide))
  refine And.intro (fun (g3 : ¬ nI (tx (a + 1)) = 45) => sgn ⟨hpos, fun w => g3 (by rw [w.1]; rfl)⟩ _) (fun (g3 : nI (tx (a + 1)) = 45) => ?_)
  have e45 : tx (a + 1) = 45 := nIj (j := 45) (by omega) (by decide) g3
  refine R_here (k := 1) hx1 ht1 (by omega) ?_
  refine R_isDigit (by omega) (fun hdd => ?_) (fun hdd => ?_)
  · exact And.intro (fun _ => no (fun w => w.2 ⟨e45, hdd⟩) _) (fun (g : (1 : Int32) = 0) => absurd g (by decide))
  · exact And.intro (fun g => absurd rfl g) (fun _ => sgn ⟨hpos, fun w => by have q := w.2; rw [hdd] at q; exact absurd q (by decide)⟩ _)
end RD4
