section
def p0R (r : rM) (n : Nat) (w ab : Int32) : rM := (((((((((((r.s_parts (nI (n + 1))).s_kind (upd r.kind n w)).s_at_ (upd r.at_ n r.p)).s_until_ (upd r.until_ n r.p)).s_value (upd r.value n 0)).s_parent (upd r.parent n ab)).s_first (upd r.first n (-1))).s_last (upd r.last n (-1))).s_next (upd r.next n (-1))).s_many (upd r.many n 0)).s_bound (upd r.bound n 0))
def p1R (r : rM) (n v : Nat) : rM := (((r.s_first (upd r.first v (nI n))).s_last (upd r.last v (nI n))).s_many (upd r.many v (r.many v + 1)))
def p2R (r : rM) (n v l : Nat) : rM := (((r.s_next (upd r.next l (nI n))).s_last (upd r.last v (nI n))).s_many (upd r.many v (r.many v + 1)))
def krT (r : rM) := ((r.z, r.thrown, r.typed, r.text, r.error), (r.used, r.function, r.headKind, r.head, r.tailKind, r.tail), (r.marked, r.reg, r.program, r.state), (r.collections, r.takenBack, r.steps, r.shown, r.show_))
def kr (r r' : rM) : Prop := krT r' = krT r
theorem kr_tr {r r' r2 : rM} (h1 : kr r r') (h2 : kr r' r2) : kr r r2 := Eq.trans h2 h1
theorem kr_text {r r' : rM} (h : kr r r') : r'.text = r.text ∧ r'.typed = r.typed := ⟨congrArg (fun q => q.1.2.2.2.1) h, congrArg (fun q => q.1.2.2.1) h⟩
def FM (r r' : rM) (n : Nat) (u : Option Nat) : Prop := kr r r' ∧ (∀ i, i < n → (r'.kind i = r.kind i ∧ r'.value i = r.value i ∧ r'.at_ i = r.at_ i ∧ r'.until_ i = r.until_ i ∧ r'.parent i = r.parent i ∧ r'.bound i = r.bound i)) ∧ (∀ i, i < 3 * n → r'.letters i = r.letters i) ∧ (∀ i, i < n → ¬ u = some i → (r'.first i = r.first i ∧ r'.last i = r.last i ∧ r'.many i = r.many i)) ∧ (∀ i, i < n → (∀ v, u = some v → ¬ r.first v < 0 → ¬ r.last v = nI i) → r'.next i = r.next i) ∧ (∀ v, u = some v → v < n → (r'.first v = (if r.first v < 0 then nI n else r.first v) ∧ r'.last v = nI n ∧ r'.many v = r.many v + 1 ∧ (∀ l, l < n → ¬ r.first v < 0 → r.last v = nI l → r'.next l = nI n)))
def AG (r r' : rM) (n : Nat) : Prop := kr r r' ∧ (∀ i, i < n → (r'.kind i = r.kind i ∧ r'.value i = r.value i ∧ r'.at_ i = r.at_ i ∧ r'.until_ i = r.until_ i ∧ r'.parent i = r.parent i ∧ r'.bound i = r.bound i) ∧ (r'.first i = r.first i ∧ r'.last i = r.last i ∧ r'.many i = r.many i ∧ r'.next i = r.next i)) ∧ (∀ i, i < 3 * n → r'.letters i = r.letters i)
theorem AG_tr {r r' r2 : rM} {n : Nat} (h1 : AG r r' n) (h2 : AG r' r2 n) : AG r r2 n := by
  obtain ⟨a1, a2, a3⟩ := h1
  obtain ⟨b1, b2, b3⟩ := h2
  refine ⟨kr_tr a1 b1, fun i hi => ?_, fun i hi => (b3 i hi).trans (a3 i hi)⟩
  obtain ⟨⟨c1, c2, c3, c4, c5, c6⟩, c7, c8, c9, c10⟩ := a2 i hi
  obtain ⟨⟨d1, d2, d3, d4, d5, d6⟩, d7, d8, d9, d10⟩ := b2 i hi
  exact ⟨⟨d1.trans c1, d2.trans c2, d3.trans c3, d4.trans c4, d5.trans c5, d6.trans c6⟩, d7.trans c7, d8.trans c8, d9.trans c9, d10.trans c10⟩
theorem FM_AG {r r' r2 : rM} {n : Nat} {u : Option Nat} (h1 : FM r r' n u) (h2 : AG r' r2 n) : FM r r2 n u := by
  obtain ⟨a1, a2, a3, a4, a5, a6⟩ := h1
  obtain ⟨b1, b2, b3⟩ := h2
  refine ⟨kr_tr a1 b1, fun i hi => ?_, fun i hi => (b3 i hi).trans (a3 i hi), fun i hi hu => ?_, fun i hi hu => ?_, fun v hv hn => ?_⟩
  · obtain ⟨c1, c2, c3, c4, c5, c6⟩ := a2 i hi
    obtain ⟨⟨d1, d2, d3, d4, d5, d6⟩, -⟩ := b2 i hi
    exact ⟨d1.trans c1, d2.trans c2, d3.trans c3, d4.trans c4, d5.trans c5, d6.trans c6⟩
  · obtain ⟨c7, c8, c9⟩ := a4 i hi hu
    obtain ⟨-, d7, d8, d9, d10⟩ := b2 i hi
    exact ⟨d7.trans c7, d8.trans c8, d9.trans c9⟩
  · exact (b2 i hi).2.2.2.2.trans (a5 i hi hu)
  · obtain ⟨c1, c2, c3, c4⟩ := a6 v hv hn
    obtain ⟨-, d7, d8, d9, d10⟩ := b2 v hn
    exact ⟨d7.trans c1, d8.trans c2, d9.trans c3, fun l h1 h2 h3 => ((b2 l h1).2.2.2.2).trans (c4 l h1 h2 h3)⟩
theorem FM_below {r r' : rM} {n m l : Nat} (h : FM r r' m (some n)) (hn : n < m) (hm : m < 2 ^ 31) (hl : ¬ r.first n < 0 → r.last n = nI l ∧ n < l ∧ l < m) : AG r r' n := by
  obtain ⟨a1, a2, a3, a4, a5, a6⟩ := h
  refine ⟨a1, fun i hi => ⟨a2 i (by omega), ?_⟩, fun i hi => a3 i (by omega)⟩
  obtain ⟨c7, c8, c9⟩ := a4 i (by omega) (fun q => by cases q; omega)
  refine ⟨c7, c8, c9, a5 i (by omega) (fun v hv h1 h2 => ?_)⟩
  cases hv
  obtain ⟨e1, e2, e3⟩ := hl h1
  rw [e1] at h2
  have := nIj (by omega) (by omega) h2
  omega
def BG (r r' : rM) (n a : Nat) (u : Option Nat) (kd : Int32) : Prop := FM r r' n u ∧ r'.parts = nI (n + 1) ∧ (r'.parent n = oV u ∧ r'.kind n = kd ∧ r'.at_ n = nI a) ∧ (r'.first n = -1 ∧ r'.last n = -1 ∧ r'.next n = -1 ∧ r'.many n = 0 ∧ r'.bound n = 0)
section RD2
variable {cst : Nat → Option (Nat × (Nat → Int32))} {m b0 b1 : Nat} {op : Bool} {tl : List mj_O} {Q : mj_R → Prop} {s : cS} {r : rM} {a d n len : Nat} {tx : Nat → Nat} {u : Option Nat}
set_option maxRecDepth 10000
theorem bg0 {w : Int32} (hp : r.p = nI a) : BG r (p0R r n w (-1)) n a none w := by
  have e : ∀ (f : Nat → Int32) (x : Int32) (i : Nat), i < n → upd f n x i = f i := fun f x i hi => if_neg (by omega)
  refine ⟨⟨rfl, fun i hi => ⟨e _ _ i hi, e _ _ i hi, e _ _ i hi, e _ _ i hi, e _ _ i hi, e _ _ i hi⟩, fun i hi => rfl, fun i hi _ => ⟨e _ _ i hi, e _ _ i hi, e _ _ i hi⟩, fun i hi _ => e _ _ i hi, fun v hv => by cases hv⟩, rfl, ⟨if_pos rfl, if_pos rfl, (if_pos rfl).trans hp⟩, if_pos rfl, if_pos rfl, if_pos rfl, if_pos rfl, if_pos rfl⟩
theorem bg1 {w : Int32} {v : Nat} (hp : r.p = nI a) (hv : v < n) (hf : r.first v < 0) : BG r (p1R (p0R r n w (nI v)) n v) n a (some v) w := by
  have e : ∀ (f : Nat → Int32) (x : Int32) (i : Nat), i < n → upd f n x i = f i := fun f x i hi => if_neg (by omega)
  have e2 : ∀ (f : Nat → Int32) (x y : Int32) (i : Nat), i < n → ¬ i = v → upd (upd f n x) v y i = f i := fun f x y i hi hne => by
    show (if i = v then y else upd f n x i) = f i
    rw [if_neg hne]
    exact e _ _ i hi
  have e3 : ∀ (f : Nat → Int32) (x y : Int32), upd (upd f n x) v y n = x := fun f x y => by
    show (if n = v then y else upd f n x n) = x
    rw [if_neg (by omega)]
    exact if_pos rfl
  refine ⟨⟨rfl, fun i hi => ⟨e _ _ i hi, e _ _ i hi, e _ _ i hi, e _ _ i hi, e _ _ i hi, e _ _ i hi⟩, fun i hi => rfl, fun i hi hu => ?_, fun i hi _ => e _ _ i hi, fun v' hv' hn => ?_⟩, rfl, ⟨if_pos rfl, if_pos rfl, (if_pos rfl).trans hp⟩, e3 _ _ _, e3 _ _ _, if_pos rfl, e3 _ _ _, if_pos rfl⟩
  · have hne : ¬ i = v := fun q => hu (by rw [q])
    exact ⟨e2 _ _ _ i hi hne, e2 _ _ _ i hi hne, e2 _ _ _ i hi hne⟩
  · cases hv'
    refine ⟨?_, if_pos rfl, ?_, fun l _ h2 => absurd hf h2⟩
    · rw [if_pos hf]
      exact if_pos rfl
    · show (if v = v then upd r.many n 0 v + 1 else _) = _
      rw [if_pos rfl, e _ _ v hv]
theorem bg2 {w : Int32} {v l : Nat} (hp : r.p = nI a) (hv : v < n) (hf : ¬ r.first v < 0) (hl : l < n) (h31 : n < 2 ^ 31) (el : r.last v = nI l) : BG r (p2R (p0R r n w (nI v)) n v l) n a (some v) w := by
  have e : ∀ (f : Nat → Int32) (x : Int32) (i : Nat), i < n → upd f n x i = f i := fun f x i hi => if_neg (by omega)
  have e2 : ∀ (f : Nat → Int32) (x y : Int32) (i q : Nat), i < n → ¬ i = q → upd (upd f n x) q y i = f i := fun f x y i q hi hne => by
    show (if i = q then y else upd f n x i) = f i
    rw [if_neg hne]
    exact e _ _ i hi
  have e3 : ∀ (f : Nat → Int32) (x y : Int32) (q : Nat), q < n → upd (upd f n x) q y n = x := fun f x y q hq => by
    show (if n = q then y else upd f n x n) = x
    rw [if_neg (by omega)]
    exact if_pos rfl
  refine ⟨⟨rfl, fun i hi => ⟨e _ _ i hi, e _ _ i hi, e _ _ i hi, e _ _ i hi, e _ _ i hi, e _ _ i hi⟩, fun i hi => rfl, fun i hi hu => ?_, fun i hi h2 => ?_, fun v' hv' hn => ?_⟩, rfl, ⟨if_pos rfl, if_pos rfl, (if_pos rfl).trans hp⟩, if_pos rfl, e3 _ _ _ v hv, e3 _ _ _ l hl, e3 _ _ _ v hv, if_pos rfl⟩
  · have hne : ¬ i = v := fun q => hu (by rw [q])
    exact ⟨e _ _ i hi, e2 _ _ _ i v hi hne, e2 _ _ _ i v hi hne⟩
  · refine e2 _ _ _ i l hi (fun q => ?_)
    subst q
    exact h2 v rfl hf el
  · cases hv'
    refine ⟨?_, if_pos rfl, ?_, fun l' h1 _ h3 => ?_⟩
    · rw [if_neg hf]
      exact e _ _ v hv
    · show (if v = v then upd r.many n 0 v + 1 else _) = _
      rw [if_pos rfl, e _ _ v hv]
    · rw [el] at h3
      have := nIj (by omega) (by omega) h3
      subst this
      exact if_pos rfl
theorem R_part0 {w : Int32} (hp : r.p = nI a) (h100 : n < 100) (hu : ∀ v, u = some v → v < n ∧ (r.first v < 0 ∨ ∃ l, l < n ∧ r.last v = nI l ∧ ¬ r.first v < 0)) (hQ : ∀ r', BG r r' n a u w → r'.p = r.p → r'.depth = r.depth → r'.value n = 0 → Q (.inl (some (.int (nI n))), (cW s (rW r' tl), b0, b1, op))) : mj_Mt gT cst gnw (m + 1) y_R_part [.ref 27, .int w, .int (oV u)] (cW s (rW (r.s_parts (nI n)) tl), b0, b1, op) Q := by
    have ek : (nI n).toNatClampNeg = n := nI_clamp (by omega)
    have hin : vp_in (nI n) 100 := vp_in_nI h100 (by decide)
    intro J hJ
    refine hJ _ _ _ _ ?_
    obtain ⟨ra, hra⟩ : ∃ q, q = (r.s_parts (nI n + Int32.ofInt 1)) := ⟨_, rfl⟩
    refine And.intro hin ?_
    rw [show ((r.s_parts (nI n))).parts.toNatClampNeg = n from ek]
    change mj_sg _ _ _ _ _ _ _ _ _ 14 [some (.ref 27), some (.int w), some (.int (oV u)), some (.int (nI n))] [] (cW s (rW ((r.s_parts (nI n + Int32.ofInt 1)).s_kind (upd r.kind n w)) tl), b0, b1, op)
    obtain ⟨rb, hrb⟩ : ∃ q, q = ((r.s_parts (nI n + Int32.ofInt 1)).s_kind (upd r.kind n w)) := ⟨_, rfl⟩
    rw [← hrb]
    refine And.intro hin ?_
    rw [ek]
    change mj_sg _ _ _ _ _ _ _ _ _ 20 [some (.ref 27), some (.int w), some (.int (oV u)), some (.int (nI n))] [] (cW s (rW (rb.s_at_ (upd rb.at_ n rb.p)) tl), b0, b1, op)
    obtain ⟨rc, hrc⟩ : ∃ q, q = (rb.s_at_ (upd rb.at_ n rb.p)) := ⟨_, rfl⟩
    rw [← hrc]
    refine And.intro hin ?_
    rw [ek]
    change mj_sg _ _ _ _ _ _ _ _ _ 26 [some (.ref 27), some (.int w), some (.int (oV u)), some (.int (nI n))] [] (cW s (rW (rc.s_until_ (upd rc.until_ n rc.p)) tl), b0, b1, op)
    obtain ⟨rd, hrd⟩ : ∃ q, q = (rc.s_until_ (upd rc.until_ n rc.p)) := ⟨_, rfl⟩
    rw [← hrd]
    refine And.intro hin ?_
    rw [ek]
    change mj_sg _ _ _ _ _ _ _ _ _ 31 [some (.ref 27), some (.int w), some (.int (oV u)), some (.int (nI n))] [] (cW s (rW (rd.s_value (upd rd.value n 0)) tl), b0, b1, op)
    obtain ⟨re, hre⟩ : ∃ q, q = (rd.s_value (upd rd.value n 0)) := ⟨_, rfl⟩
    rw [← hre]
    refine And.intro hin ?_
    rw [ek]
    change mj_sg _ _ _ _ _ _ _ _ _ 36 [some (.ref 27), some (.int w), some (.int (oV u)), some (.int (nI n))] [] (cW s (rW (re.s_parent (upd re.parent n (oV u))) tl), b0, b1, op)
    obtain ⟨rf, hrf⟩ : ∃ q, q = (re.s_parent (upd re.parent n (oV u))) := ⟨_, rfl⟩
    rw [← hrf]
    refine And.intro hin ?_
    rw [ek]
    change mj_sg _ _ _ _ _ _ _ _ _ 41 [some (.ref 27), some (.int w), some (.int (oV u)), some (.int (nI n))] [] (cW s (rW (rf.s_first (upd rf.first n (-1))) tl), b0, b1, op)
    obtain ⟨rg, hrg⟩ : ∃ q, q = (rf.s_first (upd rf.first n (-1))) := ⟨_, rfl⟩
    rw [← hrg]
    refine And.intro hin ?_
    rw [ek]
    change mj_sg _ _ _ _ _ _ _ _ _ 46 [some (.ref 27), some (.int w), some (.int (oV u)), some (.int (nI n))] [] (cW s (rW (rg.s_last (upd rg.last n (-1))) tl), b0, b1, op)
    obtain ⟨rh, hrh⟩ : ∃ q, q = (rg.s_last (upd rg.last n (-1))) := ⟨_, rfl⟩
    rw [← hrh]
    refine And.intro hin ?_
    rw [ek]
    change mj_sg _ _ _ _ _ _ _ _ _ 51 [some (.ref 27), some (.int w), some (.int (oV u)), some (.int (nI n))] [] (cW s (rW (rh.s_next (upd rh.next n (-1))) tl), b0, b1, op)
    obtain ⟨ri, hri⟩ : ∃ q, q = (rh.s_next (upd rh.next n (-1))) := ⟨_, rfl⟩
    rw [← hri]
    refine And.intro hin ?_
    rw [ek]
    change mj_sg _ _ _ _ _ _ _ _ _ 56 [some (.ref 27), some (.int w), some (.int (oV u)), some (.int (nI n))] [] (cW s (rW (ri.s_many (upd ri.many n 0)) tl), b0, b1, op)
    obtain ⟨rj, hrj⟩ : ∃ q, q = (ri.s_many (upd ri.many n 0)) := ⟨_, rfl⟩
    rw [← hrj]
    refine And.intro hin ?_
    rw [ek]
    change mj_sg _ _ _ _ _ _ _ _ _ 61 [some (.ref 27), some (.int w), some (.int (oV u)), some (.int (nI n))] [] (cW s (rW (rj.s_bound (upd rj.bound n 0)) tl), b0, b1, op)
    obtain ⟨rk, hrk⟩ : ∃ q, q = (rj.s_bound (upd rj.bound n 0)) := ⟨_, rfl⟩
    rw [← hrk]
    have hE : rk = p0R r n w (oV u) := by
      rw [hrk, hrj, hri, hrh, hrg, hrf, hre, hrd, hrc, hrb]
      have e1 : nI n + Int32.ofInt 1 = nI (n + 1) := (nI_succ n).symm
      rw [e1]
      rfl
    clear hrk hrj hri hrh hrg hrf hre hrd hrc hrb hra
    subst hE
    cases u with
    | none =>
      refine And.intro (fun _ => ?_) (fun (g : ¬ oV none < 0) => absurd (by decide) g)
      exact hQ (p0R r n w (-1)) (bg0 hp) rfl rfl (if_pos rfl)
    | some v =>
      obtain ⟨hv, hf⟩ := hu v rfl
      have ev : (nI v).toNatClampNeg = v := nI_clamp (by omega)
      have hiv : vp_in (nI v) 100 := vp_in_nI (by omega) (by decide)
      have f1 : upd r.first n (-1) v = r.first v := if_neg (by omega)
      refine And.intro (fun (g : nI v < 0) => absurd g (nI_pos (by omega))) (fun _ => ?_)
      refine And.intro hiv ?_
      have key2 : ∀ (i : Nat), i = v → ∀ F : Nat, mj_sg (mj_Mt gT cst gnw m) cst gnw (mj_hd (mj_off kO_R_part) kH_R_part) kC_R_part J Q (F + 60) false 67 [some (.ref 27), some (.int w), some (.int (nI v)), some (.int (nI n))] [.int (upd r.first n (-1) i)] (cW s (rW (p0R r n w (oV (some v))) tl), b0, b1, op) := by
        rintro i rfl F
        rw [f1]
        rcases hf with hf | ⟨l, hl, el, hf⟩
        · refine And.intro (fun (g : 0 ≤ r.first i) => absurd hf (Int32.not_lt.mpr g)) (fun _ => ?_)
          refine And.intro hiv ?_
          refine And.intro hiv ?_
          refine And.intro hiv ?_
          refine And.intro hiv ?_
          have h9 := hQ (p1R (p0R r n w (nI i)) n i) (bg1 hp hv hf) rfl rfl (if_pos rfl)
          have key3 : ∀ (i1 i2 i3 i4 : Nat), i1 = i → i2 = i → i3 = i → i4 = i → Q (.inl (some (.int (nI n))), (cW s (rW ((((p0R r n w (nI i)).s_first (upd (upd r.first n (-1)) i1 (nI n))).s_last (upd (upd r.last n (-1)) i2 (nI n))).s_many (upd (upd r.many n 0) i3 (upd r.many n 0 i4 + Int32.ofInt 1))) tl), b0, b1, op)) := by
            intro i1 i2 i3 i4 q1 q2 q3 q4
            rw [q1, q2, q3, q4]
            exact h9
          exact key3 _ _ _ _ ev ev ev ev
        · refine And.intro (fun _ => ?_) (fun (g : ¬ 0 ≤ r.first i) => absurd (Int32.not_lt.mp hf) g)
          have el2 : upd r.last n (-1) i = nI l := by
            show (if i = n then _ else r.last i) = _
            rw [if_neg (by omega)]
            exact el
          have hil : vp_in (nI l) 100 := vp_in_nI (by omega) (by decide)
          refine And.intro hiv ?_
          have key4 : ∀ (i1 : Int32), i1 = nI l → ∀ F : Nat, mj_sg (mj_Mt gT cst gnw m) cst gnw (mj_hd (mj_off kO_R_part) kH_R_part) kC_R_part J Q (F + 30) false 80 [some (.ref 27), some (.int w), some (.int (nI i)), some (.int (nI n))] [.int i1, .ref 36] (cW s (rW (p0R r n w (oV (some i))) tl), b0, b1, op) := by
            rintro i1 rfl F
            have ell : (nI l).toNatClampNeg = l := nI_clamp (by omega)
            refine And.intro hil ?_
            refine And.intro hiv ?_
            refine And.intro hiv ?_
            refine And.intro hiv ?_
            have h9 := hQ (p2R (p0R r n w (nI i)) n i l) (bg2 hp hv hf hl (by omega) el) rfl rfl (if_pos rfl)
            have key3 : ∀ (i1 i2 i3 i4 : Nat), i1 = l → i2 = i → i3 = i → i4 = i → Q (.inl (some (.int (nI n))), (cW s (rW ((((p0R r n w (nI i)).s_next (upd (upd r.next n (-1)) i1 (nI n))).s_last (upd (upd r.last n (-1)) i2 (nI n))).s_many (upd (upd r.many n 0) i3 (upd r.many n 0 i4 + Int32.ofInt 1))) tl), b0, b1, op)) := by
              intro i1 i2 i3 i4 q1 q2 q3 q4
              rw [q1, q2, q3, q4]
              exact h9
            exact key3 _ _ _ _ ell ev ev ev
          refine key4 _ ?_ _
          show upd r.last n (-1) (nI i).toNatClampNeg = nI l
          rw [ev]
          exact el2
      exact key2 _ ev _
theorem R_part1 {w : Int32} (hp : r.p = nI a) (hn : r.parts = nI n) (h100 : n < 100) (hu : ∀ v, u = some v → v < n ∧ (r.first v < 0 ∨ ∃ l, l < n ∧ r.last v = nI l ∧ ¬ r.first v < 0)) (hQ : ∀ r', BG r r' n a u w → r'.p = r.p → r'.depth = r.depth → r'.value n = 0 → Q (.inl (some (.int (nI n))), (cW s (rW r' tl), b0, b1, op))) : mj_Mt gT cst gnw (m + 1) y_R_part [.ref 27, .int w, .int (oV u)] (cW s (rW r tl), b0, b1, op) Q := by
  have e : r = (r.s_parts r.parts) := rfl
  rw [hn] at e
  have := R_part0 (cst := cst) (m := m) (b0 := b0) (b1 := b1) (op := op) (tl := tl) (s := s) hp h100 hu hQ
  rw [← e] at this
  exact this
theorem pd_eta (hp : r.p = nI a) (hd : r.depth = nI d) : r = pdR r a d := by
  have e : r = ((r.s_p r.p).s_depth r.depth) := rfl
  rw [hp, hd] at e
  exact e
theorem R_part {w : Int32} (hn : r.parts = nI n) (h100 : n < 100) (hu : ∀ v, u = some v → v < n ∧ (r.first v < 0 ∨ ∃ l, l < n ∧ r.last v = nI l ∧ ¬ r.first v < 0)) (hQ : ∀ r', BG r r' n a u w → r'.value n = 0 → Q (.inl (some (.int (nI n))), (cW s (rW (pdR r' a d) tl), b0, b1, op))) : mj_Mt gT cst gnw (m + 1) y_R_part [.ref 27, .int w, .int (oV u)] (cW s (rW (pdR r a d) tl), b0, b1, op) Q := by
  refine R_part1 (r := pdR r a d) (a := a) rfl hn h100 hu (fun r' h1 h2 h3 h4 => ?_)
  have h9 := hQ r' h1 h4
  rw [← pd_eta (r := r') (a := a) (d := d) h2 h3] at h9
  exact h9
theorem R_arity {h : mj_H} {c : Nat} (hc : c < 2 ^ 31) (hQ : Q (.inl (some (.int (nI (ar c)))), h)) : mj_Mt gT cst gnw (m + 1) y_R_arity [.int (nI c)] h Q := by
  intro J hJ
  refine hJ _ _ _ _ ?_
  refine And.intro (fun (g : nI c = 33) => ?_) (fun (g33 : ¬ nI c = 33) => ?_)
  · have e : c = 33 := nIj (j := 33) hc (by decide) g
    subst e
    exact hQ
  refine And.intro (fun (g : nI c = 42) => ?_) (fun (g42 : ¬ nI c = 42) => ?_)
  · have e : c = 42 := nIj (j := 42) hc (by decide) g
    subst e
    exact hQ
  refine And.intro (fun (g : nI c = 43) => ?_) (fun (g43 : ¬ nI c = 43) => ?_)
  · have e : c = 43 := nIj (j := 43) hc (by decide) g
    subst e
    exact hQ
  refine And.intro (fun (g : nI c = 45) => ?_) (fun (g45 : ¬ nI c = 45) => ?_)
  · have e : c = 45 := nIj (j := 45) hc (by decide) g
    subst e
    exact hQ
  refine And.intro (fun (g : nI c = 46) => ?_) (fun (g46 : ¬ nI c = 46) => ?_)
  · have e : c = 46 := nIj (j := 46) hc (by decide) g
    subst e
    exact hQ
  refine And.intro (fun (g : nI c = 60) => ?_) (fun (g60 : ¬ nI c = 60) => ?_)
  · have e : c = 60 := nIj (j := 60) hc (by decide) g
    subst e
    exact hQ
  refine And.intro (fun (g : nI c = 61) => ?_) (fun (g61 : ¬ nI c = 61) => ?_)
  · have e : c = 61 := nIj (j := 61) hc (by decide) g
    subst e
    exact hQ
  refine And.intro (fun (g : nI c = 63) => ?_) (fun (g63 : ¬ nI c = 63) => ?_)
  · have e : c = 63 := nIj (j := 63) hc (by decide) g
    subst e
    exact hQ
  refine And.intro (fun (g : nI c = 94) => ?_) (fun (g94 : ¬ nI c = 94) => ?_)
  · have e : c = 94 := nIj (j := 94) hc (by decide) g
    subst e
    exact hQ
  refine And.intro (fun (g : nI c = 95) => ?_) (fun (g95 : ¬ nI c = 95) => ?_)
  · have e : c = 95 := nIj (j := 95) hc (by decide) g
    subst e
    exact hQ
  have n33 : ¬ c = 33 := fun e => g33 (by rw [e]; rfl)
  have n42 : ¬ c = 42 := fun e => g42 (by rw [e]; rfl)
  have n43 : ¬ c = 43 := fun e => g43 (by rw [e]; rfl)
  have n45 : ¬ c = 45 := fun e => g45 (by rw [e]; rfl)
  have n46 : ¬ c = 46 := fun e => g46 (by rw [e]; rfl)
  have n60 : ¬ c = 60 := fun e => g60 (by rw [e]; rfl)
  have n61 : ¬ c = 61 := fun e => g61 (by rw [e]; rfl)
  have n63 : ¬ c = 63 := fun e => g63 (by rw [e]; rfl)
  have n94 : ¬ c = 94 := fun e => g94 (by rw [e]; rfl)
  have n95 : ¬ c = 95 := fun e => g95 (by rw [e]; rfl)
  have e : ar c = 0 := by
    unfold ar
    rw [if_neg (by omega), if_neg (by omega), if_neg n63]
  rw [e] at hQ
  exact hQ
end RD2
end
section
section MAC
variable {call : Nat → List Value → mj_H → (mj_R → Prop) → Prop} {cst : Nat → Option (Nat × (Nat → Int32))} {nw : mj_N} {hd : Nat → Nat → Option (Option (Nat × Nat))} {code : mj_C} {J : Nat → mj_L → List Value → mj_H → Prop} {Q : mj_R → Prop} {pc F : Nat} {ls : mj_L} {st : List Value} {b0 b1 : Nat} {op : Bool} {tl : List mj_O} {s : cS} {r : rM} {a d : Nat}
set_option maxRecDepth 10000
theorem sg_st {i : Instr} {h : mj_H} (hc : mj_nth code pc = some (false, i)) (hs : mj_stp call cst nw hd Q (mj_sg call cst nw hd code J Q F false) i pc ls st h) : mj_sg call cst nw hd code J Q (F + 1) false pc ls st h := by
  show (match mj_nth code pc with
    | none => False
    | some (cu, i) => match cu, false with
      | true, false => J pc ls st h
      | _, _ => mj_stp call cst nw hd Q (mj_sg call cst nw hd code J Q F false) i pc ls st h)
  rw [hc]
  exact hs
theorem sg_pinc (h0 : mj_nth code pc = some (false, .aload 0)) (h1 : mj_nth code (pc + 1) = some (false, .dup)) (h2 : mj_nth code (pc + 1 + 1) = some (false, .getfield 2576)) (h3 : mj_nth code (pc + 1 + 1 + 1) = some (false, .iconst 1)) (h4 : mj_nth code (pc + 1 + 1 + 1 + 1) = some (false, .iadd)) (h5 : mj_nth code (pc + 1 + 1 + 1 + 1 + 1) = some (false, .putfield 2576)) (hl : mj_nth ls 0 = some (some (.ref 27))) (h : mj_sg call cst nw hd code J Q F false (pc + 6) ls st (cW s (rW (pdR r (a + 1) d) tl), b0, b1, op)) : mj_sg call cst nw hd code J Q (F + 6) false pc ls st (cW s (rW (pdR r a d) tl), b0, b1, op) := by
  have e : nI (a + 1) = nI a + Int32.ofInt 1 := nI_succ a
  unfold pdR at h
  rw [e] at h
  refine sg_st (F := F + 5) h0 ?_
  show (match mj_nth ls 0 with
    | some (some (.ref x)) => mj_sg call cst nw hd code J Q (F + 5) false (pc + 1) ls (.ref x :: st) (cW s (rW (pdR r a d) tl), b0, b1, op)
    | _ => False)
  rw [hl]
  refine sg_st (F := F + 4) h1 ?_
  refine sg_st (F := F + 3) h2 ?_
  refine sg_st (F := F + 2) h3 ?_
  refine sg_st (F := F + 1) h4 ?_
  refine sg_st (F := F) h5 ?_
  exact h
end MAC
end
section
theorem three_n (n : Nat) : Int32.ofInt 3 * nI n = nI (3 * n) := by
  show nI 3 * nI n = _
  exact (Int32.ofNat_mul 3 n).symm
theorem upd_2 (f : Nat → Int32) (n : Nat) (x y : Int32) : upd (upd f n x) n y = upd f n y := by
  funext i
  unfold upd
  split <;> rfl
def lvR (r : rM) (n : Nat) (v : Int32) (L : Nat → Int32) : rM := ((r.s_value (upd r.value n v)).s_letters L)
def LT (n : Nat) (L0 L : Nat → Int32) (ls : List Nat) : Prop := (∀ i c, ls[i]? = some c → L (3 * n + i) = nI c) ∧ (∀ i, i < 3 * n → L i = L0 i) ∧ (∀ c ∈ ls, c < 256)
theorem LT_app {n : Nat} {L0 L : Nat → Int32} {ls : List Nat} {c : Nat} (h : LT n L0 L ls) (hc : c < 256) : LT n L0 (upd L (3 * n + ls.length) (nI c)) (ls ++ [c]) := by
  refine ⟨fun i x hi => ?_, fun i hi => ?_, fun x hx => ?_⟩
  · unfold upd
    by_cases e : i = ls.length
    · subst e
      rw [if_pos rfl]
      rw [List.getElem?_append_right (Nat.le_refl _), Nat.sub_self] at hi
      cases hi
      rfl
    · have hlt : i < ls.length := by
        rcases Nat.lt_or_ge i ls.length with w | w
        · exact w
        · rw [List.getElem?_eq_none (by rw [List.length_append, List.length_cons, List.length_nil]; omega)] at hi
          cases hi
      rw [if_neg (by omega)]
      rw [List.getElem?_append_left hlt] at hi
      exact h.1 i x hi
  · unfold upd
    rw [if_neg (by omega)]
    exact h.2.1 i hi
  · rcases List.mem_append.mp hx with w | w
    · exact h.2.2 x w
    · rw [List.mem_singleton.mp w]
      exact hc
section RD3
variable {cst : Nat → Option (Nat × (Nat → Int32))} {m b0 b1 : Nat} {op : Bool} {tl : List mj_O} {Q : mj_R → Prop} {s : cS} {r : rM} {d n len : Nat} {tx : Nat → Nat}
set_option maxRecDepth 10000
theorem R_parEnd {q : Nat} {J : Nat → mj_L → List Value → mj_H → Prop} {x2 x3 : Option Value} (hx : txOK r.text len tx) (ht : r.typed = nI len) (hq : q ≤ 900) (h1 : tx q = 41 → tx (q + 1) = 32 → Q (.inl (some (.int 1)), (cW s (rW (pdR r (q + 1 + 1) d) tl), b0, b1, op))) (h2 : tx q = 41 → ¬ tx (q + 1) = 32 → Q (.inl (some (.int 0)), (cW s (rW (pdR r (q + 1) d) tl), b0, b1, op))) (h3 : ¬ tx q = 41 → Q (.inl (some (.int 0)), (cW s (rW (pdR r q (d + 1)) tl), b0, b1, op))) (F : Nat) :
    mj_sg (mj_Mt gT cst gnw (m + 3)) cst gnw (mj_hd (mj_off kO_R_parameters) kH_R_parameters) kC_R_parameters J Q (F + 20) false 105 [some (.ref 27), some (.int (nI n)), x2, x3] [] (cW s (rW (pdR r q (d + 1)) tl), b0, b1, op) := by
  refine R_closes hx ht (by omega) (fun e => ?_) (fun e => ?_)
  · refine And.intro (fun (g : (1 : Int32) = 0) => absurd g (by decide)) (fun _ => ?_)
    refine R_takes (c := 32) hx ht (by omega) (by decide) (fun e2 => ?_) (fun e2 => ?_)
    · refine And.intro (fun (g : (1 : Int32) = 0) => absurd g (by decide)) (fun _ => ?_)
      exact And.intro (Or.inr rfl) (h1 e e2)
    · refine And.intro (fun _ => ?_) (fun g => absurd rfl g)
      exact And.intro (Or.inl rfl) (h2 e e2)
  · refine And.intro (fun _ => ?_) (fun g => absurd rfl g)
    exact And.intro (Or.inl rfl) (h3 e)
theorem R_parLoop (hx : txOK r.text len tx) (ht : r.typed = nI len) (hn : n < 100) {J : Nat → mj_L → List Value → mj_H → Prop} (hJ : ∀ pc ls st h, mj_sg (mj_Mt gT cst gnw (m + 3)) cst gnw (mj_hd (mj_off kO_R_parameters) kH_R_parameters) kC_R_parameters J Q 400 true pc ls st h → J pc ls st h) :
    ∀ (j q : Nat) (ls : List Nat) (L : Nat → Int32) (x3 : Option Value), j + ls.length = 3 → 0 < j → q ≤ len → LT n r.letters L ls → (∀ ls' a' L', gLs tx j q ls = .inl (ls', a') → ls'.length ≤ 3 → LT n r.letters L' ls' → q < a' → a' ≤ len → Q (.inl (some (.int 1)), (cW s (rW (pdR (lvR r n (nI ls'.length) L') a' d) tl), b0, b1, op))) → (∀ a' v L' d', gLs tx j q ls = .inr a' → a' ≤ len → Q (.inl (some (.int 0)), (cW s (rW (pdR (lvR r n v L') a' d') tl), b0, b1, op))) →
      J 27 [some (.ref 27), some (.int (nI n)), some (.int (nI ls.length)), x3] [] (cW s (rW (pdR (lvR r n (nI ls.length) L) q (d + 1)) tl), b0, b1, op) := by
  have h96 := hx.1
  have hin : vp_in (nI n) 100 := vp_in_nI hn (by decide)
  have ekn : (nI n).toNatClampNeg = n := nI_clamp (by omega)
  intro j
  induction j with
  | zero => intro q ls L x3 _ h0; omega
  | succ j ih =>
    intro q ls L x3 hj _ hq hL hQ1 hQ0
    have e0 : gLs tx (j + 1) q ls = if cL (tx q) = true ∧ ¬ tx q ∈ ls then (if tx (q + 1) = 32 ∧ ¬ j = 0 then gLs tx j (q + 1 + 1) (ls ++ [tx q]) else (if tx (q + 1) = 41 then (if tx (q + 1 + 1) = 32 then .inl (ls ++ [tx q], q + 1 + 1 + 1) else .inr (q + 1 + 1)) else .inr (q + 1))) else .inr q := rfl
    rw [e0] at hQ1 hQ0
    have hcq := hx.le q
    have take : cL (tx q) = true → ¬ tx q ∈ ls → ∀ F : Nat, mj_sg (mj_Mt gT cst gnw (m + 3)) cst gnw (mj_hd (mj_off kO_R_parameters) kH_R_parameters) kC_R_parameters J Q (F + 120) false 68 [some (.ref 27), some (.int (nI n)), some (.int (nI ls.length)), some (.int (nI (tx q)))] [] (cW s (rW (pdR (lvR r n (nI ls.length) L) q (d + 1)) tl), b0, b1, op) := by
      intro hc hm F
      rw [if_pos ⟨hc, hm⟩] at hQ1 hQ0
      have hlt := hx.lt (a := q) (fun w => by rw [w] at hc; exact absurd hc (by decide))
      have hL' := LT_app hL (c := tx q) (by omega)
      have hlen : (ls ++ [tx q]).length = ls.length + 1 := by rw [List.length_append, List.length_cons, List.length_nil]
      have ev : upd r.value n (nI ls.length) n = nI ls.length := if_pos rfl
      have i3 : Int32.ofInt 3 * nI n + nI ls.length = nI (3 * n + ls.length) := by rw [three_n, nI_add]
      refine And.intro hin ?_
      have key : ∀ (v : Int32), v = nI ls.length → ∀ F : Nat, mj_sg (mj_Mt gT cst gnw (m + 3)) cst gnw (mj_hd (mj_off kO_R_parameters) kH_R_parameters) kC_R_parameters J Q (F + 100) false 77 [some (.ref 27), some (.int (nI n)), some (.int (nI ls.length)), some (.int (nI (tx q)))] [.int v, .int (Int32.ofInt 3 * nI n), .ref 38] (cW s (rW (pdR (lvR r n (nI ls.length) L) q (d + 1)) tl), b0, b1, op) := by
        rintro v rfl F
        refine And.intro (show vp_in (Int32.ofInt 3 * nI n + nI ls.length) 300 by rw [i3]; exact vp_in_nI (by omega) (by decide)) ?_
        refine And.intro hin ?_
        refine And.intro hin ?_
        have key2 : ∀ (V L' : Nat → Int32), V = upd r.value n (nI (ls.length + 1)) → L' = upd L (3 * n + ls.length) (nI (tx q)) → ∀ F : Nat, mj_sg (mj_Mt gT cst gnw (m + 3)) cst gnw (mj_hd (mj_off kO_R_parameters) kH_R_parameters) kC_R_parameters J Q (F + 60) false 88 [some (.ref 27), some (.int (nI n)), some (.int (nI ls.length)), some (.int (nI (tx q)))] [] (cW s (rW (((pdR r q (d + 1)).s_value V).s_letters L') tl), b0, b1, op) := by
          rintro V L' rfl rfl F
          rw [← hlen]
          refine sg_pinc (r := lvR r n (nI (ls ++ [tx q]).length) (upd L (3 * n + ls.length) (nI (tx q)))) (a := q) (d := d + 1) rfl rfl rfl rfl rfl rfl rfl ?_
          refine R_here0 (r := lvR r n (nI (ls ++ [tx q]).length) (upd L (3 * n + ls.length) (nI (tx q)))) (a := q + 1) (d := d + 1) hx ht (by omega) ?_
          have hcq1 := hx.le (q + 1)
          have fin : ¬ (tx (q + 1) = 32 ∧ ¬ j = 0) → ∀ F : Nat, mj_sg (mj_Mt gT cst gnw (m + 3)) cst gnw (mj_hd (mj_off kO_R_parameters) kH_R_parameters) kC_R_parameters J Q (F + 20) false 105 [some (.ref 27), some (.int (nI n)), some (.int (nI ls.length)), some (.int (nI (tx q)))] [] (cW s (rW (pdR (lvR r n (nI (ls ++ [tx q]).length) (upd L (3 * n + ls.length) (nI (tx q)))) (q + 1) (d + 1)) tl), b0, b1, op) := by
            intro hne F
            rw [if_neg hne] at hQ1 hQ0
            refine R_parEnd (r := lvR r n (nI (ls ++ [tx q]).length) (upd L (3 * n + ls.length) (nI (tx q)))) hx ht (by omega) (fun w1 w2 => ?_) (fun w1 w2 => ?_) (fun w1 => ?_) F
            · rw [if_pos w1, if_pos w2] at hQ1
              have := hx.lt (a := q + 1 + 1) (by omega)
              exact hQ1 (ls ++ [tx q]) (q + 1 + 1 + 1) _ rfl (by omega) hL' (by omega) (by omega)
            · rw [if_pos w1, if_neg w2] at hQ0
              have := hx.lt (a := q + 1) (by omega)
              exact hQ0 _ _ _ _ rfl (by omega)
            · rw [if_neg w1] at hQ0
              exact hQ0 _ _ _ _ rfl (by omega)
          refine And.intro (fun (g : ¬ nI (tx (q + 1)) = 32) => fin (fun w => g (by rw [w.1]; rfl)) _) (fun (g : nI (tx (q + 1)) = 32) => ?_)
          have e32 : tx (q + 1) = 32 := nIj (j := 32) (by omega) (by decide) g
          refine And.intro hin ?_
          have ev2 : ∀ f : Nat → Int32, upd f n (nI (ls ++ [tx q]).length) n = nI (ls ++ [tx q]).length := fun f => if_pos rfl
          have key4 : ∀ v : Int32, v = nI (ls ++ [tx q]).length → ∀ F : Nat, mj_sg (mj_Mt gT cst gnw (m + 3)) cst gnw (mj_hd (mj_off kO_R_parameters) kH_R_parameters) kC_R_parameters J Q (F + 30) false 103 [some (.ref 27), some (.int (nI n)), some (.int (nI ls.length)), some (.int (nI (tx q)))] [.int v] (cW s (rW (pdR (lvR r n (nI (ls ++ [tx q]).length) (upd L (3 * n + ls.length) (nI (tx q)))) (q + 1) (d + 1)) tl), b0, b1, op) := by
            rintro v rfl F
            refine And.intro (fun (g2 : ¬ nI (ls ++ [tx q]).length = 3) => ?_) (fun (g2 : nI (ls ++ [tx q]).length = 3) => ?_)
            · have hj0 : ¬ j = 0 := fun w => g2 (by rw [hlen, show ls.length + 1 = 3 by omega]; rfl)
              rw [if_pos ⟨e32, hj0⟩] at hQ1 hQ0
              have hlt2 := hx.lt (a := q + 1) (by omega)
              refine sg_pinc (r := lvR r n (nI (ls ++ [tx q]).length) (upd L (3 * n + ls.length) (nI (tx q)))) (a := q + 1) (d := d + 1) rfl rfl rfl rfl rfl rfl rfl ?_
              have key5 : ∀ z : Int32, z = nI (ls ++ [tx q]).length → J 27 [some (.ref 27), some (.int (nI n)), some (.int z), some (.int (nI (tx q)))] [] (cW s (rW (pdR (lvR r n (nI (ls ++ [tx q]).length) (upd L (3 * n + ls.length) (nI (tx q)))) (q + 1 + 1) (d + 1)) tl), b0, b1, op) := by
                rintro z rfl
                exact ih (q + 1 + 1) (ls ++ [tx q]) (upd L (3 * n + ls.length) (nI (tx q))) _ (by omega) (by omega) (by omega) hL' (fun ls' a' L' w1 w2 w3 w4 w5 => hQ1 ls' a' L' w1 w2 w3 (by omega) w5) hQ0
              exact key5 _ (by rw [hlen]; exact (nI_succ ls.length).symm)
            · have hj0 : j = 0 := by
                have := nIj (i := (ls ++ [tx q]).length) (j := 3) (by omega) (by decide) g2
                omega
              exact fin (fun w => w.2 hj0) _
          refine key4 _ ?_ _
          show upd r.value n (nI (ls ++ [tx q]).length) (nI n).toNatClampNeg = _
          rw [ekn]
          exact ev2 _
        refine key2 (upd (upd r.value n (nI ls.length)) (nI n).toNatClampNeg (upd r.value n (nI ls.length) (nI n).toNatClampNeg + Int32.ofInt 1)) (upd L (Int32.ofInt 3 * nI n + nI ls.length).toNatClampNeg (nI (tx q))) ?_ ?_ _
        · rw [ekn, ev, upd_2]
          congr 1
          exact (nI_succ ls.length).symm
        · rw [i3, nI_clamp (by omega)]
      refine key _ ?_ _
      show upd r.value n (nI ls.length) (nI n).toNatClampNeg = _
      rw [ekn]
      exact ev
    refine hJ _ _ _ _ ?_
    refine And.intro (fun (g : (3 : Int32) ≤ nI ls.length) => absurd g (nI_ge (b := 3) (by omega) (by decide))) (fun _ => ?_)
    refine R_here0 (r := lvR r n (nI ls.length) L) (a := q) (d := d + 1) hx ht (by omega) ?_
    have no : ¬ (cL (tx q) = true ∧ ¬ tx q ∈ ls) → Q (.inl (some (.int 0)), (cW s (rW (pdR (lvR r n (nI ls.length) L) q (d + 1)) tl), b0, b1, op)) := by
      intro w
      rw [if_neg w] at hQ0
      exact hQ0 _ _ _ _ rfl hq
    refine R_isLetter (by omega) (fun hc => ?_) (fun hc => ?_)
    · refine And.intro (fun (g : (1 : Int32) = 0) => absurd g (by decide)) (fun _ => ?_)
      refine And.intro hin ?_
      have ev : upd r.value n (nI ls.length) n = nI ls.length := if_pos rfl
      have i3 : Int32.ofInt 3 * nI n = nI (3 * n) := three_n n
      have ck3 : (nI (3 * n)).toNatClampNeg = 3 * n := nI_clamp (by omega)
      have ck4 : (nI (3 * n + 1)).toNatClampNeg = 3 * n + 1 := nI_clamp (by omega)
      have hi3 : vp_in (Int32.ofInt 3 * nI n) 300 := by rw [i3]; exact vp_in_nI (by omega) (by decide)
      have i4 : Int32.ofInt 3 * nI n + Int32.ofInt 1 = nI (3 * n + 1) := by rw [i3]; exact (nI_succ (3 * n)).symm
      have hi4 : vp_in (Int32.ofInt 3 * nI n + Int32.ofInt 1) 300 := by rw [i4]; exact vp_in_nI (by omega) (by decide)
      have out : tx q ∈ ls → ∀ F : Nat, mj_sg (mj_Mt gT cst gnw (m + 3)) cst gnw (mj_hd (mj_off kO_R_parameters) kH_R_parameters) kC_R_parameters J Q (F + 10) false 66 [some (.ref 27), some (.int (nI n)), some (.int (nI ls.length)), some (.int (nI (tx q)))] [] (cW s (rW (pdR (lvR r n (nI ls.length) L) q (d + 1)) tl), b0, b1, op) := fun hm F => And.intro (Or.inl rfl) (no (fun w => w.2 hm))
      have two : (∀ c, ls[0]? = some c → ¬ c = tx q) → ∀ F : Nat, mj_sg (mj_Mt gT cst gnw (m + 3)) cst gnw (mj_hd (mj_off kO_R_parameters) kH_R_parameters) kC_R_parameters J Q (F + 200) false 50 [some (.ref 27), some (.int (nI n)), some (.int (nI ls.length)), some (.int (nI (tx q)))] [] (cW s (rW (pdR (lvR r n (nI ls.length) L) q (d + 1)) tl), b0, b1, op) := by
        intro hne F
        refine And.intro hin ?_
        have key : ∀ v : Int32, v = nI ls.length → ∀ F : Nat, mj_sg (mj_Mt gT cst gnw (m + 3)) cst gnw (mj_hd (mj_off kO_R_parameters) kH_R_parameters) kC_R_parameters J Q (F + 180) false 54 [some (.ref 27), some (.int (nI n)), some (.int (nI ls.length)), some (.int (nI (tx q)))] [.int v] (cW s (rW (pdR (lvR r n (nI ls.length) L) q (d + 1)) tl), b0, b1, op) := by
          rintro v rfl F
          refine And.intro (fun (g : nI ls.length ≤ 1) => ?_) (fun (g : ¬ nI ls.length ≤ 1) => ?_)
          · refine take hc (fun hm => ?_) _
            have hl1 := (nI_leI (b := 1) (by omega) (by decide)).mp g
            obtain ⟨i, hi⟩ := List.getElem?_of_mem hm
            have : i < ls.length := by
              rcases Nat.lt_or_ge i ls.length with w | w
              · exact w
              · rw [List.getElem?_eq_none w] at hi
                cases hi
            obtain rfl : i = 0 := by omega
            exact hne _ hi rfl
          · have hl2 : ls.length = 2 := by
              have : ¬ ls.length ≤ 1 := fun w => g (nI_le (b := 1) w (by decide))
              omega
            refine And.intro hi4 ?_
            obtain ⟨c1, hc1⟩ : ∃ c, ls[1]? = some c := ⟨_, List.getElem?_eq_getElem (by omega)⟩
            have hb1 : c1 < 256 := hL.2.2 c1 (List.mem_of_getElem? hc1)
            have key2 : ∀ v : Int32, v = nI c1 → ∀ F : Nat, mj_sg (mj_Mt gT cst gnw (m + 3)) cst gnw (mj_hd (mj_off kO_R_parameters) kH_R_parameters) kC_R_parameters J Q (F + 160) false 64 [some (.ref 27), some (.int (nI n)), some (.int (nI ls.length)), some (.int (nI (tx q)))] [.int v] (cW s (rW (pdR (lvR r n (nI ls.length) L) q (d + 1)) tl), b0, b1, op) := by
              rintro v rfl F
              refine And.intro (fun (g2 : ¬ nI c1 = nI (tx q)) => ?_) (fun (g2 : nI c1 = nI (tx q)) => ?_)
              · refine take hc (fun hm => ?_) _
                obtain ⟨i, hi⟩ := List.getElem?_of_mem hm
                have : i < ls.length := by
                  rcases Nat.lt_or_ge i ls.length with w | w
                  · exact w
                  · rw [List.getElem?_eq_none w] at hi
                    cases hi
                rcases Nat.lt_or_ge i 1 with w | w
                · obtain rfl : i = 0 := by omega
                  exact hne _ hi rfl
                · obtain rfl : i = 1 := by omega
                  rw [hi] at hc1
                  cases hc1
                  exact g2 rfl
              · have := nIj (by omega) (by omega) g2
                subst this
                exact And.intro (Or.inl rfl) (no (fun w => w.2 (List.mem_of_getElem? hc1)))
            refine key2 _ ?_ _
            show L (Int32.ofInt 3 * nI n + Int32.ofInt 1).toNatClampNeg = nI c1
            rw [i4, ck4]
            exact hL.1 1 c1 hc1
        refine key _ ?_ _
        show upd r.value n (nI ls.length) (nI n).toNatClampNeg = _
        rw [ekn]
        exact ev
      have key : ∀ v : Int32, v = nI ls.length → ∀ F : Nat, mj_sg (mj_Mt gT cst gnw (m + 3)) cst gnw (mj_hd (mj_off kO_R_parameters) kH_R_parameters) kC_R_parameters J Q (F + 300) false 41 [some (.ref 27), some (.int (nI n)), some (.int (nI ls.length)), some (.int (nI (tx q)))] [.int v] (cW s (rW (pdR (lvR r n (nI ls.length) L) q (d + 1)) tl), b0, b1, op) := by
        rintro v rfl F
        refine And.intro (fun (g : nI ls.length ≤ 0) => ?_) (fun (g : ¬ nI ls.length ≤ 0) => ?_)
        · refine two (fun c hc0 => ?_) _
          have := (nI_leI (b := 0) (by omega) (by decide)).mp g
          rw [List.getElem?_eq_none (by omega)] at hc0
          cases hc0
        · have hl1 : 1 ≤ ls.length := Nat.pos_of_ne_zero (fun w => g (by rw [w]; decide))
          refine And.intro hi3 ?_
          obtain ⟨c0, hc0⟩ : ∃ c, ls[0]? = some c := ⟨_, List.getElem?_eq_getElem (by omega)⟩
          have hb0 : c0 < 256 := hL.2.2 c0 (List.mem_of_getElem? hc0)
          have key2 : ∀ v : Int32, v = nI c0 → ∀ F : Nat, mj_sg (mj_Mt gT cst gnw (m + 3)) cst gnw (mj_hd (mj_off kO_R_parameters) kH_R_parameters) kC_R_parameters J Q (F + 250) false 48 [some (.ref 27), some (.int (nI n)), some (.int (nI ls.length)), some (.int (nI (tx q)))] [.int v] (cW s (rW (pdR (lvR r n (nI ls.length) L) q (d + 1)) tl), b0, b1, op) := by
            rintro v rfl F
            refine And.intro (fun (g2 : nI c0 = nI (tx q)) => ?_) (fun (g2 : ¬ nI c0 = nI (tx q)) => ?_)
            · have := nIj (by omega) (by omega) g2
              subst this
              exact out (List.mem_of_getElem? hc0) _
            · refine two (fun c hcc w => ?_) _
              rw [hcc] at hc0
              cases hc0
              exact g2 (by rw [w])
          refine key2 _ ?_ _
          show L (Int32.ofInt 3 * nI n).toNatClampNeg = nI c0
          rw [i3, ck3]
          exact hL.1 0 c0 hc0
      refine key _ ?_ _
      show upd r.value n (nI ls.length) (nI n).toNatClampNeg = _
      rw [ekn]
      exact ev
    · refine And.intro (fun _ => ?_) (fun g => absurd rfl g)
      exact And.intro (Or.inl rfl) (no (fun w => by rw [hc] at w; exact absurd w.1 (by decide)))
theorem R_parameters {a : Nat} (hx : txOK r.text len tx) (ht : r.typed = nI len) (hn : n < 100) (hd : d ≤ 9) (ha : a ≤ len) (hv : r.value n = 0) (h1 : ∀ ls a' L, gPa tx d a = .inl (ls, a') → ls.length ≤ 3 → LT n r.letters L ls → a < a' → a' ≤ len → Q (.inl (some (.int 1)), (cW s (rW (pdR (lvR r n (nI ls.length) L) a' d) tl), b0, b1, op))) (h0 : ∀ a' v L d', gPa tx d a = .inr a' → a' ≤ len → Q (.inl (some (.int 0)), (cW s (rW (pdR (lvR r n v L) a' d') tl), b0, b1, op))) : mj_Mt gT cst gnw (m + 4) y_R_parameters [.ref 27, .int (nI n)] (cW s (rW (pdR r a d) tl), b0, b1, op) Q := by
  have h96 := hx.1
  have e0 : gPa tx d a = if tx a = 32 then (if tx (a + 1) = 40 ∧ d < 9 then (if cL (tx (a + 1 + 1)) then gLs tx 3 (a + 1 + 1) [] else (if tx (a + 1 + 1) = 41 then (if tx (a + 1 + 1 + 1) = 32 then .inl ([], a + 1 + 1 + 1 + 1) else .inr (a + 1 + 1 + 1)) else .inr (a + 1 + 1))) else .inr (a + 1)) else .inr a := rfl
  rw [e0] at h1 h0
  have er : r = lvR r n (nI 0) r.letters := by
    have e1 : upd r.value n (nI 0) = r.value := by
      funext i
      unfold upd
      split
      · next e => rw [e, hv]; rfl
      · rfl
    unfold lvR
    rw [e1]
    rfl
  have L0 : LT n r.letters r.letters [] := ⟨fun i c hi => absurd hi (by rw [List.getElem?_nil]; intro w; cases w), fun i _ => rfl, fun c hc => absurd hc (List.not_mem_nil)⟩
  intro J hJ
  refine hJ _ _ _ _ ?_
  refine R_takes (c := 32) hx ht (by omega) (by decide) (fun e => ?_) (fun e => ?_)
  · rw [if_pos e] at h1 h0
    have hlt := hx.lt (a := a) (by omega)
    refine And.intro (fun (g : (1 : Int32) = 0) => absurd g (by decide)) (fun _ => ?_)
    refine R_opens hx ht (by omega) hd (fun e2 h9 => ?_) (fun e2 => ?_)
    · rw [if_pos ⟨e2, h9⟩] at h1 h0
      have hlt2 := hx.lt (a := a + 1) (by omega)
      refine And.intro (fun _ => ?_) (fun (g : (1 : Int32) = 0) => absurd g (by decide))
      refine R_here0 hx ht (by omega) ?_
      have hcq := hx.le (a + 1 + 1)
      refine R_isLetter (by omega) (fun hc => ?_) (fun hc => ?_)
      · rw [if_pos hc] at h1 h0
        refine And.intro (fun _ => ?_) (fun (g : (1 : Int32) = 0) => absurd g (by decide))
        have := R_parLoop (cst := cst) (m := m) (b0 := b0) (b1 := b1) (op := op) (tl := tl) (Q := Q) (s := s) (d := d) hx ht hn hJ 3 (a + 1 + 1) [] r.letters none rfl (by decide) (by omega) L0 (fun ls' a' L' w1 w2 w3 w4 w5 => h1 ls' a' L' w1 w2 w3 (by omega) w5) h0
        have e9 : pdR (lvR r n (nI ([] : List Nat).length) r.letters) (a + 1 + 1) (d + 1) = pdR r (a + 1 + 1) (d + 1) := by
          show pdR (lvR r n (nI 0) r.letters) _ _ = _
          rw [← er]
        rw [e9] at this
        exact this
      · rw [if_neg (by rw [hc]; decide)] at h1 h0
        refine And.intro (fun g => absurd rfl g) (fun _ => ?_)
        refine R_closes hx ht (by omega) (fun e3 => ?_) (fun e3 => ?_)
        · rw [if_pos e3] at h1 h0
          have hlt3 := hx.lt (a := a + 1 + 1) (by omega)
          refine And.intro (fun (g : (1 : Int32) = 0) => absurd g (by decide)) (fun _ => ?_)
          refine R_takes (c := 32) hx ht (by omega) (by decide) (fun e4 => ?_) (fun e4 => ?_)
          · rw [if_pos e4] at h1
            have hlt4 := hx.lt (a := a + 1 + 1 + 1) (by omega)
            refine And.intro (fun (g : (1 : Int32) = 0) => absurd g (by decide)) (fun _ => ?_)
            have h9 := h1 [] (a + 1 + 1 + 1 + 1) r.letters rfl (by decide) L0 (by omega) (by omega)
            have e9 : lvR r n (nI ([] : List Nat).length) r.letters = r := er.symm
            rw [e9] at h9
            exact And.intro (Or.inr rfl) h9
          · rw [if_neg e4] at h0
            refine And.intro (fun _ => ?_) (fun g => absurd rfl g)
            have h9 := h0 (a + 1 + 1 + 1) (nI 0) r.letters d rfl (by omega)
            rw [← er] at h9
            exact And.intro (Or.inl rfl) h9
        · rw [if_neg e3] at h0
          refine And.intro (fun _ => ?_) (fun g => absurd rfl g)
          have h9 := h0 (a + 1 + 1) (nI 0) r.letters (d + 1) rfl (by omega)
          rw [← er] at h9
          exact And.intro (Or.inl rfl) h9
    · rw [if_neg e2] at h0
      refine And.intro (fun g => absurd rfl g) (fun _ => ?_)
      have h9 := h0 (a + 1) (nI 0) r.letters d rfl (by omega)
      rw [← er] at h9
      exact And.intro (Or.inl rfl) h9
  · rw [if_neg e] at h0
    refine And.intro (fun _ => ?_) (fun g => absurd rfl g)
    have h9 := h0 a (nI 0) r.letters d rfl ha
    rw [← er] at h9
    exact And.intro (Or.inl rfl) h9
end RD3
end
