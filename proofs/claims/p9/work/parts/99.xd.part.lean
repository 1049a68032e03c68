def p0R (r : rM) (n : Nat) (w ab : Int32) : rM := (((((((((((r.s_parts (nI (n + 1))).s_kind (upd r.kind n w)).s_at_ (upd r.at_ n r.p)).s_until_ (upd r.until_ n r.p)).s_value (upd r.value n 0)).s_parent (upd r.parent n ab)).s_first (upd r.first n (-1))).s_last (upd r.last n (-1))).s_next (upd r.next n (-1))).s_many (upd r.many n 0)).s_bound (upd r.bound n 0))
def p1R (r : rM) (n v : Nat) : rM := (((r.s_first (upd r.first v (nI n))).s_last (upd r.last v (nI n))).s_many (upd r.many v (r.many v + 1)))
def p2R (r : rM) (n v l : Nat) : rM := (((r.s_next (upd r.next l (nI n))).s_last (upd r.last v (nI n))).s_many (upd r.many v (r.many v + 1)))
def krT (r : rM) := ((r.z, r.thrown, r.typed, r.text, r.error), (r.used, r.function, r.headKind, r.head, r.tailKind, r.tail), (r.marked, r.reg, r.program, r.state), (r.collections, r.takenBack, r.steps, r.shown, r.show_))
def kr (r r' : rM) : Prop := krT r' = krT r
theorem kr_tr {r r' r2 : rM} (h1 : kr r r') (h2 : kr r' r2) : kr r r2 := Eq.trans h2 h1
theorem kr_text {r r' : rM} (h : kr r r') : r'.text = r.text ∧ r'.typed = r.typed := ⟨congrArg (fun q => q.1.2.2.2.1) h, congrArg (fun q => q.1.2.2.1) h⟩
def FM (r r' : rM) (n : Nat) (u : Option Nat) : Prop := kr r r' ∧ (∀ i, i < n → (r'.kind i = r.kind i ∧ r'.value i = r.value i ∧ r'.at_ i = r.at_ i ∧ r'.until_ i = r.until_ i ∧ r'.parent i = r.parent i ∧ r'.bound i = r.bound i)) ∧ (∀ i, i < 3 * n → r'.letters i = r.letters i) ∧ (∀ i, i < n → ¬ u = some i → (r'.first i = r.first i ∧ r'.last i = r.last i ∧ r'.many i = r.many i)) ∧ (∀ i, i < n → (∀ v, u = some v → ¬ r.first v < 0 → ¬ r.last v = nI i) → r'.next i = r.next i) ∧ (∀ v, u = some v → v < n → (r'.first v = (if r.first v < 0 then nI n else r.first v) ∧ r'.last v = nI n ∧ r'.many v = r.many v + 1 ∧ (∀ l, l < n → ¬ r.first v < 0 → r.last v = nI l → r'.next l = nI n)))
def AG (r r' : rM) (n : Nat) : Prop := kr r r' ∧ (∀ i, i < n → (r'.kind i = r.kind i ∧ r'.value i = r.value i ∧ r'.at_ i = r.at_ i ∧ r'.until_ i = r.until_ i ∧ r'.parent i = r.parent i ∧ r'.bound i = r.bound i) ∧ (r'.first i = r.first i ∧ r'.last i = r.last i ∧ r'.many i = r.many i ∧ r'.next i = r.next i)) ∧ (∀ i, i < 3 * n → r'.letters i = r.letters i)
theorem FM_AG {r r' r2 : rM} {n : Nat} {u : Option Nat} (h1 : FM r r' n u) (h2 : AG r' r2 n) : FM r r2 n u := by
  obtain ⟨a1, a2, a3, a4, a5, a6⟩ := h1
  obtain ⟨b1, b2, b3⟩ := h2
  refine ⟨kr_tr a1 b1, fun i hi => ?_, fun i hi => (b3 i hi).trans (a3 i hi), fun i hi hu => ?_, fun i hi hu => ?_, fun v hv hn => ?_⟩
  · obtain ⟨c1, c2, c3, c4, c5, c6⟩ := a2 i hi
    obtain ⟨⟨d1, d2, d3, d4, d5, d6⟩, -⟩ := b2 i hi
    exact ⟨d1.trans c1, d2.trans c2, d3.trans c3, d4.trans c4, d5.trans c5, d6.trans c6⟩
  · obtain ⟨c7, c8, c9⟩ := a4 i hi hu
    obtain ⟨-, d7, d8, d9, d10⟩ := b2 i hi
    exact ⟨d7.trans c7, d8.trans c8, d9.trans c9⟩
  · exact (b2 i hi).2.2.2.2.trans (a5 i hi hu)
  · obtain ⟨c1, c2, c3, c4⟩ := a6 v hv hn
    obtain ⟨-, d7, d8, d9, d10⟩ := b2 v hn
    exact ⟨d7.trans c1, d8.trans c2, d9.trans c3, fun l h1 h2 h3 => ((b2 l h1).2.2.2.2).trans (c4 l h1 h2 h3)⟩
theorem FM_below {r r' : rM} {n m l : Nat} (h : FM r r' m (some n)) (hn : n < m) (hm : m < 2 ^ 31) (hl : ¬ r.first n < 0 → r.last n = nI l ∧ n < l ∧ l < m) : AG r r' n := by
  obtain ⟨a1, a2, a3, a4, a5, a6⟩ := h
  refine ⟨a1, fun i hi => ⟨a2 i (by omega), ?_⟩, fun i hi => a3 i (by omega)⟩
  obtain ⟨c7, c8, c9⟩ := a4 i (by omega) (fun q => by cases q; omega)
  refine ⟨c7, c8, c9, a5 i (by omega) (fun v hv h1 h2 => ?_)⟩
  cases hv
  obtain ⟨e1, e2, e3⟩ := hl h1
  rw [e1] at h2
  have := nIj (by omega) (by omega) h2
  omega
def BG (r r' : rM) (n a : Nat) (u : Option Nat) (kd : Int32) : Prop := FM r r' n u ∧ r'.parts = nI (n + 1) ∧ (r'.parent n = oV u ∧ r'.kind n = kd ∧ r'.at_ n = nI a) ∧ (r'.first n = -1 ∧ r'.last n = -1 ∧ r'.next n = -1 ∧ r'.many n = 0 ∧ r'.bound n = 0)
section RD2
variable {cst : Nat → Option (Nat × (Nat → Int32))} {m b0 b1 : Nat} {op : Bool} {tl : List mj_O} {Q : mj_R → Prop} {s : cS} {r : rM} {a d n len : Nat} {tx : Nat → Nat} {u : Option Nat}
set_option maxRecDepth 10000
theorem bg0 {w : Int32} (hp : r.p = nI a) : BG r (p0R r n w (-1)) n a none w := by
  have e : ∀ (f : Nat → Int32) (x : Int32) (i : Nat), i < n → upd f n x i = f i := fun f x i hi => if_neg (by omega)
  refine ⟨⟨rfl, fun i hi => ⟨e _ _ i hi, e _ _ i hi, e _ _ i hi, e _ _ i hi, e _ _ i hi, e _ _ i hi⟩, fun i hi => rfl, fun i hi _ => ⟨e _ _ i hi, e _ _ i hi, e _ _ i hi⟩, fun i hi _ => e _ _ i hi, fun v hv => by cases hv⟩, rfl, ⟨if_pos rfl, if_pos rfl, (if_pos rfl).trans hp⟩, if_pos rfl, if_pos rfl, if_pos rfl, if_pos rfl, if_pos rfl⟩
theorem bg1 {w : Int32} {v : Nat} (hp : r.p = nI a) (hv : v < n) (hf : r.first v < 0) : BG r (p1R (p0R r n w (nI v)) n v) n a (some v) w := by
  have e : ∀ (f : Nat → Int32) (x : Int32) (i : Nat), i < n → upd f n x i = f i := fun f x i hi => if_neg (by omega)
  have e2 : ∀ (f : Nat → Int32) (x y : Int32) (i : Nat), i < n → ¬ i = v → upd (upd f n x) v y i = f i := fun f x y i hi hne => by
    show (if i = v then y else upd f n x i) = f i
    rw [if_neg hne]
    exact e _ _ i hi
  have e3 : ∀ (f : Nat → Int32) (x y : Int32), upd (upd f n x) v y n = x := fun f x y => by
    show (if n = v then y else upd f n x n) = x
    rw [if_neg (by omega)]
    exact if_pos rfl
  refine ⟨⟨rfl, fun i hi => ⟨e _ _ i hi, e _ _ i hi, e _ _ i hi, e _ _ i hi, e _ _ i hi, e _ _ i hi⟩, fun i hi => rfl, fun i hi hu => ?_, fun i hi _ => e _ _ i hi, fun v' hv' hn => ?_⟩, rfl, ⟨if_pos rfl, if_pos rfl, (if_pos rfl).trans hp⟩, e3 _ _ _, e3 _ _ _, if_pos rfl, e3 _ _ _, if_pos rfl⟩
  · have hne : ¬ i = v := fun q => hu (by rw [q])
    exact ⟨e2 _ _ _ i hi hne, e2 _ _ _ i hi hne, e2 _ _ _ i hi hne⟩
  · cases hv'
    refine ⟨?_, if_pos rfl, ?_, fun l _ h2 => absurd hf h2⟩
    · rw [if_pos hf]
      exact if_pos rfl
    · show (if v = v then upd r.many n 0 v + 1 else _) = _
      rw [if_pos rfl, e _ _ v hv]
theorem bg2 {w : Int32} {v l : Nat} (hp : r.p = nI a) (hv : v < n) (hf : ¬ r.first v < 0) (hl : l < n) (h31 : n < 2 ^ 31) (el : r.last v = nI l) : BG r (p2R (p0R r n w (nI v)) n v l) n a (some v) w := by
  have e : ∀ (f : Nat → Int32) (x : Int32) (i : Nat), i < n → upd f n x i = f i := fun f x i hi => if_neg (by omega)
  have e2 : ∀ (f : Nat → Int32) (x y : Int32) (i q : Nat), i < n → ¬ i = q → upd (upd f n x) q y i = f i := fun f x y i q hi hne => by
    show (if i = q then y else upd f n x i) = f i
    rw [if_neg hne]
    exact e _ _ i hi
  have e3 : ∀ (f : Nat → Int32) (x y : Int32) (q : Nat), q < n → upd (upd f n x) q y n = x := fun f x y q hq => by
    show (if n = q then y else upd f n x n) = x
    rw [if_neg (by omega)]
    exact if_pos rfl
  refine ⟨⟨rfl, fun i hi => ⟨e _ _ i hi, e _ _ i hi, e _ _ i hi, e _ _ i hi, e _ _ i hi, e _ _ i hi⟩, fun i hi => rfl, fun i hi hu => ?_, fun i hi h2 => ?_, fun v' hv' hn => ?_⟩, rfl, ⟨if_pos rfl, if_pos rfl, (if_pos rfl).trans hp⟩, if_pos rfl, e3 _ _ _ v hv, e3 _ _ _ l hl, e3 _ _ _ v hv, if_pos rfl⟩
  · have hne : ¬ i = v := fun q => hu (by rw [q])
    exact ⟨e _ _ i hi, e2 _ _ _ i v hi hne, e2 _ _ _ i v hi hne⟩
  · refine e2 _ _ _ i l hi (fun q => ?_)
    subst q
    exact h2 v rfl hf el
  · cases hv'
    refine ⟨?_, if_pos rfl, ?_, fun l' h1 _ h3 => ?_⟩
    · rw [if_neg hf]
      exact e _ _ v hv
    · show (if v = v then upd r.many n 0 v + 1 else _) = _
      rw [if_pos rfl, e _ _ v hv]
    · rw [el] at h3
      have := nIj (by omega) (by omega) h3
      subst this
      exact if_pos rfl
theorem R_part0 {w : Int32} (hp : r.p = nI a) (h100 : n < 100) (hu : ∀ v, u = some v → v < n ∧ (r.first v < 0 ∨ ∃ l, l < n ∧ r.last v = nI l ∧ ¬ r.first v < 0)) (hQ : ∀ r', BG r r' n a u w → r'.p = r.p → r'.depth = r.depth → r'.value n = 0 → Q (.inl (some (.int (nI n))), (cW s (rW r' tl), b0, b1, op))) : mj_Mt gT cst gnw (m + 1) y_R_part [.ref 27, .int w, .int (oV u)] (cW s (rW (r.s_parts (nI n)) tl), b0, b1, op) Q := by
    have ek : (nI n).toNatClampNeg = n := nI_clamp (by omega)
    have hin : vp_in (nI n) 100 := vp_in_nI h100 (by decide)
    intro J hJ
    refine hJ _ _ _ _ ?_
    obtain ⟨ra, hra⟩ : ∃ q, q = (r.s_parts (nI n + Int32.ofInt 1)) := ⟨_, rfl⟩
    refine And.intro hin ?_
    rw [show ((r.s_parts (nI n))).parts.toNatClampNeg = n from ek]
    change mj_sg _ _ _ _ _ _ _ _ _ 14 [some (.ref 27), some (.int w), some (.int (oV u)), some (.int (nI n))] [] (cW s (rW ((r.s_parts (nI n + Int32.ofInt 1)).s_kind (upd r.kind n w)) tl), b0, b1, op)
    obtain ⟨rb, hrb⟩ : ∃ q, q = ((r.s_parts (nI n + Int32.ofInt 1)).s_kind (upd r.kind n w)) := ⟨_, rfl⟩
    rw [← hrb]
    refine And.intro hin ?_
    rw [ek]
    change mj_sg _ _ _ _ _ _ _ _ _ 20 [some (.ref 27), some (.int w), some (.int (oV u)), some (.int (nI n))] [] (cW s (rW (rb.s_at_ (upd rb.at_ n rb.p)) tl), b0, b1, op)
    obtain ⟨rc, hrc⟩ : ∃ q, q = (rb.s_at_ (upd rb.at_ n rb.p)) := ⟨_, rfl⟩
    rw [← hrc]
    refine And.intro hin ?_
    rw [ek]
    change mj_sg _ _ _ _ _ _ _ _ _ 26 [some (.ref 27), some (.int w), some (.int (oV u)), some (.int (nI n))] [] (cW s (rW (rc.s_until_ (upd rc.until_ n rc.p)) tl), b0, b1, op)
    obtain ⟨rd, hrd⟩ : ∃ q, q = (rc.s_until_ (upd rc.until_ n rc.p)) := ⟨_, rfl⟩
    rw [← hrd]
    refine And.intro hin ?_
    rw [ek]
    change mj_sg _ _ _ _ _ _ _ _ _ 31 [some (.ref 27), some (.int w), some (.int (oV u)), some (.int (nI n))] [] (cW s (rW (rd.s_value (upd rd.value n 0)) tl), b0, b1, op)
    obtain ⟨re, hre⟩ : ∃ q, q = (rd.s_value (upd rd.value n 0)) := ⟨_, rfl⟩
    rw [← hre]
    refine And.intro hin ?_
    rw [ek]
    change mj_sg _ _ _ _ _ _ _ _ _ 36 [some (.ref 27), some (.int w), some (.int (oV u)), some (.int (nI n))] [] (cW s (rW (re.s_parent (upd re.parent n (oV u))) tl), b0, b1, op)
    obtain ⟨rf, hrf⟩ : ∃ q, q = (re.s_parent (upd re.parent n (oV u))) := ⟨_, rfl⟩
    rw [← hrf]
    refine And.intro hin ?_
    rw [ek]
    change mj_sg _ _ _ _ _ _ _ _ _ 41 [some (.ref 27), some (.int w), some (.int (oV u)), some (.int (nI n))] [] (cW s (rW (rf.s_first (upd rf.first n (-1))) tl), b0, b1, op)
    obtain ⟨rg, hrg⟩ : ∃ q, q = (rf.s_first (upd rf.first n (-1))) := ⟨_, rfl⟩
    rw [← hrg]
    refine And.intro hin ?_
    rw [ek]
    change mj_sg _ _ _ _ _ _ _ _ _ 46 [some (.ref 27), some (.int w), some (.int (oV u)), some (.int (nI n))] [] (cW s (rW (rg.s_last (upd rg.last n (-1))) tl), b0, b1, op)
    obtain ⟨rh, hrh⟩ : ∃ q, q = (rg.s_last (upd rg.last n (-1))) := ⟨_, rfl⟩
    rw [← hrh]
    refine And.intro hin ?_
    rw [ek]
    change mj_sg _ _ _ _ _ _ _ _ _ 51 [some (.ref 27), some (.int w), some (.int (oV u)), some (.int (nI n))] [] (cW s (rW (rh.s_next (upd rh.next n (-1))) tl), b0, b1, op)
    obtain ⟨ri, hri⟩ : ∃ q, q = (rh.s_next (upd rh.next n (-1))) := ⟨_, rfl⟩
    rw [← hri]
    refine And.intro hin ?_
    rw [ek]
    change mj_sg _ _ _ _ _ _ _ _ _ 56 [some (.ref 27), some (.int w), some (.int (oV u)), some (.int (nI n))] [] (cW s (rW (ri.s_many (upd ri.many n 0)) tl), b0, b1, op)
    obtain ⟨rj, hrj⟩ : ∃ q, q = (ri.s_many (upd ri.many n 0)) := ⟨_, rfl⟩
    rw [← hrj]
    refine And.intro hin ?_
    rw [ek]
    change mj_sg _ _ _ _ _ _ _ _ _ 61 [some (.ref 27), some (.int w), some (.int (oV u)), some (.int (nI n))] [] (cW s (rW (rj.s_bound (upd rj.bound n 0)) tl), b0, b1, op)
    obtain ⟨rk, hrk⟩ : ∃ q, q = (rj.s_bound (upd rj.bound n 0)) := ⟨_, rfl⟩
    rw [← hrk]
    have hE : rk = p0R r n w (oV u) := by
      rw [hrk, hrj, hri, hrh, hrg, hrf, hre, hrd, hrc, hrb]
      have e1 : nI n + Int32.ofInt 1 = nI (n + 1) := (nI_succ n).symm
      rw [e1]
      rfl
    clear hrk hrj hri hrh hrg hrf hre hrd hrc hrb hra
    subst hE
    cases u with
    | none =>
      refine And.intro (fun _ => ?_) (fun (g : ¬ oV none < 0) => absurd (by decide) g)
      exact hQ (p0R r n w (-1)) (bg0 hp) rfl rfl (if_pos rfl)
    | some v =>
      obtain ⟨hv, hf⟩ := hu v rfl
      have ev : (nI v).toNatClampNeg = v := nI_clamp (by omega)
      have hiv : vp_in (nI v) 100 := vp_in_nI (by omega) (by decide)
      have f1 : upd r.first n (-1) v = r.first v := if_neg (by omega)
      refine And.intro (fun (g : nI v < 0) => absurd g (nI_pos (by omega))) (fun _ => ?_)
      refine And.intro hiv ?_
      have key2 : ∀ (i : Nat), i = v → ∀ F : Nat, mj_sg (mj_Mt gT cst gnw m) cst gnw (mj_hd (mj_off kO_R_part) kH_R_part) kC_R_part J Q (F + 60) false 67 [some (.ref 27), some (.int w), some (.int (nI v)), some (.int (nI n))] [.int (upd r.first n (-1) i)] (cW s (rW (p0R r n w (oV (some v))) tl), b0, b1, op) := by
        rintro i rfl F
        rw [f1]
        rcases hf with hf | ⟨l, hl, el, hf⟩
        · refine And.intro (fun (g : 0 ≤ r.first i) => absurd hf (Int32.not_lt.mpr g)) (fun _ => ?_)
          refine And.intro hiv ?_
          refine And.intro hiv ?_
          refine And.intro hiv ?_
          refine And.intro hiv ?_
          have h9 := hQ (p1R (p0R r n w (nI i)) n i) (bg1 hp hv hf) rfl rfl (if_pos rfl)
          have key3 : ∀ (i1 i2 i3 i4 : Nat), i1 = i → i2 = i → i3 = i → i4 = i → Q (.inl (some (.int (nI n))), (cW s (rW ((((p0R r n w (nI i)).s_first (upd (upd r.first n (-1)) i1 (nI n))).s_last (upd (upd r.last n (-1)) i2 (nI n))).s_many (upd (upd r.many n 0) i3 (upd r.many n 0 i4 + Int32.ofInt 1))) tl), b0, b1, op)) := by
            intro i1 i2 i3 i4 q1 q2 q3 q4
            rw [q1, q2, q3, q4]
            exact h9
          exact key3 _ _ _ _ ev ev ev ev
        · refine And.intro (fun _ => ?_) (fun (g : ¬ 0 ≤ r.first i) => absurd (Int32.not_lt.mp hf) g)
          have el2 : upd r.last n (-1) i = nI l := by
            show (if i = n then _ else r.last i) = _
            rw [if_neg (by omega)]
            exact el
          have hil : vp_in (nI l) 100 := vp_in_nI (by omega) (by decide)
          refine And.intro hiv ?_
          have key4 : ∀ (i1 : Int32), i1 = nI l → ∀ F : Nat, mj_sg (mj_Mt gT cst gnw m) cst gnw (mj_hd (mj_off kO_R_part) kH_R_part) kC_R_part J Q (F + 30) false 80 [some (.ref 27), some (.int w), some (.int (nI i)), some (.int (nI n))] [.int i1, .ref 36] (cW s (rW (p0R r n w (oV (some i))) tl), b0, b1, op) := by
            rintro i1 rfl F
            have ell : (nI l).toNatClampNeg = l := nI_clamp (by omega)
            refine And.intro hil ?_
            refine And.intro hiv ?_
            refine And.intro hiv ?_
            refine And.intro hiv ?_
            have h9 := hQ (p2R (p0R r n w (nI i)) n i l) (bg2 hp hv hf hl (by omega) el) rfl rfl (if_pos rfl)
            have key3 : ∀ (i1 i2 i3 i4 : Nat), i1 = l → i2 = i → i3 = i → i4 = i → Q (.inl (some (.int (nI n))), (cW s (rW ((((p0R r n w (nI i)).s_next (upd (upd r.next n (-1)) i1 (nI n))).s_last (upd (upd r.last n (-1)) i2 (nI n))).s_many (upd (upd r.many n 0) i3 (upd r.many n 0 i4 + Int32.ofInt 1))) tl), b0, b1, op)) := by
              intro i1 i2 i3 i4 q1 q2 q3 q4
              rw [q1, q2, q3, q4]
              exact h9
            exact key3 _ _ _ _ ell ev ev ev
          refine key4 _ ?_ _
          show upd r.last n (-1) (nI i).toNatClampNeg = nI l
          rw [ev]
          exact el2
      exact key2 _ ev _
theorem R_part1 {w : Int32} (hp : r.p = nI a) (hn : r.parts = nI n) (h100 : n < 100) (hu : ∀ v, u = some v → v < n ∧ (r.first v < 0 ∨ ∃ l, l < n ∧ r.last v = nI l ∧ ¬ r.first v < 0)) (hQ : ∀ r', BG r r' n a u w → r'.p = r.p → r'.depth = r.depth → r'.value n = 0 → Q (.inl (some (.int (nI n))), (cW s (rW r' tl), b0, b1, op))) : mj_Mt gT cst gnw (m + 1) y_R_part [.ref 27, .int w, .int (oV u)] (cW s (rW r tl), b0, b1, op) Q := by
  have e : r = (r.s_parts r.parts) := rfl
  rw [hn] at e
  have := R_part0 (cst := cst) (m := m) (b0 := b0) (b1 := b1) (op := op) (tl := tl) (s := s) hp h100 hu hQ
  rw [← e] at this
  exact this
theorem pd_eta (hp : r.p = nI a) (hd : r.depth = nI d) : r = pdR r a d := by
  have e : r = ((r.s_p r.p).s_depth r.depth) := rfl
  rw [hp, hd] at e
  exact e
theorem R_part {w : Int32} (hn : r.parts = nI n) (h100 : n < 100) (hu : ∀ v, u = some v → v < n ∧ (r.first v < 0 ∨ ∃ l, l < n ∧ r.last v = nI l ∧ ¬ r.first v < 0)) (hQ : ∀ r', BG r r' n a u w → r'.value n = 0 → Q (.inl (some (.int (nI n))), (cW s (rW (pdR r' a d) tl), b0, b1, op))) : mj_Mt gT cst gnw (m + 1) y_R_part [.ref 27, .int w, .int (oV u)] (cW s (rW (pdR r a d) tl), b0, b1, op) Q := by
  refine R_part1 (r := pdR r a d) (a := a) rfl hn h100 hu (fun r' h1 h2 h3 h4 => ?_)
  have h9 := hQ r' h1 h4
  rw [← pd_eta (r := r') (a := a) (d := d) h2 h3] at h9
  exact h9
theorem R_arity {h : mj_H} {c : Nat} (hc : c < 2 ^ 31) (hQ : Q (.inl (some (.int (nI (ar c)))), h)) : mj_Mt gT cst gnw (m + 1) y_R_arity [.int (nI c)] h Q := by
  intro J hJ
  refine hJ _ _ _ _ ?_
  refine And.intro (fun (g : nI c = 33) => ?_) (fun (g33 : ¬ nI c = 33) => ?_)
  · have e : c = 33 := nIj (j := 33) hc (by decide) g
    subst e
    exact hQ
  refine And.intro (fun (g : nI c = 42) => ?_) (fun (g42 : ¬ nI c = 42) => ?_)
  · have e : c = 42 := nIj (j := 42) hc (by decide) g
    subst e
    exact hQ
  refine And.intro (fun (g : nI c = 43) => ?_) (fun (g43 : ¬ nI c = 43) => ?_)
  · have e : c = 43 := nIj (j := 43) hc (by decide) g
    subst e
    exact hQ
  refine And.intro (fun (g : nI c = 45) => ?_) (fun (g45 : ¬ nI c = 45) => ?_)
  · have e : c = 45 := nIj (j := 45) hc (by decide) g
    subst e
    exact hQ
  refine And.intro (fun (g : nI c = 46) => ?_) (fun (g46 : ¬ nI c = 46) => ?_)
  · have e : c = 46 := nIj (j := 46) hc (by decide) g
    subst e
    exact hQ
  refine And.intro (fun (g : nI c = 60) => ?_) (fun (g60 : ¬ nI c = 60) => ?_)
  · have e : c = 60 := nIj (j := 60) hc (by decide) g
    subst e
    exact hQ
  refine And.intro (fun (g : nI c = 61) => ?_) (fun (g61 : ¬ nI c = 61) => ?_)
  · have e : c = 61 := nIj (j := 61) hc (by decide) g
    subst e
    exact hQ
  refine And.intro (fun (g : nI c = 63) => ?_) (fun (g63 : ¬ nI c = 63) => ?_)
  · have e : c = 63 := nIj (j := 63) hc (by decide) g
    subst e
    exact hQ
  refine And.intro (fun (g : nI c = 94) => ?_) (fun (g94 : ¬ nI c = 94) => ?_)
  · have e : c = 94 := nIj (j := 94) hc (by decide) g
    subst e
    exact hQ
  refine And.intro (fun (g : nI c = 95) => ?_) (fun (g95 : ¬ nI c = 95) => ?_)
  · have e : c = 95 := nIj (j := 95) hc (by decide) g
    subst e
    exact hQ
  have n33 : ¬ c = 33 := fun e => g33 (by rw [e]; rfl)
  have n42 : ¬ c = 42 := fun e => g42 (by rw [e]; rfl)
  have n43 : ¬ c = 43 := fun e => g43 (by rw [e]; rfl)
  have n45 : ¬ c = 45 := fun e => g45 (by rw [e]; rfl)
  have n46 : ¬ c = 46 := fun e => g46 (by rw [e]; rfl)
  have n60 : ¬ c = 60 := fun e => g60 (by rw [e]; rfl)
  have n61 : ¬ c = 61 := fun e => g61 (by rw [e]; rfl)
  have n63 : ¬ c = 63 := fun e => g63 (by rw [e]; rfl)
  have n94 : ¬ c = 94 := fun e => g94 (by rw [e]; rfl)
  have n95 : ¬ c = 95 := fun e => g95 (by rw [e]; rfl)
  have e : ar c = 0 := by
    unfold ar
    rw [if_neg (by omega), if_neg (by omega), if_neg n63]
  rw [e] at hQ
  exact hQ
end RD2
