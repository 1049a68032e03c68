theorem cKL_ag2 {P P' : Nat → Nat → Tau → Prop} {nx bo nx' bo' : Nat → Int32} (hlt : ∀ i m t, P i m t → i < m) : ∀ (ks : List Kd) (i l m : Nat), (∀ a b t, i ≤ a → b ≤ m → (b ≤ l ∨ a = l) → P a b t → P' a b t) → (∀ a, i ≤ a → a < l → nx' a = nx a) → (∀ a, i ≤ a → a ≤ l → bo' a = bo a) → cKL P nx bo ks i l m → cKL P' nx' bo' ks i l m
  | [], _, _, _, _, _, _, h => absurd h id
  | k :: [], i, l, m, hP, hn, hb, h => by
    obtain ⟨rfl, h2, h3⟩ := h
    exact ⟨rfl, hP _ _ _ (Nat.le_refl _) (Nat.le_refl _) (Or.inr rfl) h2, by rw [hb i (Nat.le_refl _) (Nat.le_refl _)]; exact h3⟩
  | k :: k2 :: ks, i, l, m, hP, hn, hb, h => by
    obtain ⟨j, h1, h2, h3, h4⟩ := h
    have c1 := hlt _ _ _ h1
    have c2 := cKL_lt hlt (k2 :: ks) j l m h4
    exact ⟨j, hP _ _ _ (Nat.le_refl _) (by omega) (Or.inl c2.1) h1, by rw [hb i (Nat.le_refl _) (by omega)]; exact h2, by rw [hn i (Nat.le_refl _) (by omega)]; exact h3, cKL_ag2 hlt (k2 :: ks) j l m (fun a b t q => hP a b t (by omega)) (fun a q => hn a (by omega)) (fun a q => hb a (by omega)) h4⟩
theorem cKL_bo {P P' : Nat → Nat → Tau → Prop} {nx bo : Nat → Int32} {t : Tau} {x y : Int32} (hlt : ∀ i m t, P i m t → i < m) : ∀ (ks : List Kd) (i l m : Nat), (∀ a b t, i ≤ a → b ≤ m → (b ≤ l ∨ a = l) → P a b t → P' a b t) → cKL P nx bo (ks ++ [(t, y)]) i l m → cKL P' nx (upd bo l x) (ks ++ [(t, x)]) i l m
  | [], i, l, m, hP, h => by
    obtain ⟨rfl, h2, h3⟩ := h
    exact ⟨rfl, hP _ _ _ (Nat.le_refl _) (Nat.le_refl _) (Or.inr rfl) h2, if_pos rfl⟩
  | k :: ks, i, l, m, hP, h => by
    have e : ∀ z : Int32, ∃ k2 ks2, ks ++ [(t, z)] = k2 :: ks2 := by
      intro z
      cases ks with
      | nil => exact ⟨_, _, rfl⟩
      | cons k2 ks => exact ⟨_, _, rfl⟩
    obtain ⟨k2, ks2, e2⟩ := e y
    obtain ⟨k3, ks3, e3⟩ := e x
    have h : cKL P nx bo (k :: (ks ++ [(t, y)])) i l m := h
    rw [e2] at h
    obtain ⟨j, h1, h2, h3, h4⟩ := h
    have c1 := hlt _ _ _ h1
    have c2 := cKL_lt hlt (k2 :: ks2) j l m h4
    rw [← e2] at h4
    have h5 := cKL_bo (x := x) hlt ks j l m (fun a b t q => hP a b t (by omega)) h4
    show cKL P' nx (upd bo l x) (k :: (ks ++ [(t, x)])) i l m
    rw [e3] at h5 ⊢
    refine ⟨j, hP _ _ _ (Nat.le_refl _) (by omega) (Or.inl c2.1) h1, ?_, h3, h5⟩
    show (if i = l then x else bo i) = k.2
    rw [if_neg (by omega)]
    exact h2
def IN (tx : Nat → Nat) (f : Nat) (r0 r : rM) (n : Nat) (u : Option Nat) (ks : List Kd) (l mm : Nat) (kd : Int32) : Prop := FM r0 r n u ∧ r.parts = nI mm ∧ (cKL (fun i m t => cR tx r f i m t ∧ r.parent i = nI n) r.next r.bound ks (n + 1) l mm ∧ r.next l = -1 ∧ r.first n = nI (n + 1) ∧ r.last n = nI l ∧ r.many n = nI ks.length) ∧ (r.kind n = kd ∧ r.parent n = oV u ∧ r.next n = -1 ∧ r.bound n = 0)
theorem IN_lt {tx : Nat → Nat} {f : Nat} {r0 r : rM} {n : Nat} {u : Option Nat} {ks : List Kd} {l mm : Nat} {kd : Int32} (h : IN tx f r0 r n u ks l mm kd) : n < l ∧ l < mm := by
  have := cKL_lt (fun i m t w => cR_lt (tx := tx) (r := r) f i m t w.1) ks _ _ _ h.2.2.1.1
  omega
theorem IN_first {tx : Nat → Nat} {f : Nat} {r0 r1 r2 : rM} {n a e : Nat} {u : Option Nat} {t : Tau} {kd : Int32} (hn : n < 100) (h1 : BG r0 r1 n a u kd) (h2 : FM r1 r2 (n + 1) (some n)) (hp : r2.parts = nI e) (hk : cR tx r2 f (n + 1) e t) (hpa : r2.parent (n + 1) = nI n) (hx : r2.next (n + 1) = -1) (hb : r2.bound (n + 1) = 0) :
    IN tx f r0 r2 n u [(t, 0)] (n + 1) e kd ∧ r2.value n = r1.value n ∧ (∀ i, i < 3 * n + 3 → r2.letters i = r1.letters i) := by
  obtain ⟨b1, b2, ⟨b3, b4, b5⟩, b6, b7, b8, b9, b10⟩ := h1
  have hneg : r1.first n < 0 := by rw [b6]; decide
  have hbel : AG r1 r2 n := FM_below (l := 0) h2 (by omega) (by omega) (fun w => absurd hneg w)
  obtain ⟨a1, a2, a3, a4, a5, a6⟩ := h2
  obtain ⟨c1, c2, c3, c4⟩ := a6 n rfl (by omega)
  obtain ⟨d1, d2, d3, d4, d5, d6⟩ := a2 n (by omega)
  rw [if_pos hneg] at c1
  refine ⟨⟨FM_AG b1 hbel, hp, ⟨⟨rfl, ⟨hk, hpa⟩, hb⟩, hx, c1, c2, ?_⟩, d1.trans b4, d5.trans b3, ?_, d6.trans b10⟩, d2, fun i hi => a3 i (by omega)⟩
  · rw [c3, b9]
    rfl
  · rw [a5 n (by omega) (fun v hv w => by cases hv; exact absurd hneg w)]
    exact b8
theorem IN_next {tx : Nat → Nat} {f : Nat} {r0 r2 r3 : rM} {n e l mm : Nat} {u : Option Nat} {ks : List Kd} {t : Tau} {kd : Int32} (hm : mm < 100) (h1 : IN tx f r0 r2 n u ks l mm kd) (h2 : FM r2 r3 mm (some n)) (hp : r3.parts = nI e) (hk : cR tx r3 f mm e t) (hpa : r3.parent mm = nI n) (hx : r3.next mm = -1) (hb : r3.bound mm = 0) :
    IN tx f r0 r3 n u (ks ++ [(t, 0)]) mm e kd ∧ r3.value n = r2.value n ∧ (∀ i, i < 3 * mm → r3.letters i = r2.letters i) := by
  have hlt := IN_lt h1
  obtain ⟨b1, b2, ⟨b3, b4, b5, b6, b7⟩, b8, b9, b10, b11⟩ := h1
  have hpos : ¬ r2.first n < 0 := by rw [b5]; exact nI_pos (by omega)
  have hbel : AG r2 r3 n := FM_below (l := l) h2 (by omega) (by omega) (fun _ => ⟨b6, hlt.1, hlt.2⟩)
  obtain ⟨a1, a2, a3, a4, a5, a6⟩ := h2
  obtain ⟨c1, c2, c3, c4⟩ := a6 n rfl (by omega)
  obtain ⟨d1, d2, d3, d4, d5, d6⟩ := a2 n (by omega)
  rw [if_neg hpos] at c1
  have nxt : ∀ i, i < mm → ¬ i = l → r3.next i = r2.next i := by
    intro i hi hne
    refine a5 i hi (fun v hv w1 w2 => ?_)
    cases hv
    rw [b6] at w2
    exact hne (nIj (by omega) (by omega) w2).symm
  have nl : r3.next l = nI mm := c4 l hlt.2 hpos b6
  have old : cKL (fun i m t => cR tx r3 f i m t ∧ r3.parent i = nI n) r3.next r3.bound ks (n + 1) l mm := by
    refine cKL_ag2 (fun i m t w => cR_lt (tx := tx) (r := r2) f i m t w.1) ks _ _ _ (fun a b t q1 q2 q3 q4 => ?_) (fun a q1 q2 => nxt a (by omega) (by omega)) (fun a q1 q2 => (a2 a (by omega)).2.2.2.2.2) b3
    have qlt := cR_lt f a b t q4.1
    refine ⟨cR_ag f a b t ⟨fun i w1 w2 => ?_, fun i w1 w2 => a3 i (by omega), fun i w1 w2 => ⟨nxt i (by omega) (by omega), (a2 i (by omega)).2.2.2.2.2, (a2 i (by omega)).2.2.2.2.1⟩⟩ q4.1, (a2 a (by omega)).2.2.2.2.1.trans q4.2⟩
    obtain ⟨g1, g2, g3, g4, -⟩ := a2 i (by omega)
    exact ⟨g1, g2, g3, g4, (a4 i (by omega) (fun w => by cases w; omega)).1⟩
  refine ⟨⟨FM_AG b1 hbel, hp, ⟨cKL_app ks _ _ _ old nl ⟨hk, hpa⟩ hb, hx, c1.trans b5, c2, ?_⟩, d1.trans b8, d5.trans b9, ?_, d6.trans b11⟩, d2, a3⟩
  · rw [c3, b7, List.length_append]
    exact (nI_succ _).symm
  · rw [nxt n (by omega) (by omega)]
    exact b10
theorem IN_lt3 {tx : Nat → Nat} {f : Nat} {r0 r : rM} {n : Nat} {u : Option Nat} {ks : List Kd} {l mm : Nat} {kd x : Int32} (h : IN tx f r0 r n u ks l mm kd) : IN tx f r0 (ltR r (3 * n) x) n u ks l mm kd := by
  have hlt := IN_lt h
  obtain ⟨b1, b2, ⟨b3, b4⟩, b5⟩ := h
  refine ⟨FM_AG b1 ⟨rfl, fun i hi => ⟨⟨rfl, rfl, rfl, rfl, rfl, rfl⟩, rfl, rfl, rfl, rfl⟩, fun i hi => upd_lt _ _ hi⟩, b2, ⟨?_, b4⟩, b5⟩
  refine cKL_ag2 (fun i m t w => cR_lt (tx := tx) (r := r) f i m t w.1) ks _ _ _ (fun a b t q1 q2 q3 q4 => ?_) (fun a _ _ => rfl) (fun a _ _ => rfl) b3
  refine ⟨cR_ag (r := r) (r' := ltR r (3 * n) x) f a b t ⟨fun i _ _ => ⟨rfl, rfl, rfl, rfl, rfl⟩, fun i w1 w2 => ?_, fun i _ _ => ⟨rfl, rfl, rfl⟩⟩ q4.1, q4.2⟩
  show (if i = 3 * n then x else r.letters i) = r.letters i
  rw [if_neg (by omega)]
theorem IN_bo {tx : Nat → Nat} {f : Nat} {r0 r : rM} {n : Nat} {u : Option Nat} {ks : List Kd} {t : Tau} {l mm : Nat} {kd x y : Int32} (h : IN tx f r0 r n u (ks ++ [(t, y)]) l mm kd) : IN tx f r0 (boR r l x) n u (ks ++ [(t, x)]) l mm kd := by
  have hlt := IN_lt h
  obtain ⟨b1, b2, ⟨b3, b4, b5, b6, b7⟩, b8, b9, b10, b11⟩ := h
  have ub : ∀ i, ¬ i = l → upd r.bound l x i = r.bound i := fun i hi => if_neg hi
  refine ⟨FM_AG b1 ⟨rfl, fun i hi => ⟨⟨rfl, rfl, rfl, rfl, rfl, ub i (by omega)⟩, rfl, rfl, rfl, rfl⟩, fun i hi => rfl⟩, b2, ⟨?_, b4, b5, b6, ?_⟩, b8, b9, b10, (ub n (by omega)).trans b11⟩
  · refine cKL_bo (fun i m t w => cR_lt (tx := tx) (r := r) f i m t w.1) ks _ _ _ (fun a b t q1 q2 q3 q4 => ?_) b3
    exact ⟨cR_ag (r := r) (r' := boR r l x) f a b t ⟨fun i _ _ => ⟨rfl, rfl, rfl, rfl, rfl⟩, fun i w1 w2 => rfl, fun i w1 w2 => ⟨rfl, ub i (by omega), rfl⟩⟩ q4.1, q4.2⟩
  · have e1 : (ks ++ [(t, y)]).length = (ks ++ [(t, x)]).length := by rw [List.length_append, List.length_append]; rfl
    rw [← e1]
    exact b7
theorem IN_cR {tx : Nat → Nat} {f : Nat} {r0 r : rM} {n : Nat} {u : Option Nat} {ks : List Kd} {l mm : Nat} {kd : Int32} {t : Tau} (h : IN tx f r0 r n u ks l mm kd) (ht : cT r n ks t) : cR tx r (f + 1) n mm t := Or.inr (Or.inr (Or.inr ⟨ks, l, h.2.2.1.1, h.2.2.1.2.1, h.2.2.1.2.2.1, ht⟩))
