section
def mj_lad (ad : Nat → Nat) (x y sz : Nat) : Nat → Nat := fun i => if i = 0 then x else if i = 1 then y else if i < 1000 then sz + (i - 2) else ad i
def mj_lz (x y sz : Nat) : Nat → Prop := fun q => q = x ∨ q = y ∨ sz ≤ q
def mj_lo (ml : Int32) (n N : Nat) (g : Nat → Int32) : List mj_O := [.inr (.inl (9, [.ref 1, .int 0, .int ml, .int (nI n)])), .inl (4, N, .inl g)]
theorem mj_lad0 {ad : Nat → Nat} {x y sz : Nat} : mj_lad ad x y sz 0 = x := by
  unfold mj_lad
  rw [if_pos rfl]
theorem mj_lad1 {ad : Nat → Nat} {x y sz : Nat} : mj_lad ad x y sz 1 = y := by
  unfold mj_lad
  rw [if_neg (by decide), if_pos rfl]
theorem mj_lad2 {ad : Nat → Nat} {x y sz i : Nat} (h2 : 2 ≤ i) (h : i < 1000) : mj_lad ad x y sz i = sz + (i - 2) := by
  unfold mj_lad
  rw [if_neg (by omega), if_neg (by omega), if_pos h]
theorem mj_ladc {ad : Nat → Nat} {x y sz i : Nat} (h : 1000 ≤ i) : mj_lad ad x y sz i = ad i := by
  unfold mj_lad
  rw [if_neg (by omega), if_neg (by omega), if_neg (by omega)]
theorem mj_ws_inv {tys : List (ClassId × FieldType)} {ad : Nat → Nat} {bi : Nat} {b : mj_B} {os : List mj_O} {k : Nat} {q : Nat × va_E} (h : (mj_ws tys ad bi b 0 os)[k]? = some q) : ∃ o, mj_nth os k = some o ∧ q = mj_en tys ad bi b k o := by
  have hk : k < os.length := by
    have := (List.getElem?_eq_some_iff.mp h).1
    rw [mj_ws_len] at this
    exact this
  have h1 : mj_nth os k = some os[k] := by
    rw [mj_nth_get]
    exact List.getElem?_eq_getElem hk
  have h2 := mj_at (tys := tys) (ad := ad) (bi := bi) (b := b) h1
  exact ⟨_, h1, Option.some.inj (h.symm.trans h2)⟩
section MJB
variable {D : va_G} {cl : List vw_C} {tys : List (ClassId × FieldType)} {ad : Nat → Nat} {z : Nat → Prop} {os : List mj_O} {b : mj_B} {H : Heap} {a n : Nat} {f : Nat → Nat}
theorem mj_b0 (ha : mj_nth os a = some (.inr (.inr (.inl (n, f))))) : (mj_ws tys ad 9 b 0 os)[a]? = some (ad a, .inr (9, [.ref (b.1 a), .int 0, .int (b.2.2.2 a), .int (nI n)])) := mj_at ha
theorem mj_b1 (hB : mj_bd b os) (ha : mj_nth os a = some (.inr (.inr (.inl (n, f))))) : (mj_ws tys ad 9 b 0 os)[a + 1]? = some (b.1 a, .inl (mj_tc tys 4, b.2.1 a, .inl (b.2.2.1 a))) := by
  have := mj_at (tys := tys) (ad := ad) (bi := 9) (b := b) (hB a n f ha).1
  exact this
theorem mj_rep_in {k0 k1 : Nat} (hP : va_P D cl (mj_ws tys ad 9 b 0 os) H) (hD : va_D (mj_A z) (mj_ws tys ad 9 b 0 os)) (hB : mj_bd b os) (hvs : ∀ (q : Nat) (cell : Cell), z q → H[q]? = some cell → cell.vm.isStatics = false) (ha : mj_nth os a = some (.inr (.inr (.inl (n, f))))) :
    mj_rep D cl tys (mj_lad ad (ad a) (b.1 a) H.size) 9 (mj_lz (ad a) (b.1 a) H.size) (mj_lo (b.2.2.2 a) n (b.2.1 a) (b.2.2.1 a), k0, k1, true) H := by
  have e0 := mj_b0 (tys := tys) (ad := ad) (b := b) ha
  have e1 := mj_b1 (tys := tys) (ad := ad) hB ha
  have ew : mj_ws tys (mj_lad ad (ad a) (b.1 a) H.size) 9 b 0 (mj_lo (b.2.2.2 a) n (b.2.1 a) (b.2.2.1 a)) = [(ad a, .inr (9, [.ref (b.1 a), .int 0, .int (b.2.2.2 a), .int (nI n)])), (b.1 a, .inl (mj_tc tys 4, b.2.1 a, .inl (b.2.2.1 a)))] := by
    simp only [mj_lo, mj_ws, mj_en, List.map_cons, List.map_nil, mj_tr, mj_lad0, Nat.zero_add, mj_lad1]
  have hne : ad a ≠ b.1 a := fun h => by
    have := hD.1 a (a + 1) _ _ e0 e1 h
    omega
  refine ⟨⟨b, ?_, ?_, ?_⟩, fun _ => ⟨?_, fun i h1 h2 => ?_⟩, fun q cell h1 h2 => ?_, fun q h => Or.inr (Or.inr h)⟩
  · show va_P D cl (mj_ws tys _ 9 b 0 (mj_lo _ n _ _)) H
    rw [ew]
    intro k q hk
    match k, hk with
    | 0, hk => cases hk; exact hP a _ e0
    | 1, hk => cases hk; exact hP (a + 1) _ e1
    | k + 2, hk => simp at hk
  · show va_D _ (mj_ws tys _ 9 b 0 (mj_lo _ n _ _))
    rw [ew]
    refine ⟨fun i j p q hi hj h => ?_, fun k q hk => ?_⟩
    · match i, j, hi, hj with
      | 0, 0, _, _ => rfl
      | 1, 1, _, _ => rfl
      | 0, 1, hi, hj => cases hi; cases hj; exact absurd h hne
      | 1, 0, hi, hj => cases hi; cases hj; exact absurd h.symm hne
      | i + 2, _, hi, _ => simp at hi
      | 0, j + 2, _, hj => simp at hj
      | 1, j + 2, _, hj => simp at hj
    · match k, hk with
      | 0, hk => cases hk; exact Or.inl rfl
      | 1, hk => cases hk; exact Or.inr (Or.inl rfl)
      | k + 2, hk => simp at hk
  · intro i n f hi
    match i, hi with
    | 0, hi => cases hi
    | 1, hi => cases hi
    | i + 2, hi => cases hi
  · show H.size = mj_lad ad (ad a) (b.1 a) H.size 2
    rw [mj_lad2 (by omega) (by omega)]
    rfl
  · have h1 : 2 ≤ i := h1
    rw [mj_lad2 (by omega) (by omega), mj_lad2 h1 (by omega)]
    omega
  · rcases h1 with h1 | h1 | h1
    · exact hvs q cell (by rw [h1]; exact hD.2 a _ e0) h2
    · exact hvs q cell (by rw [h1]; exact hD.2 (a + 1) _ e1) h2
    · exact absurd (Array.getElem?_eq_some_iff.mp h2).1 (Nat.not_lt.mpr h1)
theorem mj_rep_out {H1 : Heap} {os1 : List mj_O} {k0 k1 j N n1 : Nat} {fl : Bool} {g : Nat → Int32} {f1 : Nat → Nat} {ml : Int32} (hP : va_P D cl (mj_ws tys ad 9 b 0 os) H) (hD : va_D (mj_A z) (mj_ws tys ad 9 b 0 os)) (hB : mj_bd b os) (hvs : ∀ (q : Nat) (cell : Cell), z q → H[q]? = some cell → cell.vm.isStatics = false) (hz : ∀ q : Nat, H.size ≤ q → z q) (ha : mj_nth os a = some (.inr (.inr (.inl (n, f)))))
    (hS : H.size ≤ H1.size) (hF : ∀ q : Nat, q < H.size → ¬ mj_lz (ad a) (b.1 a) H.size q → H1[q]? = H[q]?) (hr : mj_rep D cl tys (mj_lad ad (ad a) (b.1 a) H.size) 9 (mj_lz (ad a) (b.1 a) H.size) (os1, k0, k1, fl) H1)
    (h0 : mj_nth os1 0 = some (.inr (.inl (9, [.ref j, .int 0, .int ml, .int (nI n1)])))) (hj : mj_nth os1 j = some (.inl (4, N, .inl g))) (hj0 : 0 < j) (hn : n1 ≤ N) (hN : N ≤ 65536) (hl : sb_Lat f1 n1 g) (hf : sb_Fit g) :
    mj_rep D cl tys ad 9 z (mj_stn os a (.inr (.inr (.inl (n1, f1)))), k0, k1, false) H1 := by
  obtain ⟨⟨c, hP1, hD1, -⟩, -, hvs1, -⟩ := hr
  have e0 := mj_b0 (tys := tys) (ad := ad) (b := b) ha
  have e1 := mj_b1 (tys := tys) (ad := ad) hB ha
  have l0 : (mj_ws tys (mj_lad ad (ad a) (b.1 a) H.size) 9 c 0 os1)[0]? = some (ad a, .inr (9, [.ref (mj_lad ad (ad a) (b.1 a) H.size j), .int 0, .int ml, .int (nI n1)])) := by
    have := mj_at (tys := tys) (ad := mj_lad ad (ad a) (b.1 a) H.size) (bi := 9) (b := c) h0
    simp only [mj_en, List.map_cons, List.map_nil, mj_tr, mj_lad0] at this
    exact this
  have lj : (mj_ws tys (mj_lad ad (ad a) (b.1 a) H.size) 9 c 0 os1)[j]? = some (mj_lad ad (ad a) (b.1 a) H.size j, .inl (mj_tc tys 4, N, .inl g)) := mj_at hj
  generalize hJ : mj_lad ad (ad a) (b.1 a) H.size j = y at l0 lj
  have hyne : ad a ≠ y := fun h => by
    have := hD1.1 0 j _ _ l0 lj h
    omega
  have hyz : mj_lz (ad a) (b.1 a) H.size y := hD1.2 j _ lj
  have hy2 : y = b.1 a ∨ H.size ≤ y := by
    rcases hyz with h | h | h
    · exact absurd h.symm hyne
    · exact Or.inl h
    · exact Or.inr h
  have ht := (hB a n f ha).1
  have hal : a < os.length := by
    rw [mj_nth_get] at ha
    exact (List.getElem?_eq_some_iff.mp ha).1
  have na : mj_nth (mj_stn os a (.inr (.inr (.inl (n1, f1))))) a = some (.inr (.inr (.inl (n1, f1)))) := by
    rw [mj_nth_get, mj_stn_set, List.getElem?_set_self hal]
  have no : ∀ k, k ≠ a → mj_nth (mj_stn os a (.inr (.inr (.inl (n1, f1))))) k = mj_nth os k := fun k hk => by
    rw [mj_nth_get, mj_stn_set, List.getElem?_set_ne (fun q => hk q.symm), mj_nth_get]
  obtain ⟨b1, hb1⟩ : ∃ b1 : mj_B, b1 = ((fun i => if i = a then y else b.1 i), (fun i => if i = a then N else b.2.1 i), (fun i => if i = a then g else b.2.2.1 i), (fun i => if i = a then ml else b.2.2.2 i)) := ⟨_, rfl⟩
  have s1 : b1.1 a = y := by rw [hb1]; exact if_pos rfl
  have s2 : b1.2.1 a = N := by rw [hb1]; exact if_pos rfl
  have s3 : b1.2.2.1 a = g := by rw [hb1]; exact if_pos rfl
  have s4 : b1.2.2.2 a = ml := by rw [hb1]; exact if_pos rfl
  have t1 : ∀ i, i ≠ a → b1.1 i = b.1 i := fun i h => by rw [hb1]; exact if_neg h
  have t2 : ∀ i, i ≠ a → b1.2.1 i = b.2.1 i := fun i h => by rw [hb1]; exact if_neg h
  have t3 : ∀ i, i ≠ a → b1.2.2.1 i = b.2.2.1 i := fun i h => by rw [hb1]; exact if_neg h
  have t4 : ∀ i, i ≠ a → b1.2.2.2 i = b.2.2.2 i := fun i h => by rw [hb1]; exact if_neg h
  have hc : ∀ k q, (mj_ws tys ad 9 b1 0 (mj_stn os a (.inr (.inr (.inl (n1, f1))))))[k]? = some q → (k = a ∧ q = (ad a, .inr (9, [.ref y, .int 0, .int ml, .int (nI n1)]))) ∨ (k = a + 1 ∧ q = (y, .inl (mj_tc tys 4, N, .inl g))) ∨ (k ≠ a ∧ k ≠ a + 1 ∧ (mj_ws tys ad 9 b 0 os)[k]? = some q) := by
    intro k q hk
    obtain ⟨o, h1, h2⟩ := mj_ws_inv hk
    by_cases hka : k = a
    · subst hka
      rw [na] at h1
      cases h1
      exact Or.inl ⟨rfl, by rw [h2]; simp only [mj_en, s1, s4]⟩
    · rw [no k hka] at h1
      by_cases hk1 : k = a + 1
      · subst hk1
        rw [ht] at h1
        cases h1
        refine Or.inr (Or.inl ⟨rfl, ?_⟩)
        rw [h2]
        simp only [mj_en, Nat.add_sub_cancel, s1, s2, s3]
      · refine Or.inr (Or.inr ⟨hka, hk1, ?_⟩)
        have h3 := mj_at (tys := tys) (ad := ad) (bi := 9) (b := b) h1
        rw [h3, h2]
        congr 1
        rcases o with o | o | o | o
        · rfl
        · rfl
        · simp only [mj_en, t1 k hka, t4 k hka]
        · have hk2 : k - 1 ≠ a := by omega
          simp only [mj_en, t1 _ hk2, t2 _ hk2, t3 _ hk2]
  have hold : ∀ k q, k ≠ a → k ≠ a + 1 → (mj_ws tys ad 9 b 0 os)[k]? = some q → q.1 < H.size ∧ q.1 ≠ ad a ∧ q.1 ≠ b.1 a := fun k q h1 h2 hk =>
    ⟨(hP k q hk).lt, fun h => h1 (hD.1 k a _ _ hk e0 h), fun h => h2 (hD.1 k (a + 1) _ _ hk e1 h)⟩
  refine ⟨⟨b1, ?_, ⟨?_, ?_⟩, ?_⟩, (fun h => by cases h), fun q cell g1 g2 => ?_, fun q h => hz q (Nat.le_trans hS h)⟩
  · intro k q hk
    rcases hc k q hk with ⟨-, e⟩ | ⟨-, e⟩ | ⟨g1, g2, e⟩
    · rw [e]; exact hP1 0 _ l0
    · rw [e]; exact hP1 j _ lj
    · obtain ⟨o1, o2, o3⟩ := hold k q g1 g2 e
      refine (hP k q e).kept (hF q.1 o1 ?_)
      rintro (h | h | h)
      · exact o2 h
      · exact o3 h
      · omega
  · intro i k p q hi hk h
    rcases hc i p hi with ⟨i1, ei⟩ | ⟨i1, ei⟩ | ⟨g1, g2, ei⟩ <;> rcases hc k q hk with ⟨k1, ek⟩ | ⟨k1, ek⟩ | ⟨g3, g4, ek⟩
    · rw [i1, k1]
    · rw [ei, ek] at h; exact absurd h hyne
    · rw [ei] at h; exact absurd h.symm (hold k q g3 g4 ek).2.1
    · rw [ei, ek] at h; exact absurd h.symm hyne
    · rw [i1, k1]
    · rw [ei] at h
      obtain ⟨o1, o2, o3⟩ := hold k q g3 g4 ek
      rcases hy2 with g | g
      · exact absurd (h.symm.trans g) o3
      · have h9 : y = q.1 := h
        omega
    · rw [ek] at h; exact absurd h (hold i p g1 g2 ei).2.1
    · rw [ek] at h
      obtain ⟨o1, o2, o3⟩ := hold i p g1 g2 ei
      rcases hy2 with g | g
      · exact absurd (h.trans g) o3
      · have h9 : p.1 = y := h
        omega
    · exact hD.1 i k p q ei ek h
  · intro k q hk
    rcases hc k q hk with ⟨-, e⟩ | ⟨-, e⟩ | ⟨g1, g2, e⟩
    · rw [e]
      have h9 := hD.2 a _ e0
      exact h9
    · rw [e]
      rcases hy2 with g | g
      · show z y
        rw [g]
        exact hD.2 (a + 1) _ e1
      · exact hz y g
    · exact hD.2 k q e
  · intro i m h hi
    by_cases hia : i = a
    · subst hia
      rw [na] at hi
      cases hi
      refine ⟨by rw [no _ (by omega)]; exact ht, ?_⟩
      rw [s2, s3]
      exact ⟨hn, hN, hl, hf⟩
    · rw [no i hia] at hi
      obtain ⟨h1, h2⟩ := hB i m h hi
      have hi1 : i + 1 ≠ a := fun q => by
        rw [q, ha] at h1
        cases h1
      refine ⟨by rw [no _ hi1]; exact h1, ?_⟩
      rw [t2 i hia, t3 i hia]
      exact h2
  · by_cases hq : mj_lz (ad a) (b.1 a) H.size q
    · exact hvs1 q cell hq g2
    · have hlt : q < H.size := Nat.lt_of_not_le (fun g => hq (Or.inr (Or.inr g)))
      rw [hF q hlt hq] at g2
      exact hvs q cell g1 g2
theorem mj_rep_cv {k0 k1 N : Nat} {fl : Bool} {g : Nat → Int32} {ml : Int32} (hr : mj_rep D cl tys ad 9 z (os, k0, k1, fl) H) (h0 : mj_nth os a = some (.inr (.inl (9, [.ref (a + 1), .int 0, .int ml, .int (nI 0)])))) (h1 : mj_nth os (a + 1) = some (.inl (4, N, .inl g))) (hN : N ≤ 65536) (hf : sb_Fit g) :
    mj_rep D cl tys ad 9 z (mj_stn (mj_stn os a (.inr (.inr (.inl (0, fun _ => 0))))) (a + 1) (.inr (.inr (.inr ()))), k0, k1, fl) H := by
  obtain ⟨⟨b, hP, hD, hB⟩, hs, hvs⟩ := hr
  have hal : a + 1 < os.length := by
    rw [mj_nth_get] at h1
    exact (List.getElem?_eq_some_iff.mp h1).1
  obtain ⟨os2, hos2⟩ : ∃ os2 : List mj_O, os2 = mj_stn (mj_stn os a (.inr (.inr (.inl (0, fun _ => 0))))) (a + 1) (.inr (.inr (.inr ()))) := ⟨_, rfl⟩
  have len2 : os2.length = os.length := by rw [hos2, mj_stn_set, mj_stn_set, List.length_set, List.length_set]
  have na : mj_nth os2 a = some (.inr (.inr (.inl (0, fun _ => 0)))) := by
    rw [hos2, mj_nth_get, mj_stn_set, mj_stn_set, List.getElem?_set_ne (by omega), List.getElem?_set_self (by omega)]
  have nb : mj_nth os2 (a + 1) = some (.inr (.inr (.inr ()))) := by
    rw [hos2, mj_nth_get, mj_stn_set, mj_stn_set, List.getElem?_set_self (by rw [List.length_set]; exact hal)]
  have no : ∀ k, k ≠ a → k ≠ a + 1 → mj_nth os2 k = mj_nth os k := fun k hk hk1 => by
    rw [hos2, mj_nth_get, mj_stn_set, mj_stn_set, List.getElem?_set_ne (fun q => hk1 q.symm), List.getElem?_set_ne (fun q => hk q.symm), mj_nth_get]
  obtain ⟨b1, hb1⟩ : ∃ b1 : mj_B, b1 = ((fun i => if i = a then ad (a + 1) else b.1 i), (fun i => if i = a then N else b.2.1 i), (fun i => if i = a then g else b.2.2.1 i), (fun i => if i = a then ml else b.2.2.2 i)) := ⟨_, rfl⟩
  have s1 : b1.1 a = ad (a + 1) := by rw [hb1]; exact if_pos rfl
  have s2 : b1.2.1 a = N := by rw [hb1]; exact if_pos rfl
  have s3 : b1.2.2.1 a = g := by rw [hb1]; exact if_pos rfl
  have s4 : b1.2.2.2 a = ml := by rw [hb1]; exact if_pos rfl
  have t1 : ∀ i, i ≠ a → b1.1 i = b.1 i := fun i h => by rw [hb1]; exact if_neg h
  have t2 : ∀ i, i ≠ a → b1.2.1 i = b.2.1 i := fun i h => by rw [hb1]; exact if_neg h
  have t3 : ∀ i, i ≠ a → b1.2.2.1 i = b.2.2.1 i := fun i h => by rw [hb1]; exact if_neg h
  have t4 : ∀ i, i ≠ a → b1.2.2.2 i = b.2.2.2 i := fun i h => by rw [hb1]; exact if_neg h
  have ew : mj_ws tys ad 9 b1 0 os2 = mj_ws tys ad 9 b 0 os := by
    apply List.ext_getElem?
    intro k
    by_cases hka : k = a
    · subst hka
      rw [mj_at na, mj_at h0]
      simp only [mj_en, s1, s4, List.map_cons, List.map_nil, mj_tr]
    · by_cases hk1 : k = a + 1
      · subst hk1
        rw [mj_at nb, mj_at h1]
        simp only [mj_en, Nat.add_sub_cancel, s1, s2, s3]
      · cases ho : mj_nth os k with
        | none =>
          have hk : os.length ≤ k := by
            rw [mj_nth_get] at ho
            exact List.getElem?_eq_none_iff.mp ho
          rw [List.getElem?_eq_none (by rw [mj_ws_len, len2]; exact hk), List.getElem?_eq_none (by rw [mj_ws_len]; exact hk)]
        | some o =>
          rw [mj_at ((no k hka hk1).trans ho), mj_at ho]
          congr 1
          rcases o with o | o | o | o
          · rfl
          · rfl
          · simp only [mj_en, t1 k hka, t4 k hka]
          · have hk2 : k - 1 ≠ a := by omega
            simp only [mj_en, t1 _ hk2, t2 _ hk2, t3 _ hk2]
  rw [← hos2]
  refine ⟨⟨b1, ?_, ?_, ?_⟩, fun h => ?_, hvs⟩
  · show va_P D cl (mj_ws tys ad 9 b1 0 os2) H
    rw [ew]
    exact hP
  · show va_D (mj_A z) (mj_ws tys ad 9 b1 0 os2)
    rw [ew]
    exact hD
  · intro i m h hi
    have hi : mj_nth os2 i = some (.inr (.inr (.inl (m, h)))) := hi
    show mj_nth os2 (i + 1) = _ ∧ _
    by_cases hia : i = a
    · subst hia
      rw [na] at hi
      cases hi
      refine ⟨nb, ?_⟩
      rw [s2, s3]
      exact ⟨Nat.zero_le _, hN, fun j hj => absurd hj (by omega), hf⟩
    · have hi1 : i ≠ a + 1 := fun q => by
        rw [q, nb] at hi
        cases hi
      rw [no i hia hi1] at hi
      obtain ⟨g1, g2⟩ := hB i m h hi
      have hia1 : i + 1 ≠ a := fun q => by
        rw [q, h0] at g1
        cases g1
      refine ⟨by rw [no _ hia1 (by omega)]; exact g1, ?_⟩
      rw [t2 i hia, t3 i hia]
      exact g2
  · have h9 := hs h
    show mj_nu ad os2.length H
    rw [len2]
    exact h9
end MJB
end
section
section MJY
variable {p : Program} {l : Launch} {e : Env} {R : Room} {s : State} {m : MethodId} {args : Array Value} {below : List Frame} {meth : Method} {c : Code}
variable {D : va_G} {cl : List vw_C} {tys : List (ClassId × FieldType)} {ad : Nat → Nat} {z : Nat → Prop} {nL : Nat} {off : Nat → Nat} {QQ : State → Prop} {b0 b1 : Nat} {cc : ByteArray} {pc : Nat} {ls : mj_L} {r : List Value} {h : mj_H}
variable {cst : Nat → Option (Nat × (Nat → Int32))} {ncs : mj_K} {xn : Nat → String}
def mj_c9 (bi : Nat) (cst : Nat → Option (Nat × (Nat → Int32))) (ncs : mj_K) : Prop := bi = 9 ∧ (∀ a x, cst a = some x → 1000 ≤ a) ∧ (∀ q ∈ ncs.2.2.2.2, mj_ni [q.2.2.2] = true) ∧ ∀ q ∈ ncs.2.2.2.1, q.2.2.2 ≠ 0 → 1000 ≤ q.2.2.2
theorem mj_ni_tr {x y sz : Nat} : ∀ {as : List Value}, mj_ni as = true → as.map (mj_tr (mj_lad ad x y sz)) = as.map (mj_tr ad) := by
  intro as
  induction as with
  | nil => intro _; rfl
  | cons v r ih =>
    intro h
    cases v with
    | int x => rw [List.map_cons, List.map_cons, ih h]; rfl
    | retAddr x =>
      rw [List.map_cons, List.map_cons, ih h]
      congr 1
    | ref w =>
      unfold mj_ni at h
      split at h
      · next hw =>
        have hw := Nat.le_of_ble_eq_true hw
        rw [List.map_cons, List.map_cons, ih h]
        congr 1
        show Value.ref (mj_lad ad x y sz w) = Value.ref (ad w)
        rw [mj_ladc hw]
      · cases h
    | _ => cases h
theorem mj_St_in {x y : Nat} {U : State} {bi : Nat} (h9 : mj_c9 bi cst ncs) (h : mj_St cst ad z ncs U) (hx : z x) (hy : z y) : mj_St cst (mj_lad ad x y U.heap.size) (mj_lz x y U.heap.size) ncs U := by
  obtain ⟨h1, h2, h3, h4, h5, h6, h7⟩ := h
  have hs : ∀ q, mj_lz x y U.heap.size q → z q := by
    rintro q (h | h | h)
    · rw [h]; exact hx
    · rw [h]; exact hy
    · exact h2 q h
  refine ⟨fun a n g ha => ?_, fun q h => Or.inr (Or.inr h), h3, h4, fun q hq => ?_, fun q hq => ?_, fun q hq => ?_⟩
  · have h8 := h1 a n g ha
    have e := mj_ladc (ad := ad) (x := x) (y := y) (sz := U.heap.size) (h9.2.1 a _ ha)
    refine ⟨fun g1 => ?_, fun g1 g2 => ?_, fun g1 => ?_⟩
    · rw [e]
      exact (h8.1 g1).narrow hs
    · rw [e]
      exact (h8.2.1 g1 g2).narrow hs
    · rw [e, mj_ladc (i := a - 900) (by omega)]
      exact ⟨(h8.2.2 g1).1.narrow hs, (h8.2.2 g1).2.1.narrow hs, (h8.2.2 g1).2.2.narrow hs⟩
  · obtain ⟨cf, kf, fi, f, a, cell, v, g1, g2, g3, g4, g5, g6, g7, g8, g9, g10, g11, g12⟩ := h5 q hq
    exact ⟨cf, kf, fi, f, a, cell, v, g1, g2, g3, g4, g5, g6, g7, g8, g9, g10, g11, fun g => g12 (hs a g)⟩
  · obtain ⟨w, g1, g2⟩ := h6 q hq
    refine ⟨w, g1, fun g3 => ?_⟩
    rw [mj_ladc (h9.2.2.2 q hq g3)]
    exact g2 g3
  · have e := mj_ni_tr (ad := ad) (x := x) (y := y) (sz := U.heap.size) (h9.2.2.1 q hq)
    have e' : mj_tr (mj_lad ad x y U.heap.size) q.2.2.2 = mj_tr ad q.2.2.2 := by simpa using e
    rw [e']
    exact (h7 q hq).narrow hs
theorem mj_so_bcall (hx : p.tables.exec = Jvm.exec) (hb : c.code = cc) (hml : c.maxLocals = nL) (hK : va_K D cl tys s) (hSt : mj_St cst ad z ncs s) (hR : R.cells = b0 ∧ R.slots = b1) (h9 : mj_c9 9 cst ncs)
    {y : MethodName} {ws : List Cond} {rm : Room} {bytes : ByteArray} {maxL : Nat} {ret : Option FieldType} {hh : List (Nat × Nat × Nat × Nat)} {ig : Instr} {as st : List Value} {kq : Nat → mj_L → List Value → mj_H → Prop} {a nb : Nat} {fb : Nat → Nat}
    (ha : mj_nth h.1 a = some (.inr (.inr (.inl (nb, fb))))) (hni : mj_ni as = true)
    (hM : ∀ (ad2 : Nat → Nat) (z2 : Nat → Prop) (ml : Int32) (N : Nat) (g : Nat → Int32), nb ≤ N → N ≤ 65536 → sb_Lat fb nb g → sb_Fit g → MetFree l y (headSpec ws rm) (mj_Pc D cl tys ad2 9 z2 cst ncs (.ref 0 :: as) (mj_lo ml nb N g, h.2.1, h.2.2.1, true)) (fun _ _ _ _ _ => True) (fun _ => mj_Qc D cl tys ad2 9 z2 xn h.2.1 h.2.2.1 (mj_bp kq pc ls r h a)))
    (hrc : rm.cells = h.2.1) (hrs : rm.slots = h.2.2.1) (hfr : rm.frames + 1 ≤ R.frames) (hlo : 8 + (maxL + 11) + rm.locals ≤ R.locals) (hwt : mj_wt r ≤ 8)
    (hws : ∀ w ∈ ws, ∀ (a' : Array Value) (U : State), s.WarmedH U.vm → w.before a' U = true) (hcd : mj_cd y bytes maxL ret hh ∈ ws) (hini : ∀ (a' : Array Value) (U : State), s.WarmedH U.vm → (Cond.initialized y.cls).before a' U = true)
    (hd : decode cc (off pc) = .ok (ig, 3)) (ho : off (pc + 1) = off pc + 3)
    (hinv : ∀ (T : State) (H : Heap) (locs : List Loc) (k n : Nat) (L : Array Slot), T.heap = H → mj_rep D cl tys ad 9 z h H → Stand p l e R s m args below meth c T locs k n → mj_Inv p l e R s m args below meth c T locs k n (F0 m (off pc) L (st.map (mj_tr ad))) (r.map (mj_tr ad)) y ((.ref a :: as).map (mj_tr ad)).toArray)
    (hk : ∀ pc ls st h, kq pc ls st h → mj_J p l e R s m args below meth c D cl tys ad 9 z nL off QQ b0 b1 pc ls st h) : mj_J p l e R s m args below meth c D cl tys ad 9 z nL off QQ b0 b1 pc ls st h := by
  intro H locs k n L hl hr hS h1 h2 T hT X
  obtain ⟨vm₁, mk, hW₁, X₁, hnm, hstep⟩ := hinv T H locs k n L hT hr X
  obtain ⟨⟨b, hP, hD, hB⟩, -, hvs1, hvs2⟩ := hr
  have hzs : ∀ q : Nat, s.heap.size ≤ q → z q := hSt.2.1
  have hSt1 : mj_St cst ad z ncs (T.setVm vm₁) := by
    refine hSt.go (U := T.setVm vm₁) hW₁ (fun q hq => ?_) ?_
    · show T.heap[q]? = s.heap[q]?
      rw [hT]
      exact hS.2.1 q (Nat.lt_of_not_le (fun g => hq (hzs q g))) hq
    · show s.heap.size ≤ T.heap.size
      rw [hT]
      exact hS.1
  have e0 := mj_b0 (tys := tys) (ad := ad) (b := b) ha
  have e1 := mj_b1 (tys := tys) (ad := ad) hB ha
  have zx : z (ad a) := hD.2 a _ e0
  have zy : z (b.1 a) := hD.2 (a + 1) _ e1
  have hlz : ∀ q, mj_lz (ad a) (b.1 a) H.size q → z q := by
    rintro q (g | g | g)
    · rw [g]; exact zx
    · rw [g]; exact zy
    · exact hvs2 q g
  have hSt2 : mj_St cst (mj_lad ad (ad a) (b.1 a) H.size) (mj_lz (ad a) (b.1 a) H.size) ncs (T.setVm vm₁) := by
    have := mj_St_in h9 hSt1 zx zy
    have e : (T.setVm vm₁).heap.size = H.size := by rw [← hT]; rfl
    rw [e] at this
    exact this
  obtain ⟨-, n1, n2, n3, n4⟩ := hB a nb fb ha
  have hwt' : 2 * (F0 m (off pc) L (r.map (mj_tr ad))).monitorRoom + ((F0 m (off pc) L (r.map (mj_tr ad))).stack.map fun v => v.category).sum ≤ 8 := by
    have := mj_wt_tr ad r
    unfold mj_wt at this hwt
    show 2 * 0 + ((r.map (mj_tr ad)).map fun v => v.category).sum ≤ 8
    rw [this]
    omega
  have eas : ((.ref a :: as).map (mj_tr ad)) = ((.ref 0 :: as).map (mj_tr (mj_lad ad (ad a) (b.1 a) H.size))) := by
    rw [List.map_cons, List.map_cons, mj_ni_tr hni]
    congr 1
  obtain ⟨o, t, hq, hgo⟩ := mj_back (hh := hh) (bytes := bytes) (maxL := maxL) (ret := ret) (Wt := 8) (len := 3) (ig := ig) (U := T.setVm vm₁) (g := F0 m (off pc) L (r.map (mj_tr ad))) (a := ((.ref a :: as).map (mj_tr ad)).toArray) (mk := mk) (hM (mj_lad ad (ad a) (b.1 a) H.size) (mj_lz (ad a) (b.1 a) H.size) (b.2.2.2 a) (b.2.1 a) (b.2.2.1 a) n1 n2 n3 n4) hfr hlo X₁ rfl (by show L.size = c.maxLocals; rw [hml]; exact hl.1) (by rw [hb]; exact hd) hwt' hnm (fun w hw => hws w hw _ _ hW₁) (mj_cd_or (hws _ hcd _ _ hW₁)) (hini _ _ hW₁) (by rw [hrc, hR.1]; exact h1) (by rw [hrs, hR.2]; exact h2)
    ⟨by rw [eas], by show mj_rep D cl tys _ 9 _ _ T.heap; rw [hT]; exact mj_rep_in hP hD hB hvs1 ha, va_K.moved hW₁.alike hK, hSt2⟩ (fun o t hq => by
      obtain ⟨r9, -, -, -, -, L9, k9, n9, hf, -⟩ := hq
      exact ⟨L9, k9, n9, hf⟩)
  obtain ⟨⟨rv, h'⟩, hQ, hout, hrep, hF, L9, k9, n9, hfe, hL9, hk9, hn9⟩ := hq
  obtain ⟨U', e1', e2', XU, hret, hthr⟩ := hgo L9 k9 n9 hfe
  have hF' : T.heap.size ≤ t.heap.size ∧ ∀ q : Nat, q < T.heap.size → ¬ mj_lz (ad a) (b.1 a) H.size q → t.heap[q]? = T.heap[q]? := hF
  rw [hT] at hF'
  have hS' : va_S (mj_A z) s.heap t.heap (locs ++ L9) := by
    refine ⟨Nat.le_trans hS.1 hF'.1, fun q g1 g2 => ?_, fun q hq => ?_⟩
    · rw [hF'.2 q (Nat.lt_of_lt_of_le g1 hS.1) (fun g => g2 (hlz q g))]
      exact hS.2.1 q g1 g2
    · rcases List.mem_append.mp hq with g | g
      · exact hS.2.2 q g
      · exact hlz _ (hL9 q g)
  have c1 : k + k9 + h'.2.1 ≤ b0 := by
    have := h1
    have := hk9
    simp only at *
    omega
  have c2 : n + n9 + h'.2.2.1 ≤ b1 := by
    have := h2
    have := hn9
    simp only at *
    omega
  obtain ⟨os1, bc1, bs1, fl1⟩ := h'
  cases rv with
  | inl v =>
    have ho1 : o = .returned (v.map (mj_tr (mj_lad ad (ad a) (b.1 a) H.size))) := hout
    obtain ⟨j, N, g, n5, f5, ml, q1, q2, q3, q4, q5, q6, q7, q8⟩ := hQ
    have hrep' : mj_rep D cl tys ad 9 z (mj_stn h.1 a (.inr (.inr (.inl (n5, f5)))), bc1, bs1, false) t.heap := mj_rep_out hP hD hB hvs1 hvs2 ha hF'.1 hF'.2 hrep q1 q2 q3 q4 q5 q6 q7
    have fin : ∀ w : Option Value, v.map (mj_tr (mj_lad ad (ad a) (b.1 a) H.size)) = w.map (mj_tr ad) → kq (pc + 1) ls (w.toList ++ r) (mj_stn h.1 a (.inr (.inr (.inl (n5, f5)))), bc1, bs1, false) → ∃ t2, Steps p.tables e below (T.setTop (F0 m (off pc) L (st.map (mj_tr ad)))) t2 ∧ QQ t2 := by
      intro w ew q9
      rw [ew] at ho1
      obtain ⟨t2, a1, b1⟩ := hk _ _ _ _ q9 t.heap (locs ++ L9) (k + k9) (n + n9) L hl hrep' hS' c1 c2 U' e1' XU
      refine ⟨t2, hstep t2 (hret _ ho1 t2 ?_), b1⟩
      rw [ho] at a1
      have e9 : (w.map (mj_tr ad)).toList ++ r.map (mj_tr ad) = (w.toList ++ r).map (mj_tr ad) := by cases w <;> rfl
      show Steps p.tables e below (U'.setTop (F0 m (off pc + 3) L ((w.map (mj_tr ad)).toList ++ r.map (mj_tr ad)))) t2
      rw [e9]
      exact a1
    split at q8
    · exact fin none rfl q8
    · next x => exact fin (some (.int x)) rfl q8
    · refine fin (some (.ref a)) ?_ q8
      show some (Value.ref (mj_lad ad (ad a) (b.1 a) H.size 0)) = some (Value.ref (ad a))
      rw [mj_lad0]
    · exact q8.elim
  | inr q => exact hQ.elim
theorem mj_nn {w : Int32} (h : ¬ w < 0) : w.toInt = (w.toNatClampNeg : Int) := by
  obtain ⟨j, hj, rfl⟩ := nI_of h
  rw [nI_toInt hj, nI_clamp hj]
theorem mj_so_copy {bi : Nat} (hx : p.tables.exec = Jvm.exec) (hb : c.code = cc) (hml : c.maxLocals = nL) {own : String} (hown : s.vm.findClass own = some m.cls) {TS : List Cond} (hts : ∀ w ∈ TS, w.before args s = true) (hK : va_K D cl tys s) {idx : Nat} (g1 : Jvm.Cond.methodLink own idx arraycopyName ∈ TS) (g2 : Jvm.Cond.native arraycopyName ∈ TS) (g3 : Jvm.Cond.static arraycopyName ∈ TS) (g4 : Jvm.Cond.initialized "java/lang/System" ∈ TS)
    {a0 a n0 n1 : Nat} {f g : Nat → Int32} {sp dp w : Int32} {cA : ClassId} (ht : tys[4]? = some (cA, .byte)) (ha0 : mj_nth h.1 a0 = some (.inl (4, n0, .inl f))) (ha : mj_nth h.1 a = some (.inl (4, n1, .inl g))) (h1 : ¬ sp < 0) (h2 : ¬ dp < 0) (h3 : ¬ w < 0) (h4 : sp.toNatClampNeg + w.toNatClampNeg ≤ n0) (h5 : dp.toNatClampNeg + w.toNatClampNeg ≤ n1) (hfit : sb_Fit f)
    (hfr : 1 ≤ R.frames) (hlo : mj_wt r + (nativeFrameWords "java/lang/System" "arraycopy" 5 + 11) ≤ R.locals) (hd : decode cc (off pc) = .ok (.invokestatic idx, 3)) (ho : off (pc + 1) = off pc + 3)
    (kk : mj_J p l e R s m args below meth c D cl tys ad bi z nL off QQ b0 b1 (pc + 1) ls r (mj_set h a (.inl (4, n1, .inl (va_cpy f g sp.toNatClampNeg dp.toNatClampNeg w.toNatClampNeg))))) : mj_J p l e R s m args below meth c D cl tys ad bi z nL off QQ b0 b1 pc ls (.int w :: .int dp :: .ref a :: .int sp :: .ref a0 :: r) h := by
  intro H locs k n L hl hr hS h1' h2' T hT X
  have hc0 := mj_cellA ht hr ha0
  have hc1 := mj_cellA ht hr ha
  have hA : mj_A z (ad a) := mj_in_A hr ha trivial
  obtain ⟨-, k0, hk0, cm0, hkk0⟩ := (hK.2 4 _ ht).1 n0 (fun j => .int (f j))
  obtain ⟨-, k1, hk1, cm1, hkk1⟩ := (hK.2 4 _ ht).1 n1 (fun j => .int (g j))
  have hwt := mj_wt_tr ad r
  unfold mj_wt at hwt hlo
  obtain ⟨vm', X', step⟩ := X.arraycopy hx hown (hts _ g1) (hts _ g2) (hts _ g3) (hts _ g4) (src := ad a0) (dst := ad a) (cs := vp_cell cA (n0, .inl f)) (cd := vp_cell cA (n1, .inl g)) (srcPos := sp) (destPos := dp) (n := w) (by rw [hT]; exact hc0) (by rw [hT]; exact hc1)
    (fun _ h => by cases h) (fun _ h => by cases h) (fun h => by cases h) (fun h => by cases h) hk0 hk1 hkk0 hkk1 (by show ((refKind FieldType.byte != refKind FieldType.byte) || (!refKind FieldType.byte && FieldType.byte != FieldType.byte)) = false; decide) h1 h2 h3
    (by rw [mj_nn h1, mj_nn h3]; show ¬ _ > ((arrV cA n0 (fun j => .int (f j))).slots.size : Int); rw [arrV_size]; omega)
    (by rw [mj_nn h2, mj_nn h3]; show ¬ _ > ((arrV cA n1 (fun j => .int (g j))).slots.size : Int); rw [arrV_size]; omega)
    (fun vm₁ _ i hi => by
      have e : (vp_cell cA (n0, .inl f)).slots.getD (sp.toNatClampNeg + i) .null = .int (f (sp.toNatClampNeg + i)) := by
        show (arrV cA n0 (fun j => .int (f j))).slots.getD _ _ = _
        rw [Array.getD_eq_getD_getElem?, arrV_read _ _ (by omega)]
        rfl
      exact ⟨by rw [e]; exact hfit _, by rw [e]; exact trivial⟩)
    (g := F0 m (off pc) L ((.int w :: .int dp :: .ref a :: .int sp :: .ref a0 :: r).map (mj_tr ad))) rfl (by rw [hml]; exact hl.1) (rest := r.map (mj_tr ad)) rfl (by rw [hb]; exact hd) hfr (by show 2 * 0 + _ + _ ≤ _; rw [hwt]; omega)
  have e1 : copied (vp_cell cA (n0, .inl f)) (vp_cell cA (n1, .inl g)) sp dp w = vp_cell cA (n1, .inl (va_cpy f g sp.toNatClampNeg dp.toNatClampNeg w.toNatClampNeg)) := va_copied (fun z => .int z) cA cA f g h4
  rw [e1] at X' step
  generalize va_cpy f g sp.toNatClampNeg dp.toNatClampNeg w.toNatClampNeg = g5 at *
  have hlt : ad a < H.size := (Array.getElem?_eq_some_iff.mp hc1).1
  have hheap : ((T.setVm vm').setCell (ad a) (vp_cell cA (n1, .inl g5))).heap = H.setIfInBounds (ad a) (vp_cell cA (n1, .inl g5)) := by rw [← hT]; rfl
  have oq : ∀ q : Nat, q ≠ ad a → (H.setIfInBounds (ad a) (vp_cell cA (n1, .inl g5)))[q]? = H[q]? := fun q hq => by simp [Array.getElem?_setIfInBounds, Ne.symm hq]
  have hrep : mj_rep D cl tys ad bi z (mj_set h a (.inl (4, n1, .inl g5))) (H.setIfInBounds (ad a) (vp_cell cA (n1, .inl g5))) := mj_rep_put hr ha trivial trivial (fun b => by
    show (H.setIfInBounds (ad a) (vp_cell cA (n1, .inl g5)))[ad a]? = some (vp_cell (mj_tc tys 4) (n1, .inl g5))
    simp only [mj_tc, ht, Option.map_some, Option.getD_some]
    simp [Array.getElem?_setIfInBounds, hlt]) (by simp) oq
  have hS' : va_S (mj_A z) s.heap (H.setIfInBounds (ad a) (vp_cell cA (n1, .inl g5))) (locs ++ ((vp_cell cA (n0, .inl f)).stretch sp.toNatClampNeg w.toNatClampNeg).zipIdx.map fun q => ⟨ad a, dp.toNatClampNeg + q.2⟩) := by
    refine ⟨by simp; exact hS.1, fun q g1 g2 => ?_, fun q hq => ?_⟩
    · rw [oq q (fun e => g2 (by rw [e]; exact hA))]
      exact hS.2.1 q g1 g2
    · rcases List.mem_append.mp hq with h | h
      · exact hS.2.2 q h
      · obtain ⟨y, -, hy⟩ := List.mem_map.mp h
        rw [← hy]
        exact hA
  obtain ⟨t, a1, b1⟩ := kk _ _ k n L hl hrep hS' h1' h2' _ hheap X'
  rw [ho] at a1
  exact ⟨t, step t a1, b1⟩
theorem mj_so_ccopy {bi : Nat} (hx : p.tables.exec = Jvm.exec) (hb : c.code = cc) (hml : c.maxLocals = nL) {own : String} (hown : s.vm.findClass own = some m.cls) {TS : List Cond} (hts : ∀ w ∈ TS, w.before args s = true) (hK : va_K D cl tys s) {idx : Nat} (g1 : Jvm.Cond.methodLink own idx arraycopyName ∈ TS) (g2 : Jvm.Cond.native arraycopyName ∈ TS) (g3 : Jvm.Cond.static arraycopyName ∈ TS) (g4 : Jvm.Cond.initialized "java/lang/System" ∈ TS)
    {a0 a n0 n1 : Nat} {f g : Nat → Int32} {sp dp w : Int32} {cA : ClassId} (ht : tys[4]? = some (cA, .byte)) (hX : va_T .byte (ad a0) n0 (fun j => .int (f j)) (mj_A z) s s.heap) (ha : mj_nth h.1 a = some (.inl (4, n1, .inl g))) (h1 : ¬ sp < 0) (h2 : ¬ dp < 0) (h3 : ¬ w < 0) (h4 : sp.toNatClampNeg + w.toNatClampNeg ≤ n0) (h5 : dp.toNatClampNeg + w.toNatClampNeg ≤ n1) (hfit : sb_Fit f)
    (hfr : 1 ≤ R.frames) (hlo : mj_wt r + (nativeFrameWords "java/lang/System" "arraycopy" 5 + 11) ≤ R.locals) (hd : decode cc (off pc) = .ok (.invokestatic idx, 3)) (ho : off (pc + 1) = off pc + 3)
    (kk : mj_J p l e R s m args below meth c D cl tys ad bi z nL off QQ b0 b1 (pc + 1) ls r (mj_set h a (.inl (4, n1, .inl (va_cpy f g sp.toNatClampNeg dp.toNatClampNeg w.toNatClampNeg))))) : mj_J p l e R s m args below meth c D cl tys ad bi z nL off QQ b0 b1 pc ls (.int w :: .int dp :: .ref a :: .int sp :: .ref a0 :: r) h := by
  intro H locs k n L hl hr hS h1' h2' T hT X
  obtain ⟨scr, hs1, hs2, hs3, hs4, -, hs5, hs7⟩ := hX
  have hc0 : H[ad a0]? = some scr := by rw [hS.2.1 _ (Array.getElem?_eq_some_iff.mp hs1).1 hs7]; exact hs1
  have hc1 := mj_cellA ht hr ha
  have hA : mj_A z (ad a) := mj_in_A hr ha trivial
  obtain ⟨hs6, k0, hk0, cm0, hkk0⟩ := hs2
  obtain ⟨-, k1, hk1, cm1, hkk1⟩ := (hK.2 4 _ ht).1 n1 (fun j => .int (g j))
  have hwt := mj_wt_tr ad r
  unfold mj_wt at hwt hlo
  obtain ⟨vm', X', step⟩ := X.arraycopy hx hown (hts _ g1) (hts _ g2) (hts _ g3) (hts _ g4) (src := ad a0) (dst := ad a) (cs := scr) (cd := vp_cell cA (n1, .inl g)) (srcPos := sp) (destPos := dp) (n := w) (by rw [hT]; exact hc0) (by rw [hT]; exact hc1)
    hs6 (fun _ h => by cases h) hs3 (fun h => by cases h) hk0 hk1 hkk0 hkk1 (by simp [refKind]) h1 h2 h3
    (by rw [mj_nn h1, mj_nn h3]; omega)
    (by rw [mj_nn h2, mj_nn h3]; show ¬ _ > ((arrV cA n1 (fun j => .int (g j))).slots.size : Int); rw [arrV_size]; omega)
    (fun vm₁ _ i hi => by
      have e : scr.slots.getD (sp.toNatClampNeg + i) .null = .int (f (sp.toNatClampNeg + i)) := by
        rw [Array.getD_eq_getD_getElem?, hs5 _ (by omega)]
        rfl
      exact ⟨by rw [e]; exact hfit _, by rw [e]; exact trivial⟩)
    (g := F0 m (off pc) L ((.int w :: .int dp :: .ref a :: .int sp :: .ref a0 :: r).map (mj_tr ad))) rfl (by rw [hml]; exact hl.1) (rest := r.map (mj_tr ad)) rfl (by rw [hb]; exact hd) hfr (by show 2 * 0 + _ + _ ≤ _; rw [hwt]; omega)
  have e1 : copied scr (vp_cell cA (n1, .inl g)) sp dp w = vp_cell cA (n1, .inl (va_cpy f g sp.toNatClampNeg dp.toNatClampNeg w.toNatClampNeg)) := va_copiedX (fun z => .int z) scr cA f g hs5 h4
  rw [e1] at X' step
  generalize va_cpy f g sp.toNatClampNeg dp.toNatClampNeg w.toNatClampNeg = g5 at *
  have hlt : ad a < H.size := (Array.getElem?_eq_some_iff.mp hc1).1
  have hheap : ((T.setVm vm').setCell (ad a) (vp_cell cA (n1, .inl g5))).heap = H.setIfInBounds (ad a) (vp_cell cA (n1, .inl g5)) := by rw [← hT]; rfl
  have oq : ∀ q : Nat, q ≠ ad a → (H.setIfInBounds (ad a) (vp_cell cA (n1, .inl g5)))[q]? = H[q]? := fun q hq => by simp [Array.getElem?_setIfInBounds, Ne.symm hq]
  have hrep : mj_rep D cl tys ad bi z (mj_set h a (.inl (4, n1, .inl g5))) (H.setIfInBounds (ad a) (vp_cell cA (n1, .inl g5))) := mj_rep_put hr ha trivial trivial (fun b => by
    show (H.setIfInBounds (ad a) (vp_cell cA (n1, .inl g5)))[ad a]? = some (vp_cell (mj_tc tys 4) (n1, .inl g5))
    simp only [mj_tc, ht, Option.map_some, Option.getD_some]
    simp [Array.getElem?_setIfInBounds, hlt]) (by simp) oq
  have hS' : va_S (mj_A z) s.heap (H.setIfInBounds (ad a) (vp_cell cA (n1, .inl g5))) (locs ++ (scr.stretch sp.toNatClampNeg w.toNatClampNeg).zipIdx.map fun q => ⟨ad a, dp.toNatClampNeg + q.2⟩) := by
    refine ⟨by simp; exact hS.1, fun q g1 g2 => ?_, fun q hq => ?_⟩
    · rw [oq q (fun e => g2 (by rw [e]; exact hA))]
      exact hS.2.1 q g1 g2
    · rcases List.mem_append.mp hq with h | h
      · exact hS.2.2 q h
      · obtain ⟨y, -, hy⟩ := List.mem_map.mp h
        rw [← hy]
        exact hA
  obtain ⟨t, a1, b1⟩ := kk _ _ k n L hl hrep hS' h1' h2' _ hheap X'
  rw [ho] at a1
  exact ⟨t, step t a1, b1⟩
theorem mj_so_ldcS {bi : Nat} (hx : p.tables.exec = Jvm.exec) (hb : c.code = cc) {own : String} (hown : s.vm.findClass own = some m.cls) (hSt : mj_St cst ad z ncs s) {j w : Nat} {tx : String} (hm : (own, j, tx, w) ∈ ncs.2.2.2.1) (hw : w ≠ 0) (hd : decode cc (off pc) = .ok (.ldc j, 2)) (ho : off (pc + 1) = off pc + 2) (kk : mj_J p l e R s m args below meth c D cl tys ad bi z nL off QQ b0 b1 (pc + 1) ls (.ref w :: r) h) : mj_J p l e R s m args below meth c D cl tys ad bi z nL off QQ b0 b1 pc ls r h := by
  intro H locs k n L hl hr hS h1 h2
  have K := kk H locs k n L hl hr hS h1 h2
  rw [ho] at K
  obtain ⟨a, g1, g2⟩ := hSt.2.2.2.2.2.1 _ hm
  have g2 := g2 hw
  have g1 : vk_R own j tx a s := g1
  rw [g2] at g1
  exact va_ldcS hx hb hown g1 hd K
theorem mj_so_sget {bi : Nat} (hx : p.tables.exec = Jvm.exec) (hb : c.code = cc) {own : String} (hown : s.vm.findClass own = some m.cls) {TS : List Cond} (hts : ∀ w ∈ TS, w.before args s = true) {a idx : Nat} {nm d : String} {v : Value} (hE : va_OF "java/lang/String" nm d (mj_tr ad v) (ad a) (mj_A z) s s.heap) (hlink : Jvm.Cond.fieldLink own idx "java/lang/String" nm d ∈ TS) (hd : decode cc (off pc) = .ok (.getfield idx, 3)) (ho : off (pc + 1) = off pc + 3) (kk : mj_J p l e R s m args below meth c D cl tys ad bi z nL off QQ b0 b1 (pc + 1) ls (v :: r) h) : mj_J p l e R s m args below meth c D cl tys ad bi z nL off QQ b0 b1 pc ls (.ref a :: r) h := by
  intro H locs k n L hl hr hS h1 h2
  have K := kk H locs k n L hl hr hS h1 h2
  rw [ho] at K
  exact vk_getf hx hb hE hS hown (hts _ hlink) (fun _ h9 => h9) hd K
end MJY
end
