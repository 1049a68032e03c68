def mj_lad (ad : Nat → Nat) (x y sz : Nat) : Nat → Nat := fun i => if i = 0 then x else if i = 1 then y else if i < 1000 then sz + (i - 2) else ad i
def mj_lz (x y sz : Nat) : Nat → Prop := fun q => q = x ∨ q = y ∨ sz ≤ q
def mj_lo (ml : Int32) (n N : Nat) (g : Nat → Int32) : List mj_O := [.inr (.inl (9, [.ref 1, .int 0, .int ml, .int (nI n)])), .inl (4, N, .inl g)]
theorem mj_lad0 {ad : Nat → Nat} {x y sz : Nat} : mj_lad ad x y sz 0 = x := by
  unfold mj_lad
  rw [if_pos rfl]
theorem mj_lad1 {ad : Nat → Nat} {x y sz : Nat} : mj_lad ad x y sz 1 = y := by
  unfold mj_lad
  rw [if_neg (by decide), if_pos rfl]
theorem mj_lad2 {ad : Nat → Nat} {x y sz i : Nat} (h2 : 2 ≤ i) (h : i < 1000) : mj_lad ad x y sz i = sz + (i - 2) := by
  unfold mj_lad
  rw [if_neg (by omega), if_neg (by omega), if_pos h]
theorem mj_ladc {ad : Nat → Nat} {x y sz i : Nat} (h : 1000 ≤ i) : mj_lad ad x y sz i = ad i := by
  unfold mj_lad
  rw [if_neg (by omega), if_neg (by omega), if_neg (by omega)]
theorem mj_ws_inv {tys : List (ClassId × FieldType)} {ad : Nat → Nat} {bi : Nat} {b : mj_B} {os : List mj_O} {k : Nat} {q : Nat × va_E} (h : (mj_ws tys ad bi b 0 os)[k]? = some q) : ∃ o, mj_nth os k = some o ∧ q = mj_en tys ad bi b k o := by
  have hk : k < os.length := by
    have := (List.getElem?_eq_some_iff.mp h).1
    rw [mj_ws_len] at this
    exact this
  have h1 : mj_nth os k = some os[k] := by
    rw [mj_nth_get]
    exact List.getElem?_eq_getElem hk
  have h2 := mj_at (tys := tys) (ad := ad) (bi := bi) (b := b) h1
  exact ⟨_, h1, Option.some.inj (h.symm.trans h2)⟩
section MJB
variable {D : va_G} {cl : List vw_C} {tys : List (ClassId × FieldType)} {ad : Nat → Nat} {z : Nat → Prop} {os : List mj_O} {b : mj_B} {H : Heap} {a n : Nat} {f : Nat → Nat}
theorem mj_b0 (ha : mj_nth os a = some (.inr (.inr (.inl (n, f))))) : (mj_ws tys ad 9 b 0 os)[a]? = some (ad a, .inr (9, [.ref (b.1 a), .int 0, .int (b.2.2.2 a), .int (nI n)])) := mj_at ha
theorem mj_b1 (hB : mj_bd b os) (ha : mj_nth os a = some (.inr (.inr (.inl (n, f))))) : (mj_ws tys ad 9 b 0 os)[a + 1]? = some (b.1 a, .inl (mj_tc tys 4, b.2.1 a, .inl (b.2.2.1 a))) := by
  have := mj_at (tys := tys) (ad := ad) (bi := 9) (b := b) (hB a n f ha).1
  exact this
theorem mj_rep_in {k0 k1 : Nat} (hP : va_P D cl (mj_ws tys ad 9 b 0 os) H) (hD : va_D (mj_A z) (mj_ws tys ad 9 b 0 os)) (hB : mj_bd b os) (hvs : ∀ (q : Nat) (cell : Cell), z q → H[q]? = some cell → cell.vm.isStatics = false) (ha : mj_nth os a = some (.inr (.inr (.inl (n, f))))) :
    mj_rep D cl tys (mj_lad ad (ad a) (b.1 a) H.size) 9 (mj_lz (ad a) (b.1 a) H.size) (mj_lo (b.2.2.2 a) n (b.2.1 a) (b.2.2.1 a), k0, k1, true) H := by
  have e0 := mj_b0 (tys := tys) (ad := ad) (b := b) ha
  have e1 := mj_b1 (tys := tys) (ad := ad) hB ha
  have ew : mj_ws tys (mj_lad ad (ad a) (b.1 a) H.size) 9 b 0 (mj_lo (b.2.2.2 a) n (b.2.1 a) (b.2.2.1 a)) = [(ad a, .inr (9, [.ref (b.1 a), .int 0, .int (b.2.2.2 a), .int (nI n)])), (b.1 a, .inl (mj_tc tys 4, b.2.1 a, .inl (b.2.2.1 a)))] := by
    simp only [mj_lo, mj_ws, mj_en, List.map_cons, List.map_nil, mj_tr, mj_lad0, Nat.zero_add, mj_lad1]
  have hne : ad a ≠ b.1 a := fun h => by
    have := hD.1 a (a + 1) _ _ e0 e1 h
    omega
  refine ⟨⟨b, ?_, ?_, ?_⟩, fun _ => ⟨?_, fun i h1 h2 => ?_⟩, fun q cell h1 h2 => ?_, fun q h => Or.inr (Or.inr h)⟩
  · show va_P D cl (mj_ws tys _ 9 b 0 (mj_lo _ n _ _)) H
    rw [ew]
    intro k q hk
    match k, hk with
    | 0, hk => cases hk; exact hP a _ e0
    | 1, hk => cases hk; exact hP (a + 1) _ e1
    | k + 2, hk => simp at hk
  · show va_D _ (mj_ws tys _ 9 b 0 (mj_lo _ n _ _))
    rw [ew]
    refine ⟨fun i j p q hi hj h => ?_, fun k q hk => ?_⟩
    · match i, j, hi, hj with
      | 0, 0, _, _ => rfl
      | 1, 1, _, _ => rfl
      | 0, 1, hi, hj => cases hi; cases hj; exact absurd h hne
      | 1, 0, hi, hj => cases hi; cases hj; exact absurd h.symm hne
      | i + 2, _, hi, _ => simp at hi
      | 0, j + 2, _, hj => simp at hj
      | 1, j + 2, _, hj => simp at hj
    · match k, hk with
      | 0, hk => cases hk; exact Or.inl rfl
      | 1, hk => cases hk; exact Or.inr (Or.inl rfl)
      | k + 2, hk => simp at hk
  · intro i n f hi
    match i, hi with
    | 0, hi => cases hi
    | 1, hi => cases hi
    | i + 2, hi => cases hi
  · show H.size = mj_lad ad (ad a) (b.1 a) H.size 2
    rw [mj_lad2 (by omega) (by omega)]
    rfl
  · have h1 : 2 ≤ i := h1
    rw [mj_lad2 (by omega) (by omega), mj_lad2 h1 (by omega)]
    omega
  · rcases h1 with h1 | h1 | h1
    · exact hvs q cell (by rw [h1]; exact hD.2 a _ e0) h2
    · exact hvs q cell (by rw [h1]; exact hD.2 (a + 1) _ e1) h2
    · exact absurd (Array.getElem?_eq_some_iff.mp h2).1 (Nat.not_lt.mpr h1)
theorem mj_rep_out {H1 : Heap} {os1 : List mj_O} {k0 k1 j N n1 : Nat} {fl : Bool} {g : Nat → Int32} {f1 : Nat → Nat} {ml : Int32} (hP : va_P D cl (mj_ws tys ad 9 b 0 os) H) (hD : va_D (mj_A z) (mj_ws tys ad 9 b 0 os)) (hB : mj_bd b os) (hvs : ∀ (q : Nat) (cell : Cell), z q → H[q]? = some cell → cell.vm.isStatics = false) (hz : ∀ q : Nat, H.size ≤ q → z q) (ha : mj_nth os a = some (.inr (.inr (.inl (n, f)))))
    (hS : H.size ≤ H1.size) (hF : ∀ q : Nat, q < H.size → ¬ mj_lz (ad a) (b.1 a) H.size q → H1[q]? = H[q]?) (hr : mj_rep D cl tys (mj_lad ad (ad a) (b.1 a) H.size) 9 (mj_lz (ad a) (b.1 a) H.size) (os1, k0, k1, fl) H1)
    (h0 : mj_nth os1 0 = some (.inr (.inl (9, [.ref j, .int 0, .int ml, .int (nI n1)])))) (hj : mj_nth os1 j = some (.inl (4, N, .inl g))) (hj0 : 0 < j) (hn : n1 ≤ N) (hN : N ≤ 65536) (hl : sb_Lat f1 n1 g) (hf : sb_Fit g) :
    mj_rep D cl tys ad 9 z (mj_stn os a (.inr (.inr (.inl (n1, f1)))), k0, k1, false) H1 := by
  obtain ⟨⟨c, hP1, hD1, -⟩, -, hvs1, -⟩ := hr
  have e0 := mj_b0 (tys := tys) (ad := ad) (b := b) ha
  have e1 := mj_b1 (tys := tys) (ad := ad) hB ha
  have l0 : (mj_ws tys (mj_lad ad (ad a) (b.1 a) H.size) 9 c 0 os1)[0]? = some (ad a, .inr (9, [.ref (mj_lad ad (ad a) (b.1 a) H.size j), .int 0, .int ml, .int (nI n1)])) := by
    have := mj_at (tys := tys) (ad := mj_lad ad (ad a) (b.1 a) H.size) (bi := 9) (b := c) h0
    simp only [mj_en, List.map_cons, List.map_nil, mj_tr, mj_lad0] at this
    exact this
  have lj : (mj_ws tys (mj_lad ad (ad a) (b.1 a) H.size) 9 c 0 os1)[j]? = some (mj_lad ad (ad a) (b.1 a) H.size j, .inl (mj_tc tys 4, N, .inl g)) := mj_at hj
  generalize hJ : mj_lad ad (ad a) (b.1 a) H.size j = y at l0 lj
  have hyne : ad a ≠ y := fun h => by
    have := hD1.1 0 j _ _ l0 lj h
    omega
  have hyz : mj_lz (ad a) (b.1 a) H.size y := hD1.2 j _ lj
  have hy2 : y = b.1 a ∨ H.size ≤ y := by
    rcases hyz with h | h | h
    · exact absurd h.symm hyne
    · exact Or.inl h
    · exact Or.inr h
  have ht := (hB a n f ha).1
  have hal : a < os.length := by
    rw [mj_nth_get] at ha
    exact (List.getElem?_eq_some_iff.mp ha).1
  have na : mj_nth (mj_stn os a (.inr (.inr (.inl (n1, f1))))) a = some (.inr (.inr (.inl (n1, f1)))) := by
    rw [mj_nth_get, mj_stn_set, List.getElem?_set_self hal]
  have no : ∀ k, k ≠ a → mj_nth (mj_stn os a (.inr (.inr (.inl (n1, f1))))) k = mj_nth os k := fun k hk => by
    rw [mj_nth_get, mj_stn_set, List.getElem?_set_ne (fun q => hk q.symm), mj_nth_get]
  obtain ⟨b1, hb1⟩ : ∃ b1 : mj_B, b1 = ((fun i => if i = a then y else b.1 i), (fun i => if i = a then N else b.2.1 i), (fun i => if i = a then g else b.2.2.1 i), (fun i => if i = a then ml else b.2.2.2 i)) := ⟨_, rfl⟩
  have s1 : b1.1 a = y := by rw [hb1]; exact if_pos rfl
  have s2 : b1.2.1 a = N := by rw [hb1]; exact if_pos rfl
  have s3 : b1.2.2.1 a = g := by rw [hb1]; exact if_pos rfl
  have s4 : b1.2.2.2 a = ml := by rw [hb1]; exact if_pos rfl
  have t1 : ∀ i, i ≠ a → b1.1 i = b.1 i := fun i h => by rw [hb1]; exact if_neg h
  have t2 : ∀ i, i ≠ a → b1.2.1 i = b.2.1 i := fun i h => by rw [hb1]; exact if_neg h
  have t3 : ∀ i, i ≠ a → b1.2.2.1 i = b.2.2.1 i := fun i h => by rw [hb1]; exact if_neg h
  have t4 : ∀ i, i ≠ a → b1.2.2.2 i = b.2.2.2 i := fun i h => by rw [hb1]; exact if_neg h
  have hc : ∀ k q, (mj_ws tys ad 9 b1 0 (mj_stn os a (.inr (.inr (.inl (n1, f1))))))[k]? = some q → (k = a ∧ q = (ad a, .inr (9, [.ref y, .int 0, .int ml, .int (nI n1)]))) ∨ (k = a + 1 ∧ q = (y, .inl (mj_tc tys 4, N, .inl g))) ∨ (k ≠ a ∧ k ≠ a + 1 ∧ (mj_ws tys ad 9 b 0 os)[k]? = some q) := by
    intro k q hk
    obtain ⟨o, h1, h2⟩ := mj_ws_inv hk
    by_cases hka : k = a
    · subst hka
      rw [na] at h1
      cases h1
      exact Or.inl ⟨rfl, by rw [h2]; simp only [mj_en, s1, s4]⟩
    · rw [no k hka] at h1
      by_cases hk1 : k = a + 1
      · subst hk1
        rw [ht] at h1
        cases h1
        refine Or.inr (Or.inl ⟨rfl, ?_⟩)
        rw [h2]
        simp only [mj_en, Nat.add_sub_cancel, s1, s2, s3]
      · refine Or.inr (Or.inr ⟨hka, hk1, ?_⟩)
        have h3 := mj_at (tys := tys) (ad := ad) (bi := 9) (b := b) h1
        rw [h3, h2]
        congr 1
        rcases o with o | o | o | o
        · rfl
        · rfl
        · simp only [mj_en, t1 k hka, t4 k hka]
        · have hk2 : k - 1 ≠ a := by omega
          simp only [mj_en, t1 _ hk2, t2 _ hk2, t3 _ hk2]
  have hold : ∀ k q, k ≠ a → k ≠ a + 1 → (mj_ws tys ad 9 b 0 os)[k]? = some q → q.1 < H.size ∧ q.1 ≠ ad a ∧ q.1 ≠ b.1 a := fun k q h1 h2 hk =>
    ⟨(hP k q hk).lt, fun h => h1 (hD.1 k a _ _ hk e0 h), fun h => h2 (hD.1 k (a + 1) _ _ hk e1 h)⟩
  refine ⟨⟨b1, ?_, ⟨?_, ?_⟩, ?_⟩, (fun h => by cases h), fun q cell g1 g2 => ?_, fun q h => hz q (Nat.le_trans hS h)⟩
  · intro k q hk
    rcases hc k q hk with ⟨-, e⟩ | ⟨-, e⟩ | ⟨g1, g2, e⟩
    · rw [e]; exact hP1 0 _ l0
    · rw [e]; exact hP1 j _ lj
    · obtain ⟨o1, o2, o3⟩ := hold k q g1 g2 e
      refine (hP k q e).kept (hF q.1 o1 ?_)
      rintro (h | h | h)
      · exact o2 h
      · exact o3 h
      · omega
  · intro i k p q hi hk h
    rcases hc i p hi with ⟨i1, ei⟩ | ⟨i1, ei⟩ | ⟨g1, g2, ei⟩ <;> rcases hc k q hk with ⟨k1, ek⟩ | ⟨k1, ek⟩ | ⟨g3, g4, ek⟩
    · rw [i1, k1]
    · rw [ei, ek] at h; exact absurd h hyne
    · rw [ei] at h; exact absurd h.symm (hold k q g3 g4 ek).2.1
    · rw [ei, ek] at h; exact absurd h.symm hyne
    · rw [i1, k1]
    · rw [ei] at h
      obtain ⟨o1, o2, o3⟩ := hold k q g3 g4 ek
      rcases hy2 with g | g
      · exact absurd (h.symm.trans g) o3
      · have h9 : y = q.1 := h
        omega
    · rw [ek] at h; exact absurd h (hold i p g1 g2 ei).2.1
    · rw [ek] at h
      obtain ⟨o1, o2, o3⟩ := hold i p g1 g2 ei
      rcases hy2 with g | g
      · exact absurd (h.trans g) o3
      · have h9 : p.1 = y := h
        omega
    · exact hD.1 i k p q ei ek h
  · intro k q hk
    rcases hc k q hk with ⟨-, e⟩ | ⟨-, e⟩ | ⟨g1, g2, e⟩
    · rw [e]
      have h9 := hD.2 a _ e0
      exact h9
    · rw [e]
      rcases hy2 with g | g
      · show z y
        rw [g]
        exact hD.2 (a + 1) _ e1
      · exact hz y g
    · exact hD.2 k q e
  · intro i m h hi
    by_cases hia : i = a
    · subst hia
      rw [na] at hi
      cases hi
      refine ⟨by rw [no _ (by omega)]; exact ht, ?_⟩
      rw [s2, s3]
      exact ⟨hn, hN, hl, hf⟩
    · rw [no i hia] at hi
      obtain ⟨h1, h2⟩ := hB i m h hi
      have hi1 : i + 1 ≠ a := fun q => by
        rw [q, ha] at h1
        cases h1
      refine ⟨by rw [no _ hi1]; exact h1, ?_⟩
      rw [t2 i hia, t3 i hia]
      exact h2
  · by_cases hq : mj_lz (ad a) (b.1 a) H.size q
    · exact hvs1 q cell hq g2
    · have hlt : q < H.size := Nat.lt_of_not_le (fun g => hq (Or.inr (Or.inr g)))
      rw [hF q hlt hq] at g2
      exact hvs q cell g1 g2
theorem mj_rep_cv {k0 k1 N : Nat} {fl : Bool} {g : Nat → Int32} {ml : Int32} (hr : mj_rep D cl tys ad 9 z (os, k0, k1, fl) H) (h0 : mj_nth os a = some (.inr (.inl (9, [.ref (a + 1), .int 0, .int ml, .int (nI 0)])))) (h1 : mj_nth os (a + 1) = some (.inl (4, N, .inl g))) (hN : N ≤ 65536) (hf : sb_Fit g) :
    mj_rep D cl tys ad 9 z (mj_stn (mj_stn os a (.inr (.inr (.inl (0, fun _ => 0))))) (a + 1) (.inr (.inr (.inr ()))), k0, k1, fl) H := by
  obtain ⟨⟨b, hP, hD, hB⟩, hs, hvs⟩ := hr
  have hal : a + 1 < os.length := by
    rw [mj_nth_get] at h1
    exact (List.getElem?_eq_some_iff.mp h1).1
  obtain ⟨os2, hos2⟩ : ∃ os2 : List mj_O, os2 = mj_stn (mj_stn os a (.inr (.inr (.inl (0, fun _ => 0))))) (a + 1) (.inr (.inr (.inr ()))) := ⟨_, rfl⟩
  have len2 : os2.length = os.length := by rw [hos2, mj_stn_set, mj_stn_set, List.length_set, List.length_set]
  have na : mj_nth os2 a = some (.inr (.inr (.inl (0, fun _ => 0)))) := by
    rw [hos2, mj_nth_get, mj_stn_set, mj_stn_set, List.getElem?_set_ne (by omega), List.getElem?_set_self (by omega)]
  have nb : mj_nth os2 (a + 1) = some (.inr (.inr (.inr ()))) := by
    rw [hos2, mj_nth_get, mj_stn_set, mj_stn_set, List.getElem?_set_self (by rw [List.length_set]; exact hal)]
  have no : ∀ k, k ≠ a → k ≠ a + 1 → mj_nth os2 k = mj_nth os k := fun k hk hk1 => by
    rw [hos2, mj_nth_get, mj_stn_set, mj_stn_set, List.getElem?_set_ne (fun q => hk1 q.symm), List.getElem?_set_ne (fun q => hk q.symm), mj_nth_get]
  obtain ⟨b1, hb1⟩ : ∃ b1 : mj_B, b1 = ((fun i => if i = a then ad (a + 1) else b.1 i), (fun i => if i = a then N else b.2.1 i), (fun i => if i = a then g else b.2.2.1 i), (fun i => if i = a then ml else b.2.2.2 i)) := ⟨_, rfl⟩
  have s1 : b1.1 a = ad (a + 1) := by rw [hb1]; exact if_pos rfl
  have s2 : b1.2.1 a = N := by rw [hb1]; exact if_pos rfl
  have s3 : b1.2.2.1 a = g := by rw [hb1]; exact if_pos rfl
  have s4 : b1.2.2.2 a = ml := by rw [hb1]; exact if_pos rfl
  have t1 : ∀ i, i ≠ a → b1.1 i = b.1 i := fun i h => by rw [hb1]; exact if_neg h
  have t2 : ∀ i, i ≠ a → b1.2.1 i = b.2.1 i := fun i h => by rw [hb1]; exact if_neg h
  have t3 : ∀ i, i ≠ a → b1.2.2.1 i = b.2.2.1 i := fun i h => by rw [hb1]; exact if_neg h
  have t4 : ∀ i, i ≠ a → b1.2.2.2 i = b.2.2.2 i := fun i h => by rw [hb1]; exact if_neg h
  have ew : mj_ws tys ad 9 b1 0 os2 = mj_ws tys ad 9 b 0 os := by
    apply List.ext_getElem?
    intro k
    by_cases hka : k = a
    · subst hka
      rw [mj_at na, mj_at h0]
      simp only [mj_en, s1, s4, List.map_cons, List.map_nil, mj_tr]
    · by_cases hk1 : k = a + 1
      · subst hk1
        rw [mj_at nb, mj_at h1]
        simp only [mj_en, Nat.add_sub_cancel, s1, s2, s3]
      · cases ho : mj_nth os k with
        | none =>
          have hk : os.length ≤ k := by
            rw [mj_nth_get] at ho
            exact List.getElem?_eq_none_iff.mp ho
          rw [List.getElem?_eq_none (by rw [mj_ws_len, len2]; exact hk), List.getElem?_eq_none (by rw [mj_ws_len]; exact hk)]
        | some o =>
          rw [mj_at ((no k hka hk1).trans ho), mj_at ho]
          congr 1
          rcases o with o | o | o | o
          · rfl
          · rfl
          · simp only [mj_en, t1 k hka, t4 k hka]
          · have hk2 : k - 1 ≠ a := by omega
            simp only [mj_en, t1 _ hk2, t2 _ hk2, t3 _ hk2]
  rw [← hos2]
  refine ⟨⟨b1, ?_, ?_, ?_⟩, fun h => ?_, hvs⟩
  · show va_P D cl (mj_ws tys ad 9 b1 0 os2) H
    rw [ew]
    exact hP
  · show va_D (mj_A z) (mj_ws tys ad 9 b1 0 os2)
    rw [ew]
    exact hD
  · intro i m h hi
    have hi : mj_nth os2 i = some (.inr (.inr (.inl (m, h)))) := hi
    show mj_nth os2 (i + 1) = _ ∧ _
    by_cases hia : i = a
    · subst hia
      rw [na] at hi
      cases hi
      refine ⟨nb, ?_⟩
      rw [s2, s3]
      exact ⟨Nat.zero_le _, hN, fun j hj => absurd hj (by omega), hf⟩
    · have hi1 : i ≠ a + 1 := fun q => by
        rw [q, nb] at hi
        cases hi
      rw [no i hia hi1] at hi
      obtain ⟨g1, g2⟩ := hB i m h hi
      have hia1 : i + 1 ≠ a := fun q => by
        rw [q, h0] at g1
        cases g1
      refine ⟨by rw [no _ hia1 (by omega)]; exact g1, ?_⟩
      rw [t2 i hia, t3 i hia]
      exact g2
  · have h9 := hs h
    show mj_nu ad os2.length H
    rw [len2]
    exact h9
end MJB
