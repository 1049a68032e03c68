def mj_A (z : Nat → Prop) : Nat → Prop := z
abbrev mj_B : Type := (Nat → Nat) × (Nat → Nat) × (Nat → Nat → Int32) × (Nat → Int32)
def mj_tc (tys : List (ClassId × FieldType)) (t : Nat) : ClassId := ((tys[t]?).map (·.1)).getD 0
def mj_en (tys : List (ClassId × FieldType)) (ad : Nat → Nat) (bi : Nat) (b : mj_B) (i : Nat) : mj_O → Nat × va_E
  | .inl (t, a) => (ad i, .inl (mj_tc tys t, a))
  | .inr (.inl (ci, fs)) => (ad i, .inr (ci, fs.map (mj_tr ad)))
  | .inr (.inr (.inl (n, _))) => (ad i, .inr (bi, [.ref (b.1 i), .int 0, .int (b.2.2.2 i), .int (nI n)]))
  | .inr (.inr (.inr _)) => (b.1 (i - 1), .inl (mj_tc tys 4, b.2.1 (i - 1), .inl (b.2.2.1 (i - 1))))
def mj_ws (tys : List (ClassId × FieldType)) (ad : Nat → Nat) (bi : Nat) (b : mj_B) : Nat → List mj_O → va_W
  | _, [] => []
  | i, o :: r => mj_en tys ad bi b i o :: mj_ws tys ad bi b (i + 1) r
theorem mj_ws_at {tys : List (ClassId × FieldType)} {ad : Nat → Nat} {bi : Nat} {b : mj_B} {k i : Nat} {os : List mj_O} {o : mj_O} (h : mj_nth os i = some o) : (mj_ws tys ad bi b k os)[i]? = some (mj_en tys ad bi b (k + i) o) := by
  induction os generalizing k i with
  | nil => simp [mj_nth] at h
  | cons a r ih =>
    cases i with
    | zero => simp only [mj_nth, Option.some.injEq] at h; subst h; simp [mj_ws]
    | succ j =>
      have h1 : mj_nth r j = some o := h
      simp only [mj_ws, List.getElem?_cons_succ]
      rw [ih (k := k + 1) h1, show k + 1 + j = k + (j + 1) by omega]
theorem mj_ws_len {tys : List (ClassId × FieldType)} {ad : Nat → Nat} {bi : Nat} {b : mj_B} {k : Nat} {os : List mj_O} : (mj_ws tys ad bi b k os).length = os.length := by
  induction os generalizing k with
  | nil => rfl
  | cons a r ih => simp [mj_ws, ih]
theorem mj_ws_set {tys : List (ClassId × FieldType)} {ad : Nat → Nat} {bi : Nat} {b : mj_B} {k i : Nat} {os : List mj_O} {o : mj_O} : (mj_ws tys ad bi b k os).set i (mj_en tys ad bi b (k + i) o) = mj_ws tys ad bi b k (mj_stn os i o) := by
  induction os generalizing k i with
  | nil => cases i <;> rfl
  | cons a r ih =>
    cases i with
    | zero => simp [mj_ws, mj_stn]
    | succ j =>
      simp only [mj_ws, mj_stn, List.set_cons_succ]
      rw [← ih (k := k + 1), show k + 1 + j = k + (j + 1) by omega]
theorem mj_ws_app {tys : List (ClassId × FieldType)} {ad : Nat → Nat} {bi : Nat} {b : mj_B} {k : Nat} {os : List mj_O} {o : mj_O} : mj_ws tys ad bi b k (os ++ [o]) = mj_ws tys ad bi b k os ++ [mj_en tys ad bi b (k + os.length) o] := by
  induction os generalizing k with
  | nil => simp [mj_ws]
  | cons a r ih =>
    simp only [List.cons_append, mj_ws, ih, List.length_cons]
    rw [show k + 1 + r.length = k + (r.length + 1) by omega]
def mj_bd (b : mj_B) (os : List mj_O) : Prop := ∀ (i n : Nat) (f : Nat → Nat), mj_nth os i = some (.inr (.inr (.inl (n, f)))) →
  mj_nth os (i + 1) = some (.inr (.inr (.inr ()))) ∧ n ≤ b.2.1 i ∧ b.2.1 i ≤ 65536 ∧ sb_Lat f n (b.2.2.1 i) ∧ sb_Fit (b.2.2.1 i)
def mj_nu (ad : Nat → Nat) (k : Nat) (H : Heap) : Prop := H.size = ad k ∧ ∀ i, k ≤ i → i < 999 → ad (i + 1) = ad i + 1
def mj_rep (D : va_G) (cl : List vw_C) (tys : List (ClassId × FieldType)) (ad : Nat → Nat) (bi : Nat) (z : Nat → Prop) (h : mj_H) (H : Heap) : Prop :=
  (∃ b : mj_B, va_P D cl (mj_ws tys ad bi b 0 h.1) H ∧ va_D (mj_A z) (mj_ws tys ad bi b 0 h.1) ∧ mj_bd b h.1) ∧ (h.2.2.2 = true → mj_nu ad h.1.length H) ∧ (∀ (q : Nat) (cell : Cell), z q → H[q]? = some cell → cell.vm.isStatics = false) ∧ ∀ q : Nat, H.size ≤ q → z q
theorem mj_at_vm {D : va_G} {cl : List vw_C} {q : Nat × va_E} {H : Heap} {cell : Cell} (h : va_at D cl q H) (hc : H[q.1]? = some cell) : cell.vm.isStatics = false := by
  obtain ⟨a, e⟩ := q
  rcases e with ⟨cA, n, x⟩ | ⟨ci, fs⟩
  · have h1 : H[a]? = some (vp_cell cA (n, x)) := h
    have h2 : cell = vp_cell cA (n, x) := Option.some.inj (hc.symm.trans h1)
    subst h2
    rcases x with x | x | x | x | x <;> rfl
  · obtain ⟨r, -, cell', q1, q2, q3, -⟩ := h
    have h2 : cell = cell' := Option.some.inj (hc.symm.trans q1)
    subst h2
    rw [q3]
    rfl
