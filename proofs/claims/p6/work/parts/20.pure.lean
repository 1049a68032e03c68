theorem mj_nth_get {α : Type} (l : List α) (i : Nat) : mj_nth l i = l[i]? := by
  induction l generalizing i with
  | nil => cases i <;> rfl
  | cons a l ih => cases i with
    | zero => rfl
    | succ n => simpa [mj_nth] using ih n
theorem mj_stn_set {α : Type} (l : List α) (i : Nat) (b : α) : mj_stn l i b = l.set i b := by
  induction l generalizing i with
  | nil => cases i <;> rfl
  | cons a l ih => cases i with
    | zero => rfl
    | succ n => simpa [mj_stn] using ih n
def mj_tr (ad : Nat → Nat) : Value → Value
  | .ref i => .ref (ad i)
  | .retAddr _ => if ad 1999 = 0 then .null else .ref (ad 1999 - 1)
  | v => v
theorem mj_tr_cat (ad : Nat → Nat) (v : Value) : (mj_tr ad v).category = v.category := by
  cases v with
  | retAddr x =>
    show (if ad 1999 = 0 then Value.null else .ref (ad 1999 - 1)).category = 1
    split <;> rfl
  | _ => rfl
theorem mj_wt_tr (ad : Nat → Nat) (st : List Value) : mj_wt (st.map (mj_tr ad)) = mj_wt st := by
  unfold mj_wt
  induction st with
  | nil => rfl
  | cons v st ih => simp only [List.map_cons, List.sum_cons, mj_tr_cat]; rw [ih]
def mj_lv (ad : Nat → Nat) : Nat → mj_L → List (Nat × Value)
  | _, [] => []
  | i, none :: r => mj_lv ad (i + 1) r
  | i, some v :: r => (i, mj_tr ad v) :: mj_lv ad (i + 1) r
theorem mj_lv_mem {ad : Nat → Nat} {i : Nat} {ls : mj_L} {q : Nat × Value} : q ∈ mj_lv ad i ls ↔ ∃ (j : Nat) (v : Value), ls[j]? = some (some v) ∧ q = (i + j, mj_tr ad v) := by
  induction ls generalizing i with
  | nil => simp [mj_lv]
  | cons a r ih =>
    cases a with
    | none =>
      simp only [mj_lv, ih]
      constructor
      · rintro ⟨j, v, h, rfl⟩
        exact ⟨j + 1, v, by simpa using h, by rw [Nat.add_assoc, Nat.add_comm 1 j]⟩
      · rintro ⟨j, v, h, rfl⟩
        cases j with
        | zero => simp at h
        | succ j => exact ⟨j, v, by simpa using h, by rw [Nat.add_assoc, Nat.add_comm 1 j]⟩
    | some w =>
      simp only [mj_lv, List.mem_cons, ih]
      constructor
      · rintro (rfl | ⟨j, v, h, rfl⟩)
        · exact ⟨0, w, by simp, by simp⟩
        · exact ⟨j + 1, v, by simpa using h, by rw [Nat.add_assoc, Nat.add_comm 1 j]⟩
      · rintro ⟨j, v, h, rfl⟩
        cases j with
        | zero => left; simp at h; subst h; simp
        | succ j => right; exact ⟨j, v, by simpa using h, by rw [Nat.add_assoc, Nat.add_comm 1 j]⟩
theorem mj_kill_at {ls : mj_L} {n j : Nat} {u : Value} (h : (mj_kill ls n)[j]? = some (some u)) : ls[j]? = some (some u) ∧ ¬ (j + 1 = n ∧ u.category = 2) := by
  cases n with
  | zero => exact ⟨h, by omega⟩
  | succ k =>
    simp only [mj_kill] at h
    rw [mj_nth_get] at h
    split at h
    · next x hx =>
      rw [mj_stn_set] at h
      by_cases hj : j = k
      · subst hj
        rw [List.getElem?_set_self (List.getElem?_eq_some_iff.mp hx).1] at h
        cases h
      · rw [List.getElem?_set_ne (fun e => hj e.symm)] at h
        exact ⟨h, by omega⟩
    · next x hx =>
      rw [mj_stn_set] at h
      by_cases hj : j = k
      · subst hj
        rw [List.getElem?_set_self (List.getElem?_eq_some_iff.mp hx).1] at h
        cases h
      · rw [List.getElem?_set_ne (fun e => hj e.symm)] at h
        exact ⟨h, by omega⟩
    · next h1 h2 =>
      refine ⟨h, ?_⟩
      rintro ⟨e, hc⟩
      have e : j = k := by omega
      subst e
      cases u with
      | long x => exact h1 x h
      | double x => exact h2 x h
      | _ => simp [Value.category] at hc
theorem mj_lv_st1 {ad : Nat → Nat} {L' : Array Slot} {nL n : Nat} {ls : mj_L} {v : Value} (h : lv_has L' nL ((n, mj_tr ad v) :: (mj_lv ad 0 ls).filter (fun q => !(q.1 == n) && !(q.1 + 1 == n && q.2.category == 2)))) : lv_has L' nL (mj_lv ad 0 (mj_st1 ls n v)) := by
  refine ⟨h.1, h.2.1, fun q hq => h.2.2 q ?_⟩
  obtain ⟨j, u, hu, rfl⟩ := mj_lv_mem.mp hq
  unfold mj_st1 at hu
  rw [mj_stn_set] at hu
  by_cases hj : j = n
  · subst hj
    have hl : j < (mj_kill ls j).length := by
      have := (List.getElem?_eq_some_iff.mp hu).1
      simpa using this
    rw [List.getElem?_set_self hl] at hu
    cases hu
    simp
  · rw [List.getElem?_set_ne (fun e => hj e.symm)] at hu
    obtain ⟨h1, h2⟩ := mj_kill_at hu
    refine List.mem_cons_of_mem _ (List.mem_filter.mpr ⟨mj_lv_mem.mpr ⟨j, u, h1, rfl⟩, ?_⟩)
    simp only [mj_tr_cat, Nat.zero_add]
    have : (j == n) = false := by simpa using hj
    rw [this]
    by_cases e : j + 1 = n
    · have : ¬ u.category = 2 := fun e2 => h2 ⟨e, e2⟩
      simp [this]
    · simp [e]
theorem mj_lv_st2 {ad : Nat → Nat} {L' : Array Slot} {nL n : Nat} {ls : mj_L} {v : Value} (h : lv_has L' nL ((n, mj_tr ad v) :: (mj_lv ad 0 ls).filter (fun q => !(q.1 == n) && (!(q.1 == n + 1) && !(q.1 + 1 == n && q.2.category == 2))))) : lv_has L' nL (mj_lv ad 0 (mj_st2 ls n v)) := by
  refine ⟨h.1, h.2.1, fun q hq => h.2.2 q ?_⟩
  obtain ⟨j, u, hu, rfl⟩ := mj_lv_mem.mp hq
  unfold mj_st2 at hu
  rw [mj_stn_set, mj_stn_set] at hu
  by_cases hj1 : j = n + 1
  · subst hj1
    have hl := (List.getElem?_eq_some_iff.mp hu).1
    rw [List.getElem?_set_self (by simpa using hl)] at hu
    cases hu
  rw [List.getElem?_set_ne (fun e => hj1 e.symm)] at hu
  by_cases hj : j = n
  · subst hj
    have hl : j < (mj_kill ls j).length := by
      have := (List.getElem?_eq_some_iff.mp hu).1
      simpa using this
    rw [List.getElem?_set_self hl] at hu
    cases hu
    simp
  · rw [List.getElem?_set_ne (fun e => hj e.symm)] at hu
    obtain ⟨h1, h2⟩ := mj_kill_at hu
    refine List.mem_cons_of_mem _ (List.mem_filter.mpr ⟨mj_lv_mem.mpr ⟨j, u, h1, rfl⟩, ?_⟩)
    simp only [mj_tr_cat, Nat.zero_add]
    have : (j == n) = false := by simpa using hj
    rw [this]
    have : (j == n + 1) = false := by simpa using hj1
    rw [this]
    by_cases e : j + 1 = n
    · have : ¬ u.category = 2 := fun e2 => h2 ⟨e, e2⟩
      simp [this]
    · simp [e]
theorem mj_lv_stx {ad : Nat → Nat} {L' : Array Slot} {nL n : Nat} {ls : mj_L} {w : Value} (h : lv_has L' nL ((n, w) :: (mj_lv ad 0 ls).filter (fun q => !(q.1 == n) && !(q.1 + 1 == n && q.2.category == 2)))) : lv_has L' nL (mj_lv ad 0 (mj_stn (mj_kill ls n) n none)) := by
  refine ⟨h.1, h.2.1, fun q hq => h.2.2 q ?_⟩
  obtain ⟨j, u, hu, rfl⟩ := mj_lv_mem.mp hq
  rw [mj_stn_set] at hu
  by_cases hj : j = n
  · subst hj
    have hl := (List.getElem?_eq_some_iff.mp hu).1
    rw [List.getElem?_set_self (by simpa using hl)] at hu
    cases hu
  · rw [List.getElem?_set_ne (fun e => hj e.symm)] at hu
    obtain ⟨h1, h2⟩ := mj_kill_at hu
    refine List.mem_cons_of_mem _ (List.mem_filter.mpr ⟨mj_lv_mem.mpr ⟨j, u, h1, rfl⟩, ?_⟩)
    simp only [mj_tr_cat, Nat.zero_add]
    have : (j == n) = false := by simpa using hj
    rw [this]
    by_cases e : j + 1 = n
    · have : ¬ u.category = 2 := fun e2 => h2 ⟨e, e2⟩
      simp [this]
    · simp [e]
theorem mj_lv_rep (ad : Nat → Nat) (i n : Nat) : mj_lv ad i (List.replicate n none) = [] := by
  induction n generalizing i with
  | zero => rfl
  | succ n ih => simpa [List.replicate_succ, mj_lv] using ih (i + 1)
theorem mj_lv_lay (ad : Nat → Nat) (as : List Value) (i n : Nat) : mj_lv ad i (mj_lay as n) = lv_args i (as.map (mj_tr ad)) := by
  induction as generalizing i n with
  | nil => simpa [mj_lay, lv_args] using mj_lv_rep ad i n
  | cons v r ih =>
    cases v <;> first
      | (simp [mj_lay, mj_lv, lv_args, mj_tr, Value.category, ih]; done)
      | (by_cases hz : ad 1999 = 0 <;> simp [mj_lay, mj_lv, lv_args, mj_tr, Value.category, ih, hz])
theorem mj_pop_eq {n : Nat} {st acc as r : List Value} (h : mj_pop n st acc = some (as, r)) : ∃ f : List Value, st = f ++ r ∧ as = f.reverse ++ acc ∧ f.length = n := by
  induction n generalizing st acc with
  | zero => simp only [mj_pop, Option.some.injEq, Prod.mk.injEq] at h; exact ⟨[], by simp [h.2], by simp [h.1], rfl⟩
  | succ n ih =>
    cases st with
    | nil => simp [mj_pop] at h
    | cons v st =>
      obtain ⟨f, h1, h2, h3⟩ := ih (show mj_pop n st (v :: acc) = some (as, r) from h)
      exact ⟨v :: f, by rw [h1]; rfl, by rw [h2]; simp, by simp [h3]⟩
