def law_xw : List Cond := [.selects "java/lang/StringBuilder" ⟨"java/lang/AbstractStringBuilder", "ensureCapacityInternal", "(I)V"⟩ ⟨"java/lang/AbstractStringBuilder", "ensureCapacityInternal", "(I)V"⟩, .selects "java/lang/StringBuilder" ⟨"java/lang/AbstractStringBuilder", "newCapacity", "(I)I"⟩ ⟨"java/lang/AbstractStringBuilder", "newCapacity", "(I)I"⟩, .selects "java/lang/StringBuilder" ⟨"java/lang/AbstractStringBuilder", "putStringAt", "(ILjava/lang/String;)V"⟩ ⟨"java/lang/AbstractStringBuilder", "putStringAt", "(ILjava/lang/String;)V"⟩, .selects "java/lang/StringBuilder" ⟨"java/lang/AbstractStringBuilder", "inflateIfNeededFor", "(Ljava/lang/String;)V"⟩ ⟨"java/lang/AbstractStringBuilder", "inflateIfNeededFor", "(Ljava/lang/String;)V"⟩]
def gTS : List Cond := (law_xw ++ lw_tbl).filter mj_gw
theorem tin_xw : ∀ w ∈ law_xw, w ∈ law_xw ++ lw_tbl := fun w hw => List.mem_append_left _ hw
theorem lw_in {w : Cond} (h : w ∈ lw_tbl) : w ∈ law_xw ++ lw_tbl := List.mem_append_right _ h
theorem tin_tables_1_1 : ∀ w ∈ tables_1_1, w ∈ lw_tbl := fun w hw => List.mem_append_right _ (by unfold tables_1; simp only [List.mem_append]; simp [hw])
theorem tin_tables_1_2 : ∀ w ∈ tables_1_2, w ∈ lw_tbl := fun w hw => List.mem_append_right _ (by unfold tables_1; simp only [List.mem_append]; simp [hw])
theorem tin_tables_1_3 : ∀ w ∈ tables_1_3, w ∈ lw_tbl := fun w hw => List.mem_append_right _ (by unfold tables_1; simp only [List.mem_append]; simp [hw])
theorem tin_tables_1_4 : ∀ w ∈ tables_1_4, w ∈ lw_tbl := fun w hw => List.mem_append_right _ (by unfold tables_1; simp only [List.mem_append]; simp [hw])
theorem tin_tables_1_5 : ∀ w ∈ tables_1_5, w ∈ lw_tbl := fun w hw => List.mem_append_right _ (by unfold tables_1; simp only [List.mem_append]; simp [hw])
theorem tin_tables_1_6 : ∀ w ∈ tables_1_6, w ∈ lw_tbl := fun w hw => List.mem_append_right _ (by unfold tables_1; simp only [List.mem_append]; simp [hw])
theorem tin_tables_1_7 : ∀ w ∈ tables_1_7, w ∈ lw_tbl := fun w hw => List.mem_append_right _ (by unfold tables_1; simp only [List.mem_append]; simp [hw])
theorem tin_tables_1_8 : ∀ w ∈ tables_1_8, w ∈ lw_tbl := fun w hw => List.mem_append_right _ (by unfold tables_1; simp only [List.mem_append]; simp [hw])
theorem tin_sel : ∀ w ∈ k2_sels lw_privs, w ∈ lw_tbl := fun w hw => List.mem_append_left _ hw
