section MJW
variable {p : Program} {l : Launch} {e : Env} {R : Room} {s : State} {m : MethodId} {args : Array Value} {below : List Frame} {meth : Method} {c : Code} {T : State} {locs : List Loc} {k n : Nat}
theorem mj_rebase (X : Stand p l e R s m args below meth c T locs k n) {R' : Room} (hf : R'.frames ≤ R.frames) (hl : R'.locals ≤ R.locals) (hc : k + R'.cells ≤ R.cells) (hs : n + R'.slots ≤ R.slots) : Stand p l e R' (T.setFrames (.invoking m args :: below)) m args below meth c T [] 0 0 := by
  obtain ⟨g₀, hfr⟩ := X.frames_eq
  have hcur : T.cur < T.threads.size := State.cur_lt_of_frames hfr
  have hF : (T.setFrames (.invoking m args :: below)).frames = .invoking m args :: below := State.frames_setFrames _ hcur
  have hm : (T.setFrames (.invoking m args :: below)).vm.method? m = some meth := X.method'
  have hr := X.room
  simp only [State.hasRoom, Bool.and_eq_true, decide_eq_true_eq] at hr
  obtain ⟨⟨⟨⟨r1, r2, r3, r4, r5, r6⟩, r7⟩, r8⟩, r9⟩ := hr
  rw [State.localsInUse_invoking X.frames X.method X.code] at r1 r4 r5
  rw [X.frames] at r2 r3
  have hb := X.book
  have h1 := X.cellsAbove hc
  have h2 := X.slotsAbove hs
  refine ⟨X.admits, X.cas, X.clock, hF, ?_, ?_, hm, X.code, X.here, X.tail, State.WarmedH.refl _, ?_, ?_, ?_⟩
  · simp only [State.hasRoom, Bool.and_eq_true, decide_eq_true_eq]
    rw [State.localsInUse_invoking hF hm X.code, hF, State.stackLimits_setFrames, State.stackBytes_setFrames, X.limits, X.bytes]
    exact ⟨⟨⟨⟨by omega, by omega, by omega, by omega, by omega, r6⟩, h1⟩, h2⟩, hb⟩
  · have hh := X.hears
    have hal := X.warmed.alike
    cases below with
    | nil => simp only [State.hears] at hh ⊢; rw [hm]; rw [X.method] at hh; exact hh
    | cons b bs =>
      cases b with
      | java g =>
        simp only [State.hears] at hh ⊢
        have e1 : (T.setFrames (.invoking m args :: .java g :: bs)).code? g.method = s.code? g.method := by
          rw [State.code?_eq, State.code?_eq]
          show (T.vm.method? g.method).bind _ = _
          rw [hal.method?]
        rw [e1]
        exact hh
      | native _ => rfl
      | proc _ => rfl
      | _ => simp only [State.hears] at hh ⊢; rw [hm]; rw [X.method] at hh; exact hh
  · rw [State.stackLimits_setFrames]
  · rw [State.stackBytes_setFrames]
  · obtain ⟨t, ht, -⟩ := State.frames_cons hfr
    have h3 : T.setVm (T.setFrames (.invoking m args :: below)).vm = T := rfl
    rw [h3]
    refine ⟨?_, Nat.le_refl _, Nat.le_refl _, ?_, ?_, fun a cl ha => ⟨cl, ha, rfl, rfl, fun _ _ => rfl⟩⟩
    · rw [State.setFrames_setFrames]
      show T = { T.setFrames T.frames with heap := T.heap, slotsUsed := T.slotsUsed }
      rw [State.setFrames_self ht]
    · show T.slotsUsed = T.slotsUsed + ((T.heap.toList.drop T.heap.size).map (·.slots.size)).sum
      have : T.heap.toList.drop T.heap.size = [] := List.drop_eq_nil_of_le (by simp)
      rw [this]
      rfl
    · show ((T.heap.toList.drop T.heap.size).map (·.slots.size)).sum ≤ 0
      have : T.heap.toList.drop T.heap.size = [] := List.drop_eq_nil_of_le (by simp)
      rw [this]
      exact Nat.le_refl 0
end MJW
