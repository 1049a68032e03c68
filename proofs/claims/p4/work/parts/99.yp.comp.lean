def cpR (r r' : rM) : rM := ((((((((((((r'.s_z r.z).s_used r.used).s_function r.function).s_headKind r.headKind).s_head r.head).s_tailKind r.tailKind).s_tail r.tail).s_marked r.marked).s_reg r.reg).s_program r.program).s_state r.state).s_shown r.shown)
theorem kr_cp {r r' : rM} (h : kr r r') : r' = cpR r r' := by
  have h : krT r' = krT r := h
  have e1 : r'.z = r.z := congrArg (fun q => q.1.1) h
  have e2 : r'.used = r.used := congrArg (fun q => q.2.1.1) h
  have e3 : r'.function = r.function := congrArg (fun q => q.2.1.2.1) h
  have e4 : r'.headKind = r.headKind := congrArg (fun q => q.2.1.2.2.1) h
  have e5 : r'.head = r.head := congrArg (fun q => q.2.1.2.2.2.1) h
  have e6 : r'.tailKind = r.tailKind := congrArg (fun q => q.2.1.2.2.2.2.1) h
  have e7 : r'.tail = r.tail := congrArg (fun q => q.2.1.2.2.2.2.2) h
  have e8 : r'.marked = r.marked := congrArg (fun q => q.2.2.1.1) h
  have e9 : r'.reg = r.reg := congrArg (fun q => q.2.2.1.2.1) h
  have e10 : r'.program = r.program := congrArg (fun q => q.2.2.1.2.2.1) h
  have e11 : r'.state = r.state := congrArg (fun q => q.2.2.1.2.2.2) h
  have e12 : r'.shown = r.shown := congrArg (fun q => q.2.2.2.2.2.2.1) h
  unfold cpR
  rw [← e1, ← e2, ← e3, ← e4, ← e5, ← e6, ← e7, ← e8, ← e9, ← e10, ← e11, ← e12]
  rfl
theorem RMI_kr {r r' : rM} (h : kr r r') (hI : RMI r) : RMI r' := by
  rw [kr_cp h]
  exact hI
theorem kr_z {r r' : rM} (h : kr r r') : r'.z = r.z := congrArg (fun q => q.1.1) (show krT r' = krT r from h)
theorem czN_0 (u : Nat → Int32) (hu : ∀ i, i < 250 → u i = 0) : ∀ n k a, k + n ≤ 250 → czN u n k a = a + n
  | 0, k, a, _ => rfl
  | n + 1, k, a, h => by
    have e : czN u (n + 1) k a = czN u n (k + 1) (if u k = 0 then a + 1 else a) := rfl
    rw [e, if_pos (hu k (by omega)), czN_0 u hu n (k + 1) (a + 1) (by omega)]
    omega
def erR (r : rM) (e t : Int32) : rM := (((r.s_error e).s_thrown t).s_typed 0)
def clU (r : rM) (u g : Nat → Int32) : rM := ((r.s_used u).s_reg g)
def etR (r : rM) (e t : Int32) : rM := ((r.s_error e).s_thrown t)
def tyR (r : rM) (t : Int32) : rM := ((r.s_thrown t).s_typed 0)
def fiR (r : rM) (g : Nat → Int32) : rM := ((((((r.s_reg g).s_program 1).s_state 0).s_collections 0).s_takenBack 0).s_steps 0)
section YP
variable {cst : Nat → Option (Nat × (Nat → Int32))} {m b0 b1 : Nat} {op : Bool} {tl : List mj_O} {Q : mj_R → Prop} {s : cS} {r : rM} {len : Nat} {tx : Nat → Nat}
set_option maxRecDepth 10000
theorem cR_same {tx : Nat → Nat} {r r' : rM} {f n e : Nat} {t : Tau} (h : (r'.kind, r'.value, r'.at_, r'.until_, r'.first, r'.letters, r'.next, r'.bound, r'.parent) = (r.kind, r.value, r.at_, r.until_, r.first, r.letters, r.next, r.bound, r.parent)) (hc : cR tx r f n e t) : cR tx r' f n e t := by
  have e1 : r'.kind = r.kind := congrArg (fun q => q.1) h
  have e2 : r'.value = r.value := congrArg (fun q => q.2.1) h
  have e3 : r'.at_ = r.at_ := congrArg (fun q => q.2.2.1) h
  have e4 : r'.until_ = r.until_ := congrArg (fun q => q.2.2.2.1) h
  have e5 : r'.first = r.first := congrArg (fun q => q.2.2.2.2.1) h
  have e6 : r'.letters = r.letters := congrArg (fun q => q.2.2.2.2.2.1) h
  have e7 : r'.next = r.next := congrArg (fun q => q.2.2.2.2.2.2.1) h
  have e8 : r'.bound = r.bound := congrArg (fun q => q.2.2.2.2.2.2.2.1) h
  have e9 : r'.parent = r.parent := congrArg (fun q => q.2.2.2.2.2.2.2.2) h
  refine cR_ag f n e t ⟨fun i _ _ => ?_, fun i _ _ => by rw [e6], fun i _ _ => by rw [e7, e8, e9]; exact ⟨rfl, rfl, rfl⟩⟩ hc
  rw [e1, e2, e3, e4, e5]
  exact ⟨rfl, rfl, rfl, rfl, rfl⟩
end YP
