section
def PLE (r : rM) (ps : List Vl) : Prop := r.piled = nI ps.length ∧ ∀ i P, ps[i]? = some P → rg r P (r.pile (ps.length - 1 - i))
def LI (r r2 : rM) (z : Nat) (B : TL) (st : LSt) (x : Int32) : Prop := (kp r r2 ∧ r2.state = r.state ∧ r2.reg = r.reg ∧ r2.signKind = r.signKind ∧ r2.signValue = r.signValue ∧ r2.cells = r.cells) ∧ (RB r2 st.1 st.2.1 ∧ Ur r2 = st.2.2.1 ∧ rg r2 st.2.2.2.1 x) ∧ PLE r2 st.2.2.2.2 ∧ fz r2 + cnt B = z
def pcR (r : rM) (p : Nat) (x : Int32) : rM := ((r.s_pile (upd r.pile p x)).s_piled (nI (p + 1)))
def ppR (r : rM) (p : Nat) : rM := (r.s_piled (nI p))
theorem subadd (x : Int32) : x + Int32.ofInt (-1) = x - Int32.ofInt 1 := by
  rw [Int32.sub_eq_add_neg]
  rfl
section YO
variable {cst : Nat → Option (Nat × (Nat → Int32))} {m b0 b1 : Nat} {op : Bool} {tl : List mj_O} {Q : mj_R → Prop} {s : cS} {r : rM} {σ : TL} {z : Nat} {init : LSt}
set_option maxRecDepth 10000
theorem rg_pile {r r' : rM} (h1 : Ur r' = Ur r) (h2 : r'.function = r.function) {v : Vl} {x : Int32} (h : rg r v x) : rg r' v x := by
  rcases h with h | ⟨a, q1, q2, q3, q4⟩
  · exact Or.inl h
  · exact Or.inr ⟨a, q1, q2, by rw [h1]; exact q3, by rw [h2]; exact q4⟩
theorem LI_close {r2 : rM} {B : TL} {st : LSt} {x v : Int32} (h : LI r r2 z B st x) : LI r (pcR r2 st.2.2.2.2.length x) z ((5, v) :: B) (st.1, st.2.1, st.2.2.1, vNil, st.2.2.2.1 :: st.2.2.2.2) (-1) := by
  obtain ⟨h1, ⟨h2, h3, h4⟩, ⟨h5, h6⟩, h7⟩ := h
  refine ⟨h1, ⟨h2, h3, Or.inl ⟨rfl, rfl⟩⟩, ⟨rfl, fun i P hi => ?_⟩, ?_⟩
  · show rg (pcR r2 st.2.2.2.2.length x) P (upd r2.pile st.2.2.2.2.length x ((st.2.2.2.1 :: st.2.2.2.2).length - 1 - i))
    rw [List.length_cons]
    cases i with
    | zero =>
      have hi : some st.2.2.2.1 = some P := hi
      cases hi
      have e : upd r2.pile st.2.2.2.2.length x (st.2.2.2.2.length + 1 - 1 - 0) = x := if_pos (by omega)
      rw [e]
      exact rg_pile rfl rfl h4
    | succ i =>
      have hi : st.2.2.2.2[i]? = some P := hi
      have hlt : i < st.2.2.2.2.length := by
        rcases Nat.lt_or_ge i st.2.2.2.2.length with w | w
        · exact w
        · rw [List.getElem?_eq_none w] at hi
          cases hi
      have e : upd r2.pile st.2.2.2.2.length x (st.2.2.2.2.length + 1 - 1 - (i + 1)) = r2.pile (st.2.2.2.2.length - 1 - i) := by
        show (if _ = _ then _ else _) = _
        rw [if_neg (by omega)]
        congr 1
        omega
      rw [e]
      exact rg_pile rfl rfl (h6 i P hi)
  · show fz r2 + (0 + cnt B) = z
    omega
theorem LI_new {r2 : rM} {B : TL} {st : LSt} {x c a b : Int32} {k : Nat} {h t : Vl} {ps : List Vl} {v : Int32 × Int32} (hI : LI r r2 z B st x) (hv5 : ¬ v.1 = 5) (hf : 1 ≤ fz r2) (hh : rv r2 h a b) (ht : rg r2 t c) (hk : k = ffN r2.used (r2.z - 1) 0) (r3 : rM) (e3 : r3 = mkR r2 k a b c ∨ r3 = ppR (mkR r2 k a b c) ps.length) (hps : r3.piled = nI ps.length) (hpl : ∀ i P, ps[i]? = some P → rg r2 P (r2.pile (ps.length - 1 - i))) : LI r r3 z (v :: B) (newL st k h t ps) (nI k) ∧ ¬ st.2.2.1 k := by
  obtain ⟨⟨g1, g2, g3, g4, g5, g6⟩, ⟨h2, h3, h4⟩, h5, h7⟩ := hI
  obtain ⟨m1, m2, m3, m4, m5, m6, m7⟩ := mk_ok h2 hf hk hh ht
  have kpm : kp r2 (mkR r2 k a b c) := ⟨⟨rfl, rfl, rfl, rfl, rfl⟩, rfl, rfl, rfl, rfl, rfl⟩
  have hne : ¬ st.2.2.1 k := by rw [← h3]; exact m1
  have hcnt : cnt (v :: B) = 1 + cnt B := by
    show (if v.1 = 5 then 0 else 1) + cnt B = _
    rw [if_neg hv5]
  rcases e3 with rfl | rfl
  · refine ⟨⟨⟨kp_tr g1 kpm, g2, g3, g4, g5, g6⟩, ⟨m4, by rw [m6, h3]; rfl, m5⟩, ⟨hps, fun i P hi => rg_up m3 (hpl i P hi)⟩, by omega⟩, hne⟩
  · refine ⟨⟨⟨kp_tr g1 kpm, g2, g3, g4, g5, g6⟩, ⟨m4, by show Ur (mkR r2 k a b c) = _; rw [m6, h3]; rfl, rg_pile (r := mkR r2 k a b c) rfl rfl m5⟩, ⟨hps, fun i P hi => rg_pile (r := mkR r2 k a b c) rfl rfl (rg_up m3 (hpl i P hi))⟩, by show fz (mkR r2 k a b c) + _ = z; omega⟩, hne⟩
set_option maxHeartbeats 4000000 in
theorem R_lay (hW : WSr r σ []) (hs : σ.length ≤ 1200) (hkd : ∀ t ∈ σ, (t.1 = 0 ∧ t.2 = 0) ∨ t.1 = 1 ∨ t.1 = 2 ∨ t.1 = 4 ∨ t.1 = 5) (hht : htT σ = some 0) (hz : z ≤ 250) (hc : cnt σ ≤ z) (hI0 : LI r (ppR r 0) z [] init (-1)) (hp0 : init.2.2.2.2 = []) (hQ : ∀ r2 st x, LI r r2 z σ st x → LY σ init st → Q (.inl (some (.int x)), (cW s (rW r2 tl), b0, b1, op))) : mj_Mt gT cst gnw (m + 3) y_R_lay [.ref 27] (cW s (rW r tl), b0, b1, op) Q := by
  obtain ⟨⟨hs1, hs2⟩, -, -⟩ := hW
  intro J hJ
  have loop : ∀ (n : Nat) (A B : TL) (st : LSt) (r2 : rM) (x y : Int32), A.length = n → A ++ B = σ → LY B init st → htT B = some st.2.2.2.2.length → LI r r2 z B st x → y = nI A.length - Int32.ofInt 1 → J 10 [some (.ref 27), some (.int x), some (.int y)] [] (cW s (rW r2 tl), b0, b1, op) := by
    intro n
    induction n with
    | zero =>
      intro A B st r2 x y hA hAB hL hh hI hy
      have : A = [] := List.length_eq_zero_iff.mp hA
      subst this
      have hAB : B = σ := hAB
      subst hAB
      refine hJ _ _ _ _ ?_
      refine And.intro (fun _ => hQ r2 st x hI hL) (fun (g : ¬ y < 0) => absurd (by rw [hy]; decide) g)
    | succ n ih =>
      intro A B st r2 x y hA hAB hL hh hI hy
      obtain ⟨A, t, rfl⟩ : ∃ A' t, A = A' ++ [t] := by
        rcases snoc_ex A with rfl | w
        · cases hA
        · exact w
      rw [len_s] at hA hy
      have hy2 : y = nI A.length := by rw [hy]; exact nI_pred _
      subst hy2
      rw [List.append_assoc] at hAB
      have hAB : A ++ (t :: B) = σ := hAB
      have hlt : A.length < σ.length := by rw [← hAB, List.length_append, List.length_cons]; omega
      have hat : σ[A.length]? = some t := by
        rw [← hAB, List.getElem?_append_right (Nat.le_refl _), Nat.sub_self]
        rfl
      obtain ⟨t1, t2⟩ := hs2 A.length t hat
      have htm : t ∈ σ := List.mem_of_getElem? hat
      have hin : vp_in (nI A.length) 1200 := vp_in_nI (by omega) (by decide)
      have ek : (nI A.length).toNatClampNeg = A.length := nI_clamp (by omega)
      obtain ⟨p, hp⟩ := ht_pre A (t :: B) 0 (by rw [hAB]; exact hht)
      have hple := ht_le A (t :: B) 0 p (by rw [hAB]; exact hht) hp
      have hcs : cnt A + cnt (t :: B) = cnt σ := by rw [← hAB, cnt_app]
      have e0 : htT (t :: B) = (match htT B with | none => none | some h => if t.1 = 5 then some (h + 1) else if t.1 = 4 then (match h with | 0 => none | h + 1 => some h) else some h) := rfl
      rw [hh] at e0
      have ecn : cnt (t :: B) = (if t.1 = 5 then 0 else 1) + cnt B := rfl
      have hI' := hI
      obtain ⟨⟨g1, g2, g3, g4, g5, g6⟩, ⟨i2, i3, i4⟩, ⟨i5, i6⟩, i7⟩ := hI'
      have nxt : ∀ (st' : LSt) (r3 : rM) (x' y' : Int32), y' = nI A.length + Int32.ofInt (-1) → LY (t :: B) init st' → htT (t :: B) = some st'.2.2.2.2.length → LI r r3 z (t :: B) st' x' → J 10 [some (.ref 27), some (.int x'), some (.int y')] [] (cW s (rW r3 tl), b0, b1, op) := by
        intro st' r3 x' y' hy' h1 h2 h3
        exact ih A (t :: B) st' r3 x' y' (by omega) hAB h1 h2 h3 (by rw [hy']; exact subadd _)
      refine hJ _ _ _ _ ?_
      refine And.intro (fun (g : nI A.length < 0) => absurd g (nI_pos (by omega))) (fun _ => ?_)
      refine And.intro hin ?_
      rw [ek, g4, t1]
      refine And.intro (fun (n5 : ¬ t.1 = 5) => ?_) (fun (e5 : t.1 = 5) => ?_)
      rotate_left
      · obtain ⟨tk, tv⟩ := t
        have e5 : tk = 5 := e5
        subst e5
        have hp5 : st.2.2.2.2.length < 260 := by
          have e0 : htT ((5, tv) :: B) = some (st.2.2.2.2.length + 1) := e0
          rw [e0] at hp
          cases hp
          omega
        refine And.intro (show vp_in r2.piled 260 by rw [i5]; exact vp_in_nI hp5 (by decide)) ?_
        have key : ∀ (i : Nat) (y : Int32), i = st.2.2.2.2.length → y = nI (st.2.2.2.2.length + 1) → J 10 [some (.ref 27), some (.int (-1)), some (.int (nI A.length + Int32.ofInt (-1)))] [] (cW s (rW ((r2.s_pile (upd r2.pile i x)).s_piled y) tl), b0, b1, op) := by
          intro i y q1 q2
          rw [q1, q2]
          exact nxt _ (pcR r2 st.2.2.2.2.length x) _ _ rfl ⟨st, hL, Or.inl ⟨rfl, rfl⟩⟩ e0 (LI_close hI)
        refine key r2.piled.toNatClampNeg (r2.piled + Int32.ofInt 1) ?_ ?_
        · show r2.piled.toNatClampNeg = _
          rw [i5]
          exact nI_clamp (by omega)
        · show r2.piled + Int32.ofInt 1 = _
          rw [i5]
          exact (nI_succ _).symm
      · rw [if_neg n5] at ecn
        have hf : 1 ≤ fz r2 := by omega
        refine And.intro hin ?_
        rw [ek, g4, t1]
        refine And.intro (fun (n4 : ¬ t.1 = 4) => ?_) (fun (e4 : t.1 = 4) => ?_)
        · -- a cell
          have hrv : rv r2 (hvT t) t.1 t.2 := by
            unfold hvT
            rcases hkd t htm with ⟨w1, w2⟩ | w | w | w | w
            · rw [if_pos w1]
              exact ⟨w1, w2⟩
            · rw [if_neg (by rw [w]; decide), if_neg (by rw [w]; decide)]
              exact ⟨w, rfl⟩
            · rw [if_neg (by rw [w]; decide), if_pos w]
              exact ⟨w, rfl⟩
            · exact absurd w n4
            · exact absurd w n5
          refine And.intro hin ?_
          rw [ek, g4, t1]
          refine And.intro hin ?_
          rw [ek, g5, t2]
          refine r_make i2.1.2 i2.1.1 (fun k hk => ?_)
          obtain ⟨w1, w2⟩ := LI_new (v := t) (ps := st.2.2.2.2) hI n5 hf hrv i4 hk (mkR r2 k t.1 t.2 x) (Or.inl rfl) i5 i6
          refine nxt _ (mkR r2 k t.1 t.2 x) (nI k) _ rfl ⟨st, hL, Or.inr (Or.inr ⟨n5, n4, k, w2, rfl⟩)⟩ ?_ w1
          rw [e0]
          show (if t.1 = 5 then _ else if t.1 = 4 then _ else some st.2.2.2.2.length) = _
          rw [if_neg n5, if_neg n4]
          rfl
        · -- a list
          obtain ⟨P, ps, eps⟩ : ∃ P ps, st.2.2.2.2 = P :: ps := by
            cases hps : st.2.2.2.2 with
            | nil =>
              rw [hps] at e0
              have e0 : htT (t :: B) = (if t.1 = 5 then some (0 + 1) else if t.1 = 4 then none else some 0) := e0
              rw [if_neg n5, if_pos e4] at e0
              rw [e0] at hp
              cases hp
            | cons P ps => exact ⟨P, ps, rfl⟩
          have hl : st.2.2.2.2.length = ps.length + 1 := by rw [eps]; rfl
          rw [hl] at i5
          have hp5 : ps.length < 260 := by
            rw [hl] at e0
            have e0 : htT (t :: B) = (if t.1 = 5 then some (ps.length + 1 + 1) else if t.1 = 4 then some ps.length else some (ps.length + 1)) := e0
            rw [if_neg n5, if_pos e4] at e0
            rw [e0] at hp
            cases hp
            omega
          have ep : r2.piled - Int32.ofInt 1 = nI ps.length := by rw [i5]; exact nI_pred _
          have hP : rg r2 P (r2.pile ps.length) := by
            have := i6 0 P (by rw [eps]; rfl)
            rw [hl] at this
            exact this
          refine And.intro (show vp_in (r2.piled - Int32.ofInt 1) 260 by rw [ep]; exact vp_in_nI hp5 (by decide)) ?_
          have key : ∀ (c y : Int32), c = r2.pile ps.length → y = nI ps.length → ∀ Q' : mj_R → Prop, (∀ k, k = ffN r2.used (r2.z - 1) 0 → Q' (.inl (some (.int (nI k))), (cW s (rW (ppR (mkR r2 k (if x < 0 then 0 else 3) (if x < 0 then 0 else x) (r2.pile ps.length)) ps.length) tl), b0, b1, op))) → mj_Mt gT cst gnw (m + 2) y_R_makeOf [.ref 27, .int x, .int c] (cW s (rW (r2.s_piled y) tl), b0, b1, op) Q' := by
            rintro c y rfl rfl Q' hQ'
            exact r_makeOf (r := ppR r2 ps.length) i2.1.2 i2.1.1 hQ'
          refine key _ _ ?_ ep _ (fun k hk => ?_)
          · show r2.pile (r2.piled - Int32.ofInt 1).toNatClampNeg = _
            rw [ep, nI_clamp (by omega)]
          · have hpl : ∀ i P2, ps[i]? = some P2 → rg r2 P2 (r2.pile (ps.length - 1 - i)) := by
              intro i P2 hi
              have := i6 (i + 1) P2 (by rw [eps]; exact hi)
              rw [hl] at this
              rw [show ps.length + 1 - 1 - (i + 1) = ps.length - 1 - i by omega] at this
              exact this
            obtain ⟨w1, w2⟩ := LI_new (v := t) (ps := ps) hI n5 hf (rg_rv i4 i2.1.2) hP hk (ppR (mkR r2 k (if x < 0 then 0 else 3) (if x < 0 then 0 else x) (r2.pile ps.length)) ps.length) (Or.inr rfl) rfl hpl
            refine nxt _ _ (nI k) _ rfl ⟨st, hL, Or.inr (Or.inl ⟨e4, P, ps, k, eps, w2, rfl⟩)⟩ ?_ w1
            rw [e0, hl]
            show (if t.1 = 5 then _ else if t.1 = 4 then some ps.length else _) = _
            rw [if_neg n5, if_pos e4]
            rfl
  refine hJ _ _ _ _ ?_
  refine loop σ.length σ [] init (ppR r 0) (-1) _ rfl (List.append_nil σ) rfl (by rw [hp0]; rfl) hI0 ?_
  show r.signs - Int32.ofInt 1 = _
  rw [hs1]
end YO
end
section
def cpR (r r' : rM) : rM := ((((((((((((r'.s_z r.z).s_used r.used).s_function r.function).s_headKind r.headKind).s_head r.head).s_tailKind r.tailKind).s_tail r.tail).s_marked r.marked).s_reg r.reg).s_program r.program).s_state r.state).s_shown r.shown)
theorem kr_cp {r r' : rM} (h : kr r r') : r' = cpR r r' := by
  have h : krT r' = krT r := h
  have e1 : r'.z = r.z := congrArg (fun q => q.1.1) h
  have e2 : r'.used = r.used := congrArg (fun q => q.2.1.1) h
  have e3 : r'.function = r.function := congrArg (fun q => q.2.1.2.1) h
  have e4 : r'.headKind = r.headKind := congrArg (fun q => q.2.1.2.2.1) h
  have e5 : r'.head = r.head := congrArg (fun q => q.2.1.2.2.2.1) h
  have e6 : r'.tailKind = r.tailKind := congrArg (fun q => q.2.1.2.2.2.2.1) h
  have e7 : r'.tail = r.tail := congrArg (fun q => q.2.1.2.2.2.2.2) h
  have e8 : r'.marked = r.marked := congrArg (fun q => q.2.2.1.1) h
  have e9 : r'.reg = r.reg := congrArg (fun q => q.2.2.1.2.1) h
  have e10 : r'.program = r.program := congrArg (fun q => q.2.2.1.2.2.1) h
  have e11 : r'.state = r.state := congrArg (fun q => q.2.2.1.2.2.2) h
  have e12 : r'.shown = r.shown := congrArg (fun q => q.2.2.2.2.2.2.1) h
  unfold cpR
  rw [← e1, ← e2, ← e3, ← e4, ← e5, ← e6, ← e7, ← e8, ← e9, ← e10, ← e11, ← e12]
  rfl
theorem RMI_kr {r r' : rM} (h : kr r r') (hI : RMI r) : RMI r' := by
  rw [kr_cp h]
  exact hI
theorem kr_z {r r' : rM} (h : kr r r') : r'.z = r.z := congrArg (fun q => q.1.1) (show krT r' = krT r from h)
theorem czN_0 (u : Nat → Int32) (hu : ∀ i, i < 250 → u i = 0) : ∀ n k a, k + n ≤ 250 → czN u n k a = a + n
  | 0, k, a, _ => rfl
  | n + 1, k, a, h => by
    have e : czN u (n + 1) k a = czN u n (k + 1) (if u k = 0 then a + 1 else a) := rfl
    rw [e, if_pos (hu k (by omega)), czN_0 u hu n (k + 1) (a + 1) (by omega)]
    omega
def erR (r : rM) (e t : Int32) : rM := (((r.s_error e).s_thrown t).s_typed 0)
def clU (r : rM) (u g : Nat → Int32) : rM := ((r.s_used u).s_reg g)
def etR (r : rM) (e t : Int32) : rM := ((r.s_error e).s_thrown t)
def tyR (r : rM) (t : Int32) : rM := ((r.s_thrown t).s_typed 0)
def fiR (r : rM) (g : Nat → Int32) : rM := ((((((r.s_reg g).s_program 1).s_state 0).s_collections 0).s_takenBack 0).s_steps 0)
section YP
variable {cst : Nat → Option (Nat × (Nat → Int32))} {m b0 b1 : Nat} {op : Bool} {tl : List mj_O} {Q : mj_R → Prop} {s : cS} {r : rM} {len : Nat} {tx : Nat → Nat}
set_option maxRecDepth 10000
theorem cR_same {tx : Nat → Nat} {r r' : rM} {f n e : Nat} {t : Tau} (h : (r'.kind, r'.value, r'.at_, r'.until_, r'.first, r'.letters, r'.next, r'.bound, r'.parent) = (r.kind, r.value, r.at_, r.until_, r.first, r.letters, r.next, r.bound, r.parent)) (hc : cR tx r f n e t) : cR tx r' f n e t := by
  have e1 : r'.kind = r.kind := congrArg (fun q => q.1) h
  have e2 : r'.value = r.value := congrArg (fun q => q.2.1) h
  have e3 : r'.at_ = r.at_ := congrArg (fun q => q.2.2.1) h
  have e4 : r'.until_ = r.until_ := congrArg (fun q => q.2.2.2.1) h
  have e5 : r'.first = r.first := congrArg (fun q => q.2.2.2.2.1) h
  have e6 : r'.letters = r.letters := congrArg (fun q => q.2.2.2.2.2.1) h
  have e7 : r'.next = r.next := congrArg (fun q => q.2.2.2.2.2.2.1) h
  have e8 : r'.bound = r.bound := congrArg (fun q => q.2.2.2.2.2.2.2.1) h
  have e9 : r'.parent = r.parent := congrArg (fun q => q.2.2.2.2.2.2.2.2) h
  refine cR_ag f n e t ⟨fun i _ _ => ?_, fun i _ _ => by rw [e6], fun i _ _ => by rw [e7, e8, e9]; exact ⟨rfl, rfl, rfl⟩⟩ hc
  rw [e1, e2, e3, e4, e5]
  exact ⟨rfl, rfl, rfl, rfl, rfl⟩
end YP
end
section
theorem RMI_r0 (z : Nat) (h1 : 1 ≤ z) (h2 : z ≤ 250) : RMI (r0 z) := by
  have hU : ∀ a, ¬ Ur (r0 z) a := fun a h => h.2 rfl
  have hg : ∀ x : Int32, x = -1 → rg (r0 z) vNil x := fun x e => Or.inl ⟨rfl, e⟩
  refine ⟨⟨⟨fun _ => false, ?_⟩, ⟨0, by omega, rfl⟩⟩, Or.inl ⟨rfl, rfl, fun _ => vNil, fun _ => vNil, ⟨⟨h1, h2⟩, fun a h => absurd h (hU a), fun a _ => ⟨fun h => ?_, fun h => ?_⟩⟩, hg _ rfl, hg _ rfl, hg _ rfl, hg _ rfl, hg _ rfl⟩⟩
  · funext a
    rfl
  · exact absurd (show (0 : Int32) = 3 from h) (by decide)
  · exact absurd (show (0 : Int32) = 3 from h) (by decide)
theorem fillU_eN (z : Nat) : ∀ (n k : Nat) (fr : Nat → Nat), k + n ≤ z → (∀ j, j < z → fr j < z) → ∃ fr' : Nat → Nat, fillU (eN fr) k n = eN fr' ∧ ∀ j, j < z → fr' j < z
  | 0, k, fr, _, h => ⟨fr, rfl, h⟩
  | n + 1, k, fr, hk, h => by
    have hu : ∀ j, j < z → upW fr k k j < z := by
      intro j hj
      unfold upW
      split
      · omega
      · exact h j hj
    obtain ⟨fr', e, h'⟩ := fillU_eN z n (k + 1) (upW fr k k) (by omega) hu
    refine ⟨fr', ?_, h'⟩
    rw [← e, ← upd_nI]
    rfl
theorem CI_c0 (z : Nat) (h1 : 1 ≤ z) (h2 : z ≤ 250) (tl : List mj_O) : CI (-1) z 0 (fun _ => 0) 0 0 tl (cW (c0 z) tl) := by
  obtain ⟨fr, e, hfr⟩ := fillU_eN z z 0 (fun _ => 0) (by omega) (fun j _ => by omega)
  refine ⟨(0, z0, z0, z0, fun _ => some 0, fun _ => some 0, fun _ => some 0), z0, 0, ((fun _ => vNil, fun _ => vNil, 0, some 0, false), fun _ => some 0, 0, 0), vNil, vNil, vNil, vNil, 0, 0, 0, fun _ => vNil, fun _ => vNil, fr, (fun _ => false, fun _ => 0, 0), z, 0, 0, fun _ => 0, fun _ => vNil, ?_, h2, ?_, txOK_0, ?_, ?_, ?_, hfr, Nat.le_refl _, Nat.zero_le _, ?_⟩
  · have e2 : fillF z0 0 z = eN fr := e
    unfold c0
    rw [e2]
    rfl
  · refine ⟨Nat.zero_le _, fun i j q => ?_, ⟨fun i j q => ?_, fun i hi => absurd hi (Nat.not_lt_zero i)⟩, fun i j q => ?_⟩ <;> (cases q; decide)
  · intro i j q
    cases q
    decide
  · exact ⟨fun i _ => trivial, fun i _ => trivial⟩
  · exact ⟨fun i _ => trivial, fun i _ => trivial, trivial, trivial, trivial, trivial⟩
  · exact ⟨⟨[], rfl, Nat.zero_le _, fun i hi => absurd hi (Nat.not_lt_zero i)⟩, fun k _ => trivial⟩
def CX (err : Int32) (z len : Nat) (tx : Nat → Nat) (mode : Int32) (c : Nat) (s : cS) : Prop := ∀ tl, CI err z len tx mode c tl (cW s tl)
theorem CI_CX {err : Int32} {z len : Nat} {tx : Nat → Nat} {mode : Int32} {c : Nat} {tl W : List mj_O} (h : CI err z len tx mode c tl W) : ∃ s, W = cW s tl ∧ CX err z len tx mode c s := by
  obtain ⟨t, X, a, s, S, E, C, D, colls, taken, steps, H, T, fr, g, f, k, n, fb, R, e, h⟩ := h
  refine ⟨cSo z err t X len a s S E C D mode colls taken steps H T fr g f c k n fb R, e, fun tl' => ?_⟩
  exact ⟨t, X, a, s, S, E, C, D, colls, taken, steps, H, T, fr, g, f, k, n, fb, R, rfl, h⟩
theorem CX_c0 (z : Nat) (h1 : 1 ≤ z) (h2 : z ≤ 250) : CX (-1) z 0 (fun _ => 0) 0 0 (c0 z) := fun tl => CI_c0 z h1 h2 tl
end
section
section LCL
variable {err : Int32} {m b0 b1 z len c : Nat} {tx : Nat → Nat} {mode : Int32} {op : Bool} {Q : mj_R → Prop} {s : cS} {r : rM} {xs : List Int32} {f : Nat → Int64}
set_option maxRecDepth 10000
theorem L_run {x : Int32} (h : CX err z len tx mode c s) (hb0 : 1 ≤ b0) (hb1 : 6 ≤ b1) (hb2 : mode = 1 → 200 ≤ b0 ∧ 20000 ≤ b1)
    (hQ : ∀ y mode' s' f' b0' b1' op', CX err z len tx mode' c s' → (b0 ≤ b0' + 1 ∧ b1 ≤ b1' + 6 ∧ (mode = 1 ∨ mode' = mode)) ∨ (¬ mode' = 1 ∧ mode = 1 ∧ b0 ≤ b0' + 140 ∧ b1 ≤ b1' + 19740) → Q (.inl (some (.int y)), (cW s' (rW r [oJ 1 f']), b0', b1', op'))) :
    mj_Mt gT (law_cst xs) gnw (m + 14) y_Law_run [.ref 0, .int x, .ref 54] (cW s (rW r [oJ 1 f]), b0, b1, op) Q := by
  intro J hJ
  refine hJ _ _ _ _ ?_
  refine C_run (h _) hb0 hb1 hb2 (fun b0' b1' q0 q1 => ?_) (fun y mode' W' b0' b1' op' hc hq => ?_)
  · exact hQ _ _ s _ _ _ _ h (Or.inl ⟨q0, q1, Or.inr rfl⟩)
  · obtain ⟨s', rfl, hs⟩ := CI_CX hc
    refine And.intro (in0 (by decide)) ?_
    refine hQ _ _ s' _ _ _ _ hs ?_
    rcases hq with ⟨e0, e1, e2⟩ | q
    · exact Or.inl ⟨by omega, by omega, e2⟩
    · exact Or.inr q
end LCL
def RY (len : Nat) (tx : Nat → Nat) (r : rM) : Prop := RMI r ∧ txOK r.text len tx ∧ r.typed = nI len
theorem RY_r0 (z : Nat) (h1 : 1 ≤ z) (h2 : z ≤ 250) : RY 0 (fun _ => 0) (r0 z) := ⟨RMI_r0 z h1 h2, txOK_0, rfl⟩
theorem RY_ke {len : Nat} {tx : Nat → Nat} {r r' : rM} (h : RY len tx r) (hk : ke r r') (hI : RMI r') : RY len tx r' := by
  obtain ⟨-, q1, q2, -⟩ := hk
  refine ⟨hI, ?_, q1.trans h.2.2⟩
  rw [q2]
  exact h.2.1
theorem RY_th {len : Nat} {tx : Nat → Nat} {r : rM} {x : Int32} (h : RY len tx r) : RY len tx (thR r x) := h
theorem RY_typed {r : rM} (h : RMI r) (e : r.typed = nI 0) : RY 0 (fun _ => 0) r := ⟨h, txOK_0, e⟩
section LCM
variable {err : Int32} {m b0 b1 z len c : Nat} {tx : Nat → Nat} {mode : Int32} {op : Bool} {Q : mj_R → Prop} {s : cS} {r : rM} {xs : List Int32} {tl : List mj_O} {cst : Nat → Option (Nat × (Nat → Int32))}
set_option maxRecDepth 10000
theorem Y_write {w : Int64} (h : RY len tx r) (h1 : wR w len = none → ∀ r', RY len tx r' → Q (.inl (some (.int 0)), (cW s (rW r' tl), b0, b1, op))) (h2 : ∀ k r', wR w len = some k → RY k (txW w len k tx) r' → Q (.inl (some (.int 1)), (cW s (rW r' tl), b0, b1, op))) : mj_Mt gT cst gnw (m + 1) y_R_write [.ref 27, .long w] (cW s (rW r tl), b0, b1, op) Q := by
  refine r_write h.2.1.1 h.2.2 (fun e => h1 e _ ?_) (fun k e => h2 k _ e ?_)
  · exact h
  · exact ⟨h.1, txW_ok h.2.1 e, rfl⟩
theorem X_write {w : Int64} (h : CX err z len tx mode c s) (h1 : wR w len = none → Q (.inl (some (.int 0)), (cW s tl, b0, b1, op))) (h2 : ∀ k s', wR w len = some k → CX err z k (txW w len k tx) mode c s' → Q (.inl (some (.int 1)), (cW s' tl, b0, b1, op))) : mj_Mt gT (law_cst xs) gnw (m + 4) y_P_write [.ref 0, .long w] (cW s tl, b0, b1, op) Q := by
  refine C_write (h _) h1 (fun k W' e hc => ?_)
  obtain ⟨s', rfl, hs⟩ := CI_CX hc
  exact h2 k s' e hs
theorem X_start (h : CX err z len tx mode c s) (h0 : Q (.inl (some (.int 0)), (cW s tl, b0, b1, op))) (h1 : ∀ s', CX err z len tx 1 c s' → Q (.inl (some (.int 1)), (cW s' tl, b0, b1, op))) : mj_Mt gT (law_cst xs) gnw (m + 4) y_P_start [.ref 0] (cW s tl, b0, b1, op) Q := by
  refine C_start (h _) (fun _ => h0) (fun W' _ hc => ?_)
  obtain ⟨s', rfl, hs⟩ := CI_CX hc
  exact h1 s' hs
end LCM
end
section
def ly1 (z : Nat) (x : Int32 × Int32) (p : cC × List Nat) : cC × List Nat :=
  if x.1 = 5 then (match p.2 with | [] => p | q :: st => (cEd p.1 q, st))
  else if x.1 = 4 then (cBg z p.1, cn p.1 :: p.2)
  else if x.1 = 0 then (cAp z p.1 vNil, p.2)
  else if x.1 = 2 then (cAp z p.1 (vSym x.2), p.2)
  else (cAp z p.1 (vInt x.2), p.2)
def lyS (z : Nat) : TL → cC × List Nat → cC × List Nat
  | [], p => p
  | x :: T, p => lyS z T (ly1 z x p)
def knT (T : TL) : Prop := ∀ x ∈ T, x.1 = 6 → ¬ x.2 < 0
def uM1 (x : Int32 × Int32) (u : Int32) : Int32 := if x.1 = 6 ∧ x.2 < 0 then (if u = -1 ∨ x.2 + 128 < u then x.2 + 128 else u) else u
def uMf : TL → Int32 → Int32
  | [], u => u
  | x :: T, u => uMf T (uM1 x u)
theorem uMf_app : ∀ (A B : TL) (u : Int32), uMf (A ++ B) u = uMf B (uMf A u)
  | [], B, u => rfl
  | x :: A, B, u => uMf_app A B (uM1 x u)
theorem uM1_n {x : Int32 × Int32} {u : Int32} (h : ¬ x.1 = 6) : uM1 x u = u := if_neg (fun q => h q.1)
def RES (z : Nat) (T : TL) (s s' : cD_) : Prop := (knT T → ∀ st, lyS z T (dC s, st) = (dC s', st)) ∧ dK s' = dK s ∧ (∀ i, i < dK s → dF s' i = dF s i) ∧ (dU s' = -1 ↔ dU s = -1 ∧ knT T) ∧ dU s' = uMf T (dU s)
theorem lyS_app (z : Nat) : ∀ (A B : TL) (p : cC × List Nat), lyS z (A ++ B) p = lyS z B (lyS z A p)
  | [], B, p => rfl
  | x :: A, B, p => lyS_app z A B (ly1 z x p)
theorem knT_app {A B : TL} : knT (A ++ B) ↔ knT A ∧ knT B := by
  refine ⟨fun h => ⟨fun x hx => h x (List.mem_append_left _ hx), fun x hx => h x (List.mem_append_right _ hx)⟩, fun h x hx => ?_⟩
  rcases List.mem_append.mp hx with w | w
  · exact h.1 x w
  · exact h.2 x w
theorem knT_1 {x : Int32 × Int32} (h : ¬ x.1 = 6) : knT [x] := fun y hy => by
  rw [List.mem_singleton.mp hy]
  exact fun e => absurd e h
section ZA
variable {z : Nat} {A B T : TL} {s s1 s2 : cD_}
theorem RES_nil : RES z [] s s := ⟨fun _ _ => rfl, rfl, fun _ _ => rfl, ⟨fun h => ⟨h, fun x hx => by cases hx⟩, fun h => h.1⟩, rfl⟩
theorem RES_app (h1 : RES z A s s1) (h2 : RES z B s1 s2) : RES z (A ++ B) s s2 := by
  obtain ⟨a1, a2, a3, a4, a5⟩ := h1
  obtain ⟨b1, b2, b3, b4, b5⟩ := h2
  refine ⟨fun hk st => ?_, b2.trans a2, fun i hi => (b3 i (by omega)).trans (a3 i hi), ?_, by rw [uMf_app, ← a5]; exact b5⟩
  · rw [lyS_app, a1 (knT_app.mp hk).1, b1 (knT_app.mp hk).2]
  · rw [b4, a4, knT_app]
    exact ⟨fun h => ⟨h.1.1, h.1.2, h.2⟩, fun h => ⟨⟨h.1, h.2.1⟩, h.2.2⟩⟩
theorem RES_one {x : Int32 × Int32} {v : Vl} (hx : ∀ p, ly1 z x p = (cAp z p.1 v, p.2)) (h6 : ¬ x.1 = 6) : RES z [x] s (dA z s v) := by
  refine ⟨fun _ st => hx (dC s, st), rfl, fun _ _ => rfl, ⟨fun h => ⟨h, knT_1 h6⟩, fun h => h.1⟩, (uM1_n h6).symm⟩
theorem RES_I (x : Int32) : RES z [(1, x)] s (dI z s x) := RES_one (fun _ => rfl) (show ¬ (1 : Int32) = 6 by decide)
theorem RES_N : RES z [(0, 0)] s (dA z s vNil) := RES_one (fun _ => rfl) (show ¬ (0 : Int32) = 6 by decide)
theorem RES_y (x : Int32) : RES z [(2, x)] s (dA z s (vSym x)) := RES_one (fun _ => rfl) (show ¬ (2 : Int32) = 6 by decide)
theorem RES_li (h : RES z T (dB z s) s1) : RES z ((4, 0) :: (T ++ [(5, 0)])) s (dE s1 (cn (dC s))) := by
  obtain ⟨a1, a2, a3, a4, a5⟩ := h
  refine ⟨fun hk st => ?_, a2, a3, ?_, ?_⟩
  · show lyS z (T ++ [(5, 0)]) (cBg z (dC s), cn (dC s) :: st) = _
    rw [lyS_app]
    have := a1 (fun x hx => hk x (List.mem_cons_of_mem _ (List.mem_append_left _ hx))) (cn (dC s) :: st)
    rw [show (dC (dB z s)) = cBg z (dC s) from rfl] at this
    rw [this]
    rfl
  · show dU s1 = -1 ↔ _
    rw [a4]
    have e : dU (dB z s) = dU s := rfl
    rw [e]
    refine ⟨fun h => ⟨h.1, ?_⟩, fun h => ⟨h.1, ?_⟩⟩
    · intro x hx
      rcases List.mem_cons.mp hx with w | w
      · rw [w]
        exact fun e => absurd e (by decide)
      · rcases List.mem_append.mp w with w | w
        · exact h.2 x w
        · rw [List.mem_singleton.mp w]
          exact fun e => absurd e (by decide)
    · exact fun x hx => h.2 x (List.mem_cons_of_mem _ (List.mem_append_left _ hx))
  · show dU s1 = uMf (T ++ [(5, 0)]) (uM1 (4, 0) (dU s))
    rw [uM1_n (show ¬ (4 : Int32) = 6 by decide), uMf_app]
    show dU s1 = uM1 (5, 0) (uMf T (dU s))
    rw [uM1_n (show ¬ (5 : Int32) = 6 by decide)]
    exact a5
end ZA
def LTR (t : tS) : Option Nat → List Nat → Prop
  | o, [] => o = none
  | o, c :: ls => ∃ i, o = some i ∧ i < tn t ∧ tV t i = nI c ∧ LTR t (tN t i) ls
def FRM (t : tS) (F : Nat → Option Nat) : Nat → Fr → Prop
  | k, [] => k = 0
  | k, ls :: φ => ∃ j, k = j + 1 ∧ LTR t (F j) ls ∧ ls.length ≤ 3 ∧ (∀ c ∈ ls, c < 256) ∧ FRM t F j φ
theorem FRM_len {t : tS} {F : Nat → Option Nat} : ∀ {φ : Fr} {k : Nat}, FRM t F k φ → k = φ.length
  | [], k, h => h
  | ls :: φ, k, ⟨j, h1, _, _, _, h2⟩ => by rw [h1, FRM_len h2]; rfl
theorem FRM_ag {t : tS} {F F' : Nat → Option Nat} : ∀ {φ : Fr} {k : Nat}, (∀ i, i < k → F' i = F i) → FRM t F k φ → FRM t F' k φ
  | [], k, _, h => h
  | ls :: φ, k, hF, ⟨j, h1, h2, h3, h4, h5⟩ => ⟨j, h1, by rw [hF j (by omega)]; exact h2, h3, h4, FRM_ag (fun i hi => hF i (by omega)) h5⟩
theorem FRM_res {z : Nat} {T : TL} {t : tS} {s s' : cD_} {φ : Fr} (h : RES z T s s') (hf : FRM t (dF s) (dK s) φ) : FRM t (dF s') (dK s') φ := by
  obtain ⟨-, h2, h3, -⟩ := h
  rw [h2]
  exact FRM_ag h3 hf
theorem plc_sh (c : Nat) : ∀ (ls : List Nat) (i : Nat), plc c ls i = (plc c ls 0).map (· + i)
  | [], i => rfl
  | y :: ls, i => by
    have e1 : plc c (y :: ls) i = if y = c then some i else plc c ls (i + 1) := rfl
    have e2 : plc c (y :: ls) 0 = if y = c then some 0 else plc c ls (0 + 1) := rfl
    rw [e1, e2]
    split
    · show some i = some (0 + i)
      rw [Nat.zero_add]
    · rw [plc_sh c ls (i + 1), plc_sh c ls (0 + 1), Option.map_map]
      congr 1
      funext x
      show x + (i + 1) = x + (0 + 1) + i
      omega
theorem tPl_plc {t : tS} {c : Nat} (hc : c < 256) : ∀ (ls : List Nat) (o : Option Nat) (k : Nat), LTR t o ls → (∀ y ∈ ls, y < 256) → ls.length < k → tPl t (nI c) k o = plc c ls 0
  | [], o, k, h, _, hk => by
    rw [show o = none from h]
    cases k with
    | zero => rfl
    | succ k => rfl
  | y :: ls, o, k, ⟨i, h1, h2, h3, h4⟩, hl, hk => by
    subst h1
    cases k with
    | zero => exact absurd hk (Nat.not_lt_zero _)
    | succ k =>
      have e1 : tPl t (nI c) (k + 1) (some i) = if i < tn t then (if tV t i = nI c then some 0 else (tPl t (nI c) k (tN t i)).map (· + 1)) else none := rfl
      have e2 : plc c (y :: ls) 0 = if y = c then some 0 else plc c ls (0 + 1) := rfl
      have hy := hl y List.mem_cons_self
      have hk : ls.length + 1 < k + 1 := hk
      rw [e1, if_pos h2, e2, h3]
      by_cases e : y = c
      · rw [if_pos (by rw [e]), if_pos e]
      · rw [if_neg (fun q => e (nIj (by omega) (by omega) q)), if_neg e, tPl_plc hc ls (tN t i) k h4 (fun q hq => hl q (List.mem_cons_of_mem _ hq)) (by omega), plc_sh c ls (0 + 1)]
theorem dPl_lk {t : tS} {F : Nat → Option Nat} {c : Nat} (hc : c < 256) : ∀ (φ : Fr) (k i kn : Nat), FRM t F k φ → kn = k + i → dPl t F (nI c) kn k i = lkF c (-1) φ i
  | [], k, i, kn, h, _ => by
    rw [show k = 0 from h]
    rfl
  | ls :: φ, k, i, kn, ⟨j, h1, h2, h3, h4, h5⟩, hk => by
    subst h1
    have e1 : dPl t F (nI c) kn (j + 1) i = match tPl t (nI c) 96 (F (kn - 1 - i)) with | some p => nI (16 * i + p) | none => dPl t F (nI c) kn j (i + 1) := rfl
    have e2 : lkF c (-1) (ls :: φ) i = match plc c ls 0 with | some p => nI (16 * i + p) | none => lkF c (-1) φ (i + 1) := rfl
    rw [e1, e2, show kn - 1 - i = j by omega, tPl_plc hc ls (F j) 96 h2 h4 (by omega), dPl_lk hc φ j (i + 1) kn h5 (by omega)]
theorem plc_b {c : Nat} : ∀ (ls : List Nat) (i p : Nat), plc c ls i = some p → p < i + ls.length
  | [], i, p, h => by cases h
  | y :: ls, i, p, h => by
    have h : (if y = c then some i else plc c ls (i + 1)) = some p := h
    show p < i + (ls.length + 1)
    split at h
    · cases h
      omega
    · have := plc_b ls (i + 1) p h
      omega
theorem lkF_or {t : tS} {F : Nat → Option Nat} {c : Nat} {u : Int32} : ∀ (φ : Fr) (k i : Nat), FRM t F k φ → i + φ.length ≤ 600 → (lkF c (-1) φ i = -1 ∧ lkF c u φ i = u) ∨ ∃ X, X < 10000 ∧ lkF c (-1) φ i = nI X ∧ lkF c u φ i = nI X
  | [], k, i, h, _ => Or.inl ⟨rfl, rfl⟩
  | ls :: φ, k, i, ⟨j, h1, h2, h3, h4, h5⟩, hi => by
    have hi : i + (φ.length + 1) ≤ 600 := hi
    have e2 : ∀ u, lkF c u (ls :: φ) i = match plc c ls 0 with | some p => nI (16 * i + p) | none => lkF c u φ (i + 1) := fun _ => rfl
    rw [e2, e2]
    cases hp : plc c ls 0 with
    | none => exact lkF_or φ j (i + 1) h5 (by omega)
    | some p =>
      have := plc_b ls 0 p hp
      exact Or.inr ⟨16 * i + p, by omega, rfl, rfl⟩
theorem nI_nn {n : Nat} (h : n < 2 ^ 31) : ¬ nI n = -1 := oV_ne (k := n) h
theorem dNo_U {s : cD_} {a : Nat} (ha : a ≤ 96) : ¬ dU (dNo s (nI a)) = -1 ∧ dC (dNo s (nI a)) = dC s ∧ dF (dNo s (nI a)) = dF s ∧ dK (dNo s (nI a)) = dK s := by
  unfold dNo
  split
  · exact ⟨nI_nn (by omega), rfl, rfl, rfl⟩
  · next h => exact ⟨fun e => h (Or.inl e), rfl, rfl, rfl⟩
theorem RES_va {z : Nat} {t : tS} {s : cD_} {φ : Fr} {c a n : Nat} (hc : c < 256) (ha : a ≤ 96) (hn : n < tn t) (hv : tV t n = nI c) (hp : tP t n = nI a) (hφ : φ.length ≤ 600) (hf : FRM t (dF s) (dK s) φ) : RES z [(1, 2), (6, lkF c (uP a) φ 0)] s (dVa z t (some n) s) := by
  have ev : tEi t (tV t) (some n) = nI c := (if_pos hn).trans hv
  have ep : tEi t (tP t) (some n) = nI a := (if_pos hn).trans hp
  have el := dPl_lk (F := dF s) hc φ (dK s) 0 (dK s) hf rfl
  have eo : ∀ u, uM1 ((1 : Int32), (2 : Int32)) u = u := fun u => uM1_n (show ¬ (1 : Int32) = 6 by decide)
  unfold dVa
  rw [ev, ep, el]
  rcases lkF_or (c := c) (u := uP a) φ (dK s) 0 hf (by omega) with ⟨e, e'⟩ | ⟨X, hX, e, e'⟩
  · rw [if_pos e]
    obtain ⟨u1, u2, u3, u4⟩ := dNo_U (s := s) ha
    have hn : uP a < 0 := uP_neg ha
    have nk : ¬ knT [(1, 2), (6, lkF c (uP a) φ 0)] := fun h => h (6, lkF c (uP a) φ 0) (List.mem_cons_of_mem _ List.mem_cons_self) rfl (by rw [e']; exact hn)
    refine ⟨fun h => absurd h nk, u4, fun i _ => by show dF (dNo s (nI a)) i = _; rw [u3], ⟨fun h => absurd h u1, fun h => absurd h.2 nk⟩, ?_⟩
    show dU (dNo s (nI a)) = uMf [(1, 2), (6, lkF c (uP a) φ 0)] (dU s)
    rw [e']
    show dU (dNo s (nI a)) = uM1 (6, uP a) (uM1 (1, 2) (dU s))
    have e3 : uM1 ((6 : Int32), uP a) (dU s) = if dU s = -1 ∨ uP a + 128 < dU s then uP a + 128 else dU s := if_pos ⟨rfl, hn⟩
    rw [eo, e3, uP_128]
    unfold dNo
    by_cases hc2 : dU s = -1 ∨ nI a < dU s
    · rw [if_pos hc2, if_pos hc2]
      rfl
    · rw [if_neg hc2, if_neg hc2]
  · rw [if_neg (by rw [e]; exact nI_nn (by omega))]
    refine ⟨fun _ st => ?_, rfl, fun _ _ => rfl, ⟨fun h => ⟨h, fun x hx h6 => ?_⟩, fun h => h.1⟩, ?_⟩
    · show (cAp z (cAp z (dC s) (vInt 2)) (vInt (lkF c (uP a) φ 0)), st) = (cAp z (cAp z (dC s) (vInt 2)) (vInt (lkF c (-1) φ 0)), st)
      rw [e, e']
    · rcases List.mem_cons.mp hx with w | w
      · rw [w] at h6
        exact absurd h6 (by decide)
      · rw [List.mem_singleton.mp w]
        show ¬ lkF c (uP a) φ 0 < 0
        rw [e']
        exact nI_pos (by omega)
    · show dU s = uM1 (6, lkF c (uP a) φ 0) (uM1 (1, 2) (dU s))
      rw [eo, e']
      exact (if_neg (fun q => nI_pos (n := X) (by omega) q.2)).symm
end
section
abbrev KP : Type := tS → Nat → Prop
def agN (t t' : tS) (n e : Nat) : Prop := (∀ i, n ≤ i → i < e → tK t' i = tK t i ∧ tV t' i = tV t i ∧ tP t' i = tP t i ∧ tF t' i = tF t i) ∧ ∀ i, n < i → i < e → tN t' i = tN t i
def STB (P : KP) (t : tS) (n e : Nat) : Prop := ∀ t', agN t t' n e → e ≤ tn t' → P t' n
def sgP (t : tS) : List KP → List Nat → Nat → Nat → Prop
  | [], [], a, e => a = e
  | P :: Ps, c :: cs, a, e => c = a ∧ ∃ b, c < b ∧ STB P t c b ∧ sgP t Ps cs b e
  | [], _ :: _, _, _ => False
  | _ :: _, [], _, _ => False
def F2K (t : tS) : List KP → List Nat → Prop
  | [], [] => True
  | P :: Ps, c :: cs => (c < tn t ∧ P t c) ∧ F2K t Ps cs
  | [], _ :: _ => False
  | _ :: _, [] => False
def NODE (k v p : Int32) (Ps : List KP) : KP := fun t n => n < tn t ∧ (tK t n = k ∧ tV t n = v ∧ tP t n = p) ∧ Ps.length ≤ 96 ∧ ∃ cs, chain t (tF t n) cs ∧ F2K t Ps cs
def agA (n : Nat) (t t' : tS) : Prop := ∀ i, i < n → (tK t' i = tK t i ∧ tV t' i = tV t i ∧ tP t' i = tP t i) ∧ tF t' i = tF t i ∧ tL t' i = tL t i ∧ tN t' i = tN t i
def OpQ (t0 t : tS) (n : Nat) (k v p : Int32) (Ps : List KP) : Prop := n = tn t0 ∧ n < tn t ∧ (tK t n = k ∧ tV t n = v ∧ tP t n = p) ∧ (∃ cs, chain t (tF t n) cs ∧ sgP t Ps cs (n + 1) (tn t) ∧ tL t n = cs.getLast?) ∧ tN t n = none ∧ agA n t0 t
def WR (t : tS) (P : KP) (c : Nat) (t' : tS) : Prop := c = tn t ∧ STB P t' (tn t) (tn t') ∧ tn t < tn t' ∧ tN t' (tn t) = none ∧ agA (tn t) t t'
theorem agA.tr {n : Nat} {a b c : tS} (h1 : agA n a b) (h2 : agA n b c) : agA n a c := fun i hi => by
  obtain ⟨⟨p1, p2, p3⟩, p4, p5, p6⟩ := h1 i hi
  obtain ⟨⟨q1, q2, q3⟩, q4, q5, q6⟩ := h2 i hi
  exact ⟨⟨q1.trans p1, q2.trans p2, q3.trans p3⟩, q4.trans p4, q5.trans p5, q6.trans p6⟩
theorem agA.le {n k : Nat} {a b : tS} (h : agA n a b) (hk : k ≤ n) : agA k a b := fun i hi => h i (by omega)
theorem agA_add {t : tS} {k v p : Int32} : agA (tn t) t (tAdd t k v p) := fun i hi => by
  have : i ≠ tn t := by omega
  exact ⟨⟨if_neg this, if_neg this, if_neg this⟩, if_neg this, if_neg this, if_neg this⟩
theorem agN_sub {t t' : tS} {n e n2 e2 : Nat} (h : agN t t' n e) (h1 : n ≤ n2) (h2 : e2 ≤ e) : agN t t' n2 e2 := ⟨fun i a b => h.1 i (by omega) (by omega), fun i a b => h.2 i (by omega) (by omega)⟩
theorem agN_tr {a b c : tS} {n e : Nat} (h1 : agN a b n e) (h2 : agN b c n e) : agN a c n e := by
  refine ⟨fun i q1 q2 => ?_, fun i q1 q2 => (h2.2 i q1 q2).trans (h1.2 i q1 q2)⟩
  obtain ⟨p1, p2, p3, p4⟩ := h1.1 i q1 q2
  obtain ⟨r1, r2, r3, r4⟩ := h2.1 i q1 q2
  exact ⟨r1.trans p1, r2.trans p2, r3.trans p3, r4.trans p4⟩
theorem STB_ag {P : KP} {t t2 : tS} {n e : Nat} (h : STB P t n e) (ha : agN t t2 n e) : STB P t2 n e := fun t' h1 h2 => h t' (agN_tr ha h1) h2
theorem STB_mono {P R : KP} {t : tS} {n e : Nat} (h : STB P t n e) (hr : ∀ t', P t' n → R t' n) : STB R t n e := fun t' h1 h2 => hr t' (h t' h1 h2)
theorem agN_A {t t2 : tS} {n a e : Nat} (h : agA n t t2) (he : e ≤ n) : agN t t2 a e := by
  refine ⟨fun i _ q2 => ?_, fun i _ q2 => (h i (by omega)).2.2.2⟩
  obtain ⟨⟨p1, p2, p3⟩, p4, -, -⟩ := h i (by omega)
  exact ⟨p1, p2, p3, p4⟩
theorem sgP_le {t : tS} : ∀ {Ps : List KP} {cs : List Nat} {a e : Nat}, sgP t Ps cs a e → a + Ps.length ≤ e
  | [], [], a, e, h => Nat.le_of_eq h
  | P :: Ps, c :: cs, a, e, ⟨h1, b, h2, h3, h4⟩ => by
    have := sgP_le h4
    show a + (Ps.length + 1) ≤ e
    omega
  | [], _ :: _, a, e, h => absurd h id
  | _ :: _, [], a, e, h => absurd h id
theorem sgP_in {t : tS} : ∀ {Ps : List KP} {cs : List Nat} {a e : Nat}, sgP t Ps cs a e → ∀ c, c ∈ cs → a ≤ c ∧ c < e
  | [], [], a, e, h, c, hc => by cases hc
  | P :: Ps, d :: cs, a, e, ⟨h1, b, h2, h3, h4⟩, c, hc => by
    have := sgP_le h4
    rcases List.mem_cons.mp hc with rfl | hc
    · omega
    · have := sgP_in h4 c hc
      omega
  | [], _ :: _, a, e, h, _, _ => absurd h id
  | _ :: _, [], a, e, h, _, _ => absurd h id
theorem sgP_nodup {t : tS} : ∀ {Ps : List KP} {cs : List Nat} {a e : Nat}, sgP t Ps cs a e → cs.Nodup
  | [], [], a, e, h => List.nodup_nil
  | P :: Ps, c :: cs, a, e, ⟨h1, b, h2, h3, h4⟩ => by
    refine List.nodup_cons.mpr ⟨fun hc => ?_, sgP_nodup h4⟩
    have := sgP_in h4 c hc
    omega
  | [], _ :: _, a, e, h => absurd h id
  | _ :: _, [], a, e, h => absurd h id
theorem sgP_ag {t t2 : tS} : ∀ {Ps : List KP} {cs : List Nat} {a e : Nat}, (∀ i, a ≤ i → i < e → tK t2 i = tK t i ∧ tV t2 i = tV t i ∧ tP t2 i = tP t i ∧ tF t2 i = tF t i) → (∀ i, a ≤ i → i < e → i ∉ cs → tN t2 i = tN t i) → sgP t Ps cs a e → sgP t2 Ps cs a e
  | [], [], a, e, _, _, h => h
  | P :: Ps, c :: cs, a, e, hF, hN, ⟨h1, b, h2, h3, h4⟩ => by
    have hle := sgP_le h4
    refine ⟨h1, b, h2, STB_ag h3 ⟨fun i q1 q2 => hF i (by omega) (by omega), fun i q1 q2 => hN i (by omega) (by omega) (fun hc => ?_)⟩, sgP_ag (fun i q1 q2 => hF i (by omega) q2) (fun i q1 q2 q3 => hN i (by omega) q2 (fun hc => ?_)) h4⟩
    · rcases List.mem_cons.mp hc with w | w
      · omega
      · have := sgP_in h4 i w
        omega
    · rcases List.mem_cons.mp hc with w | w
      · omega
      · exact q3 w
  | [], _ :: _, a, e, _, _, h => absurd h id
  | _ :: _, [], a, e, _, _, h => absurd h id
theorem sgP_snoc {t : tS} {P : KP} {c e : Nat} (hp : STB P t c e) (hc : c < e) : ∀ {Ps : List KP} {cs : List Nat} {a : Nat}, sgP t Ps cs a c → sgP t (Ps ++ [P]) (cs ++ [c]) a e
  | [], [], a, h => ⟨h.symm, e, hc, hp, rfl⟩
  | Q :: Ps, d :: cs, a, ⟨h1, b, h2, h3, h4⟩ => ⟨h1, b, h2, h3, sgP_snoc hp hc h4⟩
  | [], _ :: _, a, h => absurd h id
  | _ :: _, [], a, h => absurd h id
theorem sgP_F2 {t : tS} : ∀ {Ps : List KP} {cs : List Nat} {a e : Nat} (t' : tS), (∀ c b, a ≤ c → b ≤ e → agN t t' c b) → e ≤ tn t' → sgP t Ps cs a e → F2K t' Ps cs
  | [], [], a, e, t', _, _, h => trivial
  | P :: Ps, c :: cs, a, e, t', hA, he, ⟨h1, b, h2, h3, h4⟩ => by
    have hle := sgP_le h4
    exact ⟨⟨by omega, h3 t' (hA c b (by omega) (by omega)) (by omega)⟩, sgP_F2 t' (fun c2 b2 q1 q2 => hA c2 b2 (by omega) q2) he h4⟩
  | [], _ :: _, a, e, t', _, _, h => absurd h id
  | _ :: _, [], a, e, t', _, _, h => absurd h id
theorem opq_new {t : tS} {k v p : Int32} : OpQ t (tAdd t k v p) (tn t) k v p [] := by
  refine ⟨rfl, Nat.lt_succ_self _, ⟨if_pos rfl, if_pos rfl, if_pos rfl⟩, ⟨[], if_pos rfl, rfl, if_pos rfl⟩, if_pos rfl, agA_add⟩
theorem opq_part {t0 t t2 : tS} {n c : Nat} {k v p : Int32} {Ps : List KP} {P : KP} (h : OpQ t0 t n k v p Ps) (hw : WR t P c t2) : OpQ t0 (tPart t2 n c) n k v p (Ps ++ [P]) := by
  obtain ⟨h0, h1, ⟨hk, hv, hp⟩, ⟨cs, h2, h3, h4⟩, h5, h6⟩ := h
  obtain ⟨rfl, hs, hc, hN, ha⟩ := hw
  obtain ⟨⟨a1, a2, a3⟩, hF, hL, hNn⟩ := ha n h1
  have hL : tL t2 n = cs.getLast? := hL.trans h4
  have hin : ∀ c, c ∈ cs → n + 1 ≤ c ∧ c < tn t := sgP_in h3
  have h3' : sgP t2 Ps cs (n + 1) (tn t) := sgP_ag (fun i _ q2 => by obtain ⟨⟨p1, p2, p3⟩, p4, -, -⟩ := ha i q2; exact ⟨p1, p2, p3, p4⟩) (fun i _ q2 _ => (ha i q2).2.2.2) h3
  have h2' : chain t2 (tF t2 n) cs := by
    rw [hF]
    exact chain_fr (fun c hc => (ha c (hin c hc).2).2.2.2) h2
  have hA6 : agA n t0 t2 := h6.tr (ha.le (Nat.le_of_lt h1))
  unfold tPart
  cases hg : cs.getLast? with
  | none =>
    have hcs : cs = [] := List.getLast?_eq_none_iff.mp hg
    subst hcs
    rw [hL, hg]
    refine ⟨h0, by show n < tn t2; omega, ⟨a1.trans hk, a2.trans hv, a3.trans hp⟩, ⟨[tn t], ?_, ?_, ?_⟩, hNn.trans h5, fun i hi => ?_⟩
    · show chain _ (upW (tF t2) n (some (tn t)) n) [tn t]
      rw [show upW (tF t2) n (some (tn t)) n = some (tn t) from if_pos rfl]
      exact ⟨rfl, hN⟩
    · have hPs : Ps = [] := by
        cases Ps with
        | nil => rfl
        | cons P Ps => exact absurd h3 id
      subst hPs
      have h3 : n + 1 = tn t := h3
      refine ⟨h3.symm, tn t2, hc, ?_, rfl⟩
      exact STB_ag hs ⟨fun i q1 q2 => ⟨rfl, rfl, rfl, if_neg (by omega)⟩, fun i q1 q2 => rfl⟩
    · show upW (tL t2) n (some (tn t)) n = some (tn t)
      exact if_pos rfl
    · have hne : i ≠ n := by omega
      obtain ⟨b1, b2, b3, b4⟩ := hA6 i hi
      exact ⟨b1, (if_neg hne).trans b2, (if_neg hne).trans b3, b4⟩
  | some l =>
    have hlm := List.mem_of_getLast? hg
    have hl := hin l hlm
    rw [hL, hg]
    have eN : ∀ d, d ≠ l → upW (tN t2) l (some (tn t)) d = tN t2 d := fun d hd => if_neg hd
    refine ⟨h0, by show n < tn t2; omega, ⟨a1.trans hk, a2.trans hv, a3.trans hp⟩, ⟨cs ++ [tn t], ?_, ?_, ?_⟩, ?_, fun i hi => ?_⟩
    · show chain _ (tF t2 n) (cs ++ [tn t])
      refine chain_snoc (t := t2) (l := l) ?_ ?_ (fun d _ hd => eN d hd) hg (sgP_nodup h3) h2'
      · show upW (tN t2) l (some (tn t)) (tn t) = none
        rw [eN _ (by omega)]
        exact hN
      · show upW (tN t2) l (some (tn t)) l = some (tn t)
        exact if_pos rfl
    · refine sgP_snoc ?_ hc (sgP_ag (t := t2) (fun i _ _ => ⟨rfl, rfl, rfl, rfl⟩) (fun i _ _ q3 => eN i (fun e => q3 (by rw [e]; exact hlm))) h3')
      exact STB_ag hs ⟨fun i q1 q2 => ⟨rfl, rfl, rfl, rfl⟩, fun i q1 q2 => eN i (by omega)⟩
    · show upW (tL t2) n (some (tn t)) n = (cs ++ [tn t]).getLast?
      rw [List.getLast?_append, List.getLast?_singleton]
      exact if_pos rfl
    · show upW (tN t2) l (some (tn t)) n = none
      rw [eN n (by omega)]
      exact hNn.trans h5
    · have hne : i ≠ n := by omega
      have hnl : i ≠ l := by omega
      obtain ⟨b1, b2, b3, b4⟩ := hA6 i hi
      exact ⟨b1, b2, (if_neg hne).trans b3, (eN i hnl).trans b4⟩
theorem opq_node {t0 t : tS} {n : Nat} {k v p : Int32} {Ps : List KP} (h : OpQ t0 t n k v p Ps) (h96 : tn t ≤ 96) : STB (NODE k v p Ps) t n (tn t) := by
  obtain ⟨h0, h1, ⟨hk, hv, hp⟩, ⟨cs, h2, h3, h4⟩, h5, h6⟩ := h
  intro t' ha he
  obtain ⟨b1, b2, b3, b4⟩ := ha.1 n (Nat.le_refl _) h1
  have hin := sgP_in h3
  have hle := sgP_le h3
  refine ⟨by omega, ⟨b1.trans hk, b2.trans hv, b3.trans hp⟩, by omega, cs, ?_, ?_⟩
  · rw [b4]
    exact chain_fr (fun c hc => ha.2 c (by have := hin c hc; omega) (hin c hc).2) h2
  · exact sgP_F2 t' (fun c b q1 q2 => agN_sub ha (by omega) q2) he h3
theorem opq_done {t0 t : tS} {n : Nat} {k v p : Int32} {Ps : List KP} {P : KP} (h : OpQ t0 t n k v p Ps) (h96 : tn t ≤ 96) (hP : ∀ t', NODE k v p Ps t' n → P t' n) : WR t0 P n t := by
  have hn := opq_node h h96
  obtain ⟨rfl, h1, -, -, h5, h6⟩ := h
  exact ⟨rfl, STB_mono hn hP, h1, h5, h6⟩
theorem opq_cur {t0 t : tS} {n : Nat} {k v p : Int32} {Ps : List KP} (h : OpQ t0 t n k v p Ps) (h96 : tn t ≤ 96) : NODE k v p Ps t n := opq_node h h96 t ⟨fun _ _ _ => ⟨rfl, rfl, rfl, rfl⟩, fun _ _ _ => rfl⟩ (Nat.le_refl _)
theorem WR_mono {t t' : tS} {P R : KP} {c : Nat} (h : WR t P c t') (hr : ∀ t', P t' c → R t' c) : WR t R c t' := by
  obtain ⟨rfl, h2, h3⟩ := h
  exact ⟨rfl, STB_mono h2 hr, h3⟩
end
section
def XP (z d : Nat) (τ : Tau) : KP := fun t n => ∀ (f δ : Nat) (s : cD_) (φ : Fr), δ ≤ d → 11 ≤ f + δ → φ.length ≤ d → FRM t (dF s) (dK s) φ → RES z (τ φ) s (dEx z t f δ (some n) s)
def DP (z d : Nat) (D : TL) : KP := fun t n => ∀ (f δ : Nat) (s : cD_), δ ≤ d → 11 ≤ f + δ → RES z D s (dDa z t f δ (some n) s)
def PP (ls : List Nat) : KP := fun t n => n < tn t ∧ LTR t (tF t n) ls
def LtP (c : Nat) : KP := fun t n => tV t n = nI c
def BP (z d c : Nat) (τ : Tau) : KP := fun t n => n < tn t ∧ tV t n = nI c ∧ ∃ j, tF t n = some j ∧ XP z d τ t j
def GOX (z : Nat) (t : tS) (go : Option Nat → cD_ → cD_) (c : Nat) (τ : Tau) (φ : Fr) : Prop := ∀ s, FRM t (dF s) (dK s) φ → RES z (τ φ) s (go (some c) s)
theorem XP_go {z d g δ c : Nat} {t : tS} {τ : Tau} {φ : Fr} (h : XP z d τ t c) (h1 : δ + 1 ≤ d) (h2 : 11 ≤ g + 1 + δ) (h3 : φ.length ≤ d) : GOX z t (dEx z t g (δ + 1)) c τ φ := fun s hs => h g (δ + 1) s φ h1 (by omega) h3 hs
theorem F2K_lt {t : tS} : ∀ {Ps : List KP} {cs : List Nat}, F2K t Ps cs → ∀ c, c ∈ cs → c < tn t
  | [], [], _, c, hc => by cases hc
  | P :: Ps, d :: cs, ⟨h1, h2⟩, c, hc => by
    rcases List.mem_cons.mp hc with rfl | hc
    · exact h1.1
    · exact F2K_lt h2 c hc
  | [], _ :: _, h, _, _ => absurd h id
  | _ :: _, [], h, _, _ => absurd h id
theorem F2K_len {t : tS} : ∀ {Ps : List KP} {cs : List Nat}, F2K t Ps cs → cs.length = Ps.length
  | [], [], _ => rfl
  | P :: Ps, d :: cs, ⟨_, h2⟩ => congrArg (· + 1) (F2K_len h2)
  | [], _ :: _, h => absurd h id
  | _ :: _, [], h => absurd h id
theorem F2K_get {t : tS} {P : KP} : ∀ {Ps : List KP} {cs : List Nat} (i : Nat), F2K t Ps cs → Ps[i]? = some P → ∃ c, cs[i]? = some c ∧ c < tn t ∧ P t c
  | [], [], i, _, h => by cases h
  | Q :: Ps, d :: cs, 0, ⟨h1, _⟩, h => by
    cases h
    exact ⟨d, rfl, h1.1, h1.2⟩
  | Q :: Ps, d :: cs, i + 1, ⟨_, h2⟩, h => F2K_get i h2 h
  | [], _ :: _, _, h, _ => absurd h id
  | _ :: _, [], _, h, _ => absurd h id
theorem chain_cn {t : tS} : ∀ (cs : List Nat) (o : Option Nat) (k : Nat), (∀ c, c ∈ cs → c < tn t) → cs.length ≤ k → chain t o cs → tCn t k o = cs.length
  | [], o, k, _, _, h => by
    rw [show o = none from h]
    cases k <;> rfl
  | c :: cs, o, 0, _, hk, _ => absurd hk (Nat.not_succ_le_zero _)
  | c :: cs, o, k + 1, hc, hk, ⟨h1, h2⟩ => by
    rw [h1]
    show tCn t k (tEn t (tN t) (some c)) + 1 = cs.length + 1
    rw [tEn_in (hc c List.mem_cons_self), chain_cn cs _ k (fun d hd => hc d (List.mem_cons_of_mem _ hd)) (Nat.le_of_succ_le_succ hk) h2]
theorem NODE_s {k v p : Int32} {Ps : List KP} {t : tS} {n : Nat} (h : NODE k v p Ps t n) : tEi t (tK t) (some n) = k ∧ tEi t (tV t) (some n) = v ∧ tCn t 96 (tEn t (tF t) (some n)) = Ps.length ∧ (∀ i, Ps.length ≤ i → dPt t i (some n) = none) ∧ ∀ i P, Ps[i]? = some P → ∃ c, dPt t i (some n) = some c ∧ c < tn t ∧ P t c := by
  obtain ⟨h1, ⟨hk, hv, hp⟩, h96, cs, h2, h3⟩ := h
  have hl := F2K_len h3
  have hpt : ∀ i, dPt t i (some n) = cs[i]? := fun i => by
    unfold dPt
    rw [tEn_in h1]
    exact chain_pt cs _ i (F2K_lt h3) h2
  refine ⟨(if_pos h1).trans hk, (if_pos h1).trans hv, ?_, fun i hi => ?_, fun i P hi => ?_⟩
  · rw [tEn_in h1, chain_cn cs _ 96 (F2K_lt h3) (by omega) h2, hl]
  · rw [hpt]
    exact List.getElem?_eq_none (by omega)
  · obtain ⟨c, q1, q2, q3⟩ := F2K_get i h3 hi
    exact ⟨c, (hpt i).trans q1, q2, q3⟩
theorem FRM_I {z : Nat} {t : tS} {s : cD_} {φ : Fr} {x : Int32} (h : FRM t (dF s) (dK s) φ) : FRM t (dF (dI z s x)) (dK (dI z s x)) φ := h
section ZC
variable {z : Nat} {t : tS} {go : Option Nat → cD_ → cD_} {φ : Fr} {s s1 : cD_} {τ : Tau} {c : Nat}
theorem RES_lst {i : Int32} (h : GOX z t go c τ φ) (hs : FRM t (dF s) (dK s) φ) : RES z (lstT i τ φ) s (dLi z go (some c) i s) := by
  have h1 := h (dB z s) hs
  have h2 := RES_li (RES_app h1 (RES_I (z := z) i))
  unfold lstT
  rw [show τ φ ++ [((1 : Int32), i), (5, 0)] = (τ φ ++ [(1, i)]) ++ [(5, 0)] by rw [List.append_assoc]; rfl]
  exact h2
theorem RES_BA : RES z [(1, 1), (0, 0)] s (dBA z s) := RES_app (RES_I (z := z) 1) (RES_N (z := z))
theorem RES_en {T : TL} {fl : Option Nat} {ls : List Nat} (hk : dK s < 9) (h : FRM t (upW (dF s) (dK s) fl) (dK s + 1) (ls :: φ) → RES z T (dEn s fl) s1) (hf : LTR t fl ls) (h3 : ls.length ≤ 3) (hc : ∀ c ∈ ls, c < 256) (hs : FRM t (dF s) (dK s) φ) : RES z T s (dLv s1) := by
  have e : dEn s fl = (dC s, upW (dF s) (dK s) fl, dK s + 1, dU s) := if_pos hk
  have hF : FRM t (upW (dF s) (dK s) fl) (dK s + 1) (ls :: φ) := ⟨dK s, rfl, by rw [show upW (dF s) (dK s) fl (dK s) = fl from if_pos rfl]; exact hf, h3, hc, FRM_ag (fun i hi => if_neg (by omega)) hs⟩
  have h1 := h hF
  rw [e] at h1
  obtain ⟨a1, a2, a3, a4⟩ := h1
  refine ⟨a1, ?_, fun i hi => ?_, a4⟩
  · show dK s1 - 1 = dK s
    have a2 : dK s1 = dK s + 1 := a2
    omega
  · have := a3 i (show i < dK s + 1 by omega)
    exact this.trans (if_neg (by omega))
theorem RES_bo {fl : Option Nat} {ls : List Nat} (h : GOX z t go c τ (ls :: φ)) (hf : LTR t fl ls) (h3 : ls.length ≤ 3) (hc : ∀ c ∈ ls, c < 256) (hs : FRM t (dF s) (dK s) φ) (hk : dK s < 9) : RES z (boT (τ, 0) ls φ) s (dBo z go (some c) fl s) := by
  have h1 : RES z [(1, 3)] s (dI z s 3) := RES_I (z := z) 3
  have h2 : RES z (lstT 5 τ (ls :: φ)) (dI z s 3) (dLv (dLi z go (some c) 5 (dEn (dI z s 3) fl))) := by
    refine RES_en (t := t) (φ := φ) (ls := ls) (fl := fl) hk (fun hF => ?_) hf h3 hc hs
    refine RES_lst h ?_
    rw [show dEn (dI z s 3) fl = (dC (dI z s 3), upW (dF s) (dK s) fl, dK s + 1, dU s) from if_pos hk]
    exact hF
  exact RES_app h1 h2
theorem RES_as {pick : Nat → Option Nat} (ks : List Kd) (hk : ∀ i k, ks[i]? = some k → ∃ c, pick (i + 1) = some c ∧ GOX z t go c k.1 φ) : ∀ (j : Nat) (s0 : cD_), j ≤ ks.length → FRM t (dF s0) (dK s0) φ → RES z (rowT (ks.drop j) φ) s s0 → RES z (rowT ks φ) s (dAs z go pick j s0)
  | 0, s0, _, _, h => h
  | j + 1, s0, hj, hs, h => by
    have hg : ks[j]? = some ks[j] := List.getElem?_eq_getElem hj
    obtain ⟨c, e, hx⟩ := hk j _ hg
    have hd : ks.drop j = ks[j] :: ks.drop (j + 1) := List.drop_eq_getElem_cons hj
    have h1 := RES_app (hx s0 hs) (RES_I (z := z) 13)
    show RES z (rowT ks φ) s (dAs z go pick j (dAr z go (pick (j + 1)) s0))
    rw [e]
    refine RES_as ks hk j _ (by omega) (FRM_res h1 hs) ?_
    rw [hd]
    exact RES_app h h1
theorem RES_row {pick : Nat → Option Nat} (ks : List Kd) (hk : ∀ i k, ks[i]? = some k → ∃ c, pick (i + 1) = some c ∧ GOX z t go c k.1 φ) (hs : FRM t (dF s) (dK s) φ) : RES z (rowT ks φ) s (dAs z go pick ks.length (dBA z s)) := by
  refine RES_as ks hk ks.length _ (Nat.le_refl _) (FRM_res (RES_BA (z := z)) hs) ?_
  rw [List.drop_length]
  exact RES_BA
end ZC
theorem opO_cs {c o : Nat} (h : opO c = some o) : (c = 63 ∧ o = 8) ∨ (c = 94 ∧ o = 10) ∨ (c = 95 ∧ o = 11) ∨ (c = 33 ∧ o = 12) ∨ (c = 46 ∧ o = 13) ∨ (c = 61 ∧ o = 14) ∨ (c = 43 ∧ o = 15) ∨ (c = 45 ∧ o = 16) ∨ (c = 42 ∧ o = 17) ∨ (c = 60 ∧ o = 18) := by
  have e0 : fdx c 9 0 = if 94 = c then some 0 else if 95 = c then some 1 else if 33 = c then some 2 else if 46 = c then some 3 else if 61 = c then some 4 else if 43 = c then some 5 else if 45 = c then some 6 else if 42 = c then some 7 else if 60 = c then some 8 else none := rfl
  unfold opO at h
  rw [e0] at h
  by_cases h1 : c = 63
  · rw [if_pos h1] at h
    cases h
    exact Or.inl ⟨h1, rfl⟩
  rw [if_neg h1] at h
  refine Or.inr ?_
  by_cases h2 : 94 = c
  · rw [if_pos h2] at h
    cases h
    exact Or.inl ⟨h2.symm, rfl⟩
  rw [if_neg h2] at h
  refine Or.inr ?_
  by_cases h2 : 95 = c
  · rw [if_pos h2] at h
    cases h
    exact Or.inl ⟨h2.symm, rfl⟩
  rw [if_neg h2] at h
  refine Or.inr ?_
  by_cases h2 : 33 = c
  · rw [if_pos h2] at h
    cases h
    exact Or.inl ⟨h2.symm, rfl⟩
  rw [if_neg h2] at h
  refine Or.inr ?_
  by_cases h2 : 46 = c
  · rw [if_pos h2] at h
    cases h
    exact Or.inl ⟨h2.symm, rfl⟩
  rw [if_neg h2] at h
  refine Or.inr ?_
  by_cases h2 : 61 = c
  · rw [if_pos h2] at h
    cases h
    exact Or.inl ⟨h2.symm, rfl⟩
  rw [if_neg h2] at h
  refine Or.inr ?_
  by_cases h2 : 43 = c
  · rw [if_pos h2] at h
    cases h
    exact Or.inl ⟨h2.symm, rfl⟩
  rw [if_neg h2] at h
  refine Or.inr ?_
  by_cases h2 : 45 = c
  · rw [if_pos h2] at h
    cases h
    exact Or.inl ⟨h2.symm, rfl⟩
  rw [if_neg h2] at h
  refine Or.inr ?_
  by_cases h2 : 42 = c
  · rw [if_pos h2] at h
    cases h
    exact Or.inl ⟨h2.symm, rfl⟩
  rw [if_neg h2] at h
  refine Or.inr ?_
  by_cases h2 : 60 = c
  · rw [if_pos h2] at h
    cases h
    exact ⟨h2.symm, rfl⟩
  rw [if_neg h2] at h
  cases h
theorem ar_op {c : Nat} : (0 < ar c ↔ ∃ o, opO c = some o) := by
  constructor
  · intro h
    unfold ar at h
    split at h
    · next h1 =>
      rcases h1 with rfl | rfl | rfl | rfl | rfl | rfl <;> exact ⟨_, rfl⟩
    · split at h
      · next h1 =>
        rcases h1 with rfl | rfl | rfl <;> exact ⟨_, rfl⟩
      · split at h
        · next h1 =>
          subst h1
          exact ⟨_, rfl⟩
        · exact absurd h (Nat.lt_irrefl _)
  · rintro ⟨o, h⟩
    rcases opO_cs h with ⟨rfl, -⟩ | ⟨rfl, -⟩ | ⟨rfl, -⟩ | ⟨rfl, -⟩ | ⟨rfl, -⟩ | ⟨rfl, -⟩ | ⟨rfl, -⟩ | ⟨rfl, -⟩ | ⟨rfl, -⟩ | ⟨rfl, -⟩ <;> decide
theorem opN_ar {c o : Nat} (h : opO c = some o) : opN o = ar c := by
  rcases opO_cs h with ⟨rfl, rfl⟩ | ⟨rfl, rfl⟩ | ⟨rfl, rfl⟩ | ⟨rfl, rfl⟩ | ⟨rfl, rfl⟩ | ⟨rfl, rfl⟩ | ⟨rfl, rfl⟩ | ⟨rfl, rfl⟩ | ⟨rfl, rfl⟩ | ⟨rfl, rfl⟩ <;> rfl
theorem l_two {α : Type} : ∀ {l : List α}, l.length = 2 → ∃ a b, l = [a, b]
  | [a, b], _ => ⟨a, b, rfl⟩
  | [], h => by cases h
  | [_], h => by cases h
  | _ :: _ :: _ :: _, h => by simp at h
theorem l_three {α : Type} : ∀ {l : List α}, l.length = 3 → ∃ a b c, l = [a, b, c]
  | [a, b, c], _ => ⟨a, b, c, rfl⟩
  | [], h => by cases h
  | [_], h => by cases h
  | [_, _], h => by cases h
  | _ :: _ :: _ :: _ :: _, h => by simp at h
section ZC2
variable {z d : Nat} {t : tS} {n : Nat} {p : Int32}
theorem E_num {v : Int32} (hd : d ≤ 9) (h : NODE 1 v p [] t n) : XP z d (fun _ => [(1, 1), (1, v)]) t n := by
  intro f δ s φ h1 h2 h3 hs
  obtain ⟨e1, e2, -⟩ := NODE_s h
  obtain ⟨g, rfl⟩ : ∃ g, f = g + 1 := ⟨f - 1, by omega⟩
  rw [dEx, if_neg (by omega), e1, if_pos rfl]
  show RES z _ s (dDa z t (10 + 1) δ (some n) (dI z s 1))
  rw [dDa, if_neg (by omega), e1, if_pos rfl, e2]
  exact RES_app (RES_I (z := z) 1) (RES_I (z := z) v)
theorem E_var {c a : Nat} (hd : d ≤ 9) (hc : c < 256) (ha : a ≤ 96) (h : NODE 2 (nI c) (nI a) [] t n) : XP z d (fun φ => [(1, 2), (6, lkF c (uP a) φ 0)]) t n := by
  intro f δ s φ h1 h2 h3 hs
  obtain ⟨e1, e2, -⟩ := NODE_s h
  obtain ⟨g, rfl⟩ : ∃ g, f = g + 1 := ⟨f - 1, by omega⟩
  rw [dEx, if_neg (by omega), e1, if_neg (by decide), if_pos rfl]
  exact RES_va hc ha h.1 h.2.1.2.1 h.2.1.2.2 (by omega) hs
theorem D_num {v : Int32} (hd : d ≤ 9) (h : NODE 1 v p [] t n) : DP z d [(1, v)] t n := by
  intro f δ s h1 h2
  obtain ⟨e1, e2, -⟩ := NODE_s h
  obtain ⟨g, rfl⟩ : ∃ g, f = g + 1 := ⟨f - 1, by omega⟩
  rw [dDa, if_neg (by omega), e1, if_pos rfl, e2]
  exact RES_I (z := z) v
theorem D_sym {v : Int32} (hd : d ≤ 9) (h : NODE 2 v p [] t n) : DP z d [(2, v)] t n := by
  intro f δ s h1 h2
  obtain ⟨e1, e2, -⟩ := NODE_s h
  obtain ⟨g, rfl⟩ : ∃ g, f = g + 1 := ⟨f - 1, by omega⟩
  rw [dDa, if_neg (by omega), e1, if_neg (by decide), if_pos rfl, e2]
  exact RES_y (z := z) v
def catL : List TL → TL
  | [] => []
  | D :: Ds => D ++ catL Ds
theorem RES_rw {f δ : Nat} (h1 : δ ≤ d) (h2 : 11 ≤ f + δ) : ∀ (Ds : List TL) (cs : List Nat) (o : Option Nat) (k : Nat) (s : cD_), chain t o cs → F2K t (Ds.map (DP z d)) cs → cs.length ≤ k → RES z (catL Ds) s (dRow t (dDa z t f δ) k o s)
  | [], [], o, k, s, hc, _, _ => by
    rw [show o = none from hc]
    cases k <;> exact RES_nil
  | D :: Ds, c :: cs, o, 0, s, _, _, hk => absurd hk (Nat.not_succ_le_zero _)
  | D :: Ds, c :: cs, o, k + 1, s, ⟨e1, e2⟩, ⟨g1, g2⟩, hk => by
    rw [e1]
    show RES z (D ++ catL Ds) s (dRow t (dDa z t f δ) k (tEn t (tN t) (some c)) (dDa z t f δ (some c) s))
    rw [tEn_in g1.1]
    exact RES_app (g1.2 f δ s h1 h2) (RES_rw h1 h2 Ds cs _ k _ e2 g2 (Nat.le_of_succ_le_succ hk))
  | [], _ :: _, _, _, _, _, h, _ => absurd h id
  | _ :: _, [], _, _, _, _, h, _ => absurd h id
theorem D_lst {Ds : List TL} (hd : d + 1 ≤ 9) (h : NODE 3 0 p (Ds.map (DP z (d + 1))) t n) : DP z d ((4, 0) :: (catL Ds ++ [(5, 0)])) t n := by
  intro f δ s h1 h2
  obtain ⟨e1, e2, -⟩ := NODE_s h
  obtain ⟨hn, -, h96, cs, c1, c2⟩ := h
  have hl := F2K_len c2
  obtain ⟨g, rfl⟩ : ∃ g, f = g + 1 := ⟨f - 1, by omega⟩
  rw [dDa, if_neg (by omega), e1, if_neg (by decide), if_neg (by decide), tEn_in hn]
  exact RES_li (RES_rw (d := d + 1) (f := g) (δ := δ + 1) (by omega) (by omega) Ds cs _ 96 _ c1 c2 (by omega))
theorem E_quo {D : TL} (hd : d ≤ 9) (h : NODE 4 0 p [DP z d D] t n) : XP z d (fun _ => (1, 1) :: D) t n := by
  intro f δ s φ h1 h2 h3 hs
  obtain ⟨e1, e2, -, -, e5⟩ := NODE_s h
  obtain ⟨c, c1, c2, c3⟩ := e5 0 _ rfl
  have c1 : tEn t (tF t) (some n) = some c := c1
  obtain ⟨g, rfl⟩ : ∃ g, f = g + 1 := ⟨f - 1, by omega⟩
  rw [dEx, if_neg (by omega), e1, if_neg (by decide), if_neg (by decide), if_pos rfl, c1]
  exact RES_app (RES_I (z := z) 1) (c3 11 δ _ h1 (by omega))
theorem E_call {h0 : Kd} {ks : List Kd} (hd : d + 1 ≤ 9) (h : NODE 11 0 p ((h0 :: ks).map (fun k => XP z (d + 1) k.1)) t n) : XP z d (caT h0 ks) t n := by
  intro f δ s φ h1 h2 h3 hs
  obtain ⟨e1, e2, e3, -, e5⟩ := NODE_s h
  rw [List.length_map] at e3
  obtain ⟨g, rfl⟩ : ∃ g, f = g + 1 := ⟨f - 1, by omega⟩
  rw [dEx, if_neg (by omega), e1, if_neg (by decide), if_neg (by decide), if_neg (by decide), if_neg (by decide), if_neg (by decide), if_neg (by decide), if_neg (by decide), if_pos rfl]
  unfold dCa
  rw [e3]
  obtain ⟨c, c1, c2, c3⟩ := e5 0 _ rfl
  rw [c1]
  have hr : RES z (rowT ks φ) s (dAs z (dEx z t g (δ + 1)) (fun k => dPt t k (some n)) ks.length (dBA z s)) := by
    refine RES_row (t := t) ks (fun i k hi => ?_) hs
    obtain ⟨c, c1, c2, c3⟩ := e5 (i + 1) (XP z (d + 1) k.1) (by rw [List.map_cons, List.getElem?_cons_succ, List.getElem?_map, hi]; rfl)
    exact ⟨c, c1, XP_go c3 (by omega) h2 (by omega)⟩
  have hx := XP_go (z := z) (φ := φ) c3 (show δ + 1 ≤ d + 1 by omega) h2 (by omega) _ (FRM_res hr hs)
  exact RES_app hr (RES_app hx (RES_I (z := z) 4))
theorem E_fun {τ : Tau} {ls : List Nat} (hd : d + 1 ≤ 9) (h3l : ls.length ≤ 3) (hls : ∀ c ∈ ls, c < 256) (h : NODE 6 0 p [PP ls, XP z (d + 1) τ] t n) : XP z d (boT (τ, 0) ls) t n := by
  intro f δ s φ h1 h2 h3 hs
  obtain ⟨e1, e2, e3, -, e5⟩ := NODE_s h
  obtain ⟨g, rfl⟩ : ∃ g, f = g + 1 := ⟨f - 1, by omega⟩
  rw [dEx, if_neg (by omega), e1, if_neg (by decide), if_neg (by decide), if_neg (by decide), if_neg (by decide), if_pos rfl]
  obtain ⟨c0, a1, a2, a3⟩ := e5 0 _ rfl
  obtain ⟨c1, b1, b2, b3⟩ := e5 1 _ rfl
  rw [a1, b1, tEn_in a2]
  have hK := FRM_len hs
  exact RES_bo (XP_go b3 (by omega) h2 (by show φ.length + 1 ≤ d + 1; omega)) a3.2 h3l hls hs (by omega)
def BPs (z d : Nat) : List Kd → List Nat → List KP
  | k :: ks, c :: ls => BP z d c k.1 :: BPs z d ks ls
  | _, _ => []
theorem BPs_len {z d : Nat} : ∀ {ks : List Kd} {ls : List Nat}, ks.length = ls.length → (BPs z d ks ls).length = ks.length
  | [], [], _ => rfl
  | k :: ks, c :: ls, h => congrArg (· + 1) (BPs_len (Nat.succ.inj h))
  | [], _ :: _, h => by cases h
  | _ :: _, [], h => by cases h
theorem BPs_app {z d : Nat} {k : Kd} {c : Nat} : ∀ {ks : List Kd} {ls : List Nat}, ks.length = ls.length → BPs z d (ks ++ [k]) (ls ++ [c]) = BPs z d ks ls ++ [BP z d c k.1]
  | [], [], _ => rfl
  | k :: ks, c :: ls, h => congrArg (_ :: ·) (BPs_app (Nat.succ.inj h))
  | [], _ :: _, h => by cases h
  | _ :: _, [], h => by cases h
theorem BPs_LTR {z d : Nat} {t : tS} : ∀ {ks : List Kd} {ls cs : List Nat} {o : Option Nat}, ks.length = ls.length → chain t o cs → F2K t (BPs z d ks ls) cs → LTR t o ls
  | [], [], [], o, _, h, _ => h
  | k :: ks, c :: ls, i :: cs, o, h, ⟨c1, c2⟩, ⟨g1, g2⟩ => ⟨i, c1, g1.1, g1.2.2.1, BPs_LTR (Nat.succ.inj h) c2 g2⟩
  | [], [], _ :: _, _, _, _, h => absurd h id
  | _ :: _, _ :: _, [], _, _, _, h => absurd h id
  | [], _ :: _, _, _, h, _, _ => by cases h
  | _ :: _, [], _, _, h, _, _ => by cases h
theorem BPs_get {z d : Nat} {k : Kd} : ∀ {ks : List Kd} {ls : List Nat} (i : Nat), ks.length = ls.length → ks[i]? = some k → ∃ c, (BPs z d ks ls)[i]? = some (BP z d c k.1)
  | [], _, i, _, h => by cases h
  | k :: ks, c :: ls, 0, _, h => by
    cases h
    exact ⟨c, rfl⟩
  | k :: ks, c :: ls, i + 1, hl, h => BPs_get (ks := ks) (ls := ls) i (Nat.succ.inj hl) h
  | _ :: _, [], _, h, _ => by cases h
theorem LTR_LtP {t : tS} : ∀ {ls cs : List Nat} {o : Option Nat}, chain t o cs → F2K t (ls.map LtP) cs → LTR t o ls
  | [], [], o, h, _ => h
  | c :: ls, i :: cs, o, ⟨c1, c2⟩, ⟨g1, g2⟩ => ⟨i, c1, g1.1, g1.2, LTR_LtP c2 g2⟩
  | [], _ :: _, _, _, h => absurd h id
  | _ :: _, [], _, _, h => absurd h id
theorem bnd {k : Int32} {d' g δ : Nat} {h0 : Kd} {ks : List Kd} {ls : List Nat} (hl : ks.length = ls.length) (h : NODE k 0 p (XP z (d + 1) h0.1 :: BPs z d' ks ls) t n) (hd : d + 1 ≤ d') (h1 : δ ≤ d) (h2 : 11 ≤ g + 1 + δ) : tCn t 96 (tEn t (tF t) (some n)) - 1 = ks.length ∧ LTR t (dPt t 1 (some n)) ls ∧ (∃ c, dPt t 0 (some n) = some c ∧ ∀ φ : Fr, φ.length ≤ d + 1 → GOX z t (dEx z t g (δ + 1)) c h0.1 φ) ∧ ∀ φ : Fr, φ.length ≤ d' → ∀ i k, ks[i]? = some k → ∃ c, tEn t (tF t) (dPt t (i + 1) (some n)) = some c ∧ GOX z t (dEx z t g (δ + 1)) c k.1 φ := by
  obtain ⟨e1, e2, e3, -, e5⟩ := NODE_s h
  obtain ⟨hn, -, h96, cs, c1, c2⟩ := h
  have hbl := BPs_len (z := z) (d := d') hl
  refine ⟨by rw [e3, List.length_cons, hbl]; rfl, ?_, ?_, fun φ hφ i k hi => ?_⟩
  · cases cs with
    | nil => exact absurd c2 id
    | cons c cs =>
      obtain ⟨q1, q2⟩ := c1
      obtain ⟨g1, g2⟩ := c2
      have e : dPt t 1 (some n) = tN t c := by
        unfold dPt
        rw [tEn_in hn, q1]
        exact tEn_in g1.1
      rw [e]
      exact BPs_LTR hl q2 g2
  · obtain ⟨c, q1, q2, q3⟩ := e5 0 _ rfl
    exact ⟨c, q1, fun φ hφ => XP_go q3 (by omega) h2 hφ⟩
  · obtain ⟨c, hc⟩ := BPs_get (z := z) (d := d') i hl hi
    obtain ⟨j, q1, q2, -, -, j2, q3, q4⟩ := e5 (i + 1) (BP z d' c k.1) (by rw [List.getElem?_cons_succ]; exact hc)
    refine ⟨j2, ?_, XP_go q4 (by omega) h2 hφ⟩
    rw [q1, tEn_in q2]
    exact q3
theorem E_let {d' : Nat} {h0 : Kd} {ks : List Kd} {ls : List Nat} (hd : d + 1 ≤ 9) (hd' : d + 1 ≤ d') (hl : ks.length = ls.length) (h3l : ls.length ≤ 3) (hls : ∀ c ∈ ls, c < 256) (h : NODE 8 0 p (XP z (d + 1) h0.1 :: BPs z d' ks ls) t n) : XP z d (leT h0 ks ls) t n := by
  intro f δ s φ h1 h2 h3 hs
  obtain ⟨e1, -⟩ := NODE_s h
  obtain ⟨g, rfl⟩ : ∃ g, f = g + 1 := ⟨f - 1, by omega⟩
  obtain ⟨b1, b2, ⟨c, b3, b4⟩, b5⟩ := bnd hl h hd' h1 h2
  rw [dEx, if_neg (by omega), e1, if_neg (by decide), if_neg (by decide), if_neg (by decide), if_neg (by decide), if_neg (by decide), if_pos rfl]
  unfold dBd dBs
  rw [b1, b3]
  have hr := RES_row (z := z) (s := s) (t := t) (φ := φ) (pick := fun k => tEn t (tF t) (dPt t k (some n))) ks (b5 φ (by omega)) hs
  have hs2 := FRM_res hr hs
  have hK := FRM_len hs2
  exact RES_app hr (RES_app (RES_bo (τ := h0.1) (b4 (ls :: φ) (by show φ.length + 1 ≤ d + 1; omega)) b2 h3l hls hs2 (by omega)) (RES_I (z := z) 4))
theorem E_rec {d' : Nat} {h0 : Kd} {ks : List Kd} {ls : List Nat} (hd : d + 1 ≤ 9) (hd' : d + 1 ≤ d') (hl : ks.length = ls.length) (h3l : ls.length ≤ 3) (hls : ∀ c ∈ ls, c < 256) (h : NODE 9 0 p (XP z (d + 1) h0.1 :: BPs z d' ks ls) t n) : XP z d (reT h0 ks ls) t n := by
  intro f δ s φ h1 h2 h3 hs
  obtain ⟨e1, -⟩ := NODE_s h
  obtain ⟨g, rfl⟩ : ∃ g, f = g + 1 := ⟨f - 1, by omega⟩
  obtain ⟨b1, b2, ⟨c, b3, b4⟩, b5⟩ := bnd hl h hd' h1 h2
  rw [dEx, if_neg (by omega), e1, if_neg (by decide), if_neg (by decide), if_neg (by decide), if_neg (by decide), if_neg (by decide), if_neg (by decide), if_pos rfl]
  unfold dBf dBs
  rw [b1, b3]
  have hK := FRM_len hs
  have h6 : RES z [(1, 6)] s (dI z s 6) := RES_I (z := z) 6
  have hr : RES z (rowT ks (ls :: φ)) (dI z s 6) (dLv (dAs z (dEx z t g (δ + 1)) (fun k => tEn t (tF t) (dPt t k (some n))) ks.length (dBA z (dEn (dI z s 6) (dPt t 1 (some n)))))) := by
    refine RES_en (t := t) (φ := φ) (ls := ls) (fl := dPt t 1 (some n)) (show dK s < 9 by omega) (fun hF => ?_) b2 h3l hls hs
    refine RES_row (t := t) (φ := ls :: φ) ks (b5 (ls :: φ) (by show φ.length + 1 ≤ d'; omega)) ?_
    rw [show dEn (dI z s 6) (dPt t 1 (some n)) = (dC (dI z s 6), upW (dF s) (dK s) (dPt t 1 (some n)), dK s + 1, dU s) from if_pos (show dK s < 9 by omega)]
    exact hF
  have hs2 := FRM_res hr (show FRM t (dF (dI z s 6)) (dK (dI z s 6)) φ from hs)
  have hK2 := FRM_len hs2
  exact RES_app h6 (RES_app hr (RES_app (RES_bo (τ := h0.1) (b4 (ls :: φ) (by show φ.length + 1 ≤ d + 1; omega)) b2 h3l hls hs2 (by omega)) (RES_I (z := z) 7)))
theorem E_op {c o : Nat} {ks : List Kd} (hd : d + 1 ≤ 9) (ho : opO c = some o) (hk : ks.length = ar c) (h : NODE 5 (nI o) p (ks.map (fun k => XP z (d + 1) k.1)) t n) : XP z d (sgT c ks) t n := by
  intro f δ s φ h1 h2 h3 hs
  obtain ⟨e1, e2, e3, -, e5⟩ := NODE_s h
  rw [List.length_map] at e3
  obtain ⟨g, rfl⟩ : ∃ g, f = g + 1 := ⟨f - 1, by omega⟩
  rw [dEx, if_neg (by omega), e1, if_neg (by decide), if_neg (by decide), if_neg (by decide), if_pos rfl]
  have kid : ∀ i k, ks[i]? = some k → ∃ c, dPt t i (some n) = some c ∧ GOX z t (dEx z t g (δ + 1)) c k.1 φ := fun i k hi => by
    obtain ⟨c, c1, c2, c3⟩ := e5 i (XP z (d + 1) k.1) (by rw [List.getElem?_map, hi]; rfl)
    exact ⟨c, c1, XP_go c3 (by omega) h2 (by omega)⟩
  unfold dOn
  rw [e2, e3]
  generalize hgo : dEx z t g (δ + 1) = go at kid ⊢
  clear hgo
  have one : ∀ (w : Int32) (a : Kd), ks = [a] → ¬ w = 13 → RES z (a.1 φ ++ [(1, w)]) s (dI z (dOp t go (some n) w ks.length ks.length 0 s) w) := by
    intro w a e hw
    subst e
    obtain ⟨c, c1, c2⟩ := kid 0 a rfl
    show RES z _ s (dI z (go (dPt t (if w = 13 then 1 - 1 - 0 else 0) (some n)) s) w)
    rw [if_neg hw, c1]
    exact RES_app (c2 s hs) (RES_I (z := z) w)
  have two : ∀ (w : Int32) (a b : Kd), ks = [a, b] → ¬ w = 13 → RES z (a.1 φ ++ (b.1 φ ++ [(1, w)])) s (dI z (dOp t go (some n) w ks.length ks.length 0 s) w) := by
    intro w a b e hw
    subst e
    obtain ⟨c, c1, c2⟩ := kid 0 a rfl
    obtain ⟨c', c3, c4⟩ := kid 1 b rfl
    show RES z _ s (dI z (go (dPt t (if w = 13 then 2 - 1 - (0 + 1) else 0 + 1) (some n)) (go (dPt t (if w = 13 then 2 - 1 - 0 else 0) (some n)) s)) w)
    rw [if_neg hw, if_neg hw, c1, show dPt t (0 + 1) (some n) = some c' from c3]
    have r1 := c2 s hs
    exact RES_app r1 (RES_app (c4 _ (FRM_res r1 hs)) (RES_I (z := z) w))
  have len1 : ks.length = 1 → ∃ a, ks = [a] := fun h => List.length_eq_one_iff.mp h
  have len2 : ks.length = 2 → ∃ a b, ks = [a, b] := fun h => l_two h
  rcases opO_cs ho with ⟨rfl, rfl⟩ | ⟨rfl, rfl⟩ | ⟨rfl, rfl⟩ | ⟨rfl, rfl⟩ | ⟨rfl, rfl⟩ | ⟨rfl, rfl⟩ | ⟨rfl, rfl⟩ | ⟨rfl, rfl⟩ | ⟨rfl, rfl⟩ | ⟨rfl, rfl⟩
  · obtain ⟨a, b, e, rfl⟩ : ∃ a b e, ks = [a, b, e] := l_three hk
    rw [if_pos (show nI 8 = 8 by decide)]
    obtain ⟨c, c1, c2⟩ := kid 0 a rfl
    obtain ⟨c', c3, c4⟩ := kid 1 b rfl
    obtain ⟨c'', c5, c6⟩ := kid 2 e rfl
    unfold dCh
    rw [c1, c3, c5]
    have r1 := RES_app (c2 s hs) (RES_I (z := z) 8)
    have hs1 := FRM_res r1 hs
    have r2 := RES_lst (z := z) (i := 9) c4 hs1
    have r3 := RES_lst (z := z) (i := 9) c6 (FRM_res r2 hs1)
    have r4 := RES_app r1 (RES_app r2 r3)
    rw [List.append_assoc] at r4
    exact r4
  · obtain ⟨a, rfl⟩ := len1 hk
    rw [if_neg (by decide)]
    exact one _ a rfl (by decide)
  · obtain ⟨a, rfl⟩ := len1 hk
    rw [if_neg (by decide)]
    exact one _ a rfl (by decide)
  · obtain ⟨a, rfl⟩ := len1 hk
    rw [if_neg (by decide)]
    exact one _ a rfl (by decide)
  · obtain ⟨a, b, rfl⟩ := len2 hk
    rw [if_neg (by decide)]
    obtain ⟨c, c1, c2⟩ := kid 0 a rfl
    obtain ⟨c', c3, c4⟩ := kid 1 b rfl
    show RES z (b.1 φ ++ (a.1 φ ++ [(1, 13)])) s (dI z (go (dPt t (if nI 13 = 13 then 2 - 1 - (0 + 1) else 0 + 1) (some n)) (go (dPt t (if nI 13 = 13 then 2 - 1 - 0 else 0) (some n)) s)) (nI 13))
    rw [if_pos (by decide), if_pos (by decide), show dPt t (2 - 1 - (0 + 1)) (some n) = some c from c1, show dPt t (2 - 1 - 0) (some n) = some c' from c3]
    have r1 := c4 s hs
    exact RES_app r1 (RES_app (c2 _ (FRM_res r1 hs)) (RES_I (z := z) 13))
  · obtain ⟨a, b, rfl⟩ := len2 hk
    rw [if_neg (by decide)]
    exact two _ a b rfl (by decide)
  · obtain ⟨a, b, rfl⟩ := len2 hk
    rw [if_neg (by decide)]
    exact two _ a b rfl (by decide)
  · obtain ⟨a, b, rfl⟩ := len2 hk
    rw [if_neg (by decide)]
    exact two _ a b rfl (by decide)
  · obtain ⟨a, b, rfl⟩ := len2 hk
    rw [if_neg (by decide)]
    exact two _ a b rfl (by decide)
  · obtain ⟨a, b, rfl⟩ := len2 hk
    rw [if_neg (by decide)]
    exact two _ a b rfl (by decide)
end ZC2
end
section
def pfx (D : TL) : (TL × Nat) ⊕ Nat → (TL × Nat) ⊕ Nat
  | .inl (E, a) => .inl (D ++ E, a)
  | .inr a => .inr a
theorem cns_pfx {x : Int32 × Int32} {D : TL} {r : (TL × Nat) ⊕ Nat} : cns x (pfx D r) = pfx (x :: D) r := by
  rcases r with ⟨E, a⟩ | a <;> rfl
theorem cns_one {x : Int32 × Int32} {r : (TL × Nat) ⊕ Nat} : cns x r = pfx [x] r := by
  rcases r with ⟨E, a⟩ | a <;> rfl
theorem pfx_pfx {A B : TL} {r : (TL × Nat) ⊕ Nat} : pfx A (pfx B r) = pfx (A ++ B) r := by
  rcases r with ⟨E, a⟩ | a
  · show Sum.inl (A ++ (B ++ E), a) = Sum.inl (A ++ B ++ E, a)
    rw [List.append_assoc]
  · rfl
theorem catL_app : ∀ (A B : List TL), catL (A ++ B) = catL A ++ catL B
  | [], B => rfl
  | D :: A, B => by
    show D ++ catL (A ++ B) = D ++ catL A ++ catL B
    rw [catL_app A B, List.append_assoc]
section ZD
variable {tx : Nat → Nat} {X : Nat → Int32} {len z : Nat}
theorem gD_F (tx : Nat → Nat) (f o d a : Nat) : gD tx (f + 1) false o d a = if tx a = 40 then (if d + o < 9 then cns (4, 0) (gD tx f (decide (tx (a + 1) = 41)) (o + 1) d (a + 1)) else .inr a) else if cL (tx a) then cns (2, nI (tx a)) (gD tx f true o d (a + 1)) else if cD (tx (pA1 tx a)) then cns (1, pVal tx a) (gD tx f true o d (pDg tx 4 (pA1 tx a) 0).1) else .inr (pA1 tx a) := rfl
theorem gD_T (tx : Nat → Nat) (f o d a : Nat) : gD tx (f + 1) true (o + 1) d a = if tx a = 41 then cns (5, 0) (gD tx f true o d (a + 1)) else if tx a = 32 then gD tx f false (o + 1) d (a + 1) else .inr a := rfl
theorem gD_fu (hx : txOK X len tx) : ∀ (F F' : Nat) (b : Bool) (o d a : Nat), a ≤ len → len - a < F → len - a < F' → gD tx F b o d a = gD tx F' b o d a
  | 0, F', b, o, d, a, _, h, _ => absurd h (Nat.not_lt_zero _)
  | F + 1, 0, b, o, d, a, _, _, h => absurd h (Nat.not_lt_zero _)
  | F + 1, F' + 1, false, o, d, a, ha, h1, h2 => by
    rw [gD_F, gD_F]
    by_cases e40 : tx a = 40
    · have := hx.lt (a := a) (by omega)
      rw [if_pos e40, if_pos e40, gD_fu hx F F' (decide (tx (a + 1) = 41)) (o + 1) d (a + 1) (by omega) (by omega) (by omega)]
    · rw [if_neg e40, if_neg e40]
      by_cases eL : cL (tx a) = true
      · have := hx.lt (cL_ne eL)
        rw [if_pos eL, if_pos eL, gD_fu hx F F' true o d (a + 1) (by omega) (by omega) (by omega)]
      · rw [if_neg eL, if_neg eL]
        by_cases eD : cD (tx (pA1 tx a)) = true
        · obtain ⟨w1, w2, w3⟩ := num_len hx ha eD
          rw [if_pos eD, if_pos eD, gD_fu hx F F' true o d _ w2 (by omega) (by omega)]
        · rw [if_neg eD, if_neg eD]
  | F + 1, F' + 1, true, 0, d, a, ha, h1, h2 => rfl
  | F + 1, F' + 1, true, o + 1, d, a, ha, h1, h2 => by
    rw [gD_T, gD_T]
    by_cases e41 : tx a = 41
    · have := hx.lt (a := a) (by omega)
      rw [if_pos e41, if_pos e41, gD_fu hx F F' true o d (a + 1) (by omega) (by omega) (by omega)]
    · rw [if_neg e41, if_neg e41]
      by_cases e32 : tx a = 32
      · have := hx.lt (a := a) (by omega)
        rw [if_pos e32, if_pos e32, gD_fu hx F F' false (o + 1) d (a + 1) (by omega) (by omega) (by omega)]
      · rw [if_neg e32, if_neg e32]
def AD (len z : Nat) (tx : Nat → Nat) (d a o d0 : Nat) (t : tS) : PR → Prop
  | .inr (e, _) => ∀ F, len - a < F → gD tx F false o d0 a = .inr e
  | .inl (c, a', t') => ∃ D, (∀ F, len - a < F → gD tx F false o d0 a = pfx D (gD tx 200 true o d0 a')) ∧ WR t (DP z d D) c t'
theorem al_dm (hx : txOK X len tx) {pe : Nat → tS → PR} {d o d0 : Nat} (hd : d + 1 ≤ 9) (hg : GE len pe) (hp : ∀ a t, tOK t → tn t ≤ a → a ≤ len → 1 ≤ tn t → AD len z tx (d + 1) a (o + 1) d0 t (pe a t)) {t0 : tS} {n : Nat} {p : Int32} : ∀ (k a : Nat) (t : tS) (Ds : List TL), OpQ t0 t n 3 0 p (Ds.map (DP z (d + 1))) → tOK t → tn t ≤ a → a ≤ len → 97 ≤ tn t + k → (match pMore tx pe n k a t with
    | .inr (e, _) => gD tx 200 true (o + 1) d0 a = .inr e
    | .inl (c, a', t') => ∃ D2, gD tx 200 true (o + 1) d0 a = pfx D2 (gD tx 200 true o d0 a') ∧ WR t0 (DP z d ((4, 0) :: (catL Ds ++ D2))) c t')
  | 0, a, t, Ds, hO, ht, h1, h2, h3 => by
    have := hx.1
    omega
  | k + 1, a, t, Ds, hO, ht, h1, h2, h3 => by
    have h96 := hx.1
    rw [show (200 : Nat) = 199 + 1 from rfl, gD_T]
    unfold pMore
    by_cases e32 : tx a = 32
    · have hlt := hx.lt (a := a) (by omega)
      rw [if_pos e32, if_neg (by omega), if_pos e32]
      have ha := hp (a + 1) t ht (by omega) (by omega) (by have := hO.2.1; omega)
      have hgd := hg (a + 1) t ht (by omega) (by omega)
      generalize pe (a + 1) t = r at ha hgd
      rcases r with ⟨c, a2, t2⟩ | ⟨e, t2⟩
      · obtain ⟨D1, q1, q2⟩ := ha
        obtain ⟨g0, g1, g2, g3, g4⟩ := hgd
        have hO2 := opq_part hO q2
        rw [show Ds.map (DP z (d + 1)) ++ [DP z (d + 1) D1] = (Ds ++ [D1]).map (DP z (d + 1)) by rw [List.map_append]; rfl] at hO2
        have hn := hO.2.1
        have ih := al_dm hx hd hg hp k a2 (tPart t2 n c) (Ds ++ [D1]) hO2 (tOK_part g1 (by omega)) (by rw [tn_part]; exact g3) g4 (by rw [tn_part]; omega)
        rw [q1 199 (by omega)]
        show (match pMore tx pe n k a2 (tPart t2 n c) with | .inr (e, _) => _ | .inl (c, a', t') => _)
        generalize pMore tx pe n k a2 (tPart t2 n c) = r at ih
        rcases r with ⟨c3, a3, t3⟩ | ⟨e, t3⟩
        · obtain ⟨D2, i1, i2⟩ := ih
          refine ⟨D1 ++ D2, ?_, ?_⟩
          · rw [i1, pfx_pfx]
          · rw [catL_app, show catL [D1] = D1 ++ [] from rfl, List.append_nil, List.append_assoc] at i2
            exact i2
        · have ih : gD tx 200 true (o + 1) d0 a2 = .inr e := ih
          show pfx D1 (gD tx 200 true (o + 1) d0 a2) = .inr e
          rw [ih]
          rfl
      · exact ha 199 (by omega)
    · rw [if_neg e32, if_neg e32]
      unfold pClose
      by_cases e41 : tx a = 41
      · have hlt := hx.lt (a := a) (by omega)
        rw [if_pos e41, if_pos e41]
        refine ⟨[(5, 0)], ?_, opq_done hO ht.1 (fun t' hN => D_lst hd hN)⟩
        rw [cns_one, gD_fu hx 199 200 true o d0 (a + 1) (by omega) (by omega) (by omega)]
      · rw [if_neg e41, if_neg e41]
theorem al_dat (hx : txOK X len tx) : ∀ (f d : Nat), 10 ≤ f + d → d ≤ 9 → ∀ (a : Nat) (t : tS) (o d0 : Nat), d0 + o = d → tOK t → tn t ≤ a → a ≤ len → 1 ≤ tn t → AD len z tx d a o d0 t (pDat tx f d a t)
  | 0, d, h, h9 => by omega
  | f + 1, d, h, h9 => by
    intro a t o d0 hd ht h1 h2 hn1
    have h96 := hx.1
    unfold pDat
    by_cases e40 : tx a = 40
    · have hlt := hx.lt (a := a) (by omega)
      rw [if_pos e40]
      by_cases hd9 : 9 ≤ d
      · rw [if_pos hd9]
        intro F hF
        obtain ⟨F, rfl⟩ : ∃ F', F = F' + 1 := ⟨F - 1, by omega⟩
        rw [gD_F, if_pos e40, if_neg (by omega)]
      · rw [if_neg hd9]
        have ht1 : tOK (tAdd t 3 0 (nI a)) := tOK_add ht (by omega)
        have hO : OpQ t (tAdd t 3 0 (nI a)) (tn t) 3 0 (nI a) (([] : List TL).map (DP z (d + 1))) := opq_new
        have gF : ∀ F, len - a < F → gD tx F false o d0 a = cns (4, 0) (gD tx 200 (decide (tx (a + 1) = 41)) (o + 1) d0 (a + 1)) := by
          intro F hF
          obtain ⟨F, rfl⟩ : ∃ F', F = F' + 1 := ⟨F - 1, by omega⟩
          rw [gD_F, if_pos e40, if_pos (by omega), gD_fu hx F 200 _ (o + 1) d0 (a + 1) (by omega) (by omega) (by omega)]
        by_cases e41 : tx (a + 1) = 41
        · have hlt2 := hx.lt (a := a + 1) (by omega)
          rw [if_pos e41]
          refine ⟨[(4, 0), (5, 0)], fun F hF => ?_, opq_done hO ht1.1 (fun t' hN => D_lst (Ds := []) (by omega) hN)⟩
          rw [gF F hF, decide_eq_true e41, show (200 : Nat) = 199 + 1 from rfl, gD_T, if_pos e41, gD_fu hx 199 (199 + 1) true o d0 (a + 1 + 1) (by omega) (by omega) (by omega), cns_one, cns_one, pfx_pfx]
          rfl
        · rw [if_neg e41]
          have ha := al_dat hx f (d + 1) (by omega) (by omega) (a + 1) (tAdd t 3 0 (nI a)) (o + 1) d0 (by omega) ht1 (by rw [tn_add]; omega) (by omega) (by rw [tn_add]; omega)
          have hgd := g_dat hx f (d + 1) (a + 1) (tAdd t 3 0 (nI a)) ht1 (by rw [tn_add]; omega) (by omega)
          rw [tn_add] at hgd
          have hpe : ∀ a t, tOK t → tn t ≤ a → a ≤ len → 1 ≤ tn t → AD len z tx (d + 1) a (o + 1) d0 t (pDat tx f (d + 1) a t) := fun a t q1 q2 q3 q4 => al_dat hx f (d + 1) (by omega) (by omega) a t (o + 1) d0 (by omega) q1 q2 q3 q4
          have hGE := g_dat hx f (d + 1)
          generalize pDat tx f (d + 1) = pe at ha hgd hpe hGE
          generalize pe (a + 1) (tAdd t 3 0 (nI a)) = r at ha hgd
          rcases r with ⟨c, a2, t2⟩ | ⟨e, t2⟩
          · obtain ⟨D1, q1, q2⟩ := ha
            obtain ⟨g0, g1, g2, g3, g4⟩ := hgd
            have hO2 : OpQ t (tPart t2 (tn t) c) (tn t) 3 0 (nI a) ([D1].map (DP z (d + 1))) := opq_part hO q2
            have ih := al_dm hx (by omega) hGE hpe 95 a2 (tPart t2 (tn t) c) [D1] hO2 (tOK_part g1 (by omega)) (by rw [tn_part]; exact g3) g4 (by rw [tn_part]; omega)
            show AD len z tx d a o d0 t (pMore tx pe (tn t) 95 a2 (tPart t2 (tn t) c))
            generalize pMore tx pe (tn t) 95 a2 (tPart t2 (tn t) c) = r at ih
            rcases r with ⟨c3, a3, t3⟩ | ⟨e, t3⟩
            · obtain ⟨D2, i1, i2⟩ := ih
              refine ⟨(4, 0) :: (catL [D1] ++ D2), fun F hF => ?_, i2⟩
              rw [gF F hF, decide_eq_false e41, q1 200 (by omega), i1, pfx_pfx, cns_pfx, show catL [D1] = D1 ++ [] from rfl, List.append_nil]
            · have ih : gD tx 200 true (o + 1) d0 a2 = .inr e := ih
              intro F hF
              rw [gF F hF, decide_eq_false e41, q1 200 (by omega), ih]
              rfl
          · intro F hF
            rw [gF F hF, decide_eq_false e41, ha 200 (by omega)]
            rfl
    · rw [if_neg e40]
      unfold pAtom
      by_cases eL : cL (tx a) = true
      · have hlt := hx.lt (cL_ne eL)
        rw [if_pos eL]
        refine ⟨[(2, nI (tx a))], fun F hF => ?_, opq_done opq_new (by rw [tn_add]; omega) (fun t' hN => D_sym h9 hN)⟩
        obtain ⟨F, rfl⟩ : ∃ F', F = F' + 1 := ⟨F - 1, by omega⟩
        rw [gD_F, if_neg e40, if_pos eL, cns_one, gD_fu hx F 200 true o d0 (a + 1) (by omega) (by omega) (by omega)]
      · rw [if_neg eL]
        unfold pNum
        by_cases eD : cD (tx (pA1 tx a)) = true
        · obtain ⟨w1, w2, w3⟩ := num_len hx h2 eD
          rw [if_pos eD]
          refine ⟨[(1, pVal tx a)], fun F hF => ?_, opq_done opq_new (by rw [tn_add]; omega) (fun t' hN => D_num h9 hN)⟩
          obtain ⟨F, rfl⟩ : ∃ F', F = F' + 1 := ⟨F - 1, by omega⟩
          rw [gD_F, if_neg e40, if_neg eL, if_pos eD, cns_one, gD_fu hx F 200 true o d0 _ w2 (by omega) (by omega)]
        · rw [if_neg eD]
          intro F hF
          obtain ⟨F, rfl⟩ : ∃ F', F = F' + 1 := ⟨F - 1, by omega⟩
          rw [gD_F, if_neg e40, if_neg eL, if_neg eD]
end ZD
end
