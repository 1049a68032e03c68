section
def PLE (r : rM) (ps : List Vl) : Prop := r.piled = nI ps.length ∧ ∀ i P, ps[i]? = some P → rg r P (r.pile (ps.length - 1 - i))
def LI (r r2 : rM) (z : Nat) (B : TL) (st : LSt) (x : Int32) : Prop := (kp r r2 ∧ r2.state = r.state ∧ r2.reg = r.reg ∧ r2.signKind = r.signKind ∧ r2.signValue = r.signValue ∧ r2.cells = r.cells) ∧ (RB r2 st.1 st.2.1 ∧ Ur r2 = st.2.2.1 ∧ rg r2 st.2.2.2.1 x) ∧ PLE r2 st.2.2.2.2 ∧ fz r2 + cnt B = z
def pcR (r : rM) (p : Nat) (x : Int32) : rM := ((r.s_pile (upd r.pile p x)).s_piled (nI (p + 1)))
def ppR (r : rM) (p : Nat) : rM := (r.s_piled (nI p))
theorem subadd (x : Int32) : x + Int32.ofInt (-1) = x - Int32.ofInt 1 := by
  rw [Int32.sub_eq_add_neg]
  rfl
section YO
variable {cst : Nat → Option (Nat × (Nat → Int32))} {m b0 b1 : Nat} {op : Bool} {tl : List mj_O} {Q : mj_R → Prop} {s : cS} {r : rM} {σ : TL} {z : Nat} {init : LSt}
set_option maxRecDepth 10000
theorem rg_pile {r r' : rM} (h1 : Ur r' = Ur r) (h2 : r'.function = r.function) {v : Vl} {x : Int32} (h : rg r v x) : rg r' v x := by
  rcases h with h | ⟨a, q1, q2, q3, q4⟩
  · exact Or.inl h
  · exact Or.inr ⟨a, q1, q2, by rw [h1]; exact q3, by rw [h2]; exact q4⟩
theorem LI_close {r2 : rM} {B : TL} {st : LSt} {x v : Int32} (h : LI r r2 z B st x) : LI r (pcR r2 st.2.2.2.2.length x) z ((5, v) :: B) (st.1, st.2.1, st.2.2.1, vNil, st.2.2.2.1 :: st.2.2.2.2) (-1) := by
  obtain ⟨h1, ⟨h2, h3, h4⟩, ⟨h5, h6⟩, h7⟩ := h
  refine ⟨h1, ⟨h2, h3, Or.inl ⟨rfl, rfl⟩⟩, ⟨rfl, fun i P hi => ?_⟩, ?_⟩
  · show rg (pcR r2 st.2.2.2.2.length x) P (upd r2.pile st.2.2.2.2.length x ((st.2.2.2.1 :: st.2.2.2.2).length - 1 - i))
    rw [List.length_cons]
    cases i with
    | zero =>
      have hi : some st.2.2.2.1 = some P := hi
      cases hi
      have e : upd r2.pile st.2.2.2.2.length x (st.2.2.2.2.length + 1 - 1 - 0) = x := if_pos (by omega)
      rw [e]
      exact rg_pile rfl rfl h4
    | succ i =>
      have hi : st.2.2.2.2[i]? = some P := hi
      have hlt : i < st.2.2.2.2.length := by
        rcases Nat.lt_or_ge i st.2.2.2.2.length with w | w
        · exact w
        · rw [List.getElem?_eq_none w] at hi
          cases hi
      have e : upd r2.pile st.2.2.2.2.length x (st.2.2.2.2.length + 1 - 1 - (i + 1)) = r2.pile (st.2.2.2.2.length - 1 - i) := by
        show (if _ = _ then _ else _) = _
        rw [if_neg (by omega)]
        congr 1
        omega
      rw [e]
      exact rg_pile rfl rfl (h6 i P hi)
  · show fz r2 + (0 + cnt B) = z
    omega
theorem LI_new {r2 : rM} {B : TL} {st : LSt} {x c a b : Int32} {k : Nat} {h t : Vl} {ps : List Vl} {v : Int32 × Int32} (hI : LI r r2 z B st x) (hv5 : ¬ v.1 = 5) (hf : 1 ≤ fz r2) (hh : rv r2 h a b) (ht : rg r2 t c) (hk : k = ffN r2.used (r2.z - 1) 0) (r3 : rM) (e3 : r3 = mkR r2 k a b c ∨ r3 = ppR (mkR r2 k a b c) ps.length) (hps : r3.piled = nI ps.length) (hpl : ∀ i P, ps[i]? = some P → rg r2 P (r2.pile (ps.length - 1 - i))) : LI r r3 z (v :: B) (newL st k h t ps) (nI k) ∧ ¬ st.2.2.1 k := by
  obtain ⟨⟨g1, g2, g3, g4, g5, g6⟩, ⟨h2, h3, h4⟩, h5, h7⟩ := hI
  obtain ⟨m1, m2, m3, m4, m5, m6, m7⟩ := mk_ok h2 hf hk hh ht
  have kpm : kp r2 (mkR r2 k a b c) := ⟨⟨rfl, rfl, rfl, rfl, rfl⟩, rfl, rfl, rfl, rfl, rfl⟩
  have hne : ¬ st.2.2.1 k := by rw [← h3]; exact m1
  have hcnt : cnt (v :: B) = 1 + cnt B := by
    show (if v.1 = 5 then 0 else 1) + cnt B = _
    rw [if_neg hv5]
  rcases e3 with rfl | rfl
  · refine ⟨⟨⟨kp_tr g1 kpm, g2, g3, g4, g5, g6⟩, ⟨m4, by rw [m6, h3]; rfl, m5⟩, ⟨hps, fun i P hi => rg_up m3 (hpl i P hi)⟩, by omega⟩, hne⟩
  · refine ⟨⟨⟨kp_tr g1 kpm, g2, g3, g4, g5, g6⟩, ⟨m4, by show Ur (mkR r2 k a b c) = _; rw [m6, h3]; rfl, rg_pile (r := mkR r2 k a b c) rfl rfl m5⟩, ⟨hps, fun i P hi => rg_pile (r := mkR r2 k a b c) rfl rfl (rg_up m3 (hpl i P hi))⟩, by show fz (mkR r2 k a b c) + _ = z; omega⟩, hne⟩
set_option maxHeartbeats 4000000 in
theorem R_lay (hW : WSr r σ []) (hs : σ.length ≤ 1200) (hkd : ∀ t ∈ σ, (t.1 = 0 ∧ t.2 = 0) ∨ t.1 = 1 ∨ t.1 = 2 ∨ t.1 = 4 ∨ t.1 = 5) (hht : htT σ = some 0) (hz : z ≤ 250) (hc : cnt σ ≤ z) (hI0 : LI r (ppR r 0) z [] init (-1)) (hp0 : init.2.2.2.2 = []) (hQ : ∀ r2 st x, LI r r2 z σ st x → LY σ init st → Q (.inl (some (.int x)), (cW s (rW r2 tl), b0, b1, op))) : mj_Mt gT cst gnw (m + 3) y_R_lay [.ref 27] (cW s (rW r tl), b0, b1, op) Q := by
  obtain ⟨⟨hs1, hs2⟩, -, -⟩ := hW
  intro J hJ
  have loop : ∀ (n : Nat) (A B : TL) (st : LSt) (r2 : rM) (x y : Int32), A.length = n → A ++ B = σ → LY B init st → htT B = some st.2.2.2.2.length → LI r r2 z B st x → y = nI A.length - Int32.ofInt 1 → J 10 [some (.ref 27), some (.int x), some (.int y)] [] (cW s (rW r2 tl), b0, b1, op) := by
    intro n
    induction n with
    | zero =>
      intro A B st r2 x y hA hAB hL hh hI hy
      have : A = [] := List.length_eq_zero_iff.mp hA
      subst this
      have hAB : B = σ := hAB
      subst hAB
      refine hJ _ _ _ _ ?_
      refine And.intro (fun _ => hQ r2 st x hI hL) (fun (g : ¬ y < 0) => absurd (by rw [hy]; decide) g)
    | succ n ih =>
      intro A B st r2 x y hA hAB hL hh hI hy
      obtain ⟨A, t, rfl⟩ : ∃ A' t, A = A' ++ [t] := by
        rcases snoc_ex A with rfl | w
        · cases hA
        · exact w
      rw [len_s] at hA hy
      have hy2 : y = nI A.length := by rw [hy]; exact nI_pred _
      subst hy2
      rw [List.append_assoc] at hAB
      have hAB : A ++ (t :: B) = σ := hAB
      have hlt : A.length < σ.length := by rw [← hAB, List.length_append, List.length_cons]; omega
      have hat : σ[A.length]? = some t := by
        rw [← hAB, List.getElem?_append_right (Nat.le_refl _), Nat.sub_self]
        rfl
      obtain ⟨t1, t2⟩ := hs2 A.length t hat
      have htm : t ∈ σ := List.mem_of_getElem? hat
      have hin : vp_in (nI A.length) 1200 := vp_in_nI (by omega) (by decide)
      have ek : (nI A.length).toNatClampNeg = A.length := nI_clamp (by omega)
      obtain ⟨p, hp⟩ := ht_pre A (t :: B) 0 (by rw [hAB]; exact hht)
      have hple := ht_le A (t :: B) 0 p (by rw [hAB]; exact hht) hp
      have hcs : cnt A + cnt (t :: B) = cnt σ := by rw [← hAB, cnt_app]
      have e0 : htT (t :: B) = (match htT B with | none => none | some h => if t.1 = 5 then some (h + 1) else if t.1 = 4 then (match h with | 0 => none | h + 1 => some h) else some h) := rfl
      rw [hh] at e0
      have ecn : cnt (t :: B) = (if t.1 = 5 then 0 else 1) + cnt B := rfl
      have hI' := hI
      obtain ⟨⟨g1, g2, g3, g4, g5, g6⟩, ⟨i2, i3, i4⟩, ⟨i5, i6⟩, i7⟩ := hI'
      have nxt : ∀ (st' : LSt) (r3 : rM) (x' y' : Int32), y' = nI A.length + Int32.ofInt (-1) → LY (t :: B) init st' → htT (t :: B) = some st'.2.2.2.2.length → LI r r3 z (t :: B) st' x' → J 10 [some (.ref 27), some (.int x'), some (.int y')] [] (cW s (rW r3 tl), b0, b1, op) := by
        intro st' r3 x' y' hy' h1 h2 h3
        exact ih A (t :: B) st' r3 x' y' (by omega) hAB h1 h2 h3 (by rw [hy']; exact subadd _)
      refine hJ _ _ _ _ ?_
      refine And.intro (fun (g : nI A.length < 0) => absurd g (nI_pos (by omega))) (fun _ => ?_)
      refine And.intro hin ?_
      rw [ek, g4, t1]
      refine And.intro (fun (n5 : ¬ t.1 = 5) => ?_) (fun (e5 : t.1 = 5) => ?_)
      rotate_left
      · obtain ⟨tk, tv⟩ := t
        have e5 : tk = 5 := e5
        subst e5
        have hp5 : st.2.2.2.2.length < 260 := by
          have e0 : htT ((5, tv) :: B) = some (st.2.2.2.2.length + 1) := e0
          rw [e0] at hp
          cases hp
          omega
        refine And.intro (show vp_in r2.piled 260 by rw [i5]; exact vp_in_nI hp5 (by decide)) ?_
        have key : ∀ (i : Nat) (y : Int32), i = st.2.2.2.2.length → y = nI (st.2.2.2.2.length + 1) → J 10 [some (.ref 27), some (.int (-1)), some (.int (nI A.length + Int32.ofInt (-1)))] [] (cW s (rW ((r2.s_pile (upd r2.pile i x)).s_piled y) tl), b0, b1, op) := by
          intro i y q1 q2
          rw [q1, q2]
          exact nxt _ (pcR r2 st.2.2.2.2.length x) _ _ rfl ⟨st, hL, Or.inl ⟨rfl, rfl⟩⟩ e0 (LI_close hI)
        refine key r2.piled.toNatClampNeg (r2.piled + Int32.ofInt 1) ?_ ?_
        · show r2.piled.toNatClampNeg = _
          rw [i5]
          exact nI_clamp (by omega)
        · show r2.piled + Int32.ofInt 1 = _
          rw [i5]
          exact (nI_succ _).symm
      · rw [if_neg n5] at ecn
        have hf : 1 ≤ fz r2 := by omega
        refine And.intro hin ?_
        rw [ek, g4, t1]
        refine And.intro (fun (n4 : ¬ t.1 = 4) => ?_) (fun (e4 : t.1 = 4) => ?_)
        · -- a cell
          have hrv : rv r2 (hvT t) t.1 t.2 := by
            unfold hvT
            rcases hkd t htm with ⟨w1, w2⟩ | w | w | w | w
            · rw [if_pos w1]
              exact ⟨w1, w2⟩
            · rw [if_neg (by rw [w]; decide), if_neg (by rw [w]; decide)]
              exact ⟨w, rfl⟩
            · rw [if_neg (by rw [w]; decide), if_pos w]
              exact ⟨w, rfl⟩
            · exact absurd w n4
            · exact absurd w n5
          refine And.intro hin ?_
          rw [ek, g4, t1]
          refine And.intro hin ?_
          rw [ek, g5, t2]
          refine r_make i2.1.2 i2.1.1 (fun k hk => ?_)
          obtain ⟨w1, w2⟩ := LI_new (v := t) (ps := st.2.2.2.2) hI n5 hf hrv i4 hk (mkR r2 k t.1 t.2 x) (Or.inl rfl) i5 i6
          refine nxt _ (mkR r2 k t.1 t.2 x) (nI k) _ rfl ⟨st, hL, Or.inr (Or.inr ⟨n5, n4, k, w2, rfl⟩)⟩ ?_ w1
          rw [e0]
          show (if t.1 = 5 then _ else if t.1 = 4 then _ else some st.2.2.2.2.length) = _
          rw [if_neg n5, if_neg n4]
          rfl
        · -- a list
          obtain ⟨P, ps, eps⟩ : ∃ P ps, st.2.2.2.2 = P :: ps := by
            cases hps : st.2.2.2.2 with
            | nil =>
              rw [hps] at e0
              have e0 : htT (t :: B) = (if t.1 = 5 then some (0 + 1) else if t.1 = 4 then none else some 0) := e0
              rw [if_neg n5, if_pos e4] at e0
              rw [e0] at hp
              cases hp
            | cons P ps => exact ⟨P, ps, rfl⟩
          have hl : st.2.2.2.2.length = ps.length + 1 := by rw [eps]; rfl
          rw [hl] at i5
          have hp5 : ps.length < 260 := by
            rw [hl] at e0
            have e0 : htT (t :: B) = (if t.1 = 5 then some (ps.length + 1 + 1) else if t.1 = 4 then some ps.length else some (ps.length + 1)) := e0
            rw [if_neg n5, if_pos e4] at e0
            rw [e0] at hp
            cases hp
            omega
          have ep : r2.piled - Int32.ofInt 1 = nI ps.length := by rw [i5]; exact nI_pred _
          have hP : rg r2 P (r2.pile ps.length) := by
            have := i6 0 P (by rw [eps]; rfl)
            rw [hl] at this
            exact this
          refine And.intro (show vp_in (r2.piled - Int32.ofInt 1) 260 by rw [ep]; exact vp_in_nI hp5 (by decide)) ?_
          have key : ∀ (c y : Int32), c = r2.pile ps.length → y = nI ps.length → ∀ Q' : mj_R → Prop, (∀ k, k = ffN r2.used (r2.z - 1) 0 → Q' (.inl (some (.int (nI k))), (cW s (rW (ppR (mkR r2 k (if x < 0 then 0 else 3) (if x < 0 then 0 else x) (r2.pile ps.length)) ps.length) tl), b0, b1, op))) → mj_Mt gT cst gnw (m + 2) y_R_makeOf [.ref 27, .int x, .int c] (cW s (rW (r2.s_piled y) tl), b0, b1, op) Q' := by
            rintro c y rfl rfl Q' hQ'
            exact r_makeOf (r := ppR r2 ps.length) i2.1.2 i2.1.1 hQ'
          refine key _ _ ?_ ep _ (fun k hk => ?_)
          · show r2.pile (r2.piled - Int32.ofInt 1).toNatClampNeg = _
            rw [ep, nI_clamp (by omega)]
          · have hpl : ∀ i P2, ps[i]? = some P2 → rg r2 P2 (r2.pile (ps.length - 1 - i)) := by
              intro i P2 hi
              have := i6 (i + 1) P2 (by rw [eps]; exact hi)
              rw [hl] at this
              rw [show ps.length + 1 - 1 - (i + 1) = ps.length - 1 - i by omega] at this
              exact this
            obtain ⟨w1, w2⟩ := LI_new (v := t) (ps := ps) hI n5 hf (rg_rv i4 i2.1.2) hP hk (ppR (mkR r2 k (if x < 0 then 0 else 3) (if x < 0 then 0 else x) (r2.pile ps.length)) ps.length) (Or.inr rfl) rfl hpl
            refine nxt _ _ (nI k) _ rfl ⟨st, hL, Or.inr (Or.inl ⟨e4, P, ps, k, eps, w2, rfl⟩)⟩ ?_ w1
            rw [e0, hl]
            show (if t.1 = 5 then _ else if t.1 = 4 then some ps.length else _) = _
            rw [if_neg n5, if_pos e4]
            rfl
  refine hJ _ _ _ _ ?_
  refine loop σ.length σ [] init (ppR r 0) (-1) _ rfl (List.append_nil σ) rfl (by rw [hp0]; rfl) hI0 ?_
  show r.signs - Int32.ofInt 1 = _
  rw [hs1]
end YO
end
