def F2P (Tf : Nat → Vl) : List Nat → List Vl → Prop
  | [], [] => True
  | q :: st, P :: pl => Tf q = P ∧ F2P Tf st pl
  | [], _ :: _ => False
  | _ :: _, [] => False
def prdN : Nat → Option Nat
  | 0 => none
  | h + 1 => some h
theorem htT_c (t : Int32 × Int32) (L : TL) : htT (t :: L) = match htT L with | none => none | some h => if t.1 = 5 then some (h + 1) else if t.1 = 4 then prdN h else some h := by
  have e : htT (t :: L) = (match htT L with | none => none | some h => if t.1 = 5 then some (h + 1) else if t.1 = 4 then (match h with | 0 => none | h + 1 => some h) else some h) := rfl
  rw [e]
  cases htT L with
  | none => rfl
  | some h => cases h <;> rfl
theorem htT_5 {t : Int32 × Int32} {L : TL} {h : Nat} (h5 : t.1 = 5) (e : htT (t :: L) = some h) : ∃ h', htT L = some h' ∧ h = h' + 1 := by
  rw [htT_c] at e
  cases hL : htT L with
  | none => rw [hL] at e; cases e
  | some h' =>
    rw [hL] at e
    have e : (if t.1 = 5 then some (h' + 1) else if t.1 = 4 then prdN h' else some h') = some h := e
    rw [if_pos h5] at e
    exact ⟨h', rfl, (Option.some.inj e).symm⟩
theorem htT_4 {t : Int32 × Int32} {L : TL} {h : Nat} (h5 : ¬ t.1 = 5) (h4 : t.1 = 4) (e : htT (t :: L) = some h) : htT L = some (h + 1) := by
  rw [htT_c] at e
  cases hL : htT L with
  | none => rw [hL] at e; cases e
  | some h' =>
    rw [hL] at e
    have e : (if t.1 = 5 then some (h' + 1) else if t.1 = 4 then prdN h' else some h') = some h := e
    rw [if_neg h5, if_pos h4] at e
    cases h' with
    | zero => cases e
    | succ h' =>
      have e : some h' = some h := e
      rw [Option.some.inj e]
theorem htT_o {t : Int32 × Int32} {L : TL} {h : Nat} (h5 : ¬ t.1 = 5) (h4 : ¬ t.1 = 4) (e : htT (t :: L) = some h) : htT L = some h := by
  rw [htT_c] at e
  cases hL : htT L with
  | none => rw [hL] at e; cases e
  | some h' =>
    rw [hL] at e
    have e : (if t.1 = 5 then some (h' + 1) else if t.1 = 4 then prdN h' else some h') = some h := e
    rw [if_neg h5, if_neg h4] at e
    exact e
theorem cAp_e {z n : Nat} {H T : Nat → Vl} {l : Option Nat} {b : Bool} {v : Vl} (hn : n < z) (hl : ∀ k, l = some k → k < n) : ∃ Hn Tn, cAp z (H, T, n, l, b) v = (Hn, Tn, n + 1, some n, false) ∧ Hn n = v ∧ Tn n = vNil ∧ (∀ i, i < n → (¬ (b = true ∧ l = some i) → Hn i = H i) ∧ (¬ (b = false ∧ l = some i) → Tn i = T i)) ∧ (∀ k, l = some k → (b = true → Hn k = vPr n) ∧ (b = false → Tn k = vPr n)) := by
  have e : cAp z (H, T, n, l, b) v = ((cLk z (upW H n v) (upW T n vNil) l b (vPr n)).1, (cLk z (upW H n v) (upW T n vNil) l b (vPr n)).2, n + 1, some n, false) := if_pos hn
  refine ⟨_, _, e, ?_⟩
  cases l with
  | none =>
    refine ⟨if_pos rfl, if_pos rfl, fun i hi => ⟨fun _ => if_neg (by omega), fun _ => if_neg (by omega)⟩, fun k e => by cases e⟩
  | some k =>
    have hk := hl k rfl
    have e2 : cLk z (upW H n v) (upW T n vNil) (some k) b (vPr n) = if b then (upW (upW H n v) k (vPr n), upW T n vNil) else (upW H n v, upW (upW T n vNil) k (vPr n)) := if_pos (by omega)
    rw [e2]
    cases b with
    | true =>
      refine ⟨(if_neg (by omega)).trans (if_pos rfl), if_pos rfl, fun i hi => ⟨fun q => ?_, fun _ => if_neg (by omega)⟩, fun j ej => ⟨fun _ => ?_, fun q => by cases q⟩⟩
      · have ne : ¬ i = k := fun e => q ⟨rfl, by rw [e]⟩
        exact (if_neg ne).trans (if_neg (by omega))
      · cases ej
        exact if_pos rfl
    | false =>
      refine ⟨if_pos rfl, (if_neg (by omega)).trans (if_pos rfl), fun i hi => ⟨fun _ => if_neg (by omega), fun q => ?_⟩, fun j ej => ⟨fun q => (by cases q), fun _ => ?_⟩⟩
      · have ne : ¬ i = k := fun e => q ⟨rfl, by rw [e]⟩
        exact (if_neg ne).trans (if_neg (by omega))
      · cases ej
        exact if_pos rfl
theorem upW_same {F : Nat → Vl} {k : Nat} {x : Vl} (h : F k = x) : upW F k x = F := by
  funext i
  show (if i = k then x else F i) = F i
  split
  · next e => rw [e, h]
  · rfl
theorem U_add {n N : Nat} (h : n < N) : addU (fun i => n + 1 ≤ i ∧ i < N) n = fun i => n ≤ i ∧ i < N := by
  funext i
  refine propext ⟨fun q => ?_, fun q => ?_⟩
  · rcases q with q | q
    · exact ⟨by omega, q.2⟩
    · exact ⟨by omega, by omega⟩
  · by_cases e : i = n
    · exact Or.inr e
    · exact Or.inl ⟨by omega, q.2⟩
theorem FW (z : Nat) : ∀ (L : TL) (H T : Nat → Vl) (n : Nat) (l : Option Nat) (b : Bool) (st : List Nat), htT L = some st.length → n + cnt L ≤ z → (∀ q, q ∈ st → q < n ∧ T q = vNil) → st.Nodup → (∀ k, l = some k → k < n ∧ T k = vNil ∧ (b = true → H k = vNil ∧ ∃ st', st = k :: st') ∧ (b = false → ¬ k ∈ st)) → (l = none → b = false) → ∀ Hf Tf N lf bf stf, lyS z L ((H, T, n, l, b), st) = ((Hf, Tf, N, lf, bf), stf) →
    ∃ cu pl, LY L (Hf, Tf, fun _ => False, vNil, []) (Hf, Tf, (fun i => n ≤ i ∧ i < N), cu, pl) ∧ (∀ k, l = some k → (b = true → Hf k = cu) ∧ (b = false → Tf k = cu)) ∧ F2P Tf st pl ∧ N = n + cnt L ∧ (∀ i, i < n → (¬ (b = true ∧ l = some i) → Hf i = H i) ∧ (¬ (b = false ∧ l = some i) → ¬ i ∈ st → Tf i = T i)) ∧ (cu = vNil ∨ cu = vPr n)
  | [], H, T, n, l, b, st, hh, hz, hst, hnd, hl, hb, Hf, Tf, N, lf, bf, stf, e => by
    have e : ((H, T, n, l, b), st) = ((Hf, Tf, N, lf, bf), stf) := e
    cases e
    have h0 : st.length = 0 := (Option.some.inj hh).symm
    have hs : st = [] := List.length_eq_zero_iff.mp h0
    subst hs
    refine ⟨vNil, [], ?_, fun k ek => ⟨fun eb => ?_, fun _ => (hl k ek).2.1⟩, trivial, rfl, fun i _ => ⟨fun _ => rfl, fun _ _ => rfl⟩, Or.inl rfl⟩
    · show (H, T, (fun _ => False), vNil, []) = (H, T, (fun i => n ≤ i ∧ i < n), vNil, [])
      have : (fun _ : Nat => False) = fun i => n ≤ i ∧ i < n := by
        funext i
        exact propext ⟨fun q => absurd q id, fun q => by omega⟩
      rw [this]
    · obtain ⟨-, st', q⟩ := (hl k ek).2.2.1 eb
      cases q
  | t :: L, H, T, n, l, b, st, hh, hz, hst, hnd, hl, hb, Hf, Tf, N, lf, bf, stf, e => by
    have e : lyS z L (ly1 z t ((H, T, n, l, b), st)) = ((Hf, Tf, N, lf, bf), stf) := e
    have hz : n + ((if t.1 = 5 then 0 else 1) + cnt L) ≤ z := hz
    have ec : cnt (t :: L) = (if t.1 = 5 then 0 else 1) + cnt L := rfl
    by_cases h5 : t.1 = 5
    · rw [if_pos h5] at hz ec
      obtain ⟨h', hL, hlen⟩ := htT_5 h5 hh
      cases st with
      | nil => cases hlen
      | cons q st =>
        have hlen : st.length + 1 = h' + 1 := hlen
        have e1 : ly1 z t ((H, T, n, l, b), q :: st) = ((H, T, n, some q, false), st) := if_pos h5
        rw [e1] at e
        obtain ⟨hqn, hqT⟩ := hst q List.mem_cons_self
        obtain ⟨hq1, hq2⟩ := List.nodup_cons.mp hnd
        obtain ⟨cu, pl, i1, i2, i3, i4, i5, -⟩ := FW z L H T n (some q) false st (by rw [hL]; congr 1; omega) (by omega) (fun p hp => hst p (List.mem_cons_of_mem _ hp)) hq2 (fun k ek => by cases ek; exact ⟨hqn, hqT, fun w => (by cases w), fun _ => hq1⟩) (fun w => by cases w) Hf Tf N lf bf stf e
        refine ⟨vNil, cu :: pl, ⟨_, i1, Or.inl ⟨h5, rfl⟩⟩, fun k ek => ⟨fun eb => ?_, fun eb => ?_⟩, ⟨(i2 q rfl).2 rfl, i3⟩, by omega, fun i hi => ⟨fun _ => (i5 i hi).1 (fun w => by cases w.1), fun w1 w2 => (i5 i hi).2 (fun w => ?_) (fun w => w2 (List.mem_cons_of_mem _ w))⟩, Or.inl rfl⟩
        · obtain ⟨k1, k2, k3, k4⟩ := hl k ek
          obtain ⟨k5, st', k6⟩ := k3 eb
          rw [(i5 k k1).1 (fun w => by cases w.1)]
          exact k5
        · obtain ⟨k1, k2, k3, k4⟩ := hl k ek
          have hk := k4 eb
          rw [(i5 k k1).2 (fun w => hk (by rw [Option.some.inj w.2]; exact List.mem_cons_self)) (fun w => hk (List.mem_cons_of_mem _ w))]
          exact k2
        · exact w2 (by rw [Option.some.inj w.2]; exact List.mem_cons_self)
    · rw [if_neg h5] at hz ec
      have hn : n < z := by omega
      have hlk : ∀ k, l = some k → k < n := fun k ek => (hl k ek).1
      by_cases h4 : t.1 = 4
      · have hL := htT_4 h5 h4 hh
        obtain ⟨Hn, Tn, a1, a2, a3, a4, a5⟩ := cAp_e (H := H) (T := T) (l := l) (b := b) (v := vNil) hn hlk
        have e1 : ly1 z t ((H, T, n, l, b), st) = ((Hn, Tn, n + 1, some n, true), n :: st) := by
          have : ly1 z t ((H, T, n, l, b), st) = (cBg z (H, T, n, l, b), n :: st) := (if_neg h5).trans (if_pos h4)
          rw [this]
          show ((((cAp z (H, T, n, l, b) vNil).1, (cAp z (H, T, n, l, b) vNil).2.1, (cAp z (H, T, n, l, b) vNil).2.2.1, (cAp z (H, T, n, l, b) vNil).2.2.2.1, true) : cC), n :: st) = _
          rw [a1]
        rw [e1] at e
        have nst : ¬ n ∈ st := fun w => by have := (hst n w).1; omega
        have hT1 : ∀ q, q ∈ st → Tn q = vNil := fun q hq => by
          obtain ⟨q1, q2⟩ := hst q hq
          by_cases eb : b = false ∧ l = some q
          · exact absurd hq ((hl q eb.2).2.2.2 eb.1)
          · rw [(a4 q q1).2 eb]
            exact q2
        obtain ⟨cu, pl, i1, i2, i3, i4, i5, -⟩ := FW z L Hn Tn (n + 1) (some n) true (n :: st) hL (by omega) (fun q hq => by
          rcases List.mem_cons.mp hq with w | w
          · rw [w]
            exact ⟨by omega, a3⟩
          · exact ⟨by have := (hst q w).1; omega, hT1 q w⟩) (List.nodup_cons.mpr ⟨nst, hnd⟩) (fun k ek => by cases ek; exact ⟨by omega, a3, fun _ => ⟨a2, st, rfl⟩, fun w => by cases w⟩) (fun w => by cases w) Hf Tf N lf bf stf e
        cases pl with
        | nil => exact absurd i3 id
        | cons P pl =>
          obtain ⟨j1, j2⟩ := i3
          have hHn := (i2 n rfl).1 rfl
          refine ⟨vPr n, pl, ⟨_, i1, Or.inr (Or.inl ⟨h4, P, pl, n, rfl, fun w => by have : n + 1 ≤ n := w.1; omega, ?_⟩)⟩, fun k ek => ⟨fun eb => ?_, fun eb => ?_⟩, j2, by omega, fun i hi => ⟨fun w1 => ?_, fun w1 w2 => ?_⟩, Or.inr rfl⟩
          · show (Hf, Tf, (fun i => n ≤ i ∧ i < N), vPr n, pl) = (upW Hf n cu, upW Tf n P, addU (fun i => n + 1 ≤ i ∧ i < N) n, vPr n, pl)
            rw [upW_same hHn, upW_same j1, U_add (by omega)]
          · have hk := hlk k ek
            have ne : ¬ k = n := by omega
            rw [(i5 k (by omega)).1 (fun w => ne (Option.some.inj w.2).symm)]
            exact (a5 k ek).1 eb
          · have hk := hlk k ek
            have hks := (hl k ek).2.2.2 eb
            rw [(i5 k (by omega)).2 (fun w => by cases w.1) (fun w => by
              rcases List.mem_cons.mp w with w | w
              · omega
              · exact hks w)]
            exact (a5 k ek).2 eb
          · rw [(i5 i (by omega)).1 (fun w => by have := (Option.some.inj w.2); omega)]
            exact (a4 i hi).1 w1
          · rw [(i5 i (by omega)).2 (fun w => by cases w.1) (fun w => by
              rcases List.mem_cons.mp w with w | w
              · omega
              · exact w2 w)]
            exact (a4 i hi).2 w1
      · have hL := htT_o h5 h4 hh
        obtain ⟨Hn, Tn, a1, a2, a3, a4, a5⟩ := cAp_e (H := H) (T := T) (l := l) (b := b) (v := hvT t) hn hlk
        have e1 : ly1 z t ((H, T, n, l, b), st) = ((Hn, Tn, n + 1, some n, false), st) := by
          have : ly1 z t ((H, T, n, l, b), st) = (cAp z (H, T, n, l, b) (hvT t), st) := by
            unfold ly1 hvT
            rw [if_neg h5, if_neg h4]
            by_cases h0 : t.1 = 0
            · rw [if_pos h0, if_pos h0]
            · rw [if_neg h0, if_neg h0]
              by_cases h2 : t.1 = 2
              · rw [if_pos h2, if_pos h2]
              · rw [if_neg h2, if_neg h2]
          rw [this, a1]
        rw [e1] at e
        have nst : ¬ n ∈ st := fun w => by have := (hst n w).1; omega
        have hT1 : ∀ q, q ∈ st → Tn q = vNil := fun q hq => by
          obtain ⟨q1, q2⟩ := hst q hq
          by_cases eb : b = false ∧ l = some q
          · exact absurd hq ((hl q eb.2).2.2.2 eb.1)
          · rw [(a4 q q1).2 eb]
            exact q2
        obtain ⟨cu, pl, i1, i2, i3, i4, i5, -⟩ := FW z L Hn Tn (n + 1) (some n) false st hL (by omega) (fun q hq => ⟨by have := (hst q hq).1; omega, hT1 q hq⟩) hnd (fun k ek => by cases ek; exact ⟨by omega, a3, fun w => (by cases w), fun _ => nst⟩) (fun w => by cases w) Hf Tf N lf bf stf e
        have hTn := (i2 n rfl).2 rfl
        have hHn : Hf n = hvT t := by
          rw [(i5 n (by omega)).1 (fun w => by cases w.1)]
          exact a2
        refine ⟨vPr n, pl, ⟨_, i1, Or.inr (Or.inr ⟨h5, h4, n, fun w => by have : n + 1 ≤ n := w.1; omega, ?_⟩)⟩, fun k ek => ⟨fun eb => ?_, fun eb => ?_⟩, i3, by omega, fun i hi => ⟨fun w1 => ?_, fun w1 w2 => ?_⟩, Or.inr rfl⟩
        · show (Hf, Tf, (fun i => n ≤ i ∧ i < N), vPr n, pl) = (upW Hf n (hvT t), upW Tf n cu, addU (fun i => n + 1 ≤ i ∧ i < N) n, vPr n, pl)
          rw [upW_same hHn, upW_same hTn, U_add (by omega)]
        · have hk := hlk k ek
          rw [(i5 k (by omega)).1 (fun w => by cases w.1)]
          exact (a5 k ek).1 eb
        · have hk := hlk k ek
          have hks := (hl k ek).2.2.2 eb
          rw [(i5 k (by omega)).2 (fun w => by have := (Option.some.inj w.2); omega) hks]
          exact (a5 k ek).2 eb
        · rw [(i5 i (by omega)).1 (fun w => by cases w.1)]
          exact (a4 i hi).1 w1
        · rw [(i5 i (by omega)).2 (fun w => by have := (Option.some.inj w.2); omega) w2]
          exact (a4 i hi).2 w1
theorem LY_head : ∀ (L : TL) (a b : LSt), LY L a b → b.2.2.2.1 = a.2.2.2.1 ∨ b.2.2.2.1 = vNil ∨ ∃ k, b.2.2.2.1 = vPr k ∧ b.2.2.1 k
  | [], a, b, h => Or.inl (by rw [show a = b from h])
  | t :: L, a, b, ⟨c, _, q⟩ => by
    rcases q with ⟨-, rfl⟩ | ⟨-, P, ps, k, -, -, rfl⟩ | ⟨-, -, k, -, rfl⟩
    · exact Or.inr (Or.inl rfl)
    · exact Or.inr (Or.inr ⟨k, rfl, Or.inr rfl⟩)
    · exact Or.inr (Or.inr ⟨k, rfl, Or.inr rfl⟩)
def F2R (ρ : Nat → Nat → Prop) : List Vl → List Vl → Prop
  | [], [] => True
  | v :: l, w :: l' => VR ρ v w ∧ F2R ρ l l'
  | [], _ :: _ => False
  | _ :: _, [] => False
theorem F2R_mono {ρ ρ' : Nat → Nat → Prop} (h : ∀ a b, ρ a b → ρ' a b) : ∀ (l l' : List Vl), F2R ρ l l' → F2R ρ' l l'
  | [], [], _ => trivial
  | v :: l, w :: l', ⟨q1, q2⟩ => ⟨VR_mono h v w q1, F2R_mono h l l' q2⟩
  | [], _ :: _, q => absurd q id
  | _ :: _, [], q => absurd q id
def LR (ρ : Nat → Nat → Prop) (a a' : LSt) : Prop := FI ρ ∧ BH ρ a.1 a.2.1 a'.1 a'.2.1 ∧ (∀ x y, ρ x y → a.2.2.1 x ∧ a'.2.2.1 y) ∧ VR ρ a.2.2.2.1 a'.2.2.2.1 ∧ F2R ρ a.2.2.2.2 a'.2.2.2.2
theorem LR_new {ρ : Nat → Nat → Prop} {a a' : LSt} {k k' : Nat} {h t h' t' : Vl} {ps ps' : List Vl} (hL : LR ρ a a') (hk : ¬ a.2.2.1 k) (hk' : ¬ a'.2.2.1 k') (qh : VR ρ h h') (qt : VR ρ t t') (qp : F2R ρ ps ps') : ∃ ρ', LR ρ' (newL a k h t ps) (newL a' k' h' t' ps') := by
  obtain ⟨l1, l2, l3, l4, l5⟩ := hL
  have hF : FRS ρ (fun _ => k) (fun _ => k') 1 := fun j hj => ⟨⟨fun b q => hk (l3 _ _ q).1, fun x q => hk' (l3 _ _ q).2⟩, fun i hi hne => absurd (by omega) hne⟩
  refine ⟨exR ρ (fun _ => k) (fun _ => k') 1, FI_ex l1 hF, ?_, fun x y q => ?_, Or.inr ⟨0, by decide, rfl, rfl⟩, F2R_mono (fun _ _ => Or.inl) _ _ qp⟩
  · exact BH_al (k := fun _ => k) (k' := fun _ => k') (al := [(h, t)]) (al' := [(h', t')]) l2 hF rfl (fun i x x' e e' => F2V_at i x x' (l := [(h, t)]) (l' := [(h', t')]) ⟨⟨VR_up qh, VR_up qt⟩, trivial⟩ e e')
  · rcases q with q | ⟨j, -, rfl, rfl⟩
    · exact ⟨Or.inl (l3 x y q).1, Or.inl (l3 x y q).2⟩
    · exact ⟨Or.inr rfl, Or.inr rfl⟩
theorem VR_hv {ρ : Nat → Nat → Prop} (t : Int32 × Int32) : VR ρ (hvT t) (hvT t) := by
  unfold hvT
  split
  · exact trivial
  · split
    · exact rfl
    · exact rfl
theorem LY_bis : ∀ (L : TL) (ρ : Nat → Nat → Prop) (a a' b b' : LSt), LR ρ a a' → LY L a b → LY L a' b' → ∃ ρ', LR ρ' b b'
  | [], ρ, a, a', b, b', hR, h, h' => by
    have h : a = b := h
    have h' : a' = b' := h'
    rw [← h, ← h']
    exact ⟨ρ, hR⟩
  | t :: L, ρ, a, a', b, b', hR, ⟨c, h1, h2⟩, ⟨c', h1', h2'⟩ => by
    obtain ⟨ρ1, hR1⟩ := LY_bis L ρ a a' c c' hR h1 h1'
    have hR1' := hR1
    obtain ⟨l1, l2, l3, l4, l5⟩ := hR1
    rcases h2 with ⟨e5, rfl⟩ | ⟨e4, P, ps, k, ep, hk, rfl⟩ | ⟨n5, n4, k, hk, rfl⟩
    · rcases h2' with ⟨-, rfl⟩ | ⟨e4, -⟩ | ⟨n5, -⟩
      · exact ⟨ρ1, l1, l2, l3, trivial, l4, l5⟩
      · rw [e5] at e4
        exact absurd e4 (by decide)
      · exact absurd e5 n5
    · rcases h2' with ⟨e5, -⟩ | ⟨-, P', ps', k', ep', hk', rfl⟩ | ⟨-, n4, -⟩
      · rw [e4] at e5
        exact absurd e5 (by decide)
      · rw [ep, ep'] at l5
        exact LR_new hR1' hk hk' l4 l5.1 l5.2
      · exact absurd e4 n4
    · rcases h2' with ⟨e5, -⟩ | ⟨e4, -⟩ | ⟨-, -, k', hk', rfl⟩
      · exact absurd e5 n5
      · exact absurd e4 n4
      · exact LR_new hR1' hk hk' (VR_hv t) l4 l5
