section
abbrev KP : Type := tS → Nat → Prop
def agN (t t' : tS) (n e : Nat) : Prop := (∀ i, n ≤ i → i < e → tK t' i = tK t i ∧ tV t' i = tV t i ∧ tP t' i = tP t i ∧ tF t' i = tF t i) ∧ ∀ i, n < i → i < e → tN t' i = tN t i
def STB (P : KP) (t : tS) (n e : Nat) : Prop := ∀ t', agN t t' n e → e ≤ tn t' → P t' n
def sgP (t : tS) : List KP → List Nat → Nat → Nat → Prop
  | [], [], a, e => a = e
  | P :: Ps, c :: cs, a, e => c = a ∧ ∃ b, c < b ∧ STB P t c b ∧ sgP t Ps cs b e
  | [], _ :: _, _, _ => False
  | _ :: _, [], _, _ => False
def F2K (t : tS) : List KP → List Nat → Prop
  | [], [] => True
  | P :: Ps, c :: cs => (c < tn t ∧ P t c) ∧ F2K t Ps cs
  | [], _ :: _ => False
  | _ :: _, [] => False
def NODE (k v p : Int32) (Ps : List KP) : KP := fun t n => n < tn t ∧ (tK t n = k ∧ tV t n = v ∧ tP t n = p) ∧ Ps.length ≤ 96 ∧ ∃ cs, chain t (tF t n) cs ∧ F2K t Ps cs
def agA (n : Nat) (t t' : tS) : Prop := ∀ i, i < n → (tK t' i = tK t i ∧ tV t' i = tV t i ∧ tP t' i = tP t i) ∧ tF t' i = tF t i ∧ tL t' i = tL t i ∧ tN t' i = tN t i
def OpQ (t0 t : tS) (n : Nat) (k v p : Int32) (Ps : List KP) : Prop := n = tn t0 ∧ n < tn t ∧ (tK t n = k ∧ tV t n = v ∧ tP t n = p) ∧ (∃ cs, chain t (tF t n) cs ∧ sgP t Ps cs (n + 1) (tn t) ∧ tL t n = cs.getLast?) ∧ tN t n = none ∧ agA n t0 t
def WR (t : tS) (P : KP) (c : Nat) (t' : tS) : Prop := c = tn t ∧ STB P t' (tn t) (tn t') ∧ tn t < tn t' ∧ tN t' (tn t) = none ∧ agA (tn t) t t'
theorem agA.tr {n : Nat} {a b c : tS} (h1 : agA n a b) (h2 : agA n b c) : agA n a c := fun i hi => by
  obtain ⟨⟨p1, p2, p3⟩, p4, p5, p6⟩ := h1 i hi
  obtain ⟨⟨q1, q2, q3⟩, q4, q5, q6⟩ := h2 i hi
  exact ⟨⟨q1.trans p1, q2.trans p2, q3.trans p3⟩, q4.trans p4, q5.trans p5, q6.trans p6⟩
theorem agA.le {n k : Nat} {a b : tS} (h : agA n a b) (hk : k ≤ n) : agA k a b := fun i hi => h i (by omega)
theorem agA_add {t : tS} {k v p : Int32} : agA (tn t) t (tAdd t k v p) := fun i hi => by
  have : i ≠ tn t := by omega
  exact ⟨⟨if_neg this, if_neg this, if_neg this⟩, if_neg this, if_neg this, if_neg this⟩
theorem agN_sub {t t' : tS} {n e n2 e2 : Nat} (h : agN t t' n e) (h1 : n ≤ n2) (h2 : e2 ≤ e) : agN t t' n2 e2 := ⟨fun i a b => h.1 i (by omega) (by omega), fun i a b => h.2 i (by omega) (by omega)⟩
theorem agN_tr {a b c : tS} {n e : Nat} (h1 : agN a b n e) (h2 : agN b c n e) : agN a c n e := by
  refine ⟨fun i q1 q2 => ?_, fun i q1 q2 => (h2.2 i q1 q2).trans (h1.2 i q1 q2)⟩
  obtain ⟨p1, p2, p3, p4⟩ := h1.1 i q1 q2
  obtain ⟨r1, r2, r3, r4⟩ := h2.1 i q1 q2
  exact ⟨r1.trans p1, r2.trans p2, r3.trans p3, r4.trans p4⟩
theorem STB_ag {P : KP} {t t2 : tS} {n e : Nat} (h : STB P t n e) (ha : agN t t2 n e) : STB P t2 n e := fun t' h1 h2 => h t' (agN_tr ha h1) h2
theorem STB_mono {P R : KP} {t : tS} {n e : Nat} (h : STB P t n e) (hr : ∀ t', P t' n → R t' n) : STB R t n e := fun t' h1 h2 => hr t' (h t' h1 h2)
theorem agN_A {t t2 : tS} {n a e : Nat} (h : agA n t t2) (he : e ≤ n) : agN t t2 a e := by
  refine ⟨fun i _ q2 => ?_, fun i _ q2 => (h i (by omega)).2.2.2⟩
  obtain ⟨⟨p1, p2, p3⟩, p4, -, -⟩ := h i (by omega)
  exact ⟨p1, p2, p3, p4⟩
theorem sgP_le {t : tS} : ∀ {Ps : List KP} {cs : List Nat} {a e : Nat}, sgP t Ps cs a e → a + Ps.length ≤ e
  | [], [], a, e, h => Nat.le_of_eq h
  | P :: Ps, c :: cs, a, e, ⟨h1, b, h2, h3, h4⟩ => by
    have := sgP_le h4
    show a + (Ps.length + 1) ≤ e
    omega
  | [], _ :: _, a, e, h => absurd h id
  | _ :: _, [], a, e, h => absurd h id
theorem sgP_in {t : tS} : ∀ {Ps : List KP} {cs : List Nat} {a e : Nat}, sgP t Ps cs a e → ∀ c, c ∈ cs → a ≤ c ∧ c < e
  | [], [], a, e, h, c, hc => by cases hc
  | P :: Ps, d :: cs, a, e, ⟨h1, b, h2, h3, h4⟩, c, hc => by
    have := sgP_le h4
    rcases List.mem_cons.mp hc with rfl | hc
    · omega
    · have := sgP_in h4 c hc
      omega
  | [], _ :: _, a, e, h, _, _ => absurd h id
  | _ :: _, [], a, e, h, _, _ => absurd h id
theorem sgP_nodup {t : tS} : ∀ {Ps : List KP} {cs : List Nat} {a e : Nat}, sgP t Ps cs a e → cs.Nodup
  | [], [], a, e, h => List.nodup_nil
  | P :: Ps, c :: cs, a, e, ⟨h1, b, h2, h3, h4⟩ => by
    refine List.nodup_cons.mpr ⟨fun hc => ?_, sgP_nodup h4⟩
    have := sgP_in h4 c hc
    omega
  | [], _ :: _, a, e, h => absurd h id
  | _ :: _, [], a, e, h => absurd h id
theorem sgP_ag {t t2 : tS} : ∀ {Ps : List KP} {cs : List Nat} {a e : Nat}, (∀ i, a ≤ i → i < e → tK t2 i = tK t i ∧ tV t2 i = tV t i ∧ tP t2 i = tP t i ∧ tF t2 i = tF t i) → (∀ i, a ≤ i → i < e → i ∉ cs → tN t2 i = tN t i) → sgP t Ps cs a e → sgP t2 Ps cs a e
  | [], [], a, e, _, _, h => h
  | P :: Ps, c :: cs, a, e, hF, hN, ⟨h1, b, h2, h3, h4⟩ => by
    have hle := sgP_le h4
    refine ⟨h1, b, h2, STB_ag h3 ⟨fun i q1 q2 => hF i (by omega) (by omega), fun i q1 q2 => hN i (by omega) (by omega) (fun hc => ?_)⟩, sgP_ag (fun i q1 q2 => hF i (by omega) q2) (fun i q1 q2 q3 => hN i (by omega) q2 (fun hc => ?_)) h4⟩
    · rcases List.mem_cons.mp hc with w | w
      · omega
      · have := sgP_in h4 i w
        omega
    · rcases List.mem_cons.mp hc with w | w
      · omega
      · exact q3 w
  | [], _ :: _, a, e, _, _, h => absurd h id
  | _ :: _, [], a, e, _, _, h => absurd h id
theorem sgP_snoc {t : tS} {P : KP} {c e : Nat} (hp : STB P t c e) (hc : c < e) : ∀ {Ps : List KP} {cs : List Nat} {a : Nat}, sgP t Ps cs a c → sgP t (Ps ++ [P]) (cs ++ [c]) a e
  | [], [], a, h => ⟨h.symm, e, hc, hp, rfl⟩
  | Q :: Ps, d :: cs, a, ⟨h1, b, h2, h3, h4⟩ => ⟨h1, b, h2, h3, sgP_snoc hp hc h4⟩
  | [], _ :: _, a, h => absurd h id
  | _ :: _, [], a, h => absurd h id
theorem sgP_F2 {t : tS} : ∀ {Ps : List KP} {cs : List Nat} {a e : Nat} (t' : tS), (∀ c b, a ≤ c → b ≤ e → agN t t' c b) → e ≤ tn t' → sgP t Ps cs a e → F2K t' Ps cs
  | [], [], a, e, t', _, _, h => trivial
  | P :: Ps, c :: cs, a, e, t', hA, he, ⟨h1, b, h2, h3, h4⟩ => by
    have hle := sgP_le h4
    exact ⟨⟨by omega, h3 t' (hA c b (by omega) (by omega)) (by omega)⟩, sgP_F2 t' (fun c2 b2 q1 q2 => hA c2 b2 (by omega) q2) he h4⟩
  | [], _ :: _, a, e, t', _, _, h => absurd h id
  | _ :: _, [], a, e, t', _, _, h => absurd h id
theorem opq_new {t : tS} {k v p : Int32} : OpQ t (tAdd t k v p) (tn t) k v p [] := by
  refine ⟨rfl, Nat.lt_succ_self _, ⟨if_pos rfl, if_pos rfl, if_pos rfl⟩, ⟨[], if_pos rfl, rfl, if_pos rfl⟩, if_pos rfl, agA_add⟩
theorem opq_part {t0 t t2 : tS} {n c : Nat} {k v p : Int32} {Ps : List KP} {P : KP} (h : OpQ t0 t n k v p Ps) (hw : WR t P c t2) : OpQ t0 (tPart t2 n c) n k v p (Ps ++ [P]) := by
  obtain ⟨h0, h1, ⟨hk, hv, hp⟩, ⟨cs, h2, h3, h4⟩, h5, h6⟩ := h
  obtain ⟨rfl, hs, hc, hN, ha⟩ := hw
  obtain ⟨⟨a1, a2, a3⟩, hF, hL, hNn⟩ := ha n h1
  have hL : tL t2 n = cs.getLast? := hL.trans h4
  have hin : ∀ c, c ∈ cs → n + 1 ≤ c ∧ c < tn t := sgP_in h3
  have h3' : sgP t2 Ps cs (n + 1) (tn t) := sgP_ag (fun i _ q2 => by obtain ⟨⟨p1, p2, p3⟩, p4, -, -⟩ := ha i q2; exact ⟨p1, p2, p3, p4⟩) (fun i _ q2 _ => (ha i q2).2.2.2) h3
  have h2' : chain t2 (tF t2 n) cs := by
    rw [hF]
    exact chain_fr (fun c hc => (ha c (hin c hc).2).2.2.2) h2
  have hA6 : agA n t0 t2 := h6.tr (ha.le (Nat.le_of_lt h1))
  unfold tPart
  cases hg : cs.getLast? with
  | none =>
    have hcs : cs = [] := List.getLast?_eq_none_iff.mp hg
    subst hcs
    rw [hL, hg]
    refine ⟨h0, by show n < tn t2; omega, ⟨a1.trans hk, a2.trans hv, a3.trans hp⟩, ⟨[tn t], ?_, ?_, ?_⟩, hNn.trans h5, fun i hi => ?_⟩
    · show chain _ (upW (tF t2) n (some (tn t)) n) [tn t]
      rw [show upW (tF t2) n (some (tn t)) n = some (tn t) from if_pos rfl]
      exact ⟨rfl, hN⟩
    · have hPs : Ps = [] := by
        cases Ps with
        | nil => rfl
        | cons P Ps => exact absurd h3 id
      subst hPs
      have h3 : n + 1 = tn t := h3
      refine ⟨h3.symm, tn t2, hc, ?_, rfl⟩
      exact STB_ag hs ⟨fun i q1 q2 => ⟨rfl, rfl, rfl, if_neg (by omega)⟩, fun i q1 q2 => rfl⟩
    · show upW (tL t2) n (some (tn t)) n = some (tn t)
      exact if_pos rfl
    · have hne : i ≠ n := by omega
      obtain ⟨b1, b2, b3, b4⟩ := hA6 i hi
      exact ⟨b1, (if_neg hne).trans b2, (if_neg hne).trans b3, b4⟩
  | some l =>
    have hlm := List.mem_of_getLast? hg
    have hl := hin l hlm
    rw [hL, hg]
    have eN : ∀ d, d ≠ l → upW (tN t2) l (some (tn t)) d = tN t2 d := fun d hd => if_neg hd
    refine ⟨h0, by show n < tn t2; omega, ⟨a1.trans hk, a2.trans hv, a3.trans hp⟩, ⟨cs ++ [tn t], ?_, ?_, ?_⟩, ?_, fun i hi => ?_⟩
    · show chain _ (tF t2 n) (cs ++ [tn t])
      refine chain_snoc (t := t2) (l := l) ?_ ?_ (fun d _ hd => eN d hd) hg (sgP_nodup h3) h2'
      · show upW (tN t2) l (some (tn t)) (tn t) = none
        rw [eN _ (by omega)]
        exact hN
      · show upW (tN t2) l (some (tn t)) l = some (tn t)
        exact if_pos rfl
    · refine sgP_snoc ?_ hc (sgP_ag (t := t2) (fun i _ _ => ⟨rfl, rfl, rfl, rfl⟩) (fun i _ _ q3 => eN i (fun e => q3 (by rw [e]; exact hlm))) h3')
      exact STB_ag hs ⟨fun i q1 q2 => ⟨rfl, rfl, rfl, rfl⟩, fun i q1 q2 => eN i (by omega)⟩
    · show upW (tL t2) n (some (tn t)) n = (cs ++ [tn t]).getLast?
      rw [List.getLast?_append, List.getLast?_singleton]
      exact if_pos rfl
    · show upW (tN t2) l (some (tn t)) n = none
      rw [eN n (by omega)]
      exact hNn.trans h5
    · have hne : i ≠ n := by omega
      have hnl : i ≠ l := by omega
      obtain ⟨b1, b2, b3, b4⟩ := hA6 i hi
      exact ⟨b1, b2, (if_neg hne).trans b3, (eN i hnl).trans b4⟩
theorem opq_node {t0 t : tS} {n : Nat} {k v p : Int32} {Ps : List KP} (h : OpQ t0 t n k v p Ps) (h96 : tn t ≤ 96) : STB (NODE k v p Ps) t n (tn t) := by
  obtain ⟨h0, h1, ⟨hk, hv, hp⟩, ⟨cs, h2, h3, h4⟩, h5, h6⟩ := h
  intro t' ha he
  obtain ⟨b1, b2, b3, b4⟩ := ha.1 n (Nat.le_refl _) h1
  have hin := sgP_in h3
  have hle := sgP_le h3
  refine ⟨by omega, ⟨b1.trans hk, b2.trans hv, b3.trans hp⟩, by omega, cs, ?_, ?_⟩
  · rw [b4]
    exact chain_fr (fun c hc => ha.2 c (by have := hin c hc; omega) (hin c hc).2) h2
  · exact sgP_F2 t' (fun c b q1 q2 => agN_sub ha (by omega) q2) he h3
theorem opq_done {t0 t : tS} {n : Nat} {k v p : Int32} {Ps : List KP} {P : KP} (h : OpQ t0 t n k v p Ps) (h96 : tn t ≤ 96) (hP : ∀ t', NODE k v p Ps t' n → P t' n) : WR t0 P n t := by
  have hn := opq_node h h96
  obtain ⟨rfl, h1, -, -, h5, h6⟩ := h
  exact ⟨rfl, STB_mono hn hP, h1, h5, h6⟩
theorem opq_cur {t0 t : tS} {n : Nat} {k v p : Int32} {Ps : List KP} (h : OpQ t0 t n k v p Ps) (h96 : tn t ≤ 96) : NODE k v p Ps t n := opq_node h h96 t ⟨fun _ _ _ => ⟨rfl, rfl, rfl, rfl⟩, fun _ _ _ => rfl⟩ (Nat.le_refl _)
theorem WR_mono {t t' : tS} {P R : KP} {c : Nat} (h : WR t P c t') (hr : ∀ t', P t' c → R t' c) : WR t R c t' := by
  obtain ⟨rfl, h2, h3⟩ := h
  exact ⟨rfl, STB_mono h2 hr, h3⟩
end
