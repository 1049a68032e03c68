def chain (t : tS) : Option Nat → List Nat → Prop
  | o, [] => o = none
  | o, c :: cs => o = some c ∧ chain t (tN t c) cs
def segs (P : Nat → Nat → Prop) : Nat → Nat → List Nat → Prop
  | a, e, [] => a = e
  | a, e, c :: cs => c = a ∧ ∃ b, c < b ∧ P c b ∧ segs P b e cs
def WS (t : tS) (n e : Nat) : Prop := ∀ P : Nat → Nat → Prop, (∀ n e cs, n < e → chain t (tF t n) cs → segs P (n + 1) e cs → P n e) → P n e
theorem segs_mono {P R : Nat → Nat → Prop} (h : ∀ c b, P c b → R c b) : ∀ {cs : List Nat} {a e : Nat}, segs P a e cs → segs R a e cs
  | [], a, e, hs => hs
  | c :: cs, a, e, ⟨h1, b, h2, h3, h4⟩ => ⟨h1, b, h2, h _ _ h3, segs_mono h h4⟩
theorem WS_in {t : tS} {n e : Nat} {cs : List Nat} (h1 : n < e) (h2 : chain t (tF t n) cs) (h3 : segs (WS t) (n + 1) e cs) : WS t n e := by
  intro P hP
  exact hP n e cs h1 h2 (segs_mono (fun c b h => h P hP) h3)
theorem WS_ind {t : tS} {P : Nat → Nat → Prop} (hP : ∀ n e cs, n < e → chain t (tF t n) cs → segs (fun c b => WS t c b ∧ P c b) (n + 1) e cs → P n e) {n e : Nat} (h : WS t n e) : P n e := by
  have := h (fun n e => WS t n e ∧ P n e) (fun n e cs h1 h2 h3 => ⟨WS_in h1 h2 (segs_mono (fun _ _ h => h.1) h3), hP n e cs h1 h2 h3⟩)
  exact this.2
theorem segs_le {P : Nat → Nat → Prop} : ∀ {cs : List Nat} {a e : Nat}, segs P a e cs → a ≤ e
  | [], a, e, h => Nat.le_of_eq h
  | c :: cs, a, e, ⟨h1, b, h2, h3, h4⟩ => by have := segs_le h4; omega
theorem segs_in {P : Nat → Nat → Prop} : ∀ {cs : List Nat} {a e : Nat}, segs P a e cs → ∀ c, c ∈ cs → a ≤ c ∧ c < e
  | [], a, e, h, c, hc => by cases hc
  | d :: cs, a, e, ⟨h1, b, h2, h3, h4⟩, c, hc => by
    have := segs_le h4
    rcases List.mem_cons.mp hc with rfl | hc
    · omega
    · have := segs_in h4 c hc
      omega
theorem chain_fr {t t' : tS} : ∀ {cs : List Nat} {o : Option Nat}, (∀ c, c ∈ cs → tN t' c = tN t c) → chain t o cs → chain t' o cs
  | [], o, _, h => h
  | c :: cs, o, hN, ⟨h1, h2⟩ => ⟨h1, by rw [hN c List.mem_cons_self]; exact chain_fr (fun d hd => hN d (List.mem_cons_of_mem _ hd)) h2⟩
theorem WS_fr {t t' : tS} {n e : Nat} (h : WS t n e) : (∀ i, n ≤ i → i < e → tF t' i = tF t i) → (∀ i, n < i → i < e → tN t' i = tN t i) → WS t' n e := by
  refine WS_ind (P := fun n e => (∀ i, n ≤ i → i < e → tF t' i = tF t i) → (∀ i, n < i → i < e → tN t' i = tN t i) → WS t' n e) (fun n e cs h1 h2 h3 hF hN => ?_) h
  refine WS_in (cs := cs) h1 ?_ ?_
  · rw [hF n (Nat.le_refl _) h1]
    refine chain_fr (fun c hc => ?_) h2
    have := segs_in h3 c hc
    exact hN c (by omega) this.2
  · have go : ∀ (cs : List Nat) (a : Nat), n + 1 ≤ a → segs (fun c b => WS t c b ∧ ((∀ i, c ≤ i → i < b → tF t' i = tF t i) → (∀ i, c < i → i < b → tN t' i = tN t i) → WS t' c b)) a e cs → segs (WS t') a e cs := by
      intro cs
      induction cs with
      | nil => intro a _ h; exact h
      | cons c cs ih =>
        rintro a ha ⟨rfl, b, g2, ⟨-, g3⟩, g4⟩
        have := segs_le g4
        exact ⟨rfl, b, g2, g3 (fun i q1 q2 => hF i (by omega) (by omega)) (fun i q1 q2 => hN i (by omega) (by omega)), ih b (by omega) g4⟩
    exact go cs (n + 1) (Nat.le_refl _) h3
def Opn (t : tS) (n : Nat) (cs : List Nat) : Prop := n < tn t ∧ chain t (tF t n) cs ∧ segs (WS t) (n + 1) (tn t) cs ∧ tL t n = cs.getLast?
def agT (n : Nat) (t t' : tS) : Prop := ∀ i, i < n → tF t' i = tF t i ∧ tL t' i = tL t i ∧ tN t' i = tN t i
theorem agT.tr {n : Nat} {a b c : tS} (h1 : agT n a b) (h2 : agT n b c) : agT n a c := fun i hi => ⟨(h2 i hi).1.trans (h1 i hi).1, (h2 i hi).2.1.trans (h1 i hi).2.1, (h2 i hi).2.2.trans (h1 i hi).2.2⟩
theorem agT.le {n k : Nat} {a b : tS} (h : agT n a b) (hk : k ≤ n) : agT k a b := fun i hi => h i (by omega)
theorem agT_add {t : tS} {k v p : Int32} : agT (tn t) t (tAdd t k v p) := fun i hi => by
  have : i ≠ tn t := by omega
  exact ⟨if_neg this, if_neg this, if_neg this⟩
theorem add_new {t : tS} {k v p : Int32} : Opn (tAdd t k v p) (tn t) [] ∧ tN (tAdd t k v p) (tn t) = none := by
  refine ⟨⟨Nat.lt_succ_self _, ?_, ?_, ?_⟩, if_pos rfl⟩
  · show upW (tF t) (tn t) none (tn t) = none
    exact if_pos rfl
  · show tn t + 1 = tn t + 1
    rfl
  · show upW (tL t) (tn t) none (tn t) = none
    exact if_pos rfl
theorem chain_snoc {t t' : tS} {c l : Nat} (hc : tN t' c = none) (hl : tN t' l = some c) : ∀ {cs : List Nat} {o : Option Nat}, (∀ d, d ∈ cs → d ≠ l → tN t' d = tN t d) → cs.getLast? = some l → cs.Nodup → chain t o cs → chain t' o (cs ++ [c])
  | [], o, _, h, _, _ => by cases h
  | [d], o, _, h, _, ⟨h1, h2⟩ => by
    cases h
    exact ⟨h1, hl, hc⟩
  | d :: d2 :: cs, o, hN, h, hd, ⟨h1, h2⟩ => by
    have hl2 : (d2 :: cs).getLast? = some l := by rw [List.getLast?_cons_cons] at h; exact h
    have hne : d ≠ l := fun e => by
      have := (List.nodup_cons.mp hd).1
      rw [e] at this
      exact this (List.mem_of_getLast? hl2)
    refine ⟨h1, ?_⟩
    rw [hN d List.mem_cons_self hne]
    exact chain_snoc hc hl (fun q hq => hN q (List.mem_cons_of_mem _ hq)) hl2 (List.nodup_cons.mp hd).2 h2
theorem segs_nodup {P : Nat → Nat → Prop} : ∀ {cs : List Nat} {a e : Nat}, segs P a e cs → cs.Nodup
  | [], a, e, h => List.nodup_nil
  | c :: cs, a, e, ⟨h1, b, h2, h3, h4⟩ => by
    refine List.nodup_cons.mpr ⟨fun hc => ?_, segs_nodup h4⟩
    have := segs_in h4 c hc
    omega
theorem segs_snoc {P : Nat → Nat → Prop} {c e : Nat} (hp : P c e) (hc : c < e) : ∀ {cs : List Nat} {a : Nat}, segs P a c cs → segs P a e (cs ++ [c])
  | [], a, h => ⟨h.symm, e, hc, hp, rfl⟩
  | d :: cs, a, ⟨h1, b, h2, h3, h4⟩ => ⟨h1, b, h2, h3, segs_snoc hp hc h4⟩
theorem op_part {t t2 : tS} {n : Nat} {cs : List Nat} (h : Opn t n cs) (ha : agT (tn t) t t2) (hw : WS t2 (tn t) (tn t2)) (hc : tn t < tn t2) (hN : tN t2 (tn t) = none) : Opn (tPart t2 n (tn t)) n (cs ++ [tn t]) ∧ agT n t (tPart t2 n (tn t)) ∧ tN (tPart t2 n (tn t)) n = tN t n := by
  obtain ⟨h1, h2, h3, h4⟩ := h
  have hL : tL t2 n = cs.getLast? := (ha n h1).2.1.trans h4
  have hF : tF t2 n = tF t n := (ha n h1).1
  have hin : ∀ c, c ∈ cs → n + 1 ≤ c ∧ c < tn t := segs_in h3
  have h3' : segs (WS t2) (n + 1) (tn t) cs := by
    have go : ∀ (cs : List Nat) (a : Nat), segs (WS t) a (tn t) cs → segs (WS t2) a (tn t) cs := by
      intro cs
      induction cs with
      | nil => intro a h; exact h
      | cons c cs ih =>
        rintro a ⟨rfl, b, g2, g3, g4⟩
        have := segs_le g4
        exact ⟨rfl, b, g2, WS_fr g3 (fun i q1 q2 => (ha i (by omega)).1) (fun i q1 q2 => (ha i (by omega)).2.2), ih b g4⟩
    exact go cs (n + 1) h3
  have h2' : chain t2 (tF t2 n) cs := by
    rw [hF]
    exact chain_fr (fun c hc => (ha c (hin c hc).2).2.2) h2
  unfold tPart
  cases hg : cs.getLast? with
  | none =>
    have hcs : cs = [] := List.getLast?_eq_none_iff.mp hg
    subst hcs
    rw [hL, hg]
    refine ⟨⟨by show n < tn t2; omega, ?_, ?_, ?_⟩, fun i hi => ?_, (ha n h1).2.2⟩
    · show chain _ (upW (tF t2) n (some (tn t)) n) [tn t]
      rw [show upW (tF t2) n (some (tn t)) n = some (tn t) from if_pos rfl]
      exact ⟨rfl, hN⟩
    · have h3 : n + 1 = tn t := h3
      refine ⟨h3.symm, tn t2, hc, ?_, rfl⟩
      exact WS_fr hw (fun i q1 q2 => if_neg (by omega)) (fun i q1 q2 => rfl)
    · show upW (tL t2) n (some (tn t)) n = some (tn t)
      exact if_pos rfl
    · have hne : i ≠ n := by omega
      obtain ⟨a1, a2, a3⟩ := ha i (by omega)
      exact ⟨(if_neg hne).trans a1, (if_neg hne).trans a2, a3⟩
  | some l =>
    have hl := hin l (List.mem_of_getLast? hg)
    rw [hL, hg]
    have eN : ∀ d, d ≠ l → upW (tN t2) l (some (tn t)) d = tN t2 d := fun d hd => if_neg hd
    refine ⟨⟨by show n < tn t2; omega, ?_, ?_, ?_⟩, fun i hi => ?_, ?_⟩
    · show chain _ (tF t2 n) (cs ++ [tn t])
      refine chain_snoc (t := t2) (l := l) ?_ ?_ (fun d _ hd => eN d hd) hg (segs_nodup h3) h2'
      · show upW (tN t2) l (some (tn t)) (tn t) = none
        rw [eN _ (by omega)]
        exact hN
      · show upW (tN t2) l (some (tn t)) l = some (tn t)
        exact if_pos rfl
    · have go : ∀ (cs : List Nat) (a : Nat), (∀ c, c ∈ cs → n + 1 ≤ c) → segs (WS t2) a (tn t) cs → cs.getLast? = some l → segs (WS (tn t2, tK t2, tV t2, tP t2, tF t2, upW (tL t2) n (some (tn t)), upW (tN t2) l (some (tn t)))) a (tn t) cs := by
        intro cs
        induction cs with
        | nil => intro a _ h; exact fun _ => h
        | cons c cs ih =>
          rintro a hge ⟨rfl, b, g2, g3, g4⟩ hla
          cases cs with
          | nil =>
            have e : c = l := Option.some.inj hla
            exact ⟨rfl, b, g2, WS_fr g3 (fun i q1 q2 => rfl) (fun i q1 q2 => eN i (by omega)), g4⟩
          | cons d cs =>
            have hla2 : (d :: cs).getLast? = some l := by rw [List.getLast?_cons_cons] at hla; exact hla
            have hlb := segs_in g4 l (List.mem_of_getLast? hla2)
            exact ⟨rfl, b, g2, WS_fr g3 (fun i q1 q2 => rfl) (fun i q1 q2 => eN i (by omega)), ih b (fun q hq => hge q (List.mem_cons_of_mem _ hq)) g4 hla2⟩
      refine segs_snoc ?_ hc (go cs (n + 1) (fun c hc => (hin c hc).1) h3' hg)
      exact WS_fr hw (fun i q1 q2 => rfl) (fun i q1 q2 => eN i (by omega))
    · show upW (tL t2) n (some (tn t)) n = (cs ++ [tn t]).getLast?
      rw [List.getLast?_append, List.getLast?_singleton]
      exact if_pos rfl
    · have hne : i ≠ n := by omega
      have hnl : i ≠ l := by omega
      obtain ⟨a1, a2, a3⟩ := ha i (by omega)
      exact ⟨a1, (if_neg hne).trans a2, (eN i hnl).trans a3⟩
    · show upW (tN t2) l (some (tn t)) n = tN t n
      rw [eN n (by omega)]
      exact (ha n h1).2.2
theorem op_ws {t : tS} {n : Nat} {cs : List Nat} (h : Opn t n cs) : WS t n (tn t) := WS_in h.1 h.2.1 h.2.2.1
