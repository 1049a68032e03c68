section
section P2n
variable {m b0 b1 : Nat} {op : Bool} {tl : List mj_O} {Q : mj_R → Prop} {xs : List Int32}
variable {o0 : mj_O} {t : tS} {X : Nat → Int32} {len a z : Nat} {s : cD_} {tx : Nat → Nat}
set_option maxRecDepth 10000
theorem m_ex (hz : z ≤ 250) (ht : tOK t) : ∀ (f d : Nat), 1 ≤ f → 11 ≤ f + d → d ≤ 20 → HC xs o0 t X len a z tl b0 b1 op y_Coder_expression (6 * f + 40) (dEx z t f d) d
  | 0, d, h, _, _ => by omega
  | f + 1, d, _, hfd, hd => by
    intro ℓ o s x w Q hx hw hlv ho h hn hQ
    subst hx
    subst hw
    obtain ⟨l, rfl⟩ : ∃ l, ℓ = l + 30 := ⟨ℓ - 30, by omega⟩
    unfold dEx at hQ hn
    intro J hJ
    refine hJ _ _ _ _ ?_
    refine And.intro (fun (g : nI d ≤ nI 9) => ?_) (fun (g : ¬ nI d ≤ nI 9) => ?_)
    · have hd9 := (nI_leI (by omega) (by decide)).mp g
      rw [if_neg (by omega)] at hQ hn
      have hg := s_Ex (z := z) ht f (d + 1)
      have Hg := m_ex hz ht f (d + 1) (by omega) (by omega) (by omega)
      refine t_kind rfl ht.1 ho ?_
      generalize tEi t (tK t) o = kd at hQ hn
      refine And.intro (fun (g1 : kd = 1) => ?_) (fun (g1 : ¬ kd = 1) => ?_)
      · subst g1
        rw [if_pos rfl] at hQ hn
        refine m_con (l := l + 29) rfl rfl (by omega) hz ht hd9 ho h hn ?_
        exact hQ
      rw [if_neg g1] at hQ hn
      refine And.intro (fun (g2 : kd = 2) => ?_) (fun (g2 : ¬ kd = 2) => ?_)
      · subst g2
        rw [if_pos rfl] at hQ hn
        refine m_var rfl hz ht ho h hn ?_
        exact hQ
      rw [if_neg g2] at hQ hn
      refine And.intro (fun (g3 : kd = 3) => ?_) (fun (g3 : ¬ kd = 3) => ?_)
      · subst g3
        rw [if_neg (by decide)] at hQ
        rw [if_neg (by decide)] at hQ
        rw [if_neg (by decide)] at hQ
        rw [if_neg (by decide)] at hQ
        rw [if_neg (by decide)] at hQ
        rw [if_neg (by decide)] at hQ
        exact hQ
      refine And.intro (fun (g4 : kd = 4) => ?_) (fun (g4 : ¬ kd = 4) => ?_)
      · subst g4
        rw [if_pos rfl] at hQ hn
        refine t_firstPart rfl ht.1 ho ?_
        refine m_con (l := l + 29) rfl rfl (by omega) hz ht hd9 (tEn_lt ht.2.1 _) h hn ?_
        exact hQ
      rw [if_neg g4] at hQ hn
      refine And.intro (fun (g5 : kd = 5) => ?_) (fun (g5 : ¬ kd = 5) => ?_)
      · subst g5
        rw [if_pos rfl] at hQ hn
        refine m_oper (l := l + 28) rfl rfl hz ht hg Hg (by omega) (by omega) ho h hn ?_
        exact hQ
      rw [if_neg g5] at hQ hn
      refine And.intro (fun (g6 : kd = 6) => ?_) (fun (g6 : ¬ kd = 6) => ?_)
      · subst g6
        rw [if_pos rfl] at hQ hn
        refine m_fun (l := l + 28) rfl rfl hz ht hg Hg (by omega) (by omega) ho h hn ?_
        exact hQ
      rw [if_neg g6] at hQ hn
      refine And.intro (fun (g7 : kd = 7) => ?_) (fun (g7 : ¬ kd = 7) => ?_)
      · subst g7
        rw [if_neg (by decide)] at hQ
        rw [if_neg (by decide)] at hQ
        rw [if_neg (by decide)] at hQ
        exact hQ
      refine And.intro (fun (g8 : kd = 8) => ?_) (fun (g8 : ¬ kd = 8) => ?_)
      · subst g8
        rw [if_pos rfl] at hQ hn
        refine m_bound (l := l + 28) rfl rfl hz ht hg Hg (by omega) (by omega) ho h hn ?_
        exact hQ
      rw [if_neg g8] at hQ hn
      refine And.intro (fun (g9 : kd = 9) => ?_) (fun (g9 : ¬ kd = 9) => ?_)
      · subst g9
        rw [if_pos rfl] at hQ hn
        refine m_boundF (l := l + 28) rfl rfl hz ht hg Hg (by omega) (by omega) ho h hn ?_
        exact hQ
      rw [if_neg g9] at hQ hn
      refine And.intro (fun (g10 : kd = 10) => ?_) (fun (g10 : ¬ kd = 10) => ?_)
      · subst g10
        rw [if_neg (by decide)] at hQ
        exact hQ
      refine And.intro (fun (g11 : kd = 11) => ?_) (fun (g11 : ¬ kd = 11) => ?_)
      · subst g11
        rw [if_pos rfl] at hQ hn
        refine m_call (l := l + 28) rfl rfl hz ht hg Hg (by omega) (by omega) ho h hn ?_
        exact hQ
      rw [if_neg g11] at hQ hn
      exact hQ
    · have hd9 : ¬ d ≤ 9 := fun q => g (nI_le q (by decide))
      rw [if_pos (by omega)] at hQ
      exact hQ
def dZ (s : cD_) : cD_ := ((cH_ (dC s), cT_ (dC s), 0, none, false), dF s, 0, -1)
theorem m_lay {l : Nat} (hl : 108 ≤ l) (hz : z ≤ 250) (ht : tOK t) (hF : ∀ i j, dF s i = some j → j < 1000) (hn : cn (dC (dI z (dEx z t 11 0 (some 0) (dZ s)) 19)) < 2 ^ 30) (hQ : Q (.inl (some (.int (dU (dEx z t 11 0 (some 0) (dZ s))))), (cdW o0 t X len a z (dI z (dEx z t 11 0 (some 0) (dZ s)) 19) tl, b0, b1, op))) : mj_Mt gT (law_cst xs) gnw (l + 1) y_Coder_layDown [.ref 14] (cdW o0 t X len a z s tl, b0, b1, op) Q := by
  obtain ⟨l, rfl⟩ : ∃ l', l = l' + 108 := ⟨l - 108, by omega⟩
  have h0 : sOK (dZ s) := ⟨Nat.zero_le _, fun k e => (by cases e), hF⟩
  have h1 := s_Ex (z := z) ht 11 0 (some 0) (dZ s) (fun i e => by cases e; decide) h0
  have h2 := s_I (z := z) (x := 19) h1.1
  have e2 := h2.2
  intro J hJ
  refine hJ _ _ _ _ ?_
  intro J2 hJ2
  refine hJ2 _ _ _ _ ?_
  refine And.intro (Or.inl rfl) ?_
  refine m_ex hz ht 11 0 (by decide) (by decide) (by decide) (l + 108) (some 0) (dZ s) _ _ _ rfl rfl (by omega) (fun i e => by cases e; decide) h0 (by omega) ?_
  refine m_in (x := 19) hz h1.1 hn ?_
  exact hQ
theorem x_tlen (hQ : Q (.inl (some (.int (nI len))), (rdW o0 t X len a tl, b0, b1, op))) : mj_Mt gT (law_cst xs) gnw (m + 1) y_Text_length [.ref 8] (rdW o0 t X len a tl, b0, b1, op) Q := by
  intro J hJ
  refine hJ _ _ _ _ ?_
  exact hQ
theorem q_read {l : Nat} (hl : 80 ≤ l) (hx : txOK X len tx) (ht : tOK t) (h6 : 6 ≤ b1)
    (h1 : ∀ a' t', pEx tx 10 0 0 (0, t.2) = .inr (a', t') → Q (.inl (some (.int (nI a'))), (rdW o0 t' X len a' tl, b0, b1 - 6, false)))
    (h2 : ∀ n a' t', pEx tx 10 0 0 (0, t.2) = .inl (n, a', t') → Q (.inl (some (.int (if a' < len then nI a' else -1))), (rdW o0 t' X len a' tl, b0 + 1, b1, op))) :
    mj_Mt gT (law_cst xs) gnw (l + 1) y_Reader_read [.ref 10] (rdW o0 t X len a tl, b0 + 1, b1, op) Q := by
  obtain ⟨l, rfl⟩ : ∃ l', l = l' + 80 := ⟨l - 80, by omega⟩
  have h96 := hx.1
  have ht0 : tOK (0, t.2) := ⟨Nat.zero_le _, ht.2.1, ⟨ht.2.2.1.1, fun i hi => absurd hi (Nat.not_lt_zero i)⟩, ht.2.2.2⟩
  have hg := g_ex hx 10 0 0 (0, t.2) ht0 (Nat.le_refl _) (Nat.zero_le _)
  intro J hJ
  refine hJ _ _ _ _ ?_
  intro J2 hJ2
  refine hJ2 _ _ _ _ ?_
  refine q_ex hx h6 10 0 (by decide) (by decide) (by decide) (l + 80) 0 (0, t.2) _ _ rfl (by omega) ht0 (Nat.le_refl _) (Nat.zero_le _) ?_
  cases hr : pEx tx 10 0 0 (0, t.2) with
  | inl r =>
    obtain ⟨n, a2, t2⟩ := r
    rw [hr] at hg
    obtain ⟨-, -, -, -, g4⟩ := hg
    have hq := h2 n a2 t2 hr
    refine x_tlen ?_
    refine And.intro (fun (g : nI len ≤ nI a2) => ?_) (fun (g : ¬ nI len ≤ nI a2) => ?_)
    · have h9 := (nI_leI (by omega) (by omega)).mp g
      rw [if_neg (by omega)] at hq
      exact hq
    · have h9 : a2 < len := Nat.lt_of_not_le (fun q => g (nI_le q (by omega)))
      rw [if_pos h9] at hq
      exact hq
  | inr r =>
    obtain ⟨a2, t2⟩ := r
    exact h1 a2 t2 hr
end P2n
end
section
def chain (t : tS) : Option Nat → List Nat → Prop
  | o, [] => o = none
  | o, c :: cs => o = some c ∧ chain t (tN t c) cs
def segs (P : Nat → Nat → Prop) : Nat → Nat → List Nat → Prop
  | a, e, [] => a = e
  | a, e, c :: cs => c = a ∧ ∃ b, c < b ∧ P c b ∧ segs P b e cs
def WS (t : tS) (n e : Nat) : Prop := ∀ P : Nat → Nat → Prop, (∀ n e cs, n < e → chain t (tF t n) cs → segs P (n + 1) e cs → P n e) → P n e
theorem segs_mono {P R : Nat → Nat → Prop} (h : ∀ c b, P c b → R c b) : ∀ {cs : List Nat} {a e : Nat}, segs P a e cs → segs R a e cs
  | [], a, e, hs => hs
  | c :: cs, a, e, ⟨h1, b, h2, h3, h4⟩ => ⟨h1, b, h2, h _ _ h3, segs_mono h h4⟩
theorem WS_in {t : tS} {n e : Nat} {cs : List Nat} (h1 : n < e) (h2 : chain t (tF t n) cs) (h3 : segs (WS t) (n + 1) e cs) : WS t n e := by
  intro P hP
  exact hP n e cs h1 h2 (segs_mono (fun c b h => h P hP) h3)
theorem WS_ind {t : tS} {P : Nat → Nat → Prop} (hP : ∀ n e cs, n < e → chain t (tF t n) cs → segs (fun c b => WS t c b ∧ P c b) (n + 1) e cs → P n e) {n e : Nat} (h : WS t n e) : P n e := by
  have := h (fun n e => WS t n e ∧ P n e) (fun n e cs h1 h2 h3 => ⟨WS_in h1 h2 (segs_mono (fun _ _ h => h.1) h3), hP n e cs h1 h2 h3⟩)
  exact this.2
theorem segs_le {P : Nat → Nat → Prop} : ∀ {cs : List Nat} {a e : Nat}, segs P a e cs → a ≤ e
  | [], a, e, h => Nat.le_of_eq h
  | c :: cs, a, e, ⟨h1, b, h2, h3, h4⟩ => by have := segs_le h4; omega
theorem segs_in {P : Nat → Nat → Prop} : ∀ {cs : List Nat} {a e : Nat}, segs P a e cs → ∀ c, c ∈ cs → a ≤ c ∧ c < e
  | [], a, e, h, c, hc => by cases hc
  | d :: cs, a, e, ⟨h1, b, h2, h3, h4⟩, c, hc => by
    have := segs_le h4
    rcases List.mem_cons.mp hc with rfl | hc
    · omega
    · have := segs_in h4 c hc
      omega
theorem chain_fr {t t' : tS} : ∀ {cs : List Nat} {o : Option Nat}, (∀ c, c ∈ cs → tN t' c = tN t c) → chain t o cs → chain t' o cs
  | [], o, _, h => h
  | c :: cs, o, hN, ⟨h1, h2⟩ => ⟨h1, by rw [hN c List.mem_cons_self]; exact chain_fr (fun d hd => hN d (List.mem_cons_of_mem _ hd)) h2⟩
theorem WS_fr {t t' : tS} {n e : Nat} (h : WS t n e) : (∀ i, n ≤ i → i < e → tF t' i = tF t i) → (∀ i, n < i → i < e → tN t' i = tN t i) → WS t' n e := by
  refine WS_ind (P := fun n e => (∀ i, n ≤ i → i < e → tF t' i = tF t i) → (∀ i, n < i → i < e → tN t' i = tN t i) → WS t' n e) (fun n e cs h1 h2 h3 hF hN => ?_) h
  refine WS_in (cs := cs) h1 ?_ ?_
  · rw [hF n (Nat.le_refl _) h1]
    refine chain_fr (fun c hc => ?_) h2
    have := segs_in h3 c hc
    exact hN c (by omega) this.2
  · have go : ∀ (cs : List Nat) (a : Nat), n + 1 ≤ a → segs (fun c b => WS t c b ∧ ((∀ i, c ≤ i → i < b → tF t' i = tF t i) → (∀ i, c < i → i < b → tN t' i = tN t i) → WS t' c b)) a e cs → segs (WS t') a e cs := by
      intro cs
      induction cs with
      | nil => intro a _ h; exact h
      | cons c cs ih =>
        rintro a ha ⟨rfl, b, g2, ⟨-, g3⟩, g4⟩
        have := segs_le g4
        exact ⟨rfl, b, g2, g3 (fun i q1 q2 => hF i (by omega) (by omega)) (fun i q1 q2 => hN i (by omega) (by omega)), ih b (by omega) g4⟩
    exact go cs (n + 1) (Nat.le_refl _) h3
def Opn (t : tS) (n : Nat) (cs : List Nat) : Prop := n < tn t ∧ chain t (tF t n) cs ∧ segs (WS t) (n + 1) (tn t) cs ∧ tL t n = cs.getLast?
def agT (n : Nat) (t t' : tS) : Prop := ∀ i, i < n → tF t' i = tF t i ∧ tL t' i = tL t i ∧ tN t' i = tN t i
theorem agT.tr {n : Nat} {a b c : tS} (h1 : agT n a b) (h2 : agT n b c) : agT n a c := fun i hi => ⟨(h2 i hi).1.trans (h1 i hi).1, (h2 i hi).2.1.trans (h1 i hi).2.1, (h2 i hi).2.2.trans (h1 i hi).2.2⟩
theorem agT.le {n k : Nat} {a b : tS} (h : agT n a b) (hk : k ≤ n) : agT k a b := fun i hi => h i (by omega)
theorem agT_add {t : tS} {k v p : Int32} : agT (tn t) t (tAdd t k v p) := fun i hi => by
  have : i ≠ tn t := by omega
  exact ⟨if_neg this, if_neg this, if_neg this⟩
theorem add_new {t : tS} {k v p : Int32} : Opn (tAdd t k v p) (tn t) [] ∧ tN (tAdd t k v p) (tn t) = none := by
  refine ⟨⟨Nat.lt_succ_self _, ?_, ?_, ?_⟩, if_pos rfl⟩
  · show upW (tF t) (tn t) none (tn t) = none
    exact if_pos rfl
  · show tn t + 1 = tn t + 1
    rfl
  · show upW (tL t) (tn t) none (tn t) = none
    exact if_pos rfl
theorem chain_snoc {t t' : tS} {c l : Nat} (hc : tN t' c = none) (hl : tN t' l = some c) : ∀ {cs : List Nat} {o : Option Nat}, (∀ d, d ∈ cs → d ≠ l → tN t' d = tN t d) → cs.getLast? = some l → cs.Nodup → chain t o cs → chain t' o (cs ++ [c])
  | [], o, _, h, _, _ => by cases h
  | [d], o, _, h, _, ⟨h1, h2⟩ => by
    cases h
    exact ⟨h1, hl, hc⟩
  | d :: d2 :: cs, o, hN, h, hd, ⟨h1, h2⟩ => by
    have hl2 : (d2 :: cs).getLast? = some l := by rw [List.getLast?_cons_cons] at h; exact h
    have hne : d ≠ l := fun e => by
      have := (List.nodup_cons.mp hd).1
      rw [e] at this
      exact this (List.mem_of_getLast? hl2)
    refine ⟨h1, ?_⟩
    rw [hN d List.mem_cons_self hne]
    exact chain_snoc hc hl (fun q hq => hN q (List.mem_cons_of_mem _ hq)) hl2 (List.nodup_cons.mp hd).2 h2
theorem segs_nodup {P : Nat → Nat → Prop} : ∀ {cs : List Nat} {a e : Nat}, segs P a e cs → cs.Nodup
  | [], a, e, h => List.nodup_nil
  | c :: cs, a, e, ⟨h1, b, h2, h3, h4⟩ => by
    refine List.nodup_cons.mpr ⟨fun hc => ?_, segs_nodup h4⟩
    have := segs_in h4 c hc
    omega
theorem segs_snoc {P : Nat → Nat → Prop} {c e : Nat} (hp : P c e) (hc : c < e) : ∀ {cs : List Nat} {a : Nat}, segs P a c cs → segs P a e (cs ++ [c])
  | [], a, h => ⟨h.symm, e, hc, hp, rfl⟩
  | d :: cs, a, ⟨h1, b, h2, h3, h4⟩ => ⟨h1, b, h2, h3, segs_snoc hp hc h4⟩
theorem op_part {t t2 : tS} {n : Nat} {cs : List Nat} (h : Opn t n cs) (ha : agT (tn t) t t2) (hw : WS t2 (tn t) (tn t2)) (hc : tn t < tn t2) (hN : tN t2 (tn t) = none) : Opn (tPart t2 n (tn t)) n (cs ++ [tn t]) ∧ agT n t (tPart t2 n (tn t)) ∧ tN (tPart t2 n (tn t)) n = tN t n := by
  obtain ⟨h1, h2, h3, h4⟩ := h
  have hL : tL t2 n = cs.getLast? := (ha n h1).2.1.trans h4
  have hF : tF t2 n = tF t n := (ha n h1).1
  have hin : ∀ c, c ∈ cs → n + 1 ≤ c ∧ c < tn t := segs_in h3
  have h3' : segs (WS t2) (n + 1) (tn t) cs := by
    have go : ∀ (cs : List Nat) (a : Nat), segs (WS t) a (tn t) cs → segs (WS t2) a (tn t) cs := by
      intro cs
      induction cs with
      | nil => intro a h; exact h
      | cons c cs ih =>
        rintro a ⟨rfl, b, g2, g3, g4⟩
        have := segs_le g4
        exact ⟨rfl, b, g2, WS_fr g3 (fun i q1 q2 => (ha i (by omega)).1) (fun i q1 q2 => (ha i (by omega)).2.2), ih b g4⟩
    exact go cs (n + 1) h3
  have h2' : chain t2 (tF t2 n) cs := by
    rw [hF]
    exact chain_fr (fun c hc => (ha c (hin c hc).2).2.2) h2
  unfold tPart
  cases hg : cs.getLast? with
  | none =>
    have hcs : cs = [] := List.getLast?_eq_none_iff.mp hg
    subst hcs
    rw [hL, hg]
    refine ⟨⟨by show n < tn t2; omega, ?_, ?_, ?_⟩, fun i hi => ?_, (ha n h1).2.2⟩
    · show chain _ (upW (tF t2) n (some (tn t)) n) [tn t]
      rw [show upW (tF t2) n (some (tn t)) n = some (tn t) from if_pos rfl]
      exact ⟨rfl, hN⟩
    · have h3 : n + 1 = tn t := h3
      refine ⟨h3.symm, tn t2, hc, ?_, rfl⟩
      exact WS_fr hw (fun i q1 q2 => if_neg (by omega)) (fun i q1 q2 => rfl)
    · show upW (tL t2) n (some (tn t)) n = some (tn t)
      exact if_pos rfl
    · have hne : i ≠ n := by omega
      obtain ⟨a1, a2, a3⟩ := ha i (by omega)
      exact ⟨(if_neg hne).trans a1, (if_neg hne).trans a2, a3⟩
  | some l =>
    have hl := hin l (List.mem_of_getLast? hg)
    rw [hL, hg]
    have eN : ∀ d, d ≠ l → upW (tN t2) l (some (tn t)) d = tN t2 d := fun d hd => if_neg hd
    refine ⟨⟨by show n < tn t2; omega, ?_, ?_, ?_⟩, fun i hi => ?_, ?_⟩
    · show chain _ (tF t2 n) (cs ++ [tn t])
      refine chain_snoc (t := t2) (l := l) ?_ ?_ (fun d _ hd => eN d hd) hg (segs_nodup h3) h2'
      · show upW (tN t2) l (some (tn t)) (tn t) = none
        rw [eN _ (by omega)]
        exact hN
      · show upW (tN t2) l (some (tn t)) l = some (tn t)
        exact if_pos rfl
    · have go : ∀ (cs : List Nat) (a : Nat), (∀ c, c ∈ cs → n + 1 ≤ c) → segs (WS t2) a (tn t) cs → cs.getLast? = some l → segs (WS (tn t2, tK t2, tV t2, tP t2, tF t2, upW (tL t2) n (some (tn t)), upW (tN t2) l (some (tn t)))) a (tn t) cs := by
        intro cs
        induction cs with
        | nil => intro a _ h; exact fun _ => h
        | cons c cs ih =>
          rintro a hge ⟨rfl, b, g2, g3, g4⟩ hla
          cases cs with
          | nil =>
            have e : c = l := Option.some.inj hla
            exact ⟨rfl, b, g2, WS_fr g3 (fun i q1 q2 => rfl) (fun i q1 q2 => eN i (by omega)), g4⟩
          | cons d cs =>
            have hla2 : (d :: cs).getLast? = some l := by rw [List.getLast?_cons_cons] at hla; exact hla
            have hlb := segs_in g4 l (List.mem_of_getLast? hla2)
            exact ⟨rfl, b, g2, WS_fr g3 (fun i q1 q2 => rfl) (fun i q1 q2 => eN i (by omega)), ih b (fun q hq => hge q (List.mem_cons_of_mem _ hq)) g4 hla2⟩
      refine segs_snoc ?_ hc (go cs (n + 1) (fun c hc => (hin c hc).1) h3' hg)
      exact WS_fr hw (fun i q1 q2 => rfl) (fun i q1 q2 => eN i (by omega))
    · show upW (tL t2) n (some (tn t)) n = (cs ++ [tn t]).getLast?
      rw [List.getLast?_append, List.getLast?_singleton]
      exact if_pos rfl
    · have hne : i ≠ n := by omega
      have hnl : i ≠ l := by omega
      obtain ⟨a1, a2, a3⟩ := ha i (by omega)
      exact ⟨a1, (if_neg hne).trans a2, (eN i hnl).trans a3⟩
    · show upW (tN t2) l (some (tn t)) n = tN t n
      rw [eN n (by omega)]
      exact (ha n h1).2.2
theorem op_ws {t : tS} {n : Nat} {cs : List Nat} (h : Opn t n cs) : WS t n (tn t) := WS_in h.1 h.2.1 h.2.2.1
end
section
def wr (t : tS) : PR → Prop
  | .inl (nd, _, t') => nd = tn t ∧ WS t' (tn t) (tn t') ∧ tn t < tn t' ∧ tN t' (tn t) = none ∧ agT (tn t) t t'
  | .inr _ => True
def WE (pe : Nat → tS → PR) : Prop := ∀ a t, wr t (pe a t)
section WT
variable {tx : Nat → Nat}
def Opd (t0 t : tS) (n : Nat) : Prop := n = tn t0 ∧ (∃ cs, Opn t n cs) ∧ tN t n = none ∧ agT n t0 t
def wu (t0 : tS) (n : Nat) : PU → Prop
  | .inl (_, t2) => Opd t0 t2 n
  | .inr _ => True
theorem opd_new {t : tS} {k v p : Int32} : Opd t (tAdd t k v p) (tn t) := ⟨rfl, ⟨[], add_new.1⟩, add_new.2, agT_add⟩
theorem opd_part {t0 t t2 : tS} {n c a2 : Nat} (h : Opd t0 t n) (hw : wr t (.inl (c, a2, t2))) : Opd t0 (tPart t2 n c) n ∧ c = tn t := by
  obtain ⟨h1, ⟨cs, h2⟩, h3, h4⟩ := h
  obtain ⟨rfl, w1, w2, w3, w4⟩ := hw
  obtain ⟨g1, g2, g3⟩ := op_part h2 w4 w1 w2 w3
  exact ⟨⟨h1, ⟨_, g1⟩, g3.trans h3, h4.tr g2⟩, rfl⟩
theorem opd_done {t0 t : tS} {n a : Nat} (h : Opd t0 t n) : wr t0 (.inl (n, a, t)) := by
  obtain ⟨rfl, ⟨cs, h2⟩, h3, h4⟩ := h
  exact ⟨rfl, op_ws h2, h2.1, h3, h4⟩
theorem w_close {t0 t : tS} {n a : Nat} (h : Opd t0 t n) : wr t0 (pClose tx n a t) := by
  unfold pClose
  split
  · exact opd_done h
  · exact trivial
theorem w_more {pe : Nat → tS → PR} (hp : WE pe) {t0 : tS} {n : Nat} : ∀ (k a : Nat) (t : tS), Opd t0 t n → wr t0 (pMore tx pe n k a t)
  | 0, a, t, h => w_close h
  | k + 1, a, t, h => by
    unfold pMore
    split
    · have hw := hp (a + 1) t
      generalize pe (a + 1) t = r at hw
      rcases r with ⟨c, a2, t2⟩ | e
      · exact w_more hp k a2 _ (opd_part h hw).1
      · exact trivial
    · exact w_close h
theorem w_args {pe : Nat → tS → PR} (hp : WE pe) {t0 : tS} {n : Nat} : ∀ (k a : Nat) (t : tS), Opd t0 t n → wr t0 (pArgs tx pe n k a t)
  | 0, a, t, h => w_close h
  | k + 1, a, t, h => by
    unfold pArgs
    split
    · have hw := hp (a + 1) t
      generalize pe (a + 1) t = r at hw
      rcases r with ⟨c, a2, t2⟩ | e
      · exact w_args hp k a2 _ (opd_part h hw).1
      · exact trivial
    · exact trivial
theorem w_atom : WE (pAtom tx) := by
  intro a t
  unfold pAtom
  split
  · exact opd_done opd_new
  · unfold pNum
    split
    · exact opd_done opd_new
    · exact trivial
theorem w_dat : ∀ f d, WE (pDat tx f d)
  | 0, d, a, t => trivial
  | f + 1, d, a, t => by
    unfold pDat
    split
    · split
      · exact trivial
      · split
        · exact opd_done opd_new
        · have hw := w_dat f (d + 1) (a + 1) (tAdd t 3 0 (nI a))
          generalize pDat tx f (d + 1) (a + 1) (tAdd t 3 0 (nI a)) = r at hw
          rcases r with ⟨c, a2, t2⟩ | e
          · exact w_more (w_dat f (d + 1)) 95 a2 _ (opd_part opd_new hw).1
          · exact trivial
    · exact w_atom a t
theorem w_let {t0 t : tS} {p a : Nat} (h : Opd t0 t p) : wu t0 p (pLet tx p a t) := by
  unfold pLet
  split
  · have := opd_part (c := tn t) (a2 := 0) (t2 := tAdd t 2 (nI (tx a)) (nI a)) h (opd_done opd_new)
    exact this.1
  · exact trivial
theorem w_ls {t0 : tS} {p : Nat} : ∀ (k a : Nat) (t : tS), Opd t0 t p → wr t0 (pLs tx p k a t)
  | 0, a, t, h => w_close h
  | k + 1, a, t, h => by
    unfold pLs
    split
    · have hw := w_let (tx := tx) (a := a + 1) h
      generalize pLet tx p (a + 1) t = r at hw
      rcases r with ⟨a2, t2⟩ | e
      · exact w_ls k a2 t2 hw
      · exact trivial
    · exact w_close h
theorem w_par {d : Nat} : WE (pPar tx d) := by
  intro a t
  unfold pPar
  split
  · split
    · exact opd_done opd_new
    · have hw := w_let (tx := tx) (a := a + 1) (opd_new (t := t) (k := 7) (v := 0) (p := nI a))
      generalize pLet tx (tn t) (a + 1) (tAdd t 7 0 (nI a)) = r at hw
      rcases r with ⟨a2, t2⟩ | e
      · exact w_ls 2 a2 t2 hw
      · exact trivial
  · exact trivial
theorem w_fun {pe : Nat → tS → PR} (hp : WE pe) {d : Nat} : WE (pFun tx pe d) := by
  intro a t
  unfold pFun
  split
  · split
    · have hw := w_par (tx := tx) (d := d) (a + 1 + 1) (tAdd t 6 0 (nI a))
      generalize pPar tx d (a + 1 + 1) (tAdd t 6 0 (nI a)) = r at hw
      rcases r with ⟨c, a2, t2⟩ | e
      · have h1 := (opd_part opd_new hw).1
        show wr t (if tx a2 = 32 then _ else _)
        split
        · have hw2 := hp (a2 + 1) (tPart t2 (tn t) c)
          generalize pe (a2 + 1) (tPart t2 (tn t) c) = r2 at hw2
          rcases r2 with ⟨c2, a4, t4⟩ | e
          · exact w_close (opd_part h1 hw2).1
          · exact trivial
        · exact trivial
      · exact trivial
    · exact trivial
  · exact trivial
theorem w_bv {pe pf : Nat → tS → PR} (hp : WE pe) (hf : WE pf) {d n : Nat} : WE (pBv tx pe pf d n) := by
  intro a t
  unfold pBv
  split
  · split
    · exact hf _ _
    · exact trivial
  · exact hp _ _
theorem w_bind {pe pf : Nat → tS → PR} (hp : WE pe) (hf : WE pf) {t0 t : tS} {d n a : Nat} (h : Opd t0 t n) : wu t0 n (pBind tx pe pf d n a t) := by
  unfold pBind
  split
  · split
    · split
      · have hw := w_bv (tx := tx) hp hf (d := d) (n := n) (a + 1 + 1 + 1) (tAdd t 10 (nI (tx (a + 1))) (nI (a + 1)))
        generalize pBv tx pe pf d n (a + 1 + 1 + 1) (tAdd t 10 (nI (tx (a + 1))) (nI (a + 1))) = r at hw
        rcases r with ⟨c, a2, t2⟩ | e
        · have h1 := (opd_part opd_new hw).1
          have h2 := (opd_part (a2 := 0) h (opd_done h1)).1
          show wu t0 n (if tx a2 = 41 then _ else _)
          split
          · exact h2
          · exact trivial
        · exact trivial
      · exact trivial
    · exact trivial
  · exact trivial
theorem w_bs {pb : Nat → tS → PU} {t0 : tS} {n : Nat} (hp : ∀ a t, Opd t0 t n → wu t0 n (pb a t)) : ∀ (k a : Nat) (t : tS), Opd t0 t n → wr t0 (pBs tx pb n k a t)
  | 0, a, t, h => w_close h
  | k + 1, a, t, h => by
    unfold pBs
    split
    · have hw := hp (a + 1) t h
      generalize pb (a + 1) t = r at hw
      rcases r with ⟨a2, t2⟩ | e
      · exact w_bs hp k a2 t2 hw
      · exact trivial
    · exact w_close h
theorem w_bou {pe pe2 pf : Nat → tS → PR} (hp : WE pe) (hp2 : WE pe2) (hf : WE pf) {kd : Int32} {d : Nat} : WE (pBou tx pe (pBind tx pe2 pf d) kd) := by
  intro a t
  unfold pBou
  split
  · have hw := hp (a + 1 + 1) (tAdd t kd 0 (nI a))
    generalize pe (a + 1 + 1) (tAdd t kd 0 (nI a)) = r at hw
    rcases r with ⟨c, a2, t2⟩ | e
    · have h1 := (opd_part opd_new hw).1
      show wr t (if tx a2 = 32 then _ else _)
      split
      · have hw2 := w_bind (tx := tx) hp2 hf (d := d) (a := a2 + 1) h1
        generalize pBind tx pe2 pf d (tn t) (a2 + 1) (tPart t2 (tn t) c) = r2 at hw2
        rcases r2 with ⟨a4, t4⟩ | e
        · exact w_bs (fun a t h => w_bind hp2 hf h) 2 a4 t4 hw2
        · exact trivial
      · exact trivial
    · exact trivial
  · exact trivial
theorem w_call {pe : Nat → tS → PR} (hp : WE pe) : WE (pCall tx pe) := by
  intro a t
  have hw := hp a (tAdd t 11 0 (nI a))
  unfold pCall
  generalize pe a (tAdd t 11 0 (nI a)) = r at hw
  rcases r with ⟨c, a2, t2⟩ | e
  · exact w_more hp 3 a2 _ (opd_part opd_new hw).1
  · exact trivial
theorem w_ex : ∀ f d, WE (pEx tx f d)
  | 0, d, a, t => trivial
  | f + 1, d, a, t => by
    unfold pEx
    split
    · split
      · unfold pBra
        split
        · exact w_fun (w_ex f (d + 1)) _ _
        · split
          · exact w_bou (w_ex f (d + 1)) (w_ex f (d + 2)) (w_fun (w_ex f (d + 3))) _ _
          · split
            · exact w_call (w_ex f (d + 1)) _ _
            · split
              · exact w_call (w_ex f (d + 1)) _ _
              · exact w_args (w_ex f (d + 1)) _ _ _ opd_new
      · exact trivial
    · split
      · have hw := w_dat (tx := tx) 11 d (a + 1) (tAdd t 4 0 (nI a))
        generalize pDat tx 11 d (a + 1) (tAdd t 4 0 (nI a)) = r at hw
        rcases r with ⟨c, a2, t2⟩ | e
        · exact opd_done (opd_part opd_new hw).1
        · exact trivial
      · exact w_atom a t
end WT
end
section
def sumTo (B : Nat → Nat) : Nat → Nat
  | 0 => 0
  | k + 1 => sumTo B k + B k
theorem sumTo_mono (B : Nat → Nat) : ∀ {i j : Nat}, i ≤ j → sumTo B i ≤ sumTo B j := by
  intro i j h
  induction j with
  | zero => rw [show i = 0 by omega]; exact Nat.le_refl _
  | succ j ih =>
    by_cases e : i = j + 1
    · rw [e]; exact Nat.le_refl _
    · have := ih (by omega)
      show sumTo B i ≤ sumTo B j + B j
      omega
theorem sumTo_le {B : Nat → Nat} {L : Nat} (h0 : ∀ i, L ≤ i → B i = 0) (m : Nat) : sumTo B m ≤ sumTo B L := by
  induction m with
  | zero => exact Nat.zero_le _
  | succ m ih =>
    by_cases e : L ≤ m
    · show sumTo B m + B m ≤ _
      rw [h0 m e]
      omega
    · exact sumTo_mono B (by omega)
theorem sumTo_at (B : Nat → Nat) (i : Nat) : B i ≤ sumTo B (i + 1) := Nat.le_add_left _ _
theorem sumTo_sh (B : Nat → Nat) : ∀ k, sumTo B (k + 1) = B 0 + sumTo (fun i => B (i + 1)) k
  | 0 => by show 0 + B 0 = B 0 + 0; omega
  | k + 1 => by
    have := sumTo_sh B k
    show sumTo B (k + 1) + B (k + 1) = B 0 + (sumTo (fun i => B (i + 1)) k + B (k + 1))
    omega
theorem segs_sum {P : Nat → Nat → Prop} : ∀ {cs : List Nat} {a e : Nat}, segs P a e cs → ∃ B : Nat → Nat, (∀ i c, cs[i]? = some c → ∃ b, c < b ∧ P c b ∧ 200 * (b - c) = B i) ∧ (∀ i, cs.length ≤ i → B i = 0) ∧ sumTo B cs.length ≤ 200 * (e - a)
  | [], a, e, h => ⟨fun _ => 0, fun i c h => (by cases h), fun _ _ => rfl, Nat.zero_le _⟩
  | c :: cs, a, e, ⟨h1, b, h2, h3, h4⟩ => by
    obtain ⟨B, g1, g2, g3⟩ := segs_sum h4
    have hle := segs_le h4
    refine ⟨fun i => match i with | 0 => 200 * (b - c) | i + 1 => B i, fun i q hq => ?_, fun i hi => ?_, ?_⟩
    · cases i with
      | zero => cases hq; exact ⟨b, h2, h3, rfl⟩
      | succ i => exact g1 i q hq
    · cases i with
      | zero => cases hi
      | succ i => exact g2 i (Nat.le_of_succ_le_succ hi)
    · rw [List.length_cons, sumTo_sh]
      show 200 * (b - c) + sumTo B cs.length ≤ _
      omega
theorem tEn_in {t : tS} {g : Nat → Option Nat} {i : Nat} (h : i < tn t) : tEn t g (some i) = g i := if_pos h
theorem tEn_no {t : tS} {g : Nat → Option Nat} : tEn t g none = none := rfl
theorem tPt_no {t : tS} : ∀ k, tPt t k none = none
  | 0 => rfl
  | k + 1 => tPt_no k
theorem chain_pt {t : tS} : ∀ (cs : List Nat) (o : Option Nat) (k : Nat), (∀ c, c ∈ cs → c < tn t) → chain t o cs → tPt t k o = cs[k]?
  | [], o, k, _, h => by
    rw [show o = none from h, tPt_no]
    rfl
  | c :: cs, o, 0, _, ⟨h1, _⟩ => h1
  | c :: cs, o, k + 1, hc, ⟨h1, h2⟩ => by
    rw [h1]
    show tPt t k (tEn t (tN t) (some c)) = cs[k]?
    rw [tEn_in (hc c List.mem_cons_self)]
    exact chain_pt cs _ k (fun d hd => hc d (List.mem_cons_of_mem _ hd)) h2
section CO
variable {z : Nat} {t : tS} {s : cD_}
theorem cn_A {v : Vl} : cn (dC (dA z s v)) = cn (dC s) + 1 := (cAp_n z (dC s) v).1
theorem cn_I {x : Int32} : cn (dC (dI z s x)) = cn (dC s) + 1 := (cAp_n z (dC s) (vInt x)).1
theorem cn_B : cn (dC (dB z s)) = cn (dC s) + 1 := (cAp_n z (dC s) vNil).1
theorem cn_E {p : Nat} : cn (dC (dE s p)) = cn (dC s) := rfl
theorem cn_Lv : cn (dC (dLv s)) = cn (dC s) := rfl
theorem cn_En {o : Option Nat} : cn (dC (dEn s o)) = cn (dC s) := by
  unfold dEn
  split <;> rfl
theorem cn_No {p : Int32} : cn (dC (dNo s p)) = cn (dC s) := by
  unfold dNo
  split <;> rfl
theorem cn_Va {o : Option Nat} : cn (dC (dVa z t o s)) = cn (dC s) + 2 := by
  unfold dVa
  rw [cn_I, cn_I]
  split
  · rw [cn_No]
  · rfl
theorem dEx_no : ∀ (f d : Nat) (s : cD_), dEx z t f d none s = s
  | 0, d, s => rfl
  | f + 1, d, s => by
    unfold dEx
    split
    · rfl
    · simp [tEi]
def CP (z : Nat) (t : tS) (n e : Nat) : Prop := (∀ f d s, cn (dC (dEx z t f d (some n) s)) ≤ cn (dC s) + 200 * (e - n)) ∧ (∀ f d s, cn (dC (dDa z t f d (some n) s)) ≤ cn (dC s) + 200 * (e - n)) ∧ (∀ f d s, cn (dC (dEx z t f d (tEn t (tF t) (some n)) s)) ≤ cn (dC s) + 200 * (e - n))
theorem row_cost {f d : Nat} : ∀ (cs : List Nat) (a e k : Nat) (o : Option Nat) (s : cD_), (∀ c, c ∈ cs → c < tn t) → chain t o cs → segs (fun c b => WS t c b ∧ CP z t c b) a e cs → cn (dC (dRow t (dDa z t f d) k o s)) ≤ cn (dC s) + 200 * (e - a)
  | [], a, e, k, o, s, _, h, _ => by
    rw [show o = none from h]
    cases k <;> exact Nat.le_add_right _ _
  | c :: cs, a, e, 0, o, s, _, _, _ => Nat.le_add_right _ _
  | c :: cs, a, e, k + 1, o, s, hc, ⟨h1, h2⟩, ⟨h3, b, h4, ⟨_, h5⟩, h6⟩ => by
    subst h1
    subst h3
    have hle := segs_le h6
    show cn (dC (dRow t (dDa z t f d) k (tEn t (tN t) (some c)) (dDa z t f d (some c) s))) ≤ _
    rw [tEn_in (hc c List.mem_cons_self)]
    have g1 := row_cost (f := f) (d := d) cs b e k _ (dDa z t f d (some c) s) (fun q hq => hc q (List.mem_cons_of_mem _ hq)) h2 h6
    have g2 := h5.2.1 f d s
    omega
variable {go : Option Nat → cD_ → cD_} {o : Option Nat} {B : Nat → Nat}
theorem cn_Li {w : Option Nat} {x : Int32} {c : Nat} (h : ∀ s, cn (dC (go w s)) ≤ cn (dC s) + c) : cn (dC (dLi z go w x s)) ≤ cn (dC s) + c + 2 := by
  unfold dLi
  rw [cn_E, cn_I]
  have := h (dB z s)
  rw [cn_B] at this
  omega
theorem cn_Op13 {n : Nat} (hB : ∀ k s, cn (dC (go (dPt t k o) s)) ≤ cn (dC s) + B k) : ∀ (j i : Nat) (s : cD_), j + i = n → cn (dC (dOp t go o 13 n j i s)) ≤ cn (dC s) + sumTo B j
  | 0, i, s, _ => Nat.le_add_right _ _
  | j + 1, i, s, h => by
    have g1 := cn_Op13 (n := n) hB j (i + 1) (go (dPt t (n - 1 - i) o) s) (by omega)
    have g2 := hB (n - 1 - i) s
    have e : n - 1 - i = j := by omega
    rw [e] at g1 g2
    show cn (dC (dOp t go o 13 n j (i + 1) (go (dPt t (if (13 : Int32) = 13 then n - 1 - i else i) o) s))) ≤ cn (dC s) + (sumTo B j + B j)
    rw [if_pos rfl, e]
    omega
theorem cn_Opf {w : Int32} (hw : ¬ w = 13) {n : Nat} (hB : ∀ k s, cn (dC (go (dPt t k o) s)) ≤ cn (dC s) + B k) : ∀ (j i : Nat) (s : cD_), cn (dC (dOp t go o w n j i s)) + sumTo B i ≤ cn (dC s) + sumTo B (i + j)
  | 0, i, s => Nat.le_refl _
  | j + 1, i, s => by
    have g1 := cn_Opf hw (n := n) hB j (i + 1) (go (dPt t i o) s)
    have g2 := hB i s
    show cn (dC (dOp t go o w n j (i + 1) (go (dPt t (if w = 13 then n - 1 - i else i) o) s))) + sumTo B i ≤ _
    rw [if_neg hw]
    have e : sumTo B (i + 1) = sumTo B i + B i := rfl
    rw [e, show i + 1 + j = i + (j + 1) by omega] at g1
    omega
theorem cn_As {pick : Nat → Option Nat} (hB : ∀ k s, cn (dC (go (pick k) s)) ≤ cn (dC s) + B k) : ∀ (k : Nat) (s : cD_), cn (dC (dAs z go pick k s)) + B 0 ≤ cn (dC s) + sumTo B (k + 1) + k
  | 0, s => by show cn (dC s) + B 0 ≤ cn (dC s) + (0 + B 0) + 0; omega
  | k + 1, s => by
    have g1 := cn_As hB k (dAr z go (pick (k + 1)) s)
    have g2 := hB (k + 1) s
    have e : cn (dC (dAr z go (pick (k + 1)) s)) = cn (dC (go (pick (k + 1)) s)) + 1 := cn_I
    have e2 : sumTo B (k + 1 + 1) = sumTo B (k + 1) + B (k + 1) := rfl
    show cn (dC (dAs z go pick k (dAr z go (pick (k + 1)) s))) + B 0 ≤ _
    omega
theorem cn_BA : cn (dC (dBA z s)) = cn (dC s) + 2 := by
  unfold dBA
  rw [cn_A, cn_I]
theorem cn_Bo {w fl : Option Nat} {c : Nat} (h : ∀ s, cn (dC (go w s)) ≤ cn (dC s) + c) : cn (dC (dBo z go w fl s)) ≤ cn (dC s) + c + 3 := by
  unfold dBo
  rw [cn_Lv]
  have := cn_Li (z := z) (x := 5) (s := dEn (dI z s 3) fl) h
  rw [cn_En, cn_I] at this
  omega
end CO
theorem tCn_96 (t : tS) (o : Option Nat) : tCn t 96 o ≤ 96 := tCn_le t 96 o
theorem cost {z : Nat} {t : tS} {n e : Nat} (he : e ≤ tn t) (h : WS t n e) : CP z t n e := by
  refine WS_ind (P := fun n e => e ≤ tn t → CP z t n e) (fun n e cs h1 h2 h3 he => ?_) h he
  have hin := segs_in h3
  have hct : ∀ c, c ∈ cs → c < tn t := fun c hc => by have := (hin c hc).2; omega
  have h3 : segs (fun c b => WS t c b ∧ CP z t c b) (n + 1) e cs := by
    have go : ∀ (cs : List Nat) (a : Nat), segs (fun c b => WS t c b ∧ (b ≤ tn t → CP z t c b)) a e cs → segs (fun c b => WS t c b ∧ CP z t c b) a e cs := by
      intro cs
      induction cs with
      | nil => intro a h; exact h
      | cons c cs ih =>
        rintro a ⟨g1, b, g2, ⟨g3, g4⟩, g5⟩
        have := segs_le g5
        exact ⟨g1, b, g2, ⟨g3, g4 (by omega)⟩, ih b g5⟩
    exact go cs (n + 1) h3
  have hle := segs_le h3
  obtain ⟨B, b1, b2, b3⟩ := segs_sum h3
  have hp : ∀ k, dPt t k (some n) = cs[k]? := fun k => by
    unfold dPt
    rw [tEn_in (show n < tn t by omega)]
    exact chain_pt cs _ k hct h2
  have hS : ∀ m, sumTo B m ≤ 200 * (e - (n + 1)) := fun m => Nat.le_trans (sumTo_le b2 m) b3
  have hB : ∀ f d k s, cn (dC (dEx z t f d (dPt t k (some n)) s)) ≤ cn (dC s) + B k := by
    intro f d k s
    rw [hp]
    cases hk : cs[k]? with
    | none =>
      rw [dEx_no]
      exact Nat.le_add_right _ _
    | some c =>
      obtain ⟨b, q1, ⟨-, q2⟩, q3⟩ := b1 k c hk
      rw [← q3]
      exact q2.1 f d s
  have hB2 : ∀ f d k s, cn (dC (dEx z t f d (tEn t (tF t) (dPt t k (some n))) s)) ≤ cn (dC s) + B k := by
    intro f d k s
    rw [hp]
    cases hk : cs[k]? with
    | none =>
      rw [tEn_no, dEx_no]
      exact Nat.le_add_right _ _
    | some c =>
      obtain ⟨b, q1, ⟨-, q2⟩, q3⟩ := b1 k c hk
      rw [← q3]
      exact q2.2.2 f d s
  have hfirst : tEn t (tF t) (some n) = cs[0]? := hp 0
  have hda : ∀ f d s, cn (dC (dDa z t f d (some n) s)) ≤ cn (dC s) + 200 * (e - n) := by
    intro f d s
    cases f with
    | zero => exact Nat.le_add_right _ _
    | succ f =>
      unfold dDa
      split
      · exact Nat.le_add_right _ _
      · split
        · rw [cn_A]; omega
        · split
          · rw [cn_A]; omega
          · rw [cn_E]
            have := row_cost (z := z) (f := f) (d := d + 1) cs (n + 1) e 96 (tEn t (tF t) (some n)) (dB z s) hct (by rw [tEn_in (show n < tn t by omega)]; exact h2) h3
            rw [cn_B] at this
            omega
  have hdf : ∀ f d s, cn (dC (dDa z t f d (tEn t (tF t) (some n)) s)) ≤ cn (dC s) + 200 * (e - (n + 1)) + 1 := by
    intro f d s
    rw [hfirst]
    cases hk : cs[0]? with
    | none =>
      cases f with
      | zero => show cn (dC s) ≤ _; omega
      | succ f =>
        unfold dDa
        split
        · omega
        · rw [if_neg (show ¬ tEi t (tK t) none = 1 from show ¬ (-1 : Int32) = 1 by decide), if_neg (show ¬ tEi t (tK t) none = 2 from show ¬ (-1 : Int32) = 2 by decide), cn_E]
          show cn (dC (dB z s)) ≤ _
          rw [cn_B]
          omega
    | some c =>
      obtain ⟨b, q1, ⟨-, q2⟩, q3⟩ := b1 0 c hk
      have := q2.2.1 f d s
      have h9 := hS 1
      have : B 0 ≤ sumTo B 1 := sumTo_at B 0
      omega
  refine ⟨fun f d s => ?_, hda, fun f d s => ?_⟩
  · cases f with
    | zero => exact Nat.le_add_right _ _
    | succ f =>
      have s1 := hS 1
      have s2 := hS 2
      have s3 := hS 3
      have a0 : sumTo B 1 = B 0 := Nat.zero_add _
      have a1 : sumTo B 2 = sumTo B 1 + B 1 := rfl
      have a2 : sumTo B 3 = sumTo B 2 + B 2 := rfl
      have hc := tCn_96 t (tEn t (tF t) (some n))
      have sk := hS (tCn t 96 (tEn t (tF t) (some n)) - 1 + 1)
      have hAs : ∀ s, cn (dC (dBs z t (dEx z t f (d + 1)) (some n) s)) + B 0 ≤ cn (dC s) + 2 + 200 * (e - (n + 1)) + 96 := by
        intro s
        have := cn_As (z := z) (go := dEx z t f (d + 1)) (B := B) (pick := fun k => tEn t (tF t) (dPt t k (some n))) (fun k s => hB2 f (d + 1) k s) (tCn t 96 (tEn t (tF t) (some n)) - 1) (dBA z s)
        rw [cn_BA] at this
        unfold dBs
        omega
      unfold dEx
      split
      · exact Nat.le_add_right _ _
      · next h9 =>
        split
        · next hk =>
          show cn (dC (dDa z t (10 + 1) d (some n) (dI z s 1))) ≤ _
          rw [dDa, if_neg h9, if_pos hk, cn_A, cn_I]
          omega
        · split
          · rw [cn_Va]
            omega
          · split
            · have := hdf 11 d (dI z s 1)
              rw [cn_I] at this
              omega
            · split
              · unfold dOn
                split
                · unfold dCh
                  have g1 := hB f (d + 1) 0 s
                  have g2 := cn_Li (z := z) (x := 9) (s := dI z (dEx z t f (d + 1) (dPt t 0 (some n)) s) 8) (fun s => hB f (d + 1) 1 s)
                  have g3 := cn_Li (z := z) (x := 9) (s := dLi z (dEx z t f (d + 1)) (dPt t 1 (some n)) 9 (dI z (dEx z t f (d + 1) (dPt t 0 (some n)) s) 8)) (fun s => hB f (d + 1) 2 s)
                  rw [cn_I] at g2
                  omega
                · rw [cn_I]
                  by_cases h13 : tEi t (tV t) (some n) = 13
                  · rw [h13]
                    have := cn_Op13 (go := dEx z t f (d + 1)) (o := some n) (B := B) (n := tCn t 96 (tEn t (tF t) (some n))) (fun k s => hB f (d + 1) k s) (tCn t 96 (tEn t (tF t) (some n))) 0 s (Nat.add_zero _)
                    have := hS (tCn t 96 (tEn t (tF t) (some n)))
                    omega
                  · have := cn_Opf (go := dEx z t f (d + 1)) (o := some n) (B := B) h13 (n := tCn t 96 (tEn t (tF t) (some n))) (fun k s => hB f (d + 1) k s) (tCn t 96 (tEn t (tF t) (some n))) 0 s
                    have h8 := hS (0 + tCn t 96 (tEn t (tF t) (some n)))
                    have : sumTo B 0 = 0 := rfl
                    omega
              · split
                · have := cn_Bo (z := z) (fl := tEn t (tF t) (dPt t 0 (some n))) (s := s) (fun s => hB f (d + 1) 1 s)
                  omega
                · split
                  · unfold dBd
                    rw [cn_I]
                    have g1 := cn_Bo (z := z) (fl := dPt t 1 (some n)) (s := dBs z t (dEx z t f (d + 1)) (some n) s) (fun s => hB f (d + 1) 0 s)
                    have g2 := hAs s
                    omega
                  · split
                    · unfold dBf
                      rw [cn_I]
                      have g1 := cn_Bo (z := z) (fl := dPt t 1 (some n)) (s := dLv (dBs z t (dEx z t f (d + 1)) (some n) (dEn (dI z s 6) (dPt t 1 (some n))))) (fun s => hB f (d + 1) 0 s)
                      have g2 := hAs (dEn (dI z s 6) (dPt t 1 (some n)))
                      rw [cn_Lv] at g1
                      rw [cn_En, cn_I] at g2
                      omega
                    · split
                      · unfold dCa
                        rw [cn_I]
                        have g1 := cn_As (z := z) (go := dEx z t f (d + 1)) (B := B) (pick := fun k => dPt t k (some n)) (fun k s => hB f (d + 1) k s) (tCn t 96 (tEn t (tF t) (some n)) - 1) (dBA z s)
                        rw [cn_BA] at g1
                        have g2 := hB f (d + 1) 0 (dAs z (dEx z t f (d + 1)) (fun k => dPt t k (some n)) (tCn t 96 (tEn t (tF t) (some n)) - 1) (dBA z s))
                        omega
                      · exact Nat.le_add_right _ _
  · rw [hfirst]
    cases hk : cs[0]? with
    | none =>
      rw [dEx_no]
      exact Nat.le_add_right _ _
    | some c =>
      obtain ⟨b, q1, ⟨-, q2⟩, q3⟩ := b1 0 c hk
      have := q2.1 f d s
      have h9 := hS 1
      have : B 0 ≤ sumTo B 1 := sumTo_at B 0
      omega
theorem lay_lt {z : Nat} {tx : Nat → Nat} {t t2 : tS} {n a2 : Nat} {s : cD_} (h : pEx tx 10 0 0 (0, t.2) = .inl (n, a2, t2)) (h96 : tn t2 ≤ 96) : cn (dC (dI z (dEx z t2 11 0 (some 0) (dZ s)) 19)) < 2 ^ 30 := by
  have hw := w_ex (tx := tx) 10 0 0 (0, t.2)
  rw [h] at hw
  obtain ⟨-, w1, w2, -⟩ := hw
  have hc := (cost (z := z) (Nat.le_refl _) w1).1 11 0 (dZ s)
  rw [cn_I]
  have e : cn (dC (dZ s)) = 0 := rfl
  have : cn (dC (dEx z t2 11 0 (some 0) (dZ s))) ≤ cn (dC (dZ s)) + 200 * (tn t2 - 0) := hc
  omega
end
section
def OC (z : Nat) (s : cD_) : Prop := okA z (cH_ (dC s)) ∧ okA z (cT_ (dC s))
def OGo (z : Nat) (go : Option Nat → cD_ → cD_) : Prop := ∀ o s, OC z s → OC z (go o s)
section OCS
variable {z : Nat} {t : tS} {s : cD_} {go : Option Nat → cD_ → cD_}
theorem oc_Ap {H T : Nat → Vl} {n : Nat} {l : Option Nat} {b : Bool} {v : Vl} (hv : okV z v) (h : okA z H ∧ okA z T) : okA z (cAp z (H, T, n, l, b) v).1 ∧ okA z (cAp z (H, T, n, l, b) v).2.1 := by
  unfold cAp
  split
  · next hn =>
    have hn : n < z := hn
    have h1 := okA_upd (k := n) h.1 hv
    have h2 := okA_upd (k := n) (x := vNil) h.2 trivial
    show okA z (cLk z (upW H n v) (upW T n vNil) l b (vPr n)).1 ∧ okA z (cLk z (upW H n v) (upW T n vNil) l b (vPr n)).2
    unfold cLk
    split
    · exact ⟨h1, h2⟩
    · split
      · split
        · exact ⟨okA_upd h1 hn, h2⟩
        · exact ⟨h1, okA_upd h2 hn⟩
      · exact ⟨h1, h2⟩
  · exact h
theorem oc_A {v : Vl} (hv : okV z v) (h : OC z s) : OC z (dA z s v) := oc_Ap (n := cn (dC s)) (l := cl (dC s)) (b := ci (dC s)) hv h
theorem oc_I {x : Int32} (h : OC z s) : OC z (dI z s x) := oc_A (v := vInt x) trivial h
theorem oc_B (h : OC z s) : OC z (dB z s) := oc_Ap (n := cn (dC s)) (l := cl (dC s)) (b := ci (dC s)) (v := vNil) trivial h
theorem oc_E {p : Nat} (h : OC z s) : OC z (dE s p) := h
theorem oc_Lv (h : OC z s) : OC z (dLv s) := h
theorem oc_En {o : Option Nat} (h : OC z s) : OC z (dEn s o) := by
  unfold dEn
  split <;> exact h
theorem oc_No {p : Int32} (h : OC z s) : OC z (dNo s p) := by
  unfold dNo
  split <;> exact h
theorem oc_Va {o : Option Nat} (h : OC z s) : OC z (dVa z t o s) := by
  unfold dVa
  refine oc_I (oc_I ?_)
  split
  · exact oc_No h
  · exact h
theorem oc_Row (hg : OGo z go) : ∀ (k : Nat) (o : Option Nat) (s : cD_), OC z s → OC z (dRow t go k o s)
  | 0, o, s, h => h
  | k + 1, none, s, h => h
  | k + 1, some i, s, h => oc_Row hg k _ _ (hg _ _ h)
theorem sym_ok (ht : tOK t) {o : Option Nat} (hk : tEi t (tK t) o = 2) : okV z (vSym (tEi t (tV t) o)) := by
  cases o with
  | none => exact absurd hk (show ¬ (-1 : Int32) = 2 by decide)
  | some i =>
    unfold tEi at hk ⊢
    by_cases hi : i < tn t
    · simp only [hi, if_true] at hk ⊢
      exact ht.2.2.1.2 i hi hk
    · simp only [hi, if_false] at hk
      exact absurd hk (by decide)
theorem oc_Da (ht : tOK t) : ∀ f d, OGo z (dDa z t f d)
  | 0, d, o, s, h => h
  | f + 1, d, o, s, h => by
    unfold dDa
    split
    · exact h
    · split
      · exact oc_A trivial h
      · split
        · next hk => exact oc_A (sym_ok ht hk) h
        · exact oc_E (oc_Row (oc_Da ht f (d + 1)) 96 _ _ (oc_B h))
theorem oc_Li (hg : OGo z go) {o : Option Nat} {x : Int32} (h : OC z s) : OC z (dLi z go o x s) := oc_E (oc_I (hg _ _ (oc_B h)))
theorem oc_Op (hg : OGo z go) {o : Option Nat} {w : Int32} {n : Nat} : ∀ (j i : Nat) (s : cD_), OC z s → OC z (dOp t go o w n j i s)
  | 0, i, s, h => h
  | j + 1, i, s, h => oc_Op hg j (i + 1) _ (hg _ _ h)
theorem oc_Bo (hg : OGo z go) {o fl : Option Nat} (h : OC z s) : OC z (dBo z go o fl s) := oc_Lv (oc_Li hg (oc_En (oc_I h)))
theorem oc_BA (h : OC z s) : OC z (dBA z s) := oc_A (v := vNil) trivial (oc_I h)
theorem oc_As (hg : OGo z go) {pick : Nat → Option Nat} : ∀ (k : Nat) (s : cD_), OC z s → OC z (dAs z go pick k s)
  | 0, s, h => h
  | k + 1, s, h => oc_As hg k _ (oc_I (hg _ _ h))
theorem oc_Bs (hg : OGo z go) {o : Option Nat} (h : OC z s) : OC z (dBs z t go o s) := oc_As hg _ _ (oc_BA h)
end OCS
theorem oc_Ex {z : Nat} {t : tS} (ht : tOK t) : ∀ f d, OGo z (dEx z t f d)
  | 0, d, o, s, h => h
  | f + 1, d, o, s, h => by
    have hg := oc_Ex (z := z) ht f (d + 1)
    unfold dEx
    split
    · exact h
    · split
      · exact oc_Da ht 11 d o _ (oc_I h)
      · split
        · exact oc_Va h
        · split
          · exact oc_Da ht 11 d _ _ (oc_I h)
          · split
            · unfold dOn
              split
              · exact oc_Li hg (oc_Li hg (oc_I (hg _ _ h)))
              · exact oc_I (oc_Op hg _ _ _ h)
            · split
              · exact oc_Bo hg h
              · split
                · exact oc_I (oc_Bo hg (oc_Bs hg h))
                · split
                  · exact oc_I (oc_Bo hg (oc_Lv (oc_Bs hg (oc_En (oc_I h)))))
                  · split
                    · exact oc_I (hg _ _ (oc_As hg _ _ (oc_BA h)))
                    · exact h
def WC (z : Nat) (err : Int32) (t : tS) (X : Nat → Int32) (len a : Nat) (s : cD_) (S E C D : Vl) (mode colls taken steps : Int32) (H T : Nat → Vl) (fr : Nat → Nat) (g : gS) (f c : Nat) (k : Int32) (n : Nat) (fb : Nat → Nat) (R : Nat → Vl) (tl : List mj_O) : List mj_O :=
  cdW (oF 0 [.int (nI z), .ref 8, .ref 10, .ref 11, .ref 14, .ref 16, .int err]) t X len a z s (oF 6 [.ref 17, .ref 23, .long (encV S), .long (encV E), .long (encV C), .long (encV D), .int mode, .int colls, .int taken, .int steps] ::
    oF 7 [.int (nI z), .ref 18, .ref 19, .ref 20, .ref 21, .ref 22, .int (nI f), .int (nI g.2.2), .int (nI c)] :: oJ z (eH H) :: oJ z (eH T) :: oI z (eN fr) :: oZ z (eB g.1) :: oI z (eN g.2.1) ::
    oF 8 [.ref 17, .ref 24, .ref 26, .int k] :: .inr (.inr (.inl (n, fb))) :: .inr (.inr (.inr ())) :: oJ 120 (eH R) :: tl)
section P2o
variable {m b0 b1 : Nat} {op : Bool} {tl : List mj_O} {Q : mj_R → Prop} {xs : List Int32}
variable {z : Nat} {err : Int32} {t : tS} {X : Nat → Int32} {len a : Nat} {s : cD_} {S E C D : Vl} {mode colls taken steps : Int32} {H T : Nat → Vl} {fr : Nat → Nat} {g : gS} {f c : Nat} {k : Int32} {n : Nat} {fb : Nat → Nat} {R : Nat → Vl}
set_option maxRecDepth 10000
theorem e_cells {o0 : mj_O} (hQ : Q (.inl (some (.int (nI (cn (dC s))))), (cdW o0 t X len a z s tl, b0, b1, op))) : mj_Mt gT (law_cst xs) gnw (m + 1) y_Code_cells [.ref 11] (cdW o0 t X len a z s tl, b0, b1, op) Q := by
  intro J hJ
  refine hJ _ _ _ _ ?_
  exact hQ
theorem e_head {o0 : mj_O} {i : Nat} (hz : z ≤ 250) (hi : i < z) (hQ : Q (.inl (some (.long (encV (cH_ (dC s) i)))), (cdW o0 t X len a z s tl, b0, b1, op))) : mj_Mt gT (law_cst xs) gnw (m + 1) y_Code_head [.ref 11, .int (nI i)] (cdW o0 t X len a z s tl, b0, b1, op) Q := by
  intro J hJ
  refine hJ _ _ _ _ ?_
  refine And.intro (fun q => absurd q (nI_pos (by omega))) (fun _ => ?_)
  refine And.intro (fun q => absurd q (nI_ge (a := i) (b := z) hi (by omega))) (fun _ => ?_)
  refine And.intro (vp_in_nI hi (by omega)) ?_
  have key : ∀ j, j = i → Q (.inl (some (.long (eH (cH_ (dC s)) j))), (cdW o0 t X len a z s tl, b0, b1, op)) := by
    rintro j rfl
    exact hQ
  exact key _ (nI_clamp (by omega))
theorem e_tail {o0 : mj_O} {i : Nat} (hz : z ≤ 250) (hi : i < z) (hQ : Q (.inl (some (.long (encV (cT_ (dC s) i)))), (cdW o0 t X len a z s tl, b0, b1, op))) : mj_Mt gT (law_cst xs) gnw (m + 1) y_Code_tail [.ref 11, .int (nI i)] (cdW o0 t X len a z s tl, b0, b1, op) Q := by
  intro J hJ
  refine hJ _ _ _ _ ?_
  refine And.intro (fun q => absurd q (nI_pos (by omega))) (fun _ => ?_)
  refine And.intro (fun q => absurd q (nI_ge (a := i) (b := z) hi (by omega))) (fun _ => ?_)
  refine And.intro (vp_in_nI hi (by omega)) ?_
  have key : ∀ j, j = i → Q (.inl (some (.long (eH (cT_ (dC s)) j))), (cdW o0 t X len a z s tl, b0, b1, op)) := by
    rintro j rfl
    exact hQ
  exact key _ (nI_clamp (by omega))
def cpV (A B : Nat → Vl) (k : Nat) : Nat → Vl := fun i => if i < k then A i else B i
theorem cpV_s (A B : Nat → Vl) (k : Nat) : upW (cpV A B k) k (A k) = cpV A B (k + 1) := by
  funext i
  unfold upW cpV
  by_cases h : i = k
  · rw [if_pos h, if_pos (by omega), h]
  · rw [if_neg h]
    by_cases h2 : i < k
    · rw [if_pos h2, if_pos (by omega)]
    · rw [if_neg h2, if_neg (by omega)]
theorem cpV_0 (A B : Nat → Vl) : cpV A B 0 = B := by
  funext i
  exact if_neg (Nat.not_lt_zero i)
theorem s_load (hz : z ≤ 250) (hc : cn (dC s) ≤ z) (hQ : Q (.inl none, (WC z err t X len a s S E C D mode colls taken steps (cpV (cH_ (dC s)) H (cn (dC s))) (cpV (cT_ (dC s)) T (cn (dC s))) (faN (z - cn (dC s)) (cn (dC s)) (fr, 0)).1 g (faN (z - cn (dC s)) (cn (dC s)) (fr, 0)).2 (cn (dC s)) k n fb R tl, b0, b1, op))) : mj_Mt gT (law_cst xs) gnw (m + 2) y_Store_load [.ref 17, .ref 11] (WC z err t X len a s S E C D mode colls taken steps H T fr g f c k n fb R tl, b0, b1, op) Q := by
  intro J hJ
  refine hJ _ _ _ _ ?_
  refine e_cells ?_
  have em : (if nI z < nI (cn (dC s)) then nI z else nI (cn (dC s))) = nI (cn (dC s)) := if_neg (nI_nlt hc (by omega))
  have loop : ∀ (j i : Nat) (x : Int32), j + i = cn (dC s) → x = nI i → J 9 [some (.ref 17), some (.ref 11), some (.int x)] [] (WC z err t X len a s S E C D mode colls taken steps (cpV (cH_ (dC s)) H i) (cpV (cT_ (dC s)) T i) fr g f (cn (dC s)) k n fb R tl, b0, b1, op) := by
    intro j
    induction j with
    | zero =>
      intro i x hi hx
      subst hx
      obtain rfl : i = cn (dC s) := by omega
      refine hJ _ _ _ _ ?_
      refine And.intro (fun _ => ?_) (fun q => absurd (nI_le (Nat.le_refl _) (by omega)) q)
      refine s_freeAllButCode hz hc ?_
      exact hQ
    | succ j ih =>
      intro i x hi hx
      subst hx
      have ec : (nI i).toNatClampNeg = i := nI_clamp (by omega)
      refine hJ _ _ _ _ ?_
      refine And.intro (fun q => absurd q (nI_ge (a := i) (b := cn (dC s)) (by omega) (by omega))) (fun _ => ?_)
      refine e_head hz (by omega) ?_
      refine And.intro (vp_in_nI (by omega) (by omega)) ?_
      refine e_tail hz (by omega) ?_
      refine And.intro (vp_in_nI (by omega) (by omega)) ?_
      have h9 := ih (i + 1) (nI (i + 1)) (by omega) rfl
      rw [← cpV_s, ← cpV_s] at h9
      have key : ∀ (j2 : Nat) (x : Int32), j2 = i → x = nI (i + 1) → J 9 [some (.ref 17), some (.ref 11), some (.int x)] [] (cdW (oF 0 [.int (nI z), .ref 8, .ref 10, .ref 11, .ref 14, .ref 16, .int err]) t X len a z s (oF 6 [.ref 17, .ref 23, .long (encV S), .long (encV E), .long (encV C), .long (encV D), .int mode, .int colls, .int taken, .int steps] ::
    oF 7 [.int (nI z), .ref 18, .ref 19, .ref 20, .ref 21, .ref 22, .int (nI f), .int (nI g.2.2), .int (nI (cn (dC s)))] :: oJ z (vp_updL (eH (cpV (cH_ (dC s)) H i)) j2 (encV (cH_ (dC s) i))) :: oJ z (vp_updL (eH (cpV (cT_ (dC s)) T i)) j2 (encV (cT_ (dC s) i))) :: oI z (eN fr) :: oZ z (eB g.1) :: oI z (eN g.2.1) ::
    oF 8 [.ref 17, .ref 24, .ref 26, .int k] :: .inr (.inr (.inl (n, fb))) :: .inr (.inr (.inr ())) :: oJ 120 (eH R) :: tl), b0, b1, op) := by
        rintro j2 x rfl rfl
        rw [updL_enc, updL_enc]
        exact h9
      exact key _ _ ec (nI_1 i)
  have h0 := loop (cn (dC s)) 0 (nI 0) rfl rfl
  rw [cpV_0, cpV_0] at h0
  have key : ∀ x : Int32, x = nI (cn (dC s)) → J 9 [some (.ref 17), some (.ref 11), some (.int 0)] [] (cdW (oF 0 [.int (nI z), .ref 8, .ref 10, .ref 11, .ref 14, .ref 16, .int err]) t X len a z s (oF 6 [.ref 17, .ref 23, .long (encV S), .long (encV E), .long (encV C), .long (encV D), .int mode, .int colls, .int taken, .int steps] ::
    oF 7 [.int (nI z), .ref 18, .ref 19, .ref 20, .ref 21, .ref 22, .int (nI f), .int (nI g.2.2), .int x] :: oJ z (eH H) :: oJ z (eH T) :: oI z (eN fr) :: oZ z (eB g.1) :: oI z (eN g.2.1) ::
    oF 8 [.ref 17, .ref 24, .ref 26, .int k] :: .inr (.inr (.inl (n, fb))) :: .inr (.inr (.inr ())) :: oJ 120 (eH R) :: tl), b0, b1, op) := by
    rintro x rfl
    exact h0
  exact key _ em
end P2o
end
