section
section P2n
variable {m b0 b1 : Nat} {op : Bool} {tl : List mj_O} {Q : mj_R → Prop} {xs : List Int32}
variable {o0 : mj_O} {t : tS} {X : Nat → Int32} {len a z : Nat} {s : cD_} {tx : Nat → Nat}
set_option maxRecDepth 10000
theorem m_ex (hz : z ≤ 250) (ht : tOK t) : ∀ (f d : Nat), 1 ≤ f → 11 ≤ f + d → d ≤ 20 → HC xs o0 t X len a z tl b0 b1 op y_Coder_expression (6 * f + 40) (dEx z t f d) d
  | 0, d, h, _, _ => by omega
  | f + 1, d, _, hfd, hd => by
    intro ℓ o s x w Q hx hw hlv ho h hn hQ
    subst hx
    subst hw
    obtain ⟨l, rfl⟩ : ∃ l, ℓ = l + 30 := ⟨ℓ - 30, by omega⟩
    unfold dEx at hQ hn
    intro J hJ
    refine hJ _ _ _ _ ?_
    refine And.intro (fun (g : nI d ≤ nI 9) => ?_) (fun (g : ¬ nI d ≤ nI 9) => ?_)
    · have hd9 := (nI_leI (by omega) (by decide)).mp g
      rw [if_neg (by omega)] at hQ hn
      have hg := s_Ex (z := z) ht f (d + 1)
      have Hg := m_ex hz ht f (d + 1) (by omega) (by omega) (by omega)
      refine t_kind rfl ht.1 ho ?_
      generalize tEi t (tK t) o = kd at hQ hn
      refine And.intro (fun (g1 : kd = 1) => ?_) (fun (g1 : ¬ kd = 1) => ?_)
      · subst g1
        rw [if_pos rfl] at hQ hn
        refine m_con (l := l + 29) rfl rfl (by omega) hz ht hd9 ho h hn ?_
        exact hQ
      rw [if_neg g1] at hQ hn
      refine And.intro (fun (g2 : kd = 2) => ?_) (fun (g2 : ¬ kd = 2) => ?_)
      · subst g2
        rw [if_pos rfl] at hQ hn
        refine m_var rfl hz ht ho h hn ?_
        exact hQ
      rw [if_neg g2] at hQ hn
      refine And.intro (fun (g3 : kd = 3) => ?_) (fun (g3 : ¬ kd = 3) => ?_)
      · subst g3
        rw [if_neg (by decide)] at hQ
        rw [if_neg (by decide)] at hQ
        rw [if_neg (by decide)] at hQ
        rw [if_neg (by decide)] at hQ
        rw [if_neg (by decide)] at hQ
        rw [if_neg (by decide)] at hQ
        exact hQ
      refine And.intro (fun (g4 : kd = 4) => ?_) (fun (g4 : ¬ kd = 4) => ?_)
      · subst g4
        rw [if_pos rfl] at hQ hn
        refine t_firstPart rfl ht.1 ho ?_
        refine m_con (l := l + 29) rfl rfl (by omega) hz ht hd9 (tEn_lt ht.2.1 _) h hn ?_
        exact hQ
      rw [if_neg g4] at hQ hn
      refine And.intro (fun (g5 : kd = 5) => ?_) (fun (g5 : ¬ kd = 5) => ?_)
      · subst g5
        rw [if_pos rfl] at hQ hn
        refine m_oper (l := l + 28) rfl rfl hz ht hg Hg (by omega) (by omega) ho h hn ?_
        exact hQ
      rw [if_neg g5] at hQ hn
      refine And.intro (fun (g6 : kd = 6) => ?_) (fun (g6 : ¬ kd = 6) => ?_)
      · subst g6
        rw [if_pos rfl] at hQ hn
        refine m_fun (l := l + 28) rfl rfl hz ht hg Hg (by omega) (by omega) ho h hn ?_
        exact hQ
      rw [if_neg g6] at hQ hn
      refine And.intro (fun (g7 : kd = 7) => ?_) (fun (g7 : ¬ kd = 7) => ?_)
      · subst g7
        rw [if_neg (by decide)] at hQ
        rw [if_neg (by decide)] at hQ
        rw [if_neg (by decide)] at hQ
        exact hQ
      refine And.intro (fun (g8 : kd = 8) => ?_) (fun (g8 : ¬ kd = 8) => ?_)
      · subst g8
        rw [if_pos rfl] at hQ hn
        refine m_bound (l := l + 28) rfl rfl hz ht hg Hg (by omega) (by omega) ho h hn ?_
        exact hQ
      rw [if_neg g8] at hQ hn
      refine And.intro (fun (g9 : kd = 9) => ?_) (fun (g9 : ¬ kd = 9) => ?_)
      · subst g9
        rw [if_pos rfl] at hQ hn
        refine m_boundF (l := l + 28) rfl rfl hz ht hg Hg (by omega) (by omega) ho h hn ?_
        exact hQ
      rw [if_neg g9] at hQ hn
      refine And.intro (fun (g10 : kd = 10) => ?_) (fun (g10 : ¬ kd = 10) => ?_)
      · subst g10
        rw [if_neg (by decide)] at hQ
        exact hQ
      refine And.intro (fun (g11 : kd = 11) => ?_) (fun (g11 : ¬ kd = 11) => ?_)
      · subst g11
        rw [if_pos rfl] at hQ hn
        refine m_call (l := l + 28) rfl rfl hz ht hg Hg (by omega) (by omega) ho h hn ?_
        exact hQ
      rw [if_neg g11] at hQ hn
      exact hQ
    · have hd9 : ¬ d ≤ 9 := fun q => g (nI_le q (by decide))
      rw [if_pos (by omega)] at hQ
      exact hQ
def dZ (s : cD_) : cD_ := ((cH_ (dC s), cT_ (dC s), 0, none, false), dF s, 0, -1)
theorem m_lay {l : Nat} (hl : 108 ≤ l) (hz : z ≤ 250) (ht : tOK t) (hF : ∀ i j, dF s i = some j → j < 1000) (hn : cn (dC (dI z (dEx z t 11 0 (some 0) (dZ s)) 19)) < 2 ^ 30) (hQ : Q (.inl (some (.int (dU (dEx z t 11 0 (some 0) (dZ s))))), (cdW o0 t X len a z (dI z (dEx z t 11 0 (some 0) (dZ s)) 19) tl, b0, b1, op))) : mj_Mt gT (law_cst xs) gnw (l + 1) y_Coder_layDown [.ref 14] (cdW o0 t X len a z s tl, b0, b1, op) Q := by
  obtain ⟨l, rfl⟩ : ∃ l', l = l' + 108 := ⟨l - 108, by omega⟩
  have h0 : sOK (dZ s) := ⟨Nat.zero_le _, fun k e => (by cases e), hF⟩
  have h1 := s_Ex (z := z) ht 11 0 (some 0) (dZ s) (fun i e => by cases e; decide) h0
  have h2 := s_I (z := z) (x := 19) h1.1
  have e2 := h2.2
  intro J hJ
  refine hJ _ _ _ _ ?_
  intro J2 hJ2
  refine hJ2 _ _ _ _ ?_
  refine And.intro (Or.inl rfl) ?_
  refine m_ex hz ht 11 0 (by decide) (by decide) (by decide) (l + 108) (some 0) (dZ s) _ _ _ rfl rfl (by omega) (fun i e => by cases e; decide) h0 (by omega) ?_
  refine m_in (x := 19) hz h1.1 hn ?_
  exact hQ
theorem x_tlen (hQ : Q (.inl (some (.int (nI len))), (rdW o0 t X len a tl, b0, b1, op))) : mj_Mt gT (law_cst xs) gnw (m + 1) y_Text_length [.ref 8] (rdW o0 t X len a tl, b0, b1, op) Q := by
  intro J hJ
  refine hJ _ _ _ _ ?_
  exact hQ
theorem q_read {l : Nat} (hl : 80 ≤ l) (hx : txOK X len tx) (ht : tOK t) (h6 : 6 ≤ b1)
    (h1 : ∀ a' t', pEx tx 10 0 0 (0, t.2) = .inr (a', t') → Q (.inl (some (.int (nI a'))), (rdW o0 t' X len a' tl, b0, b1 - 6, false)))
    (h2 : ∀ n a' t', pEx tx 10 0 0 (0, t.2) = .inl (n, a', t') → Q (.inl (some (.int (if a' < len then nI a' else -1))), (rdW o0 t' X len a' tl, b0 + 1, b1, op))) :
    mj_Mt gT (law_cst xs) gnw (l + 1) y_Reader_read [.ref 10] (rdW o0 t X len a tl, b0 + 1, b1, op) Q := by
  obtain ⟨l, rfl⟩ : ∃ l', l = l' + 80 := ⟨l - 80, by omega⟩
  have h96 := hx.1
  have ht0 : tOK (0, t.2) := ⟨Nat.zero_le _, ht.2.1, ⟨ht.2.2.1.1, fun i hi => absurd hi (Nat.not_lt_zero i)⟩, ht.2.2.2⟩
  have hg := g_ex hx 10 0 0 (0, t.2) ht0 (Nat.le_refl _) (Nat.zero_le _)
  intro J hJ
  refine hJ _ _ _ _ ?_
  intro J2 hJ2
  refine hJ2 _ _ _ _ ?_
  refine q_ex hx h6 10 0 (by decide) (by decide) (by decide) (l + 80) 0 (0, t.2) _ _ rfl (by omega) ht0 (Nat.le_refl _) (Nat.zero_le _) ?_
  cases hr : pEx tx 10 0 0 (0, t.2) with
  | inl r =>
    obtain ⟨n, a2, t2⟩ := r
    rw [hr] at hg
    obtain ⟨-, -, -, -, g4⟩ := hg
    have hq := h2 n a2 t2 hr
    refine x_tlen ?_
    refine And.intro (fun (g : nI len ≤ nI a2) => ?_) (fun (g : ¬ nI len ≤ nI a2) => ?_)
    · have h9 := (nI_leI (by omega) (by omega)).mp g
      rw [if_neg (by omega)] at hq
      exact hq
    · have h9 : a2 < len := Nat.lt_of_not_le (fun q => g (nI_le q (by omega)))
      rw [if_pos h9] at hq
      exact hq
  | inr r =>
    obtain ⟨a2, t2⟩ := r
    exact h1 a2 t2 hr
end P2n
end
section
def chain (t : tS) : Option Nat → List Nat → Prop
  | o, [] => o = none
  | o, c :: cs => o = some c ∧ chain t (tN t c) cs
def segs (P : Nat → Nat → Prop) : Nat → Nat → List Nat → Prop
  | a, e, [] => a = e
  | a, e, c :: cs => c = a ∧ ∃ b, c < b ∧ P c b ∧ segs P b e cs
def WS (t : tS) (n e : Nat) : Prop := ∀ P : Nat → Nat → Prop, (∀ n e cs, n < e → chain t (tF t n) cs → segs P (n + 1) e cs → P n e) → P n e
theorem segs_mono {P R : Nat → Nat → Prop} (h : ∀ c b, P c b → R c b) : ∀ {cs : List Nat} {a e : Nat}, segs P a e cs → segs R a e cs
  | [], a, e, hs => hs
  | c :: cs, a, e, ⟨h1, b, h2, h3, h4⟩ => ⟨h1, b, h2, h _ _ h3, segs_mono h h4⟩
theorem WS_in {t : tS} {n e : Nat} {cs : List Nat} (h1 : n < e) (h2 : chain t (tF t n) cs) (h3 : segs (WS t) (n + 1) e cs) : WS t n e := by
  intro P hP
  exact hP n e cs h1 h2 (segs_mono (fun c b h => h P hP) h3)
theorem WS_ind {t : tS} {P : Nat → Nat → Prop} (hP : ∀ n e cs, n < e → chain t (tF t n) cs → segs (fun c b => WS t c b ∧ P c b) (n + 1) e cs → P n e) {n e : Nat} (h : WS t n e) : P n e := by
  have := h (fun n e => WS t n e ∧ P n e) (fun n e cs h1 h2 h3 => ⟨WS_in h1 h2 (segs_mono (fun _ _ h => h.1) h3), hP n e cs h1 h2 h3⟩)
  exact this.2
theorem segs_le {P : Nat → Nat → Prop} : ∀ {cs : List Nat} {a e : Nat}, segs P a e cs → a ≤ e
  | [], a, e, h => Nat.le_of_eq h
  | c :: cs, a, e, ⟨h1, b, h2, h3, h4⟩ => by have := segs_le h4; omega
theorem segs_in {P : Nat → Nat → Prop} : ∀ {cs : List Nat} {a e : Nat}, segs P a e cs → ∀ c, c ∈ cs → a ≤ c ∧ c < e
  | [], a, e, h, c, hc => by cases hc
  | d :: cs, a, e, ⟨h1, b, h2, h3, h4⟩, c, hc => by
    have := segs_le h4
    rcases List.mem_cons.mp hc with rfl | hc
    · omega
    · have := segs_in h4 c hc
      omega
theorem chain_fr {t t' : tS} : ∀ {cs : List Nat} {o : Option Nat}, (∀ c, c ∈ cs → tN t' c = tN t c) → chain t o cs → chain t' o cs
  | [], o, _, h => h
  | c :: cs, o, hN, ⟨h1, h2⟩ => ⟨h1, by rw [hN c List.mem_cons_self]; exact chain_fr (fun d hd => hN d (List.mem_cons_of_mem _ hd)) h2⟩
theorem WS_fr {t t' : tS} {n e : Nat} (h : WS t n e) : (∀ i, n ≤ i → i < e → tF t' i = tF t i) → (∀ i, n < i → i < e → tN t' i = tN t i) → WS t' n e := by
  refine WS_ind (P := fun n e => (∀ i, n ≤ i → i < e → tF t' i = tF t i) → (∀ i, n < i → i < e → tN t' i = tN t i) → WS t' n e) (fun n e cs h1 h2 h3 hF hN => ?_) h
  refine WS_in (cs := cs) h1 ?_ ?_
  · rw [hF n (Nat.le_refl _) h1]
    refine chain_fr (fun c hc => ?_) h2
    have := segs_in h3 c hc
    exact hN c (by omega) this.2
  · have go : ∀ (cs : List Nat) (a : Nat), n + 1 ≤ a → segs (fun c b => WS t c b ∧ ((∀ i, c ≤ i → i < b → tF t' i = tF t i) → (∀ i, c < i → i < b → tN t' i = tN t i) → WS t' c b)) a e cs → segs (WS t') a e cs := by
      intro cs
      induction cs with
      | nil => intro a _ h; exact h
      | cons c cs ih =>
        rintro a ha ⟨rfl, b, g2, ⟨-, g3⟩, g4⟩
        have := segs_le g4
        exact ⟨rfl, b, g2, g3 (fun i q1 q2 => hF i (by omega) (by omega)) (fun i q1 q2 => hN i (by omega) (by omega)), ih b (by omega) g4⟩
    exact go cs (n + 1) (Nat.le_refl _) h3
def Opn (t : tS) (n : Nat) (cs : List Nat) : Prop := n < tn t ∧ chain t (tF t n) cs ∧ segs (WS t) (n + 1) (tn t) cs ∧ tL t n = cs.getLast?
def agT (n : Nat) (t t' : tS) : Prop := ∀ i, i < n → tF t' i = tF t i ∧ tL t' i = tL t i ∧ tN t' i = tN t i
theorem agT.tr {n : Nat} {a b c : tS} (h1 : agT n a b) (h2 : agT n b c) : agT n a c := fun i hi => ⟨(h2 i hi).1.trans (h1 i hi).1, (h2 i hi).2.1.trans (h1 i hi).2.1, (h2 i hi).2.2.trans (h1 i hi).2.2⟩
theorem agT.le {n k : Nat} {a b : tS} (h : agT n a b) (hk : k ≤ n) : agT k a b := fun i hi => h i (by omega)
theorem agT_add {t : tS} {k v p : Int32} : agT (tn t) t (tAdd t k v p) := fun i hi => by
  have : i ≠ tn t := by omega
  exact ⟨if_neg this, if_neg this, if_neg this⟩
theorem add_new {t : tS} {k v p : Int32} : Opn (tAdd t k v p) (tn t) [] ∧ tN (tAdd t k v p) (tn t) = none := by
  refine ⟨⟨Nat.lt_succ_self _, ?_, ?_, ?_⟩, if_pos rfl⟩
  · show upW (tF t) (tn t) none (tn t) = none
    exact if_pos rfl
  · show tn t + 1 = tn t + 1
    rfl
  · show upW (tL t) (tn t) none (tn t) = none
    exact if_pos rfl
theorem chain_snoc {t t' : tS} {c l : Nat} (hc : tN t' c = none) (hl : tN t' l = some c) : ∀ {cs : List Nat} {o : Option Nat}, (∀ d, d ∈ cs → d ≠ l → tN t' d = tN t d) → cs.getLast? = some l → cs.Nodup → chain t o cs → chain t' o (cs ++ [c])
  | [], o, _, h, _, _ => by cases h
  | [d], o, _, h, _, ⟨h1, h2⟩ => by
    cases h
    exact ⟨h1, hl, hc⟩
  | d :: d2 :: cs, o, hN, h, hd, ⟨h1, h2⟩ => by
    have hl2 : (d2 :: cs).getLast? = some l := by rw [List.getLast?_cons_cons] at h; exact h
    have hne : d ≠ l := fun e => by
      have := (List.nodup_cons.mp hd).1
      rw [e] at this
      exact this (List.mem_of_getLast? hl2)
    refine ⟨h1, ?_⟩
    rw [hN d List.mem_cons_self hne]
    exact chain_snoc hc hl (fun q hq => hN q (List.mem_cons_of_mem _ hq)) hl2 (List.nodup_cons.mp hd).2 h2
theorem segs_nodup {P : Nat → Nat → Prop} : ∀ {cs : List Nat} {a e : Nat}, segs P a e cs → cs.Nodup
  | [], a, e, h => List.nodup_nil
  | c :: cs, a, e, ⟨h1, b, h2, h3, h4⟩ => by
    refine List.nodup_cons.mpr ⟨fun hc => ?_, segs_nodup h4⟩
    have := segs_in h4 c hc
    omega
theorem segs_snoc {P : Nat → Nat → Prop} {c e : Nat} (hp : P c e) (hc : c < e) : ∀ {cs : List Nat} {a : Nat}, segs P a c cs → segs P a e (cs ++ [c])
  | [], a, h => ⟨h.symm, e, hc, hp, rfl⟩
  | d :: cs, a, ⟨h1, b, h2, h3, h4⟩ => ⟨h1, b, h2, h3, segs_snoc hp hc h4⟩
theorem op_part {t t2 : tS} {n : Nat} {cs : List Nat} (h : Opn t n cs) (ha : agT (tn t) t t2) (hw : WS t2 (tn t) (tn t2)) (hc : tn t < tn t2) (hN : tN t2 (tn t) = none) : Opn (tPart t2 n (tn t)) n (cs ++ [tn t]) ∧ agT n t (tPart t2 n (tn t)) ∧ tN (tPart t2 n (tn t)) n = tN t n := by
  obtain ⟨h1, h2, h3, h4⟩ := h
  have hL : tL t2 n = cs.getLast? := (ha n h1).2.1.trans h4
  have hF : tF t2 n = tF t n := (ha n h1).1
  have hin : ∀ c, c ∈ cs → n + 1 ≤ c ∧ c < tn t := segs_in h3
  have h3' : segs (WS t2) (n + 1) (tn t) cs := by
    have go : ∀ (cs : List Nat) (a : Nat), segs (WS t) a (tn t) cs → segs (WS t2) a (tn t) cs := by
      intro cs
      induction cs with
      | nil => intro a h; exact h
      | cons c cs ih =>
        rintro a ⟨rfl, b, g2, g3, g4⟩
        have := segs_le g4
        exact ⟨rfl, b, g2, WS_fr g3 (fun i q1 q2 => (ha i (by omega)).1) (fun i q1 q2 => (ha i (by omega)).2.2), ih b g4⟩
    exact go cs (n + 1) h3
  have h2' : chain t2 (tF t2 n) cs := by
    rw [hF]
    exact chain_fr (fun c hc => (ha c (hin c hc).2).2.2) h2
  unfold tPart
  cases hg : cs.getLast? with
  | none =>
    have hcs : cs = [] := List.getLast?_eq_none_iff.mp hg
    subst hcs
    rw [hL, hg]
    refine ⟨⟨by show n < tn t2; omega, ?_, ?_, ?_⟩, fun i hi => ?_, (ha n h1).2.2⟩
    · show chain _ (upW (tF t2) n (some (tn t)) n) [tn t]
      rw [show upW (tF t2) n (some (tn t)) n = some (tn t) from if_pos rfl]
      exact ⟨rfl, hN⟩
    · have h3 : n + 1 = tn t := h3
      refine ⟨h3.symm, tn t2, hc, ?_, rfl⟩
      exact WS_fr hw (fun i q1 q2 => if_neg (by omega)) (fun i q1 q2 => rfl)
    · show upW (tL t2) n (some (tn t)) n = some (tn t)
      exact if_pos rfl
    · have hne : i ≠ n := by omega
      obtain ⟨a1, a2, a3⟩ := ha i (by omega)
      exact ⟨(if_neg hne).trans a1, (if_neg hne).trans a2, a3⟩
  | some l =>
    have hl := hin l (List.mem_of_getLast? hg)
    rw [hL, hg]
    have eN : ∀ d, d ≠ l → upW (tN t2) l (some (tn t)) d = tN t2 d := fun d hd => if_neg hd
    refine ⟨⟨by show n < tn t2; omega, ?_, ?_, ?_⟩, fun i hi => ?_, ?_⟩
    · show chain _ (tF t2 n) (cs ++ [tn t])
      refine chain_snoc (t := t2) (l := l) ?_ ?_ (fun d _ hd => eN d hd) hg (segs_nodup h3) h2'
      · show upW (tN t2) l (some (tn t)) (tn t) = none
        rw [eN _ (by omega)]
        exact hN
      · show upW (tN t2) l (some (tn t)) l = some (tn t)
        exact if_pos rfl
    · have go : ∀ (cs : List Nat) (a : Nat), (∀ c, c ∈ cs → n + 1 ≤ c) → segs (WS t2) a (tn t) cs → cs.getLast? = some l → segs (WS (tn t2, tK t2, tV t2, tP t2, tF t2, upW (tL t2) n (some (tn t)), upW (tN t2) l (some (tn t)))) a (tn t) cs := by
        intro cs
        induction cs with
        | nil => intro a _ h; exact fun _ => h
        | cons c cs ih =>
          rintro a hge ⟨rfl, b, g2, g3, g4⟩ hla
          cases cs with
          | nil =>
            have e : c = l := Option.some.inj hla
            exact ⟨rfl, b, g2, WS_fr g3 (fun i q1 q2 => rfl) (fun i q1 q2 => eN i (by omega)), g4⟩
          | cons d cs =>
            have hla2 : (d :: cs).getLast? = some l := by rw [List.getLast?_cons_cons] at hla; exact hla
            have hlb := segs_in g4 l (List.mem_of_getLast? hla2)
            exact ⟨rfl, b, g2, WS_fr g3 (fun i q1 q2 => rfl) (fun i q1 q2 => eN i (by omega)), ih b (fun q hq => hge q (List.mem_cons_of_mem _ hq)) g4 hla2⟩
      refine segs_snoc ?_ hc (go cs (n + 1) (fun c hc => (hin c hc).1) h3' hg)
      exact WS_fr hw (fun i q1 q2 => rfl) (fun i q1 q2 => eN i (by omega))
    · show upW (tL t2) n (some (tn t)) n = (cs ++ [tn t]).getLast?
      rw [List.getLast?_append, List.getLast?_singleton]
      exact if_pos rfl
    · have hne : i ≠ n := by omega
      have hnl : i ≠ l := by omega
      obtain ⟨a1, a2, a3⟩ := ha i (by omega)
      exact ⟨a1, (if_neg hne).trans a2, (eN i hnl).trans a3⟩
    · show upW (tN t2) l (some (tn t)) n = tN t n
      rw [eN n (by omega)]
      exact (ha n h1).2.2
theorem op_ws {t : tS} {n : Nat} {cs : List Nat} (h : Opn t n cs) : WS t n (tn t) := WS_in h.1 h.2.1 h.2.2.1
end
section
def wr (t : tS) : PR → Prop
  | .inl (nd, _, t') => nd = tn t ∧ WS t' (tn t) (tn t') ∧ tn t < tn t' ∧ tN t' (tn t) = none ∧ agT (tn t) t t'
  | .inr _ => True
def WE (pe : Nat → tS → PR) : Prop := ∀ a t, wr t (pe a t)
section WT
variable {tx : Nat → Nat}
def Opd (t0 t : tS) (n : Nat) : Prop := n = tn t0 ∧ (∃ cs, Opn t n cs) ∧ tN t n = none ∧ agT n t0 t
def wu (t0 : tS) (n : Nat) : PU → Prop
  | .inl (_, t2) => Opd t0 t2 n
  | .inr _ => True
theorem opd_new {t : tS} {k v p : Int32} : Opd t (tAdd t k v p) (tn t) := ⟨rfl, ⟨[], add_new.1⟩, add_new.2, agT_add⟩
theorem opd_part {t0 t t2 : tS} {n c a2 : Nat} (h : Opd t0 t n) (hw : wr t (.inl (c, a2, t2))) : Opd t0 (tPart t2 n c) n ∧ c = tn t := by
  obtain ⟨h1, ⟨cs, h2⟩, h3, h4⟩ := h
  obtain ⟨rfl, w1, w2, w3, w4⟩ := hw
  obtain ⟨g1, g2, g3⟩ := op_part h2 w4 w1 w2 w3
  exact ⟨⟨h1, ⟨_, g1⟩, g3.trans h3, h4.tr g2⟩, rfl⟩
theorem opd_done {t0 t : tS} {n a : Nat} (h : Opd t0 t n) : wr t0 (.inl (n, a, t)) := by
  obtain ⟨rfl, ⟨cs, h2⟩, h3, h4⟩ := h
  exact ⟨rfl, op_ws h2, h2.1, h3, h4⟩
theorem w_close {t0 t : tS} {n a : Nat} (h : Opd t0 t n) : wr t0 (pClose tx n a t) := by
  unfold pClose
  split
  · exact opd_done h
  · exact trivial
theorem w_more {pe : Nat → tS → PR} (hp : WE pe) {t0 : tS} {n : Nat} : ∀ (k a : Nat) (t : tS), Opd t0 t n → wr t0 (pMore tx pe n k a t)
  | 0, a, t, h => w_close h
  | k + 1, a, t, h => by
    unfold pMore
    split
    · have hw := hp (a + 1) t
      generalize pe (a + 1) t = r at hw
      rcases r with ⟨c, a2, t2⟩ | e
      · exact w_more hp k a2 _ (opd_part h hw).1
      · exact trivial
    · exact w_close h
theorem w_args {pe : Nat → tS → PR} (hp : WE pe) {t0 : tS} {n : Nat} : ∀ (k a : Nat) (t : tS), Opd t0 t n → wr t0 (pArgs tx pe n k a t)
  | 0, a, t, h => w_close h
  | k + 1, a, t, h => by
    unfold pArgs
    split
    · have hw := hp (a + 1) t
      generalize pe (a + 1) t = r at hw
      rcases r with ⟨c, a2, t2⟩ | e
      · exact w_args hp k a2 _ (opd_part h hw).1
      · exact trivial
    · exact trivial
theorem w_atom : WE (pAtom tx) := by
  intro a t
  unfold pAtom
  split
  · exact opd_done opd_new
  · unfold pNum
    split
    · exact opd_done opd_new
    · exact trivial
theorem w_dat : ∀ f d, WE (pDat tx f d)
  | 0, d, a, t => trivial
  | f + 1, d, a, t => by
    unfold pDat
    split
    · split
      · exact trivial
      · split
        · exact opd_done opd_new
        · have hw := w_dat f (d + 1) (a + 1) (tAdd t 3 0 (nI a))
          generalize pDat tx f (d + 1) (a + 1) (tAdd t 3 0 (nI a)) = r at hw
          rcases r with ⟨c, a2, t2⟩ | e
          · exact w_more (w_dat f (d + 1)) 95 a2 _ (opd_part opd_new hw).1
          · exact trivial
    · exact w_atom a t
theorem w_let {t0 t : tS} {p a : Nat} (h : Opd t0 t p) : wu t0 p (pLet tx p a t) := by
  unfold pLet
  split
  · have := opd_part (c := tn t) (a2 := 0) (t2 := tAdd t 2 (nI (tx a)) (nI a)) h (opd_done opd_new)
    exact this.1
  · exact trivial
theorem w_ls {t0 : tS} {p : Nat} : ∀ (k a : Nat) (t : tS), Opd t0 t p → wr t0 (pLs tx p k a t)
  | 0, a, t, h => w_close h
  | k + 1, a, t, h => by
    unfold pLs
    split
    · have hw := w_let (tx := tx) (a := a + 1) h
      generalize pLet tx p (a + 1) t = r at hw
      rcases r with ⟨a2, t2⟩ | e
      · exact w_ls k a2 t2 hw
      · exact trivial
    · exact w_close h
theorem w_par {d : Nat} : WE (pPar tx d) := by
  intro a t
  unfold pPar
  split
  · split
    · exact opd_done opd_new
    · have hw := w_let (tx := tx) (a := a + 1) (opd_new (t := t) (k := 7) (v := 0) (p := nI a))
      generalize pLet tx (tn t) (a + 1) (tAdd t 7 0 (nI a)) = r at hw
      rcases r with ⟨a2, t2⟩ | e
      · exact w_ls 2 a2 t2 hw
      · exact trivial
  · exact trivial
theorem w_fun {pe : Nat → tS → PR} (hp : WE pe) {d : Nat} : WE (pFun tx pe d) := by
  intro a t
  unfold pFun
  split
  · split
    · have hw := w_par (tx := tx) (d := d) (a + 1 + 1) (tAdd t 6 0 (nI a))
      generalize pPar tx d (a + 1 + 1) (tAdd t 6 0 (nI a)) = r at hw
      rcases r with ⟨c, a2, t2⟩ | e
      · have h1 := (opd_part opd_new hw).1
        show wr t (if tx a2 = 32 then _ else _)
        split
        · have hw2 := hp (a2 + 1) (tPart t2 (tn t) c)
          generalize pe (a2 + 1) (tPart t2 (tn t) c) = r2 at hw2
          rcases r2 with ⟨c2, a4, t4⟩ | e
          · exact w_close (opd_part h1 hw2).1
          · exact trivial
        · exact trivial
      · exact trivial
    · exact trivial
  · exact trivial
theorem w_bv {pe pf : Nat → tS → PR} (hp : WE pe) (hf : WE pf) {d n : Nat} : WE (pBv tx pe pf d n) := by
  intro a t
  unfold pBv
  split
  · split
    · exact hf _ _
    · exact trivial
  · exact hp _ _
theorem w_bind {pe pf : Nat → tS → PR} (hp : WE pe) (hf : WE pf) {t0 t : tS} {d n a : Nat} (h : Opd t0 t n) : wu t0 n (pBind tx pe pf d n a t) := by
  unfold pBind
  split
  · split
    · split
      · have hw := w_bv (tx := tx) hp hf (d := d) (n := n) (a + 1 + 1 + 1) (tAdd t 10 (nI (tx (a + 1))) (nI (a + 1)))
        generalize pBv tx pe pf d n (a + 1 + 1 + 1) (tAdd t 10 (nI (tx (a + 1))) (nI (a + 1))) = r at hw
        rcases r with ⟨c, a2, t2⟩ | e
        · have h1 := (opd_part opd_new hw).1
          have h2 := (opd_part (a2 := 0) h (opd_done h1)).1
          show wu t0 n (if tx a2 = 41 then _ else _)
          split
          · exact h2
          · exact trivial
        · exact trivial
      · exact trivial
    · exact trivial
  · exact trivial
theorem w_bs {pb : Nat → tS → PU} {t0 : tS} {n : Nat} (hp : ∀ a t, Opd t0 t n → wu t0 n (pb a t)) : ∀ (k a : Nat) (t : tS), Opd t0 t n → wr t0 (pBs tx pb n k a t)
  | 0, a, t, h => w_close h
  | k + 1, a, t, h => by
    unfold pBs
    split
    · have hw := hp (a + 1) t h
      generalize pb (a + 1) t = r at hw
      rcases r with ⟨a2, t2⟩ | e
      · exact w_bs hp k a2 t2 hw
      · exact trivial
    · exact w_close h
theorem w_bou {pe pe2 pf : Nat → tS → PR} (hp : WE pe) (hp2 : WE pe2) (hf : WE pf) {kd : Int32} {d : Nat} : WE (pBou tx pe (pBind tx pe2 pf d) kd) := by
  intro a t
  unfold pBou
  split
  · have hw := hp (a + 1 + 1) (tAdd t kd 0 (nI a))
    generalize pe (a + 1 + 1) (tAdd t kd 0 (nI a)) = r at hw
    rcases r with ⟨c, a2, t2⟩ | e
    · have h1 := (opd_part opd_new hw).1
      show wr t (if tx a2 = 32 then _ else _)
      split
      · have hw2 := w_bind (tx := tx) hp2 hf (d := d) (a := a2 + 1) h1
        generalize pBind tx pe2 pf d (tn t) (a2 + 1) (tPart t2 (tn t) c) = r2 at hw2
        rcases r2 with ⟨a4, t4⟩ | e
        · exact w_bs (fun a t h => w_bind hp2 hf h) 2 a4 t4 hw2
        · exact trivial
      · exact trivial
    · exact trivial
  · exact trivial
theorem w_call {pe : Nat → tS → PR} (hp : WE pe) : WE (pCall tx pe) := by
  intro a t
  have hw := hp a (tAdd t 11 0 (nI a))
  unfold pCall
  generalize pe a (tAdd t 11 0 (nI a)) = r at hw
  rcases r with ⟨c, a2, t2⟩ | e
  · exact w_more hp 3 a2 _ (opd_part opd_new hw).1
  · exact trivial
theorem w_ex : ∀ f d, WE (pEx tx f d)
  | 0, d, a, t => trivial
  | f + 1, d, a, t => by
    unfold pEx
    split
    · split
      · unfold pBra
        split
        · exact w_fun (w_ex f (d + 1)) _ _
        · split
          · exact w_bou (w_ex f (d + 1)) (w_ex f (d + 2)) (w_fun (w_ex f (d + 3))) _ _
          · split
            · exact w_call (w_ex f (d + 1)) _ _
            · split
              · exact w_call (w_ex f (d + 1)) _ _
              · exact w_args (w_ex f (d + 1)) _ _ _ opd_new
      · exact trivial
    · split
      · have hw := w_dat (tx := tx) 11 d (a + 1) (tAdd t 4 0 (nI a))
        generalize pDat tx 11 d (a + 1) (tAdd t 4 0 (nI a)) = r at hw
        rcases r with ⟨c, a2, t2⟩ | e
        · exact opd_done (opd_part opd_new hw).1
        · exact trivial
      · exact w_atom a t
end WT
end
section
def sumTo (B : Nat → Nat) : Nat → Nat
  | 0 => 0
  | k + 1 => sumTo B k + B k
theorem sumTo_mono (B : Nat → Nat) : ∀ {i j : Nat}, i ≤ j → sumTo B i ≤ sumTo B j := by
  intro i j h
  induction j with
  | zero => rw [show i = 0 by omega]; exact Nat.le_refl _
  | succ j ih =>
    by_cases e : i = j + 1
    · rw [e]; exact Nat.le_refl _
    · have := ih (by omega)
      show sumTo B i ≤ sumTo B j + B j
      omega
theorem sumTo_le {B : Nat → Nat} {L : Nat} (h0 : ∀ i, L ≤ i → B i = 0) (m : Nat) : sumTo B m ≤ sumTo B L := by
  induction m with
  | zero => exact Nat.zero_le _
  | succ m ih =>
    by_cases e : L ≤ m
    · show sumTo B m + B m ≤ _
      rw [h0 m e]
      omega
    · exact sumTo_mono B (by omega)
theorem sumTo_at (B : Nat → Nat) (i : Nat) : B i ≤ sumTo B (i + 1) := Nat.le_add_left _ _
theorem sumTo_sh (B : Nat → Nat) : ∀ k, sumTo B (k + 1) = B 0 + sumTo (fun i => B (i + 1)) k
  | 0 => by show 0 + B 0 = B 0 + 0; omega
  | k + 1 => by
    have := sumTo_sh B k
    show sumTo B (k + 1) + B (k + 1) = B 0 + (sumTo (fun i => B (i + 1)) k + B (k + 1))
    omega
theorem segs_sum {P : Nat → Nat → Prop} : ∀ {cs : List Nat} {a e : Nat}, segs P a e cs → ∃ B : Nat → Nat, (∀ i c, cs[i]? = some c → ∃ b, c < b ∧ P c b ∧ 200 * (b - c) = B i) ∧ (∀ i, cs.length ≤ i → B i = 0) ∧ sumTo B cs.length ≤ 200 * (e - a)
  | [], a, e, h => ⟨fun _ => 0, fun i c h => (by cases h), fun _ _ => rfl, Nat.zero_le _⟩
  | c :: cs, a, e, ⟨h1, b, h2, h3, h4⟩ => by
    obtain ⟨B, g1, g2, g3⟩ := segs_sum h4
    have hle := segs_le h4
    refine ⟨fun i => match i with | 0 => 200 * (b - c) | i + 1 => B i, fun i q hq => ?_, fun i hi => ?_, ?_⟩
    · cases i with
      | zero => cases hq; exact ⟨b, h2, h3, rfl⟩
      | succ i => exact g1 i q hq
    · cases i with
      | zero => cases hi
      | succ i => exact g2 i (Nat.le_of_succ_le_succ hi)
    · rw [List.length_cons, sumTo_sh]
      show 200 * (b - c) + sumTo B cs.length ≤ _
      omega
theorem tEn_in {t : tS} {g : Nat → Option Nat} {i : Nat} (h : i < tn t) : tEn t g (some i) = g i := if_pos h
theorem tEn_no {t : tS} {g : Nat → Option Nat} : tEn t g none = none := rfl
theorem tPt_no {t : tS} : ∀ k, tPt t k none = none
  | 0 => rfl
  | k + 1 => tPt_no k
theorem chain_pt {t : tS} : ∀ (cs : List Nat) (o : Option Nat) (k : Nat), (∀ c, c ∈ cs → c < tn t) → chain t o cs → tPt t k o = cs[k]?
  | [], o, k, _, h => by
    rw [show o = none from h, tPt_no]
    rfl
  | c :: cs, o, 0, _, ⟨h1, _⟩ => h1
  | c :: cs, o, k + 1, hc, ⟨h1, h2⟩ => by
    rw [h1]
    show tPt t k (tEn t (tN t) (some c)) = cs[k]?
    rw [tEn_in (hc c List.mem_cons_self)]
    exact chain_pt cs _ k (fun d hd => hc d (List.mem_cons_of_mem _ hd)) h2
section CO
variable {z : Nat} {t : tS} {s : cD_}
theorem cn_A {v : Vl} : cn (dC (dA z s v)) = cn (dC s) + 1 := (cAp_n z (dC s) v).1
theorem cn_I {x : Int32} : cn (dC (dI z s x)) = cn (dC s) + 1 := (cAp_n z (dC s) (vInt x)).1
theorem cn_B : cn (dC (dB z s)) = cn (dC s) + 1 := (cAp_n z (dC s) vNil).1
theorem cn_E {p : Nat} : cn (dC (dE s p)) = cn (dC s) := rfl
theorem cn_Lv : cn (dC (dLv s)) = cn (dC s) := rfl
theorem cn_En {o : Option Nat} : cn (dC (dEn s o)) = cn (dC s) := by
  unfold dEn
  split <;> rfl
theorem cn_No {p : Int32} : cn (dC (dNo s p)) = cn (dC s) := by
  unfold dNo
  split <;> rfl
theorem cn_Va {o : Option Nat} : cn (dC (dVa z t o s)) = cn (dC s) + 2 := by
  unfold dVa
  rw [cn_I, cn_I]
  split
  · rw [cn_No]
  · rfl
theorem dEx_no : ∀ (f d : Nat) (s : cD_), dEx z t f d none s = s
  | 0, d, s => rfl
  | f + 1, d, s => by
    unfold dEx
    split
    · rfl
    · simp [tEi]
def CP (z : Nat) (t : tS) (n e : Nat) : Prop := (∀ f d s, cn (dC (dEx z t f d (some n) s)) ≤ cn (dC s) + 200 * (e - n)) ∧ (∀ f d s, cn (dC (dDa z t f d (some n) s)) ≤ cn (dC s) + 200 * (e - n)) ∧ (∀ f d s, cn (dC (dEx z t f d (tEn t (tF t) (some n)) s)) ≤ cn (dC s) + 200 * (e - n))
theorem row_cost {f d : Nat} : ∀ (cs : List Nat) (a e k : Nat) (o : Option Nat) (s : cD_), (∀ c, c ∈ cs → c < tn t) → chain t o cs → segs (fun c b => WS t c b ∧ CP z t c b) a e cs → cn (dC (dRow t (dDa z t f d) k o s)) ≤ cn (dC s) + 200 * (e - a)
  | [], a, e, k, o, s, _, h, _ => by
    rw [show o = none from h]
    cases k <;> exact Nat.le_add_right _ _
  | c :: cs, a, e, 0, o, s, _, _, _ => Nat.le_add_right _ _
  | c :: cs, a, e, k + 1, o, s, hc, ⟨h1, h2⟩, ⟨h3, b, h4, ⟨_, h5⟩, h6⟩ => by
    subst h1
    subst h3
    have hle := segs_le h6
    show cn (dC (dRow t (dDa z t f d) k (tEn t (tN t) (some c)) (dDa z t f d (some c) s))) ≤ _
    rw [tEn_in (hc c List.mem_cons_self)]
    have g1 := row_cost (f := f) (d := d) cs b e k _ (dDa z t f d (some c) s) (fun q hq => hc q (List.mem_cons_of_mem _ hq)) h2 h6
    have g2 := h5.2.1 f d s
    omega
variable {go : Option Nat → cD_ → cD_} {o : Option Nat} {B : Nat → Nat}
theorem cn_Li {w : Option Nat} {x : Int32} {c : Nat} (h : ∀ s, cn (dC (go w s)) ≤ cn (dC s) + c) : cn (dC (dLi z go w x s)) ≤ cn (dC s) + c + 2 := by
  unfold dLi
  rw [cn_E, cn_I]
  have := h (dB z s)
  rw [cn_B] at this
  omega
theorem cn_Op13 {n : Nat} (hB : ∀ k s, cn (dC (go (dPt t k o) s)) ≤ cn (dC s) + B k) : ∀ (j i : Nat) (s : cD_), j + i = n → cn (dC (dOp t go o 13 n j i s)) ≤ cn (dC s) + sumTo B j
  | 0, i, s, _ => Nat.le_add_right _ _
  | j + 1, i, s, h => by
    have g1 := cn_Op13 (n := n) hB j (i + 1) (go (dPt t (n - 1 - i) o) s) (by omega)
    have g2 := hB (n - 1 - i) s
    have e : n - 1 - i = j := by omega
    rw [e] at g1 g2
    show cn (dC (dOp t go o 13 n j (i + 1) (go (dPt t (if (13 : Int32) = 13 then n - 1 - i else i) o) s))) ≤ cn (dC s) + (sumTo B j + B j)
    rw [if_pos rfl, e]
    omega
theorem cn_Opf {w : Int32} (hw : ¬ w = 13) {n : Nat} (hB : ∀ k s, cn (dC (go (dPt t k o) s)) ≤ cn (dC s) + B k) : ∀ (j i : Nat) (s : cD_), cn (dC (dOp t go o w n j i s)) + sumTo B i ≤ cn (dC s) + sumTo B (i + j)
  | 0, i, s => Nat.le_refl _
  | j + 1, i, s => by
    have g1 := cn_Opf hw (n := n) hB j (i + 1) (go (dPt t i o) s)
    have g2 := hB i s
    show cn (dC (dOp t go o w n j (i + 1) (go (dPt t (if w = 13 then n - 1 - i else i) o) s))) + sumTo B i ≤ _
    rw [if_neg hw]
    have e : sumTo B (i + 1) = sumTo B i + B i := rfl
    rw [e, show i + 1 + j = i + (j + 1) by omega] at g1
    omega
theorem cn_As {pick : Nat → Option Nat} (hB : ∀ k s, cn (dC (go (pick k) s)) ≤ cn (dC s) + B k) : ∀ (k : Nat) (s : cD_), cn (dC (dAs z go pick k s)) + B 0 ≤ cn (dC s) + sumTo B (k + 1) + k
  | 0, s => by show cn (dC s) + B 0 ≤ cn (dC s) + (0 + B 0) + 0; omega
  | k + 1, s => by
    have g1 := cn_As hB k (dAr z go (pick (k + 1)) s)
    have g2 := hB (k + 1) s
    have e : cn (dC (dAr z go (pick (k + 1)) s)) = cn (dC (go (pick (k + 1)) s)) + 1 := cn_I
    have e2 : sumTo B (k + 1 + 1) = sumTo B (k + 1) + B (k + 1) := rfl
    show cn (dC (dAs z go pick k (dAr z go (pick (k + 1)) s))) + B 0 ≤ _
    omega
theorem cn_BA : cn (dC (dBA z s)) = cn (dC s) + 2 := by
  unfold dBA
  rw [cn_A, cn_I]
theorem cn_Bo {w fl : Option Nat} {c : Nat} (h : ∀ s, cn (dC (go w s)) ≤ cn (dC s) + c) : cn (dC (dBo z go w fl s)) ≤ cn (dC s) + c + 3 := by
  unfold dBo
  rw [cn_Lv]
  have := cn_Li (z := z) (x := 5) (s := dEn (dI z s 3) fl) h
  rw [cn_En, cn_I] at this
  omega
end CO
theorem tCn_96 (t : tS) (o : Option Nat) : tCn t 96 o ≤ 96 := tCn_le t 96 o
theorem cost {z : Nat} {t : tS} {n e : Nat} (he : e ≤ tn t) (h : WS t n e) : CP z t n e := by
  refine WS_ind (P := fun n e => e ≤ tn t → CP z t n e) (fun n e cs h1 h2 h3 he => ?_) h he
  have hin := segs_in h3
  have hct : ∀ c, c ∈ cs → c < tn t := fun c hc => by have := (hin c hc).2; omega
  have h3 : segs (fun c b => WS t c b ∧ CP z t c b) (n + 1) e cs := by
    have go : ∀ (cs : List Nat) (a : Nat), segs (fun c b => WS t c b ∧ (b ≤ tn t → CP z t c b)) a e cs → segs (fun c b => WS t c b ∧ CP z t c b) a e cs := by
      intro cs
      induction cs with
      | nil => intro a h; exact h
      | cons c cs ih =>
        rintro a ⟨g1, b, g2, ⟨g3, g4⟩, g5⟩
        have := segs_le g5
        exact ⟨g1, b, g2, ⟨g3, g4 (by omega)⟩, ih b g5⟩
    exact go cs (n + 1) h3
  have hle := segs_le h3
  obtain ⟨B, b1, b2, b3⟩ := segs_sum h3
  have hp : ∀ k, dPt t k (some n) = cs[k]? := fun k => by
    unfold dPt
    rw [tEn_in (show n < tn t by omega)]
    exact chain_pt cs _ k hct h2
  have hS : ∀ m, sumTo B m ≤ 200 * (e - (n + 1)) := fun m => Nat.le_trans (sumTo_le b2 m) b3
  have hB : ∀ f d k s, cn (dC (dEx z t f d (dPt t k (some n)) s)) ≤ cn (dC s) + B k := by
    intro f d k s
    rw [hp]
    cases hk : cs[k]? with
    | none =>
      rw [dEx_no]
      exact Nat.le_add_right _ _
    | some c =>
      obtain ⟨b, q1, ⟨-, q2⟩, q3⟩ := b1 k c hk
      rw [← q3]
      exact q2.1 f d s
  have hB2 : ∀ f d k s, cn (dC (dEx z t f d (tEn t (tF t) (dPt t k (some n))) s)) ≤ cn (dC s) + B k := by
    intro f d k s
    rw [hp]
    cases hk : cs[k]? with
    | none =>
      rw [tEn_no, dEx_no]
      exact Nat.le_add_right _ _
    | some c =>
      obtain ⟨b, q1, ⟨-, q2⟩, q3⟩ := b1 k c hk
      rw [← q3]
      exact q2.2.2 f d s
  have hfirst : tEn t (tF t) (some n) = cs[0]? := hp 0
  have hda : ∀ f d s, cn (dC (dDa z t f d (some n) s)) ≤ cn (dC s) + 200 * (e - n) := by
    intro f d s
    cases f with
    | zero => exact Nat.le_add_right _ _
    | succ f =>
      unfold dDa
      split
      · exact Nat.le_add_right _ _
      · split
        · rw [cn_A]; omega
        · split
          · rw [cn_A]; omega
          · rw [cn_E]
            have := row_cost (z := z) (f := f) (d := d + 1) cs (n + 1) e 96 (tEn t (tF t) (some n)) (dB z s) hct (by rw [tEn_in (show n < tn t by omega)]; exact h2) h3
            rw [cn_B] at this
            omega
  have hdf : ∀ f d s, cn (dC (dDa z t f d (tEn t (tF t) (some n)) s)) ≤ cn (dC s) + 200 * (e - (n + 1)) + 1 := by
    intro f d s
    rw [hfirst]
    cases hk : cs[0]? with
    | none =>
      cases f with
      | zero => show cn (dC s) ≤ _; omega
      | succ f =>
        unfold dDa
        split
        · omega
        · rw [if_neg (show ¬ tEi t (tK t) none = 1 from show ¬ (-1 : Int32) = 1 by decide), if_neg (show ¬ tEi t (tK t) none = 2 from show ¬ (-1 : Int32) = 2 by decide), cn_E]
          show cn (dC (dB z s)) ≤ _
          rw [cn_B]
          omega
    | some c =>
      obtain ⟨b, q1, ⟨-, q2⟩, q3⟩ := b1 0 c hk
      have := q2.2.1 f d s
      have h9 := hS 1
      have : B 0 ≤ sumTo B 1 := sumTo_at B 0
      omega
  refine ⟨fun f d s => ?_, hda, fun f d s => ?_⟩
  · cases f with
    | zero => exact Nat.le_add_right _ _
    | succ f =>
      have s1 := hS 1
      have s2 := hS 2
      have s3 := hS 3
      have a0 : sumTo B 1 = B 0 := Nat.zero_add _
      have a1 : sumTo B 2 = sumTo B 1 + B 1 := rfl
      have a2 : sumTo B 3 = sumTo B 2 + B 2 := rfl
      have hc := tCn_96 t (tEn t (tF t) (some n))
      have sk := hS (tCn t 96 (tEn t (tF t) (some n)) - 1 + 1)
      have hAs : ∀ s, cn (dC (dBs z t (dEx z t f (d + 1)) (some n) s)) + B 0 ≤ cn (dC s) + 2 + 200 * (e - (n + 1)) + 96 := by
        intro s
        have := cn_As (z := z) (go := dEx z t f (d + 1)) (B := B) (pick := fun k => tEn t (tF t) (dPt t k (some n))) (fun k s => hB2 f (d + 1) k s) (tCn t 96 (tEn t (tF t) (some n)) - 1) (dBA z s)
        rw [cn_BA] at this
        unfold dBs
        omega
      unfold dEx
      split
      · exact Nat.le_add_right _ _
      · next h9 =>
        split
        · next hk =>
          show cn (dC (dDa z t (10 + 1) d (some n) (dI z s 1))) ≤ _
          rw [dDa, if_neg h9, if_pos hk, cn_A, cn_I]
          omega
        · split
          · rw [cn_Va]
            omega
          · split
            · have := hdf 11 d (dI z s 1)
              rw [cn_I] at this
              omega
            · split
              · unfold dOn
                split
                · unfold dCh
                  have g1 := hB f (d + 1) 0 s
                  have g2 := cn_Li (z := z) (x := 9) (s := dI z (dEx z t f (d + 1) (dPt t 0 (some n)) s) 8) (fun s => hB f (d + 1) 1 s)
                  have g3 := cn_Li (z := z) (x := 9) (s := dLi z (dEx z t f (d + 1)) (dPt t 1 (some n)) 9 (dI z (dEx z t f (d + 1) (dPt t 0 (some n)) s) 8)) (fun s => hB f (d + 1) 2 s)
                  rw [cn_I] at g2
                  omega
                · rw [cn_I]
                  by_cases h13 : tEi t (tV t) (some n) = 13
                  · rw [h13]
                    have := cn_Op13 (go := dEx z t f (d + 1)) (o := some n) (B := B) (n := tCn t 96 (tEn t (tF t) (some n))) (fun k s => hB f (d + 1) k s) (tCn t 96 (tEn t (tF t) (some n))) 0 s (Nat.add_zero _)
                    have := hS (tCn t 96 (tEn t (tF t) (some n)))
                    omega
                  · have := cn_Opf (go := dEx z t f (d + 1)) (o := some n) (B := B) h13 (n := tCn t 96 (tEn t (tF t) (some n))) (fun k s => hB f (d + 1) k s) (tCn t 96 (tEn t (tF t) (some n))) 0 s
                    have h8 := hS (0 + tCn t 96 (tEn t (tF t) (some n)))
                    have : sumTo B 0 = 0 := rfl
                    omega
              · split
                · have := cn_Bo (z := z) (fl := tEn t (tF t) (dPt t 0 (some n))) (s := s) (fun s => hB f (d + 1) 1 s)
                  omega
                · split
                  · unfold dBd
                    rw [cn_I]
                    have g1 := cn_Bo (z := z) (fl := dPt t 1 (some n)) (s := dBs z t (dEx z t f (d + 1)) (some n) s) (fun s => hB f (d + 1) 0 s)
                    have g2 := hAs s
                    omega
                  · split
                    · unfold dBf
                      rw [cn_I]
                      have g1 := cn_Bo (z := z) (fl := dPt t 1 (some n)) (s := dLv (dBs z t (dEx z t f (d + 1)) (some n) (dEn (dI z s 6) (dPt t 1 (some n))))) (fun s => hB f (d + 1) 0 s)
                      have g2 := hAs (dEn (dI z s 6) (dPt t 1 (some n)))
                      rw [cn_Lv] at g1
                      rw [cn_En, cn_I] at g2
                      omega
                    · split
                      · unfold dCa
                        rw [cn_I]
                        have g1 := cn_As (z := z) (go := dEx z t f (d + 1)) (B := B) (pick := fun k => dPt t k (some n)) (fun k s => hB f (d + 1) k s) (tCn t 96 (tEn t (tF t) (some n)) - 1) (dBA z s)
                        rw [cn_BA] at g1
                        have g2 := hB f (d + 1) 0 (dAs z (dEx z t f (d + 1)) (fun k => dPt t k (some n)) (tCn t 96 (tEn t (tF t) (some n)) - 1) (dBA z s))
                        omega
                      · exact Nat.le_add_right _ _
  · rw [hfirst]
    cases hk : cs[0]? with
    | none =>
      rw [dEx_no]
      exact Nat.le_add_right _ _
    | some c =>
      obtain ⟨b, q1, ⟨-, q2⟩, q3⟩ := b1 0 c hk
      have := q2.1 f d s
      have h9 := hS 1
      have : B 0 ≤ sumTo B 1 := sumTo_at B 0
      omega
theorem lay_lt {z : Nat} {tx : Nat → Nat} {t t2 : tS} {n a2 : Nat} {s : cD_} (h : pEx tx 10 0 0 (0, t.2) = .inl (n, a2, t2)) (h96 : tn t2 ≤ 96) : cn (dC (dI z (dEx z t2 11 0 (some 0) (dZ s)) 19)) < 2 ^ 30 := by
  have hw := w_ex (tx := tx) 10 0 0 (0, t.2)
  rw [h] at hw
  obtain ⟨-, w1, w2, -⟩ := hw
  have hc := (cost (z := z) (Nat.le_refl _) w1).1 11 0 (dZ s)
  rw [cn_I]
  have e : cn (dC (dZ s)) = 0 := rfl
  have : cn (dC (dEx z t2 11 0 (some 0) (dZ s))) ≤ cn (dC (dZ s)) + 200 * (tn t2 - 0) := hc
  omega
end
section
def OC (z : Nat) (s : cD_) : Prop := okA z (cH_ (dC s)) ∧ okA z (cT_ (dC s))
def OGo (z : Nat) (go : Option Nat → cD_ → cD_) : Prop := ∀ o s, OC z s → OC z (go o s)
section OCS
variable {z : Nat} {t : tS} {s : cD_} {go : Option Nat → cD_ → cD_}
theorem oc_Ap {H T : Nat → Vl} {n : Nat} {l : Option Nat} {b : Bool} {v : Vl} (hv : okV z v) (h : okA z H ∧ okA z T) : okA z (cAp z (H, T, n, l, b) v).1 ∧ okA z (cAp z (H, T, n, l, b) v).2.1 := by
  unfold cAp
  split
  · next hn =>
    have hn : n < z := hn
    have h1 := okA_upd (k := n) h.1 hv
    have h2 := okA_upd (k := n) (x := vNil) h.2 trivial
    show okA z (cLk z (upW H n v) (upW T n vNil) l b (vPr n)).1 ∧ okA z (cLk z (upW H n v) (upW T n vNil) l b (vPr n)).2
    unfold cLk
    split
    · exact ⟨h1, h2⟩
    · split
      · split
        · exact ⟨okA_upd h1 hn, h2⟩
        · exact ⟨h1, okA_upd h2 hn⟩
      · exact ⟨h1, h2⟩
  · exact h
theorem oc_A {v : Vl} (hv : okV z v) (h : OC z s) : OC z (dA z s v) := oc_Ap (n := cn (dC s)) (l := cl (dC s)) (b := ci (dC s)) hv h
theorem oc_I {x : Int32} (h : OC z s) : OC z (dI z s x) := oc_A (v := vInt x) trivial h
theorem oc_B (h : OC z s) : OC z (dB z s) := oc_Ap (n := cn (dC s)) (l := cl (dC s)) (b := ci (dC s)) (v := vNil) trivial h
theorem oc_E {p : Nat} (h : OC z s) : OC z (dE s p) := h
theorem oc_Lv (h : OC z s) : OC z (dLv s) := h
theorem oc_En {o : Option Nat} (h : OC z s) : OC z (dEn s o) := by
  unfold dEn
  split <;> exact h
theorem oc_No {p : Int32} (h : OC z s) : OC z (dNo s p) := by
  unfold dNo
  split <;> exact h
theorem oc_Va {o : Option Nat} (h : OC z s) : OC z (dVa z t o s) := by
  unfold dVa
  refine oc_I (oc_I ?_)
  split
  · exact oc_No h
  · exact h
theorem oc_Row (hg : OGo z go) : ∀ (k : Nat) (o : Option Nat) (s : cD_), OC z s → OC z (dRow t go k o s)
  | 0, o, s, h => h
  | k + 1, none, s, h => h
  | k + 1, some i, s, h => oc_Row hg k _ _ (hg _ _ h)
theorem sym_ok (ht : tOK t) {o : Option Nat} (hk : tEi t (tK t) o = 2) : okV z (vSym (tEi t (tV t) o)) := by
  cases o with
  | none => exact absurd hk (show ¬ (-1 : Int32) = 2 by decide)
  | some i =>
    unfold tEi at hk ⊢
    by_cases hi : i < tn t
    · simp only [hi, if_true] at hk ⊢
      exact ht.2.2.1.2 i hi hk
    · simp only [hi, if_false] at hk
      exact absurd hk (by decide)
theorem oc_Da (ht : tOK t) : ∀ f d, OGo z (dDa z t f d)
  | 0, d, o, s, h => h
  | f + 1, d, o, s, h => by
    unfold dDa
    split
    · exact h
    · split
      · exact oc_A trivial h
      · split
        · next hk => exact oc_A (sym_ok ht hk) h
        · exact oc_E (oc_Row (oc_Da ht f (d + 1)) 96 _ _ (oc_B h))
theorem oc_Li (hg : OGo z go) {o : Option Nat} {x : Int32} (h : OC z s) : OC z (dLi z go o x s) := oc_E (oc_I (hg _ _ (oc_B h)))
theorem oc_Op (hg : OGo z go) {o : Option Nat} {w : Int32} {n : Nat} : ∀ (j i : Nat) (s : cD_), OC z s → OC z (dOp t go o w n j i s)
  | 0, i, s, h => h
  | j + 1, i, s, h => oc_Op hg j (i + 1) _ (hg _ _ h)
theorem oc_Bo (hg : OGo z go) {o fl : Option Nat} (h : OC z s) : OC z (dBo z go o fl s) := oc_Lv (oc_Li hg (oc_En (oc_I h)))
theorem oc_BA (h : OC z s) : OC z (dBA z s) := oc_A (v := vNil) trivial (oc_I h)
theorem oc_As (hg : OGo z go) {pick : Nat → Option Nat} : ∀ (k : Nat) (s : cD_), OC z s → OC z (dAs z go pick k s)
  | 0, s, h => h
  | k + 1, s, h => oc_As hg k _ (oc_I (hg _ _ h))
theorem oc_Bs (hg : OGo z go) {o : Option Nat} (h : OC z s) : OC z (dBs z t go o s) := oc_As hg _ _ (oc_BA h)
end OCS
theorem oc_Ex {z : Nat} {t : tS} (ht : tOK t) : ∀ f d, OGo z (dEx z t f d)
  | 0, d, o, s, h => h
  | f + 1, d, o, s, h => by
    have hg := oc_Ex (z := z) ht f (d + 1)
    unfold dEx
    split
    · exact h
    · split
      · exact oc_Da ht 11 d o _ (oc_I h)
      · split
        · exact oc_Va h
        · split
          · exact oc_Da ht 11 d _ _ (oc_I h)
          · split
            · unfold dOn
              split
              · exact oc_Li hg (oc_Li hg (oc_I (hg _ _ h)))
              · exact oc_I (oc_Op hg _ _ _ h)
            · split
              · exact oc_Bo hg h
              · split
                · exact oc_I (oc_Bo hg (oc_Bs hg h))
                · split
                  · exact oc_I (oc_Bo hg (oc_Lv (oc_Bs hg (oc_En (oc_I h)))))
                  · split
                    · exact oc_I (hg _ _ (oc_As hg _ _ (oc_BA h)))
                    · exact h
def WC (z : Nat) (err : Int32) (t : tS) (X : Nat → Int32) (len a : Nat) (s : cD_) (S E C D : Vl) (mode colls taken steps : Int32) (H T : Nat → Vl) (fr : Nat → Nat) (g : gS) (f c : Nat) (k : Int32) (n : Nat) (fb : Nat → Nat) (R : Nat → Vl) (tl : List mj_O) : List mj_O :=
  cdW (oF 0 [.int (nI z), .ref 8, .ref 10, .ref 11, .ref 14, .ref 16, .int err]) t X len a z s (oF 6 [.ref 17, .ref 23, .long (encV S), .long (encV E), .long (encV C), .long (encV D), .int mode, .int colls, .int taken, .int steps] ::
    oF 7 [.int (nI z), .ref 18, .ref 19, .ref 20, .ref 21, .ref 22, .int (nI f), .int (nI g.2.2), .int (nI c)] :: oJ z (eH H) :: oJ z (eH T) :: oI z (eN fr) :: oZ z (eB g.1) :: oI z (eN g.2.1) ::
    oF 8 [.ref 17, .ref 24, .ref 26, .int k] :: .inr (.inr (.inl (n, fb))) :: .inr (.inr (.inr ())) :: oJ 120 (eH R) :: tl)
section P2o
variable {m b0 b1 : Nat} {op : Bool} {tl : List mj_O} {Q : mj_R → Prop} {xs : List Int32}
variable {z : Nat} {err : Int32} {t : tS} {X : Nat → Int32} {len a : Nat} {s : cD_} {S E C D : Vl} {mode colls taken steps : Int32} {H T : Nat → Vl} {fr : Nat → Nat} {g : gS} {f c : Nat} {k : Int32} {n : Nat} {fb : Nat → Nat} {R : Nat → Vl}
set_option maxRecDepth 10000
theorem e_cells {o0 : mj_O} (hQ : Q (.inl (some (.int (nI (cn (dC s))))), (cdW o0 t X len a z s tl, b0, b1, op))) : mj_Mt gT (law_cst xs) gnw (m + 1) y_Code_cells [.ref 11] (cdW o0 t X len a z s tl, b0, b1, op) Q := by
  intro J hJ
  refine hJ _ _ _ _ ?_
  exact hQ
theorem e_head {o0 : mj_O} {i : Nat} (hz : z ≤ 250) (hi : i < z) (hQ : Q (.inl (some (.long (encV (cH_ (dC s) i)))), (cdW o0 t X len a z s tl, b0, b1, op))) : mj_Mt gT (law_cst xs) gnw (m + 1) y_Code_head [.ref 11, .int (nI i)] (cdW o0 t X len a z s tl, b0, b1, op) Q := by
  intro J hJ
  refine hJ _ _ _ _ ?_
  refine And.intro (fun q => absurd q (nI_pos (by omega))) (fun _ => ?_)
  refine And.intro (fun q => absurd q (nI_ge (a := i) (b := z) hi (by omega))) (fun _ => ?_)
  refine And.intro (vp_in_nI hi (by omega)) ?_
  have key : ∀ j, j = i → Q (.inl (some (.long (eH (cH_ (dC s)) j))), (cdW o0 t X len a z s tl, b0, b1, op)) := by
    rintro j rfl
    exact hQ
  exact key _ (nI_clamp (by omega))
theorem e_tail {o0 : mj_O} {i : Nat} (hz : z ≤ 250) (hi : i < z) (hQ : Q (.inl (some (.long (encV (cT_ (dC s) i)))), (cdW o0 t X len a z s tl, b0, b1, op))) : mj_Mt gT (law_cst xs) gnw (m + 1) y_Code_tail [.ref 11, .int (nI i)] (cdW o0 t X len a z s tl, b0, b1, op) Q := by
  intro J hJ
  refine hJ _ _ _ _ ?_
  refine And.intro (fun q => absurd q (nI_pos (by omega))) (fun _ => ?_)
  refine And.intro (fun q => absurd q (nI_ge (a := i) (b := z) hi (by omega))) (fun _ => ?_)
  refine And.intro (vp_in_nI hi (by omega)) ?_
  have key : ∀ j, j = i → Q (.inl (some (.long (eH (cT_ (dC s)) j))), (cdW o0 t X len a z s tl, b0, b1, op)) := by
    rintro j rfl
    exact hQ
  exact key _ (nI_clamp (by omega))
def cpV (A B : Nat → Vl) (k : Nat) : Nat → Vl := fun i => if i < k then A i else B i
theorem cpV_s (A B : Nat → Vl) (k : Nat) : upW (cpV A B k) k (A k) = cpV A B (k + 1) := by
  funext i
  unfold upW cpV
  by_cases h : i = k
  · rw [if_pos h, if_pos (by omega), h]
  · rw [if_neg h]
    by_cases h2 : i < k
    · rw [if_pos h2, if_pos (by omega)]
    · rw [if_neg h2, if_neg (by omega)]
theorem cpV_0 (A B : Nat → Vl) : cpV A B 0 = B := by
  funext i
  exact if_neg (Nat.not_lt_zero i)
theorem s_load (hz : z ≤ 250) (hc : cn (dC s) ≤ z) (hQ : Q (.inl none, (WC z err t X len a s S E C D mode colls taken steps (cpV (cH_ (dC s)) H (cn (dC s))) (cpV (cT_ (dC s)) T (cn (dC s))) (faN (z - cn (dC s)) (cn (dC s)) (fr, 0)).1 g (faN (z - cn (dC s)) (cn (dC s)) (fr, 0)).2 (cn (dC s)) k n fb R tl, b0, b1, op))) : mj_Mt gT (law_cst xs) gnw (m + 2) y_Store_load [.ref 17, .ref 11] (WC z err t X len a s S E C D mode colls taken steps H T fr g f c k n fb R tl, b0, b1, op) Q := by
  intro J hJ
  refine hJ _ _ _ _ ?_
  refine e_cells ?_
  have em : (if nI z < nI (cn (dC s)) then nI z else nI (cn (dC s))) = nI (cn (dC s)) := if_neg (nI_nlt hc (by omega))
  have loop : ∀ (j i : Nat) (x : Int32), j + i = cn (dC s) → x = nI i → J 9 [some (.ref 17), some (.ref 11), some (.int x)] [] (WC z err t X len a s S E C D mode colls taken steps (cpV (cH_ (dC s)) H i) (cpV (cT_ (dC s)) T i) fr g f (cn (dC s)) k n fb R tl, b0, b1, op) := by
    intro j
    induction j with
    | zero =>
      intro i x hi hx
      subst hx
      obtain rfl : i = cn (dC s) := by omega
      refine hJ _ _ _ _ ?_
      refine And.intro (fun _ => ?_) (fun q => absurd (nI_le (Nat.le_refl _) (by omega)) q)
      refine s_freeAllButCode hz hc ?_
      exact hQ
    | succ j ih =>
      intro i x hi hx
      subst hx
      have ec : (nI i).toNatClampNeg = i := nI_clamp (by omega)
      refine hJ _ _ _ _ ?_
      refine And.intro (fun q => absurd q (nI_ge (a := i) (b := cn (dC s)) (by omega) (by omega))) (fun _ => ?_)
      refine e_head hz (by omega) ?_
      refine And.intro (vp_in_nI (by omega) (by omega)) ?_
      refine e_tail hz (by omega) ?_
      refine And.intro (vp_in_nI (by omega) (by omega)) ?_
      have h9 := ih (i + 1) (nI (i + 1)) (by omega) rfl
      rw [← cpV_s, ← cpV_s] at h9
      have key : ∀ (j2 : Nat) (x : Int32), j2 = i → x = nI (i + 1) → J 9 [some (.ref 17), some (.ref 11), some (.int x)] [] (cdW (oF 0 [.int (nI z), .ref 8, .ref 10, .ref 11, .ref 14, .ref 16, .int err]) t X len a z s (oF 6 [.ref 17, .ref 23, .long (encV S), .long (encV E), .long (encV C), .long (encV D), .int mode, .int colls, .int taken, .int steps] ::
    oF 7 [.int (nI z), .ref 18, .ref 19, .ref 20, .ref 21, .ref 22, .int (nI f), .int (nI g.2.2), .int (nI (cn (dC s)))] :: oJ z (vp_updL (eH (cpV (cH_ (dC s)) H i)) j2 (encV (cH_ (dC s) i))) :: oJ z (vp_updL (eH (cpV (cT_ (dC s)) T i)) j2 (encV (cT_ (dC s) i))) :: oI z (eN fr) :: oZ z (eB g.1) :: oI z (eN g.2.1) ::
    oF 8 [.ref 17, .ref 24, .ref 26, .int k] :: .inr (.inr (.inl (n, fb))) :: .inr (.inr (.inr ())) :: oJ 120 (eH R) :: tl), b0, b1, op) := by
        rintro j2 x rfl rfl
        rw [updL_enc, updL_enc]
        exact h9
      exact key _ _ ec (nI_1 i)
  have h0 := loop (cn (dC s)) 0 (nI 0) rfl rfl
  rw [cpV_0, cpV_0] at h0
  have key : ∀ x : Int32, x = nI (cn (dC s)) → J 9 [some (.ref 17), some (.ref 11), some (.int 0)] [] (cdW (oF 0 [.int (nI z), .ref 8, .ref 10, .ref 11, .ref 14, .ref 16, .int err]) t X len a z s (oF 6 [.ref 17, .ref 23, .long (encV S), .long (encV E), .long (encV C), .long (encV D), .int mode, .int colls, .int taken, .int steps] ::
    oF 7 [.int (nI z), .ref 18, .ref 19, .ref 20, .ref 21, .ref 22, .int (nI f), .int (nI g.2.2), .int x] :: oJ z (eH H) :: oJ z (eH T) :: oI z (eN fr) :: oZ z (eB g.1) :: oI z (eN g.2.1) ::
    oF 8 [.ref 17, .ref 24, .ref 26, .int k] :: .inr (.inr (.inl (n, fb))) :: .inr (.inr (.inr ())) :: oJ 120 (eH R) :: tl), b0, b1, op) := by
    rintro x rfl
    exact h0
  exact key _ em
end P2o
end
section
def cSo (z : Nat) (err : Int32) (t : tS) (X : Nat → Int32) (len a : Nat) (s : cD_) (S E C D : Vl) (mode colls taken steps : Int32) (H T : Nat → Vl) (fr : Nat → Nat) (g : gS) (f c : Nat) (k : Int32) (n : Nat) (fb : Nat → Nat) (R : Nat → Vl) : cS := ((((((z, err), tK t), (tV t, tP t)), (((eO (tF t), eO (tL t)), eO (tN t)), (nI (tn t), X))), ((((nI len, nI a), eH (cH_ (dC s))), (eH (cT_ (dC s)), nI (cn (dC s)))), (((oV (cl (dC s)), bI (ci (dC s))), eO (dF s)), (nI (dK s), dU s)))), (((((encV S, encV E), encV C), (encV D, mode)), (((colls, taken), steps), (eH H, eH T))), ((((eN fr, eB g.1), eN g.2.1), (nI f, nI g.2.2)), (((nI c, k), .inr (.inr (.inl (n, fb)))), (.inr (.inr (.inr ())), eH R)))))
def CI (err : Int32) (z len : Nat) (tx : Nat → Nat) (mode : Int32) (c : Nat) (tl W : List mj_O) : Prop := ∃ (t : tS) (X : Nat → Int32) (a : Nat) (s : cD_) (S E C D : Vl) (colls taken steps : Int32) (H T : Nat → Vl) (fr : Nat → Nat) (g : gS) (f : Nat) (k : Int32) (n : Nat) (fb : Nat → Nat) (R : Nat → Vl),
  W = WC z err t X len a s S E C D mode colls taken steps H T fr g f c k n fb R tl ∧ z ≤ 250 ∧ tOK t ∧ txOK X len tx ∧ (∀ i j, dF s i = some j → j < 1000) ∧ OC z s ∧ mOK z S E C D H T ∧ (∀ j, j < z → fr j < z) ∧ f ≤ z ∧ c ≤ z ∧ dOK z n fb R
def txW (w : Int64) (len k : Nat) (tx : Nat → Nat) : Nat → Nat := fun i => if i < k then (wT w 8 len (fun i => nI (tx i)) i).toNatClampNeg else 0
theorem wT_agr (w : Int64) : ∀ (j n k : Nat) (t t' : Nat → Int32), (∀ i, i < n → t i = t' i) → wC w j n = some k → ∀ i, i < k → wT w j n t i = wT w j n t' i
  | 0, n, k, t, t', h, e => by
    have e : some n = some k := e
    cases e
    exact h
  | j + 1, n, k, t, t', h, e => by
    rw [wC_succ] at e
    rw [wT_succ, wT_succ]
    by_cases h0 : wB w j = 0
    · rw [if_pos h0] at e
      rw [if_pos h0, if_pos h0]
      exact wT_agr w j n k t t' h e
    · rw [if_neg h0] at e
      rw [if_neg h0, if_neg h0]
      split at e
      · cases e
      · refine wT_agr w j (n + 1) k _ _ (fun i hi => ?_) e
        unfold upd
        split
        · rfl
        · exact h i (by omega)
theorem wT_chr (w : Int64) : ∀ (j n k : Nat) (t : Nat → Int32), (∀ i, i < n → ∃ c : Nat, t i = nI c ∧ 32 ≤ c ∧ c ≤ 126) → wC w j n = some k → ∀ i, i < k → ∃ c : Nat, wT w j n t i = nI c ∧ 32 ≤ c ∧ c ≤ 126
  | 0, n, k, t, h, e => by
    have e : some n = some k := e
    cases e
    exact h
  | j + 1, n, k, t, h, e => by
    rw [wC_succ] at e
    rw [wT_succ]
    by_cases h0 : wB w j = 0
    · rw [if_pos h0] at e
      rw [if_pos h0]
      exact wT_chr w j n k t h e
    · rw [if_neg h0] at e
      rw [if_neg h0]
      split at e
      · cases e
      · next hr =>
        refine wT_chr w j (n + 1) k _ (fun i hi => ?_) e
        unfold upd
        split
        · have h1 : ¬ wB w j < 32 := fun q => hr (Or.inl q)
          have h2 : ¬ 126 < wB w j := fun q => hr (Or.inr q)
          have h3 : ¬ wB w j < 0 := fun q => h1 (Int32.lt_trans q (by decide))
          obtain ⟨c, hc, ec⟩ := nI_of h3
          rw [ec] at h1 h2 ⊢
          have g1 : 32 ≤ c := Nat.le_of_not_lt (fun q => h1 (nI_lt (b := 32) q (by decide)))
          have g2 : c ≤ 126 := Nat.le_of_not_lt (fun q => h2 (nI_lt (a := 126) q (by omega)))
          refine ⟨c, ?_, g1, g2⟩
          rw [(sb_byte c (by omega)).2.1]
          exact Value.int.inj (pk_charN (q := c) (by omega)).1
        · exact h i (by omega)
theorem txW_ok {w : Int64} {X : Nat → Int32} {len k : Nat} {tx : Nat → Nat} (hx : txOK X len tx) (h : wR w len = some k) : txOK (wT w 8 len X) k (txW w len k tx) := by
  have hk : wC w 8 len = some k ∧ k ≤ 96 := by
    unfold wR at h
    cases hc : wC w 8 0 with
    | none => rw [hc] at h; cases h
    | some q =>
      rw [hc] at h
      have h : (if len + q ≤ 96 then some (len + q) else none) = some k := h
      split at h
      · cases h
        exact ⟨wC_add hc len, by assumption⟩
      · cases h
  refine ⟨hk.2, fun i hi => ?_, fun i hi => ?_⟩
  · have e1 := wT_agr w 8 len k X (fun i => nI (tx i)) (fun i hi => (hx.2.1 i hi).1) hk.1 i hi
    obtain ⟨c, e2, g1, g2⟩ := wT_chr w 8 len k (fun i => nI (tx i)) (fun i hi => ⟨tx i, rfl, (hx.2.1 i hi).2⟩) hk.1 i hi
    have e3 : txW w len k tx i = c := by
      unfold txW
      rw [if_pos hi, e2]
      exact nI_clamp (by omega)
    rw [e3, e1, e2]
    exact ⟨rfl, g1, g2⟩
  · exact if_neg (by omega)
section P2p
variable {err : Int32} {m b0 b1 : Nat} {op : Bool} {tl W : List mj_O} {Q : mj_R → Prop} {xs : List Int32} {z len c : Nat} {tx : Nat → Nat} {mode : Int32}
set_option maxRecDepth 10000
theorem C_write {w : Int64} (h : CI err z len tx mode c tl W) (h1 : wR w len = none → Q (.inl (some (.int 0)), (W, b0, b1, op))) (h2 : ∀ k W', wR w len = some k → CI err z k (txW w len k tx) mode c tl W' → Q (.inl (some (.int 1)), (W', b0, b1, op))) : mj_Mt gT (law_cst xs) gnw (m + 4) y_P_write [.ref 0, .long w] (W, b0, b1, op) Q := by
  obtain ⟨t, X, a, s, S, E, C, D, colls, taken, steps, H, T, fr, g, f, k, n, fb, R, rfl, hz, ht, hx, hF, hO, hM, hfr, hf, hc, hd⟩ := h
  refine c_write (s := cSo z err t X len a s S E C D mode colls taken steps H T fr g f c k n fb R) (n := len) hx.1 rfl (fun e => h1 e) (fun k2 e => ?_)
  refine h2 k2 _ e ⟨t, wT w 8 len X, a, s, S, E, C, D, colls, taken, steps, H, T, fr, g, f, k, n, fb, R, rfl, hz, ht, txW_ok hx e, hF, hO, hM, hfr, hf, hc, hd⟩
theorem C_position (h : CI err z len tx mode c tl W) (hQ : Q (.inl (some (.int err)), (W, b0, b1, op))) : mj_Mt gT (law_cst xs) gnw (m + 1) y_P_position [.ref 0] (W, b0, b1, op) Q := by
  obtain ⟨t, X, a, s, S, E, C, D, colls, taken, steps, H, T, fr, g, f, k, n, fb, R, rfl, -⟩ := h
  intro J hJ
  refine hJ _ _ _ _ ?_
  exact hQ
theorem M_mode {err : Int32} {t : tS} {X : Nat → Int32} {a : Nat} {s : cD_} {S E C D : Vl} {colls taken steps : Int32} {H T : Nat → Vl} {fr : Nat → Nat} {g : gS} {f : Nat} {k : Int32} {n : Nat} {fb : Nat → Nat} {R : Nat → Vl} (hQ : Q (.inl (some (.int mode)), (WC z err t X len a s S E C D mode colls taken steps H T fr g f c k n fb R tl, b0, b1, op))) : mj_Mt gT (law_cst xs) gnw (m + 1) y_Machine_mode [.ref 16] (WC z err t X len a s S E C D mode colls taken steps H T fr g f c k n fb R tl, b0, b1, op) Q := by
  intro J hJ
  refine hJ _ _ _ _ ?_
  exact hQ
theorem C_state (h : CI err z len tx mode c tl W) (hQ : Q (.inl (some (.int mode)), (W, b0, b1, op))) : mj_Mt gT (law_cst xs) gnw (m + 2) y_P_state [.ref 0] (W, b0, b1, op) Q := by
  obtain ⟨t, X, a, s, S, E, C, D, colls, taken, steps, H, T, fr, g, f, k, n, fb, R, rfl, -⟩ := h
  intro J hJ
  refine hJ _ _ _ _ ?_
  refine M_mode ?_
  exact hQ
theorem faN_fr {z : Nat} : ∀ (j c : Nat) (p : (Nat → Nat) × Nat), c + j ≤ z → (∀ i, i < z → p.1 i < z) → (∀ i, i < z → (faN j c p).1 i < z) ∧ (faN j c p).2 = p.2 + j
  | 0, c, p, _, h => ⟨h, rfl⟩
  | j + 1, c, p, hc, h => by
    have := faN_fr (z := z) j (c + 1) (upW p.1 p.2 c, p.2 + 1) (by omega) (fun i hi => by
      show upW p.1 p.2 c i < z
      unfold upW
      split
      · omega
      · exact h i hi)
    refine ⟨this.1, ?_⟩
    have e : (faN j (c + 1) (upW p.1 p.2 c, p.2 + 1)).2 = p.2 + 1 + j := this.2
    show (faN j (c + 1) (upW p.1 p.2 c, p.2 + 1)).2 = p.2 + (j + 1)
    omega
theorem C_start (h : CI err z len tx mode c tl W) (h0 : c = 0 → Q (.inl (some (.int 0)), (W, b0, b1, op))) (h1 : ∀ W', 0 < c → CI err z len tx 1 c tl W' → Q (.inl (some (.int 1)), (W', b0, b1, op))) : mj_Mt gT (law_cst xs) gnw (m + 4) y_P_start [.ref 0] (W, b0, b1, op) Q := by
  obtain ⟨t, X, a, s, S, E, C, D, colls, taken, steps, H, T, fr, g, f, k, n, fb, R, rfl, hz, ht, hx, hF, hO, hM, hfr, hf, hc, hd⟩ := h
  have hfa := faN_fr (z := z) (z - c) c (fr, 0) (by omega) hfr
  have hf2 : (faN (z - c) c (fr, 0)).2 = 0 + (z - c) := hfa.2
  intro J hJ
  refine hJ _ _ _ _ ?_
  refine k_beginW hz hc hfr (fun e => ?_) (fun e => ?_)
  · exact And.intro (Or.inl rfl) (h0 e)
  · refine And.intro (Or.inr rfl) (h1 _ e ⟨t, X, a, s, vNil, vNil, vPr 0, vNil, 0, 0, 0, H, T, (faN (z - c) c (fr, 0)).1, g, (faN (z - c) c (fr, 0)).2, k, n, fb, R, rfl, hz, ht, hx, hF, hO, ⟨hM.1, hM.2.1, trivial, trivial, ?_, trivial⟩, hfa.1, by omega, hc, hd⟩)
    show 0 < z
    omega
theorem C_next (h : CI err z len tx mode c tl W) (hQ : ∀ x, Q (.inl (some (.int x)), (W, b0, b1, op))) : mj_Mt gT (law_cst xs) gnw (m + 4) y_P_next [.ref 0] (W, b0, b1, op) Q := by
  obtain ⟨t, X, a, s, S, E, C, D, colls, taken, steps, H, T, fr, g, f, k, n, fb, R, rfl, hz, ht, hx, hF, hO, ⟨hA, hB, hS, hE, hC, hD⟩, hfr, hf, hc, hd⟩ := h
  intro J hJ
  refine hJ _ _ _ _ ?_
  refine M_mode ?_
  refine And.intro (fun _ => ?_) (fun _ => ?_)
  · exact hQ _
  · refine k_instruction hz hA hB hfr hS hE hC hD ?_
    exact hQ _
theorem M_shown {err : Int32} {t : tS} {X : Nat → Int32} {a : Nat} {s : cD_} {S E C D : Vl} {colls taken steps : Int32} {H T : Nat → Vl} {fr : Nat → Nat} {g : gS} {f : Nat} {k : Int32} {n : Nat} {fb : Nat → Nat} {R : Nat → Vl} {x : Int32} (hd : dOK z n fb R) (hQ : ∀ y op', Q (.inl (some (.int y)), (WC z err t X len a s S E C D mode colls taken steps H T fr g f c k n fb R tl, b0 + 1, b1, op'))) : mj_Mt gT (law_cst xs) gnw (m + 6) y_Machine_shownCode [.ref 16, .int x] (WC z err t X len a s S E C D mode colls taken steps H T fr g f c k n fb R tl, b0 + 1, b1, op) Q := by
  obtain ⟨⟨l, rfl, hl, hag⟩, -⟩ := hd
  intro J hJ
  refine hJ _ _ _ _ ?_
  refine d_codeAt (by omega) hag (fun op' => ?_)
  exact hQ _ op'
theorem C_shown {x : Int32} (h : CI err z len tx mode c tl W) (hQ : ∀ y op', Q (.inl (some (.int y)), (W, b0 + 1, b1, op'))) : mj_Mt gT (law_cst xs) gnw (m + 7) y_P_shown [.ref 0, .int x] (W, b0 + 1, b1, op) Q := by
  obtain ⟨t, X, a, s, S, E, C, D, colls, taken, steps, H, T, fr, g, f, k, n, fb, R, rfl, hz, ht, hx, hF, hO, hM, hfr, hf, hc, hd⟩ := h
  intro J hJ
  refine hJ _ _ _ _ ?_
  refine M_mode ?_
  refine And.intro (fun _ => ?_) (fun _ => ?_)
  · exact hQ _ op
  · refine M_shown hd (fun y op' => ?_)
    exact hQ y op'
end P2p
end
section
section P2q
variable {m b0 b1 : Nat} {op : Bool} {tl : List mj_O} {Q : mj_R → Prop} {xs : List Int32}
variable {z : Nat} {err : Int32} {t : tS} {X : Nat → Int32} {len a : Nat} {s : cD_} {S E C D : Vl} {mode colls taken steps : Int32} {H T : Nat → Vl} {fr : Nat → Nat} {g : gS} {f c : Nat} {k : Int32} {n : Nat} {fb : Nat → Nat} {R : Nat → Vl} {tx : Nat → Nat}
set_option maxRecDepth 10000
theorem M_load (hz : z ≤ 250) (hc : cn (dC s) ≤ z) (hQ : Q (.inl none, (WC z err t X len a s vNil vNil vNil vNil 0 colls taken steps (cpV (cH_ (dC s)) H (cn (dC s))) (cpV (cT_ (dC s)) T (cn (dC s))) (faN (z - cn (dC s)) (cn (dC s)) (fr, 0)).1 g (faN (z - cn (dC s)) (cn (dC s)) (fr, 0)).2 (cn (dC s)) k n fb R tl, b0, b1, op))) : mj_Mt gT (law_cst xs) gnw (m + 3) y_Machine_load [.ref 16, .ref 11] (WC z err t X len a s S E C D mode colls taken steps H T fr g f c k n fb R tl, b0, b1, op) Q := by
  intro J hJ
  refine hJ _ _ _ _ ?_
  refine s_load hz hc ?_
  refine k_setRegisters (V := vNil) ?_
  exact hQ
theorem x_tclear {o0 : mj_O} (hQ : Q (.inl none, (rdW o0 t X 0 a tl, b0, b1, op))) : mj_Mt gT (law_cst xs) gnw (m + 1) y_Text_clear [.ref 8] (rdW o0 t X len a tl, b0, b1, op) Q := by
  intro J hJ
  refine hJ _ _ _ _ ?_
  exact hQ
theorem P_compile {l : Nat} (hl : 120 ≤ l) (hz : z ≤ 250) (ht : tOK t) (hx : txOK X len tx) (hF : ∀ i j, dF s i = some j → j < 1000) (hb : 12 ≤ b1)
    (h1 : ∀ a' t', pEx tx 10 0 0 (0, t.2) = .inr (a', t') → Q (.inr 0, (WC z (nI a') t' X 0 a' s S E C D mode colls taken steps H T fr g f c k n fb R tl, b0, b1 - 6 - 6, false)))
    (h2 : ∀ nd a' t', pEx tx 10 0 0 (0, t.2) = .inl (nd, a', t') → a' < len → Q (.inr 0, (WC z (nI a') t' X 0 a' s S E C D mode colls taken steps H T fr g f c k n fb R tl, b0 + 1, b1 - 6, false)))
    (h3 : ∀ nd a' t', pEx tx 10 0 0 (0, t.2) = .inl (nd, a', t') → ¬ a' < len → ¬ dU (dEx z t' 11 0 (some 0) (dZ s)) = -1 → Q (.inr 0, (WC z (dU (dEx z t' 11 0 (some 0) (dZ s))) t' X 0 a' (dI z (dEx z t' 11 0 (some 0) (dZ s)) 19) S E C D mode colls taken steps H T fr g f c k n fb R tl, b0 + 1, b1 - 6, false)))
    (h4 : ∀ nd a' t' s', pEx tx 10 0 0 (0, t.2) = .inl (nd, a', t') → ¬ a' < len → dU (dEx z t' 11 0 (some 0) (dZ s)) = -1 → s' = dI z (dEx z t' 11 0 (some 0) (dZ s)) 19 → z < cn (dC s') → Q (.inr 1, (WC z (-1) t' X 0 a' s' S E C D mode colls taken steps H T fr g f c k n fb R tl, b0 + 1, b1 - 6, false)))
    (h5 : ∀ nd a' t' s', pEx tx 10 0 0 (0, t.2) = .inl (nd, a', t') → ¬ a' < len → dU (dEx z t' 11 0 (some 0) (dZ s)) = -1 → s' = dI z (dEx z t' 11 0 (some 0) (dZ s)) 19 → cn (dC s') ≤ z → Q (.inl (some (.int (nI (cn (dC s'))))), (WC z (-1) t' X 0 a' s' vNil vNil vNil vNil 0 colls taken steps (cpV (cH_ (dC s')) H (cn (dC s'))) (cpV (cT_ (dC s')) T (cn (dC s'))) (faN (z - cn (dC s')) (cn (dC s')) (fr, 0)).1 g (faN (z - cn (dC s')) (cn (dC s')) (fr, 0)).2 (cn (dC s')) k n fb R tl, b0 + 2, b1, op))) :
    mj_Mt gT (law_cst xs) gnw (l + 1) y_P_compile [.ref 0] (WC z err t X len a s S E C D mode colls taken steps H T fr g f c k n fb R tl, b0 + 2, b1, op) Q := by
  obtain ⟨l, rfl⟩ : ∃ l', l = l' + 120 := ⟨l - 120, by omega⟩
  have h96 := hx.1
  have ht0 : tOK (0, t.2) := ⟨Nat.zero_le _, ht.2.1, ⟨ht.2.2.1.1, fun i hi => absurd hi (Nat.not_lt_zero i)⟩, ht.2.2.2⟩
  have hg := g_ex hx 10 0 0 (0, t.2) ht0 (Nat.le_refl _) (Nat.zero_le _)
  intro J hJ
  refine hJ _ _ _ _ ?_
  refine q_read (l := l + 119) (tx := tx) (b0 := b0 + 1) (by omega) hx ht (by omega) (fun a2 t2 e => ?_) (fun nd a2 t2 e => ?_)
  · rw [e] at hg
    refine x_tclear ?_
    have ha : ¬ nI a2 = -1 := fun q => nI_pos (n := a2) (by have := hg.2.2; omega) (by rw [q]; decide)
    refine And.intro (fun _ => ?_) (fun (q : nI a2 = -1) => absurd q ha)
    refine And.intro (fun (q : nI a2 = -1) => absurd q ha) (fun _ => ?_)
    exact And.intro (by omega) (h1 a2 t2 e)
  · have hg0 := hg
    rw [e] at hg0
    obtain ⟨g1, g2, g3, g5, g4⟩ := hg0
    by_cases h : a2 < len
    · rw [if_pos h]
      refine x_tclear ?_
      have ha : ¬ nI a2 = -1 := fun q => nI_pos (n := a2) (by omega) (by rw [q]; decide)
      refine And.intro (fun _ => ?_) (fun (q : nI a2 = -1) => absurd q ha)
      refine And.intro (fun (q : nI a2 = -1) => absurd q ha) (fun _ => ?_)
      exact And.intro (by omega) (h2 nd a2 t2 e h)
    · rw [if_neg h]
      refine x_tclear ?_
      refine And.intro (fun q => absurd rfl q) (fun _ => ?_)
      have hlt := lay_lt (z := z) (s := s) e (by omega)
      have h3' := h3 nd a2 t2 e h
      have h4' := h4 nd a2 t2 (dI z (dEx z t2 11 0 (some 0) (dZ s)) 19) e h
      have h5' := h5 nd a2 t2 (dI z (dEx z t2 11 0 (some 0) (dZ s)) 19) e h
      refine m_lay (l := l + 119) (by omega) hz g2 hF hlt ?_
      generalize dU (dEx z t2 11 0 (some 0) (dZ s)) = u at *
      generalize dI z (dEx z t2 11 0 (some 0) (dZ s)) 19 = s2 at *
      refine And.intro (fun (q : u = -1) => ?_) (fun (q : ¬ u = -1) => ?_)
      · subst q
        refine e_cells ?_
        refine And.intro (fun (q : nI (cn (dC s2)) ≤ nI z) => ?_) (fun (q : ¬ nI (cn (dC s2)) ≤ nI z) => ?_)
        · have q2 := (nI_leI (by omega) (by omega)).mp q
          refine M_load hz q2 ?_
          refine e_cells ?_
          exact h5' rfl rfl q2
        · have q2 : z < cn (dC s2) := Nat.lt_of_not_le (fun w => q (nI_le w (by omega)))
          exact And.intro (by omega) (h4' rfl rfl q2)
      · exact And.intro (by omega) (h3' q)
theorem okA_cp {z k : Nat} {A B : Nat → Vl} (hA : okA z A) (hB : okA z B) : okA z (cpV A B k) := fun i hi => by
  unfold cpV
  split
  · exact hA i hi
  · exact hB i hi
theorem txOK_0 {X : Nat → Int32} : txOK X 0 (fun _ => 0) := ⟨by decide, fun i hi => absurd hi (Nat.not_lt_zero i), fun _ _ => rfl⟩
theorem lay_F {z : Nat} {t : tS} {s : cD_} (ht : tOK t) (hF : ∀ i j, dF s i = some j → j < 1000) (hO : OC z s) : (∀ i j, dF (dI z (dEx z t 11 0 (some 0) (dZ s)) 19) i = some j → j < 1000) ∧ OC z (dI z (dEx z t 11 0 (some 0) (dZ s)) 19) := by
  have h0 : sOK (dZ s) := ⟨Nat.zero_le _, fun k e => (by cases e), hF⟩
  have h1 := s_Ex (z := z) ht 11 0 (some 0) (dZ s) (fun i e => by cases e; decide) h0
  have h2 := s_I (z := z) (x := 19) h1.1
  exact ⟨h2.1.2.2, oc_I (oc_Ex ht 11 0 (some 0) (dZ s) hO)⟩
theorem C_run {W : List mj_O} {x : Int32} (h : CI err z len tx mode c tl W) (hb0 : 1 ≤ b0) (hb1 : 6 ≤ b1) (hb2 : mode = 1 → 200 ≤ b0 ∧ 20000 ≤ b1)
    (h1 : ∀ b0' b1', b0 ≤ b0' + 1 → b1 ≤ b1' + 6 → Q (.inr 0, (W, b0', b1', false)))
    (h2 : ∀ y mode' W' b0' b1' op', CI err z len tx mode' c tl W' → (b0' = b0 ∧ b1' = b1 ∧ (mode = 1 ∨ mode' = mode)) ∨ (¬ mode' = 1 ∧ mode = 1 ∧ b0 ≤ b0' + 140 ∧ b1 ≤ b1' + 19740) → Q (.inl (some (.int y)), (W', b0', b1', op'))) :
    mj_Mt gT (law_cst xs) gnw (m + 13) y_P_run [.ref 0, .int x] (W, b0, b1, op) Q := by
  obtain ⟨b0, rfl⟩ : ∃ b, b0 = b + 1 := ⟨b0 - 1, by omega⟩
  intro J hJ
  refine hJ _ _ _ _ ?_
  refine And.intro (fun (q : x < 0) => ?_) (fun (q : ¬ x < 0) => ?_)
  · exact And.intro hb1 (h1 b0 (b1 - 6) (by omega) (by omega))
  · refine And.intro (fun (q2 : x ≤ 200) => ?_) (fun (q2 : ¬ x ≤ 200) => ?_)
    · have loop : ∀ (j : Nat) (i : Int32) (mode' : Int32) (W' : List mj_O) (b0' b1' : Nat) (op' : Bool), CI err z len tx mode' c tl W' → (i.toInt + j = 201 ∧ 0 ≤ i.toInt) → ((b0' = b0 + 1 ∧ b1' = b1 ∧ (mode = 1 ∨ mode' = mode)) ∨ (¬ mode' = 1 ∧ mode = 1 ∧ b0 + 1 ≤ b0' + 140 ∧ b1 ≤ b1' + 19740)) → J 8 [some (.ref 0), some (.int x), some (.int i)] [] (W', b0', b1', op') := by
        intro j
        induction j with
        | zero =>
          intro i mode' W' b0' b1' op' hI hi hm
          refine hJ _ _ _ _ ?_
          refine And.intro (fun _ => ?_) (fun (w : ¬ x ≤ i) => absurd (show x ≤ i from Int32.le_iff_toInt_le.mpr (by have := Int32.le_iff_toInt_le.mp q2; have e : (200 : Int32).toInt = 200 := by decide
                                                                                                                     omega)) w)
          exact h2 _ mode' W' b0' b1' op' hI hm
        | succ j ih =>
          intro i mode' W' b0' b1' op' hI hi hm
          refine hJ _ _ _ _ ?_
          refine And.intro (fun _ => ?_) (fun (w : ¬ x ≤ i) => ?_)
          · exact h2 _ mode' W' b0' b1' op' hI hm
          · have hI0 := hI
            obtain ⟨t, X, a, s, S, E, C, D, colls, taken, steps, H, T, fr, g, f, k, n, fb, R, rfl, hz, ht, hx, hF, hO, hM, hfr, hf, hc, hd⟩ := hI
            refine M_mode ?_
            refine And.intro (fun (w2 : ¬ mode' = 1) => ?_) (fun (w2 : mode' = 1) => ?_)
            · exact h2 _ mode' _ b0' b1' op' hI0 hm
            · subst w2
              obtain ⟨e1, e2, e3⟩ : b0' = b0 + 1 ∧ b1' = b1 ∧ mode = 1 := by
                rcases hm with ⟨p1, p2, p3⟩ | ⟨p1, -⟩
                · exact ⟨p1, p2, p3.elim id Eq.symm⟩
                · exact absurd rfl p1
              subst e1 e2 e3
              obtain ⟨r1, r2⟩ := hb2 rfl
              refine k_stepW hz hM hfr hf hd r1 r2 hc (fun S' E' C' D' mode' colls' taken' H' T' fr' g' f' k' n' fb' R' b0' b1' op' v1 v2 v3 v4 v5 => ?_)
              have hi1 : (i + 1).toInt = i.toInt + 1 := by
                rw [Int32.toInt_add]
                have e : (1 : Int32).toInt = 1 := by decide
                rw [e]
                exact Int.bmod_eq_of_le (by omega) (by omega)
              refine ih (i + 1) mode' _ b0' b1' op' ⟨t, X, a, s, S', E', C', D', colls', taken', steps + 1, H', T', fr', g', f', k', n', fb', R', rfl, hz, ht, hx, hF, hO, v1, v2, v3, hc, v4⟩ ⟨by omega, by omega⟩ ?_
              rcases v5 with ⟨w1, w2, w3⟩ | ⟨w1, w2, w3⟩ | ⟨w1, w2, w3⟩
              · exact Or.inl ⟨w1, w2, Or.inl rfl⟩
              · subst w1
                exact Or.inr ⟨by decide, rfl, w2, w3⟩
              · subst w1
                exact Or.inr ⟨by decide, rfl, w2, w3⟩
      refine loop 201 0 mode W (b0 + 1) b1 op h ⟨by decide, by decide⟩ (Or.inl ⟨rfl, rfl, Or.inr rfl⟩)
    · exact And.intro hb1 (h1 b0 (b1 - 6) (by omega) (by omega))
theorem C_count {W : List mj_O} {x : Int32} (h : CI err z len tx mode c tl W) (hQ : ∀ y W', CI err z len tx mode c tl W' → Q (.inl (some (.int y)), (W', b0, b1, op))) : mj_Mt gT (law_cst xs) gnw (m + 6) y_P_count [.ref 0, .int x] (W, b0, b1, op) Q := by
  have hI0 := h
  obtain ⟨t, X, a, s, S, E, C, D, colls, taken, steps, H, T, fr, g, f, k, n, fb, R, rfl, hz, ht, hx, hF, hO, hM, hfr, hf, hc, hd⟩ := h
  have key : ∀ y, Q (.inl (some (.int y)), (WC z err t X len a s S E C D mode colls taken steps H T fr g f c k n fb R tl, b0, b1, op)) := fun y => hQ y _ hI0
  obtain ⟨hA, hB, hS, hE, hC, hD⟩ := hM
  intro J hJ
  refine hJ _ _ _ _ ?_
  refine And.intro (fun w => ?_) (fun g0 => And.intro (fun w => ?_) (fun g1 => And.intro (fun w => ?_) (fun g2 => And.intro (fun w => ?_) (fun g3 => And.intro (fun w => ?_) (fun g4 => And.intro (fun w => ?_) (fun g5 => And.intro (fun w => ?_) (fun g6 => ?_)))))))
  · intro J1 hJ1
    refine hJ1 _ _ _ _ ?_
    intro J2 hJ2
    refine hJ2 _ _ _ _ ?_
    exact key _
  · intro J1 hJ1
    refine hJ1 _ _ _ _ ?_
    refine s_mark hz hc hA hB hS hE hC hD ?_
    exact hQ _ _ ⟨t, X, a, s, S, E, C, D, colls, taken, steps, H, T, fr, mrk z H T S E C D (if c = 0 then vNil else vPr 0) g, f, k, n, fb, R, rfl, hz, ht, hx, hF, hO, ⟨hA, hB, hS, hE, hC, hD⟩, hfr, hf, hc, hd⟩
  · intro J1 hJ1
    refine hJ1 _ _ _ _ ?_
    exact key _
  · intro J1 hJ1
    refine hJ1 _ _ _ _ ?_
    exact key _
  · intro J1 hJ1
    refine hJ1 _ _ _ _ ?_
    exact key _
  · intro J1 hJ1
    refine hJ1 _ _ _ _ ?_
    refine s_length hz hB hS ?_
    exact key _
  · intro J1 hJ1
    refine hJ1 _ _ _ _ ?_
    refine s_length hz hB hD ?_
    exact key _
  · exact key _
theorem fillU_at (z : Nat) : ∀ (j k : Nat) (f : Nat → Int32), (∀ i, i < k → f i = nI i) → (∀ i, k ≤ i → f i = 0) → ∀ i, fillU f k j i = nI (if i < k + j then i else 0)
  | 0, k, f, h1, h2, i => by
    show f i = _
    by_cases h : i < k + 0
    · rw [if_pos h, h1 i h]
    · rw [if_neg h, h2 i (by omega)]
      rfl
  | j + 1, k, f, h1, h2, i => by
    have := fillU_at z j (k + 1) (upd f k (nI k)) (fun i hi => by
      unfold upd
      split
      · next e => rw [e]
      · exact h1 i (by omega)) (fun i hi => by
      unfold upd
      rw [if_neg (by omega)]
      exact h2 i (by omega)) i
    rw [show k + 1 + j = k + (j + 1) by omega] at this
    exact this
end P2q
end
section
abbrev Sk : Type := List Bool
abbrev En : Type := Unit ⊕ Unit ⊕ (Sk × Nat)
abbrev eStop : En := .inl ()
abbrev eRet : En := .inr (.inl ())
abbrev eJoin (k : Sk) (n : Nat) : En := .inr (.inr (k, n))
def lsN (T : Nat → Vl) : Nat → Vl → Prop
  | 0, v => v = vNil
  | m + 1, v => ∃ a, v = vPr a ∧ lsN T m (T a)
def lst (T : Nat → Vl) (v : Vl) : Prop := ∃ m, lsN T m v
def wt (H T : Nat → Vl) (ro : Nat → Bool) : Nat → Vl → Sk → Nat → Bool → En → Prop
  | 0, _, _, _, _, _ => False
  | f + 1, v, k, n, b, e => ∃ c i, v = vPr c ∧ ro c = false ∧ H c = vInt i ∧ (
      (i = 1 ∧ ∃ d t, T c = vPr d ∧ ro d = false ∧ (t = true → H d = vNil) ∧ wt H T ro f (T d) (t :: k) n false e)
    ∨ (i = 2 ∧ ∃ d x, T c = vPr d ∧ ro d = false ∧ (x < 10000 ∧ H d = vInt (nI x)) ∧ wt H T ro f (T d) (false :: k) n false e)
    ∨ (i = 3 ∧ ∃ d, T c = vPr d ∧ ro d = false ∧ wt H T ro f (H d) [] 1 false eRet ∧ wt H T ro f (T d) (false :: k) n (decide (0 < n)) e)
    ∨ (i = 4 ∧ ∃ x k', k = x :: true :: k' ∧ wt H T ro f (T c) (false :: k') n false e)
    ∨ (i = 5 ∧ ∃ x k', k = x :: k' ∧ e = eRet)
    ∨ (i = 6 ∧ wt H T ro f (T c) k (n + 1) false e)
    ∨ (i = 7 ∧ ∃ x k', k = x :: true :: k' ∧ 1 ≤ n ∧ b = true ∧ wt H T ro f (T c) (false :: k') (n - 1) false e)
    ∨ (i = 8 ∧ ∃ x k' d q, k = x :: k' ∧ T c = vPr d ∧ ro d = false ∧ T d = vPr q ∧ ro q = false ∧ wt H T ro f (H d) k' n false (eJoin (false :: k') n) ∧ wt H T ro f (H q) k' n false (eJoin (false :: k') n) ∧ wt H T ro f (T q) (false :: k') n false e)
    ∨ (i = 9 ∧ e = eJoin k n)
    ∨ ((i = 10 ∨ i = 11 ∨ i = 12) ∧ ∃ x k', k = x :: k' ∧ wt H T ro f (T c) (false :: k') n false e)
    ∨ ((i = 13 ∨ i = 14 ∨ i = 15 ∨ i = 16 ∨ i = 17 ∨ i = 18) ∧ ∃ x y t k', k = x :: y :: k' ∧ (t = true → i = 13 ∧ y = true) ∧ wt H T ro f (T c) (t :: k') n false e)
    ∨ (i = 19 ∧ ∃ x k', k = x :: k' ∧ e = eStop))
def inU (U : Nat → Prop) (v : Vl) : Prop := ∀ a, ceV v = some a → U a
def isE (ro : Nat → Bool) (v : Vl) : Prop := v = vNil ∨ ∃ b, v = vPr b ∧ ro b = true
def stk (H T : Nat → Vl) (ro : Nat → Bool) : Sk → Vl → Prop
  | [], v => v = vNil
  | x :: k, v => ∃ a, v = vPr a ∧ ro a = false ∧ (x = true → lst T (H a)) ∧ stk H T ro k (T a)
def env (T : Nat → Vl) (ro : Nat → Bool) : Nat → Vl → Prop
  | 0, v => isE ro v
  | n + 1, v => ∃ a, v = vPr a ∧ ro a = true ∧ env T ro n (T a)
def wtx (H T : Nat → Vl) (ro : Nat → Bool) (v : Vl) (k : Sk) (n : Nat) (b : Bool) (e : En) : Prop := ∃ f, wt H T ro f v k n b e
def dmp (H T : Nat → Vl) (ro : Nat → Bool) : Nat → Vl → En → Prop
  | 0, v, e => e = eStop ∧ v = vNil
  | f + 1, v, e =>
      (e = eRet ∧ ∃ a b c k n e', v = vPr a ∧ ro a = false ∧ stk H T ro k (H a) ∧ T a = vPr b ∧ ro b = false ∧ env T ro n (H b) ∧ T b = vPr c ∧ ro c = false ∧ wtx H T ro (H c) (false :: k) n false e' ∧ dmp H T ro f (T c) e')
    ∨ (∃ k n a e', e = eJoin k n ∧ v = vPr a ∧ ro a = false ∧ wtx H T ro (H a) k n false e' ∧ dmp H T ro f (T a) e')
def gF (H T : Nat → Vl) (ro : Nat → Bool) (v : Vl) : Prop := ∀ f, v = vFn f → ro f = false ∧ wtx H T ro (H f) [] 1 false eRet ∧ isE ro (T f)
def SI (H T : Nat → Vl) (ro : Nat → Bool) (U : Nat → Prop) : Prop := ∀ a, U a → (inU U (H a) ∧ inU U (T a)) ∧ (gF H T ro (H a) ∧ gF H T ro (T a)) ∧ (ro a = true → isE ro (T a) ∧ lst T (H a))
def Ext (U : Nat → Prop) (H T : Nat → Vl) (ro : Nat → Bool) (H' T' : Nat → Vl) (ro' : Nat → Bool) : Prop := ∀ a, U a → T' a = T a ∧ ro' a = ro a ∧ (ro a = false → H' a = H a)
section TY
variable {H T H' T' : Nat → Vl} {ro ro' : Nat → Bool} {U U' : Nat → Prop}
theorem inU_pr {a : Nat} (h : inU U (vPr a)) : U a := h a rfl
theorem inU_fn {a : Nat} (h : inU U (vFn a)) : U a := h a rfl
theorem pr_inU {a : Nat} (h : U a) : inU U (vPr a) := fun b e => by cases e; exact h
theorem fn_inU {a : Nat} (h : U a) : inU U (vFn a) := fun b e => by cases e; exact h
theorem nil_inU : inU U vNil := fun b e => by cases e
theorem int_inU {x : Int32} : inU U (vInt x) := fun b e => by cases e
theorem SI_h (h : SI H T ro U) {a : Nat} (ha : U a) : inU U (H a) := (h a ha).1.1
theorem SI_t (h : SI H T ro U) {a : Nat} (ha : U a) : inU U (T a) := (h a ha).1.2
theorem SI_tp (h : SI H T ro U) {a b : Nat} (ha : U a) (e : T a = vPr b) : U b := by
  have := SI_t h ha
  rw [e] at this
  exact inU_pr this
theorem wt_mono : ∀ (f : Nat) (v : Vl) (k : Sk) (n : Nat) (b : Bool) (e : En), wt H T ro f v k n b e → wt H T ro (f + 1) v k n b e
  | 0, v, k, n, b, e, h => absurd h id
  | f + 1, v, k, n, b, e, h => by
    obtain ⟨c, i, h1, h2, h3, h⟩ := h
    refine ⟨c, i, h1, h2, h3, ?_⟩
    rcases h with ⟨e1, d, t, a1, a2, a0, a3⟩ | ⟨e1, d, x, a1, a2, a3, a4⟩ | ⟨e1, d, a1, a2, a3, a4⟩ | ⟨e1, x, k', a1, a2⟩ | ⟨e1, a1⟩ | ⟨e1, a1⟩ | ⟨e1, x, k', a1, a2, a3, a4⟩ | ⟨e1, x, k', d, q, a1, a2, a3, a4, a5, a6, a7, a8⟩ | ⟨e1, a1⟩ | ⟨e1, x, k', a1, a2⟩ | ⟨e1, x, y, t, k', a1, a0, a2⟩ | ⟨e1, a1⟩
    · exact Or.inl ⟨e1, d, t, a1, a2, a0, wt_mono f _ _ _ _ _ a3⟩
    · exact Or.inr (Or.inl ⟨e1, d, x, a1, a2, a3, wt_mono f _ _ _ _ _ a4⟩)
    · exact Or.inr (Or.inr (Or.inl ⟨e1, d, a1, a2, wt_mono f _ _ _ _ _ a3, wt_mono f _ _ _ _ _ a4⟩))
    · exact Or.inr (Or.inr (Or.inr (Or.inl ⟨e1, x, k', a1, wt_mono f _ _ _ _ _ a2⟩)))
    · exact Or.inr (Or.inr (Or.inr (Or.inr (Or.inl ⟨e1, a1⟩))))
    · exact Or.inr (Or.inr (Or.inr (Or.inr (Or.inr (Or.inl ⟨e1, wt_mono f _ _ _ _ _ a1⟩)))))
    · exact Or.inr (Or.inr (Or.inr (Or.inr (Or.inr (Or.inr (Or.inl ⟨e1, x, k', a1, a2, a3, wt_mono f _ _ _ _ _ a4⟩))))))
    · exact Or.inr (Or.inr (Or.inr (Or.inr (Or.inr (Or.inr (Or.inr (Or.inl ⟨e1, x, k', d, q, a1, a2, a3, a4, a5, wt_mono f _ _ _ _ _ a6, wt_mono f _ _ _ _ _ a7, wt_mono f _ _ _ _ _ a8⟩)))))))
    · exact Or.inr (Or.inr (Or.inr (Or.inr (Or.inr (Or.inr (Or.inr (Or.inr (Or.inl ⟨e1, a1⟩))))))))
    · exact Or.inr (Or.inr (Or.inr (Or.inr (Or.inr (Or.inr (Or.inr (Or.inr (Or.inr (Or.inl ⟨e1, x, k', a1, wt_mono f _ _ _ _ _ a2⟩)))))))))
    · exact Or.inr (Or.inr (Or.inr (Or.inr (Or.inr (Or.inr (Or.inr (Or.inr (Or.inr (Or.inr (Or.inl ⟨e1, x, y, t, k', a1, a0, wt_mono f _ _ _ _ _ a2⟩))))))))))
    · exact Or.inr (Or.inr (Or.inr (Or.inr (Or.inr (Or.inr (Or.inr (Or.inr (Or.inr (Or.inr (Or.inr ⟨e1, a1⟩))))))))))
theorem wt_b (f : Nat) (v : Vl) (k : Sk) (n : Nat) (b : Bool) (e : En) (h : wt H T ro f v k n false e) : wt H T ro f v k n b e := by
  cases f with
  | zero => exact absurd h id
  | succ f =>
    obtain ⟨c, i, h1, h2, h3, h⟩ := h
    refine ⟨c, i, h1, h2, h3, ?_⟩
    rcases h with q | q | q | q | q | q | ⟨e1, x, k', a1, a2, a3, a4⟩ | q
    · exact Or.inl q
    · exact Or.inr (Or.inl q)
    · exact Or.inr (Or.inr (Or.inl q))
    · exact Or.inr (Or.inr (Or.inr (Or.inl q)))
    · exact Or.inr (Or.inr (Or.inr (Or.inr (Or.inl q))))
    · exact Or.inr (Or.inr (Or.inr (Or.inr (Or.inr (Or.inl q)))))
    · exact absurd a3 (by decide)
    · exact Or.inr (Or.inr (Or.inr (Or.inr (Or.inr (Or.inr (Or.inr q))))))
theorem wt_ext (hS : SI H T ro U) (hX : Ext U H T ro H' T' ro') : ∀ (f : Nat) (v : Vl) (k : Sk) (n : Nat) (b : Bool) (e : En), inU U v → wt H T ro f v k n b e → wt H' T' ro' f v k n b e
  | 0, v, k, n, b, e, _, h => absurd h id
  | f + 1, v, k, n, b, e, hv, h => by
    obtain ⟨c, i, h1, h2, h3, h⟩ := h
    subst h1
    have uc := inU_pr hv
    obtain ⟨x1, x2, x3⟩ := hX c uc
    have ut := SI_t hS uc
    have ih := wt_ext hS hX f
    refine ⟨c, i, rfl, x2.trans h2, (x3 h2).trans h3, ?_⟩
    rw [x1]
    rcases h with ⟨e1, d, t, a1, a2, a0, a3⟩ | ⟨e1, d, x, a1, a2, a3, a4⟩ | ⟨e1, d, a1, a2, a3, a4⟩ | ⟨e1, x, k', a1, a2⟩ | ⟨e1, a1⟩ | ⟨e1, a1⟩ | ⟨e1, x, k', a1, a2, a3, a4⟩ | ⟨e1, x, k', d, q, a1, a2, a3, a4, a5, a6, a7, a8⟩ | ⟨e1, a1⟩ | ⟨e1, x, k', a1, a2⟩ | ⟨e1, x, y, t, k', a1, a0, a2⟩ | ⟨e1, a1⟩
    · have ud := SI_tp hS uc a1
      obtain ⟨y1, y2, y3⟩ := hX d ud
      exact Or.inl ⟨e1, d, t, a1, y2.trans a2, fun w => (y3 a2).trans (a0 w), by rw [y1]; exact ih _ _ _ _ _ (SI_t hS ud) a3⟩
    · have ud := SI_tp hS uc a1
      obtain ⟨y1, y2, y3⟩ := hX d ud
      exact Or.inr (Or.inl ⟨e1, d, x, a1, y2.trans a2, ⟨a3.1, (y3 a2).trans a3.2⟩, by rw [y1]; exact ih _ _ _ _ _ (SI_t hS ud) a4⟩)
    · have ud := SI_tp hS uc a1
      obtain ⟨y1, y2, y3⟩ := hX d ud
      exact Or.inr (Or.inr (Or.inl ⟨e1, d, a1, y2.trans a2, by rw [y3 a2]; exact ih _ _ _ _ _ (SI_h hS ud) a3, by rw [y1]; exact ih _ _ _ _ _ (SI_t hS ud) a4⟩))
    · exact Or.inr (Or.inr (Or.inr (Or.inl ⟨e1, x, k', a1, ih _ _ _ _ _ ut a2⟩)))
    · exact Or.inr (Or.inr (Or.inr (Or.inr (Or.inl ⟨e1, a1⟩))))
    · exact Or.inr (Or.inr (Or.inr (Or.inr (Or.inr (Or.inl ⟨e1, ih _ _ _ _ _ ut a1⟩)))))
    · exact Or.inr (Or.inr (Or.inr (Or.inr (Or.inr (Or.inr (Or.inl ⟨e1, x, k', a1, a2, a3, ih _ _ _ _ _ ut a4⟩))))))
    · have ud := SI_tp hS uc a2
      have uq := SI_tp hS ud a4
      obtain ⟨y1, y2, y3⟩ := hX d ud
      obtain ⟨z1, z2, z3⟩ := hX q uq
      exact Or.inr (Or.inr (Or.inr (Or.inr (Or.inr (Or.inr (Or.inr (Or.inl ⟨e1, x, k', d, q, a1, a2, y2.trans a3, y1.trans a4, z2.trans a5, by rw [y3 a3]; exact ih _ _ _ _ _ (SI_h hS ud) a6, by rw [z3 a5]; exact ih _ _ _ _ _ (SI_h hS uq) a7, by rw [z1]; exact ih _ _ _ _ _ (SI_t hS uq) a8⟩)))))))
    · exact Or.inr (Or.inr (Or.inr (Or.inr (Or.inr (Or.inr (Or.inr (Or.inr (Or.inl ⟨e1, a1⟩))))))))
    · exact Or.inr (Or.inr (Or.inr (Or.inr (Or.inr (Or.inr (Or.inr (Or.inr (Or.inr (Or.inl ⟨e1, x, k', a1, ih _ _ _ _ _ ut a2⟩)))))))))
    · exact Or.inr (Or.inr (Or.inr (Or.inr (Or.inr (Or.inr (Or.inr (Or.inr (Or.inr (Or.inr (Or.inl ⟨e1, x, y, t, k', a1, a0, ih _ _ _ _ _ ut a2⟩))))))))))
    · exact Or.inr (Or.inr (Or.inr (Or.inr (Or.inr (Or.inr (Or.inr (Or.inr (Or.inr (Or.inr (Or.inr ⟨e1, a1⟩))))))))))
theorem wtx_ext (hS : SI H T ro U) (hX : Ext U H T ro H' T' ro') {v : Vl} {k : Sk} {n : Nat} {b : Bool} {e : En} (hv : inU U v) (h : wtx H T ro v k n b e) : wtx H' T' ro' v k n b e := by
  obtain ⟨f, h⟩ := h
  exact ⟨f, wt_ext hS hX f _ _ _ _ _ hv h⟩
theorem lsN_ext (hS : SI H T ro U) (hX : Ext U H T ro H' T' ro') : ∀ (k : Nat) (v : Vl), inU U v → lsN T k v → lsN T' k v
  | 0, v, _, h => h
  | k + 1, v, hv, h => by
    obtain ⟨a, rfl, h⟩ := h
    have ua := inU_pr hv
    refine ⟨a, rfl, ?_⟩
    rw [(hX a ua).1]
    exact lsN_ext hS hX k _ (SI_t hS ua) h
theorem lst_ext (hS : SI H T ro U) (hX : Ext U H T ro H' T' ro') {v : Vl} (hv : inU U v) (h : lst T v) : lst T' v := by
  obtain ⟨k, h⟩ := h
  exact ⟨k, lsN_ext hS hX k v hv h⟩
theorem stk_ext (hS : SI H T ro U) (hX : Ext U H T ro H' T' ro') : ∀ (k : Sk) (v : Vl), inU U v → stk H T ro k v → stk H' T' ro' k v
  | [], v, _, h => h
  | x :: k, v, hv, h => by
    obtain ⟨a, rfl, h0, h1, h⟩ := h
    have ua := inU_pr hv
    obtain ⟨x1, x2, x3⟩ := hX a ua
    refine ⟨a, rfl, x2.trans h0, fun q => ?_, ?_⟩
    · rw [x3 h0]
      exact lst_ext hS hX (SI_h hS ua) (h1 q)
    · rw [x1]
      exact stk_ext hS hX k _ (SI_t hS ua) h
theorem isE_ext (hX : Ext U H T ro H' T' ro') {v : Vl} (hv : inU U v) (h : isE ro v) : isE ro' v := by
  rcases h with h | ⟨b, rfl, h⟩
  · exact Or.inl h
  · exact Or.inr ⟨b, rfl, (hX b (inU_pr hv)).2.1.trans h⟩
theorem env_ext (hS : SI H T ro U) (hX : Ext U H T ro H' T' ro') : ∀ (n : Nat) (v : Vl), inU U v → env T ro n v → env T' ro' n v
  | 0, v, hv, h => isE_ext hX hv h
  | n + 1, v, hv, h => by
    obtain ⟨a, rfl, h1, h⟩ := h
    have ua := inU_pr hv
    refine ⟨a, rfl, (hX a ua).2.1.trans h1, ?_⟩
    rw [(hX a ua).1]
    exact env_ext hS hX n _ (SI_t hS ua) h
theorem dmp_ext (hS : SI H T ro U) (hX : Ext U H T ro H' T' ro') : ∀ (f : Nat) (v : Vl) (e : En), inU U v → dmp H T ro f v e → dmp H' T' ro' f v e
  | 0, v, e, _, h => h
  | f + 1, v, e, hv, h => by
    rcases h with ⟨e1, a, b, c, k, n, e', rfl, a1, a2, a3, a4, a5, a6, a7, a8, a9⟩ | ⟨k, n, a, e', e1, rfl, a1, a2, a3⟩
    · have ua := inU_pr hv
      have ub := SI_tp hS ua a3
      have uc := SI_tp hS ub a6
      obtain ⟨x1, x2, x3⟩ := hX a ua
      obtain ⟨y1, y2, y3⟩ := hX b ub
      obtain ⟨z1, z2, z3⟩ := hX c uc
      refine Or.inl ⟨e1, a, b, c, k, n, e', rfl, x2.trans a1, ?_, x1.trans a3, y2.trans a4, ?_, y1.trans a6, z2.trans a7, ?_, ?_⟩
      · rw [x3 a1]
        exact stk_ext hS hX _ _ (SI_h hS ua) a2
      · rw [y3 a4]
        exact env_ext hS hX _ _ (SI_h hS ub) a5
      · rw [z3 a7]
        exact wtx_ext hS hX (SI_h hS uc) a8
      · rw [z1]
        exact dmp_ext hS hX f _ _ (SI_t hS uc) a9
    · have ua := inU_pr hv
      obtain ⟨x1, x2, x3⟩ := hX a ua
      refine Or.inr ⟨k, n, a, e', e1, rfl, x2.trans a1, ?_, ?_⟩
      · rw [x3 a1]
        exact wtx_ext hS hX (SI_h hS ua) a2
      · rw [x1]
        exact dmp_ext hS hX f _ _ (SI_t hS ua) a3
theorem gF_ext (hS : SI H T ro U) (hX : Ext U H T ro H' T' ro') {v : Vl} (hv : inU U v) (h : gF H T ro v) : gF H' T' ro' v := by
  intro f e
  subst e
  obtain ⟨h1, h2, h3⟩ := h f rfl
  have uf := inU_fn hv
  obtain ⟨x1, x2, x3⟩ := hX f uf
  refine ⟨x2.trans h1, ?_, ?_⟩
  · rw [x3 h1]
    exact wtx_ext hS hX (SI_h hS uf) h2
  · rw [x1]
    exact isE_ext hX (SI_t hS uf) h3
theorem inU_mono (h : ∀ a, U a → U' a) {v : Vl} (hv : inU U v) : inU U' v := fun a e => h a (hv a e)
def addU (U : Nat → Prop) (n : Nat) : Nat → Prop := fun a => U a ∨ a = n
theorem Ext_new {n : Nat} {h t : Vl} {b : Bool} (hn : ¬ U n) : Ext U H T ro (upW H n h) (upW T n t) (upW ro n b) := by
  intro a ha
  have hne : ¬ a = n := fun e => hn (e ▸ ha)
  unfold upW
  rw [if_neg hne, if_neg hne, if_neg hne]
  exact ⟨rfl, rfl, fun _ => rfl⟩
theorem SI_new {n : Nat} {h t : Vl} {b : Bool} (hS : SI H T ro U) (hn : ¬ U n) (uh : inU U h) (ut : inU U t) (gh : gF H T ro h) (gt : gF H T ro t) (hb : b = true → isE ro t ∧ lst T h) : SI (upW H n h) (upW T n t) (upW ro n b) (addU U n) := by
  have hX : Ext U H T ro (upW H n h) (upW T n t) (upW ro n b) := Ext_new hn
  have hm : ∀ a, U a → addU U n a := fun a => Or.inl
  intro a ha
  by_cases e : a = n
  · subst e
    have e1 : upW H a h a = h := if_pos rfl
    have e2 : upW T a t a = t := if_pos rfl
    have e3 : upW ro a b a = b := if_pos rfl
    rw [e1, e2, e3]
    exact ⟨⟨inU_mono hm uh, inU_mono hm ut⟩, ⟨gF_ext hS hX uh gh, gF_ext hS hX ut gt⟩, fun q => ⟨isE_ext hX ut (hb q).1, lst_ext hS hX uh (hb q).2⟩⟩
  · have ua : U a := ha.resolve_right e
    have e1 : upW H n h a = H a := if_neg e
    have e2 : upW T n t a = T a := if_neg e
    have e3 : upW ro n b a = ro a := if_neg e
    rw [e1, e2, e3]
    obtain ⟨⟨s1, s2⟩, ⟨s3, s4⟩, s5⟩ := hS a ua
    exact ⟨⟨inU_mono hm s1, inU_mono hm s2⟩, ⟨gF_ext hS hX s1 s3, gF_ext hS hX s2 s4⟩, fun q => ⟨isE_ext hX s2 (s5 q).1, lst_ext hS hX s1 (s5 q).2⟩⟩
theorem Ext_set {n : Nat} {h : Vl} (hr : ro n = true) : Ext U H T ro (upW H n h) T ro := by
  intro a ha
  refine ⟨rfl, rfl, fun q => ?_⟩
  unfold upW
  rw [if_neg]
  rintro rfl
  rw [hr] at q
  cases q
theorem SI_set {n : Nat} {h : Vl} (hS : SI H T ro U) (hr : ro n = true) (uh : inU U h) (gh : gF H T ro h) (lh : lst T h) : SI (upW H n h) T ro U := by
  have hX : Ext U H T ro (upW H n h) T ro := Ext_set hr
  intro a ua
  obtain ⟨⟨s1, s2⟩, ⟨s3, s4⟩, s5⟩ := hS a ua
  refine ⟨⟨?_, s2⟩, ⟨?_, gF_ext hS hX s2 s4⟩, fun q => ⟨(s5 q).1, ?_⟩⟩
  · unfold upW
    split
    · exact uh
    · exact s1
  · by_cases e : a = n
    · have e1 : upW H n h a = h := if_pos e
      rw [e1]
      exact gF_ext hS hX uh gh
    · have e1 : upW H n h a = H a := if_neg e
      rw [e1]
      exact gF_ext hS hX s1 s3
  · unfold upW
    split
    · exact lh
    · exact (s5 q).2
theorem SI_sub (hS : SI H T ro U) (hm : ∀ a, U' a → U a) (hc : ∀ a, U' a → inU U' (H a) ∧ inU U' (T a)) : SI H T ro U' := fun a ha => ⟨hc a ha, (hS a (hm a ha)).2⟩
theorem env_0 : ∀ {n : Nat} {v : Vl}, env T ro n v → isE ro v
  | 0, _, h => h
  | n + 1, _, ⟨a, e, h, _⟩ => Or.inr ⟨a, e, h⟩
theorem env_le : ∀ {n m : Nat} {v : Vl}, SI H T ro U → inU U v → m ≤ n → env T ro n v → env T ro m v
  | n, 0, v, _, _, _, h => env_0 h
  | 0, m + 1, v, _, _, hm, h => by omega
  | n + 1, m + 1, v, hS, hv, hm, ⟨a, e, h1, h2⟩ => ⟨a, e, h1, env_le hS (by subst e; exact SI_t hS (inU_pr hv)) (by omega) h2⟩
end TY
end
