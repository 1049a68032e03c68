def sumTo (B : Nat → Nat) : Nat → Nat
  | 0 => 0
  | k + 1 => sumTo B k + B k
theorem sumTo_mono (B : Nat → Nat) : ∀ {i j : Nat}, i ≤ j → sumTo B i ≤ sumTo B j := by
  intro i j h
  induction j with
  | zero => rw [show i = 0 by omega]; exact Nat.le_refl _
  | succ j ih =>
    by_cases e : i = j + 1
    · rw [e]; exact Nat.le_refl _
    · have := ih (by omega)
      show sumTo B i ≤ sumTo B j + B j
      omega
theorem sumTo_le {B : Nat → Nat} {L : Nat} (h0 : ∀ i, L ≤ i → B i = 0) (m : Nat) : sumTo B m ≤ sumTo B L := by
  induction m with
  | zero => exact Nat.zero_le _
  | succ m ih =>
    by_cases e : L ≤ m
    · show sumTo B m + B m ≤ _
      rw [h0 m e]
      omega
    · exact sumTo_mono B (by omega)
theorem sumTo_at (B : Nat → Nat) (i : Nat) : B i ≤ sumTo B (i + 1) := Nat.le_add_left _ _
theorem sumTo_sh (B : Nat → Nat) : ∀ k, sumTo B (k + 1) = B 0 + sumTo (fun i => B (i + 1)) k
  | 0 => by show 0 + B 0 = B 0 + 0; omega
  | k + 1 => by
    have := sumTo_sh B k
    show sumTo B (k + 1) + B (k + 1) = B 0 + (sumTo (fun i => B (i + 1)) k + B (k + 1))
    omega
theorem segs_sum {P : Nat → Nat → Prop} : ∀ {cs : List Nat} {a e : Nat}, segs P a e cs → ∃ B : Nat → Nat, (∀ i c, cs[i]? = some c → ∃ b, c < b ∧ P c b ∧ 200 * (b - c) = B i) ∧ (∀ i, cs.length ≤ i → B i = 0) ∧ sumTo B cs.length ≤ 200 * (e - a)
  | [], a, e, h => ⟨fun _ => 0, fun i c h => (by cases h), fun _ _ => rfl, Nat.zero_le _⟩
  | c :: cs, a, e, ⟨h1, b, h2, h3, h4⟩ => by
    obtain ⟨B, g1, g2, g3⟩ := segs_sum h4
    have hle := segs_le h4
    refine ⟨fun i => match i with | 0 => 200 * (b - c) | i + 1 => B i, fun i q hq => ?_, fun i hi => ?_, ?_⟩
    · cases i with
      | zero => cases hq; exact ⟨b, h2, h3, rfl⟩
      | succ i => exact g1 i q hq
    · cases i with
      | zero => cases hi
      | succ i => exact g2 i (Nat.le_of_succ_le_succ hi)
    · rw [List.length_cons, sumTo_sh]
      show 200 * (b - c) + sumTo B cs.length ≤ _
      omega
theorem tEn_in {t : tS} {g : Nat → Option Nat} {i : Nat} (h : i < tn t) : tEn t g (some i) = g i := if_pos h
theorem tEn_no {t : tS} {g : Nat → Option Nat} : tEn t g none = none := rfl
theorem tPt_no {t : tS} : ∀ k, tPt t k none = none
  | 0 => rfl
  | k + 1 => tPt_no k
theorem chain_pt {t : tS} : ∀ (cs : List Nat) (o : Option Nat) (k : Nat), (∀ c, c ∈ cs → c < tn t) → chain t o cs → tPt t k o = cs[k]?
  | [], o, k, _, h => by
    rw [show o = none from h, tPt_no]
    rfl
  | c :: cs, o, 0, _, ⟨h1, _⟩ => h1
  | c :: cs, o, k + 1, hc, ⟨h1, h2⟩ => by
    rw [h1]
    show tPt t k (tEn t (tN t) (some c)) = cs[k]?
    rw [tEn_in (hc c List.mem_cons_self)]
    exact chain_pt cs _ k (fun d hd => hc d (List.mem_cons_of_mem _ hd)) h2
section CO
variable {z : Nat} {t : tS} {s : cD_}
theorem cn_A {v : Vl} : cn (dC (dA z s v)) = cn (dC s) + 1 := (cAp_n z (dC s) v).1
theorem cn_I {x : Int32} : cn (dC (dI z s x)) = cn (dC s) + 1 := (cAp_n z (dC s) (vInt x)).1
theorem cn_B : cn (dC (dB z s)) = cn (dC s) + 1 := (cAp_n z (dC s) vNil).1
theorem cn_E {p : Nat} : cn (dC (dE s p)) = cn (dC s) := rfl
theorem cn_Lv : cn (dC (dLv s)) = cn (dC s) := rfl
theorem cn_En {o : Option Nat} : cn (dC (dEn s o)) = cn (dC s) := by
  unfold dEn
  split <;> rfl
theorem cn_No {p : Int32} : cn (dC (dNo s p)) = cn (dC s) := by
  unfold dNo
  split <;> rfl
theorem cn_Va {o : Option Nat} : cn (dC (dVa z t o s)) = cn (dC s) + 2 := by
  unfold dVa
  rw [cn_I, cn_I]
  split
  · rw [cn_No]
  · rfl
theorem dEx_no : ∀ (f d : Nat) (s : cD_), dEx z t f d none s = s
  | 0, d, s => rfl
  | f + 1, d, s => by
    unfold dEx
    split
    · rfl
    · simp [tEi]
def CP (z : Nat) (t : tS) (n e : Nat) : Prop := (∀ f d s, cn (dC (dEx z t f d (some n) s)) ≤ cn (dC s) + 200 * (e - n)) ∧ (∀ f d s, cn (dC (dDa z t f d (some n) s)) ≤ cn (dC s) + 200 * (e - n)) ∧ (∀ f d s, cn (dC (dEx z t f d (tEn t (tF t) (some n)) s)) ≤ cn (dC s) + 200 * (e - n))
theorem row_cost {f d : Nat} : ∀ (cs : List Nat) (a e k : Nat) (o : Option Nat) (s : cD_), (∀ c, c ∈ cs → c < tn t) → chain t o cs → segs (fun c b => WS t c b ∧ CP z t c b) a e cs → cn (dC (dRow t (dDa z t f d) k o s)) ≤ cn (dC s) + 200 * (e - a)
  | [], a, e, k, o, s, _, h, _ => by
    rw [show o = none from h]
    cases k <;> exact Nat.le_add_right _ _
  | c :: cs, a, e, 0, o, s, _, _, _ => Nat.le_add_right _ _
  | c :: cs, a, e, k + 1, o, s, hc, ⟨h1, h2⟩, ⟨h3, b, h4, ⟨_, h5⟩, h6⟩ => by
    subst h1
    subst h3
    have hle := segs_le h6
    show cn (dC (dRow t (dDa z t f d) k (tEn t (tN t) (some c)) (dDa z t f d (some c) s))) ≤ _
    rw [tEn_in (hc c List.mem_cons_self)]
    have g1 := row_cost (f := f) (d := d) cs b e k _ (dDa z t f d (some c) s) (fun q hq => hc q (List.mem_cons_of_mem _ hq)) h2 h6
    have g2 := h5.2.1 f d s
    omega
variable {go : Option Nat → cD_ → cD_} {o : Option Nat} {B : Nat → Nat}
theorem cn_Li {w : Option Nat} {x : Int32} {c : Nat} (h : ∀ s, cn (dC (go w s)) ≤ cn (dC s) + c) : cn (dC (dLi z go w x s)) ≤ cn (dC s) + c + 2 := by
  unfold dLi
  rw [cn_E, cn_I]
  have := h (dB z s)
  rw [cn_B] at this
  omega
theorem cn_Op13 {n : Nat} (hB : ∀ k s, cn (dC (go (dPt t k o) s)) ≤ cn (dC s) + B k) : ∀ (j i : Nat) (s : cD_), j + i = n → cn (dC (dOp t go o 13 n j i s)) ≤ cn (dC s) + sumTo B j
  | 0, i, s, _ => Nat.le_add_right _ _
  | j + 1, i, s, h => by
    have g1 := cn_Op13 (n := n) hB j (i + 1) (go (dPt t (n - 1 - i) o) s) (by omega)
    have g2 := hB (n - 1 - i) s
    have e : n - 1 - i = j := by omega
    rw [e] at g1 g2
    show cn (dC (dOp t go o 13 n j (i + 1) (go (dPt t (if (13 : Int32) = 13 then n - 1 - i else i) o) s))) ≤ cn (dC s) + (sumTo B j + B j)
    rw [if_pos rfl, e]
    omega
theorem cn_Opf {w : Int32} (hw : ¬ w = 13) {n : Nat} (hB : ∀ k s, cn (dC (go (dPt t k o) s)) ≤ cn (dC s) + B k) : ∀ (j i : Nat) (s : cD_), cn (dC (dOp t go o w n j i s)) + sumTo B i ≤ cn (dC s) + sumTo B (i + j)
  | 0, i, s => Nat.le_refl _
  | j + 1, i, s => by
    have g1 := cn_Opf hw (n := n) hB j (i + 1) (go (dPt t i o) s)
    have g2 := hB i s
    show cn (dC (dOp t go o w n j (i + 1) (go (dPt t (if w = 13 then n - 1 - i else i) o) s))) + sumTo B i ≤ _
    rw [if_neg hw]
    have e : sumTo B (i + 1) = sumTo B i + B i := rfl
    rw [e, show i + 1 + j = i + (j + 1) by omega] at g1
    omega
theorem cn_As {pick : Nat → Option Nat} (hB : ∀ k s, cn (dC (go (pick k) s)) ≤ cn (dC s) + B k) : ∀ (k : Nat) (s : cD_), cn (dC (dAs z go pick k s)) + B 0 ≤ cn (dC s) + sumTo B (k + 1) + k
  | 0, s => by show cn (dC s) + B 0 ≤ cn (dC s) + (0 + B 0) + 0; omega
  | k + 1, s => by
    have g1 := cn_As hB k (dAr z go (pick (k + 1)) s)
    have g2 := hB (k + 1) s
    have e : cn (dC (dAr z go (pick (k + 1)) s)) = cn (dC (go (pick (k + 1)) s)) + 1 := cn_I
    have e2 : sumTo B (k + 1 + 1) = sumTo B (k + 1) + B (k + 1) := rfl
    show cn (dC (dAs z go pick k (dAr z go (pick (k + 1)) s))) + B 0 ≤ _
    omega
theorem cn_BA : cn (dC (dBA z s)) = cn (dC s) + 2 := by
  unfold dBA
  rw [cn_A, cn_I]
theorem cn_Bo {w fl : Option Nat} {c : Nat} (h : ∀ s, cn (dC (go w s)) ≤ cn (dC s) + c) : cn (dC (dBo z go w fl s)) ≤ cn (dC s) + c + 3 := by
  unfold dBo
  rw [cn_Lv]
  have := cn_Li (z := z) (x := 5) (s := dEn (dI z s 3) fl) h
  rw [cn_En, cn_I] at this
  omega
end CO
theorem tCn_96 (t : tS) (o : Option Nat) : tCn t 96 o ≤ 96 := tCn_le t 96 o
theorem cost {z : Nat} {t : tS} {n e : Nat} (he : e ≤ tn t) (h : WS t n e) : CP z t n e := by
  refine WS_ind (P := fun n e => e ≤ tn t → CP z t n e) (fun n e cs h1 h2 h3 he => ?_) h he
  have hin := segs_in h3
  have hct : ∀ c, c ∈ cs → c < tn t := fun c hc => by have := (hin c hc).2; omega
  have h3 : segs (fun c b => WS t c b ∧ CP z t c b) (n + 1) e cs := by
    have go : ∀ (cs : List Nat) (a : Nat), segs (fun c b => WS t c b ∧ (b ≤ tn t → CP z t c b)) a e cs → segs (fun c b => WS t c b ∧ CP z t c b) a e cs := by
      intro cs
      induction cs with
      | nil => intro a h; exact h
      | cons c cs ih =>
        rintro a ⟨g1, b, g2, ⟨g3, g4⟩, g5⟩
        have := segs_le g5
        exact ⟨g1, b, g2, ⟨g3, g4 (by omega)⟩, ih b g5⟩
    exact go cs (n + 1) h3
  have hle := segs_le h3
  obtain ⟨B, b1, b2, b3⟩ := segs_sum h3
  have hp : ∀ k, dPt t k (some n) = cs[k]? := fun k => by
    unfold dPt
    rw [tEn_in (show n < tn t by omega)]
    exact chain_pt cs _ k hct h2
  have hS : ∀ m, sumTo B m ≤ 200 * (e - (n + 1)) := fun m => Nat.le_trans (sumTo_le b2 m) b3
  have hB : ∀ f d k s, cn (dC (dEx z t f d (dPt t k (some n)) s)) ≤ cn (dC s) + B k := by
    intro f d k s
    rw [hp]
    cases hk : cs[k]? with
    | none =>
      rw [dEx_no]
      exact Nat.le_add_right _ _
    | some c =>
      obtain ⟨b, q1, ⟨-, q2⟩, q3⟩ := b1 k c hk
      rw [← q3]
      exact q2.1 f d s
  have hB2 : ∀ f d k s, cn (dC (dEx z t f d (tEn t (tF t) (dPt t k (some n))) s)) ≤ cn (dC s) + B k := by
    intro f d k s
    rw [hp]
    cases hk : cs[k]? with
    | none =>
      rw [tEn_no, dEx_no]
      exact Nat.le_add_right _ _
    | some c =>
      obtain ⟨b, q1, ⟨-, q2⟩, q3⟩ := b1 k c hk
      rw [← q3]
      exact q2.2.2 f d s
  have hfirst : tEn t (tF t) (some n) = cs[0]? := hp 0
  have hda : ∀ f d s, cn (dC (dDa z t f d (some n) s)) ≤ cn (dC s) + 200 * (e - n) := by
    intro f d s
    cases f with
    | zero => exact Nat.le_add_right _ _
    | succ f =>
      unfold dDa
      split
      · exact Nat.le_add_right _ _
      · split
        · rw [cn_A]; omega
        · split
          · rw [cn_A]; omega
          · rw [cn_E]
            have := row_cost (z := z) (f := f) (d := d + 1) cs (n + 1) e 96 (tEn t (tF t) (some n)) (dB z s) hct (by rw [tEn_in (show n < tn t by omega)]; exact h2) h3
            rw [cn_B] at this
            omega
  have hdf : ∀ f d s, cn (dC (dDa z t f d (tEn t (tF t) (some n)) s)) ≤ cn (dC s) + 200 * (e - (n + 1)) + 1 := by
    intro f d s
    rw [hfirst]
    cases hk : cs[0]? with
    | none =>
      cases f with
      | zero => show cn (dC s) ≤ _; omega
      | succ f =>
        unfold dDa
        split
        · omega
        · rw [if_neg (show ¬ tEi t (tK t) none = 1 from show ¬ (-1 : Int32) = 1 by decide), if_neg (show ¬ tEi t (tK t) none = 2 from show ¬ (-1 : Int32) = 2 by decide), cn_E]
          show cn (dC (dB z s)) ≤ _
          rw [cn_B]
          omega
    | some c =>
      obtain ⟨b, q1, ⟨-, q2⟩, q3⟩ := b1 0 c hk
      have := q2.2.1 f d s
      have h9 := hS 1
      have : B 0 ≤ sumTo B 1 := sumTo_at B 0
      omega
  refine ⟨fun f d s => ?_, hda, fun f d s => ?_⟩
  · cases f with
    | zero => exact Nat.le_add_right _ _
    | succ f =>
      have s1 := hS 1
      have s2 := hS 2
      have s3 := hS 3
      have a0 : sumTo B 1 = B 0 := Nat.zero_add _
      have a1 : sumTo B 2 = sumTo B 1 + B 1 := rfl
      have a2 : sumTo B 3 = sumTo B 2 + B 2 := rfl
      have hc := tCn_96 t (tEn t (tF t) (some n))
      have sk := hS (tCn t 96 (tEn t (tF t) (some n)) - 1 + 1)
      have hAs : ∀ s, cn (dC (dBs z t (dEx z t f (d + 1)) (some n) s)) + B 0 ≤ cn (dC s) + 2 + 200 * (e - (n + 1)) + 96 := by
        intro s
        have := cn_As (z := z) (go := dEx z t f (d + 1)) (B := B) (pick := fun k => tEn t (tF t) (dPt t k (some n))) (fun k s => hB2 f (d + 1) k s) (tCn t 96 (tEn t (tF t) (some n)) - 1) (dBA z s)
        rw [cn_BA] at this
        unfold dBs
        omega
      unfold dEx
      split
      · exact Nat.le_add_right _ _
      · next h9 =>
        split
        · next hk =>
          show cn (dC (dDa z t (10 + 1) d (some n) (dI z s 1))) ≤ _
          rw [dDa, if_neg h9, if_pos hk, cn_A, cn_I]
          omega
        · split
          · rw [cn_Va]
            omega
          · split
            · have := hdf 11 d (dI z s 1)
              rw [cn_I] at this
              omega
            · split
              · unfold dOn
                split
                · unfold dCh
                  have g1 := hB f (d + 1) 0 s
                  have g2 := cn_Li (z := z) (x := 9) (s := dI z (dEx z t f (d + 1) (dPt t 0 (some n)) s) 8) (fun s => hB f (d + 1) 1 s)
                  have g3 := cn_Li (z := z) (x := 9) (s := dLi z (dEx z t f (d + 1)) (dPt t 1 (some n)) 9 (dI z (dEx z t f (d + 1) (dPt t 0 (some n)) s) 8)) (fun s => hB f (d + 1) 2 s)
                  rw [cn_I] at g2
                  omega
                · rw [cn_I]
                  by_cases h13 : tEi t (tV t) (some n) = 13
                  · rw [h13]
                    have := cn_Op13 (go := dEx z t f (d + 1)) (o := some n) (B := B) (n := tCn t 96 (tEn t (tF t) (some n))) (fun k s => hB f (d + 1) k s) (tCn t 96 (tEn t (tF t) (some n))) 0 s (Nat.add_zero _)
                    have := hS (tCn t 96 (tEn t (tF t) (some n)))
                    omega
                  · have := cn_Opf (go := dEx z t f (d + 1)) (o := some n) (B := B) h13 (n := tCn t 96 (tEn t (tF t) (some n))) (fun k s => hB f (d + 1) k s) (tCn t 96 (tEn t (tF t) (some n))) 0 s
                    have h8 := hS (0 + tCn t 96 (tEn t (tF t) (some n)))
                    have : sumTo B 0 = 0 := rfl
                    omega
              · split
                · have := cn_Bo (z := z) (fl := tEn t (tF t) (dPt t 0 (some n))) (s := s) (fun s => hB f (d + 1) 1 s)
                  omega
                · split
                  · unfold dBd
                    rw [cn_I]
                    have g1 := cn_Bo (z := z) (fl := dPt t 1 (some n)) (s := dBs z t (dEx z t f (d + 1)) (some n) s) (fun s => hB f (d + 1) 0 s)
                    have g2 := hAs s
                    omega
                  · split
                    · unfold dBf
                      rw [cn_I]
                      have g1 := cn_Bo (z := z) (fl := dPt t 1 (some n)) (s := dLv (dBs z t (dEx z t f (d + 1)) (some n) (dEn (dI z s 6) (dPt t 1 (some n))))) (fun s => hB f (d + 1) 0 s)
                      have g2 := hAs (dEn (dI z s 6) (dPt t 1 (some n)))
                      rw [cn_Lv] at g1
                      rw [cn_En, cn_I] at g2
                      omega
                    · split
                      · unfold dCa
                        rw [cn_I]
                        have g1 := cn_As (z := z) (go := dEx z t f (d + 1)) (B := B) (pick := fun k => dPt t k (some n)) (fun k s => hB f (d + 1) k s) (tCn t 96 (tEn t (tF t) (some n)) - 1) (dBA z s)
                        rw [cn_BA] at g1
                        have g2 := hB f (d + 1) 0 (dAs z (dEx z t f (d + 1)) (fun k => dPt t k (some n)) (tCn t 96 (tEn t (tF t) (some n)) - 1) (dBA z s))
                        omega
                      · exact Nat.le_add_right _ _
  · rw [hfirst]
    cases hk : cs[0]? with
    | none =>
      rw [dEx_no]
      exact Nat.le_add_right _ _
    | some c =>
      obtain ⟨b, q1, ⟨-, q2⟩, q3⟩ := b1 0 c hk
      have := q2.1 f d s
      have h9 := hS 1
      have : B 0 ≤ sumTo B 1 := sumTo_at B 0
      omega
theorem lay_lt {z : Nat} {tx : Nat → Nat} {t t2 : tS} {n a2 : Nat} {s : cD_} (h : pEx tx 10 0 0 (0, t.2) = .inl (n, a2, t2)) (h96 : tn t2 ≤ 96) : cn (dC (dI z (dEx z t2 11 0 (some 0) (dZ s)) 19)) < 2 ^ 30 := by
  have hw := w_ex (tx := tx) 10 0 0 (0, t.2)
  rw [h] at hw
  obtain ⟨-, w1, w2, -⟩ := hw
  have hc := (cost (z := z) (Nat.le_refl _) w1).1 11 0 (dZ s)
  rw [cn_I]
  have e : cn (dC (dZ s)) = 0 := rfl
  have : cn (dC (dEx z t2 11 0 (some 0) (dZ s))) ≤ cn (dC (dZ s)) + 200 * (tn t2 - 0) := hc
  omega
