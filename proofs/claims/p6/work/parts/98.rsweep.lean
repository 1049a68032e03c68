def swU (k : Nat) (u : Nat → Int32) (mk : Nat → Bool) : Nat → Int32 := fun i => if i < k then bI (mk i) else u i
theorem swU_0 (u : Nat → Int32) (mk : Nat → Bool) : swU 0 u mk = u := by
  funext i
  unfold swU
  rw [if_neg (by omega)]
theorem swU_at (k : Nat) (u : Nat → Int32) (mk : Nat → Bool) : swU k u mk k = u k := by
  unfold swU
  rw [if_neg (by omega)]
theorem swU_step (k : Nat) (u : Nat → Int32) (mk : Nat → Bool) : upd (swU k u mk) k (vp_nar .boolean (bI (mk k))) = swU (k + 1) u mk := by
  funext j
  have e : vp_nar .boolean (bI (mk k)) = bI (mk k) := by cases mk k <;> decide
  rw [e]
  show (if j = k then bI (mk k) else swU k u mk j) = swU (k + 1) u mk j
  unfold swU
  by_cases h : j = k
  · subst h
    rw [if_pos rfl, if_pos (by omega)]
  · rw [if_neg h]
    by_cases h2 : j < k
    · rw [if_pos h2, if_pos (by omega)]
    · rw [if_neg h2, if_neg (by omega)]
def swN (u : Nat → Int32) (mk : Nat → Bool) : Nat → Nat → Nat → Nat
  | 0, _, a => a
  | n + 1, k, a => swN u mk n (k + 1) (if ¬ u k = 0 ∧ mk k = false then a + 1 else a)
section P2i
variable {cst : Nat → Option (Nat × (Nat → Int32))} {m b0 b1 : Nat} {op : Bool} {tl : List mj_O} {Q : mj_R → Prop} {s : cS} {r : rM}
set_option maxRecDepth 10000
theorem r_sweepLoop {c : Nat} {mk : Nat → Bool} {J : Nat → mj_L → List Value → mj_H → Prop} (hc : c < 2 ^ 31) (hz : r.z ≤ 250) (hJ : ∀ pc ls st h, mj_sg (mj_Mt gT cst gnw m) cst gnw (mj_hd (mj_off kO_R_sweep) kH_R_sweep) kC_R_sweep J Q 400 true pc ls st h → J pc ls st h)
    (hQ : Q (.inl (some (.int (nI (swN r.used mk r.z 0 0)))), (cW s (rW ((r.s_used (swU r.z r.used mk)).s_marked (eB mk)) tl), b0, b1, op))) : ∀ (n k a : Nat), n + k = r.z → swN r.used mk n k a = swN r.used mk r.z 0 0 → J 7 [some (.ref 27), some (.int (nI c)), some (.int (nI a)), some (.int (nI k))] [] (cW s (rW ((r.s_used (swU k r.used mk)).s_marked (eB mk)) tl), b0, b1, op) := by
  intro n
  induction n with
  | zero =>
    intro k a hk e
    change a = _ at e
    rw [← e] at hQ
    have ek : k = r.z := by omega
    subst ek
    refine hJ _ _ _ _ ?_
    refine And.intro (fun _ => ?_) (fun (g : ¬ nI r.z ≤ nI r.z) => absurd (nI_le (by omega) (by omega)) g)
    exact And.intro (fun (g : nI c < 0) => absurd g (nI_pos hc)) (fun _ => hQ)
  | succ n ih =>
    intro k a hk e
    have e2 : swN r.used mk (n + 1) k a = swN r.used mk n (k + 1) (if ¬ r.used k = 0 ∧ mk k = false then a + 1 else a) := rfl
    rw [e2] at e
    have ek : (nI k).toNatClampNeg = k := nI_clamp (by omega)
    have hin : vp_in (nI k) 250 := vp_in_nI (by omega) (by decide)
    have fin : ∀ (i : Nat) (x y : Int32) (v : Int32), i = k → v = bI (mk k) → y = nI (k + 1) → x = nI (if ¬ r.used k = 0 ∧ mk k = false then a + 1 else a) → J 7 [some (.ref 27), some (.int (nI c)), some (.int x), some (.int y)] [] (cW s (rW ((r.s_used (upd (swU k r.used mk) i (vp_nar .boolean v))).s_marked (eB mk)) tl), b0, b1, op) := by
      rintro i x y v rfl rfl rfl rfl
      rw [swU_step]
      exact ih (i + 1) _ (by omega) e
    refine hJ _ _ _ _ ?_
    refine And.intro (fun (g : nI r.z ≤ nI k) => absurd g (nI_ge (by omega) (by omega))) (fun _ => ?_)
    refine And.intro hin ?_
    have eu : swU k r.used mk (nI k).toNatClampNeg = r.used k := by rw [ek]; exact swU_at k r.used mk
    refine And.intro (fun (g : swU k r.used mk (nI k).toNatClampNeg = 0) => ?_) (fun (g : ¬ swU k r.used mk (nI k).toNatClampNeg = 0) => ?_)
    · rw [eu] at g
      refine And.intro hin (And.intro hin ?_)
      exact fin _ _ _ _ ek (by rw [ek]; rfl) (nI_succ k).symm (by rw [if_neg (fun q => q.1 g)])
    · rw [eu] at g
      refine And.intro hin ?_
      refine And.intro (fun (g2 : ¬ bI (mk (nI k).toNatClampNeg) = 0) => ?_) (fun (g2 : bI (mk (nI k).toNatClampNeg) = 0) => ?_)
      · rw [ek] at g2
        have hm : ¬ mk k = false := fun h => g2 (by rw [h]; rfl)
        refine And.intro hin (And.intro hin ?_)
        exact fin _ _ _ _ ek (by rw [ek]; rfl) (nI_succ k).symm (by rw [if_neg (fun q => hm q.2)])
      · rw [ek] at g2
        have hm : mk k = false := by
          cases h : mk k with
          | false => rfl
          | true => rw [h] at g2; exact absurd g2 (by decide)
        refine And.intro hin (And.intro hin ?_)
        exact fin _ _ _ _ ek (by rw [ek]; rfl) (nI_succ k).symm (by rw [if_pos ⟨g, hm⟩]; exact (nI_succ a).symm)
end P2i
