theorem RMI_r0 (z : Nat) (h1 : 1 ≤ z) (h2 : z ≤ 250) : RMI (r0 z) := by
  have hU : ∀ a, ¬ Ur (r0 z) a := fun a h => h.2 rfl
  have hg : ∀ x : Int32, x = -1 → rg (r0 z) vNil x := fun x e => Or.inl ⟨rfl, e⟩
  refine ⟨⟨⟨fun _ => false, ?_⟩, ⟨0, by omega, rfl⟩⟩, Or.inl ⟨rfl, rfl, fun _ => vNil, fun _ => vNil, ⟨⟨h1, h2⟩, fun a h => absurd h (hU a), fun a _ => ⟨fun h => ?_, fun h => ?_⟩⟩, hg _ rfl, hg _ rfl, hg _ rfl, hg _ rfl, hg _ rfl⟩⟩
  · funext a
    rfl
  · exact absurd (show (0 : Int32) = 3 from h) (by decide)
  · exact absurd (show (0 : Int32) = 3 from h) (by decide)
theorem fillU_eN (z : Nat) : ∀ (n k : Nat) (fr : Nat → Nat), k + n ≤ z → (∀ j, j < z → fr j < z) → ∃ fr' : Nat → Nat, fillU (eN fr) k n = eN fr' ∧ ∀ j, j < z → fr' j < z
  | 0, k, fr, _, h => ⟨fr, rfl, h⟩
  | n + 1, k, fr, hk, h => by
    have hu : ∀ j, j < z → upW fr k k j < z := by
      intro j hj
      unfold upW
      split
      · omega
      · exact h j hj
    obtain ⟨fr', e, h'⟩ := fillU_eN z n (k + 1) (upW fr k k) (by omega) hu
    refine ⟨fr', ?_, h'⟩
    rw [← e, ← upd_nI]
    rfl
theorem CI_c0 (z : Nat) (h1 : 1 ≤ z) (h2 : z ≤ 250) (tl : List mj_O) : CI (-1) z 0 (fun _ => 0) 0 0 tl (cW (c0 z) tl) := by
  obtain ⟨fr, e, hfr⟩ := fillU_eN z z 0 (fun _ => 0) (by omega) (fun j _ => by omega)
  refine ⟨(0, z0, z0, z0, fun _ => some 0, fun _ => some 0, fun _ => some 0), z0, 0, ((fun _ => vNil, fun _ => vNil, 0, some 0, false), fun _ => some 0, 0, 0), vNil, vNil, vNil, vNil, 0, 0, 0, fun _ => vNil, fun _ => vNil, fr, (fun _ => false, fun _ => 0, 0), z, 0, 0, fun _ => 0, fun _ => vNil, ?_, h2, ?_, txOK_0, ?_, ?_, ?_, hfr, Nat.le_refl _, Nat.zero_le _, ?_⟩
  · have e2 : fillF z0 0 z = eN fr := e
    unfold c0
    rw [e2]
    rfl
  · refine ⟨Nat.zero_le _, fun i j q => ?_, ⟨fun i j q => ?_, fun i hi => absurd hi (Nat.not_lt_zero i)⟩, fun i j q => ?_⟩ <;> (cases q; decide)
  · intro i j q
    cases q
    decide
  · exact ⟨fun i _ => trivial, fun i _ => trivial⟩
  · exact ⟨fun i _ => trivial, fun i _ => trivial, trivial, trivial, trivial, trivial⟩
  · exact ⟨⟨[], rfl, Nat.zero_le _, fun i hi => absurd hi (Nat.not_lt_zero i)⟩, fun k _ => trivial⟩
def CX (err : Int32) (z len : Nat) (tx : Nat → Nat) (mode : Int32) (c : Nat) (s : cS) : Prop := ∀ tl, CI err z len tx mode c tl (cW s tl)
theorem CI_CX {err : Int32} {z len : Nat} {tx : Nat → Nat} {mode : Int32} {c : Nat} {tl W : List mj_O} (h : CI err z len tx mode c tl W) : ∃ s, W = cW s tl ∧ CX err z len tx mode c s := by
  obtain ⟨t, X, a, s, S, E, C, D, colls, taken, steps, H, T, fr, g, f, k, n, fb, R, e, h⟩ := h
  refine ⟨cSo z err t X len a s S E C D mode colls taken steps H T fr g f c k n fb R, e, fun tl' => ?_⟩
  exact ⟨t, X, a, s, S, E, C, D, colls, taken, steps, H, T, fr, g, f, k, n, fb, R, rfl, h⟩
theorem CX_c0 (z : Nat) (h1 : 1 ≤ z) (h2 : z ≤ 250) : CX (-1) z 0 (fun _ => 0) 0 0 (c0 z) := fun tl => CI_c0 z h1 h2 tl
