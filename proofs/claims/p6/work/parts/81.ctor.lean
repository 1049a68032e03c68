section P1
variable {cst : Nat → Option (Nat × (Nat → Int32))} {m bc bs : Nat} {Q : mj_R → Prop}
abbrev z0 : Nat → Int32 := fun _ => 0
abbrev l0 : Nat → Int64 := fun _ => 0
set_option maxRecDepth 10000
theorem e96 : (Int32.ofInt 96).toNatClampNeg = 96 := by decide
theorem e9 : (Int32.ofInt 9).toNatClampNeg = 9 := by decide
theorem e120 : (Int32.ofInt 120).toNatClampNeg = 120 := by decide
theorem e16 : (Int32.ofInt 16).toNatClampNeg = 16 := by decide
theorem c_tree_init {o0 : mj_O} (hb : 576 ≤ bs) (hQ : ∀ b, bs ≤ b + 576 → Q (.inl none, ([o0, oF 2 [.ref 2, .ref 3, .ref 4, .ref 5, .ref 6, .ref 7, .int 0], oI 96 z0, oI 96 z0, oI 96 z0, oI 96 z0, oI 96 z0, oI 96 z0], bc, b, true))) :
    mj_Mt gT cst gnw (m + 1) y_Tree_init [.ref 1] ([o0, oF 2 fN2], bc + 6, bs, true) Q := by
  intro J hJ
  refine hJ _ _ _ _ ?_
  refine And.intro (Nat.le_of_ble_eq_true rfl) (And.intro (by decide) (And.intro (by rw [e96]; omega) (And.intro (by decide) ?_)))
  refine And.intro (Nat.le_of_ble_eq_true rfl) (And.intro (by decide) (And.intro (by rw [e96]; omega) (And.intro (by decide) ?_)))
  refine And.intro (Nat.le_of_ble_eq_true rfl) (And.intro (by decide) (And.intro (by rw [e96]; omega) (And.intro (by decide) ?_)))
  refine And.intro (Nat.le_of_ble_eq_true rfl) (And.intro (by decide) (And.intro (by rw [e96]; omega) (And.intro (by decide) ?_)))
  refine And.intro (Nat.le_of_ble_eq_true rfl) (And.intro (by decide) (And.intro (by rw [e96]; omega) (And.intro (by decide) ?_)))
  refine And.intro (Nat.le_of_ble_eq_true rfl) (And.intro (by decide) (And.intro (by rw [e96]; omega) (And.intro (by decide) ?_)))
  exact hQ _ (by rw [e96]; omega)
theorem c_text_init {o0 o1 o2 o3 o4 o5 o6 o7 : mj_O} (hb : 96 ≤ bs) (hQ : ∀ b, bs ≤ b + 96 → Q (.inl none, ([o0, o1, o2, o3, o4, o5, o6, o7, oF 1 [.ref 9, .int 0], oC 96 z0], bc, b, true))) :
    mj_Mt gT cst gnw (m + 1) y_Text_init [.ref 8] ([o0, o1, o2, o3, o4, o5, o6, o7, oF 1 fN1], bc + 1, bs, true) Q := by
  intro J hJ
  refine hJ _ _ _ _ ?_
  refine And.intro (Nat.le_of_ble_eq_true rfl) (And.intro (by decide) (And.intro (by rw [e96]; omega) (And.intro (by decide) ?_)))
  exact hQ _ (by rw [e96]; omega)
theorem c_reader_init {o0 o1 o2 o3 o4 o5 o6 o7 o8 o9 : mj_O}  (hQ : ∀ b, bs ≤ b + 0 → Q (.inl none, ([o0, o1, o2, o3, o4, o5, o6, o7, o8, o9, oF 3 [.ref 8, .ref 1, .int 0]], bc, b, true))) :
    mj_Mt gT cst gnw (m + 1) y_Reader_init [.ref 10, .ref 8, .ref 1] ([o0, o1, o2, o3, o4, o5, o6, o7, o8, o9, oF 3 fN3], bc + 0, bs, true) Q := by
  intro J hJ
  refine hJ _ _ _ _ ?_
  exact hQ _ (Nat.le_refl _)
theorem c_code_init {o0 o1 o2 o3 o4 o5 o6 o7 o8 o9 o10 : mj_O} {x : Int32} (hx : ¬ x < 0) (h5 : x.toNatClampNeg ≤ 250) (hb : 2 * x.toNatClampNeg ≤ bs) (hQ : ∀ b, bs ≤ b + 2 * x.toNatClampNeg → Q (.inl none, ([o0, o1, o2, o3, o4, o5, o6, o7, o8, o9, o10, oF 4 [.ref 12, .ref 13, .int 0, .int 0, .int 0], oJ x.toNatClampNeg l0, oJ x.toNatClampNeg l0], bc, b, true))) :
    mj_Mt gT cst gnw (m + 1) y_Code_init [.ref 11, .int x] ([o0, o1, o2, o3, o4, o5, o6, o7, o8, o9, o10, oF 4 fN4], bc + 2, bs, true) Q := by
  intro J hJ
  refine hJ _ _ _ _ ?_
  refine And.intro (Nat.le_of_ble_eq_true rfl) (And.intro hx (And.intro (by omega) (And.intro (by omega) ?_)))
  refine And.intro (Nat.le_of_ble_eq_true rfl) (And.intro hx (And.intro (by omega) (And.intro (by omega) ?_)))
  exact hQ _ (by omega)
theorem c_coder_init {o0 o1 o2 o3 o4 o5 o6 o7 o8 o9 o10 o11 o12 o13 : mj_O} (hb : 9 ≤ bs) (hQ : ∀ b, bs ≤ b + 9 → Q (.inl none, ([o0, o1, o2, o3, o4, o5, o6, o7, o8, o9, o10, o11, o12, o13, oF 5 [.ref 1, .ref 11, .ref 15, .int 0, .int 0], oI 9 z0], bc, b, true))) :
    mj_Mt gT cst gnw (m + 1) y_Coder_init [.ref 14, .ref 1, .ref 11] ([o0, o1, o2, o3, o4, o5, o6, o7, o8, o9, o10, o11, o12, o13, oF 5 fN5], bc + 1, bs, true) Q := by
  intro J hJ
  refine hJ _ _ _ _ ?_
  refine And.intro (Nat.le_of_ble_eq_true rfl) (And.intro (by decide) (And.intro (by rw [e9]; omega) (And.intro (by decide) ?_)))
  exact hQ _ (by rw [e9]; omega)
def fillU (f : Nat → Int32) : Nat → Nat → (Nat → Int32)
  | _, 0 => f
  | k, n + 1 => fillU (upd f k (nI k)) (k + 1) n
def fillF (f : Nat → Int32) (k z : Nat) : Nat → Int32 := fillU f k (z - k)
theorem fillF_step (f : Nat → Int32) {k z : Nat} (h : k < z) : fillF (upd f k (nI k)) (k + 1) z = fillF f k z := by
  unfold fillF
  rw [show z - k = (z - (k + 1)) + 1 by omega]
  rfl
theorem fillF_end (f : Nat → Int32) {k z : Nat} (h : ¬ k < z) : fillF f k z = f := by
  unfold fillF
  rw [show z - k = 0 by omega]
  rfl
set_option maxHeartbeats 2000000 in
theorem c_store_init {o0 o1 o2 o3 o4 o5 o6 o7 o8 o9 o10 o11 o12 o13 o14 o15 o16 : mj_O} {z : Nat} (h5 : z ≤ 250) (hb : 5 * z ≤ bs) (hQ : ∀ b, bs ≤ b + 5 * z → Q (.inl none, ([o0, o1, o2, o3, o4, o5, o6, o7, o8, o9, o10, o11, o12, o13, o14, o15, o16, oF 7 [.int (nI z), .ref 18, .ref 19, .ref 20, .ref 21, .ref 22, .int (nI z), .int 0, .int 0], oJ z l0, oJ z l0, oI z (fillF z0 0 z), oZ z z0, oI z z0], bc, b, true))) :
    mj_Mt gT cst gnw (m + 1) y_Store_init [.ref 17, .int (nI z)] ([o0, o1, o2, o3, o4, o5, o6, o7, o8, o9, o10, o11, o12, o13, o14, o15, o16, oF 7 fN7], bc + 5, bs, true) Q := by
  have hx : ¬ nI z < 0 := nI_pos (by omega)
  have ec : (nI z).toNatClampNeg = z := nI_clamp (by omega)
  intro J hJ
  have loop : ∀ (b : Nat), bs ≤ b + 5 * z → ∀ (n k : Nat) (f : Nat → Int32), n = z - k → k ≤ z → fillF f k z = fillF z0 0 z → J 27 [some (.ref 17), some (.int (nI z)), some (.int (nI k))] [] ([o0, o1, o2, o3, o4, o5, o6, o7, o8, o9, o10, o11, o12, o13, o14, o15, o16, oF 7 [.int (nI z), .ref 18, .ref 19, .ref 20, .ref 21, .ref 22, .int 0, .int 0, .int 0], oJ z l0, oJ z l0, oI z f, oZ z z0, oI z z0], bc, b, true) := by
    intro b hb2 n
    induction n with
    | zero =>
      intro k f hn hk hf
      refine hJ _ _ _ _ ?_
      refine And.intro (fun _ => ?_) (fun h => absurd (nI_le (by omega) (by omega)) h)
      have e : f = fillF z0 0 z := by rw [← hf, fillF_end f (by omega)]
      subst e
      exact hQ b hb2
    | succ n ih =>
      intro k f hn hk hf
      refine hJ _ _ _ _ ?_
      refine And.intro (fun h => absurd h (nI_ge (by omega) (by omega))) (fun _ => ?_)
      refine And.intro (vp_in_nI (by omega) (by omega)) ?_
      have key : ∀ (i : Nat) (x : Int32), i = k → x = nI (k + 1) → J 27 [some (.ref 17), some (.int (nI z)), some (.int x)] [] ([o0, o1, o2, o3, o4, o5, o6, o7, o8, o9, o10, o11, o12, o13, o14, o15, o16, oF 7 [.int (nI z), .ref 18, .ref 19, .ref 20, .ref 21, .ref 22, .int 0, .int 0, .int 0], oJ z l0, oJ z l0, oI z (upd f i (nI k)), oZ z z0, oI z z0], bc, b, true) := by
        rintro i x rfl rfl
        exact ih (i + 1) _ (by omega) (by omega) (by rw [fillF_step f (by omega)]; exact hf)
      exact key _ _ (nI_clamp (by omega)) (nI_succ k).symm
  have key : ∀ (a b0 b1 b2 b3 b4 : Nat), bs ≤ a + 5 * z → b0 = z → b1 = z → b2 = z → b3 = z → b4 = z → J 27 [some (.ref 17), some (.int (nI z)), some (.int 0)] [] ([o0, o1, o2, o3, o4, o5, o6, o7, o8, o9, o10, o11, o12, o13, o14, o15, o16, oF 7 [.int (nI z), .ref 18, .ref 19, .ref 20, .ref 21, .ref 22, .int 0, .int 0, .int 0], oJ b0 l0, oJ b1 l0, oI b2 z0, oZ b3 z0, oI b4 z0], bc, a, true) := by
    rintro a b0 b1 b2 b3 b4 hb2 rfl rfl rfl rfl rfl
    exact loop a hb2 _ 0 z0 rfl (by omega) rfl
  refine hJ _ _ _ _ ?_
  refine And.intro (Nat.le_of_ble_eq_true rfl) (And.intro hx (And.intro (by rw [ec]; omega) (And.intro (by rw [ec]; omega) ?_)))
  refine And.intro (Nat.le_of_ble_eq_true rfl) (And.intro hx (And.intro (by rw [ec]; omega) (And.intro (by rw [ec]; omega) ?_)))
  refine And.intro (Nat.le_of_ble_eq_true rfl) (And.intro hx (And.intro (by rw [ec]; omega) (And.intro (by rw [ec]; omega) ?_)))
  refine And.intro (Nat.le_of_ble_eq_true rfl) (And.intro hx (And.intro (by rw [ec]; omega) (And.intro (by rw [ec]; omega) ?_)))
  refine And.intro (Nat.le_of_ble_eq_true rfl) (And.intro hx (And.intro (by rw [ec]; omega) (And.intro (by rw [ec]; omega) ?_)))
  exact key _ _ _ _ _ _ (by rw [ec]; omega) ec ec ec ec ec
abbrev sbP : mj_O := oF 9 [.ref 25, .int 0, .int 0, .int 0]
abbrev sbR : mj_O := .inl (4, 16, .inl z0)
def sbO : mj_O := .inr (.inr (.inl (0, fun _ => 0)))
def sbB : mj_O := .inr (.inr (.inr ()))
theorem c_asb_init {o0 o1 o2 o3 o4 o5 o6 o7 o8 o9 o10 o11 o12 o13 o14 o15 o16 o17 o18 o19 o20 o21 o22 o23 : mj_O} (hb : 16 ≤ bs) (hQ : ∀ b, bs ≤ b + 16 → Q (.inl none, ([o0, o1, o2, o3, o4, o5, o6, o7, o8, o9, o10, o11, o12, o13, o14, o15, o16, o17, o18, o19, o20, o21, o22, o23, sbP, sbR], bc, b, true))) :
    mj_Mt gT cst gnw (m + 1) y_AbstractStringBuilder_init [.ref 24, .int 16] ([o0, o1, o2, o3, o4, o5, o6, o7, o8, o9, o10, o11, o12, o13, o14, o15, o16, o17, o18, o19, o20, o21, o22, o23, oF 9 fN9], bc + 1, bs, true) Q := by
  intro J hJ
  refine hJ _ _ _ _ ?_
  refine And.intro (fun h => absurd h (by decide)) (fun _ => ?_)
  refine And.intro (Nat.le_of_ble_eq_true rfl) (And.intro (by decide) (And.intro (by rw [show (16 : Int32).toNatClampNeg = 16 by decide]; omega) (And.intro (by decide) ?_)))
  refine And.intro (Or.inl rfl) ?_
  have key : ∀ (a b : Nat), a = 16 → bs ≤ b + 16 → Q (.inl none, ([o0, o1, o2, o3, o4, o5, o6, o7, o8, o9, o10, o11, o12, o13, o14, o15, o16, o17, o18, o19, o20, o21, o22, o23, sbP, .inl (4, a, .inl z0)], bc, b, true)) := by
    rintro a b rfl h
    exact hQ b h
  exact key _ _ (by decide) (by rw [show (16 : Int32).toNatClampNeg = 16 by decide]; omega)
theorem c_sb_init {o0 o1 o2 o3 o4 o5 o6 o7 o8 o9 o10 o11 o12 o13 o14 o15 o16 o17 o18 o19 o20 o21 o22 o23 : mj_O} (hb : 16 ≤ bs) (hQ : ∀ b, bs ≤ b + 16 → Q (.inl none, ([o0, o1, o2, o3, o4, o5, o6, o7, o8, o9, o10, o11, o12, o13, o14, o15, o16, o17, o18, o19, o20, o21, o22, o23, sbP, sbR], bc, b, true))) :
    mj_Mt gT cst gnw (m + 2) y_StringBuilder_init [.ref 24] ([o0, o1, o2, o3, o4, o5, o6, o7, o8, o9, o10, o11, o12, o13, o14, o15, o16, o17, o18, o19, o20, o21, o22, o23, oF 9 fN9], bc + 1, bs, true) Q := by
  intro J hJ
  refine hJ _ _ _ _ ?_
  exact c_asb_init hb hQ
theorem c_display_init {o0 o1 o2 o3 o4 o5 o6 o7 o8 o9 o10 o11 o12 o13 o14 o15 o16 o17 o18 o19 o20 o21 o22 : mj_O} (hb : 140 ≤ bs) (hQ : ∀ b, bs ≤ b + 140 → Q (.inl none, ([o0, o1, o2, o3, o4, o5, o6, o7, o8, o9, o10, o11, o12, o13, o14, o15, o16, o17, o18, o19, o20, o21, o22, oF 8 [.ref 17, .ref 24, .ref 26, .int 0], sbO, sbB, oJ 120 l0], bc, b, true))) :
    mj_Mt gT cst gnw (m + 3) y_Display_init [.ref 23, .ref 17] ([o0, o1, o2, o3, o4, o5, o6, o7, o8, o9, o10, o11, o12, o13, o14, o15, o16, o17, o18, o19, o20, o21, o22, oF 8 fN8], bc + 3, bs, true) Q := by
  intro J hJ
  refine hJ _ _ _ _ ?_
  refine And.intro (Nat.le_of_ble_eq_true rfl) (And.intro (show 4 ≤ bs by omega) ?_)
  refine c_sb_init (show 16 ≤ bs - 4 by omega) (fun b1 (h1 : bs - 4 ≤ b1 + 16) => ?_)
  refine Exists.intro 16 (Exists.intro z0 (Exists.intro 0 (And.intro rfl (And.intro rfl (And.intro (by decide) (And.intro sb_fit0 ?_))))))
  refine And.intro (Nat.le_of_ble_eq_true rfl) (And.intro (by decide) (And.intro (by rw [e120]; omega) (And.intro (by decide) ?_)))
  exact hQ _ (by rw [e120]; omega)
theorem c_machine_init {o0 o1 o2 o3 o4 o5 o6 o7 o8 o9 o10 o11 o12 o13 o14 o15 : mj_O} {z : Nat} (h5 : z ≤ 250) (hb : 153 + 5 * z ≤ bs) (hQ : ∀ b, bs ≤ b + (153 + 5 * z) → Q (.inl none, ([o0, o1, o2, o3, o4, o5, o6, o7, o8, o9, o10, o11, o12, o13, o14, o15, oF 6 [.ref 17, .ref 23, .long 0, .long 0, .long 0, .long 0, .int 0, .int 0, .int 0, .int 0], oF 7 [.int (nI z), .ref 18, .ref 19, .ref 20, .ref 21, .ref 22, .int (nI z), .int 0, .int 0], oJ z l0, oJ z l0, oI z (fillF z0 0 z), oZ z z0, oI z z0, oF 8 [.ref 17, .ref 24, .ref 26, .int 0], sbO, sbB, oJ 120 l0], bc, b, true))) :
    mj_Mt gT cst gnw (m + 4) y_Machine_init [.ref 16, .int (nI z)] ([o0, o1, o2, o3, o4, o5, o6, o7, o8, o9, o10, o11, o12, o13, o14, o15, oF 6 fN6], bc + 10, bs, true) Q := by
  intro J hJ
  refine hJ _ _ _ _ ?_
  refine And.intro (Nat.le_of_ble_eq_true rfl) (And.intro (show 9 ≤ bs by omega) ?_)
  refine c_store_init h5 (show 5 * z ≤ bs - 9 by omega) (fun b1 (h1 : bs - 9 ≤ b1 + 5 * z) => ?_)
  refine And.intro (Nat.le_of_ble_eq_true rfl) (And.intro (show 4 ≤ b1 by omega) ?_)
  refine c_display_init (show 140 ≤ b1 - 4 by omega) (fun b2 (h2 : b1 - 4 ≤ b2 + 140) => ?_)
  exact hQ _ (by omega)
end P1
