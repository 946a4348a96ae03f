/-! the law's call: every one of the thirty-two answers alike -/
theorem lc_ck {α : Type} {i : Int32} {n : Nat} {x : Option α} (h : vp_in i n) : ps_ck i n x = x := if_neg h
def lc_in (a4 : Int32) (L : Nat) : Prop := vp_in a4 L ∧ vp_in (a4 + 1) L ∧ vp_in (a4 + 2) L ∧ vp_in (a4 + 3) L ∧ vp_in (a4 + 4) L ∧ vp_in (a4 + 5) L
theorem lc_0 {xs : Nat → Int32} {L : Nat} {a4 : Int32} {σ : ps_S} (h : lc_in a4 L) (hb : b_R σ) : ∃ r, fL_c0 xs L a4 σ = some r ∧ b_R r := by
  obtain ⟨-, h1, h2, h3, h4, h5⟩ := h
  obtain ⟨r, τ, υ, e1, e2, h9⟩ := op_feed (xs (Int32.toNatClampNeg (a4 + (1 : Int32)))) (xs (Int32.toNatClampNeg (a4 + (2 : Int32)))) (xs (Int32.toNatClampNeg (a4 + (3 : Int32)))) (xs (Int32.toNatClampNeg (a4 + (4 : Int32)))) (xs (Int32.toNatClampNeg (a4 + (5 : Int32)))) hb
  refine ⟨υ, ?_, h9⟩
  unfold fL_c0
  simp only [lc_ck h1, lc_ck h2, lc_ck h3, lc_ck h4, lc_ck h5, e1, Option.bind_some, e2]
  rw [if_pos trivial]
theorem lc_1 {xs : Nat → Int32} {L : Nat} {a4 : Int32} {σ : ps_S} (h : lc_in a4 L) (hb : b_R σ) : ∃ r, fL_c1 xs L a4 σ = some r ∧ b_R r := by
  obtain ⟨-, h1, h2, h3, h4, h5⟩ := h
  obtain ⟨r, τ, υ, e1, e2, h9⟩ := op_end (xs (Int32.toNatClampNeg (a4 + (1 : Int32)))) hb
  refine ⟨υ, ?_, h9⟩
  unfold fL_c1
  simp only [lc_ck h1, e1, Option.bind_some, e2]
  rw [if_pos trivial]
theorem lc_2 {xs : Nat → Int32} {L : Nat} {a4 : Int32} {σ : ps_S} (h : lc_in a4 L) (hb : b_R σ) : ∃ r, fL_c2 xs L a4 σ = some r ∧ b_R r := by
  obtain ⟨-, h1, h2, h3, h4, h5⟩ := h
  obtain ⟨r, τ, υ, e1, e2, h9⟩ := op_text  hb
  refine ⟨υ, ?_, h9⟩
  unfold fL_c2
  simp only [e1, Option.bind_some, e2]
  rw [if_pos trivial]
theorem lc_3 {xs : Nat → Int32} {L : Nat} {a4 : Int32} {σ : ps_S} (h : lc_in a4 L) (hb : b_R σ) : ∃ r, fL_c3 xs L a4 σ = some r ∧ b_R r := by
  obtain ⟨-, h1, h2, h3, h4, h5⟩ := h
  obtain ⟨r, υ, e1, e2, h9⟩ := op_fault  hb
  refine ⟨υ, ?_, h9⟩
  unfold fL_c3
  simp only [e1, Option.bind_some, e2]
  rw [if_pos trivial]
theorem lc_4 {xs : Nat → Int32} {L : Nat} {a4 : Int32} {σ : ps_S} (h : lc_in a4 L) (hb : b_R σ) : ∃ r, fL_c4 xs L a4 σ = some r ∧ b_R r := by
  obtain ⟨-, h1, h2, h3, h4, h5⟩ := h
  obtain ⟨r, υ, e1, e2, h9⟩ := op_now (xs (Int32.toNatClampNeg (a4 + (1 : Int32)))) hb
  refine ⟨υ, ?_, h9⟩
  unfold fL_c4
  simp only [lc_ck h1, e1, Option.bind_some, e2]
  rw [if_pos trivial]
theorem lc_5 {xs : Nat → Int32} {L : Nat} {a4 : Int32} {σ : ps_S} (h : lc_in a4 L) (hb : b_R σ) : ∃ r, fL_c5 xs L a4 σ = some r ∧ b_R r := by
  obtain ⟨-, h1, h2, h3, h4, h5⟩ := h
  obtain ⟨r, υ, e1, e2, h9⟩ := op_weight (xs (Int32.toNatClampNeg (a4 + (1 : Int32)))) hb
  refine ⟨υ, ?_, h9⟩
  unfold fL_c5
  simp only [lc_ck h1, e1, Option.bind_some, e2]
  rw [if_pos trivial]
theorem lc_6 {xs : Nat → Int32} {L : Nat} {a4 : Int32} {σ : ps_S} (h : lc_in a4 L) (hb : b_R σ) : ∃ r, fL_c6 xs L a4 σ = some r ∧ b_R r := by
  obtain ⟨-, h1, h2, h3, h4, h5⟩ := h
  obtain ⟨r, υ, e1, e2, h9⟩ := op_joined (xs (Int32.toNatClampNeg (a4 + (1 : Int32)))) hb
  refine ⟨υ, ?_, h9⟩
  unfold fL_c6
  simp only [lc_ck h1, e1, Option.bind_some, e2]
  rw [if_pos trivial]
theorem lc_7 {xs : Nat → Int32} {L : Nat} {a4 : Int32} {σ : ps_S} (h : lc_in a4 L) (hb : b_R σ) : ∃ r, fL_c7 xs L a4 σ = some r ∧ b_R r := by
  obtain ⟨-, h1, h2, h3, h4, h5⟩ := h
  obtain ⟨r, υ, e1, e2, h9⟩ := op_at (xs (Int32.toNatClampNeg (a4 + (1 : Int32)))) (xs (Int32.toNatClampNeg (a4 + (2 : Int32)))) hb
  refine ⟨υ, ?_, h9⟩
  unfold fL_c7
  simp only [lc_ck h1, lc_ck h2, e1, Option.bind_some, e2]
  rw [if_pos trivial]
theorem lc_8 {xs : Nat → Int32} {L : Nat} {a4 : Int32} {σ : ps_S} (h : lc_in a4 L) (hb : b_R σ) : ∃ r, fL_c8 xs L a4 σ = some r ∧ b_R r := by
  obtain ⟨-, h1, h2, h3, h4, h5⟩ := h
  obtain ⟨r, τ, υ, e1, e2, h9⟩ := op_put (xs (Int32.toNatClampNeg (a4 + (1 : Int32)))) (xs (Int32.toNatClampNeg (a4 + (2 : Int32)))) (xs (Int32.toNatClampNeg (a4 + (3 : Int32)))) hb
  refine ⟨υ, ?_, h9⟩
  unfold fL_c8
  simp only [lc_ck h1, lc_ck h2, lc_ck h3, e1, Option.bind_some, e2]
  rw [if_pos trivial]
theorem lc_9 {xs : Nat → Int32} {L : Nat} {a4 : Int32} {σ : ps_S} (h : lc_in a4 L) (hb : b_R σ) : ∃ r, fL_c9 xs L a4 σ = some r ∧ b_R r := by
  obtain ⟨-, h1, h2, h3, h4, h5⟩ := h
  obtain ⟨r, τ, υ, e1, e2, h9⟩ := op_lay (xs (Int32.toNatClampNeg (a4 + (1 : Int32)))) (xs (Int32.toNatClampNeg (a4 + (2 : Int32)))) hb
  refine ⟨υ, ?_, h9⟩
  unfold fL_c9
  simp only [lc_ck h1, lc_ck h2, e1, Option.bind_some, e2]
  rw [if_pos trivial]
theorem lc_10 {xs : Nat → Int32} {L : Nat} {a4 : Int32} {σ : ps_S} (h : lc_in a4 L) (hb : b_R σ) : ∃ r, fL_c10 xs L a4 σ = some r ∧ b_R r := by
  obtain ⟨-, h1, h2, h3, h4, h5⟩ := h
  by_cases hz : (xs (Int32.toNatClampNeg (a4 + (2 : Int32)))) = 0
  · obtain ⟨r, τ, υ, e1, e2, h9⟩ := op_sum (xs (Int32.toNatClampNeg (a4 + (1 : Int32)))) (0 : Int32) hb
    refine ⟨υ, ?_, h9⟩
    unfold fL_c10
    simp only [lc_ck h1, lc_ck h2, lc_ck h3, hz, e1, Option.bind_some, e2, if_true]
  · obtain ⟨r, τ, υ, e1, e2, h9⟩ := op_sum (xs (Int32.toNatClampNeg (a4 + (1 : Int32)))) (1 : Int32) hb
    refine ⟨υ, ?_, h9⟩
    unfold fL_c10
    simp only [lc_ck h1, lc_ck h2, lc_ck h3, hz, e1, Option.bind_some, e2, if_true, if_false]
theorem lc_11 {xs : Nat → Int32} {L : Nat} {a4 : Int32} {σ : ps_S} (h : lc_in a4 L) (hb : b_R σ) : ∃ r, fL_c11 xs L a4 σ = some r ∧ b_R r := by
  obtain ⟨-, h1, h2, h3, h4, h5⟩ := h
  by_cases hz : (xs (Int32.toNatClampNeg (a4 + (2 : Int32)))) = 0
  · obtain ⟨r, τ, υ, e1, e2, h9⟩ := op_back (xs (Int32.toNatClampNeg (a4 + (1 : Int32)))) (0 : Int32) hb
    refine ⟨υ, ?_, h9⟩
    unfold fL_c11
    simp only [lc_ck h1, lc_ck h2, lc_ck h3, hz, e1, Option.bind_some, e2, if_true]
  · obtain ⟨r, τ, υ, e1, e2, h9⟩ := op_back (xs (Int32.toNatClampNeg (a4 + (1 : Int32)))) (1 : Int32) hb
    refine ⟨υ, ?_, h9⟩
    unfold fL_c11
    simp only [lc_ck h1, lc_ck h2, lc_ck h3, hz, e1, Option.bind_some, e2, if_true, if_false]
theorem lc_12 {xs : Nat → Int32} {L : Nat} {a4 : Int32} {σ : ps_S} (h : lc_in a4 L) (hb : b_R σ) : ∃ r, fL_c12 xs L a4 σ = some r ∧ b_R r := by
  obtain ⟨-, h1, h2, h3, h4, h5⟩ := h
  obtain ⟨r, τ, υ, e1, e2, h9⟩ := op_times (xs (Int32.toNatClampNeg (a4 + (1 : Int32)))) (xs (Int32.toNatClampNeg (a4 + (2 : Int32)))) (xs (Int32.toNatClampNeg (a4 + (3 : Int32)))) (xs (Int32.toNatClampNeg (a4 + (4 : Int32)))) hb
  refine ⟨υ, ?_, h9⟩
  unfold fL_c12
  simp only [lc_ck h1, lc_ck h2, lc_ck h3, lc_ck h4, e1, Option.bind_some, e2]
  rw [if_pos trivial]
theorem lc_13 {xs : Nat → Int32} {L : Nat} {a4 : Int32} {σ : ps_S} (h : lc_in a4 L) (hb : b_R σ) : ∃ r, fL_c13 xs L a4 σ = some r ∧ b_R r := by
  obtain ⟨-, h1, h2, h3, h4, h5⟩ := h
  obtain ⟨r, τ, υ, e1, e2, h9⟩ := op_power (xs (Int32.toNatClampNeg (a4 + (1 : Int32)))) (xs (Int32.toNatClampNeg (a4 + (2 : Int32)))) (xs (Int32.toNatClampNeg (a4 + (3 : Int32)))) hb
  refine ⟨υ, ?_, h9⟩
  unfold fL_c13
  simp only [lc_ck h1, lc_ck h2, lc_ck h3, e1, Option.bind_some, e2]
  rw [if_pos trivial]
theorem lc_14 {xs : Nat → Int32} {L : Nat} {a4 : Int32} {σ : ps_S} (h : lc_in a4 L) (hb : b_R σ) : ∃ r, fL_c14 xs L a4 σ = some r ∧ b_R r := by
  obtain ⟨-, h1, h2, h3, h4, h5⟩ := h
  obtain ⟨r, τ, υ, e1, e2, h9⟩ := op_inverse (xs (Int32.toNatClampNeg (a4 + (1 : Int32)))) (xs (Int32.toNatClampNeg (a4 + (2 : Int32)))) hb
  refine ⟨υ, ?_, h9⟩
  unfold fL_c14
  simp only [lc_ck h1, lc_ck h2, e1, Option.bind_some, e2]
  rw [if_pos trivial]
theorem lc_15 {xs : Nat → Int32} {L : Nat} {a4 : Int32} {σ : ps_S} (h : lc_in a4 L) (hb : b_R σ) : ∃ r, fL_c15 xs L a4 σ = some r ∧ b_R r := by
  obtain ⟨-, h1, h2, h3, h4, h5⟩ := h
  obtain ⟨r, τ, υ, e1, e2, h9⟩ := op_allWays (xs (Int32.toNatClampNeg (a4 + (1 : Int32)))) (xs (Int32.toNatClampNeg (a4 + (2 : Int32)))) hb
  refine ⟨υ, ?_, h9⟩
  unfold fL_c15
  simp only [lc_ck h1, lc_ck h2, e1, Option.bind_some, e2]
  rw [if_pos trivial]
theorem lc_16 {xs : Nat → Int32} {L : Nat} {a4 : Int32} {σ : ps_S} (h : lc_in a4 L) (hb : b_R σ) : ∃ r, fL_c16 xs L a4 σ = some r ∧ b_R r := by
  obtain ⟨-, h1, h2, h3, h4, h5⟩ := h
  obtain ⟨r, τ, υ, e1, e2, h9⟩ := op_roots (xs (Int32.toNatClampNeg (a4 + (1 : Int32)))) (xs (Int32.toNatClampNeg (a4 + (2 : Int32)))) hb
  refine ⟨υ, ?_, h9⟩
  unfold fL_c16
  simp only [lc_ck h1, lc_ck h2, e1, Option.bind_some, e2]
  rw [if_pos trivial]
theorem lc_17 {xs : Nat → Int32} {L : Nat} {a4 : Int32} {σ : ps_S} (h : lc_in a4 L) (hb : b_R σ) : ∃ r, fL_c17 xs L a4 σ = some r ∧ b_R r := by
  obtain ⟨-, h1, h2, h3, h4, h5⟩ := h
  obtain ⟨r, τ, υ, e1, e2, h9⟩ := op_covers (xs (Int32.toNatClampNeg (a4 + (1 : Int32)))) (xs (Int32.toNatClampNeg (a4 + (2 : Int32)))) hb
  refine ⟨υ, ?_, h9⟩
  unfold fL_c17
  simp only [lc_ck h1, lc_ck h2, e1, Option.bind_some, e2]
  rw [if_pos trivial]
theorem lc_18 {xs : Nat → Int32} {L : Nat} {a4 : Int32} {σ : ps_S} (h : lc_in a4 L) (hb : b_R σ) : ∃ r, fL_c18 xs L a4 σ = some r ∧ b_R r := by
  obtain ⟨-, h1, h2, h3, h4, h5⟩ := h
  obtain ⟨r, τ, υ, e1, e2, h9⟩ := op_partings (xs (Int32.toNatClampNeg (a4 + (1 : Int32)))) (xs (Int32.toNatClampNeg (a4 + (2 : Int32)))) hb
  refine ⟨υ, ?_, h9⟩
  unfold fL_c18
  simp only [lc_ck h1, lc_ck h2, e1, Option.bind_some, e2]
  rw [if_pos trivial]
theorem lc_19 {xs : Nat → Int32} {L : Nat} {a4 : Int32} {σ : ps_S} (h : lc_in a4 L) (hb : b_R σ) : ∃ r, fL_c19 xs L a4 σ = some r ∧ b_R r := by
  obtain ⟨-, h1, h2, h3, h4, h5⟩ := h
  obtain ⟨r, τ, υ, e1, e2, h9⟩ := op_cheapest (xs (Int32.toNatClampNeg (a4 + (1 : Int32)))) hb
  refine ⟨υ, ?_, h9⟩
  unfold fL_c19
  simp only [lc_ck h1, e1, Option.bind_some, e2]
  rw [if_pos trivial]
theorem lc_20 {xs : Nat → Int32} {L : Nat} {a4 : Int32} {σ : ps_S} (h : lc_in a4 L) (hb : b_R σ) : ∃ r, fL_c20 xs L a4 σ = some r ∧ b_R r := by
  obtain ⟨-, h1, h2, h3, h4, h5⟩ := h
  obtain ⟨t, q, e, υ, e1, e2, e3, e4, h9⟩ := op_part (xs (Int32.toNatClampNeg (a4 + (1 : Int32)))) (xs (Int32.toNatClampNeg (a4 + (2 : Int32)))) hb
  refine ⟨υ, ?_, h9⟩
  unfold fL_c20
  simp only [lc_ck h1, lc_ck h2, e1, Option.bind_some, ps_let, e2, fX5_thrown, e3]
  rw [if_pos trivial]
  by_cases ht : t = 0
  · rw [if_pos ht, lc_ck (show vp_in 0 1 from fun z => absurd z (by decide)), show Int32.toNatClampNeg 0 = 0 from rfl, e4 ht, if_pos ((lg_cmp_eq _ _).mpr rfl)]
  · rw [if_neg ht]
theorem lc_21 {xs : Nat → Int32} {L : Nat} {a4 : Int32} {σ : ps_S} (h : lc_in a4 L) (hb : b_R σ) : ∃ r, fL_c21 xs L a4 σ = some r ∧ b_R r := by
  obtain ⟨-, h1, h2, h3, h4, h5⟩ := h
  obtain ⟨r, τ, υ, e1, e2, h9⟩ := op_colours (xs (Int32.toNatClampNeg (a4 + (1 : Int32)))) hb
  refine ⟨υ, ?_, h9⟩
  unfold fL_c21
  simp only [lc_ck h1, e1, Option.bind_some, e2]
  rw [if_pos trivial]
theorem lc_22 {xs : Nat → Int32} {L : Nat} {a4 : Int32} {σ : ps_S} (h : lc_in a4 L) (hb : b_R σ) : ∃ r, fL_c22 xs L a4 σ = some r ∧ b_R r := by
  obtain ⟨-, h1, h2, h3, h4, h5⟩ := h
  obtain ⟨r, τ, υ, e1, e2, h9⟩ := op_colour (xs (Int32.toNatClampNeg (a4 + (1 : Int32)))) (xs (Int32.toNatClampNeg (a4 + (2 : Int32)))) hb
  refine ⟨υ, ?_, h9⟩
  unfold fL_c22
  simp only [lc_ck h1, lc_ck h2, e1, Option.bind_some, e2]
  rw [if_pos trivial]
theorem lc_23 {xs : Nat → Int32} {L : Nat} {a4 : Int32} {σ : ps_S} (h : lc_in a4 L) (hb : b_R σ) : ∃ r, fL_c23 xs L a4 σ = some r ∧ b_R r := by
  obtain ⟨-, h1, h2, h3, h4, h5⟩ := h
  obtain ⟨r, τ, υ, e1, e2, h9⟩ := op_colourings (xs (Int32.toNatClampNeg (a4 + (1 : Int32)))) (xs (Int32.toNatClampNeg (a4 + (2 : Int32)))) hb
  refine ⟨υ, ?_, h9⟩
  unfold fL_c23
  simp only [lc_ck h1, lc_ck h2, e1, Option.bind_some, e2]
  rw [if_pos ((lg_cmp_eq _ _).mpr rfl)]
theorem lc_24 {xs : Nat → Int32} {L : Nat} {a4 : Int32} {σ : ps_S} (h : lc_in a4 L) (hb : b_R σ) : ∃ r, fL_c24 xs L a4 σ = some r ∧ b_R r := by
  obtain ⟨-, h1, h2, h3, h4, h5⟩ := h
  obtain ⟨r, τ, υ, e1, e2, h9⟩ := op_hangs (xs (Int32.toNatClampNeg (a4 + (1 : Int32)))) hb
  refine ⟨υ, ?_, h9⟩
  unfold fL_c24
  simp only [lc_ck h1, e1, Option.bind_some, e2]
  rw [if_pos trivial]
theorem lc_25 {xs : Nat → Int32} {L : Nat} {a4 : Int32} {σ : ps_S} (h : lc_in a4 L) (hb : b_R σ) : ∃ r, fL_c25 xs L a4 σ = some r ∧ b_R r := by
  obtain ⟨-, h1, h2, h3, h4, h5⟩ := h
  obtain ⟨r, τ, υ, e1, e2, h9⟩ := op_weigh (xs (Int32.toNatClampNeg (a4 + (1 : Int32)))) (xs (Int32.toNatClampNeg (a4 + (2 : Int32)))) hb
  refine ⟨υ, ?_, h9⟩
  unfold fL_c25
  simp only [lc_ck h1, lc_ck h2, e1, Option.bind_some, e2]
  rw [if_pos trivial]
theorem lc_26 {xs : Nat → Int32} {L : Nat} {a4 : Int32} {σ : ps_S} (h : lc_in a4 L) (hb : b_R σ) : ∃ r, fL_c26 xs L a4 σ = some r ∧ b_R r := by
  obtain ⟨-, h1, h2, h3, h4, h5⟩ := h
  by_cases hz : (xs (Int32.toNatClampNeg (a4 + (3 : Int32)))) = 0
  · obtain ⟨r, τ, υ, e1, e2, h9⟩ := op_join (xs (Int32.toNatClampNeg (a4 + (1 : Int32)))) (xs (Int32.toNatClampNeg (a4 + (2 : Int32)))) (0 : Int32) (Or.inl rfl) hb
    refine ⟨υ, ?_, h9⟩
    unfold fL_c26
    simp only [lc_ck h1, lc_ck h2, lc_ck h3, hz, e1, Option.bind_some, e2, if_true]
  · obtain ⟨r, τ, υ, e1, e2, h9⟩ := op_join (xs (Int32.toNatClampNeg (a4 + (1 : Int32)))) (xs (Int32.toNatClampNeg (a4 + (2 : Int32)))) (1 : Int32) (Or.inr rfl) hb
    refine ⟨υ, ?_, h9⟩
    unfold fL_c26
    simp only [lc_ck h1, lc_ck h2, lc_ck h3, hz, e1, Option.bind_some, e2, if_true, if_false]
theorem lc_27 {xs : Nat → Int32} {L : Nat} {a4 : Int32} {σ : ps_S} (h : lc_in a4 L) (hb : b_R σ) : ∃ r, fL_c27 xs L a4 σ = some r ∧ b_R r := by
  obtain ⟨-, h1, h2, h3, h4, h5⟩ := h
  obtain ⟨r, τ, υ, e1, e2, h9⟩ := op_name (xs (Int32.toNatClampNeg (a4 + (1 : Int32)))) (xs (Int32.toNatClampNeg (a4 + (2 : Int32)))) hb
  refine ⟨υ, ?_, h9⟩
  unfold fL_c27
  simp only [lc_ck h1, lc_ck h2, e1, Option.bind_some, e2]
  rw [if_pos trivial]
theorem lc_28 {xs : Nat → Int32} {L : Nat} {a4 : Int32} {σ : ps_S} (h : lc_in a4 L) (hb : b_R σ) : ∃ r, fL_c28 xs L a4 σ = some r ∧ b_R r := by
  obtain ⟨-, h1, h2, h3, h4, h5⟩ := h
  obtain ⟨r, τ, υ, e1, e2, h9⟩ := op_drawn (xs (Int32.toNatClampNeg (a4 + (1 : Int32)))) (xs (Int32.toNatClampNeg (a4 + (2 : Int32)))) hb
  refine ⟨υ, ?_, h9⟩
  unfold fL_c28
  simp only [lc_ck h1, lc_ck h2, e1, Option.bind_some, e2]
  rw [if_pos trivial]
theorem lc_29 {xs : Nat → Int32} {L : Nat} {a4 : Int32} {σ : ps_S} (h : lc_in a4 L) (hb : b_R σ) : ∃ r, fL_c29 xs L a4 σ = some r ∧ b_R r := by
  obtain ⟨-, h1, h2, h3, h4, h5⟩ := h
  obtain ⟨r, τ, υ, e1, e2, h9⟩ := op_undo  hb
  refine ⟨υ, ?_, h9⟩
  unfold fL_c29
  simp only [e1, Option.bind_some, e2]
  rw [if_pos trivial]
theorem lc_30 {xs : Nat → Int32} {L : Nat} {a4 : Int32} {σ : ps_S} (h : lc_in a4 L) (hb : b_R σ) : ∃ r, fL_c30 xs L a4 σ = some r ∧ b_R r := by
  obtain ⟨-, h1, h2, h3, h4, h5⟩ := h
  obtain ⟨r, τ, υ, e1, e2, h9⟩ := op_image (xs (Int32.toNatClampNeg (a4 + (1 : Int32)))) hb
  refine ⟨υ, ?_, h9⟩
  unfold fL_c30
  simp only [lc_ck h1, e1, Option.bind_some, e2]
  rw [if_pos trivial]
theorem lc_31 {xs : Nat → Int32} {L : Nat} {a4 : Int32} {σ : ps_S} (h : lc_in a4 L) (hb : b_R σ) : ∃ r, fL_c31 xs L a4 σ = some r ∧ b_R r := by
  obtain ⟨-, h1, h2, h3, h4, h5⟩ := h
  obtain ⟨r, τ, υ, e1, e2, h9⟩ := op_restore (xs (Int32.toNatClampNeg (a4 + (1 : Int32)))) hb
  refine ⟨υ, ?_, h9⟩
  unfold fL_c31
  simp only [lc_ck h1, e1, Option.bind_some, e2]
  rw [if_pos trivial]
theorem lc_31s (x : Int32) : ∃ n : Nat, n < 32 ∧ x &&& 31 = Int32.ofNat n := by
  refine ⟨(x &&& 31).toBitVec.toNat, ?_, ?_⟩
  · rw [Int32.toBitVec_and, BitVec.toNat_and]
    exact Nat.lt_of_le_of_lt Nat.and_le_right (by decide)
  · apply Int32.toBitVec_inj.mp
    rw [Int32.toBitVec_ofNat']
    simp
theorem lc_do {xs : Nat → Int32} {L : Nat} {a4 : Int32} {σ : ps_S} (h : lc_in a4 L) (hb : b_R σ) : ∃ r, fL_do xs L a4 σ = some r ∧ b_R r := by
  unfold fL_do
  rw [lc_ck h.1]
  obtain ⟨n, hn, e⟩ := lc_31s (xs (Int32.toNatClampNeg a4))
  rw [e]
  clear e
  by_cases g0 : Int32.ofNat n = 0
  · rw [if_pos g0]; exact lc_0 h hb
  rw [if_neg g0]
  by_cases g1 : Int32.ofNat n = 1
  · rw [if_pos g1]; exact lc_1 h hb
  rw [if_neg g1]
  by_cases g2 : Int32.ofNat n = 2
  · rw [if_pos g2]; exact lc_2 h hb
  rw [if_neg g2]
  by_cases g3 : Int32.ofNat n = 3
  · rw [if_pos g3]; exact lc_3 h hb
  rw [if_neg g3]
  by_cases g4 : Int32.ofNat n = 4
  · rw [if_pos g4]; exact lc_4 h hb
  rw [if_neg g4]
  by_cases g5 : Int32.ofNat n = 5
  · rw [if_pos g5]; exact lc_5 h hb
  rw [if_neg g5]
  by_cases g6 : Int32.ofNat n = 6
  · rw [if_pos g6]; exact lc_6 h hb
  rw [if_neg g6]
  by_cases g7 : Int32.ofNat n = 7
  · rw [if_pos g7]; exact lc_7 h hb
  rw [if_neg g7]
  by_cases g8 : Int32.ofNat n = 8
  · rw [if_pos g8]; exact lc_8 h hb
  rw [if_neg g8]
  by_cases g9 : Int32.ofNat n = 9
  · rw [if_pos g9]; exact lc_9 h hb
  rw [if_neg g9]
  by_cases g10 : Int32.ofNat n = 10
  · rw [if_pos g10]; exact lc_10 h hb
  rw [if_neg g10]
  by_cases g11 : Int32.ofNat n = 11
  · rw [if_pos g11]; exact lc_11 h hb
  rw [if_neg g11]
  by_cases g12 : Int32.ofNat n = 12
  · rw [if_pos g12]; exact lc_12 h hb
  rw [if_neg g12]
  by_cases g13 : Int32.ofNat n = 13
  · rw [if_pos g13]; exact lc_13 h hb
  rw [if_neg g13]
  by_cases g14 : Int32.ofNat n = 14
  · rw [if_pos g14]; exact lc_14 h hb
  rw [if_neg g14]
  by_cases g15 : Int32.ofNat n = 15
  · rw [if_pos g15]; exact lc_15 h hb
  rw [if_neg g15]
  by_cases g16 : Int32.ofNat n = 16
  · rw [if_pos g16]; exact lc_16 h hb
  rw [if_neg g16]
  by_cases g17 : Int32.ofNat n = 17
  · rw [if_pos g17]; exact lc_17 h hb
  rw [if_neg g17]
  by_cases g18 : Int32.ofNat n = 18
  · rw [if_pos g18]; exact lc_18 h hb
  rw [if_neg g18]
  by_cases g19 : Int32.ofNat n = 19
  · rw [if_pos g19]; exact lc_19 h hb
  rw [if_neg g19]
  by_cases g20 : Int32.ofNat n = 20
  · rw [if_pos g20]; exact lc_20 h hb
  rw [if_neg g20]
  by_cases g21 : Int32.ofNat n = 21
  · rw [if_pos g21]; exact lc_21 h hb
  rw [if_neg g21]
  by_cases g22 : Int32.ofNat n = 22
  · rw [if_pos g22]; exact lc_22 h hb
  rw [if_neg g22]
  by_cases g23 : Int32.ofNat n = 23
  · rw [if_pos g23]; exact lc_23 h hb
  rw [if_neg g23]
  by_cases g24 : Int32.ofNat n = 24
  · rw [if_pos g24]; exact lc_24 h hb
  rw [if_neg g24]
  by_cases g25 : Int32.ofNat n = 25
  · rw [if_pos g25]; exact lc_25 h hb
  rw [if_neg g25]
  by_cases g26 : Int32.ofNat n = 26
  · rw [if_pos g26]; exact lc_26 h hb
  rw [if_neg g26]
  by_cases g27 : Int32.ofNat n = 27
  · rw [if_pos g27]; exact lc_27 h hb
  rw [if_neg g27]
  by_cases g28 : Int32.ofNat n = 28
  · rw [if_pos g28]; exact lc_28 h hb
  rw [if_neg g28]
  by_cases g29 : Int32.ofNat n = 29
  · rw [if_pos g29]; exact lc_29 h hb
  rw [if_neg g29]
  by_cases g30 : Int32.ofNat n = 30
  · rw [if_pos g30]; exact lc_30 h hb
  rw [if_neg g30]
  by_cases g31 : Int32.ofNat n = 31
  · rw [if_pos g31]; exact lc_31 h hb
  rw [if_neg g31]
  rcases (by omega : n = 0 ∨ n = 1 ∨ n = 2 ∨ n = 3 ∨ n = 4 ∨ n = 5 ∨ n = 6 ∨ n = 7 ∨ n = 8 ∨ n = 9 ∨ n = 10 ∨ n = 11 ∨ n = 12 ∨ n = 13 ∨ n = 14 ∨ n = 15 ∨ n = 16 ∨ n = 17 ∨ n = 18 ∨ n = 19 ∨ n = 20 ∨ n = 21 ∨ n = 22 ∨ n = 23 ∨ n = 24 ∨ n = 25 ∨ n = 26 ∨ n = 27 ∨ n = 28 ∨ n = 29 ∨ n = 30 ∨ n = 31) with rfl | rfl | rfl | rfl | rfl | rfl | rfl | rfl | rfl | rfl | rfl | rfl | rfl | rfl | rfl | rfl | rfl | rfl | rfl | rfl | rfl | rfl | rfl | rfl | rfl | rfl | rfl | rfl | rfl | rfl | rfl | rfl
  · exact absurd rfl g0
  · exact absurd rfl g1
  · exact absurd rfl g2
  · exact absurd rfl g3
  · exact absurd rfl g4
  · exact absurd rfl g5
  · exact absurd rfl g6
  · exact absurd rfl g7
  · exact absurd rfl g8
  · exact absurd rfl g9
  · exact absurd rfl g10
  · exact absurd rfl g11
  · exact absurd rfl g12
  · exact absurd rfl g13
  · exact absurd rfl g14
  · exact absurd rfl g15
  · exact absurd rfl g16
  · exact absurd rfl g17
  · exact absurd rfl g18
  · exact absurd rfl g19
  · exact absurd rfl g20
  · exact absurd rfl g21
  · exact absurd rfl g22
  · exact absurd rfl g23
  · exact absurd rfl g24
  · exact absurd rfl g25
  · exact absurd rfl g26
  · exact absurd rfl g27
  · exact absurd rfl g28
  · exact absurd rfl g29
  · exact absurd rfl g30
  · exact absurd rfl g31
