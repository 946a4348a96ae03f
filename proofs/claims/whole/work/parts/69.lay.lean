/-! lay: a number for each set; what hangs together -/
def g_sub (b s : Nat) : Prop := ∀ t, b.testBit t = true → s.testBit t = true
def g_clo (a : gG) (s b : Nat) : Prop := ∀ t u, b.testBit t = true → (g_j a t).testBit u = true → s.testBit u = true → b.testBit u = true
/-- a set hangs together: it isn't empty, and each part of it that is closed is all of it -/
def g_con (a : gG) (s : Nat) : Prop := s ≠ 0 ∧ ∀ b, b ≠ 0 → g_sub b s → g_clo a s b → b = s
theorem bit_ex {x : Nat} (h : x ≠ 0) : ∃ t, x.testBit t = true := by
  apply Classical.byContradiction
  intro q
  apply h
  apply Nat.eq_of_testBit_eq
  intro i
  rw [Nat.zero_testBit]
  cases hb : x.testBit i
  · rfl
  · exact absurd ⟨i, hb⟩ q
theorem bit_ne {x t : Nat} (h : x.testBit t = true) : x ≠ 0 := fun e => by rw [e, Nat.zero_testBit] at h; exact absurd h (by decide)
theorem sub_anti {b s : Nat} (h1 : g_sub b s) (h2 : g_sub s b) : b = s := Nat.eq_of_testBit_eq (fun i => by
  have := h1 i; have := h2 i
  cases hb : b.testBit i <;> cases hs : s.testBit i <;> simp_all)
theorem sub_le {b s : Nat} (h : g_sub b s) : b ≤ s := by
  have : b &&& s = b := Nat.eq_of_testBit_eq (fun i => by
    have := h i
    rw [Nat.testBit_and]
    cases hb : b.testBit i <;> simp_all)
  rw [← this]
  exact Nat.and_le_right
theorem con_one (a : gG) (u : Nat) : g_con a (2 ^ u) := by
  refine ⟨Nat.ne_of_gt (p2_pos u), fun b hb hs _ => sub_anti hs (fun t ht => ?_)⟩
  obtain ⟨v, hv⟩ := bit_ex hb
  have := hs v hv
  rw [Nat.testBit_two_pow] at this ht
  have e1 : u = v := of_decide_eq_true this
  have e2 : u = t := of_decide_eq_true ht
  rw [← e2, e1]; exact hv
theorem con_add {a : gG} (hw : g_wf a) {C u v : Nat} (hC : g_con a C) (hv : C.testBit v = true) (huv : (g_j a u).testBit v = true) : g_con a (C ||| 2 ^ u) := by
  have sy := hw.2.2.2.2.2.1
  have hu : (C ||| 2 ^ u).testBit u = true := by rw [fb_bit_set]; simp
  have hin : ∀ t, C.testBit t = true → (C ||| 2 ^ u).testBit t = true := fun t ht => by rw [fb_bit_set, ht]; rfl
  refine ⟨bit_ne hu, fun b hb hs hc => ?_⟩
  have hcl : g_clo a C (b &&& C) := fun t w ht hw' hC' => by
    rw [Nat.testBit_and] at ht ⊢
    have ⟨h1, h2⟩ := Bool.and_eq_true_iff.mp ht
    rw [hc t w h1 hw' (hin w hC'), hC']; rfl
  have hsb : g_sub (b &&& C) C := fun t ht => by
    rw [Nat.testBit_and] at ht
    exact (Bool.and_eq_true_iff.mp ht).2
  by_cases e : b &&& C = 0
  · obtain ⟨t, ht⟩ := bit_ex hb
    have h1 := hs t ht
    rw [fb_bit_set] at h1
    have h2 : C.testBit t = false := by
      have := congrArg (fun x => x.testBit t) e
      simp only [Nat.testBit_and, Nat.zero_testBit, ht, Bool.true_and] at this
      exact this
    rw [h2, Bool.false_or] at h1
    have h3 : t = u := of_decide_eq_true h1
    rw [h3] at ht
    have h4 := hc u v ht huv (hin v hv)
    have := congrArg (fun x => x.testBit v) e
    simp only [Nat.testBit_and, Nat.zero_testBit, h4, hv] at this
    exact absurd this (by decide)
  · have h1 := hC.2 _ e hsb hcl
    have hCb : ∀ t, C.testBit t = true → b.testBit t = true := fun t ht => by
      rw [← h1, Nat.testBit_and] at ht
      exact (Bool.and_eq_true_iff.mp ht).1
    have hub : b.testBit u = true := hc v u (hCb v hv) (by rw [sy]; exact huv) hu
    refine sub_anti hs (fun t ht => ?_)
    rw [fb_bit_set] at ht
    rcases Bool.or_eq_true_iff.mp ht with h | h
    · exact hCb t h
    · rw [of_decide_eq_true h]; exact hub
def g_good (a : gG) (s t : Nat) : Prop := s.testBit t = true ∧ (s = 2 ^ t ∨ (g_con a (s ^^^ 2 ^ t) ∧ ∃ v, (s ^^^ 2 ^ t).testBit v = true ∧ (g_j a t).testBit v = true))
theorem flip_set {s t : Nat} (h : s.testBit t = true) : (s ^^^ 2 ^ t) ||| 2 ^ t = s := Nat.eq_of_testBit_eq (fun i => by
  rw [fb_bit_set, fb_bit_flip]
  by_cases e : i = t
  · subst e; simp [h]
  · simp [e])
theorem con_iff {a : gG} (hw : g_wf a) {s : Nat} : g_con a s ↔ ∃ t, g_good a s t := by
  constructor
  · intro hs
    obtain ⟨t0, ht0⟩ := bit_ex hs.1
    by_cases e1 : s = 2 ^ t0
    · exact ⟨t0, ht0, Or.inl e1⟩
    have hlt : ∃ i, i < s ∧ (g_con a i ∧ g_sub i s) := by
      refine ⟨2 ^ t0, ?_, con_one a t0, fun t ht => ?_⟩
      · have : g_sub (2 ^ t0) s := fun t ht => by
          rw [Nat.testBit_two_pow] at ht
          rw [← of_decide_eq_true ht]; exact ht0
        have := sub_le this
        omega
      · rw [Nat.testBit_two_pow] at ht
        rw [← of_decide_eq_true ht]; exact ht0
    obtain ⟨C, hC1, ⟨hC2, hC3⟩, hC4⟩ := @fb_last (fun i => g_con a i ∧ g_sub i s) (fun _ => Classical.propDecidable _) s hlt
    have hnc : ¬ g_clo a s C := fun q => by
      have := hs.2 C hC2.1 hC3 q
      omega
    have hex : ∃ t u, C.testBit t = true ∧ (g_j a t).testBit u = true ∧ s.testBit u = true ∧ C.testBit u = false := by
      apply Classical.byContradiction
      intro q
      apply hnc
      intro t u h1 h2 h3
      cases h4 : C.testBit u
      · exact absurd ⟨t, u, h1, h2, h3, h4⟩ q
      · rfl
    obtain ⟨v, u, h1, h2, h3, h4⟩ := hex
    have sy := hw.2.2.2.2.2.1
    have hnew := con_add hw hC2 h1 (u := u) (by rw [sy]; exact h2)
    have hsub : g_sub (C ||| 2 ^ u) s := fun t ht => by
      rw [fb_bit_set] at ht
      rcases Bool.or_eq_true_iff.mp ht with h | h
      · exact hC3 t h
      · rw [of_decide_eq_true h]; exact h3
    have hgt : C < C ||| 2 ^ u := by
      have h5 : C ≤ C ||| 2 ^ u := Nat.left_le_or
      have h6 : C ≠ C ||| 2 ^ u := fun q => by
        have : (C ||| 2 ^ u).testBit u = true := by rw [fb_bit_set]; simp
        rw [← q, h4] at this
        exact absurd this (by decide)
      omega
    have heq : C ||| 2 ^ u = s := by
      have h5 := sub_le hsub
      by_cases h6 : C ||| 2 ^ u < s
      · exact absurd ⟨hnew, hsub⟩ (hC4 _ hgt h6)
      · omega
    have hflip : s ^^^ 2 ^ u = C := Nat.eq_of_testBit_eq (fun i => by
      rw [fb_bit_flip, ← heq, fb_bit_set]
      by_cases e : i = u
      · subst e; simp [h4]
      · simp [e])
    exact ⟨u, h3, Or.inr (by rw [hflip]; exact ⟨hC2, v, h1, by rw [sy]; exact h2⟩)⟩
  · rintro ⟨t, ht, h | ⟨h1, v, h2, h3⟩⟩
    · rw [h]; exact con_one a t
    · have := con_add hw h1 h2 h3
      rw [flip_set ht] at this
      exact this
noncomputable def g_co (a : gG) (s : Nat) : Bool := @decide (g_con a s) (Classical.propDecidable _)
theorem g_coT {a : gG} {s : Nat} : g_co a s = true ↔ g_con a s := by unfold g_co; simp
/-- what lay lays, not reduced -/
noncomputable def g_ms (a : gG) (what s : Nat) : Nat :=
  if what = 0 then g_w a s else if what = 1 then (if 0 < g_w a s then 1 else 0) else if what = 2 then (if g_pi a s = 0 then 1 else 0) else if what = 3 then (if g_pi a s = g_bc s * (g_bc s - 1) / 2 then 1 else 0) else if what = 4 then 2 ^ g_pi a s else if what = 5 then (if g_co a s = true then 1 else 0) else if what = 6 then g_bc s else (if s = 0 then 1 else 0)
theorem g_ms_lt {a : gG} (hw : g_wf a) {what s : Nat} (hs : s < 256) : g_ms a what s < 2 ^ 29 ∧ (what ≠ 4 → g_ms a what s < g_P) := by
  unfold g_ms
  have h1 := hw.2.1 s
  have h2 := g_bc_le s
  have h3 : 2 ^ g_pi a s ≤ 2 ^ 28 := Nat.pow_le_pow_right (by decide) (pi_28 hw hs)
  have : (2 : Nat) ^ 29 = 536870912 := rfl
  have : (2 : Nat) ^ 28 = 268435456 := rfl
  have : g_P = 1000003 := rfl
  by_cases e0 : what = 0
  · rw [if_pos e0]; omega
  rw [if_neg e0]
  by_cases e0 : what = 1
  · rw [if_pos e0]; split <;> omega
  rw [if_neg e0]
  by_cases e0 : what = 2
  · rw [if_pos e0]; split <;> omega
  rw [if_neg e0]
  by_cases e0 : what = 3
  · rw [if_pos e0]; split <;> omega
  rw [if_neg e0]
  by_cases e0 : what = 4
  · rw [if_pos e0]; exact ⟨by omega, fun q => absurd e0 q⟩
  rw [if_neg e0]
  by_cases e0 : what = 5
  · rw [if_pos e0]; split <;> omega
  rw [if_neg e0]
  by_cases e0 : what = 6
  · rw [if_pos e0]; omega
  rw [if_neg e0]; split <;> omega
theorem sh_pw : ∀ p, p < 29 → ∀ c, c < 9 → p + c < 30 → nI (2 ^ p) <<< (nI c &&& 31) = nI (2 ^ (p + c)) := by decide +kernel
theorem rs_int : ∀ x, x < 256 → x ≠ 0 → nI x &&& (nI x - nI 1) = nI (g_rs x) := by decide +kernel
/-- the pairs of a set, of a kind -/
theorem c_measurePairs {σ : ps_S} {a : gG} {k what s : Nat} (h : c_G σ 1 a) (hw : g_wf a) (hk : ps_ln k = 256) (hs : s < 256) (h0 : s ≠ 0) (hwh : what = 2 ∨ what = 3 ∨ what = 4) (hrow : ∀ x, x < s → σ.1 k x = nI (g_ms a what x)) : fX4_measurePairs (nI what) (nI s) k σ = some (nI (g_ms a what s)) := by
  obtain ⟨h1, h2, h3, h4, h5, h6, h7⟩ := lt_ok s hs h0
  have hpi := pi_rec hw hs h0
  have hle := bc_and_le (g_j a (g_lt s)) (g_rs s)
  have hm8 : g_j a (g_lt s) &&& g_rs s < 256 := Nat.lt_of_le_of_lt Nat.and_le_right (by omega)
  unfold fX4_measurePairs
  simp only [ps_let]
  rw [c_least s hs h0, Option.bind_some, n1, rs_int s hs h0, c_mates h hw h1, Option.bind_some, fa_and, nl_2, nl_3, hk]
  rcases hwh with rfl | rfl | rfl
  · rw [if_pos rfl]
    have e : ∀ x, g_ms a 2 x = if g_pi a x = 0 then 1 else 0 := fun x => rfl
    by_cases c : g_j a (g_lt s) &&& g_rs s = 0
    · rw [if_pos (by rw [c]; rfl), pk_ok (by omega) (by decide), nI_clamp (by omega), hrow _ h3, e, e]
      have : g_pi a s = g_pi a (g_rs s) := by rw [hpi, c]; rfl
      rw [this]
    · rw [if_neg (by rw [nI0_iff (by omega)]; exact c), e, if_neg]
      · rfl
      · have := mt (bc_0 _ hm8).mp c
        omega
  · rw [if_neg (by decide), if_pos rfl]
    have e : ∀ x, g_ms a 3 x = if g_pi a x = g_bc x * (g_bc x - 1) / 2 then 1 else 0 := fun x => rfl
    have hf : g_bc s * (g_bc s - 1) / 2 = g_bc (g_rs s) * (g_bc (g_rs s) - 1) / 2 + g_bc (g_rs s) := by
      have := (pi_le hw (g_rs s) (by omega)).2
      rw [h7]
      have e : (g_bc (g_rs s) + 1) * (g_bc (g_rs s) + 1 - 1) = g_bc (g_rs s) * (g_bc (g_rs s) - 1) + 2 * g_bc (g_rs s) := by
        cases g_bc (g_rs s) with
        | zero => rfl
        | succ k => simp only [Nat.add_sub_cancel]; rw [Nat.succ_mul (k + 1), Nat.mul_succ (k + 1) k]; omega
      rw [e]; omega
    have hl := (pi_le hw (g_rs s) (by omega)).1
    by_cases c : g_j a (g_lt s) &&& g_rs s = g_rs s
    · rw [if_pos (by rw [c]), pk_ok (by omega) (by decide), nI_clamp (by omega), hrow _ h3, e, e, hf, hpi, c]
      by_cases d : g_pi a (g_rs s) = g_bc (g_rs s) * (g_bc (g_rs s) - 1) / 2
      · rw [if_pos d, if_pos (by omega)]
      · rw [if_neg d, if_neg (by omega)]
    · rw [if_neg (by rw [nI_eq (by omega) (by omega)]; exact c), e, if_neg]
      · rfl
      · have := mt (bc_and_eq (x := g_j a (g_lt s)) (y := g_rs s) (by omega)).mp c
        omega
  · rw [if_neg (by decide), if_neg (by decide), pk_ok (by omega) (by decide), nI_clamp (by omega), c_bits _ hm8, Option.bind_some, hrow _ h3]
    have e : ∀ x, g_ms a 4 x = 2 ^ g_pi a x := fun x => rfl
    have h28 := pi_28 hw hs
    rw [e, e, sh_pw _ (by omega) _ (by have := g_bc_le (g_j a (g_lt s) &&& g_rs s); omega) (by omega), hpi]
theorem flip_lt {s t : Nat} : s ^^^ 2 ^ t < s ↔ s.testBit t = true := by
  constructor
  · intro h
    cases hb : s.testBit t
    · exfalso
      have : g_sub s (s ^^^ 2 ^ t) := fun i hi => by
        rw [fb_bit_flip, hi]
        by_cases e : i = t
        · subst e; rw [hb] at hi; exact absurd hi (by decide)
        · simp [e]
      have := sub_le this
      omega
    · rfl
  · intro h
    have h1 : g_sub (s ^^^ 2 ^ t) s := fun i hi => by
      rw [fb_bit_flip] at hi
      by_cases e : i = t
      · subst e; exact h
      · simpa [e] using hi
    have h2 := sub_le h1
    have h3 : s ^^^ 2 ^ t ≠ s := fun q => by
      have := congrArg (fun x => x.testBit t) q
      simp only [fb_bit_flip, h] at this
      simp at this
    omega
theorem bits_lt {s n t : Nat} (hs : s < 2 ^ n) (h : s.testBit t = true) : t < n := by
  apply Classical.byContradiction
  intro q
  have : s < 2 ^ t := Nat.lt_of_lt_of_le hs (Nat.pow_le_pow_right (by decide) (by omega))
  rw [Nat.testBit_lt_two_pow this] at h
  exact absurd h (by decide)
theorem c_hangsWhole {σ : ps_S} {a : gG} {k s : Nat} (h : c_G σ 1 a) (hw : g_wf a) (hk : ps_ln k = 256) (hs : s < 2 ^ g_n a) (hrow : ∀ x, x < s → σ.1 k x = nI (g_ms a 5 x)) : ∃ r, fX4_hangsWhole (nI s) k σ = some r ∧ (r = 0 ↔ ¬ g_con a s) := by
  have h8 := hw.1
  have hp := p2_le _ h8
  have hs2 : s < 256 := by omega
  unfold fX4_hangsWhole
  obtain ⟨x, hx, hq⟩ := ps_tot (step := fun q => fX4_hangsWhole_S2 (nI s) k σ q) (fun q => ∃ i, i ≤ g_n a ∧ q = nI i ∧ ∀ t, t < i → ¬ g_good a s t) (fun x => (x = .inl () ∧ g_con a s) ∨ (x = .inr (.inl ()) ∧ g_con a s) ∨ (x = .inr (.inr ()) ∧ ¬ g_con a s)) (fun q => g_n a - q.toNatClampNeg) (by
      rintro q ⟨i, hi, rfl, hno⟩
      unfold fX4_hangsWhole_S2 fX4_hangsWhole_J51
      simp only [ps_let]
      rw [h.1]
      by_cases e : i = g_n a
      · right
        refine ⟨_, by rw [if_pos (nI_le (by omega) (by omega))], Or.inr (Or.inr ⟨rfl, fun q => ?_⟩)⟩
        obtain ⟨t, ht⟩ := (con_iff hw).mp q
        exact hno t (by rw [e]; exact bits_lt hs ht.1) ht
      have hi' : i < g_n a := by omega
      have hxl : s ^^^ 2 ^ i < 256 := x256 hs2 (by omega)
      rw [if_neg (nI_ge hi' (by omega)), sh1' i (by omega), fb_xorI]
      by_cases e0 : s ^^^ 2 ^ i = 0
      · right
        refine ⟨_, by rw [if_pos (by rw [e0]; rfl)], Or.inl ⟨rfl, ?_⟩⟩
        have : s = 2 ^ i := by
          have := congrArg (fun y => y ^^^ 2 ^ i) e0
          simpa [Nat.xor_assoc] using this
        rw [this]; exact con_one a i
      rw [if_neg (by rw [nI0_iff (by omega)]; exact e0)]
      have next : ¬ g_good a s i → ∃ s', some (.inl (nI i + (1 : Int32)) : Int32 ⊕ (Unit ⊕ Unit ⊕ Unit)) = some (.inl s') ∧ (∃ i, i ≤ g_n a ∧ s' = nI i ∧ ∀ t, t < i → ¬ g_good a s t) ∧ g_n a - s'.toNatClampNeg < g_n a - (nI i).toNatClampNeg := fun hn => by
        refine ⟨nI (i + 1), by rw [nI_1], ⟨i + 1, hi', rfl, fun t ht => ?_⟩, by rw [nI_clamp (by omega), nI_clamp (by omega)]; omega⟩
        by_cases c : t = i
        · rw [c]; exact hn
        · exact hno t (by omega)
      by_cases e1 : s ^^^ 2 ^ i < s
      · rw [if_neg (nI_ge e1 (by omega)), hk, pk_ok (by omega) (by decide), nI_clamp (by omega), hrow _ e1, c_mates h hw (by omega), Option.bind_some, fa_and]
        have em : g_ms a 5 (s ^^^ 2 ^ i) = if g_co a (s ^^^ 2 ^ i) = true then 1 else 0 := rfl
        rw [em]
        by_cases e2 : g_con a (s ^^^ 2 ^ i)
        · rw [if_pos (g_coT.mpr e2), if_pos (show nI 1 = 1 from rfl)]
          have hml : g_j a i &&& (s ^^^ 2 ^ i) < 256 := Nat.lt_of_le_of_lt Nat.and_le_right hxl
          by_cases e3 : g_j a i &&& (s ^^^ 2 ^ i) = 0
          · rw [if_pos (by rw [e3]; rfl)]
            left
            apply next
            rintro ⟨g1, g2 | ⟨-, v, g3, g4⟩⟩
            · exact e0 (by rw [g2, Nat.xor_self])
            · have := congrArg (fun x => x.testBit v) e3
              simp only [Nat.testBit_and, g3, g4, Nat.zero_testBit] at this
              exact absurd this (by decide)
          · right
            refine ⟨_, by rw [if_neg (by rw [nI0_iff (by omega)]; exact e3)], Or.inr (Or.inl ⟨rfl, (con_iff hw).mpr ⟨i, flip_lt.mp e1, Or.inr ⟨e2, ?_⟩⟩⟩)⟩
            obtain ⟨v, hv⟩ := bit_ex e3
            rw [Nat.testBit_and] at hv
            exact ⟨v, (Bool.and_eq_true_iff.mp hv).2, (Bool.and_eq_true_iff.mp hv).1⟩
        · rw [if_neg (mt g_coT.mp e2), if_neg (by decide)]
          left
          apply next
          rintro ⟨g1, g2 | ⟨g3, -⟩⟩
          · exact e0 (by rw [g2, Nat.xor_self])
          · exact e2 g3
      · rw [if_pos (nI_le (by omega) (by omega))]
        left
        apply next
        rintro ⟨g1, -⟩
        exact e1 (flip_lt.mpr g1)) 100000 (0 : Int32) (by
      show g_n a - Int32.toNatClampNeg 0 < 100000
      omega) ⟨0, by omega, rfl, fun t ht => absurd ht (Nat.not_lt_zero _)⟩
  rw [hx, Option.bind_some]
  rcases hq with ⟨rfl, q⟩ | ⟨rfl, q⟩ | ⟨rfl, q⟩
  · exact ⟨1, rfl, fun z => absurd z (by decide), fun z => absurd q z⟩
  · exact ⟨1, rfl, fun z => absurd z (by decide), fun z => absurd q z⟩
  · exact ⟨0, rfl, fun _ => q, fun _ => rfl⟩
theorem c_measureSet {σ : ps_S} {a : gG} {k what s : Nat} (h : c_G σ 1 a) (hw : g_wf a) (hk : ps_ln k = 256) (hs : s < 2 ^ g_n a) (hwh : what < 8) (hrow : ∀ x, x < s → σ.1 k x = nI (g_ms a what x)) : fX4_measureSet (nI what) (nI s) k σ = some (nI (g_ms a what s)) := by
  have h8 := hw.1
  have hp := p2_le _ h8
  have hs2 : s < 256 := by omega
  have hpr : what = 2 ∨ what = 3 ∨ what = 4 → fX4_measureSet_J70 (nI what) (nI s) k σ = some (nI (g_ms a what s)) := fun hc => by
    unfold fX4_measureSet_J70
    by_cases e : s = 0
    · rw [if_pos (by rw [e]; rfl), e]
      have : g_ms a what 0 = 1 := by
        have hz := pi_0 hw
        rcases hc with rfl | rfl | rfl
        · show (if g_pi a 0 = 0 then 1 else 0) = 1
          rw [if_pos hz]
        · show (if g_pi a 0 = g_bc 0 * (g_bc 0 - 1) / 2 then 1 else 0) = 1
          rw [if_pos (by rw [hz]; rfl)]
        · show 2 ^ g_pi a 0 = 1
          rw [hz]
      rw [this]; rfl
    · rw [if_neg (by rw [nI0_iff (by omega)]; exact e), c_measurePairs h hw hk hs2 e hc hrow, Option.bind_some]
  unfold fX4_measureSet
  rcases (show what = 0 ∨ what = 1 ∨ what = 2 ∨ what = 3 ∨ what = 4 ∨ what = 5 ∨ what = 6 ∨ what = 7 by omega) with rfl | rfl | rfl | rfl | rfl | rfl | rfl | rfl
  · rw [if_pos (by decide), nl_4, pk_ok (by decide) (by decide), pk_ok hs2 (by decide), nI_clamp (by decide), nI_clamp (by omega), h.2.2.1 s hs2]; rfl
  · rw [if_neg (by decide), if_pos (by decide), nl_4, pk_ok (by decide) (by decide), pk_ok hs2 (by decide), nI_clamp (by decide), nI_clamp (by omega), show 2 + 1 + 4 = 1 + 6 from rfl, h.2.2.1 s hs2]
    show _ = some (nI (if 0 < g_w a s then 1 else 0))
    by_cases c : 0 < g_w a s
    · rw [if_neg (fun q => (w_pos (hw.2.1 s)).mp q c), if_pos c]; rfl
    · rw [if_pos ((w_pos (hw.2.1 s)).mpr c), if_neg c]; rfl
  · rw [if_neg (by decide), if_neg (by decide), if_pos (by decide)]; exact hpr (by omega)
  · rw [if_neg (by decide), if_neg (by decide), if_neg (by decide), if_pos (by decide)]; exact hpr (by omega)
  · rw [if_neg (by decide), if_neg (by decide), if_neg (by decide), if_neg (by decide), if_pos (by decide)]; exact hpr (by omega)
  · rw [if_neg (by decide), if_neg (by decide), if_neg (by decide), if_neg (by decide), if_neg (by decide), if_pos (by decide)]
    obtain ⟨r, h1, h2⟩ := c_hangsWhole h hw hk hs hrow
    rw [h1, Option.bind_some]
    show _ = some (nI (if g_co a s = true then 1 else 0))
    by_cases c : r = 0
    · rw [if_pos c, if_neg (mt g_coT.mp (h2.mp c))]; rfl
    · rw [if_neg c, if_pos (g_coT.mpr (Classical.not_not.mp (mt h2.mpr c)))]; rfl
  · rw [if_neg (by decide), if_neg (by decide), if_neg (by decide), if_neg (by decide), if_neg (by decide), if_neg (by decide), if_pos (by decide), c_bits s hs2, Option.bind_some]; rfl
  · rw [if_neg (by decide), if_neg (by decide), if_neg (by decide), if_neg (by decide), if_neg (by decide), if_neg (by decide), if_neg (by decide)]
    show _ = some (nI (if s = 0 then 1 else 0))
    by_cases c : s = 0
    · rw [if_pos (by rw [c]; rfl), if_pos c]; rfl
    · rw [if_neg (by rw [nI0_iff (by omega)]; exact c), if_neg c]; rfl
theorem c_measureAll {σ : ps_S} {a : gG} {what : Nat} (h : c_G σ 1 a) (hw : g_wf a) (hwh : what < 8) : ∃ τ, fX4_measureAll (nI what) 42 σ = some τ ∧ ps_fr (fun q => q = 42) σ τ ∧ (∀ x, x < g_N a → τ.1 42 x = nI (g_ms a what x)) ∧ ∀ x, g_N a ≤ x → τ.1 42 x = σ.1 42 x := by
  have hN := g_N_le hw
  unfold fX4_measureAll
  obtain ⟨τ, h1, h2, h3, h4⟩ := fill_row (step := fun s => fX4_measureAll_S2 (nI what) 42 s.1 s.2) (σ := σ) (N := g_N a) (k := 42) (v := fun x => nI (g_ms a what x)) (by omega) (by
      intro i τ hi hf hv ho
      have hG := h.fr hf (by omega)
      show fX4_measureAll_S2 (nI what) 42 (nI i) τ = _
      unfold fX4_measureAll_S2
      simp only [ps_let]
      have hn : g_n a ≠ 0 := fun q => by unfold g_N at hi; rw [if_pos q] at hi; omega
      rw [c_countSets hG hw, Option.bind_some, if_neg (nI_ge hi (by omega)), c_measureSet hG hw rfl (by rw [← g_N_pos hn]; exact hi) hwh hv, Option.bind_some, show ps_ln 42 = 256 from rfl, pk_ok (by omega) (by decide), nI_clamp (by omega), nI_1]) (by
      intro τ hf
      have hG := h.fr hf (by omega)
      show fX4_measureAll_S2 (nI what) 42 (nI (g_N a)) τ = _
      unfold fX4_measureAll_S2
      rw [c_countSets hG hw, Option.bind_some, if_pos (nI_le (by omega) (by omega))])
  exact ⟨τ, by rw [h1, Option.bind_some], h2, h3, h4⟩
