/-! text: letters, numbers, words -/
def w_mm (t : Nat → Nat) (s : Nat) : Nat → Nat
  | 0 => 0
  | k + 1 => w_mm t s k ||| 2 ^ (t (s + k) - 97)
def w_gd (t : Nat → Nat) (n s k : Nat) : Prop := ∀ i, i < k → t (s + i) - 97 < n ∧ ∀ j, j < i → t (s + j) - 97 ≠ t (s + i) - 97
theorem mm_bit (t : Nat → Nat) (s x : Nat) : ∀ k, (w_mm t s k).testBit x = true ↔ ∃ j, j < k ∧ t (s + j) - 97 = x
  | 0 => by
    rw [w_mm, Nat.zero_testBit]
    exact ⟨fun h => absurd h (by decide), fun ⟨j, h, _⟩ => absurd h (Nat.not_lt_zero _)⟩
  | k + 1 => by
    rw [w_mm, Nat.testBit_or, Bool.or_eq_true, mm_bit t s x k, p2_bit, decide_eq_true_iff]
    constructor
    · rintro (⟨j, j1, j2⟩ | h)
      · exact ⟨j, by omega, j2⟩
      · exact ⟨k, by omega, h⟩
    · rintro ⟨j, j1, j2⟩
      by_cases c : j = k
      · subst c; exact Or.inr j2
      · exact Or.inl ⟨j, by omega, j2⟩
theorem mm_lt {t : Nat → Nat} {n s : Nat} : ∀ {k : Nat}, w_gd t n s k → w_mm t s k < 2 ^ n
  | 0, _ => p2_pos n
  | k + 1, h => by
    rw [w_mm]
    exact or_lt2 (mm_lt (fun i hi => h i (by omega))) (Nat.pow_lt_pow_right (by decide) (h k (by omega)).1)
theorem c_letters {σ : ps_S} {t : Nat → Nat} {L s e n : Nat} (hL : L ≤ 540) (ht : ∀ i, t i < 256) (hT : ∀ i, i < L → σ.1 37 i = (nI (t i)).toInt8.toInt32) (h8 : σ.1 36 8 = nI s) (h9 : σ.1 36 9 = nI e) (h4 : σ.1 36 4 = nI n) (hn : n ≤ 8) (hse : s ≤ e) (heL : e ≤ L) (hle : ∀ i, s ≤ i → i < e → w_le (t i)) : ∃ r, fX2_lettersRead σ = some r ∧ ((w_gd t n s (e - s) ∧ r = nI (w_mm t s (e - s))) ∨ (¬ w_gd t n s (e - s) ∧ r = -1)) := by
  obtain ⟨r, r1, r2⟩ := ps_fore (step := fun q => fX2_lettersRead_S7 σ q.1 q.2) (e - s) (fun i q => q.1 = nI (w_mm t s i) ∧ q.2 = nI (s + i) ∧ w_gd t n s i) (fun r => (w_gd t n s (e - s) ∧ r = .inr (nI (w_mm t s (e - s)))) ∨ (¬ w_gd t n s (e - s) ∧ r = .inl ())) (F := 100000) (s := ((0 : Int32), nI s)) (by
      rintro i ⟨x, y⟩ hi ⟨q1, q2, q3⟩
      simp only at q1 q2
      subst q1 q2
      have hl := hle (s + i) (by omega) (by omega)
      unfold w_le at hl
      have hb : (nI (t (s + i))).toInt8.toInt32 = nI (t (s + i)) := (cb_val _ (ht _)).1 (by omega)
      have hm := mm_lt q3
      have h2 := p2_le n hn
      show (∃ s', fX2_lettersRead_S7 σ (nI (w_mm t s i)) (nI (s + i)) = some (.inl s') ∧ _) ∨ ∃ x, fX2_lettersRead_S7 σ (nI (w_mm t s i)) (nI (s + i)) = some (.inr x) ∧ _
      have pre : fX2_lettersRead_S7 σ (nI (w_mm t s i)) (nI (s + i)) = (if nI n ≤ nI (t (s + i) - 97) then some (.inr (.inl ())) else if ((nI (w_mm t s i) >>> (nI (t (s + i) - 97) &&& 31)) &&& 1) = 1 then some (.inr (.inl ())) else some (.inl (nI (w_mm t s i) ||| ((1 : Int32) <<< (nI (t (s + i) - 97) &&& 31)), nI (s + i) + 1))) := by
        unfold fX2_lettersRead_S7
        simp only [ps_let]
        rw [h9, if_neg (nI_ge (by omega) (by omega)), pk_ok (by omega) (by decide), nI_clamp (by omega), hT _ (by omega), hb, nl_97, pk_sub (by omega), if_neg (nI_pos (by omega)), h4]
      rw [pre]
      by_cases c : n ≤ t (s + i) - 97
      · right
        rw [if_pos (nI_le c (by omega))]
        exact ⟨_, rfl, Or.inr ⟨fun g => by have := (g i hi).1; omega, rfl⟩⟩
      · rw [if_neg (nI_ge (by omega) (by omega)), bit_s _ (by omega) _ (by omega)]
        cases hbit : (w_mm t s i).testBit (t (s + i) - 97)
        · left
          rw [if_neg (by decide), sh1' _ (by omega), fa_or, nI_1]
          refine ⟨_, rfl, rfl, by rw [show s + (i + 1) = s + i + 1 by omega], fun k hk => ?_⟩
          by_cases d : k = i
          · subst d
            refine ⟨by omega, fun j hj z => ?_⟩
            have := (mm_bit t s (t (s + k) - 97) k).mpr ⟨j, hj, z⟩
            rw [hbit] at this
            exact absurd this (by decide)
          · exact q3 k (by omega)
        · right
          rw [if_pos (by decide)]
          refine ⟨_, rfl, Or.inr ⟨fun g => ?_, rfl⟩⟩
          obtain ⟨j, j1, j2⟩ := (mm_bit t s _ i).mp hbit
          exact (g i hi).2 j j1 j2) (by
      rintro ⟨x, y⟩ ⟨q1, q2, q3⟩
      simp only at q1 q2
      subst q1 q2
      refine ⟨_, ?_, Or.inl ⟨q3, rfl⟩⟩
      show fX2_lettersRead_S7 σ (nI (w_mm t s (e - s))) (nI (s + (e - s))) = _
      unfold fX2_lettersRead_S7
      rw [h9, if_pos (nI_le (by omega) (by omega))]) ⟨rfl, rfl, fun i hi => absurd hi (Nat.not_lt_zero _)⟩ (by omega)
  rcases r2 with ⟨g, hr⟩ | ⟨g, hr⟩
  · subst hr
    refine ⟨nI (w_mm t s (e - s)), ?_, Or.inl ⟨g, rfl⟩⟩
    unfold fX2_lettersRead
    rw [h8, ps_let, r1, Option.bind_some]
  · subst hr
    refine ⟨-1, ?_, Or.inr ⟨g, rfl⟩⟩
    unfold fX2_lettersRead
    rw [h8, ps_let, r1, Option.bind_some]
theorem m_letters {σ : ps_S} {t : Nat → Nat} {L s e n : Nat} (hL : L ≤ 540) (ht : ∀ i, t i < 256) (hT : ∀ i, i < L → σ.1 46 i = nI (t i)) (h5 : σ.1 45 5 = nI s) (h4 : σ.1 45 4 = nI e) (h0 : σ.1 48 0 = nI n) (hn : n ≤ 8) (hse : s ≤ e) (heL : e ≤ L) (hle : ∀ i, s ≤ i → i < e → w_le (t i)) : ∃ r, fX5_letters σ = some r ∧ ((w_gd t n s (e - s) ∧ r = nI (w_mm t s (e - s))) ∨ (¬ w_gd t n s (e - s) ∧ r = -1)) := by
  have o0 : ∀ {α : Type} {y : Option α}, ps_ck (0 : Int32) 1289 y = y := fun {_ _} => pk_ok (i := 0) (by decide) (by decide)
  obtain ⟨r, r1, r2⟩ := ps_fore (step := fun q => fX5_letters_S7 σ q.1 q.2) (e - s) (fun i q => q.1 = nI (w_mm t s i) ∧ q.2 = nI (s + i) ∧ w_gd t n s i) (fun r => (w_gd t n s (e - s) ∧ r = .inr (nI (w_mm t s (e - s)))) ∨ (¬ w_gd t n s (e - s) ∧ r = .inl ())) (F := 100000) (s := ((0 : Int32), nI s)) (by
      rintro i ⟨x, y⟩ hi ⟨q1, q2, q3⟩
      simp only at q1 q2
      subst q1 q2
      have hl := hle (s + i) (by omega) (by omega)
      unfold w_le at hl
      have hm := mm_lt q3
      have h2 := p2_le n hn
      show (∃ s', fX5_letters_S7 σ (nI (w_mm t s i)) (nI (s + i)) = some (.inl s') ∧ _) ∨ ∃ x, fX5_letters_S7 σ (nI (w_mm t s i)) (nI (s + i)) = some (.inr x) ∧ _
      have pre : fX5_letters_S7 σ (nI (w_mm t s i)) (nI (s + i)) = (if nI n ≤ nI (t (s + i) - 97) then some (.inr (.inl ())) else (fX5_has (nI (w_mm t s i)) (nI (t (s + i) - 97))).bind fun q5 => if q5 = 0 then some (.inl (nI (w_mm t s i) ||| ((1 : Int32) <<< (nI (t (s + i) - 97) &&& 31)), nI (s + i) + 1)) else some (.inr (.inl ()))) := by
        unfold fX5_letters_S7
        simp only [ps_let]
        rw [h4, if_neg (nI_ge (by omega) (by omega)), pk_ok (by omega) (by decide), o0, nI_clamp (by omega), hT _ (by omega), nl_97, pk_sub (by omega), show Int32.toNatClampNeg 0 = 0 from rfl, h0]
      rw [pre]
      by_cases c : n ≤ t (s + i) - 97
      · right
        rw [if_pos (nI_le c (by omega))]
        exact ⟨_, rfl, Or.inr ⟨fun g => by have := (g i hi).1; omega, rfl⟩⟩
      · rw [if_neg (nI_ge (by omega) (by omega)), m_has (by omega) (by omega), Option.bind_some]
        cases hbit : (w_mm t s i).testBit (t (s + i) - 97)
        · left
          rw [if_pos (by decide), sh1' _ (by omega), fa_or, nI_1]
          refine ⟨_, rfl, rfl, by rw [show s + (i + 1) = s + i + 1 by omega], fun k hk => ?_⟩
          by_cases d : k = i
          · subst d
            refine ⟨by omega, fun j hj z => ?_⟩
            have := (mm_bit t s (t (s + k) - 97) k).mpr ⟨j, hj, z⟩
            rw [hbit] at this
            exact absurd this (by decide)
          · exact q3 k (by omega)
        · right
          rw [if_neg (by decide)]
          refine ⟨_, rfl, Or.inr ⟨fun g => ?_, rfl⟩⟩
          obtain ⟨j, j1, j2⟩ := (mm_bit t s _ i).mp hbit
          exact (g i hi).2 j j1 j2) (by
      rintro ⟨x, y⟩ ⟨q1, q2, q3⟩
      simp only at q1 q2
      subst q1 q2
      refine ⟨_, ?_, Or.inl ⟨q3, rfl⟩⟩
      show fX5_letters_S7 σ (nI (w_mm t s (e - s))) (nI (s + (e - s))) = _
      unfold fX5_letters_S7
      rw [h4, if_pos (nI_le (by omega) (by omega))]) ⟨rfl, rfl, fun i hi => absurd hi (Nat.not_lt_zero _)⟩ (by omega)
  rcases r2 with ⟨g, hr⟩ | ⟨g, hr⟩
  · subst hr
    refine ⟨nI (w_mm t s (e - s)), ?_, Or.inl ⟨g, rfl⟩⟩
    unfold fX5_letters
    rw [h5, ps_let, r1, Option.bind_some]
  · subst hr
    refine ⟨-1, ?_, Or.inr ⟨g, rfl⟩⟩
    unfold fX5_letters
    rw [h5, ps_let, r1, Option.bind_some]
theorem c_number {σ : ps_S} {t : Nat → Nat} {L s e : Nat} (hL : L ≤ 540) (ht : ∀ i, t i < 256) (hT : ∀ i, i < L → σ.1 37 i = (nI (t i)).toInt8.toInt32) (h8 : σ.1 36 8 = nI s) (h9 : σ.1 36 9 = nI e) (hse : s ≤ e) (heL : e ≤ L) (h3 : e ≤ s + 3) (hdi : ∀ i, s ≤ i → i < e → w_di (t i)) : fX2_numberRead σ = some (nI (w_nu t s (e - s))) := by
  obtain ⟨r, r1, r2⟩ := ps_for (step := fun q => fX2_numberRead_S7 σ q.1 q.2) (e - s) (fun i q => q.1 = nI (w_nu t s i) ∧ q.2 = nI (s + i)) (fun r => r = nI (w_nu t s (e - s))) (F := 100000) (s := ((0 : Int32), nI s)) (by
      rintro i ⟨x, y⟩ hi ⟨q1, q2⟩
      simp only at q1 q2
      subst q1 q2
      have hd := hdi (s + i) (by omega) (by omega)
      unfold w_di at hd
      have hb : (nI (t (s + i))).toInt8.toInt32 = nI (t (s + i)) := (cb_val _ (ht _)).1 (by omega)
      have hle := w_nu_le (t := t) (q := s) (k := i) (fun j a b => hdi j a (by omega))
      have h10 : 10 ^ i ≤ 10 ^ 2 := Nat.pow_le_pow_right (by decide) (by omega)
      refine ⟨(nI (w_nu t s (i + 1)), nI (s + (i + 1))), ?_, rfl, rfl⟩
      show fX2_numberRead_S7 σ (nI (w_nu t s i)) (nI (s + i)) = _
      unfold fX2_numberRead_S7
      simp only [ps_let]
      rw [h9, if_neg (nI_ge (by omega) (by omega)), pk_ok (by omega) (by decide), nI_clamp (by omega), hT _ (by omega), hb, nl_48, pk_sub (by omega), nl_10, fa_mul, nI_add, nI_1]
      rfl) (by
      rintro ⟨x, y⟩ ⟨q1, q2⟩
      simp only at q1 q2
      subst q1 q2
      refine ⟨_, ?_, rfl⟩
      show fX2_numberRead_S7 σ (nI (w_nu t s (e - s))) (nI (s + (e - s))) = _
      unfold fX2_numberRead_S7
      rw [h9, if_pos (nI_le (by omega) (by omega))]) ⟨rfl, rfl⟩ (by omega)
  unfold fX2_numberRead
  rw [h8, ps_let, r1, Option.bind_some, r2]
def w_W0 (i : Nat) : Nat := [116, 104, 105, 110, 103, 115].getD i 0
def w_W1 (i : Nat) : Nat := [115, 101, 116].getD i 0
def w_W2 (i : Nat) : Nat := [112, 97, 105, 114].getD i 0
def w_isw (w : Nat → Nat) (len : Nat) (t : Nat → Nat) (κ s e : Nat) : Prop := κ = 1 ∧ e - s = len ∧ ∀ i, i < len → t (s + i) = w i
theorem ck_1 : ∀ κ, κ < 6 → (nI (w_ck κ) = 1 ↔ κ = 1) := by decide +kernel
theorem ck_2 : ∀ κ, κ < 6 → (nI (w_ck κ) = 2 ↔ κ = 2) := by decide +kernel
theorem ck_3 : ∀ κ, κ < 6 → (nI (w_ck κ) = 3 ↔ κ = 3) := by decide +kernel
theorem ck_0 : ∀ κ, κ < 6 → (nI (w_ck κ) = 0 ↔ κ = 0 ∨ κ = 5) := by decide +kernel
theorem mk_2 : ∀ κ, κ < 6 → (nI (w_mk κ) = 2 ↔ κ = 1) := by decide +kernel
theorem mk_3 : ∀ κ, κ < 6 → (nI (w_mk κ) = 3 ↔ κ = 2) := by decide +kernel
theorem mk_4 : ∀ κ, κ < 6 → (nI (w_mk κ) = 4 ↔ κ = 3) := by decide +kernel
theorem mk_0 : ∀ κ, κ < 6 → (nI (w_mk κ) = 0 ↔ κ = 0) := by decide +kernel
theorem mk_1 : ∀ κ, κ < 6 → (nI (w_mk κ) = 1 ↔ κ = 4 ∨ κ = 5) := by decide +kernel
theorem c_isw0 {σ : ps_S} {t : Nat → Nat} {L s e κ : Nat} (hκ : κ < 6) (hL : L ≤ 540) (ht : ∀ i, t i < 256) (hT : ∀ i, i < L → σ.1 37 i = (nI (t i)).toInt8.toInt32) (h7 : σ.1 36 7 = nI (w_ck κ)) (h8 : σ.1 36 8 = nI s) (h9 : κ = 1 → σ.1 36 9 = nI e ∧ s < e ∧ e ≤ L) : ∃ r, fX2_isWord_36_T0 σ = some r ∧ ((r = 1 ∧ w_isw w_W0 6 t κ s e) ∨ (r = 0 ∧ ¬ w_isw w_W0 6 t κ s e)) := by
  have hch : ∀ i, i < 6 → ps_ch 0 (nI i) = nI (w_W0 i) ∧ w_W0 i < 128 := by decide +kernel
  unfold fX2_isWord_36_T0
  rw [h7]
  by_cases c : κ = 1
  · obtain ⟨h9, hse, heL⟩ := h9 c
    rw [if_pos ((ck_1 κ hκ).mpr c), h9, h8, pk_sub (by omega), nl_6]
    by_cases d : e - s = 6
    · rw [if_pos (congrArg nI d)]
      obtain ⟨r, r1, r2⟩ := ps_fore (step := fun q => fX2_isWord_36_T0_S28 σ q) 6 (fun i q => q = nI i ∧ ∀ j, j < i → t (s + j) = w_W0 j) (fun r => (r = .inr () ∧ ∀ j, j < 6 → t (s + j) = w_W0 j) ∨ (r = .inl () ∧ ¬ ∀ j, j < 6 → t (s + j) = w_W0 j)) (F := 100000) (s := (0 : Int32)) (by
          rintro i q hi ⟨q1, q2⟩
          subst q1
          obtain ⟨hc1, hc2⟩ := hch i hi
          have pre : fX2_isWord_36_T0_S28 σ (nI i) = (if (nI (t (s + i))).toInt8.toInt32 = nI (w_W0 i) then some (.inl (nI (i + 1))) else some (.inr (.inl ()))) := by
            unfold fX2_isWord_36_T0_S28
            simp only [ps_let]
            rw [nl_6, if_neg (nI_ge hi (by omega)), h8, nI_add, pk_ok (by omega) (by decide), pk_ok (by omega) (by decide), nI_clamp (by omega), hT _ (by omega), hc1, nI_1]
          show (∃ s', fX2_isWord_36_T0_S28 σ (nI i) = some (.inl s') ∧ _) ∨ ∃ x, fX2_isWord_36_T0_S28 σ (nI i) = some (.inr x) ∧ _
          rw [pre]
          by_cases f : t (s + i) = w_W0 i
          · left
            rw [if_pos ((cb_eq (ht _) hc2).mpr f)]
            refine ⟨_, rfl, rfl, fun j hj => ?_⟩
            by_cases g : j = i
            · subst g; exact f
            · exact q2 j (by omega)
          · right
            rw [if_neg (fun z => f ((cb_eq (ht _) hc2).mp z))]
            exact ⟨_, rfl, Or.inr ⟨rfl, fun z => f (z i hi)⟩⟩) (by
          rintro q ⟨q1, q2⟩
          subst q1
          refine ⟨_, ?_, Or.inl ⟨rfl, q2⟩⟩
          show fX2_isWord_36_T0_S28 σ (nI 6) = _
          unfold fX2_isWord_36_T0_S28
          rw [if_pos (by decide)]) ⟨rfl, fun j hj => absurd hj (Nat.not_lt_zero _)⟩ (by decide)
      rw [r1, Option.bind_some]
      rcases r2 with ⟨hr, g⟩ | ⟨hr, g⟩
      · subst hr; exact ⟨1, rfl, Or.inl ⟨rfl, c, d, g⟩⟩
      · subst hr; exact ⟨0, rfl, Or.inr ⟨rfl, fun z => g z.2.2⟩⟩
    · rw [if_neg (fun z => d ((nI_eq (by omega) (by omega)).mp z))]
      exact ⟨0, rfl, Or.inr ⟨rfl, fun z => d z.2.1⟩⟩
  · rw [if_neg (fun z => c ((ck_1 κ hκ).mp z))]
    exact ⟨0, rfl, Or.inr ⟨rfl, fun z => c z.1⟩⟩
theorem c_isw1 {σ : ps_S} {t : Nat → Nat} {L s e κ : Nat} (hκ : κ < 6) (hL : L ≤ 540) (ht : ∀ i, t i < 256) (hT : ∀ i, i < L → σ.1 37 i = (nI (t i)).toInt8.toInt32) (h7 : σ.1 36 7 = nI (w_ck κ)) (h8 : σ.1 36 8 = nI s) (h9 : κ = 1 → σ.1 36 9 = nI e ∧ s < e ∧ e ≤ L) : ∃ r, fX2_isWord_36_T1 σ = some r ∧ ((r = 1 ∧ w_isw w_W1 3 t κ s e) ∨ (r = 0 ∧ ¬ w_isw w_W1 3 t κ s e)) := by
  have hch : ∀ i, i < 3 → ps_ch 1 (nI i) = nI (w_W1 i) ∧ w_W1 i < 128 := by decide +kernel
  unfold fX2_isWord_36_T1
  rw [h7]
  by_cases c : κ = 1
  · obtain ⟨h9, hse, heL⟩ := h9 c
    rw [if_pos ((ck_1 κ hκ).mpr c), h9, h8, pk_sub (by omega), nl_3]
    by_cases d : e - s = 3
    · rw [if_pos (congrArg nI d)]
      obtain ⟨r, r1, r2⟩ := ps_fore (step := fun q => fX2_isWord_36_T1_S28 σ q) 3 (fun i q => q = nI i ∧ ∀ j, j < i → t (s + j) = w_W1 j) (fun r => (r = .inr () ∧ ∀ j, j < 3 → t (s + j) = w_W1 j) ∨ (r = .inl () ∧ ¬ ∀ j, j < 3 → t (s + j) = w_W1 j)) (F := 100000) (s := (0 : Int32)) (by
          rintro i q hi ⟨q1, q2⟩
          subst q1
          obtain ⟨hc1, hc2⟩ := hch i hi
          have pre : fX2_isWord_36_T1_S28 σ (nI i) = (if (nI (t (s + i))).toInt8.toInt32 = nI (w_W1 i) then some (.inl (nI (i + 1))) else some (.inr (.inl ()))) := by
            unfold fX2_isWord_36_T1_S28
            simp only [ps_let]
            rw [nl_3, if_neg (nI_ge hi (by omega)), h8, nI_add, pk_ok (by omega) (by decide), pk_ok (by omega) (by decide), nI_clamp (by omega), hT _ (by omega), hc1, nI_1]
          show (∃ s', fX2_isWord_36_T1_S28 σ (nI i) = some (.inl s') ∧ _) ∨ ∃ x, fX2_isWord_36_T1_S28 σ (nI i) = some (.inr x) ∧ _
          rw [pre]
          by_cases f : t (s + i) = w_W1 i
          · left
            rw [if_pos ((cb_eq (ht _) hc2).mpr f)]
            refine ⟨_, rfl, rfl, fun j hj => ?_⟩
            by_cases g : j = i
            · subst g; exact f
            · exact q2 j (by omega)
          · right
            rw [if_neg (fun z => f ((cb_eq (ht _) hc2).mp z))]
            exact ⟨_, rfl, Or.inr ⟨rfl, fun z => f (z i hi)⟩⟩) (by
          rintro q ⟨q1, q2⟩
          subst q1
          refine ⟨_, ?_, Or.inl ⟨rfl, q2⟩⟩
          show fX2_isWord_36_T1_S28 σ (nI 3) = _
          unfold fX2_isWord_36_T1_S28
          rw [if_pos (by decide)]) ⟨rfl, fun j hj => absurd hj (Nat.not_lt_zero _)⟩ (by decide)
      rw [r1, Option.bind_some]
      rcases r2 with ⟨hr, g⟩ | ⟨hr, g⟩
      · subst hr; exact ⟨1, rfl, Or.inl ⟨rfl, c, d, g⟩⟩
      · subst hr; exact ⟨0, rfl, Or.inr ⟨rfl, fun z => g z.2.2⟩⟩
    · rw [if_neg (fun z => d ((nI_eq (by omega) (by omega)).mp z))]
      exact ⟨0, rfl, Or.inr ⟨rfl, fun z => d z.2.1⟩⟩
  · rw [if_neg (fun z => c ((ck_1 κ hκ).mp z))]
    exact ⟨0, rfl, Or.inr ⟨rfl, fun z => c z.1⟩⟩
theorem c_isw2 {σ : ps_S} {t : Nat → Nat} {L s e κ : Nat} (hκ : κ < 6) (hL : L ≤ 540) (ht : ∀ i, t i < 256) (hT : ∀ i, i < L → σ.1 37 i = (nI (t i)).toInt8.toInt32) (h7 : σ.1 36 7 = nI (w_ck κ)) (h8 : σ.1 36 8 = nI s) (h9 : κ = 1 → σ.1 36 9 = nI e ∧ s < e ∧ e ≤ L) : ∃ r, fX2_isWord_36_T2 σ = some r ∧ ((r = 1 ∧ w_isw w_W2 4 t κ s e) ∨ (r = 0 ∧ ¬ w_isw w_W2 4 t κ s e)) := by
  have hch : ∀ i, i < 4 → ps_ch 2 (nI i) = nI (w_W2 i) ∧ w_W2 i < 128 := by decide +kernel
  unfold fX2_isWord_36_T2
  rw [h7]
  by_cases c : κ = 1
  · obtain ⟨h9, hse, heL⟩ := h9 c
    rw [if_pos ((ck_1 κ hκ).mpr c), h9, h8, pk_sub (by omega), nl_4]
    by_cases d : e - s = 4
    · rw [if_pos (congrArg nI d)]
      obtain ⟨r, r1, r2⟩ := ps_fore (step := fun q => fX2_isWord_36_T2_S28 σ q) 4 (fun i q => q = nI i ∧ ∀ j, j < i → t (s + j) = w_W2 j) (fun r => (r = .inr () ∧ ∀ j, j < 4 → t (s + j) = w_W2 j) ∨ (r = .inl () ∧ ¬ ∀ j, j < 4 → t (s + j) = w_W2 j)) (F := 100000) (s := (0 : Int32)) (by
          rintro i q hi ⟨q1, q2⟩
          subst q1
          obtain ⟨hc1, hc2⟩ := hch i hi
          have pre : fX2_isWord_36_T2_S28 σ (nI i) = (if (nI (t (s + i))).toInt8.toInt32 = nI (w_W2 i) then some (.inl (nI (i + 1))) else some (.inr (.inl ()))) := by
            unfold fX2_isWord_36_T2_S28
            simp only [ps_let]
            rw [nl_4, if_neg (nI_ge hi (by omega)), h8, nI_add, pk_ok (by omega) (by decide), pk_ok (by omega) (by decide), nI_clamp (by omega), hT _ (by omega), hc1, nI_1]
          show (∃ s', fX2_isWord_36_T2_S28 σ (nI i) = some (.inl s') ∧ _) ∨ ∃ x, fX2_isWord_36_T2_S28 σ (nI i) = some (.inr x) ∧ _
          rw [pre]
          by_cases f : t (s + i) = w_W2 i
          · left
            rw [if_pos ((cb_eq (ht _) hc2).mpr f)]
            refine ⟨_, rfl, rfl, fun j hj => ?_⟩
            by_cases g : j = i
            · subst g; exact f
            · exact q2 j (by omega)
          · right
            rw [if_neg (fun z => f ((cb_eq (ht _) hc2).mp z))]
            exact ⟨_, rfl, Or.inr ⟨rfl, fun z => f (z i hi)⟩⟩) (by
          rintro q ⟨q1, q2⟩
          subst q1
          refine ⟨_, ?_, Or.inl ⟨rfl, q2⟩⟩
          show fX2_isWord_36_T2_S28 σ (nI 4) = _
          unfold fX2_isWord_36_T2_S28
          rw [if_pos (by decide)]) ⟨rfl, fun j hj => absurd hj (Nat.not_lt_zero _)⟩ (by decide)
      rw [r1, Option.bind_some]
      rcases r2 with ⟨hr, g⟩ | ⟨hr, g⟩
      · subst hr; exact ⟨1, rfl, Or.inl ⟨rfl, c, d, g⟩⟩
      · subst hr; exact ⟨0, rfl, Or.inr ⟨rfl, fun z => g z.2.2⟩⟩
    · rw [if_neg (fun z => d ((nI_eq (by omega) (by omega)).mp z))]
      exact ⟨0, rfl, Or.inr ⟨rfl, fun z => d z.2.1⟩⟩
  · rw [if_neg (fun z => c ((ck_1 κ hκ).mp z))]
    exact ⟨0, rfl, Or.inr ⟨rfl, fun z => c z.1⟩⟩
theorem m_isw {σ : ps_S} {t w : Nat → Nat} {L s e κ len : Nat} (hκ : κ < 6) (hL : L ≤ 540) (ht : ∀ i, t i < 256) (hw : ∀ i, w i < 128) (hlen : len = 3 ∨ len = 4 ∨ len = 6) (hT : ∀ i, i < L → σ.1 46 i = nI (t i)) (h6 : σ.1 45 6 = nI (w_mk κ)) (h5 : σ.1 45 5 = nI s) (h4 : κ = 1 → σ.1 45 4 = nI e ∧ s < e ∧ e ≤ L) : ∃ r, fX5_isWord_J20 (nI (w 0)) (nI (w 1)) (nI (w 2)) (nI (w 3)) (nI (w 4)) (nI (w 5)) (nI len) σ = some r ∧ ((r = 1 ∧ w_isw w len t κ s e) ∨ (r = 0 ∧ ¬ w_isw w len t κ s e)) := by
  unfold fX5_isWord_J20
  rw [h6]
  by_cases c : κ = 1
  · obtain ⟨h4, hse, heL⟩ := h4 c
    rw [if_pos ((mk_2 κ hκ).mpr c), h4, h5, pk_sub (by omega)]
    by_cases d : e - s = len
    · rw [if_pos (congrArg nI d)]
      obtain ⟨r, r1, r2⟩ := ps_fore (step := fun q => fX5_isWord_S49 (nI (w 0)) (nI (w 1)) (nI (w 2)) (nI (w 3)) (nI (w 4)) (nI (w 5)) (nI len) σ q) len (fun i q => q = nI i ∧ ∀ j, j < i → t (s + j) = w j) (fun r => (r = .inr () ∧ ∀ j, j < len → t (s + j) = w j) ∨ (r = .inl () ∧ ¬ ∀ j, j < len → t (s + j) = w j)) (F := 100000) (s := (0 : Int32)) (by
          rintro i q hi ⟨q1, q2⟩
          subst q1
          have hti := ht (s + i)
          have hwi := hw i
          have pre : fX5_isWord_S49 (nI (w 0)) (nI (w 1)) (nI (w 2)) (nI (w 3)) (nI (w 4)) (nI (w 5)) (nI len) σ (nI i) = (if nI (t (s + i)) = nI (w i) then some (.inl (nI (i + 1))) else some (.inr (.inl ()))) := by
            unfold fX5_isWord_S49 fX5_isWord_J121
            simp only [ps_let]
            rw [if_neg (nI_ge hi (by omega)), h5, nI_add, pk_ok (by omega) (by decide), nI_clamp (by omega), hT _ (by omega), nI_1]
            have h6 : i = 0 ∨ i = 1 ∨ i = 2 ∨ i = 3 ∨ i = 4 ∨ i = 5 := by omega
            rcases h6 with rfl | rfl | rfl | rfl | rfl | rfl <;> rfl
          show (∃ s', fX5_isWord_S49 (nI (w 0)) (nI (w 1)) (nI (w 2)) (nI (w 3)) (nI (w 4)) (nI (w 5)) (nI len) σ (nI i) = some (.inl s') ∧ _) ∨ ∃ x, fX5_isWord_S49 (nI (w 0)) (nI (w 1)) (nI (w 2)) (nI (w 3)) (nI (w 4)) (nI (w 5)) (nI len) σ (nI i) = some (.inr x) ∧ _
          rw [pre]
          by_cases f : t (s + i) = w i
          · left
            rw [if_pos (congrArg nI f)]
            refine ⟨_, rfl, rfl, fun j hj => ?_⟩
            by_cases g : j = i
            · subst g; exact f
            · exact q2 j (by omega)
          · right
            rw [if_neg (fun z => f ((nI_eq (by omega) (by omega)).mp z))]
            exact ⟨_, rfl, Or.inr ⟨rfl, fun z => f (z i hi)⟩⟩) (by
          rintro q ⟨q1, q2⟩
          subst q1
          refine ⟨_, ?_, Or.inl ⟨rfl, q2⟩⟩
          show fX5_isWord_S49 (nI (w 0)) (nI (w 1)) (nI (w 2)) (nI (w 3)) (nI (w 4)) (nI (w 5)) (nI len) σ (nI len) = _
          unfold fX5_isWord_S49
          rw [if_pos (nI_le (by omega) (by omega))]) ⟨rfl, fun j hj => absurd hj (Nat.not_lt_zero _)⟩ (by omega)
      rw [r1, Option.bind_some]
      rcases r2 with ⟨hr, g⟩ | ⟨hr, g⟩
      · subst hr; exact ⟨1, rfl, Or.inl ⟨rfl, c, d, g⟩⟩
      · subst hr; exact ⟨0, rfl, Or.inr ⟨rfl, fun z => g z.2.2⟩⟩
    · rw [if_neg (fun z => d ((nI_eq (by omega) (by omega)).mp z))]
      exact ⟨0, rfl, Or.inr ⟨rfl, fun z => d z.2.1⟩⟩
  · rw [if_neg (fun z => c ((mk_2 κ hκ).mp z))]
    exact ⟨0, rfl, Or.inr ⟨rfl, fun z => c z.1⟩⟩
