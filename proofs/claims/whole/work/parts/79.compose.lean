/-! the class's compose -/
theorem oi_add (a b : Int) : Int64.ofInt (a + b) = Int64.ofInt a + Int64.ofInt b := Int64.ofInt_add a b
theorem oi_mul (a b : Int) : Int64.ofInt (a * b) = Int64.ofInt a * Int64.ofInt b := Int64.ofInt_mul a b
theorem oi_to (x : Int64) : Int64.ofInt x.toInt = x := Int64.ofInt_toInt x
theorem oi_w (x : Int32) : Int64.ofInt x.toInt = Int32.toInt64 x := by rw [← Int32.toInt_toInt64, oi_to]
theorem or_flip {l x : Nat} (h : l.testBit x = false) : 2 ^ x ||| l = l ^^^ 2 ^ x := Nat.eq_of_testBit_eq (fun i => by
  rw [Nat.testBit_or, fb_bit_flip, p2_bit]
  by_cases e : i = x
  · subst e; rw [h]; simp
  · have : ¬ x = i := fun q => e q.symm
    simp [e, this])
theorem rs_no {S l : Nat} (hS : S < 256) (h0 : S ≠ 0) (hl : g_sub l (g_rs S)) : l.testBit (g_lt S) = false ∧ l < S := by
  obtain ⟨l1, l2, l3, -⟩ := lt_ok S hS h0
  have := sub_le hl
  rw [rs_eq hS h0] at hl
  exact ⟨((sub_wo l2).mpr hl).2, by omega⟩
theorem c_takeOut {σ : ps_S} {k S : Nat} (hk : ps_ln k = 256) (hS : S < 256) (h0 : S ≠ 0) : fX3_takeOut k (nI S) σ = some (Int64.ofInt (s_dn (fun s => (σ.1 k s).toInt) (fun s => (σ.2 40 s).toInt) S)) := by
  obtain ⟨l1, l2, l3, l4, l5, -⟩ := lt_ok S hS h0
  have h2 : 2 ^ g_lt S < 256 := Nat.pow_lt_pow_right (by decide) l1
  have eX : S ^^^ g_rs S = 2 ^ g_lt S := by rw [← l5, ← Nat.xor_assoc, Nat.xor_self, Nat.zero_xor]
  unfold fX3_takeOut
  simp only [ps_let]
  rw [n1, rs_int S hS h0, fb_xorI, eX, hk, pk_ok h2 (by decide), pk_ok (by omega) (by decide), nI_clamp (by omega), nI_clamp (by omega)]
  obtain ⟨e, e1, e2⟩ := ps_subs (step := fun q => fX3_takeOut_S28 k (nI (g_rs S)) (nI (2 ^ g_lt S)) σ q.1 q.2) (g_rs S) (fun p q => q.2 = nI p ∧ q.1 = Int64.ofInt (u_d (g_rs S) (fun l => (σ.1 k (l ^^^ 2 ^ g_lt S)).toInt * (σ.2 40 (g_rs S ^^^ l)).toInt) p + (σ.1 k (2 ^ g_lt S)).toInt * (σ.2 40 (g_rs S)).toInt)) (fun e => e = Int64.ofInt (s_dn (fun s => (σ.1 k s).toInt) (fun s => (σ.2 40 s).toInt) S)) (by
      rintro p ⟨e, c⟩ hp hsub ⟨q1, q2⟩
      simp only at q1 q2
      subst q1
      obtain ⟨r1, r2⟩ := rs_no hS h0 hsub
      have hx : g_rs S ^^^ p < 256 := xor256 (by omega) (by omega)
      have hx2 : p ^^^ 2 ^ g_lt S < 256 := xor256 (by omega) h2
      refine ⟨(e + (Int32.toInt64 (σ.1 k (p ^^^ 2 ^ g_lt S))) * (σ.2 40 (g_rs S ^^^ p)), nI ((p - 1) &&& g_rs S)), ?_, rfl, ?_⟩
      · show fX3_takeOut_S28 k (nI (g_rs S)) (nI (2 ^ g_lt S)) σ e (nI p) = _
        unfold fX3_takeOut_S28
        simp only [ps_let]
        rw [if_neg (nI_nle hp (by omega)), fa_or, or_flip r1, hk, pk_ok hx2 (by decide), fb_xorI, pk_ok hx (by decide), nI_clamp (by omega), nI_clamp (by omega), n1, pk_sub (by omega), fa_and]
      · show e + _ = _
        rw [q2, u_d_step _ hsub hp, ← oi_w, ← oi_to (σ.2 40 (g_rs S ^^^ p)), ← oi_mul, ← oi_add, oi_to]
        congr 1
        omega) (by
      rintro ⟨e, c⟩ ⟨q1, q2⟩
      simp only at q1 q2
      subst q1
      refine ⟨e, ?_, ?_⟩
      · show fX3_takeOut_S28 k (nI (g_rs S)) (nI (2 ^ g_lt S)) σ e (nI 0) = _
        unfold fX3_takeOut_S28
        rw [if_pos (by decide)]
      · rw [q2]
        unfold s_dn
        rw [u_d_0 (g_rs S) (fun l => (σ.1 k (l ^^^ 2 ^ g_lt S)).toInt * (σ.2 40 (g_rs S ^^^ l)).toInt), Nat.zero_xor, Nat.xor_zero]) (F := 100000) (st := ((Int32.toInt64 (σ.1 k (2 ^ g_lt S))) * (σ.2 40 (g_rs S)), nI (g_rs S))) ⟨rfl, by
        show (Int32.toInt64 (σ.1 k (2 ^ g_lt S))) * (σ.2 40 (g_rs S)) = _
        rw [u_d_top, Int.zero_add, oi_mul, oi_w, oi_to]⟩ (by omega)
  rw [e1, Option.bind_some, e2]
theorem mod_tb {T e : Nat} : T % 2 ^ e = 0 ↔ ∀ i, i < e → T.testBit i = false := by
  constructor
  · intro h i hi
    have := congrArg (fun x => x.testBit i) h
    simpa [Nat.testBit_mod_two_pow, hi] using this
  · intro h
    apply Nat.eq_of_testBit_eq
    intro i
    rw [Nat.testBit_mod_two_pow, Nat.zero_testBit]
    by_cases hi : i < e
    · simp [h i hi]
    · simp [hi]
theorem mod_sub {S T d : Nat} (hS : S < 256) (h0 : S ≠ 0) (hd : S % 2 ^ d = 0) (hT : g_sub T (g_rs S)) : T % 2 ^ (d + 1) = 0 := by
  obtain ⟨l1, l2, l3, -, -, l6, -⟩ := lt_ok S hS h0
  rw [mod_tb]
  intro i hi
  cases q : T.testBit i
  · rfl
  · exfalso
    have h1 := hT i q
    rw [rs_tb hS h0] at h1
    obtain ⟨h2, h3⟩ := Bool.and_eq_true_iff.mp h1
    have h3 := of_decide_eq_true h3
    have h4 : ¬ i < g_lt S := fun z => by rw [l6 i z] at h2; exact absurd h2 (by decide)
    have h5 : ¬ g_lt S < d := fun z => by rw [mod_tb.mp hd _ z] at l2; exact absurd l2 (by decide)
    omega
/-- one round -/
theorem c_round {σ : ps_S} {k n d : Nat} {z : Int32} {a5 : Int32} {Rl Rc : Int64 → Int → Prop} {sl f : Nat → Int} (hk : ps_ln k = 256) (hn : n ≤ 8) (hd : d < n) (hRc : ∀ x z, Rc x z → Rl x z)
    (hf : ∀ s, s < 2 ^ n → (σ.1 k s).toInt = f s)
    (hstep : ∀ S (Gn : Nat → Int64) (Z : Nat → Int), S < 256 → S ≠ 0 → S < 2 ^ n → (∀ T, g_sub T (g_rs S) → Rl (Gn T) (Z T)) → Rc (if z = 0 then Int32.toInt64 (nI (g_red (Int64.ofInt (s_dn f (fun T => (Gn T).toInt) S)).toInt)) else Int64.ofInt (s_dn f (fun T => (Gn T).toInt) S)) (s_dn f Z S))
    (h0 : Rl (σ.2 40 0) (sl (d + 1))) (hT : ∀ T, T < 2 ^ n → T % 2 ^ (d + 1) = 0 → T ≠ 0 → Rc (σ.2 40 T) (s_H f sl (d + 1) T)) : ∃ τ, ps_lp (fun s => fX3_compose_S40 k z (nI (2 ^ n)) a5 (nI (2 ^ d)) s.1 s.2) 100000 (nI (2 ^ n) - nI (2 ^ d), σ) = some τ ∧ ps_fr (fun q => q = 40) σ τ ∧ (τ.1 = σ.1) ∧ (∀ T, T < 2 ^ n → T % 2 ^ d = 0 → T ≠ 0 → Rc (τ.2 40 T) (s_H f sl d T)) := by
  have h8 := p2_le n hn
  have hp := p2_pos d
  have hN : (2 ^ (n - d) - 1) * 2 ^ d + 2 ^ d = 2 ^ n := by
    rw [← Nat.succ_mul, Nat.succ_eq_add_one, Nat.sub_add_cancel (p2_pos (n - d)), ← Nat.pow_add, Nat.sub_add_cancel (by omega)]
  have hN2 : 2 ^ (n - d) ≤ 256 := p2_le _ (by omega)
  generalize hM : 2 ^ (n - d) - 1 = M at hN
  obtain ⟨τ, t1, t2, t3, t4⟩ := ps_for (step := fun s => fX3_compose_S40 k z (nI (2 ^ n)) a5 (nI (2 ^ d)) s.1 s.2) M
    (fun j q => q.1 = nI ((M - j) * 2 ^ d) ∧ ps_fr (fun c => c = 40) σ q.2 ∧ q.2.1 = σ.1 ∧ q.2.2 40 0 = σ.2 40 0 ∧ (∀ T, T < 2 ^ n → T % 2 ^ d = 0 → (M - j) * 2 ^ d < T → Rc (q.2.2 40 T) (s_H f sl d T)) ∧ ∀ T, T ≤ (M - j) * 2 ^ d → T % 2 ^ (d + 1) = 0 → T ≠ 0 → Rc (q.2.2 40 T) (s_H f sl (d + 1) T))
    (fun τ => ps_fr (fun c => c = 40) σ τ ∧ τ.1 = σ.1 ∧ ∀ T, T < 2 ^ n → T % 2 ^ d = 0 → T ≠ 0 → Rc (τ.2 40 T) (s_H f sl d T)) (F := 100000) (s := (nI (2 ^ n) - nI (2 ^ d), σ)) (by
      rintro j ⟨c, τ⟩ hj ⟨q1, q2, q3, q4, q5, q6⟩
      simp only at q1 q2 q3 q4 q5 q6
      subst q1
      have hS1 : (M - j) * 2 ^ d + j * 2 ^ d = M * 2 ^ d := by rw [← Nat.add_mul]; congr 1; omega
      have hS2 : (M - j) * 2 ^ d = (M - (j + 1)) * 2 ^ d + 2 ^ d := by rw [← Nat.succ_mul]; congr 1; omega
      generalize hS : (M - j) * 2 ^ d = S at hS1 hS2 q5 q6
      have hSd : S % 2 ^ d = 0 := by rw [← hS]; exact Nat.mul_mod_left _ _
      have hS0 : S ≠ 0 := by omega
      have hSn : S < 2 ^ n := by omega
      have hS8 : S < 256 := by omega
      have hto := c_takeOut (σ := τ) (k := k) hk hS8 hS0
      have hdn : s_dn (fun s => (τ.1 k s).toInt) (fun s => (τ.2 40 s).toInt) S = s_dn f (fun s => (τ.2 40 s).toInt) S := by
        refine u_s_cong (fun l hl hsub => ?_)
        obtain ⟨r1, r2⟩ := rs_no hS8 hS0 hsub
        have hlt := (lt_ok S hS8 hS0).1
        have hsb : g_sub (l ^^^ 2 ^ g_lt S) S := ((sub_with (lt_ok S hS8 hS0).2.1).mpr (by rw [← rs_eq hS8 hS0]; exact hsub)).1
        have := sub_le hsb
        show (τ.1 k (l ^^^ 2 ^ g_lt S)).toInt * _ = _
        rw [q3, hf _ (by omega)]
      rw [hdn] at hto
      have hval := hstep S (fun T => τ.2 40 T) (s_H f sl (d + 1)) hS8 hS0 hSn (fun T hT' => by
        have m1 := mod_sub hS8 hS0 hSd hT'
        have m2 := (rs_no hS8 hS0 hT').2
        by_cases e : T = 0
        · subst e
          rw [q4]; exact h0
        · exact hRc _ _ (q6 T (by omega) m1 e))
      rw [← s_H1 f sl d hS8 hS0] at hval
      generalize hv : (if z = 0 then Int32.toInt64 (nI (g_red (Int64.ofInt (s_dn f (fun T => (τ.2 40 T).toInt) S)).toInt)) else Int64.ofInt (s_dn f (fun T => (τ.2 40 T).toInt) S)) = v at hval
      refine ⟨(nI ((M - (j + 1)) * 2 ^ d), ps_ul τ 40 S v), ?_, rfl, q2.tr (ps_fr_ul rfl), q3, ?_, fun T hT1 hT2 hT3 => ?_, fun T hT1 hT2 hT3 => ?_⟩
      · show fX3_compose_S40 k z (nI (2 ^ n)) a5 (nI (2 ^ d)) (nI S) τ = _
        unfold fX3_compose_S40 fX3_compose_J75
        simp only [ps_let]
        rw [if_neg (nI_nle (by omega) (by omega)), hto, Option.bind_some, p_reduce, Option.bind_some, pk_ok hS8 (by decide), nI_clamp (by omega), pk_sub (by omega), show S - 2 ^ d = (M - (j + 1)) * 2 ^ d by omega]
        by_cases c : z = 0
        · rw [if_pos c] at hv ⊢
          rw [hv]
        · rw [if_neg c] at hv ⊢
          rw [pk_ok hS8 (by decide), hv]
      · show (ps_ul τ 40 S v).2 40 0 = _
        rw [pu_l, if_neg (by omega)]; exact q4
      · show Rc ((ps_ul τ 40 S v).2 40 T) _
        rw [pu_l]
        by_cases e : T = S
        · rw [if_pos ⟨rfl, e⟩, e]; exact hval
        · rw [if_neg (fun q => e q.2)]
          refine q5 T hT1 hT2 ?_
          have hT3 : (M - (j + 1)) * 2 ^ d < T := hT3
          have e1 := Nat.div_add_mod T (2 ^ d)
          rw [hT2, Nat.add_zero] at e1
          rw [← e1, Nat.mul_comm] at hT3
          have hc : M - (j + 1) < T / 2 ^ d := Nat.lt_of_mul_lt_mul_left hT3
          have : (M - j) * 2 ^ d ≤ T / 2 ^ d * 2 ^ d := Nat.mul_le_mul_right _ (by omega)
          rw [Nat.mul_comm (T / 2 ^ d), e1] at this
          omega
      · show Rc ((ps_ul τ 40 S v).2 40 T) _
        have hT1 : T ≤ (M - (j + 1)) * 2 ^ d := hT1
        rw [pu_l, if_neg (by omega)]
        exact q6 T (by omega) hT2 hT3) (by
      rintro ⟨c, τ⟩ ⟨q1, q2, q3, q4, q5, q6⟩
      simp only at q1 q2 q3 q4 q5 q6
      subst q1
      refine ⟨τ, ?_, q2, q3, fun T hT1 hT2 hT3 => q5 T hT1 hT2 (by rw [Nat.sub_self, Nat.zero_mul]; omega)⟩
      show fX3_compose_S40 k z (nI (2 ^ n)) a5 (nI (2 ^ d)) (nI ((M - M) * 2 ^ d)) τ = _
      unfold fX3_compose_S40
      rw [Nat.sub_self, Nat.zero_mul, if_pos (by decide)]) ⟨by
        show nI (2 ^ n) - nI (2 ^ d) = _
        rw [pk_sub (by omega), Nat.sub_zero]; congr 1; omega, ps_fr.rf, rfl, rfl, fun T hT1 hT2 hT3 => by
        exfalso
        rw [Nat.sub_zero] at hT3
        have e1 := Nat.div_add_mod T (2 ^ d)
        rw [hT2, Nat.add_zero] at e1
        rw [← e1, Nat.mul_comm] at hT3
        have hc : M < T / 2 ^ d := Nat.lt_of_mul_lt_mul_left hT3
        have : (M + 1) * 2 ^ d ≤ T / 2 ^ d * 2 ^ d := Nat.mul_le_mul_right _ (by omega)
        rw [Nat.mul_comm (T / 2 ^ d), e1, Nat.succ_mul] at this
        omega, fun T hT1 hT2 hT3 => hT T (by rw [Nat.sub_zero] at hT1; omega) hT2 hT3⟩ (by omega)
  exact ⟨τ, t1, t2, t3, t4⟩
theorem c_compose {σ : ps_S} {k n : Nat} {z : Int32} {Rl Rc : Int64 → Int → Prop} {sl f : Nat → Int} (hk : ps_ln k = 256) (hn : n ≤ 8) (hRc : ∀ x z, Rc x z → Rl x z)
    (hf : ∀ s, s < 2 ^ n → (σ.1 k s).toInt = f s)
    (hstep : ∀ S (Gn : Nat → Int64) (Z : Nat → Int), S < 256 → S ≠ 0 → S < 2 ^ n → (∀ T, g_sub T (g_rs S) → Rl (Gn T) (Z T)) → Rc (if z = 0 then Int32.toInt64 (nI (g_red (Int64.ofInt (s_dn f (fun T => (Gn T).toInt) S)).toInt)) else Int64.ofInt (s_dn f (fun T => (Gn T).toInt) S)) (s_dn f Z S))
    (hsl : ∀ d, d ≤ 8 → Rl (σ.2 41 d) (sl d)) : ∃ τ, fX3_compose k (nI n) z σ = some τ ∧ ps_fr (fun q => q = 40) σ τ ∧ (τ.1 = σ.1) ∧ τ.2 40 0 = σ.2 41 0 ∧ (∀ T, T < 2 ^ n → T ≠ 0 → Rc (τ.2 40 T) (s_H f sl 0 T)) := by
  have h8 := p2_le n hn
  unfold fX3_compose
  simp only [ps_let]
  rw [sh1 n hn, pk_ok (show n < 9 by omega) (by decide), n0, pk_ok (by decide) (by decide), nI_clamp (by decide), nI_clamp (by omega)]
  obtain ⟨τ, t1, t2, t3, t4, t5⟩ := ps_for (step := fun s => fX3_compose_S22 k z (nI (2 ^ n)) s.1 s.2) n
    (fun i q => q.1 = nI (n - i) - 1 ∧ ps_fr (fun c => c = 40) σ q.2 ∧ q.2.1 = σ.1 ∧ q.2.2 40 0 = σ.2 41 (n - i) ∧ ∀ T, T < 2 ^ n → T % 2 ^ (n - i) = 0 → T ≠ 0 → Rc (q.2.2 40 T) (s_H f sl (n - i) T))
    (fun τ => ps_fr (fun c => c = 40) σ τ ∧ τ.1 = σ.1 ∧ τ.2 40 0 = σ.2 41 0 ∧ ∀ T, T < 2 ^ n → T ≠ 0 → Rc (τ.2 40 T) (s_H f sl 0 T)) (F := 100000) (s := (nI n - 1, ps_ul σ 40 0 (σ.2 41 n))) (by
      rintro i ⟨c, τ⟩ hi ⟨q1, q2, q3, q4, q5⟩
      simp only at q1 q2 q3 q4 q5
      obtain ⟨d, hd⟩ : ∃ d, n - i = d + 1 := ⟨n - i - 1, by omega⟩
      rw [hd] at q1 q4 q5
      have ec : c = nI d := by rw [q1, nI_pred]
      subst ec
      have f41 : τ.2 41 = σ.2 41 := (q2 41 (by decide)).2
      obtain ⟨υ, u1, u2, u3, u4⟩ := c_round (σ := τ) (k := k) (n := n) (d := d) (z := z) (a5 := nI d) (Rl := Rl) (Rc := Rc) (sl := sl) (f := f) hk hn (by omega) hRc (fun s hs => by rw [q3]; exact hf s hs) hstep (by rw [q4]; exact hsl _ (by omega)) q5
      refine ⟨(nI d + (-1), ps_ul υ 40 0 (σ.2 41 d)), ?_, ?_, (q2.tr u2).tr (ps_fr_ul rfl), by show υ.1 = _; rw [u3]; exact q3, ?_, fun T hT1 hT2 hT3 => ?_⟩
      · show fX3_compose_S22 k z (nI (2 ^ n)) (nI d) τ = _
        unfold fX3_compose_S22
        simp only [ps_let]
        rw [if_neg (nI_pos (by omega)), sh1' d (by omega), u1, Option.bind_some, pk_ok (show d < 9 by omega) (by decide), n0, pk_ok (by decide) (by decide), nI_clamp (by omega), nI_clamp (by omega), (u2 41 (by decide)).2, f41]
      · show nI d + (-1) = nI (n - (i + 1)) - 1
        rw [show n - (i + 1) = d by omega, Int32.sub_eq_add_neg]
      · show (ps_ul υ 40 0 (σ.2 41 d)).2 40 0 = _
        rw [pu_l, if_pos ⟨rfl, rfl⟩, show n - (i + 1) = d by omega]
      · show Rc ((ps_ul υ 40 0 (σ.2 41 d)).2 40 T) _
        rw [pu_l, if_neg (fun q => hT3 q.2), show n - (i + 1) = d by omega]
        exact u4 T hT1 (by rw [show n - (i + 1) = d by omega] at hT2; exact hT2) hT3) (by
      rintro ⟨c, τ⟩ ⟨q1, q2, q3, q4, q5⟩
      simp only at q1 q2 q3 q4 q5
      rw [Nat.sub_self] at q1 q4 q5
      subst q1
      refine ⟨τ, ?_, q2, q3, q4, fun T hT1 hT3 => q5 T hT1 (Nat.mod_one T) hT3⟩
      show fX3_compose_S22 k z (nI (2 ^ n)) (nI 0 - 1) τ = _
      unfold fX3_compose_S22
      rw [if_pos (by decide)]) ⟨by rw [Nat.sub_zero], ps_fr_ul rfl, rfl, by
        show (ps_ul σ 40 0 (σ.2 41 n)).2 40 0 = _
        rw [pu_l, if_pos ⟨rfl, rfl⟩, Nat.sub_zero], fun T hT1 hT2 hT3 => by
        exfalso
        rw [Nat.sub_zero, Nat.mod_eq_of_lt hT1] at hT2
        exact hT3 hT2⟩ (by omega)
  exact ⟨τ, by rw [t1, Option.bind_some], t2, t3, t4, t5⟩
/-- modulo the prime; exactly -/
def rl_m (x : Int64) (z : Int) : Prop := -1000003 ≤ x.toInt ∧ x.toInt ≤ 1000003 ∧ pe 1000003 x.toInt z
def rc_m (x : Int64) (z : Int) : Prop := x = lN (g_red z)
theorem rc_rl (x : Int64) (z : Int) (h : rc_m x z) : rl_m x z := by
  have hl := g_red_lt z
  have e : x.toInt = (g_red z : Int) := by rw [h, pk_lT (by omega)]
  refine ⟨by omega, by omega, ?_⟩
  rw [e]
  exact pe_red.mpr (red_red z)
theorem u_bound {s : Nat} {g : Nat → Int} {c : Int} (hc : 0 ≤ c) (h : ∀ q, q ≤ s → g_sub q s → -c ≤ g q ∧ g q ≤ c) : -(((s + 1 : Nat) : Int) * c) ≤ u_s s g ∧ u_s s g ≤ ((s + 1 : Nat) : Int) * c := fb_si_bound hc (fun q hq => by
  show -c ≤ (if g_df q s = 0 then g q else 0) ∧ (if g_df q s = 0 then g q else 0) ≤ c
  by_cases e : g_df q s = 0
  · rw [if_pos e]; exact h q (by omega) (df_sub.mp e)
  · rw [if_neg e]; omega)
theorem step_m {f : Nat → Int} {n : Nat} (hn : n ≤ 8) (hf : ∀ s, s < 2 ^ n → 0 ≤ f s ∧ f s ≤ 1000003) : ∀ S (Gn : Nat → Int64) (Z : Nat → Int), S < 256 → S ≠ 0 → S < 2 ^ n → (∀ T, g_sub T (g_rs S) → rl_m (Gn T) (Z T)) → rc_m (if (0 : Int32) = 0 then Int32.toInt64 (nI (g_red (Int64.ofInt (s_dn f (fun T => (Gn T).toInt) S)).toInt)) else Int64.ofInt (s_dn f (fun T => (Gn T).toInt) S)) (s_dn f Z S) := by
  intro S Gn Z hS h0 hSn hG
  rw [if_pos rfl]
  have hr : g_rs S < S := (lt_ok S hS h0).2.2.1
  have hb : -(((g_rs S + 1 : Nat) : Int) * (1000003 * 1000003)) ≤ s_dn f (fun T => (Gn T).toInt) S ∧ s_dn f (fun T => (Gn T).toInt) S ≤ ((g_rs S + 1 : Nat) : Int) * (1000003 * 1000003) := u_bound (by decide) (fun l hl hsub => by
    have hsb : g_sub (l ^^^ 2 ^ g_lt S) S := ((sub_with (lt_ok S hS h0).2.1).mpr (by rw [← rs_eq hS h0]; exact hsub)).1
    have h1 := hf (l ^^^ 2 ^ g_lt S) (by have := sub_le hsb; omega)
    obtain ⟨h2, h3, -⟩ := hG _ (sub_rest hsub)
    show -(1000003 * 1000003 : Int) ≤ f (l ^^^ 2 ^ g_lt S) * (Gn (g_rs S ^^^ l)).toInt ∧ f (l ^^^ 2 ^ g_lt S) * (Gn (g_rs S ^^^ l)).toInt ≤ 1000003 * 1000003
    generalize f (l ^^^ 2 ^ g_lt S) = a at h1
    generalize (Gn (g_rs S ^^^ l)).toInt = b at h2 h3
    have m1 : a * b ≤ a * 1000003 := Int.mul_le_mul_of_nonneg_left h3 h1.1
    have m2 : a * (-1000003) ≤ a * b := Int.mul_le_mul_of_nonneg_left h2 h1.1
    omega)
  have hc : ((g_rs S + 1 : Nat) : Int) * (1000003 * 1000003) ≤ 256 * (1000003 * 1000003) := Int.mul_le_mul_of_nonneg_right (by omega) (by decide)
  have e1 : (Int64.ofInt (s_dn f (fun T => (Gn T).toInt) S)).toInt = s_dn f (fun T => (Gn T).toInt) S := by
    rw [Int64.toInt_ofInt]
    exact fb_bmodL (by omega) (by omega)
  rw [e1]
  have hl := g_red_lt (s_dn f (fun T => (Gn T).toInt) S)
  unfold rc_m
  rw [nI_l (by omega)]
  congr 1
  exact pe_red.mp (pe_u (fun l hl hsub => pe.ml _ (hG _ (sub_rest hsub)).2.2))
def rx (x : Int64) (z : Int) : Prop := x = Int64.ofInt z
theorem oi_si {f g : Nat → Int} : ∀ {n : Nat}, (∀ k, k < n → Int64.ofInt (f k) = Int64.ofInt (g k)) → Int64.ofInt (fb_si f n) = Int64.ofInt (fb_si g n)
  | 0, _ => rfl
  | n + 1, h => by rw [fb_si_succ, fb_si_succ, oi_add, oi_add, oi_si (fun k hk => h k (by omega)), h n (by omega)]
theorem step_x {f : Nat → Int} {n : Nat} {z : Int32} (hz : z ≠ 0) : ∀ S (Gn : Nat → Int64) (Z : Nat → Int), S < 256 → S ≠ 0 → S < 2 ^ n → (∀ T, g_sub T (g_rs S) → rx (Gn T) (Z T)) → rx (if z = 0 then Int32.toInt64 (nI (g_red (Int64.ofInt (s_dn f (fun T => (Gn T).toInt) S)).toInt)) else Int64.ofInt (s_dn f (fun T => (Gn T).toInt) S)) (s_dn f Z S) := by
  intro S Gn Z hS h0 hSn hG
  rw [if_neg hz]
  refine oi_si (fun l _ => ?_)
  show Int64.ofInt (if g_df l (g_rs S) = 0 then f (l ^^^ 2 ^ g_lt S) * (Gn (g_rs S ^^^ l)).toInt else 0) = Int64.ofInt (if g_df l (g_rs S) = 0 then f (l ^^^ 2 ^ g_lt S) * Z (g_rs S ^^^ l) else 0)
  by_cases c : g_df l (g_rs S) = 0
  · rw [if_pos c, if_pos c, oi_mul, oi_mul, oi_to, hG _ (sub_rest (df_sub.mp c))]
  · rw [if_neg c, if_neg c]
