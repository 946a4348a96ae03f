/-! numbers modulo the prime; acts kept, on both sides; put -/
theorem lrem_eq_mod (x y : Int64) : x - (x / y) * y = x % y := by
  apply Int64.toInt_inj.mp
  have h1 := Int64.le_toInt (x % y)
  have h2 := Int64.toInt_lt (x % y)
  rw [Int64.toInt_sub, Int64.toInt_mul, Int64.toInt_div, Int.bmod_mul_bmod, Int.sub_bmod_bmod, Int.mul_comm (x.toInt.tdiv y.toInt), ← Int.tmod_def, ← Int64.toInt_mod]
  exact Int.bmod_eq_of_le_mul_two (by omega) (by omega)
theorem lrem_toInt (x y : Int64) : (x - (x / y) * y).toInt = x.toInt.tmod y.toInt := by
  rw [lrem_eq_mod]; exact Int64.toInt_mod x y
/-- the number modulo the prime, 0 at least -/
def g_red (z : Int) : Nat := (z % 1000003).toNat
theorem g_red_lt (z : Int) : g_red z < 1000003 := by
  unfold g_red
  have := Int.emod_nonneg z (b := 1000003) (by decide)
  have := Int.emod_lt_of_pos z (b := 1000003) (by decide)
  omega
theorem i64_of_toInt {x : Int64} {n : Nat} (h : x.toInt = (n : Int)) (hn : n < 2 ^ 63) : x = lN n := by
  apply Int64.toInt_inj.mp
  rw [h, pk_lT hn]
theorem p_rest (v : Int64) : fX5_rest v = some (nI (g_red v.toInt)) := by
  unfold fX5_rest
  simp only [ps_let]
  have hP : (1000003 : Int64).toInt = 1000003 := pk_lT (n := 1000003) (Nat.le_of_ble_eq_true rfl)
  have ht := lrem_toInt v 1000003
  rw [hP] at ht
  generalize v - v / 1000003 * 1000003 = x at ht
  have hb := tmod_bounds (a := v.toInt) (M := 1000003) (by decide)
  have he : v.toInt.tmod 1000003 = v.toInt % 1000003 ∨ v.toInt.tmod 1000003 = v.toInt % 1000003 - 1000003 := by
    have he := Int.tmod_eq_emod (a := v.toInt) (b := 1000003)
    split at he
    · exact Or.inl (by rw [he]; simp)
    · exact Or.inr (by rw [he]; simp)
  unfold g_red
  have h1 := Int.emod_nonneg v.toInt (b := 1000003) (by decide)
  have h2 := Int.emod_lt_of_pos v.toInt (b := 1000003) (by decide)
  by_cases hx : x < 0
  · have hx' : x.toInt < 0 := by
      have := (fa_lt64 x 0).mp hx
      simpa using this
    have e1 : lg_cmp x 0 = -1 := by
      unfold lg_cmp
      rw [if_neg (fun q => by have := (fa_lt64 0 x).mp q; simp at this; omega), if_neg (fun q => by rw [q] at hx'; simp at hx')]
    rw [e1, if_neg (by decide)]
    have e2 : (x + 1000003).toInt = (((v.toInt % 1000003).toNat : Nat) : Int) := by
      rw [fb_addL] <;> rw [hP] <;> omega
    rw [i64_of_toInt e2 (by omega), lN_i]
  · have hx' : 0 ≤ x.toInt := by
      have := mt (fa_lt64 x 0).mpr hx
      simp at this
      omega
    have e1 : 0 ≤ lg_cmp x 0 := by
      unfold lg_cmp
      split
      · decide
      · split
        · decide
        · rename_i q1 q2
          exfalso
          apply q2
          apply Int64.toInt_inj.mp
          have := mt (fa_lt64 0 x).mpr q1
          simp at this
          simp
          omega
    rw [if_pos e1]
    have e2 : x.toInt = (((v.toInt % 1000003).toNat : Nat) : Int) := by omega
    rw [i64_of_toInt e2 (by omega), lN_i]
theorem p_reduce (v : Int64) : fX4_reduce v = some (nI (g_red v.toInt)) := p_rest v
