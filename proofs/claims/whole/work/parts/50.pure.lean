/-! pure words: states, loops, checks -/
theorem pu_i {σ : ps_S} {k j : Nat} {v : Int32} (k' j' : Nat) : (ps_ui σ k j v).1 k' j' = if k' = k ∧ j' = j then v else σ.1 k' j' := by
  simp only [ps_ui, va_up]
  by_cases h : k' = k
  · subst h
    by_cases h2 : j' = j
    · subst h2
      simp [pk_us]
    · simp [h2, pk_un h2]
  · simp [h]
theorem pu_i2 {σ : ps_S} {k j : Nat} {v : Int32} : (ps_ui σ k j v).2 = σ.2 := rfl
theorem pu_l {σ : ps_S} {k j : Nat} {v : Int64} (k' j' : Nat) : (ps_ul σ k j v).2 k' j' = if k' = k ∧ j' = j then v else σ.2 k' j' := by
  simp only [ps_ul, va_up]
  by_cases h : k' = k
  · subst h
    by_cases h2 : j' = j
    · subst h2
      simp [pk_uLs]
    · simp [h2, pk_uLn h2]
  · simp [h]
theorem pu_l1 {σ : ps_S} {k j : Nat} {v : Int64} : (ps_ul σ k j v).1 = σ.1 := rfl
theorem pu_r {σ : ps_S} {k : Nat} {f : Nat → Int32} (k' j' : Nat) : (ps_ur σ k f).1 k' j' = if k' = k then f j' else σ.1 k' j' := by
  simp only [ps_ur, va_up]
  by_cases h : k' = k <;> simp [h]
theorem pu_r2 {σ : ps_S} {k : Nat} {f : Nat → Int32} : (ps_ur σ k f).2 = σ.2 := rfl
/-- only cells of P differ -/
def ps_fr (P : Nat → Prop) (σ τ : ps_S) : Prop := ∀ k, ¬ P k → τ.1 k = σ.1 k ∧ τ.2 k = σ.2 k
theorem ps_fr.rf {P : Nat → Prop} {σ : ps_S} : ps_fr P σ σ := fun _ _ => ⟨rfl, rfl⟩
theorem ps_fr.tr {P : Nat → Prop} {σ τ υ : ps_S} (h1 : ps_fr P σ τ) (h2 : ps_fr P τ υ) : ps_fr P σ υ := fun k hk => ⟨(h2 k hk).1.trans (h1 k hk).1, (h2 k hk).2.trans (h1 k hk).2⟩
theorem ps_fr.wk {P Q : Nat → Prop} {σ τ : ps_S} (h : ps_fr P σ τ) (hPQ : ∀ k, P k → Q k) : ps_fr Q σ τ := fun k hk => h k (fun q => hk (hPQ k q))
theorem ps_fr_ui {P : Nat → Prop} {σ : ps_S} {k j : Nat} {v : Int32} (h : P k) : ps_fr P σ (ps_ui σ k j v) := fun i hi => ⟨ps_up_ne (fun e => hi (by rw [e]; exact h)), rfl⟩
theorem ps_fr_ul {P : Nat → Prop} {σ : ps_S} {k j : Nat} {v : Int64} (h : P k) : ps_fr P σ (ps_ul σ k j v) := fun i hi => ⟨rfl, ps_up_ne (fun e => hi (by rw [e]; exact h))⟩
theorem ps_fr_ur {P : Nat → Prop} {σ : ps_S} {k : Nat} {f : Nat → Int32} (h : P k) : ps_fr P σ (ps_ur σ k f) := fun i hi => ⟨ps_up_ne (fun e => hi (by rw [e]; exact h)), rfl⟩
/-- a loop ends, with what its invariant gives -/
theorem ps_tot {S X : Type} {step : S → Option (S ⊕ X)} (I : S → Prop) (Q : X → Prop) (μ : S → Nat) (hs : ∀ s, I s → (∃ s', step s = some (.inl s') ∧ I s' ∧ μ s' < μ s) ∨ ∃ x, step s = some (.inr x) ∧ Q x) : ∀ (F : Nat) (s : S), μ s < F → I s → ∃ x, ps_lp step F s = some x ∧ Q x
  | 0, _, h, _ => absurd h (Nat.not_lt_zero _)
  | F + 1, s, h, hI => by
    rcases hs s hI with ⟨s', h1, h2, h3⟩ | ⟨x, h1, h2⟩
    · obtain ⟨x, a, b⟩ := ps_tot I Q μ hs F s' (by omega) h2
      exact ⟨x, by simp only [ps_lp, h1, Option.bind_some]; exact a, b⟩
    · exact ⟨x, by simp only [ps_lp, h1, Option.bind_some], h2⟩
/-- a counted loop -/
theorem ps_for {S X : Type} {step : S → Option (S ⊕ X)} (N : Nat) (I : Nat → S → Prop) (Q : X → Prop) (hs : ∀ i s, i < N → I i s → ∃ s', step s = some (.inl s') ∧ I (i + 1) s') (hx : ∀ s, I N s → ∃ x, step s = some (.inr x) ∧ Q x) {F : Nat} {s : S} (h0 : I 0 s) (hF : N < F) : ∃ x, ps_lp step F s = some x ∧ Q x := by
  have H : ∀ d i s F, i + d = N → d < F → I i s → ∃ x, ps_lp step F s = some x ∧ Q x := by
    intro d
    induction d with
    | zero =>
      intro i s F hi hF hI
      obtain ⟨x, h1, h2⟩ := hx s (by rw [← hi]; exact hI)
      match F, hF with
      | F + 1, _ => exact ⟨x, by simp only [ps_lp, h1, Option.bind_some], h2⟩
    | succ d ih =>
      intro i s F hi hF hI
      obtain ⟨s', h1, h2⟩ := hs i s (by omega) hI
      match F, hF with
      | F + 1, hF =>
        obtain ⟨x, a, b⟩ := ih (i + 1) s' F (by omega) (by omega) h2
        exact ⟨x, by simp only [ps_lp, h1, Option.bind_some]; exact a, b⟩
  exact H N 0 s F (by omega) hF h0
theorem pk_ok {α : Type} {i n : Nat} {x : Option α} (h : i < n) (hn : n < 2 ^ 31) : ps_ck (nI i) n x = x := by
  unfold ps_ck
  rw [if_neg (nI_in h hn)]
theorem pk_okI {α : Type} {i : Int32} {n : Nat} {x : Option α} (h : vp_in i n) : ps_ck i n x = x := by
  unfold ps_ck
  rw [if_neg h]
theorem pk_lit {α : Type} (m : Nat) {n : Nat} {x : Option α} {i : Int32} (e : i = nI m) (h : m < n) (hn : n < 2 ^ 31) : ps_ck i n x = x := by rw [e]; exact pk_ok h hn
theorem pz_ok {α : Type} {y : Int32} {x : Option α} (h : ¬ y = 0) : ps_cz y x = x := by unfold ps_cz; rw [if_neg h]
theorem pb_ok {α : Type} {y : Int32} {x : Option α} (h : y = 0 ∨ y = 1) : ps_cb y x = x := by unfold ps_cb; rw [if_pos h]
theorem pc_ok {α : Type} {sp dp n : Int32} {n0 n1 : Nat} {x : Option α} (h : ¬ sp < 0 ∧ ¬ dp < 0 ∧ ¬ n < 0 ∧ sp.toNatClampNeg + n.toNatClampNeg ≤ n0 ∧ dp.toNatClampNeg + n.toNatClampNeg ≤ n1) : ps_cc sp dp n n0 n1 x = x := by unfold ps_cc; rw [if_pos h]
/-- numbers of the code, as nI -/
theorem nL (n : Nat) : (OfNat.ofNat n : Int32) = nI n := rfl
theorem nM1 : (-1 : Int32) = -nI 1 := rfl
/-- an int that is no nI of a small number: below zero, or not below it -/
theorem n_cases (x : Int32) (n : Nat) (hn : n < 2 ^ 31) : (x < 0) ∨ (nI n ≤ x ∧ ¬ x < 0) ∨ ∃ j, j < n ∧ x = nI j := by
  rcases pk_ix x hn with h | h | h
  · exact Or.inl h
  · by_cases h0 : x < 0
    · exact Or.inl h0
    · exact Or.inr (Or.inl ⟨h, h0⟩)
  · exact Or.inr (Or.inr h)
theorem nl_2 : (2 : Int32) = nI 2 := rfl
theorem nl_3 : (3 : Int32) = nI 3 := rfl
theorem nl_4 : (4 : Int32) = nI 4 := rfl
theorem nl_5 : (5 : Int32) = nI 5 := rfl
theorem nl_6 : (6 : Int32) = nI 6 := rfl
theorem nl_7 : (7 : Int32) = nI 7 := rfl
theorem nl_8 : (8 : Int32) = nI 8 := rfl
theorem nl_9 : (9 : Int32) = nI 9 := rfl
theorem nl_10 : (10 : Int32) = nI 10 := rfl
theorem nl_11 : (11 : Int32) = nI 11 := rfl
theorem nl_12 : (12 : Int32) = nI 12 := rfl
theorem nl_13 : (13 : Int32) = nI 13 := rfl
theorem nl_14 : (14 : Int32) = nI 14 := rfl
theorem nl_15 : (15 : Int32) = nI 15 := rfl
theorem nl_16 : (16 : Int32) = nI 16 := rfl
theorem nl_17 : (17 : Int32) = nI 17 := rfl
theorem nl_18 : (18 : Int32) = nI 18 := rfl
theorem nl_19 : (19 : Int32) = nI 19 := rfl
theorem nl_20 : (20 : Int32) = nI 20 := rfl
theorem nl_21 : (21 : Int32) = nI 21 := rfl
theorem nl_22 : (22 : Int32) = nI 22 := rfl
theorem nl_23 : (23 : Int32) = nI 23 := rfl
theorem nl_24 : (24 : Int32) = nI 24 := rfl
theorem nl_25 : (25 : Int32) = nI 25 := rfl
theorem nl_26 : (26 : Int32) = nI 26 := rfl
theorem nl_27 : (27 : Int32) = nI 27 := rfl
theorem nl_28 : (28 : Int32) = nI 28 := rfl
theorem nl_29 : (29 : Int32) = nI 29 := rfl
theorem nl_30 : (30 : Int32) = nI 30 := rfl
theorem nl_31 : (31 : Int32) = nI 31 := rfl
theorem nl_32 : (32 : Int32) = nI 32 := rfl
theorem nl_48 : (48 : Int32) = nI 48 := rfl
theorem nl_57 : (57 : Int32) = nI 57 := rfl
theorem nl_59 : (59 : Int32) = nI 59 := rfl
theorem nl_60 : (60 : Int32) = nI 60 := rfl
theorem nl_63 : (63 : Int32) = nI 63 := rfl
theorem nl_97 : (97 : Int32) = nI 97 := rfl
theorem nl_99 : (99 : Int32) = nI 99 := rfl
theorem nl_100 : (100 : Int32) = nI 100 := rfl
theorem nl_101 : (101 : Int32) = nI 101 := rfl
theorem nl_103 : (103 : Int32) = nI 103 := rfl
theorem nl_104 : (104 : Int32) = nI 104 := rfl
theorem nl_105 : (105 : Int32) = nI 105 := rfl
theorem nl_110 : (110 : Int32) = nI 110 := rfl
theorem nl_112 : (112 : Int32) = nI 112 := rfl
theorem nl_114 : (114 : Int32) = nI 114 := rfl
theorem nl_115 : (115 : Int32) = nI 115 := rfl
theorem nl_116 : (116 : Int32) = nI 116 := rfl
theorem nl_122 : (122 : Int32) = nI 122 := rfl
theorem nl_127 : (127 : Int32) = nI 127 := rfl
theorem nl_255 : (255 : Int32) = nI 255 := rfl
theorem nl_256 : (256 : Int32) = nI 256 := rfl
theorem nl_257 : (257 : Int32) = nI 257 := rfl
theorem nl_265 : (265 : Int32) = nI 265 := rfl
theorem nl_500 : (500 : Int32) = nI 500 := rfl
theorem nl_540 : (540 : Int32) = nI 540 := rfl
theorem nl_999 : (999 : Int32) = nI 999 := rfl
theorem nl_1289 : (1289 : Int32) = nI 1289 := rfl
theorem nl_9023 : (9023 : Int32) = nI 9023 := rfl
theorem nl_12345 : (12345 : Int32) = nI 12345 := rfl
theorem nl_1000000 : (1000000 : Int32) = nI 1000000 := rfl
theorem nl_1000001 : (1000001 : Int32) = nI 1000001 := rfl
theorem nl_1000003 : (1000003 : Int32) = nI 1000003 := rfl
theorem nl_252645135 : (252645135 : Int32) = nI 252645135 := rfl
theorem nl_858993459 : (858993459 : Int32) = nI 858993459 := rfl
theorem nl_1103515245 : (1103515245 : Int32) = nI 1103515245 := rfl
theorem nl_1431655765 : (1431655765 : Int32) = nI 1431655765 := rfl
