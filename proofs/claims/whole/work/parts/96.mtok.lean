/-! text: the model's tokens -/
def w_mf (σ τ : ps_S) : Prop := (∀ k, k ≠ 45 → τ.1 k = σ.1 k) ∧ τ.2 = σ.2 ∧ ∀ j, j ≠ 4 → j ≠ 5 → j ≠ 6 → j ≠ 7 → τ.1 45 j = σ.1 45 j
theorem w_mf.rf {σ : ps_S} : w_mf σ σ := ⟨fun _ _ => rfl, rfl, fun _ _ _ _ _ => rfl⟩
theorem w_mf.tr {σ τ υ : ps_S} (h : w_mf σ τ) (g : w_mf τ υ) : w_mf σ υ := ⟨fun k hk => (g.1 k hk).trans (h.1 k hk), g.2.1.trans h.2.1, fun j a b c d => (g.2.2 j a b c d).trans (h.2.2 j a b c d)⟩
theorem w_mf_ui {σ : ps_S} {j : Nat} {v : Int32} (h : j = 4 ∨ j = 5 ∨ j = 6 ∨ j = 7) : w_mf σ (ps_ui σ 45 j v) := ⟨fun k hk => ps_up_ne hk, rfl, fun i a b c d => by rw [pu_i, if_neg (fun q => by omega)]⟩
def w_mk (κ : Nat) : Nat := if κ = 1 then 2 else if κ = 2 then 3 else if κ = 3 then 4 else if κ = 0 then 0 else 1
/-- the number told from q on -/
def w_nu (t : Nat → Nat) (q : Nat) : Nat → Nat
  | 0 => 0
  | k + 1 => w_nu t q k * 10 + (t (q + k) - 48)
theorem w_nu_le {t : Nat → Nat} {q : Nat} : ∀ {k : Nat}, (∀ i, q ≤ i → i < q + k → w_di (t i)) → w_nu t q k + 1 ≤ 10 ^ k
  | 0, _ => Nat.le_refl _
  | k + 1, h => by
    have h1 := w_nu_le (k := k) (fun i a b => h i a (by omega))
    have h2 := h (q + k) (by omega) (by omega)
    unfold w_di at h2
    rw [w_nu, Nat.pow_succ]
    omega
theorem m_at {σ : ps_S} {t : Nat → Nat} {L p : Nat} (hL : L ≤ 540) (hp : p ≤ L) (h3 : σ.1 45 3 = nI L) (hT : ∀ i, i < L → σ.1 46 i = nI (t i)) : fX5_tapeAt (nI p) σ = some (nI (if p < L then t p else 0)) := by
  unfold fX5_tapeAt
  rw [h3]
  by_cases c : p < L
  · rw [if_neg (nI_ge c (by omega)), pk_ok (by omega) (by decide), nI_clamp (by omega), hT p c, if_pos c]
  · rw [if_pos (nI_le (by omega) (by omega)), if_neg c]; rfl
theorem m_run {σ : ps_S} {t : Nat → Nat} {L q r : Nat} (hL : L ≤ 540) (ht : ∀ i, t i < 256) (h3 : σ.1 45 3 = nI L) (hT : ∀ i, i < L → σ.1 46 i = nI (t i)) (h4 : σ.1 45 4 = nI q) (h5 : σ.1 45 5 = nI q) (r1 : q < r) (r2 : r ≤ L) (r3 : ∀ i, q ≤ i → i < r → w_an (t i)) (r4 : r < L → ¬ w_an (t r)) : ∃ τ, fX5_next_J160 (nI (t q)) σ = some τ ∧ w_mf σ τ ∧ τ.1 45 5 = nI q ∧ τ.1 45 4 = nI r ∧ ((∀ i, q ≤ i → i < r → w_le (t i)) → τ.1 45 6 = nI 2) ∧ ((∀ i, q ≤ i → i < r → w_di (t i)) → r ≤ q + 3 → τ.1 45 6 = nI 3 ∧ τ.1 45 7 = nI (w_nu t q (r - q))) ∧ ((∃ i, q ≤ i ∧ i < r ∧ w_di (t i)) → ((∃ i, q ≤ i ∧ i < r ∧ w_le (t i)) ∨ q + 3 < r) → τ.1 45 6 = nI 1) := by
  obtain ⟨b, hb⟩ : ∃ b : Int32, b = if 97 ≤ t q ∧ t q ≤ 122 then 1 else 0 := ⟨_, rfl⟩
  obtain ⟨e, e1, e2, e3, e4, e5, e6⟩ := ps_for (step := fun s => fX5_next_S172 b s.1 s.2) (r - q) (fun i s => w_mf σ s.2 ∧ s.2.1 45 5 = nI q ∧ s.2.1 45 4 = nI (q + i) ∧ ((s.1 = 1 ∧ ∀ j, j < i → (w_le (t (q + j)) ↔ w_le (t q))) ∨ (s.1 = 0 ∧ ∃ j, j < i ∧ ¬ (w_le (t (q + j)) ↔ w_le (t q)))) ∧ ((∀ j, j < i → w_di (t (q + j))) → i ≤ 3 → s.2.1 45 7 = nI (w_nu t q i))) (fun e => w_mf σ e.2 ∧ e.2.1 45 5 = nI q ∧ e.2.1 45 4 = nI r ∧ ((e.1 = 1 ∧ ∀ j, j < r - q → (w_le (t (q + j)) ↔ w_le (t q))) ∨ (e.1 = 0 ∧ ∃ j, j < r - q ∧ ¬ (w_le (t (q + j)) ↔ w_le (t q)))) ∧ ((∀ j, j < r - q → w_di (t (q + j))) → r - q ≤ 3 → e.2.1 45 7 = nI (w_nu t q (r - q)))) (F := 100000) (s := ((1 : Int32), ps_ui σ 45 7 0)) (by
      rintro i ⟨c, τ⟩ hi ⟨k1, k2, k3, k4, k5⟩
      simp only at k1 k2 k3 k4 k5
      have w3 : τ.1 45 3 = nI L := (k1.2.2 3 (by decide) (by decide) (by decide) (by decide)).trans h3
      have w46 : ∀ i, i < L → τ.1 46 i = nI (t i) := fun i hi => by rw [k1.1 46 (by decide)]; exact hT i hi
      have han := r3 (q + i) (by omega) (by omega)
      have hv := ht (q + i)
      -- the flag
      obtain ⟨f, hf⟩ : ∃ f : Int32, f = (if c = 0 then 0 else if (if 97 ≤ t (q + i) ∧ t (q + i) ≤ 122 then (1 : Int32) else 0) = b then 1 else 0) := ⟨_, rfl⟩
      have hbe : (if 97 ≤ t (q + i) ∧ t (q + i) ≤ 122 then (1 : Int32) else 0) = b ↔ (w_le (t (q + i)) ↔ w_le (t q)) := by
        rw [hb]
        unfold w_le
        by_cases d1 : 97 ≤ t (q + i) ∧ t (q + i) ≤ 122
        · by_cases d2 : 97 ≤ t q ∧ t q ≤ 122
          · rw [if_pos d1, if_pos d2]; exact ⟨fun _ => ⟨fun _ => d2, fun _ => d1⟩, fun _ => rfl⟩
          · rw [if_pos d1, if_neg d2]; exact ⟨fun z => absurd z (by decide), fun z => absurd (z.mp d1) d2⟩
        · by_cases d2 : 97 ≤ t q ∧ t q ≤ 122
          · rw [if_neg d1, if_pos d2]; exact ⟨fun z => absurd z (by decide), fun z => absurd (z.mpr d2) d1⟩
          · rw [if_neg d1, if_neg d2]; exact ⟨fun _ => ⟨fun z => absurd z d1, fun z => absurd z d2⟩, fun _ => rfl⟩
      have hflag : (f = 1 ∧ ∀ j, j < i + 1 → (w_le (t (q + j)) ↔ w_le (t q))) ∨ (f = 0 ∧ ∃ j, j < i + 1 ∧ ¬ (w_le (t (q + j)) ↔ w_le (t q))) := by
        rcases k4 with ⟨z, z2⟩ | ⟨z, j, j1, j2⟩
        · rw [z, if_neg (by decide)] at hf
          by_cases d : (if 97 ≤ t (q + i) ∧ t (q + i) ≤ 122 then (1 : Int32) else 0) = b
          · rw [if_pos d] at hf
            refine Or.inl ⟨hf, fun j hj => ?_⟩
            by_cases g : j = i
            · rw [g]; exact hbe.mp d
            · exact z2 j (by omega)
          · rw [if_neg d] at hf
            exact Or.inr ⟨hf, i, by omega, fun g => d (hbe.mpr g)⟩
        · rw [z, if_pos rfl] at hf
          exact Or.inr ⟨hf, j, by omega, j2⟩
      obtain ⟨ρ, hρ⟩ : ∃ ρ : ps_S, ρ = (if 3 ≤ i then τ else ps_ui τ 45 7 ((((10 : Int32) * (τ.1 45 7)) + nI (t (q + i))) - (48 : Int32))) := ⟨_, rfl⟩
      have hρm : w_mf σ ρ ∧ ρ.1 45 5 = nI q ∧ ρ.1 45 4 = nI (q + i) := by
        rw [hρ]
        split
        · exact ⟨k1, k2, k3⟩
        · exact ⟨k1.tr (w_mf_ui (by omega)), by rw [pu_i, if_neg (by omega)]; exact k2, by rw [pu_i, if_neg (by omega)]; exact k3⟩
      have hJ : fX5_next_J200 b c τ = some (.inl (f, ps_ui ρ 45 4 (nI (q + (i + 1))))) := by
        have h229 : ∀ u0, fX5_next_J229 b (nI (t (q + i))) u0 τ = some (.inl (u0, ps_ui ρ 45 4 (nI (q + (i + 1))))) := fun u0 => by
          unfold fX5_next_J229 fX5_next_J260
          simp only [ps_let]
          rw [k2, k3, pk_sub (by omega), show q + i - q = i by omega, nl_3]
          by_cases d : 3 ≤ i
          · rw [if_pos d] at hρ
            rw [if_pos (nI_le d (by omega)), hρ, nI_1]; rfl
          · rw [if_neg d] at hρ
            rw [if_neg (nI_ge (by omega) (by omega)), hρ, pu_i, if_neg (by omega), k3, nI_1]; rfl
        unfold fX5_next_J200 fX5_next_J228
        rw [k3, pk_ok (by omega) (by decide), nI_clamp (by omega), ps_let, w46 (q + i) (by omega), mb_le _ hv, Option.bind_some, h229, h229, hf]
        by_cases d : c = 0
        · rw [if_pos d, if_pos d]
        · rw [if_neg d, if_neg d]
          by_cases d2 : (if 97 ≤ t (q + i) ∧ t (q + i) ≤ 122 then (1 : Int32) else 0) = b
          · rw [if_pos d2, if_pos d2]
          · rw [if_neg d2, if_neg d2]
      refine ⟨(f, ps_ui ρ 45 4 (nI (q + (i + 1)))), ?_, hρm.1.tr (w_mf_ui (by omega)), ?_, ?_, hflag, ?_⟩
      · show fX5_next_S172 b c τ = _
        unfold fX5_next_S172
        rw [k3, m_at hL (by omega) w3 w46, if_pos (show q + i < L by omega), Option.bind_some, Option.bind_some, mb_le _ hv, Option.bind_some, mb_di _ hv, Option.bind_some, hJ]
        by_cases d : 97 ≤ t (q + i) ∧ t (q + i) ≤ 122
        · rw [if_pos d, if_neg (by decide)]
        · rw [if_neg d, if_pos (by decide)]
          rcases han with g | g
          · exact absurd g d
          · rw [if_pos (show 48 ≤ t (q + i) ∧ t (q + i) ≤ 57 from g), if_neg (by decide)]
      · show (ps_ui ρ 45 4 _).1 45 5 = _
        rw [pu_i, if_neg (by omega)]; exact hρm.2.1
      · show (ps_ui ρ 45 4 _).1 45 4 = _
        rw [pu_i, if_pos ⟨rfl, rfl⟩]
      · intro z1 z2
        show (ps_ui ρ 45 4 _).1 45 7 = _
        rw [pu_i, if_neg (by omega), hρ, if_neg (by omega), pu_i, if_pos ⟨rfl, rfl⟩, k5 (fun j hj => z1 j (by omega)) (by omega)]
        have hd := z1 i (by omega)
        have hle := w_nu_le (t := t) (q := q) (k := i) (fun j a b => by have := z1 (j - q) (by omega); rwa [show q + (j - q) = j by omega] at this)
        have h10 : 10 ^ i ≤ 10 ^ 2 := Nat.pow_le_pow_right (by decide) (by omega)
        unfold w_di at hd
        rw [nl_10, fa_mul, nI_add, nl_48, pk_sub (by omega), w_nu]
        congr 1
        omega) (by
      rintro ⟨c, τ⟩ ⟨k1, k2, k3, k4, k5⟩
      simp only at k1 k2 k3 k4 k5
      rw [show q + (r - q) = r by omega] at k3
      have w3 : τ.1 45 3 = nI L := (k1.2.2 3 (by decide) (by decide) (by decide) (by decide)).trans h3
      have w46 : ∀ i, i < L → τ.1 46 i = nI (t i) := fun i hi => by rw [k1.1 46 (by decide)]; exact hT i hi
      refine ⟨(c, τ), ?_, k1, k2, k3, k4, k5⟩
      show fX5_next_S172 b c τ = _
      unfold fX5_next_S172
      rw [k3, m_at hL r2 w3 w46, Option.bind_some, Option.bind_some]
      by_cases d : r < L
      · have hn := r4 d
        rw [if_pos d, mb_le _ (ht _), Option.bind_some, if_neg (show ¬ (97 ≤ t r ∧ t r ≤ 122) from fun g => hn (Or.inl g)), if_pos (by decide), mb_di _ (ht _), Option.bind_some, if_neg (show ¬ (48 ≤ t r ∧ t r ≤ 57) from fun g => hn (Or.inr g)), if_pos (by decide)]
      · rw [if_neg d, mb_le 0 (by decide), Option.bind_some, if_neg (show ¬ (97 ≤ 0 ∧ 0 ≤ 122) by omega), if_pos (by decide), mb_di 0 (by decide), Option.bind_some, if_neg (show ¬ (48 ≤ 0 ∧ 0 ≤ 57) by omega), if_pos (by decide)]) ⟨w_mf_ui (by omega), by rw [pu_i, if_neg (by omega)]; exact h5, by
        show (ps_ui σ 45 7 0).1 45 4 = _
        rw [pu_i, if_neg (by omega)]; exact h4, Or.inl ⟨rfl, fun j hj => absurd hj (Nat.not_lt_zero _)⟩, fun _ _ => by
        show (ps_ui σ 45 7 0).1 45 7 = _
        rw [pu_i, if_pos ⟨rfl, rfl⟩]; rfl⟩ (by omega)
  obtain ⟨c, τ⟩ := e
  simp only at e2 e3 e4 e5 e6
  have pre : fX5_next_J160 (nI (t q)) σ = (if c = 0 then fX5_next_J295 τ else if b = 0 then (if nI (r - q) ≤ 3 then fX5_next_J299 b τ else fX5_next_J295 τ) else fX5_next_J299 b τ) := by
    unfold fX5_next_J160
    rw [mb_le _ (ht _), Option.bind_some, ← hb]
    simp only [ps_let]
    rw [e1, Option.bind_some, e3, e4, pk_sub (by omega)]
  have fin : ∀ v : Nat, fX5_next_J160 (nI (t q)) σ = some (ps_ui τ 45 6 (nI v)) → ((∀ i, q ≤ i → i < r → w_le (t i)) → v = 2) → ((∀ i, q ≤ i → i < r → w_di (t i)) → r ≤ q + 3 → v = 3) → ((∃ i, q ≤ i ∧ i < r ∧ w_di (t i)) → ((∃ i, q ≤ i ∧ i < r ∧ w_le (t i)) ∨ q + 3 < r) → v = 1) → ∃ τ, fX5_next_J160 (nI (t q)) σ = some τ ∧ w_mf σ τ ∧ τ.1 45 5 = nI q ∧ τ.1 45 4 = nI r ∧ ((∀ i, q ≤ i → i < r → w_le (t i)) → τ.1 45 6 = nI 2) ∧ ((∀ i, q ≤ i → i < r → w_di (t i)) → r ≤ q + 3 → τ.1 45 6 = nI 3 ∧ τ.1 45 7 = nI (w_nu t q (r - q))) ∧ ((∃ i, q ≤ i ∧ i < r ∧ w_di (t i)) → ((∃ i, q ≤ i ∧ i < r ∧ w_le (t i)) ∨ q + 3 < r) → τ.1 45 6 = nI 1) := fun v g1 g2 g3 g4 => by
    have g6 : (ps_ui τ 45 6 (nI v)).1 45 6 = nI v := by rw [pu_i, if_pos ⟨rfl, rfl⟩]
    refine ⟨_, g1, e2.tr (w_mf_ui (by omega)), by rw [pu_i, if_neg (by omega)]; exact e3, by rw [pu_i, if_neg (by omega)]; exact e4, fun z => by rw [g6, g2 z], fun z1 z2 => ⟨by rw [g6, g3 z1 z2], ?_⟩, fun z1 z2 => by rw [g6, g4 z1 z2]⟩
    rw [pu_i, if_neg (by omega)]
    exact e6 (fun j hj => z1 (q + j) (by omega) (by omega)) (by omega)
  have dis : ∀ v, w_le v → w_di v → False := fun v a b => by unfold w_le at a; unfold w_di at b; omega
  have ofj : ∀ i, q ≤ i → i < r → i - q < r - q ∧ q + (i - q) = i := fun i a b => ⟨by omega, by omega⟩
  rcases e5 with ⟨z, z2⟩ | ⟨z, j, j1, j2⟩
  · rw [z, if_neg (by decide)] at pre
    have same : ∀ i, q ≤ i → i < r → (w_le (t i) ↔ w_le (t q)) := fun i a b => by
      have := z2 (i - q) (ofj i a b).1
      rwa [(ofj i a b).2] at this
    by_cases hq : w_le (t q)
    · have hb1 : b = 1 := by rw [hb]; exact if_pos hq
      have all : ∀ i, q ≤ i → i < r → w_le (t i) := fun i a b => (same i a b).mpr hq
      refine fin 2 ?_ (fun _ => rfl) (fun y _ => absurd (y q (Nat.le_refl _) r1) (fun g => dis _ hq g)) (fun ⟨i, i1, i2, i3⟩ _ => absurd i3 (fun g => dis _ (all i i1 i2) g))
      rw [pre, hb1, if_neg (by decide)]
      unfold fX5_next_J299
      rw [if_neg (by decide)]; rfl
    · have hb0 : b = 0 := by rw [hb]; exact if_neg hq
      have all : ∀ i, q ≤ i → i < r → ¬ w_le (t i) := fun i a b g => hq ((same i a b).mp g)
      rw [hb0, if_pos rfl] at pre
      by_cases hl : r ≤ q + 3
      · refine fin 3 ?_ (fun y => absurd (y q (Nat.le_refl _) r1) hq) (fun _ _ => rfl) (fun _ y => ?_)
        · rw [pre, nl_3, if_pos (nI_le (by omega) (by omega))]
          unfold fX5_next_J299
          rw [if_pos rfl]; rfl
        · rcases y with ⟨i, i1, i2, i3⟩ | y
          · exact absurd i3 (all i i1 i2)
          · omega
      · refine fin 1 ?_ (fun y => absurd (y q (Nat.le_refl _) r1) hq) (fun _ y => by omega) (fun _ _ => rfl)
        rw [pre, nl_3, if_neg (nI_ge (by omega) (by omega))]
        rfl
  · rw [z, if_pos rfl] at pre
    have hj1 := r3 (q + j) (by omega) (by omega)
    have hq1 := r3 q (Nat.le_refl _) r1
    refine fin 1 (by rw [pre]; rfl) (fun y => absurd (⟨fun _ => y q (Nat.le_refl _) r1, fun _ => y (q + j) (by omega) (by omega)⟩ : w_le (t (q + j)) ↔ w_le (t q)) j2) (fun y _ => absurd (⟨fun g => (dis _ g (y (q + j) (by omega) (by omega))).elim, fun g => (dis _ g (y q (Nat.le_refl _) r1)).elim⟩ : w_le (t (q + j)) ↔ w_le (t q)) j2) (fun _ _ => rfl)
theorem m_tok {σ : ps_S} {t : Nat → Nat} {L p κ s e : Nat} (hp : p ≤ L) (hL : L ≤ 540) (ht : ∀ i, t i < 256) (h3 : σ.1 45 3 = nI L) (hT : ∀ i, i < L → σ.1 46 i = nI (t i)) (h4 : σ.1 45 4 = nI p) (hk : w_tk t L p κ s e) : ∃ τ, fX5_next σ = some τ ∧ w_mf σ τ ∧ τ.1 45 6 = nI (w_mk κ) ∧ τ.1 45 5 = nI s ∧ (κ ≠ 5 → τ.1 45 4 = nI e) ∧ (κ = 2 → τ.1 45 7 = nI (w_nu t s (e - s))) := by
  obtain ⟨q, q1, q2, q3, q4, h⟩ := hk
  obtain ⟨c, c1, c2, c3⟩ := ps_for (step := fun s => fX5_next_S0 s) (q - p) (fun i s => w_mf σ s ∧ s.1 45 4 = nI (p + i)) (fun e => w_mf σ e ∧ e.1 45 4 = nI q) (F := 100000) (s := σ) (by
      rintro i τ hi ⟨k1, k2⟩
      have hb := q3 (p + i) (by omega) (by omega)
      have w3 : τ.1 45 3 = nI L := (k1.2.2 3 (by decide) (by decide) (by decide) (by decide)).trans h3
      have w46 : τ.1 46 (p + i) = nI (t (p + i)) := by rw [k1.1 46 (by decide)]; exact hT _ (by omega)
      have hv := ht (p + i)
      refine ⟨ps_ui τ 45 4 (nI (p + (i + 1))), ?_, k1.tr (w_mf_ui (by omega)), by rw [pu_i, if_pos ⟨rfl, rfl⟩]⟩
      show fX5_next_S0 τ = _
      unfold fX5_next_S0 fX5_next_J39
      simp only [ps_let]
      rw [w3, k2, if_neg (nI_ge (by omega) (by omega)), pk_ok (by omega) (by decide), nI_clamp (by omega), w46, pk_ok (by omega) (by decide), nI_1, nl_32, nl_10]
      rcases hb with g | g
      · rw [if_pos (congrArg nI g)]; rfl
      · rw [if_neg (fun z => by have := (nI_eq (by omega) (by decide)).mp z; omega), if_pos (congrArg nI g)]; rfl) (by
      rintro τ ⟨k1, k2⟩
      rw [show p + (q - p) = q by omega] at k2
      have w3 : τ.1 45 3 = nI L := (k1.2.2 3 (by decide) (by decide) (by decide) (by decide)).trans h3
      refine ⟨τ, ?_, k1, k2⟩
      show fX5_next_S0 τ = _
      unfold fX5_next_S0
      rw [w3, k2]
      by_cases d : q < L
      · have w46 : τ.1 46 q = nI (t q) := by rw [k1.1 46 (by decide)]; exact hT _ d
        have hn := q4 d
        have hv := ht q
        rw [if_neg (nI_ge d (by omega)), pk_ok (by omega) (by decide), nI_clamp (by omega), w46, pk_ok (by omega) (by decide), nl_32, nl_10, if_neg (fun z => hn (Or.inl ((nI_eq (by omega) (by decide)).mp z))), if_neg (fun z => hn (Or.inr ((nI_eq (by omega) (by decide)).mp z)))]
      · rw [if_pos (nI_le (by omega) (by omega))]) ⟨w_mf.rf, h4⟩ (by omega)
  have hc3 : c.1 45 3 = nI L := (c2.2.2 3 (by decide) (by decide) (by decide) (by decide)).trans h3
  have v3 : (ps_ui c 45 5 (nI q)).1 45 3 = nI L := by rw [pu_i, if_neg (by omega)]; exact hc3
  have v5 : (ps_ui c 45 5 (nI q)).1 45 5 = nI q := by rw [pu_i, if_pos ⟨rfl, rfl⟩]
  have pre : fX5_next σ = (if nI L ≤ 500 then fX5_next_J93 (ps_ui c 45 5 (nI q)) else if nI q < 500 then fX5_next_J93 (ps_ui c 45 5 (nI q)) else some (ps_ui (ps_ui (ps_ui c 45 5 (nI q)) 45 5 500) 45 6 1)) := by
    unfold fX5_next
    rw [c1, Option.bind_some]
    unfold fX5_next_J52
    simp only [ps_let]
    rw [c3, v3, v5]
  have hd5 : w_mf σ (ps_ui c 45 5 (nI q)) := c2.tr (w_mf_ui (by omega))
  have v4 : (ps_ui c 45 5 (nI q)).1 45 4 = nI q := by rw [pu_i, if_neg (by omega)]; exact c3
  generalize ps_ui c 45 5 (nI q) = d at pre hd5 v3 v4 v5
  by_cases hpast : 500 < L ∧ 500 ≤ q
  · rw [nl_500, if_neg (nI_ge hpast.1 (by omega)), if_neg (nI_nlt hpast.2 (by omega))] at pre
    rcases h with ⟨a, b, k1, k2⟩ | ⟨a, -⟩ | ⟨a, -⟩
    · refine ⟨_, pre, (hd5.tr (w_mf_ui (by omega))).tr (w_mf_ui (by omega)), ?_, ?_, fun z => absurd k1 z, fun z => by omega⟩
      · rw [pu_i, if_pos ⟨rfl, rfl⟩, k1]; rfl
      · rw [pu_i, if_neg (by omega), pu_i, if_pos ⟨rfl, rfl⟩, k2]
    · exact absurd hpast a
    · exact absurd hpast a
  · have pre2 : fX5_next σ = fX5_next_J93 d := by
      rw [pre, nl_500]
      by_cases g : L ≤ 500
      · rw [if_pos (nI_le g (by omega))]
      · rw [if_neg (nI_ge (by omega) (by omega)), if_pos (nI_lt (by omega) (by omega))]
    rcases h with ⟨a, b, -⟩ | ⟨a, b, k1, k2, k3⟩ | ⟨a, b, cc, r, r1, r2, r3, r4, h⟩
    · exact absurd ⟨a, b⟩ hpast
    · refine ⟨ps_ui d 45 6 0, ?_, hd5.tr (w_mf_ui (by omega)), ?_, ?_, fun _ => ?_, fun z => by omega⟩
      · rw [pre2]
        unfold fX5_next_J93
        rw [v3, v4, if_neg (nI_nlt (by omega) (by omega))]
        rfl
      · rw [pu_i, if_pos ⟨rfl, rfl⟩, k1]; rfl
      · rw [pu_i, if_neg (by omega), v5, k2, b]
      · rw [pu_i, if_neg (by omega), v4, k3, b]
    · rw [cc]
      have w46 : ∀ i, i < L → d.1 46 i = nI (t i) := fun i hi => by rw [hd5.1 46 (by decide)]; exact hT i hi
      have hv := ht q
      have pre3 : fX5_next σ = (if (if 97 ≤ t q ∧ t q ≤ 122 then (1 : Int32) else 0) = 0 then (if (if 48 ≤ t q ∧ t q ≤ 57 then (1 : Int32) else 0) = 0 then (if nI (t q) = 59 then fX5_next_J146 4 d else fX5_next_J146 1 d) else fX5_next_J160 (nI (t q)) d) else fX5_next_J160 (nI (t q)) d) := by
        rw [pre2]
        unfold fX5_next_J93
        rw [v3, v4, if_pos (nI_lt b (by omega)), pk_ok (by omega) (by decide), nI_clamp (by omega), ps_let, w46 q b, mb_le _ hv, Option.bind_some, mb_di _ hv, Option.bind_some]
      rcases h with ⟨dd, f, g⟩ | ⟨dd, f, h⟩
      · subst dd
        have hn := r4 b
        rw [if_neg (show ¬ (97 ≤ t r ∧ t r ≤ 122) from fun g => hn (Or.inl g)), if_pos (by decide), if_neg (show ¬ (48 ≤ t r ∧ t r ≤ 57) from fun g => hn (Or.inr g)), if_pos (by decide), nl_59] at pre3
        have fin : ∀ v : Nat, fX5_next σ = fX5_next_J146 (nI v) d → v = w_mk κ → κ ≠ 2 → ∃ τ, fX5_next σ = some τ ∧ w_mf σ τ ∧ τ.1 45 6 = nI (w_mk κ) ∧ τ.1 45 5 = nI r ∧ (κ ≠ 5 → τ.1 45 4 = nI e) ∧ (κ = 2 → τ.1 45 7 = nI (w_nu t r (e - r))) := fun v k1 k2 k3 => by
          refine ⟨ps_ui (ps_ui d 45 6 (nI v)) 45 4 (nI (r + 1)), ?_, (hd5.tr (w_mf_ui (by omega))).tr (w_mf_ui (by omega)), ?_, ?_, fun _ => ?_, fun z => absurd z k3⟩
          · rw [k1]
            unfold fX5_next_J146
            simp only [ps_let]
            rw [pu_i, if_neg (by omega), v4, nI_1]
          · rw [pu_i, if_neg (by omega), pu_i, if_pos ⟨rfl, rfl⟩, k2]
          · rw [pu_i, if_neg (by omega), pu_i, if_neg (by omega)]; exact v5
          · rw [pu_i, if_pos ⟨rfl, rfl⟩, f]
        by_cases g2 : t r = 59
        · rw [if_pos g2] at g
          rw [if_pos (congrArg nI g2)] at pre3
          exact fin 4 pre3 (by subst g; rfl) (by omega)
        · rw [if_neg g2] at g
          rw [if_neg (fun z => g2 ((nI_eq (by omega) (by decide)).mp z))] at pre3
          exact fin 1 pre3 (by subst g; rfl) (by omega)
      · have pre4 : fX5_next σ = fX5_next_J160 (nI (t q)) d := by
          rw [pre3]
          rcases r3 q (Nat.le_refl _) dd with g | g
          · rw [if_pos (show 97 ≤ t q ∧ t q ≤ 122 from g), if_neg (by decide)]
          · rw [if_pos (show 48 ≤ t q ∧ t q ≤ 57 from g), if_neg (show ¬ (1 : Int32) = 0 by decide)]
            split <;> rfl
        obtain ⟨τ, τ1, τ2, τ3, τ4, τ5, τ6, τ7⟩ := m_run (σ := d) hL ht v3 w46 v4 v5 dd r2 r3 r4
        refine ⟨τ, pre4.trans τ1, hd5.tr τ2, ?_, τ3, fun _ => by rw [τ4, f], fun z => ?_⟩
        · rcases h with ⟨g, k⟩ | ⟨g, l, k⟩ | ⟨g, k, l⟩
          · rw [τ5 k, g]; rfl
          · rw [(τ6 k l).1, g]; rfl
          · rw [τ7 k l, g]; rfl
        · rcases h with ⟨g, k⟩ | ⟨g, l, k⟩ | ⟨g, k, l⟩
          · omega
          · rw [(τ6 k l).2, f]
          · omega
