/-! text: bytes and tokens -/
theorem cb_le : ∀ v, v < 256 → fX2_isLetter (nI v).toInt8.toInt32 = some (if 97 ≤ v ∧ v ≤ 122 then 1 else 0) := by decide +kernel
theorem cb_di : ∀ v, v < 256 → fX2_isDigit (nI v).toInt8.toInt32 = some (if 48 ≤ v ∧ v ≤ 57 then 1 else 0) := by decide +kernel
theorem mb_le : ∀ v, v < 256 → fX5_isLetter (nI v) = some (if 97 ≤ v ∧ v ≤ 122 then 1 else 0) := by decide +kernel
theorem mb_di : ∀ v, v < 256 → fX5_isDigit (nI v) = some (if 48 ≤ v ∧ v ≤ 57 then 1 else 0) := by decide +kernel
theorem cb_val : ∀ v, v < 256 → (v < 128 → (nI v).toInt8.toInt32 = nI v) ∧ (128 ≤ v → (nI v).toInt8.toInt32 < 0) := by decide +kernel
theorem cb_eq {v c : Nat} (hv : v < 256) (hc : c < 128) : (nI v).toInt8.toInt32 = nI c ↔ v = c := by
  have h := cb_val v hv
  by_cases d : v < 128
  · rw [h.1 d, nI_eq (by omega) (by omega)]
  · refine ⟨fun q => ?_, fun q => by omega⟩
    have h1 := h.2 (by omega)
    rw [q] at h1
    exact absurd h1 (nI_pos (by omega))
def w_bl (v : Nat) : Prop := v = 32 ∨ v = 10
def w_le (v : Nat) : Prop := 97 ≤ v ∧ v ≤ 122
def w_di (v : Nat) : Prop := 48 ≤ v ∧ v ≤ 57
def w_an (v : Nat) : Prop := w_le v ∨ w_di v
theorem w_scan (P : Nat → Prop) (L : Nat) : ∀ d p, p + d = L → ∃ q, p ≤ q ∧ q ≤ L ∧ (∀ i, p ≤ i → i < q → P i) ∧ (q < L → ¬ P q) := by
  intro d
  induction d with
  | zero => intro p hp; exact ⟨p, Nat.le_refl _, by omega, fun i h1 h2 => by omega, fun h => by omega⟩
  | succ d ih =>
    intro p hp
    rcases Classical.em (P p) with c | c
    · obtain ⟨q, q1, q2, q3, q4⟩ := ih (p + 1) (by omega)
      refine ⟨q, by omega, q2, fun i h1 h2 => ?_, q4⟩
      by_cases e : i = p
      · rw [e]; exact c
      · exact q3 i (by omega) h2
    · exact ⟨p, Nat.le_refl _, by omega, fun i h1 h2 => by omega, fun _ => c⟩
def w_tk (t : Nat → Nat) (L p κ s e : Nat) : Prop :=
  ∃ q, p ≤ q ∧ q ≤ L ∧ (∀ i, p ≤ i → i < q → w_bl (t i)) ∧ (q < L → ¬ w_bl (t q)) ∧
   ((500 < L ∧ 500 ≤ q ∧ κ = 5 ∧ s = 500) ∨
    (¬ (500 < L ∧ 500 ≤ q) ∧ q = L ∧ κ = 0 ∧ s = L ∧ e = L) ∨
    (¬ (500 < L ∧ 500 ≤ q) ∧ q < L ∧ s = q ∧ ∃ r, q ≤ r ∧ r ≤ L ∧ (∀ i, q ≤ i → i < r → w_an (t i)) ∧ (r < L → ¬ w_an (t r)) ∧
       ((r = q ∧ e = q + 1 ∧ κ = if t q = 59 then 3 else 4) ∨
        (q < r ∧ e = r ∧ ((κ = 1 ∧ ∀ i, q ≤ i → i < r → w_le (t i)) ∨ (κ = 2 ∧ r ≤ q + 3 ∧ ∀ i, q ≤ i → i < r → w_di (t i)) ∨ (κ = 4 ∧ (∃ i, q ≤ i ∧ i < r ∧ w_di (t i)) ∧ ((∃ i, q ≤ i ∧ i < r ∧ w_le (t i)) ∨ q + 3 < r)))))))
theorem w_tk_ex (t : Nat → Nat) {L p : Nat} (hp : p ≤ L) : ∃ κ s e, w_tk t L p κ s e := by
  obtain ⟨q, q1, q2, q3, q4⟩ := w_scan (fun i => w_bl (t i)) L (L - p) p (by omega)
  by_cases c : 500 < L ∧ 500 ≤ q
  · exact ⟨5, 500, 0, q, q1, q2, q3, q4, Or.inl ⟨c.1, c.2, rfl, rfl⟩⟩
  by_cases d : q = L
  · exact ⟨0, L, L, q, q1, q2, q3, q4, Or.inr (Or.inl ⟨c, d, rfl, rfl, rfl⟩)⟩
  obtain ⟨r, r1, r2, r3, r4⟩ := w_scan (fun i => w_an (t i)) L (L - q) q (by omega)
  by_cases e : r = q
  · exact ⟨if t q = 59 then 3 else 4, q, q + 1, q, q1, q2, q3, q4, Or.inr (Or.inr ⟨c, by omega, rfl, r, r1, r2, r3, r4, Or.inl ⟨e, rfl, rfl⟩⟩)⟩
  have mk : ∀ κ, ((κ = 1 ∧ ∀ i, q ≤ i → i < r → w_le (t i)) ∨ (κ = 2 ∧ r ≤ q + 3 ∧ ∀ i, q ≤ i → i < r → w_di (t i)) ∨ (κ = 4 ∧ (∃ i, q ≤ i ∧ i < r ∧ w_di (t i)) ∧ ((∃ i, q ≤ i ∧ i < r ∧ w_le (t i)) ∨ q + 3 < r))) → ∃ κ s e, w_tk t L p κ s e := fun κ h => ⟨κ, q, r, q, q1, q2, q3, q4, Or.inr (Or.inr ⟨c, by omega, rfl, r, r1, r2, r3, r4, Or.inr ⟨by omega, rfl, h⟩⟩)⟩
  rcases Classical.em (∀ i, q ≤ i → i < r → w_le (t i)) with f | f
  · exact mk 1 (Or.inl ⟨rfl, f⟩)
  have hd : ∃ i, q ≤ i ∧ i < r ∧ w_di (t i) := Classical.byContradiction (fun hn => f (fun i h1 h2 => by
    rcases r3 i h1 h2 with g | g
    · exact g
    · exact absurd ⟨i, h1, h2, g⟩ hn))
  rcases Classical.em (∃ i, q ≤ i ∧ i < r ∧ w_le (t i)) with g | g
  · exact mk 4 (Or.inr (Or.inr ⟨rfl, hd, Or.inl g⟩))
  by_cases h : q + 3 < r
  · exact mk 4 (Or.inr (Or.inr ⟨rfl, hd, Or.inr h⟩))
  · refine mk 2 (Or.inr (Or.inl ⟨rfl, by omega, fun i h1 h2 => ?_⟩))
    rcases r3 i h1 h2 with k | k
    · exact absurd ⟨i, h1, h2, k⟩ g
    · exact k
/-- what a token is -/
theorem w_tk_f {t : Nat → Nat} {L p κ s e : Nat} (hp : p ≤ L) (h : w_tk t L p κ s e) : κ ≤ 5 ∧ (κ = 5 → s = 500) ∧ (κ = 0 → L ≤ 500 ∧ s = L ∧ e = L) ∧ (κ ≠ 0 → κ ≠ 5 → p ≤ s ∧ s < e ∧ e ≤ L) ∧ (κ = 1 → ∀ i, s ≤ i → i < e → w_le (t i)) ∧ (κ = 2 → e ≤ s + 3 ∧ ∀ i, s ≤ i → i < e → w_di (t i)) ∧ s ≤ 540 + L ∧ (κ = 5 → 500 < L) := by
  obtain ⟨q, q1, q2, q3, q4, h⟩ := h
  rcases h with ⟨a, b, c, d⟩ | ⟨a, b, c, d, f⟩ | ⟨a, b, c, r, r1, r2, r3, r4, h⟩
  · subst c d; exact ⟨by omega, fun _ => rfl, fun h => by omega, fun _ h => absurd rfl h, fun h => by omega, fun h => by omega, by omega, fun _ => a⟩
  · subst c; exact ⟨by omega, fun h => by omega, fun _ => ⟨by omega, d, f⟩, fun h => absurd rfl h, fun h => by omega, fun h => by omega, by omega, fun h => by omega⟩
  · subst c
    rcases h with ⟨d, f, g⟩ | ⟨d, f, ⟨g, k⟩ | ⟨g, m, k⟩ | ⟨g, -⟩⟩
    · have : κ = 3 ∨ κ = 4 := by rw [g]; split <;> omega
      exact ⟨by omega, fun h => by omega, fun h => by omega, fun _ _ => ⟨q1, by omega, by omega⟩, fun h => by omega, fun h => by omega, by omega, fun h => by omega⟩
    · subst f; exact ⟨by omega, fun h => by omega, fun h => by omega, fun _ _ => ⟨q1, d, r2⟩, fun _ => k, fun h => by omega, by omega, fun h => by omega⟩
    · subst f; exact ⟨by omega, fun h => by omega, fun h => by omega, fun _ _ => ⟨q1, d, r2⟩, fun h => by omega, fun _ => ⟨m, k⟩, by omega, fun h => by omega⟩
    · subst f; exact ⟨by omega, fun h => by omega, fun h => by omega, fun _ _ => ⟨q1, d, r2⟩, fun h => by omega, fun h => by omega, by omega, fun h => by omega⟩
/-- the class's reader moves -/
def w_cf (σ τ : ps_S) : Prop := (∀ k, k ≠ 36 → τ.1 k = σ.1 k) ∧ τ.2 = σ.2 ∧ ∀ j, j ≠ 7 → j ≠ 8 → j ≠ 9 → τ.1 36 j = σ.1 36 j
theorem w_cf.rf {σ : ps_S} : w_cf σ σ := ⟨fun _ _ => rfl, rfl, fun _ _ _ _ => rfl⟩
theorem w_cf.tr {σ τ υ : ps_S} (h : w_cf σ τ) (g : w_cf τ υ) : w_cf σ υ := ⟨fun k hk => (g.1 k hk).trans (h.1 k hk), g.2.1.trans h.2.1, fun j a b c => (g.2.2 j a b c).trans (h.2.2 j a b c)⟩
theorem w_cf_ui {σ : ps_S} {j : Nat} {v : Int32} (h : j = 7 ∨ j = 8 ∨ j = 9) : w_cf σ (ps_ui σ 36 j v) := ⟨fun k hk => ps_up_ne hk, rfl, fun i a b c => by rw [pu_i, if_neg (fun q => by omega)]⟩
theorem ct_zero {P : Nat → Bool} : ∀ {n : Nat}, fb_ct P n = 0 ↔ ∀ i, i < n → P i = false
  | 0 => ⟨fun _ i hi => absurd hi (Nat.not_lt_zero _), fun _ => rfl⟩
  | n + 1 => by
    rw [fb_ct_succ, Nat.add_eq_zero_iff, ct_zero (n := n)]
    constructor
    · intro h i hi
      by_cases c : i = n
      · subst c
        cases hp : P i
        · rfl
        · rw [hp] at h; exact absurd h.2 (by decide)
      · exact h.1 i (by omega)
    · intro h
      exact ⟨fun i hi => h i (by omega), by rw [h n (by omega)]; rfl⟩
theorem ct_full {P : Nat → Bool} : ∀ {n : Nat}, fb_ct P n = n ↔ ∀ i, i < n → P i = true
  | 0 => ⟨fun _ i hi => absurd hi (Nat.not_lt_zero _), fun _ => rfl⟩
  | n + 1 => by
    rw [fb_ct_succ]
    have hl := fb_ct_le P n
    constructor
    · intro h i hi
      have hn : P n = true := by
        cases hp : P n
        · rw [hp] at h; simp at h; omega
        · rfl
      rw [hn] at h
      have h1 : fb_ct P n = n := by simp at h; omega
      by_cases c : i = n
      · rw [c]; exact hn
      · exact ct_full.mp h1 i (by omega)
    · intro h
      rw [ct_full.mpr (fun i hi => h i (by omega)), h n (by omega)]; rfl
def w_db (t : Nat → Nat) (q i : Nat) : Bool := decide (48 ≤ t (q + i) ∧ t (q + i) ≤ 57)
theorem c_run {σ : ps_S} {t : Nat → Nat} {L q r : Nat} (hL : L ≤ 540) (ht : ∀ i, t i < 256) (h1 : σ.1 36 1 = nI L) (hT : ∀ i, i < L → σ.1 37 i = (nI (t i)).toInt8.toInt32) (h8 : σ.1 36 8 = nI q) (r1 : q ≤ r) (r2 : r ≤ L) (r3 : ∀ i, q ≤ i → i < r → w_an (t i)) (r4 : r < L → ¬ w_an (t r)) : ∃ τ, fX2_readRun σ = some τ ∧ w_cf σ τ ∧ τ.1 36 8 = nI q ∧ τ.1 36 9 = nI r ∧ τ.1 36 7 = nI (if fb_ct (w_db t q) (r - q) = 0 then 1 else if fb_ct (w_db t q) (r - q) = r - q then (if 3 < r - q then 4 else 2) else 4) := by
  obtain ⟨e, e1, e2, e3, e4, e5⟩ := ps_for (step := fun s => fX2_readRun_S10 s.1 s.2) (r - q) (fun i s => s.1 = nI (fb_ct (w_db t q) i) ∧ w_cf σ s.2 ∧ s.2.1 36 8 = nI q ∧ s.2.1 36 9 = nI (q + i)) (fun e => e.1 = nI (fb_ct (w_db t q) (r - q)) ∧ w_cf σ e.2 ∧ e.2.1 36 8 = nI q ∧ e.2.1 36 9 = nI r) (F := 100000) (s := ((0 : Int32), ps_ui σ 36 9 (σ.1 36 8))) (by
      rintro i ⟨c, τ⟩ hi ⟨q1, q2, q3, q4⟩
      simp only at q1 q2 q3 q4
      subst q1
      have w1 : τ.1 36 1 = nI L := (q2.2.2 1 (by decide) (by decide) (by decide)).trans h1
      have w37 : τ.1 37 (q + i) = (nI (t (q + i))).toInt8.toInt32 := by rw [q2.1 37 (by decide)]; exact hT _ (by omega)
      have han := r3 (q + i) (by omega) (by omega)
      have hct := fb_ct_le (w_db t q) i
      have hJ : fX2_readRun_J51 (nI (fb_ct (w_db t q) i)) τ = some (.inl (nI (fb_ct (w_db t q) (i + 1)), ps_ui τ 36 9 (nI (q + (i + 1))))) := by
        unfold fX2_readRun_J51 fX2_readRun_J72
        simp only [ps_let]
        rw [q4, pk_ok (by omega) (by decide), nI_clamp (by omega), w37, cb_di _ (ht _), Option.bind_some, nI_1, fb_ct_succ]
        by_cases d : 48 ≤ t (q + i) ∧ t (q + i) ≤ 57
        · have hd : w_db t q i = true := decide_eq_true d
          rw [if_pos d, if_neg (by decide), hd, n1, nI_add]; rfl
        · have hd : w_db t q i = false := decide_eq_false d
          rw [if_neg d, if_pos (by decide), hd, n0, nI_add]; rfl
      refine ⟨(nI (fb_ct (w_db t q) (i + 1)), ps_ui τ 36 9 (nI (q + (i + 1)))), ?_, rfl, q2.tr (w_cf_ui (by omega)), ?_, ?_⟩
      · show fX2_readRun_S10 (nI (fb_ct (w_db t q) i)) τ = _
        unfold fX2_readRun_S10
        rw [w1, q4, if_neg (nI_ge (by omega) (by omega)), pk_ok (by omega) (by decide), nI_clamp (by omega), w37, cb_le _ (ht _), Option.bind_some, pk_ok (by omega) (by decide), cb_di _ (ht _), Option.bind_some, hJ]
        by_cases d : 97 ≤ t (q + i) ∧ t (q + i) ≤ 122
        · rw [if_pos d, if_neg (by decide)]
        · rw [if_neg d, if_pos (by decide)]
          rcases han with g | g
          · exact absurd g d
          · rw [if_pos (show 48 ≤ t (q + i) ∧ t (q + i) ≤ 57 from g), if_neg (by decide)]
      · show (ps_ui τ 36 9 _).1 36 8 = _
        rw [pu_i, if_neg (by omega)]; exact q3
      · show (ps_ui τ 36 9 _).1 36 9 = _
        rw [pu_i, if_pos ⟨rfl, rfl⟩]) (by
      rintro ⟨c, τ⟩ ⟨q1, q2, q3, q4⟩
      simp only at q1 q2 q3 q4
      subst q1
      rw [show q + (r - q) = r by omega] at q4
      have w1 : τ.1 36 1 = nI L := (q2.2.2 1 (by decide) (by decide) (by decide)).trans h1
      refine ⟨(nI (fb_ct (w_db t q) (r - q)), τ), ?_, rfl, q2, q3, q4⟩
      show fX2_readRun_S10 (nI (fb_ct (w_db t q) (r - q))) τ = _
      unfold fX2_readRun_S10
      rw [w1, q4]
      by_cases d : r < L
      · have w37 : τ.1 37 r = (nI (t r)).toInt8.toInt32 := by rw [q2.1 37 (by decide)]; exact hT _ d
        have hn := r4 d
        rw [if_neg (nI_ge d (by omega)), pk_ok (by omega) (by decide), nI_clamp (by omega), w37, cb_le _ (ht _), Option.bind_some, if_neg (show ¬ (97 ≤ t r ∧ t r ≤ 122) from fun g => hn (Or.inl g)), if_pos (by decide), pk_ok (by omega) (by decide), cb_di _ (ht _), Option.bind_some, if_neg (show ¬ (48 ≤ t r ∧ t r ≤ 57) from fun g => hn (Or.inr g)), if_pos (by decide)]
      · rw [if_pos (nI_le (by omega) (by omega))]) ⟨rfl, w_cf_ui (by omega), by rw [pu_i, if_neg (by omega)]; exact h8, by
        show (ps_ui σ 36 9 _).1 36 9 = _
        rw [pu_i, if_pos ⟨rfl, rfl⟩]; exact h8⟩ (by omega)
  obtain ⟨c, τ⟩ := e
  simp only at e2 e3 e4 e5
  subst e2
  have hct := fb_ct_le (w_db t q) (r - q)
  have pre : fX2_readRun σ = fX2_readRun_J87 (nI (fb_ct (w_db t q) (r - q))) τ := by
    unfold fX2_readRun
    rw [ps_let, e1, Option.bind_some]
  have fin : ∀ v : Nat, fX2_readRun_J87 (nI (fb_ct (w_db t q) (r - q))) τ = some (ps_ui τ 36 7 (nI v)) → v = (if fb_ct (w_db t q) (r - q) = 0 then 1 else if fb_ct (w_db t q) (r - q) = r - q then (if 3 < r - q then 4 else 2) else 4) → ∃ τ, fX2_readRun σ = some τ ∧ w_cf σ τ ∧ τ.1 36 8 = nI q ∧ τ.1 36 9 = nI r ∧ τ.1 36 7 = nI (if fb_ct (w_db t q) (r - q) = 0 then 1 else if fb_ct (w_db t q) (r - q) = r - q then (if 3 < r - q then 4 else 2) else 4) := fun v h1 h2 => by
    refine ⟨_, pre.trans h1, e3.tr (w_cf_ui (by omega)), ?_, ?_, ?_⟩
    · rw [pu_i, if_neg (by omega)]; exact e4
    · rw [pu_i, if_neg (by omega)]; exact e5
    · rw [pu_i, if_pos ⟨rfl, rfl⟩, h2]
  by_cases d : fb_ct (w_db t q) (r - q) = 0
  · refine fin 1 ?_ (by rw [if_pos d])
    unfold fX2_readRun_J87
    rw [d, if_pos (by decide)]; rfl
  · by_cases f : fb_ct (w_db t q) (r - q) = r - q
    · by_cases g : 3 < r - q
      · refine fin 4 ?_ (by rw [if_neg d, if_pos f, if_pos g])
        unfold fX2_readRun_J87
        rw [if_neg (fun z => d ((nI0_iff (by omega)).mp z)), e4, e5, pk_sub (by omega), if_pos (congrArg nI f), f, nl_3, if_pos (nI_lt g (by omega))]; rfl
      · refine fin 2 ?_ (by rw [if_neg d, if_pos f, if_neg g])
        unfold fX2_readRun_J87
        rw [if_neg (fun z => d ((nI0_iff (by omega)).mp z)), e4, e5, pk_sub (by omega), if_pos (congrArg nI f), f, nl_3, if_neg (nI_nlt (by omega) (by omega))]; rfl
    · refine fin 4 ?_ (by rw [if_neg d, if_neg f])
      unfold fX2_readRun_J87
      rw [if_neg (fun z => d ((nI0_iff (by omega)).mp z)), e4, e5, pk_sub (by omega), if_neg (fun z => f ((nI_eq (by omega) (by omega)).mp z))]; rfl
def w_ck (κ : Nat) : Nat := if κ = 5 then 0 else κ
theorem c_tok {σ : ps_S} {t : Nat → Nat} {L p κ s e : Nat} (hp : p ≤ L) (hL : L ≤ 540) (ht : ∀ i, t i < 256) (h1 : σ.1 36 1 = nI L) (hT : ∀ i, i < L → σ.1 37 i = (nI (t i)).toInt8.toInt32) (h9 : σ.1 36 9 = nI p) (hk : w_tk t L p κ s e) : ∃ τ, fX2_nextToken σ = some τ ∧ w_cf σ τ ∧ τ.1 36 7 = nI (w_ck κ) ∧ τ.1 36 8 = nI s ∧ (κ ≠ 5 → τ.1 36 9 = nI e) := by
  obtain ⟨q, q1, q2, q3, q4, h⟩ := hk
  obtain ⟨E, hE⟩ : ∃ E, E = if 500 < L then 500 else L := ⟨_, rfl⟩
  have hE1 : E ≤ L ∧ E ≤ 500 ∧ (L ≤ 500 → E = L) ∧ (500 < L → E = 500) := by rw [hE]; split <;> omega
  obtain ⟨m, hm⟩ : ∃ m, m = if E ≤ p then p else if q ≤ E then q else E := ⟨_, rfl⟩
  have hm1 : p ≤ m ∧ (m < E → m = q) ∧ (∀ i, p ≤ i → i < m → i < E ∧ i < q) ∧ (E ≤ m ∨ m = q) ∧ m ≤ L := by
    rw [hm]
    split
    · exact ⟨Nat.le_refl _, fun _ => by omega, fun i _ _ => by omega, Or.inl (by assumption), hp⟩
    · split
      · exact ⟨q1, fun _ => rfl, fun i _ _ => ⟨by omega, by omega⟩, Or.inr rfl, q2⟩
      · exact ⟨by omega, fun _ => by omega, fun i _ _ => ⟨by omega, by omega⟩, Or.inl (Nat.le_refl _), by omega⟩
  obtain ⟨c, c1, c2, c3⟩ := ps_for (step := fun s => fX2_nextToken_S19 (nI E) s) (m - p) (fun i s => w_cf σ s ∧ s.1 36 8 = nI (p + i)) (fun e => w_cf σ e ∧ e.1 36 8 = nI m) (F := 100000) (s := ps_ui σ 36 8 (σ.1 36 9)) (by
      rintro i τ hi ⟨k1, k2⟩
      have hb := q3 (p + i) (by omega) (hm1.2.2.1 (p + i) (by omega) (by omega)).2
      have hlE := (hm1.2.2.1 (p + i) (by omega) (by omega)).1
      have w37 : τ.1 37 (p + i) = (nI (t (p + i))).toInt8.toInt32 := by rw [k1.1 37 (by decide)]; exact hT _ (by omega)
      refine ⟨ps_ui τ 36 8 (nI (p + (i + 1))), ?_, k1.tr (w_cf_ui (by omega)), by rw [pu_i, if_pos ⟨rfl, rfl⟩]⟩
      show fX2_nextToken_S19 (nI E) τ = _
      unfold fX2_nextToken_S19 fX2_nextToken_J55
      simp only [ps_let]
      rw [k2, if_neg (nI_ge hlE (by omega)), pk_ok (by omega) (by decide), nI_clamp (by omega), w37, pk_ok (by omega) (by decide), nI_1, nl_32, nl_10]
      rcases hb with g | g
      · rw [if_pos ((cb_eq (ht _) (by decide)).mpr g)]; rfl
      · rw [if_neg (fun z => by have := (cb_eq (ht _) (by decide)).mp z; omega), if_pos ((cb_eq (ht _) (by decide)).mpr g)]; rfl) (by
      rintro τ ⟨k1, k2⟩
      rw [show p + (m - p) = m by omega] at k2
      refine ⟨τ, ?_, k1, k2⟩
      show fX2_nextToken_S19 (nI E) τ = _
      unfold fX2_nextToken_S19
      rw [k2]
      by_cases d : E ≤ m
      · rw [if_pos (nI_le d (by omega))]
      · have hmq : m = q := hm1.2.1 (by omega)
        have w37 : τ.1 37 m = (nI (t m)).toInt8.toInt32 := by rw [k1.1 37 (by decide)]; exact hT _ (by omega)
        have hnb := q4 (by omega)
        rw [← hmq] at hnb
        rw [if_neg (nI_ge (by omega) (by omega)), pk_ok (by omega) (by decide), nI_clamp (by omega), w37, pk_ok (by omega) (by decide), nl_32, nl_10, if_neg (fun z => hnb (Or.inl ((cb_eq (ht _) (by decide)).mp z))), if_neg (fun z => hnb (Or.inr ((cb_eq (ht _) (by decide)).mp z)))]) ⟨w_cf_ui (by omega), by
        rw [pu_i, if_pos ⟨rfl, rfl⟩, h9]; rfl⟩ (by omega)
  have pre : fX2_nextToken σ = fX2_nextToken_J68 (nI E) c := by
    have hx : (if (500 : Int32) < σ.1 36 1 then (500 : Int32) else σ.1 36 1) = nI E := by
      rw [h1, nl_500, hE]
      by_cases d : 500 < L
      · rw [if_pos (nI_lt d (by omega)), if_pos d]
      · rw [if_neg (nI_nlt (by omega) (by omega)), if_neg d]
    unfold fX2_nextToken
    rw [hx]
    simp only [ps_let]
    rw [c1, Option.bind_some]
  by_cases hlt : m < E
  · have hmq := hm1.2.1 hlt
    subst hmq
    rcases h with ⟨a, b, -⟩ | ⟨a, b, -⟩ | ⟨a, b, cc, r, r1, r2, r3, r4, h⟩
    · omega
    · omega
    · rw [cc]
      have w1 : c.1 36 1 = nI L := (c2.2.2 1 (by decide) (by decide) (by decide)).trans h1
      obtain ⟨ρ, ρ1, ρ2, ρ3, ρ4, ρ5⟩ := c_run (σ := c) hL ht w1 (fun i hi => by rw [c2.1 37 (by decide)]; exact hT i hi) c3 r1 r2 r3 r4
      have pre2 : fX2_nextToken σ = (if nI r = nI m then ps_ck (nI m) 540 (if ρ.1 37 m = 59 then fX2_nextToken_J127 3 ρ else fX2_nextToken_J127 4 ρ) else some ρ) := by
        rw [pre]
        unfold fX2_nextToken_J68
        rw [c3, if_pos (nI_lt hlt (by omega)), ρ1, Option.bind_some, ρ3, ρ4, nI_clamp (by omega)]
      rcases h with ⟨d, f, g⟩ | ⟨d, f, h⟩
      · subst d
        have w37 : ρ.1 37 r = (nI (t r)).toInt8.toInt32 := by rw [ρ2.1 37 (by decide), c2.1 37 (by decide)]; exact hT _ b
        rw [if_pos rfl, pk_ok (by omega) (by decide), w37, nl_59] at pre2
        have fin : ∀ v : Nat, fX2_nextToken σ = fX2_nextToken_J127 (nI v) ρ → v = w_ck κ → ∃ τ, fX2_nextToken σ = some τ ∧ w_cf σ τ ∧ τ.1 36 7 = nI (w_ck κ) ∧ τ.1 36 8 = nI r ∧ (κ ≠ 5 → τ.1 36 9 = nI e) := fun v k1 k2 => by
          refine ⟨ps_ui (ps_ui ρ 36 7 (nI v)) 36 9 (nI (r + 1)), ?_, (((c2.tr ρ2).tr (w_cf_ui (by omega))).tr (w_cf_ui (by omega))), ?_, ?_, fun _ => ?_⟩
          · rw [k1]
            unfold fX2_nextToken_J127
            simp only [ps_let]
            rw [pu_i, if_neg (by omega), ρ4, nI_1]
          · rw [pu_i, if_neg (by omega), pu_i, if_pos ⟨rfl, rfl⟩, k2]
          · rw [pu_i, if_neg (by omega), pu_i, if_neg (by omega)]; exact ρ3
          · rw [pu_i, if_pos ⟨rfl, rfl⟩, f]
        by_cases g2 : t r = 59
        · rw [if_pos g2] at g
          rw [if_pos ((cb_eq (ht _) (by decide)).mpr g2)] at pre2
          exact fin 3 pre2 (by subst g; rfl)
        · rw [if_neg g2] at g
          rw [if_neg (fun z => g2 ((cb_eq (ht _) (by decide)).mp z))] at pre2
          exact fin 4 pre2 (by subst g; rfl)
      · rw [if_neg (fun z => by have := (nI_eq (by omega) (by omega)).mp z; omega)] at pre2
        refine ⟨ρ, pre2, c2.tr ρ2, ?_, ρ3, fun _ => by rw [ρ4, f]⟩
        rw [ρ5]
        congr 1
        rcases h with ⟨g, k⟩ | ⟨g, l, k⟩ | ⟨g, ⟨i, i1, i2, i3⟩, l⟩
        · have : fb_ct (w_db t m) (r - m) = 0 := ct_zero.mpr (fun i hi => decide_eq_false (fun z => by have := k (m + i) (by omega) (by omega); unfold w_le at this; omega))
          rw [if_pos this, g]; rfl
        · have h1 : fb_ct (w_db t m) (r - m) = r - m := ct_full.mpr (fun i hi => decide_eq_true (k (m + i) (by omega) (by omega)))
          rw [h1, if_neg (by omega), if_pos rfl, if_neg (by omega), g]; rfl
        · have h1 : fb_ct (w_db t m) (r - m) ≠ 0 := fun z => by
            have := ct_zero.mp z (i - m) (by omega)
            unfold w_db at this
            rw [show m + (i - m) = i by omega] at this
            exact (of_decide_eq_false this) i3
          rw [if_neg h1, g]
          by_cases h2 : fb_ct (w_db t m) (r - m) = r - m
          · rw [if_pos h2]
            rcases l with ⟨j, j1, j2, j3⟩ | l
            · have := ct_full.mp h2 (j - m) (by omega)
              unfold w_db at this
              rw [show m + (j - m) = j by omega] at this
              have := of_decide_eq_true this
              unfold w_le at j3
              omega
            · rw [if_pos (by omega)]; rfl
          · rw [if_neg h2]; rfl
  · have hge : E ≤ m := by omega
    have pre2 : fX2_nextToken σ = some (ps_ui (ps_ui (ps_ui c 36 8 (nI E)) 36 9 (nI E)) 36 7 0) := by
      rw [pre]
      unfold fX2_nextToken_J68
      rw [c3, if_neg (nI_nlt hge (by omega))]
      rfl
    refine ⟨_, pre2, ((c2.tr (w_cf_ui (by omega))).tr (w_cf_ui (by omega))).tr (w_cf_ui (by omega)), ?_⟩
    rw [pu_i, if_pos ⟨rfl, rfl⟩, pu_i, if_neg (by omega), pu_i, if_neg (by omega), pu_i, if_pos ⟨rfl, rfl⟩, pu_i, if_neg (by omega), pu_i, if_pos ⟨rfl, rfl⟩]
    have hqE : E ≤ q := by
      rcases hm1.2.2.2.1 with z | z
      · rw [hm] at hge
        split at hge
        · omega
        · split at hge
          · omega
          · omega
      · omega
    rcases h with ⟨a, b, k1, k2⟩ | ⟨a, b, k1, k2, k3⟩ | ⟨a, b, -⟩
    · exact ⟨by subst k1; rfl, by rw [k2, hE1.2.2.2 a], fun z => absurd k1 z⟩
    · have : E = L := by omega
      exact ⟨by subst k1; rfl, by rw [k2, this], fun _ => by rw [k3, this]⟩
    · omega
