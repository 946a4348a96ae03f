/-! colours -/
def k_pr (a : gG) (S k : Nat) (ψ : Nat → Nat) : Prop := (∀ t, S.testBit t = true → ψ t < k) ∧ ∀ t u, S.testBit t = true → S.testBit u = true → (g_j a t).testBit u = true → ψ t ≠ ψ u
def k_ag (S t : Nat) (ψ χ : Nat → Nat) : Prop := ∀ u, u < t → S.testBit u = true → ψ u = χ u
def k_ex (a : gG) (S k t : Nat) (χ : Nat → Nat) : Prop := ∃ ψ, k_pr a S k ψ ∧ k_ag S t ψ χ
def k_up (χ : Nat → Nat) (t c : Nat) : Nat → Nat := fun u => if u = t then c else χ u
def k_lf (a : gG) (S k t : Nat) (χ ψ : Nat → Nat) : Prop := k_pr a S k ψ ∧ k_ag S t ψ χ ∧ ∀ v, t ≤ v → S.testBit v = true → ∀ c, c < ψ v → ¬ k_ex a S k (v + 1) (k_up ψ v c)
def k_pp (a : gG) (S k t : Nat) (χ : Nat → Nat) : Prop := (∀ u, u < t → S.testBit u = true → χ u < k) ∧ ∀ u v, u < t → v < t → S.testBit u = true → S.testBit v = true → (g_j a u).testBit v = true → χ u ≠ χ v
theorem k_up_eq (χ : Nat → Nat) (t c : Nat) : k_up χ t c t = c := if_pos rfl
theorem k_up_ne (χ : Nat → Nat) {t u : Nat} (c : Nat) (h : u ≠ t) : k_up χ t c u = χ u := if_neg h
theorem ex_cong {a : gG} {S k t : Nat} {χ χ' : Nat → Nat} (h : k_ag S t χ χ') (hx : k_ex a S k t χ) : k_ex a S k t χ' := by
  obtain ⟨ψ, h1, h2⟩ := hx
  exact ⟨ψ, h1, fun u hu hs => (h2 u hu hs).trans (h u hu hs)⟩
theorem lf_uniq {a : gG} {S k : Nat} {χ χ' ψ ψ' : Nat → Nat} (h : k_lf a S k 0 χ ψ) (h' : k_lf a S k 0 χ' ψ') : ∀ v, S.testBit v = true → ψ v = ψ' v := by
  intro v
  induction v using Nat.strongRecOn with
  | _ v ih =>
    intro hv
    obtain ⟨a1, -, a3⟩ := h
    obtain ⟨b1, -, b3⟩ := h'
    have h1 : ¬ ψ v < ψ' v := fun q => b3 v (Nat.zero_le _) hv (ψ v) q ⟨ψ, a1, fun u hu hs => by
      by_cases c : u = v
      · subst c; rw [k_up_eq]
      · rw [k_up_ne _ _ c]; exact ih u (by omega) hs⟩
    have h2 : ¬ ψ' v < ψ v := fun q => a3 v (Nat.zero_le _) hv (ψ' v) q ⟨ψ', b1, fun u hu hs => by
      by_cases c : u = v
      · subst c; rw [k_up_eq]
      · rw [k_up_ne _ _ c]; exact (ih u (by omega) hs).symm⟩
    omega
theorem ag_out {S t : Nat} {ψ χ : Nat → Nat} (ht : S.testBit t = false) (h : k_ag S t ψ χ) : k_ag S (t + 1) ψ χ := fun u hu hs => by
  by_cases c : u = t
  · subst c; rw [ht] at hs; exact absurd hs (by decide)
  · exact h u (by omega) hs
theorem lf_out {a : gG} {S k t : Nat} {χ ψ : Nat → Nat} (ht : S.testBit t = false) (h : k_lf a S k (t + 1) χ ψ) : k_lf a S k t χ ψ := by
  obtain ⟨h1, h2, h3⟩ := h
  refine ⟨h1, fun u hu hs => h2 u (by omega) hs, fun v hv hs => ?_⟩
  by_cases c : v = t
  · subst c; rw [ht] at hs; exact absurd hs (by decide)
  · exact h3 v (by omega) hs
theorem ex_out {a : gG} {S k t : Nat} {χ : Nat → Nat} (ht : S.testBit t = false) (h : k_ex a S k t χ) : k_ex a S k (t + 1) χ := by
  obtain ⟨ψ, h1, h2⟩ := h
  exact ⟨ψ, h1, ag_out ht h2⟩
theorem lf_in {a : gG} {S k t i : Nat} {χ ψ : Nat → Nat} (ht : S.testBit t = true) (hno : ∀ c, c < i → ¬ k_ex a S k (t + 1) (k_up χ t c)) (h : k_lf a S k (t + 1) (k_up χ t i) ψ) : k_lf a S k t χ ψ := by
  obtain ⟨h1, h2, h3⟩ := h
  have hag : k_ag S t ψ χ := fun u hu hs => by
    have := h2 u (by omega) hs
    rw [k_up_ne _ _ (by omega)] at this
    exact this
  refine ⟨h1, hag, fun v hv hs c hc => ?_⟩
  by_cases e : v = t
  · subst e
    have hi := h2 v (by omega) ht
    rw [k_up_eq] at hi
    rw [hi] at hc
    refine fun q => hno c hc (ex_cong (fun u hu hs => ?_) q)
    by_cases d : u = v
    · subst d; rw [k_up_eq, k_up_eq]
    · rw [k_up_ne _ _ d, k_up_ne _ _ d]; exact hag u (by omega) hs
  · exact h3 v (by omega) hs c hc
theorem no_ex {a : gG} {S k t : Nat} {χ : Nat → Nat} (ht : S.testBit t = true) (hno : ∀ c, c < k → ¬ k_ex a S k (t + 1) (k_up χ t c)) : ¬ k_ex a S k t χ := by
  rintro ⟨ψ, h1, h2⟩
  refine hno (ψ t) (h1.1 t ht) ⟨ψ, h1, fun u hu hs => ?_⟩
  by_cases d : u = t
  · subst d; rw [k_up_eq]
  · rw [k_up_ne _ _ d]; exact h2 u (by omega) hs
theorem ex_swap {a : gG} {S k t c c' : Nat} {χ : Nat → Nat} (ht : S.testBit t = true) (hc : c < k) (hc' : c' < k) (hu : ∀ u, u < t → S.testBit u = true → χ u ≠ c ∧ χ u ≠ c') (h : k_ex a S k (t + 1) (k_up χ t c')) : k_ex a S k (t + 1) (k_up χ t c) := by
  obtain ⟨ψ, h1, h2⟩ := h
  refine ⟨fun u => t_sw c c' (ψ u), ⟨fun u hs => ?_, fun u v hs hv hj q => ?_⟩, fun u hl hs => ?_⟩
  · have := h1.1 u hs
    show t_sw c c' (ψ u) < k
    unfold t_sw
    split
    · exact hc'
    · split
      · exact hc
      · exact this
  · have := congrArg (t_sw c c') q
    simp only [t_sw_sw] at this
    exact h1.2 u v hs hv hj this
  · show t_sw c c' (ψ u) = _
    rw [h2 u hl hs]
    by_cases d : u = t
    · subst d
      rw [k_up_eq, k_up_eq]
      unfold t_sw
      split
      · assumption
      · rw [if_pos rfl]
    · rw [k_up_ne _ _ d, k_up_ne _ _ d]
      have := hu u (by omega) hs
      unfold t_sw
      rw [if_neg this.1, if_neg this.2]
theorem ex_clash {a : gG} {S k t i u : Nat} {χ : Nat → Nat} (ht : S.testBit t = true) (hu : u < t) (hs : S.testBit u = true) (hj : (g_j a t).testBit u = true) (hc : χ u = i) : ¬ k_ex a S k (t + 1) (k_up χ t i) := by
  rintro ⟨ψ, h1, h2⟩
  have e1 := h2 t (by omega) ht
  have e2 := h2 u (by omega) hs
  rw [k_up_eq] at e1
  rw [k_up_ne _ _ (by omega), hc] at e2
  exact h1.2 t u ht hs hj (e1.trans e2.symm)
theorem pp_out {a : gG} {S k t : Nat} {χ : Nat → Nat} (ht : S.testBit t = false) (h : k_pp a S k t χ) : k_pp a S k (t + 1) χ := by
  have hne : ∀ u, S.testBit u = true → u ≠ t := fun u hu q => by rw [q, ht] at hu; exact absurd hu (by decide)
  exact ⟨fun u hu hs => h.1 u (by have := hne u hs; omega) hs, fun u v hu hv hs hs' hj => h.2 u v (by have := hne u hs; omega) (by have := hne v hs'; omega) hs hs' hj⟩
theorem pp_in {a : gG} (hw : g_wf a) {S k t i : Nat} {χ : Nat → Nat} (hi : i < k) (h : k_pp a S k t χ) (hno : ∀ u, u < t → S.testBit u = true → (g_j a t).testBit u = true → χ u ≠ i) : k_pp a S k (t + 1) (k_up χ t i) := by
  refine ⟨fun u hu hs => ?_, fun u v hu hv hs hs' hj => ?_⟩
  · by_cases c : u = t
    · subst c; rw [k_up_eq]; exact hi
    · rw [k_up_ne _ _ c]; exact h.1 u (by omega) hs
  · by_cases c : u = t
    · subst c
      by_cases d : v = u
      · subst d
        rw [hw.2.2.2.2.2.2.1 v] at hj
        exact absurd hj (by decide)
      · rw [k_up_eq, k_up_ne _ _ d]
        exact fun q => hno v (by omega) hs' hj q.symm
    · by_cases d : v = t
      · subst d
        rw [k_up_eq, k_up_ne _ _ c]
        refine hno u (by omega) hs ?_
        rw [hw.2.2.2.2.2.1 v u]; exact hj
      · rw [k_up_ne _ _ c, k_up_ne _ _ d]
        exact h.2 u v (by omega) (by omega) hs hs' hj
theorem bit_in_lt {S n t : Nat} (hS : S < 2 ^ n) (ht : S.testBit t = true) : t < n := by
  rcases Nat.lt_or_ge t n with c | c
  · exact c
  · rw [Nat.testBit_lt_two_pow (Nat.lt_of_lt_of_le hS (Nat.pow_le_pow_right (by decide) c))] at ht
    exact absurd ht (by decide)
theorem lf_end {a : gG} {S k n : Nat} {χ : Nat → Nat} (hS : S < 2 ^ n) (h : k_pp a S k n χ) : k_lf a S k n χ χ := ⟨⟨fun t ht => h.1 t (bit_in_lt hS ht) ht, fun t u ht hu hj => h.2 t u (bit_in_lt hS ht) (bit_in_lt hS hu) ht hu hj⟩, fun _ _ _ => rfl, fun v hv hs => by
  have := bit_in_lt hS hs
  omega⟩
theorem ps_fore {S X : Type} {step : S → Option (S ⊕ X)} (N : Nat) (I : Nat → S → Prop) (Q : X → Prop) (hs : ∀ i s, i < N → I i s → (∃ s', step s = some (.inl s') ∧ I (i + 1) s') ∨ ∃ x, step s = some (.inr x) ∧ Q x) (hx : ∀ s, I N s → ∃ x, step s = some (.inr x) ∧ Q x) {F : Nat} {s : S} (h0 : I 0 s) (hF : N < F) : ∃ x, ps_lp step F s = some x ∧ Q x := by
  have H : ∀ d i F s, i + d = N → d < F → I i s → ∃ x, ps_lp step F s = some x ∧ Q x := by
    intro d
    induction d with
    | zero =>
      intro i F s hi hF hI
      match F, hF with
      | F + 1, _ =>
        have : i = N := by omega
        subst this
        obtain ⟨x, h1, h2⟩ := hx s hI
        exact ⟨x, by simp only [ps_lp, h1, Option.bind_some], h2⟩
    | succ d ih =>
      intro i F s hi hF hI
      match F, hF with
      | F + 1, hF =>
        rcases hs i s (by omega) hI with ⟨s', h1, h2⟩ | ⟨x, h1, h2⟩
        · obtain ⟨x, a, b⟩ := ih (i + 1) F s' (by omega) (by omega) h2
          exact ⟨x, by simp only [ps_lp, h1, Option.bind_some]; exact a, b⟩
        · exact ⟨x, by simp only [ps_lp, h1, Option.bind_some], h2⟩
  exact H N 0 F s (by omega) hF h0
/-- the class: a mask for each colour -/
def k_cm (σ : ps_S) (S t : Nat) (χ : Nat → Nat) : Prop := ∀ c, c < 8 → ∃ m, σ.1 44 c = nI m ∧ ∀ u, m.testBit u = true ↔ (u < t ∧ S.testBit u = true ∧ χ u = c)
def k_sg (S t : Nat) (χ : Nat → Nat) : Prop := ∀ c c', c' < c → (∃ u, u < t ∧ S.testBit u = true ∧ χ u = c) → ∃ u, u < t ∧ S.testBit u = true ∧ χ u = c'
theorem or_back {m t : Nat} (h : m.testBit t = false) : (m ||| 2 ^ t) ^^^ 2 ^ t = m := Nat.eq_of_testBit_eq (fun i => by
  rw [Nat.testBit_xor, Nat.testBit_or, p2_bit]
  by_cases c : t = i
  · subst c; rw [h]; simp
  · simp [c])
theorem ln_44 : ps_ln 44 = 8 := rfl
theorem c_paint {a : gG} {S k : Nat} (hw : g_wf a) (hS : S < 2 ^ g_n a) (hk : k ≤ 8) : ∀ (D t : Nat) (χ : Nat → Nat) (σ : ps_S), c_G σ 1 a → t ≤ g_n a → g_n a < t + D → k_pp a S k t χ → k_cm σ S t χ → k_sg S t χ → ∃ (r : Int32) (τ : ps_S), fX4_paintFrom D 44 (nI S) (nI k) (nI t) σ = some (r, τ) ∧ ps_fr (fun q => q = 44) σ τ ∧ ((r = 1 ∧ ∃ ψ, k_lf a S k t χ ψ ∧ k_cm τ S (g_n a) ψ) ∨ (r = 0 ∧ ¬ k_ex a S k t χ ∧ ∀ c, c < 8 → τ.1 44 c = σ.1 44 c)) := by
  have h8 := hw.1
  have h2 := p2_le _ h8
  intro D
  induction D with
  | zero => intro t χ σ _ h1 h3; omega
  | succ D ih =>
    intro t χ σ hG ht hD hpp hcm hsg
    have e0 : fX4_paintFrom (D + 1) 44 (nI S) (nI k) (nI t) σ = fX4_paintFrom_B (fX4_paintFrom D) 44 (nI S) (nI k) (nI t) σ := rfl
    rw [e0]
    unfold fX4_paintFrom_B
    rw [hG.1]
    by_cases htn : t = g_n a
    · subst htn
      rw [if_neg (nI_nlt (Nat.le_refl _) (by omega))]
      exact ⟨1, σ, rfl, ps_fr.rf, Or.inl ⟨rfl, χ, lf_end hS hpp, hcm⟩⟩
    have htl : t < g_n a := by omega
    rw [if_pos (nI_lt htl (by omega)), ps_let, sh_1 t (by omega)]
    have hp2 : 2 ^ t < 256 := Nat.pow_lt_pow_right (n := 8) (by decide) (by omega)
    cases hb : S.testBit t
    · rw [if_pos ((fa_bit (by omega)).mpr hb), nI_1]
      have hne : ∀ u, S.testBit u = true → u ≠ t := fun u hu q => by rw [q, hb] at hu; exact absurd hu (by decide)
      obtain ⟨r, τ, r1, r2, r3⟩ := ih (t + 1) χ σ hG (by omega) (by omega) (pp_out hb hpp) (fun c hc => by
        obtain ⟨m, m1, m2⟩ := hcm c hc
        refine ⟨m, m1, fun u => (m2 u).trans ⟨fun q => ⟨by omega, q.2⟩, fun q => ⟨by have := hne u q.2.1; omega, q.2⟩⟩⟩) (fun c c' hcc ⟨u, u1, u2, u3⟩ => by
        obtain ⟨v, v1, v2⟩ := hsg c c' hcc ⟨u, by have := hne u u2; omega, u2, u3⟩
        exact ⟨v, by omega, v2⟩)
      refine ⟨r, τ, ?_, r2, ?_⟩
      · rw [r1, Option.bind_some]
        show ps_cb r (some (r, τ)) = _
        rcases r3 with ⟨q, -⟩ | ⟨q, -⟩
        · rw [q]; rfl
        · rw [q]; rfl
      · rcases r3 with ⟨q, ψ, p1, p2⟩ | ⟨q, p1, p2⟩
        · exact Or.inl ⟨q, ψ, lf_out hb p1, p2⟩
        · exact Or.inr ⟨q, fun z => p1 (ex_out hb z), p2⟩
    · rw [if_neg (fun q => by rw [(fa_bit (by omega)).mp q] at hb; exact absurd hb (by decide))]
      have hmb : ∀ m c, (∀ u, m.testBit u = true ↔ (u < t ∧ S.testBit u = true ∧ χ u = c)) → m < 256 := fun m c hm => by
        have := sub_le (b := m) (s := S) (fun u hu => ((hm u).mp hu).2.1)
        omega
      obtain ⟨e, e1, e2⟩ := ps_fore (step := fun s => fX4_paintFrom_S39 (fX4_paintFrom D) 44 (nI S) (nI k) (nI t) (nI (2 ^ t)) s.1 s.2) k (fun i q => q.1 = nI i ∧ ps_fr (fun q => q = 44) σ q.2 ∧ (∀ c, c < 8 → q.2.1 44 c = σ.1 44 c) ∧ ∀ c, c < i → ¬ k_ex a S k (t + 1) (k_up χ t c) ∧ ∃ u, u < t ∧ S.testBit u = true ∧ χ u = c) (fun e => ∃ τ, ps_fr (fun q => q = 44) σ τ ∧ ((e = .inl τ ∧ ∃ ψ, k_lf a S k t χ ψ ∧ k_cm τ S (g_n a) ψ) ∨ ((e = .inr (.inl τ) ∨ e = .inr (.inr τ)) ∧ ¬ k_ex a S k t χ ∧ ∀ c, c < 8 → τ.1 44 c = σ.1 44 c))) (F := 100000) (s := ((0 : Int32), σ)) (by
        rintro i ⟨x, τ⟩ hi ⟨q1, hf, hv, hno⟩
        simp only at q1 hf hv hno
        subst q1
        have hGτ := hG.fr hf (fun k h1 h2 => by omega)
        obtain ⟨m, m1, m2⟩ := hcm i (by omega)
        have hm := hmb m i m2
        have hτ : τ.1 44 i = nI m := (hv i (by omega)).trans m1
        have hmt : m.testBit t = false := by
          cases hq : m.testBit t
          · rfl
          · have := ((m2 t).mp hq).1; omega
        have hand : m &&& g_j a t < 256 := Nat.lt_of_le_of_lt Nat.and_le_left hm
        show (∃ s', fX4_paintFrom_S39 (fX4_paintFrom D) 44 (nI S) (nI k) (nI t) (nI (2 ^ t)) (nI i) τ = some (.inl s') ∧ _) ∨ ∃ x, fX4_paintFrom_S39 (fX4_paintFrom D) 44 (nI S) (nI k) (nI t) (nI (2 ^ t)) (nI i) τ = some (.inr x) ∧ _
        have pre : fX4_paintFrom_S39 (fX4_paintFrom D) 44 (nI S) (nI k) (nI t) (nI (2 ^ t)) (nI i) τ = fX4_paintFrom_J57 (fX4_paintFrom D) 44 (nI S) (nI k) (nI t) (nI (2 ^ t)) (nI i) (if m = 0 then 1 else 0) τ := by
          unfold fX4_paintFrom_S39
          rw [if_neg (nI_ge hi (by omega)), ln_44, pk_ok (by omega) (by decide), nI_clamp (by omega), hτ]
          by_cases c : m = 0
          · rw [if_pos ((nI0_iff (by omega)).mpr c), if_pos c]
          · rw [if_neg (fun q => c ((nI0_iff (by omega)).mp q)), if_neg c]
        rw [pre]
        unfold fX4_paintFrom_J57
        rw [ln_44, pk_ok (by omega) (by decide), c_mates hGτ hw (by omega), Option.bind_some, nI_clamp (by omega), hτ, fa_and]
        by_cases hcl : m &&& g_j a t = 0
        · have hfree : ∀ u, u < t → S.testBit u = true → (g_j a t).testBit u = true → χ u ≠ i := fun u u1 u2 u3 u4 => by
            have h5 : (m &&& g_j a t).testBit u = true := by
              rw [Nat.testBit_and, (m2 u).mpr ⟨u1, u2, u4⟩, u3]; rfl
            rw [hcl, Nat.zero_testBit] at h5
            exact absurd h5 (by decide)
          rw [if_pos ((nI0_iff (by omega)).mpr hcl), pk_ok (by omega) (by decide), pk_ok (by omega) (by decide), ps_let, nI_1, fa_or]
          have hcm' : k_cm (ps_ui τ 44 i (nI (m ||| 2 ^ t))) S (t + 1) (k_up χ t i) := fun c hc => by
            rw [pu_i]
            by_cases d : c = i
            · subst d
              refine ⟨m ||| 2 ^ t, if_pos ⟨rfl, rfl⟩, fun u => ?_⟩
              rw [Nat.testBit_or, p2_bit]
              by_cases e : u = t
              · subst e
                rw [k_up_eq]
                simp [hb]
              · rw [k_up_ne _ _ e]
                have : decide (t = u) = false := decide_eq_false (fun q => e q.symm)
                rw [this, Bool.or_false]
                exact (m2 u).trans ⟨fun q => ⟨by omega, q.2⟩, fun q => ⟨by omega, q.2⟩⟩
            · obtain ⟨m', m1', m2'⟩ := hcm c hc
              refine ⟨m', ?_, fun u => ?_⟩
              · rw [if_neg (fun q => d q.2), hv c hc]; exact m1'
              · by_cases e : u = t
                · subst e
                  rw [k_up_eq]
                  exact ⟨fun q => by have := ((m2' u).mp q).1; omega, fun q => absurd q.2.2.symm d⟩
                · rw [k_up_ne _ _ e]
                  exact (m2' u).trans ⟨fun q => ⟨by omega, q.2⟩, fun q => ⟨by omega, q.2⟩⟩
          have hsg' : k_sg S (t + 1) (k_up χ t i) := fun c c' hcc ⟨u, u1, u2, u3⟩ => by
            have hlow : ∃ v, v < t ∧ S.testBit v = true ∧ χ v = c' := by
              by_cases e : u = t
              · subst e
                rw [k_up_eq] at u3
                exact (hno c' (by omega)).2
              · rw [k_up_ne _ _ e] at u3
                exact hsg c c' hcc ⟨u, by omega, u2, u3⟩
            obtain ⟨v, v1, v2, v3⟩ := hlow
            exact ⟨v, by omega, v2, by rw [k_up_ne _ _ (by omega)]; exact v3⟩
          obtain ⟨r, ρ, r1, r2, r3⟩ := ih (t + 1) (k_up χ t i) (ps_ui τ 44 i (nI (m ||| 2 ^ t))) (hGτ.fr (P := fun q => q = 44) (ps_fr_ui rfl) (fun k h1 h2 => by omega)) (by omega) (by omega) (pp_in hw hi hpp hfree) hcm' hsg'
          have fρ : ps_fr (fun q => q = 44) σ ρ := (hf.tr (ps_fr_ui rfl)).tr r2
          rw [r1, Option.bind_some]
          rcases r3 with ⟨q, ψ, p1, p2⟩ | ⟨q, p1, p2⟩
          · right
            subst q
            refine ⟨_, if_neg (show ¬ (1 : Int32) = 0 by decide), ρ, fρ, Or.inl ⟨rfl, ψ, lf_in hb (fun c hc => (hno c hc).1) p1, p2⟩⟩
          · subst q
            rw [if_pos (by rfl)]
            have hρi : ρ.1 44 i = nI (m ||| 2 ^ t) := by rw [p2 i (by omega), pu_i, if_pos ⟨rfl, rfl⟩]
            show (∃ s', ps_ck (nI i) 8 (ps_ck (nI i) 8 (ps_let (ps_ui ρ 44 i (ρ.1 44 i ^^^ nI (2 ^ t))) fun σ12 => fX4_paintFrom_J107 (fX4_paintFrom D) 44 (nI S) (nI k) (nI t) (nI (2 ^ t)) (nI i) (if m = 0 then 1 else 0) σ12)) = some (.inl s') ∧ _) ∨ ∃ x, ps_ck (nI i) 8 (ps_ck (nI i) 8 (ps_let (ps_ui ρ 44 i (ρ.1 44 i ^^^ nI (2 ^ t))) fun σ12 => fX4_paintFrom_J107 (fX4_paintFrom D) 44 (nI S) (nI k) (nI t) (nI (2 ^ t)) (nI i) (if m = 0 then 1 else 0) σ12)) = some (.inr x) ∧ _
            rw [pk_ok (by omega) (by decide), pk_ok (by omega) (by decide), ps_let, hρi, nx_xor, or_back hmt]
            have fω : ps_fr (fun q => q = 44) σ (ps_ui ρ 44 i (nI m)) := fρ.tr (ps_fr_ui rfl)
            have hω : ∀ c, c < 8 → (ps_ui ρ 44 i (nI m)).1 44 c = σ.1 44 c := fun c hc => by
              rw [pu_i]
              by_cases d : c = i
              · rw [if_pos ⟨rfl, d⟩, d, m1]
              · rw [if_neg (fun q => d q.2), p2 c hc, pu_i, if_neg (fun q => d q.2)]
                exact hv c hc
            unfold fX4_paintFrom_J107
            by_cases c0 : m = 0
            · right
              rw [if_pos c0]
              refine ⟨.inr (.inl (ps_ui ρ 44 i (nI m))), if_neg (by decide), _, fω, Or.inr ⟨Or.inl rfl, no_ex hb (fun c hc => ?_), hω⟩⟩
              have unused : ∀ u, u < t → S.testBit u = true → χ u ≠ i := fun u u1 u2 u3 => by
                have := (m2 u).mpr ⟨u1, u2, u3⟩
                rw [c0, Nat.zero_testBit] at this
                exact absurd this (by decide)
              rcases Nat.lt_trichotomy c i with d | d | d
              · exact (hno c d).1
              · rw [d]; exact p1
              · refine fun z => p1 (ex_swap hb hi hc (fun u u1 u2 => ⟨unused u u1 u2, fun u3 => ?_⟩) z)
                obtain ⟨v, v1, v2, v3⟩ := hsg c i d ⟨u, u1, u2, u3⟩
                exact unused v v1 v2 v3
            · left
              rw [if_neg c0, if_pos (by rfl), ps_let, nI_1]
              refine ⟨_, rfl, rfl, fω, hω, fun c hc => ?_⟩
              by_cases d : c = i
              · subst d
                refine ⟨p1, ?_⟩
                obtain ⟨u, hu⟩ := Nat.exists_testBit_of_ne_zero c0
                exact ⟨u, (m2 u).mp hu⟩
              · exact hno c (by omega)
        · left
          rw [if_neg (fun q => hcl ((nI0_iff (by omega)).mp q))]
          obtain ⟨u, hu⟩ := Nat.exists_testBit_of_ne_zero hcl
          rw [Nat.testBit_and, Bool.and_eq_true] at hu
          have hmu := (m2 u).mp hu.1
          have hm0 : m ≠ 0 := fun q => by rw [q, Nat.zero_testBit] at hu; exact absurd hu.1 (by decide)
          unfold fX4_paintFrom_J107
          rw [if_neg hm0, if_pos (by rfl), ps_let, nI_1]
          refine ⟨_, rfl, rfl, hf, hv, fun c hc => ?_⟩
          by_cases d : c = i
          · subst d
            exact ⟨ex_clash hb hmu.1 hmu.2.1 hu.2 hmu.2.2, u, hmu⟩
          · exact hno c (by omega)) (by
        rintro ⟨x, τ⟩ ⟨q1, hf, hv, hno⟩
        simp only at q1 hf hv hno
        subst q1
        refine ⟨.inr (.inr τ), ?_, τ, hf, Or.inr ⟨Or.inr rfl, no_ex hb (fun c hc => (hno c hc).1), hv⟩⟩
        show fX4_paintFrom_S39 (fX4_paintFrom D) 44 (nI S) (nI k) (nI t) (nI (2 ^ t)) (nI k) τ = _
        unfold fX4_paintFrom_S39
        rw [if_pos (nI_le (by omega) (by omega))]) ⟨rfl, ps_fr.rf, fun _ _ => rfl, fun c hc => absurd hc (Nat.not_lt_zero _)⟩ (by omega)
      rw [e1, Option.bind_some]
      obtain ⟨τ, f1, h⟩ := e2
      rcases h with ⟨q, h⟩ | ⟨q | q, h⟩
      · subst q; exact ⟨1, τ, rfl, f1, Or.inl ⟨rfl, h⟩⟩
      · subst q; exact ⟨0, τ, rfl, f1, Or.inr ⟨rfl, h⟩⟩
      · subst q; exact ⟨0, τ, rfl, f1, Or.inr ⟨rfl, h⟩⟩
/-- the model: a colour for each thing -/
theorem m_clash {σ : ps_S} {a : gG} {S k t i : Nat} {χ : Nat → Nat} {rec : Int32 → Int32 → Int32 → ps_S → Option (Int32 × ps_S)} (h : m_G σ 47 0 a) (hw : g_wf a) (hS : S < 256) (ht : t < 8) (hi : i < 8) (hk : k ≤ 8) (hpp : ∀ u, u < t → S.testBit u = true → χ u < k) (hv : ∀ u, u < t → S.testBit u = true → σ.1 57 u = nI (χ u)) : ∃ e, ps_lp (fun s => fX5_paints_S43 rec (nI S) (nI t) (nI k) (nI i) σ s.1 s.2) 100000 ((1 : Int32), (0 : Int32)) = some e ∧ ((e = 1 ∧ ∀ u, u < t → ¬ (S.testBit u = true ∧ (g_j a t).testBit u = true ∧ χ u = i)) ∨ (e = 0 ∧ ∃ u, u < t ∧ S.testBit u = true ∧ (g_j a t).testBit u = true ∧ χ u = i)) := by
  have hj : g_j a t < 256 := by
    have h1 := hw.2.2.2.1 t
    have h2 := p2_le _ hw.1
    omega
  have w47 : σ.1 47 (257 + t) = nI (g_j a t) := by
    have := h.2.2.1 t ht
    rw [show 0 + 257 + t = 257 + t by omega] at this
    exact this
  have hand : S &&& g_j a t < 256 := Nat.lt_of_le_of_lt Nat.and_le_left hS
  refine ps_for (step := fun s => fX5_paints_S43 rec (nI S) (nI t) (nI k) (nI i) σ s.1 s.2) t (fun u q => q.2 = nI u ∧ ((q.1 = 1 ∧ ∀ v, v < u → ¬ (S.testBit v = true ∧ (g_j a t).testBit v = true ∧ χ v = i)) ∨ (q.1 = 0 ∧ ∃ v, v < u ∧ S.testBit v = true ∧ (g_j a t).testBit v = true ∧ χ v = i))) (fun e => (e = 1 ∧ ∀ u, u < t → ¬ (S.testBit u = true ∧ (g_j a t).testBit u = true ∧ χ u = i)) ∨ (e = 0 ∧ ∃ u, u < t ∧ S.testBit u = true ∧ (g_j a t).testBit u = true ∧ χ u = i)) ?_ ?_ ⟨rfl, Or.inl ⟨rfl, fun v hv => absurd hv (Nat.not_lt_zero _)⟩⟩ (by omega)
  · rintro u ⟨f, x⟩ hu ⟨q1, q2⟩
    simp only at q1 q2
    subst q1
    show ∃ s', fX5_paints_S43 rec (nI S) (nI t) (nI k) (nI i) σ f (nI u) = some (.inl s') ∧ _
    unfold fX5_paints_S43 fX5_paints_J84
    simp only [ps_let]
    rw [if_neg (nI_ge hu (by omega)), nl_257, nI_add, pk_ok (by omega) (by decide), nI_clamp (by omega), w47, fa_and, m_has hand (by omega), Option.bind_some, nI_1, Nat.testBit_and]
    by_cases c : (S.testBit u && (g_j a t).testBit u) = true
    · have c2 := Bool.and_eq_true_iff.mp c
      have hχ := hpp u hu c2.1
      rw [if_pos c, if_neg (by decide), pk_ok (by omega) (by decide), nI_clamp (by omega), hv u hu c2.1]
      by_cases d : χ u = i
      · rw [if_pos (congrArg nI d)]
        exact ⟨_, rfl, rfl, Or.inr ⟨rfl, u, by omega, c2.1, c2.2, d⟩⟩
      · rw [if_neg (fun q => d ((nI_eq (by omega) (by omega)).mp q))]
        refine ⟨_, rfl, rfl, ?_⟩
        rcases q2 with ⟨q, h1⟩ | ⟨q, v, h1⟩
        · refine Or.inl ⟨q, fun v hv' => ?_⟩
          by_cases e : v = u
          · subst e; exact fun z => d z.2.2
          · exact h1 v (by omega)
        · exact Or.inr ⟨q, v, by omega, h1.2⟩
    · rw [if_neg c, if_pos rfl]
      refine ⟨_, rfl, rfl, ?_⟩
      rcases q2 with ⟨q, h1⟩ | ⟨q, v, h1⟩
      · refine Or.inl ⟨q, fun v hv' => ?_⟩
        by_cases e : v = u
        · subst e; exact fun z => c (Bool.and_eq_true_iff.mpr ⟨z.1, z.2.1⟩)
        · exact h1 v (by omega)
      · exact Or.inr ⟨q, v, by omega, h1.2⟩
  · rintro ⟨f, x⟩ ⟨q1, q2⟩
    simp only at q1 q2
    subst q1
    refine ⟨f, ?_, q2⟩
    show fX5_paints_S43 rec (nI S) (nI t) (nI k) (nI i) σ f (nI t) = _
    unfold fX5_paints_S43
    rw [if_pos (nI_le (by omega) (by omega))]
theorem m_paint {a : gG} {S k : Nat} (hw : g_wf a) (hS : S < 2 ^ g_n a) (hk : k ≤ 8) : ∀ (D t : Nat) (χ : Nat → Nat) (σ : ps_S), m_G σ 47 0 a → t ≤ g_n a → g_n a < t + D → k_pp a S k t χ → (∀ u, u < t → S.testBit u = true → σ.1 57 u = nI (χ u)) → ∃ (r : Int32) (τ : ps_S), fX5_paints D (nI S) (nI t) (nI k) σ = some (r, τ) ∧ ps_fr (fun q => q = 57) σ τ ∧ ((r = 1 ∧ ∃ ψ, k_lf a S k t χ ψ ∧ ∀ u, u < g_n a → S.testBit u = true → τ.1 57 u = nI (ψ u)) ∨ (r = 0 ∧ ¬ k_ex a S k t χ ∧ ∀ u, u < t → τ.1 57 u = σ.1 57 u)) := by
  have h8 := hw.1
  have h2 := p2_le _ h8
  intro D
  induction D with
  | zero => intro t χ σ _ h1 h3; omega
  | succ D ih =>
    intro t χ σ hG ht hD hpp hcm
    have e0 : fX5_paints (D + 1) (nI S) (nI t) (nI k) σ = fX5_paints_B (fX5_paints D) (nI S) (nI t) (nI k) σ := rfl
    rw [e0]
    unfold fX5_paints_B
    rw [m_things hG, Option.bind_some]
    by_cases htn : t = g_n a
    · subst htn
      rw [if_pos rfl]
      exact ⟨1, σ, rfl, ps_fr.rf, Or.inl ⟨rfl, χ, lf_end hS hpp, hcm⟩⟩
    have htl : t < g_n a := by omega
    rw [if_neg (fun q => htn ((nI_eq (by omega) (by omega)).mp q)), m_has (by omega) (by omega), Option.bind_some]
    cases hb : S.testBit t
    · rw [if_pos (by decide), nI_1]
      have hne : ∀ u, S.testBit u = true → u ≠ t := fun u hu q => by rw [q, hb] at hu; exact absurd hu (by decide)
      obtain ⟨r, τ, r1, r2, r3⟩ := ih (t + 1) χ σ hG (by omega) (by omega) (pp_out hb hpp) (fun u hu hs => hcm u (by have := hne u hs; omega) hs)
      refine ⟨r, τ, ?_, r2, ?_⟩
      · rw [r1, Option.bind_some]
        show ps_cb r (some (r, τ)) = _
        rcases r3 with ⟨q, -⟩ | ⟨q, -⟩
        · rw [q]; rfl
        · rw [q]; rfl
      · rcases r3 with ⟨q, ψ, p1, p2⟩ | ⟨q, p1, p2⟩
        · exact Or.inl ⟨q, ψ, lf_out hb p1, p2⟩
        · exact Or.inr ⟨q, fun z => p1 (ex_out hb z), fun u hu => p2 u (by omega)⟩
    · rw [if_pos rfl, if_neg (by decide)]
      obtain ⟨e, e1, e2⟩ := ps_fore (step := fun s => fX5_paints_S31 (fX5_paints D) (nI S) (nI t) (nI k) s.1 s.2) k (fun i q => q.1 = nI i ∧ ps_fr (fun q => q = 57) σ q.2 ∧ (∀ u, u < t → q.2.1 57 u = σ.1 57 u) ∧ ∀ c, c < i → ¬ k_ex a S k (t + 1) (k_up χ t c)) (fun e => ∃ τ, ps_fr (fun q => q = 57) σ τ ∧ ((e = .inl τ ∧ ∃ ψ, k_lf a S k t χ ψ ∧ ∀ u, u < g_n a → S.testBit u = true → τ.1 57 u = nI (ψ u)) ∨ (e = .inr τ ∧ ¬ k_ex a S k t χ ∧ ∀ u, u < t → τ.1 57 u = σ.1 57 u))) (F := 100000) (s := ((0 : Int32), σ)) (by
        rintro i ⟨x, τ⟩ hi ⟨q1, hf, hv, hno⟩
        simp only at q1 hf hv hno
        subst q1
        have hGτ := hG.fr hf (by decide)
        obtain ⟨c, c1, c2⟩ := m_clash (rec := fX5_paints D) (i := i) (χ := χ) hGτ hw (show S < 256 by omega) (show t < 8 by omega) (by omega) hk hpp.1 (fun u hu hs => (hv u hu).trans (hcm u hu hs))
        show (∃ s', fX5_paints_S31 (fX5_paints D) (nI S) (nI t) (nI k) (nI i) τ = some (.inl s') ∧ _) ∨ ∃ x, fX5_paints_S31 (fX5_paints D) (nI S) (nI t) (nI k) (nI i) τ = some (.inr x) ∧ _
        have fo : ps_fr (fun q => q = 57) σ (ps_ui τ 57 t (nI i)) := hf.tr (ps_fr_ui rfl)
        have ho : ∀ u, u < t → (ps_ui τ 57 t (nI i)).1 57 u = σ.1 57 u := fun u hu => by
          rw [pu_i, if_neg (fun q => by omega)]; exact hv u hu
        unfold fX5_paints_S31
        rw [if_neg (nI_ge hi (by omega)), c1, Option.bind_some, pk_ok (by omega) (by decide), nI_clamp (by omega), ps_let]
        unfold fX5_paints_J117
        simp only [ps_let]
        rw [nI_1, nI_1]
        rcases c2 with ⟨q, c2⟩ | ⟨q, u, c2⟩
        · subst q
          rw [if_neg (by decide)]
          have hfree : ∀ u, u < t → S.testBit u = true → (g_j a t).testBit u = true → χ u ≠ i := fun u u1 u2 u3 u4 => c2 u u1 ⟨u2, u3, u4⟩
          obtain ⟨r, ρ, r1, r2, r3⟩ := ih (t + 1) (k_up χ t i) (ps_ui τ 57 t (nI i)) (m_G_ui hGτ (by decide)) (by omega) (by omega) (pp_in hw hi hpp hfree) (fun u hu hs => by
            by_cases d : u = t
            · subst d
              rw [pu_i, if_pos ⟨rfl, rfl⟩, k_up_eq]
            · rw [ho u (by omega), k_up_ne _ _ d]
              exact hcm u (by omega) hs)
          rw [r1, Option.bind_some]
          rcases r3 with ⟨q, ψ, p1, p2⟩ | ⟨q, p1, p2⟩
          · right
            subst q
            exact ⟨_, if_neg (show ¬ (1 : Int32) = 0 by decide), ρ, fo.tr r2, Or.inl ⟨rfl, ψ, lf_in hb hno p1, p2⟩⟩
          · left
            subst q
            refine ⟨_, if_pos rfl, rfl, fo.tr r2, fun u hu => ?_, fun c hc => ?_⟩
            · show ρ.1 57 u = _
              rw [p2 u (by omega)]; exact ho u hu
            · by_cases d : c = i
              · rw [d]; exact p1
              · exact hno c (by omega)
        · left
          subst q
          refine ⟨_, if_pos rfl, rfl, fo, ho, fun c hc => ?_⟩
          by_cases d : c = i
          · rw [d]; exact ex_clash hb c2.1 c2.2.1 c2.2.2.1 c2.2.2.2
          · exact hno c (by omega)) (by
        rintro ⟨x, τ⟩ ⟨q1, hf, hv, hno⟩
        simp only at q1 hf hv hno
        subst q1
        refine ⟨.inr τ, ?_, τ, hf, Or.inr ⟨rfl, no_ex hb hno, hv⟩⟩
        show fX5_paints_S31 (fX5_paints D) (nI S) (nI t) (nI k) (nI k) τ = _
        unfold fX5_paints_S31
        rw [if_pos (nI_le (by omega) (by omega))]) ⟨rfl, ps_fr.rf, fun _ _ => rfl, fun c hc => absurd hc (Nat.not_lt_zero _)⟩ (by omega)
      rw [e1, Option.bind_some]
      obtain ⟨τ, f1, h⟩ := e2
      rcases h with ⟨q, h⟩ | ⟨q, h⟩
      · subst q; exact ⟨1, τ, rfl, f1, Or.inl ⟨rfl, h⟩⟩
      · subst q; exact ⟨0, τ, rfl, f1, Or.inr ⟨rfl, h⟩⟩
