/-! covers -/
theorem t_undo {κ κ' : Bool → Bool → Int} {E : Int} {f : Nat → Int} {n s : Nat} (hE : ∀ a c, κ' a false * κ false c + κ' a true * κ true c = if a = c then E else 0) (hs : s < 2 ^ n) : t_y κ' (fun p => t_y κ f n p) n s = E ^ n * f s := by
  rw [t_y_all _ _ hs]
  have e1 : ∀ p, p < 2 ^ n → t_k κ' s p n * t_y κ f n p = fb_si (fun a => t_k κ' s p n * t_k κ p a n * f a) (2 ^ n) := fun p hp => by
    rw [t_y_all _ f hp, ← fb_si_mul]
    refine fb_si_cong (fun a _ => ?_)
    rw [Int.mul_assoc]
  rw [fb_si_cong e1, si_swap]
  have e2 : ∀ a, a < 2 ^ n → fb_si (fun p => t_k κ' s p n * t_k κ p a n * f a) (2 ^ n) = if a = s then E ^ n * f a else 0 := fun a ha => by
    rw [si_mulr, t_kk hE, t_k_dl hs ha]
    by_cases e : a = s
    · rw [if_pos e, if_pos e]
    · rw [if_neg e, if_neg e, Int.zero_mul]
  rw [fb_si_cong e2]
  exact si_one (fun a => E ^ n * f a) hs
/-- what k sets make together: the sum over all lists of k sets -/
def v_D (h : Nat → Int) (N : Nat) : Nat → Nat → Int
  | 0, u => if u = 0 then 1 else 0
  | k + 1, u => fb_si (fun x => fb_si (fun t => if x ||| t = u then v_D h N k x * h t else 0) N) N
theorem or_lt2 {a b n : Nat} (ha : a < 2 ^ n) (hb : b < 2 ^ n) : a ||| b < 2 ^ n := Nat.or_lt_two_pow ha hb
theorem z_vD {h : Nat → Int} {n : Nat} : ∀ (k p : Nat), p < 2 ^ n → t_y (k_t 1 false) (v_D h (2 ^ n) k) n p = (t_y (k_t 1 false) h n p) ^ k
  | 0, p, hp => by
    rw [t_y_all _ _ hp, Int.pow_zero]
    have e1 : ∀ u, u < 2 ^ n → t_k (k_t 1 false) p u n * v_D h (2 ^ n) 0 u = if u = 0 then t_k (k_t 1 false) p u n else 0 := fun u hu => by
      rw [v_D]
      by_cases c : u = 0
      · rw [if_pos c, if_pos c, Int.mul_one]
      · rw [if_neg c, if_neg c, Int.mul_zero]
    rw [fb_si_cong e1, si_one (fun u => t_k (k_t 1 false) p u n) (p2_pos n), t_k1]
    have : fb_ct (fun i => (0 : Nat).testBit i && !p.testBit i) n = 0 := by
      have : ∀ m, fb_ct (fun i => (0 : Nat).testBit i && !p.testBit i) m = 0 := by
        intro m
        induction m with
        | zero => rfl
        | succ m ih => rw [fb_ct_succ, ih, Nat.zero_testBit]; rfl
      exact this n
    rw [if_pos this, if_neg (fun q => absurd q.1 (by decide))]
  | k + 1, p, hp => by
    rw [Int.pow_succ, ← z_vD k p hp, t_y_all _ _ hp, t_y_all _ (v_D h (2 ^ n) k) hp, t_y_all _ h hp]
    have e1 : ∀ u, u < 2 ^ n → t_k (k_t 1 false) p u n * v_D h (2 ^ n) (k + 1) u = fb_si (fun x => fb_si (fun t => if x ||| t = u then t_k (k_t 1 false) p u n * (v_D h (2 ^ n) k x * h t) else 0) (2 ^ n)) (2 ^ n) := fun u hu => by
      rw [v_D, ← fb_si_mul]
      refine fb_si_cong (fun x _ => ?_)
      rw [← fb_si_mul]
      refine fb_si_cong (fun t _ => ?_)
      by_cases c : x ||| t = u
      · rw [if_pos c, if_pos c]
      · rw [if_neg c, if_neg c, Int.mul_zero]
    rw [fb_si_cong e1, si_swap, ← si_mulr]
    refine fb_si_cong (fun x hx => ?_)
    rw [si_swap, ← fb_si_mul]
    refine fb_si_cong (fun t ht => ?_)
    have e2 : ∀ u, u < 2 ^ n → (if x ||| t = u then t_k (k_t 1 false) p u n * (v_D h (2 ^ n) k x * h t) else 0) = if u = x ||| t then t_k (k_t 1 false) p u n * (v_D h (2 ^ n) k x * h t) else 0 := fun u _ => by
      by_cases c : x ||| t = u
      · rw [if_pos c, if_pos c.symm]
      · rw [if_neg c, if_neg (fun q => c q.symm)]
    rw [fb_si_cong e2, si_one (fun u => t_k (k_t 1 false) p u n * (v_D h (2 ^ n) k x * h t)) (or_lt2 hx ht), ← t_k_mul k_O.1 (a := x) (b := t) (fun i _ => Nat.testBit_or x t i)]
    grind
theorem v_cov {f : Nat → Int} {n S k : Nat} (hn : n ≤ 8) (hS : S < 2 ^ n) : t_y (k_t 1 true) (fun p => (t_y (k_t 1 false) f n p) ^ k) n S = v_D (fun t => if g_df t S = 0 then f t else 0) (2 ^ n) k S := by
  have e0 := t_undo (f := v_D (fun t => if g_df t S = 0 then f t else 0) (2 ^ n) k) (n := n) (s := S) k_E.1 hS
  have h1 : (1 : Int) ^ n = 1 := Int.one_pow
  rw [h1, Int.one_mul] at e0
  rw [← e0, t_y_all _ _ hS, t_y_all _ _ hS]
  refine fb_si_cong (fun p hp => ?_)
  by_cases c : g_df p S = 0
  · rw [z_vD k p hp]
    congr 2
    rw [t_y_all _ _ hp, t_y_all _ _ hp]
    refine fb_si_cong (fun t ht => ?_)
    by_cases d : g_df t p = 0
    · have : g_df t S = 0 := df_sub.mpr (fun i hi => df_sub.mp c i (df_sub.mp d i hi))
      show _ = _ * (if g_df t S = 0 then f t else 0)
      rw [if_pos this]
    · have : t_k (k_t 1 false) p t n = 0 := by
        rw [t_k12 (Or.inl rfl) hn hp ht]
        exact if_neg d
      rw [this, Int.zero_mul, Int.zero_mul]
  · have : t_k (k_t 1 true) S p n = 0 := by
      rw [t_k12 (Or.inl rfl) hn hS hp]
      exact if_neg c
    rw [this, Int.zero_mul, Int.zero_mul]
/-- the model -/
theorem v_add {x y : Nat} (hx : x < 1000003) (hy : y < 1000003) : (nI x + nI y) - (nI x + nI y) / 1000003 * 1000003 = nI (g_red ((x : Int) + (y : Int))) := by
  rw [nI_add, nl_1000003, pk_rem (by omega) (by decide) (by decide)]
  congr 1
theorem m_cov1 {σ : ps_S} {a : gG} {S x d : Nat} {a2 a3 : Int32} {W : Nat → Int} {D : Int} (h : m_G σ 47 0 a) (hw : g_wf a) (hS : S < 2 ^ g_n a) (hx : x < 2 ^ g_n a) (hD : σ.1 53 x = nI (g_red D)) (hW : ∀ u, u < 2 ^ g_n a → σ.1 52 u = nI (g_red (W u))) (hd : d = 2 ^ g_n a) : ∃ τ, ps_lp (fun s => fX5_covers_S91 (nI S) a2 a3 (nI x) s.1 s.2) 100000 (nI 0, σ) = some τ ∧ ps_fr (fun q => q = 52) σ τ ∧ ∀ u, u < 2 ^ g_n a → τ.1 52 u = nI (g_red (W u + fb_si (fun t => if x ||| t = u then D * (if g_df t S = 0 then (g_ms a 1 t : Int) else 0) else 0) d)) := by
  have h8 := hw.1
  have h2 := p2_le _ h8
  have hms : ∀ t, g_ms a 1 t = if 0 < g_w a t then 1 else 0 := fun t => rfl
  refine ps_for (step := fun s => fX5_covers_S91 (nI S) a2 a3 (nI x) s.1 s.2) d (fun i q => q.1 = nI i ∧ ps_fr (fun q => q = 52) σ q.2 ∧ ∀ u, u < 2 ^ g_n a → q.2.1 52 u = nI (g_red (W u + fb_si (fun t => if x ||| t = u then D * (if g_df t S = 0 then (g_ms a 1 t : Int) else 0) else 0) i))) _ ?_ ?_ ⟨rfl, ps_fr.rf, fun u hu => by
      rw [hW u hu]
      show _ = nI (g_red (W u + 0))
      rw [Int.add_zero]⟩ (by omega)
  · rintro i ⟨c, τ⟩ hi ⟨e, hf, hv⟩
    simp only at e hf hv
    subst e
    have hG := h.fr hf (by decide)
    have h53 : τ.1 53 x = nI (g_red D) := by rw [(hf 53 (by decide)).1]; exact hD
    have hg := g_red_lt D
    have skip : (D * (if g_df i S = 0 then (g_ms a 1 i : Int) else 0) = 0 ∨ g_red D = 0) → ∀ u, u < 2 ^ g_n a → τ.1 52 u = nI (g_red (W u + fb_si (fun t => if x ||| t = u then D * (if g_df t S = 0 then (g_ms a 1 t : Int) else 0) else 0) (i + 1))) := fun hz u hu => by
      rw [hv u hu, fb_si_succ]
      refine congrArg nI (pe_red.mp ?_)
      rw [← Int.add_assoc]
      have hp : pe 1000003 0 (if x ||| i = u then D * (if g_df i S = 0 then (g_ms a 1 i : Int) else 0) else 0) := by
        by_cases c : x ||| i = u
        · rw [if_pos c]
          rcases hz with hz | hz
          · rw [hz]; exact pe.rf
          · have h0 : pe 1000003 0 D := pe_red.mpr (by rw [hz]; rfl)
            have := h0.mul (pe.rf (x := (if g_df i S = 0 then (g_ms a 1 i : Int) else 0)))
            rwa [Int.zero_mul] at this
        · rw [if_neg c]; exact pe.rf
      have := (pe.rf (M := 1000003) (x := W u + fb_si (fun t => if x ||| t = u then D * (if g_df t S = 0 then (g_ms a 1 t : Int) else 0) else 0) i)).add hp
      rwa [Int.add_zero] at this
    by_cases z : g_red D = 0
    · refine ⟨(nI (i + 1), τ), ?_, rfl, hf, skip (Or.inr z)⟩
      show fX5_covers_S91 (nI S) a2 a3 (nI x) (nI i) τ = _
      unfold fX5_covers_S91 fX5_covers_J159
      simp only [ps_let]
      rw [m_all hG hw, Option.bind_some, if_neg (nI_nlt (by omega) (by omega)), pk_ok (by omega) (by decide), nI_clamp (by omega), h53, z, if_pos (by decide), nI_1]
    have hnz : ¬ (nI (g_red D) ≤ 0) := nI_nle (by omega) (by omega)
    by_cases t0 : 0 < g_w a i
    · by_cases t1 : g_df i S = 0
      · have hlt := or_lt2 hx (show i < 2 ^ g_n a by omega)
        refine ⟨(nI (i + 1), ps_ui τ 52 (x ||| i) (nI (g_red ((W (x ||| i) + fb_si (fun t => if x ||| t = x ||| i then D * (if g_df t S = 0 then (g_ms a 1 t : Int) else 0) else 0) i) + D)))), ?_, rfl, hf.tr (ps_fr_ui rfl), fun u hu => ?_⟩
        · show fX5_covers_S91 (nI S) a2 a3 (nI x) (nI i) τ = _
          unfold fX5_covers_S91 fX5_covers_J159
          simp only [ps_let]
          rw [m_all hG hw, Option.bind_some, if_neg (nI_nlt (by omega) (by omega)), pk_ok (by omega) (by decide), nI_clamp (by omega), h53, if_neg hnz, m_isTold hG hw (by omega), Option.bind_some, if_pos t0, if_neg (by decide), df_int, t1, if_pos (by decide), fa_or, pk_ok (by omega) (by decide), pk_ok (by omega) (by decide), pk_ok (by omega) (by decide), nI_clamp (by omega), hv _ hlt, v_add (g_red_lt _) hg, red_add, nI_1]
        · show (ps_ui τ 52 (x ||| i) _).1 52 u = _
          rw [pu_i, fb_si_succ]
          by_cases c : x ||| i = u
          · rw [if_pos ⟨rfl, c.symm⟩, if_pos c, if_pos t1, hms i, if_pos t0, c]
            show _ = nI (g_red (W u + (_ + D * 1)))
            rw [Int.mul_one, Int.add_assoc]
          · rw [if_neg (fun q => c q.2.symm), if_neg c, Int.add_zero, hv u hu]
      · refine ⟨(nI (i + 1), τ), ?_, rfl, hf, skip (Or.inl (by rw [if_neg t1, Int.mul_zero]))⟩
        show fX5_covers_S91 (nI S) a2 a3 (nI x) (nI i) τ = _
        unfold fX5_covers_S91 fX5_covers_J159
        simp only [ps_let]
        have hdl := df_le i S
        rw [m_all hG hw, Option.bind_some, if_neg (nI_nlt (by omega) (by omega)), pk_ok (by omega) (by decide), nI_clamp (by omega), h53, if_neg hnz, m_isTold hG hw (by omega), Option.bind_some, if_pos t0, if_neg (by decide), df_int, if_neg (fun q => t1 ((nI0_iff (by omega)).mp q)), nI_1]
    · refine ⟨(nI (i + 1), τ), ?_, rfl, hf, skip (Or.inl (by rw [hms i, if_neg t0]; show D * (if g_df i S = 0 then 0 else 0) = 0; split <;> exact Int.mul_zero _))⟩
      show fX5_covers_S91 (nI S) a2 a3 (nI x) (nI i) τ = _
      unfold fX5_covers_S91 fX5_covers_J159
      simp only [ps_let]
      rw [m_all hG hw, Option.bind_some, if_neg (nI_nlt (by omega) (by omega)), pk_ok (by omega) (by decide), nI_clamp (by omega), h53, if_neg hnz, m_isTold hG hw (by omega), Option.bind_some, if_neg t0, if_pos rfl, nI_1]
  · rintro ⟨c, τ⟩ ⟨e, hf, hv⟩
    simp only at e hf hv
    subst e
    have hG := h.fr hf (by decide)
    refine ⟨τ, ?_, hf, hv⟩
    show fX5_covers_S91 (nI S) a2 a3 (nI x) (nI d) τ = _
    unfold fX5_covers_S91
    rw [m_all hG hw, Option.bind_some, if_pos (nI_lt (by omega) (by omega))]
theorem m_cov2 {σ : ps_S} {a : gG} {S d : Nat} {a2 a3 : Int32} {D : Nat → Int} (h : m_G σ 47 0 a) (hw : g_wf a) (hS : S < 2 ^ g_n a) (hD : ∀ x, x < 2 ^ g_n a → σ.1 53 x = nI (g_red (D x))) (hW : ∀ u, u < 2 ^ g_n a → σ.1 52 u = nI 0) (hd : d = 2 ^ g_n a) : ∃ τ, ps_lp (fun s => fX5_covers_S79 (nI S) a2 a3 s.1 s.2) 100000 (nI 0, σ) = some τ ∧ ps_fr (fun q => q = 52) σ τ ∧ ∀ u, u < 2 ^ g_n a → τ.1 52 u = nI (g_red (fb_si (fun x => fb_si (fun t => if x ||| t = u then D x * (if g_df t S = 0 then (g_ms a 1 t : Int) else 0) else 0) d) d)) := by
  have h8 := hw.1
  have h2 := p2_le _ h8
  refine ps_for (step := fun s => fX5_covers_S79 (nI S) a2 a3 s.1 s.2) d (fun i q => q.1 = nI i ∧ ps_fr (fun q => q = 52) σ q.2 ∧ ∀ u, u < 2 ^ g_n a → q.2.1 52 u = nI (g_red (fb_si (fun x => fb_si (fun t => if x ||| t = u then D x * (if g_df t S = 0 then (g_ms a 1 t : Int) else 0) else 0) d) i))) _ ?_ ?_ ⟨rfl, ps_fr.rf, fun u hu => by
      rw [hW u hu]; rfl⟩ (by omega)
  · rintro i ⟨c, τ⟩ hi ⟨e, hf, hv⟩
    simp only at e hf hv
    subst e
    have hG := h.fr hf (by decide)
    have h53 : τ.1 53 i = nI (g_red (D i)) := by rw [(hf 53 (by decide)).1]; exact hD i (by omega)
    obtain ⟨υ, u1, u2, u3⟩ := m_cov1 (a2 := a2) (a3 := a3) (d := d) hG hw hS (by omega) h53 hv hd
    refine ⟨(nI (i + 1), υ), ?_, rfl, hf.tr u2, fun u hu => ?_⟩
    · show fX5_covers_S79 (nI S) a2 a3 (nI i) τ = _
      unfold fX5_covers_S79
      rw [m_all hG hw, Option.bind_some, if_neg (nI_nlt (by omega) (by omega)), n0, u1, Option.bind_some]
      simp only [ps_let]
      rw [nI_1]
    · show υ.1 52 u = _
      rw [u3 u hu, fb_si_succ]
  · rintro ⟨c, τ⟩ ⟨e, hf, hv⟩
    simp only at e hf hv
    subst e
    have hG := h.fr hf (by decide)
    refine ⟨τ, ?_, hf, hv⟩
    show fX5_covers_S79 (nI S) a2 a3 (nI d) τ = _
    unfold fX5_covers_S79
    rw [m_all hG hw, Option.bind_some, if_pos (nI_lt (by omega) (by omega))]
theorem m_cov0 {σ : ps_S} {a : gG} {d : Nat} {a1 a2 a3 : Int32} (h : m_G σ 47 0 a) (hw : g_wf a) (hd : d = 2 ^ g_n a) : ∃ τ, ps_lp (fun s => fX5_covers_S39 a1 a2 a3 s.1 s.2) 100000 (nI 0, σ) = some τ ∧ ps_fr (fun q => q = 52 ∨ q = 53) σ τ ∧ ∀ u, u < 2 ^ g_n a → τ.1 52 u = nI 0 ∧ τ.1 53 u = σ.1 52 u := by
  have h8 := hw.1
  have h3 := p2_pos (g_n a)
  have h2 := p2_le _ h8
  obtain ⟨τ, t1, t2, t3⟩ := ps_for (step := fun s => fX5_covers_S39 a1 a2 a3 s.1 s.2) d (fun i q => q.1 = nI i ∧ ps_fr (fun q => q = 52 ∨ q = 53) σ q.2 ∧ ∀ u, u < 2 ^ g_n a → (u < i → q.2.1 52 u = nI 0 ∧ q.2.1 53 u = σ.1 52 u) ∧ (i ≤ u → q.2.1 52 u = σ.1 52 u)) (fun τ => ps_fr (fun q => q = 52 ∨ q = 53) σ τ ∧ ∀ u, u < 2 ^ g_n a → (u < d → τ.1 52 u = nI 0 ∧ τ.1 53 u = σ.1 52 u) ∧ (d ≤ u → τ.1 52 u = σ.1 52 u)) (F := 100000) (s := (nI 0, σ)) (by
    rintro i ⟨c, τ⟩ hi ⟨e, hf, hv⟩
    simp only at e hf hv
    subst e
    have hG := h.fr hf (by decide)
    refine ⟨(nI (i + 1), ps_ui (ps_ui τ 53 i (τ.1 52 i)) 52 i 0), ?_, rfl, (hf.tr (ps_fr_ui (Or.inr rfl))).tr (ps_fr_ui (Or.inl rfl)), fun u hu => ?_⟩
    · show fX5_covers_S39 a1 a2 a3 (nI i) τ = _
      unfold fX5_covers_S39
      simp only [ps_let]
      rw [m_all hG hw, Option.bind_some, if_neg (nI_nlt (by omega) (by omega)), pk_ok (by omega) (by decide), pk_ok (by omega) (by decide), pk_ok (by omega) (by decide), nI_clamp (by omega), nI_1]
    · show (u < i + 1 → (ps_ui (ps_ui τ 53 i (τ.1 52 i)) 52 i 0).1 52 u = nI 0 ∧ (ps_ui (ps_ui τ 53 i (τ.1 52 i)) 52 i 0).1 53 u = σ.1 52 u) ∧ (i + 1 ≤ u → (ps_ui (ps_ui τ 53 i (τ.1 52 i)) 52 i 0).1 52 u = σ.1 52 u)
      rw [pu_i, pu_i, pu_i, pu_i]
      by_cases c : u = i
      · subst c
        refine ⟨fun _ => ⟨?_, ?_⟩, fun q => by omega⟩
        · rw [if_pos ⟨rfl, rfl⟩]; rfl
        · rw [if_neg (fun q => absurd q.1 (by decide)), if_pos ⟨rfl, rfl⟩]
          exact (hv u hu).2 (Nat.le_refl _)
      · rw [if_neg (fun q => c q.2), if_neg (fun q => absurd q.1 (by decide)), if_neg (fun q => absurd q.1 (by decide)), if_neg (fun q => c q.2)]
        exact ⟨fun q => (hv u hu).1 (by omega), fun q => (hv u hu).2 (by omega)⟩) (by
    rintro ⟨c, τ⟩ ⟨e, hf, hv⟩
    simp only at e hf hv
    subst e
    have hG := h.fr hf (by decide)
    refine ⟨τ, ?_, hf, hv⟩
    show fX5_covers_S39 a1 a2 a3 (nI d) τ = _
    unfold fX5_covers_S39
    rw [m_all hG hw, Option.bind_some, if_pos (nI_lt (by omega) (by omega))]) ⟨rfl, ps_fr.rf, fun u hu => ⟨fun q => by omega, fun _ => rfl⟩⟩ (by omega)
  exact ⟨τ, t1, t2, fun u hu => (t3 u hu).1 (by omega)⟩
theorem m_covs {σ : ps_S} {a : gG} {S k : Nat} (h : m_G σ 47 0 a) (hw : g_wf a) (hS : S < 2 ^ g_n a) (hk : k ≤ 8) (h0 : ∀ s, s < 2 ^ g_n a → σ.1 52 s = nI (if s = 0 then 1 else 0)) : ∃ τ, ps_lp (fun s => fX5_covers_S31 (nI S) (nI k) s.1 s.2) 100000 (nI 0, σ) = some τ ∧ ps_fr (fun q => q = 52 ∨ q = 53) σ τ ∧ ∀ u, u < 2 ^ g_n a → τ.1 52 u = nI (g_red (v_D (fun t => if g_df t S = 0 then (g_ms a 1 t : Int) else 0) (2 ^ g_n a) k u)) := by
  have h8 := hw.1
  have h2 := p2_le _ h8
  refine ps_for (step := fun s => fX5_covers_S31 (nI S) (nI k) s.1 s.2) k (fun i q => q.1 = nI i ∧ ps_fr (fun q => q = 52 ∨ q = 53) σ q.2 ∧ ∀ u, u < 2 ^ g_n a → q.2.1 52 u = nI (g_red (v_D (fun t => if g_df t S = 0 then (g_ms a 1 t : Int) else 0) (2 ^ g_n a) i u))) _ ?_ ?_ ⟨rfl, ps_fr.rf, fun u hu => by
      rw [h0 u hu, v_D]
      by_cases c : u = 0
      · rw [if_pos c, if_pos c]; rfl
      · rw [if_neg c, if_neg c]; rfl⟩ (by omega)
  · rintro i ⟨c, τ⟩ hi ⟨e, hf, hv⟩
    simp only at e hf hv
    subst e
    have hG := h.fr hf (by decide)
    obtain ⟨χ, x1, x2, x3⟩ := m_cov0 (a1 := nI S) (a2 := nI k) (a3 := nI i) hG hw rfl
    have hGχ := hG.fr x2 (by decide)
    obtain ⟨υ, u1, u2, u3⟩ := m_cov2 (a2 := nI k) (a3 := nI i) (D := v_D (fun t => if g_df t S = 0 then (g_ms a 1 t : Int) else 0) (2 ^ g_n a) i) hGχ hw hS (fun x hx => by rw [(x3 x hx).2, hv x hx]) (fun x hx => (x3 x hx).1) rfl
    refine ⟨(nI (i + 1), υ), ?_, rfl, (hf.tr x2).tr (u2.wk (fun k q => Or.inl q)), u3⟩
    show fX5_covers_S31 (nI S) (nI k) (nI i) τ = _
    unfold fX5_covers_S31
    rw [if_neg (nI_ge hi (by omega)), n0, x1, Option.bind_some, u1, Option.bind_some]
    simp only [ps_let]
    rw [nI_1]
  · rintro ⟨c, τ⟩ ⟨e, hf, hv⟩
    simp only at e hf hv
    subst e
    refine ⟨τ, ?_, hf, hv⟩
    show fX5_covers_S31 (nI S) (nI k) (nI k) τ = _
    unfold fX5_covers_S31
    rw [if_pos (nI_le (by omega) (by omega))]
theorem red_pow (z : Int) : ∀ k, g_red (((g_red z : Nat) : Int) ^ k) = g_red (z ^ k)
  | 0 => by rw [Int.pow_zero, Int.pow_zero]
  | k + 1 => by
    rw [Int.pow_succ, Int.pow_succ]
    exact pe_red.mp ((pe_red.mpr (red_pow z k)).mul (pe_red.mpr (red_red z)))
theorem c_G_fr42 {σ τ : ps_S} {a : gG} (h : c_G σ 1 a) (hf : ps_fr (fun q => q = 42) σ τ) : c_G τ 1 a := h.fr hf (fun k h1 h2 => by omega)
theorem c_G_th {σ : ps_S} {a : gG} (h : c_G σ 1 a) : σ.1 1 0 = nI (g_n a) := h.1
theorem c_cov1 {σ : ps_S} {a : gG} {k : Nat} {a1 : Int32} {Z : Nat → Int} (h : c_G σ 1 a) (hw : g_wf a) (hk : k ≤ 8) (hZ : ∀ s, s < g_N a → σ.1 42 s = nI (g_red (Z s))) : ∃ τ, ps_lp (fun s => fX4_covers_S53 a1 (nI k) s.1 s.2) 100000 ((0 : Int32), σ) = some τ ∧ ps_fr (fun q => q = 42) σ τ ∧ ∀ s, s < g_N a → τ.1 42 s = nI (g_red (Z s ^ k)) := by
  have hN := g_N_le hw
  obtain ⟨τ, t1, t2, t3, -⟩ := fill_row (step := fun s => fX4_covers_S53 a1 (nI k) s.1 s.2) (σ := σ) (N := g_N a) (k := 42) (v := fun s => nI (g_red (Z s ^ k))) (by omega) (fun i τ hi hf _ hv => by
      have hG : c_G τ 1 a := c_G_fr42 h hf
      show fX4_covers_S53 a1 (nI k) (nI i) τ = _
      unfold fX4_covers_S53
      have hpw : g_red (((g_red (Z i) : Nat) : Int) ^ k) = g_red (Z i ^ k) := red_pow _ _
      rw [c_countSets hG hw, Option.bind_some, if_neg (nI_ge hi (by omega)), pk_ok (by omega) (by decide), nI_clamp (by omega), hv i (Nat.le_refl _), hZ i hi, c_raise (g_red_lt _) (by omega), Option.bind_some, pk_ok (by omega) (by decide), hpw]
      simp only [ps_let]
      rw [nI_1]) (fun τ hf => by
      have hG : c_G τ 1 a := c_G_fr42 h hf
      show fX4_covers_S53 a1 (nI k) (nI (g_N a)) τ = _
      unfold fX4_covers_S53
      rw [c_countSets hG hw, Option.bind_some, if_pos (nI_le (by omega) (by omega))])
  exact ⟨τ, t1, t2, t3⟩
theorem op_covers {σ : ps_S} (x y : Int32) (h : b_R σ) : ∃ (r : Int32) (τ υ : ps_S), fX4_covers x y σ = some (r, τ) ∧ fX5_covers x y τ = some (r, υ) ∧ b_R υ := by
  obtain ⟨A, hw, hc, hm⟩ := h
  have hm' := thr_R hm
  have hN := g_N_le hw.1
  have bad : (fX4_covers x y σ = some (-1, σ) ∧ fX5_covers x y σ = some (-1, thr σ)) → ∃ (r : Int32) (τ υ : ps_S), fX4_covers x y σ = some (r, τ) ∧ fX5_covers x y τ = some (r, υ) ∧ b_R υ := fun q => ⟨-1, σ, thr σ, q.1, q.2, b_keep hw hc hm' (thr_fr σ)⟩
  rcases set_cases (a_g A) hw.1 x with hx | ⟨S, hS, rfl⟩
  · refine bad ⟨?_, ?_⟩
    · unfold fX4_covers
      rw [c_hasSet_no hc.1 hw.1 hx]; rfl
    · unfold fX5_covers
      rw [ps_let, show ps_ui σ 45 0 0 = thr σ from rfl, m_isSet_no hm'.1 hw.1 hx]; rfl
  have hn : g_n (a_g A) ≠ 0 := fun q => by unfold g_N at hS; rw [if_pos q] at hS; omega
  have hNp := g_N_pos hn
  rcases n_cases y 9 (by decide) with hv | ⟨hv, hv0⟩ | ⟨k, hk, rfl⟩
  · refine bad ⟨?_, ?_⟩
    · unfold fX4_covers
      rw [c_hasSet_yes hc.1 hw.1 hS, Option.bind_some, if_neg (by decide), if_pos hv]
    · unfold fX5_covers
      rw [ps_let, show ps_ui σ 45 0 0 = thr σ from rfl, m_isSet_yes hm'.1 hw.1 hS, Option.bind_some, if_neg (by decide), m_isIn_no (Or.inl hv)]; rfl
  · have h7 : (8 : Int32) < y := lt_of_le (n := 9) (by decide) (by decide) hv hv0
    refine bad ⟨?_, ?_⟩
    · unfold fX4_covers
      rw [c_hasSet_yes hc.1 hw.1 hS, Option.bind_some, if_neg (by decide), if_neg hv0, if_neg (fa_of_lt h7).2.1]
    · unfold fX5_covers
      rw [ps_let, show ps_ui σ 45 0 0 = thr σ from rfl, m_isSet_yes hm'.1 hw.1 hS, Option.bind_some, if_neg (by decide), m_isIn_no (Or.inr h7)]; rfl
  have h8 := hw.1.1
  have h2 := p2_le _ h8
  obtain ⟨τ1, a1, a2, a3, -⟩ := c_measureAll (what := 1) hc.1 hw.1 (by decide)
  have g1 : c_G τ1 1 (a_g A) := c_G_fr42 hc.1 a2
  obtain ⟨τ2, b1, b2, b3, -⟩ := c_transform (σ := τ1) (k := 42) (how := 1) (n := g_n (a_g A)) (bw := false) (x := 0) (f := fun s => (g_ms (a_g A) 1 s : Int)) (by decide) h8 (Or.inl rfl) (by decide) (fun s hs => by
    rw [a3 s (by omega)]
    have : g_ms (a_g A) 1 s < g_P := by
      show (if 0 < g_w (a_g A) s then 1 else 0) < 1000003
      split <;> decide
    rw [red_small this])
  have g2 : c_G τ2 1 (a_g A) := c_G_fr42 g1 b2
  obtain ⟨τ3, d1, d2, d3⟩ := c_cov1 (k := k) (a1 := nI S) g2 hw.1 (by omega) (fun s hs => b3 s (by omega))
  have g3 : c_G τ3 1 (a_g A) := c_G_fr42 g2 d2
  obtain ⟨τ4, e1, e2, e3, -⟩ := c_transform (σ := τ3) (k := 42) (how := 1) (n := g_n (a_g A)) (bw := true) (x := nI 1) (by decide) h8 (Or.inl rfl) (by decide) (fun s hs => d3 s (by omega))
  have f42 : ps_fr (fun q => q = 42) σ τ4 := ((a2.tr b2).tr d2).tr e2
  have hc4 : c_R τ4 A := c_R_scr hc (f42.wk (fun k q => by unfold c_scr; omega))
  have hmω : m_R (thr τ4) A := thr_R (m_R_c hm (f42.wk (fun k q => by unfold c_own; omega)))
  obtain ⟨χ, x1, x2, x3⟩ := m_laysOne hmω.1 hw.1
  have hGχ := hmω.1.fr x2 (by decide)
  obtain ⟨ψ, y1, y2, y3⟩ := m_covs (S := S) (k := k) hGχ hw.1 (by omega) (by omega) x3
  have f52 : ps_fr m_scr (thr τ4) ψ := (x2.wk (fun k q => by unfold m_scr; omega)).tr (y2.wk (fun k q => by unfold m_scr; omega))
  have hmψ : m_R ψ A := m_R_scr hmω f52
  have hr := e3 S (by omega)
  rw [v_cov h8 (by omega)] at hr
  refine ⟨nI (g_red (v_D (fun t => if g_df t S = 0 then (g_ms (a_g A) 1 t : Int) else 0) (2 ^ g_n (a_g A)) k S)), τ4, ψ, ?_, ?_, b_keep hw hc4 hmψ ((thr_fr τ4).tr (scr_m f52))⟩
  · unfold fX4_covers
    rw [c_hasSet_yes hc.1 hw.1 hS, Option.bind_some, if_neg (by decide), if_neg (nI_pos (by omega)), nl_8, if_pos (nI_le (by omega) (by decide)), n1, a1, Option.bind_some, g1.1, b1, Option.bind_some, d1, Option.bind_some, g3.1, e1, Option.bind_some, pk_ok (by omega) (by decide), nI_clamp (by omega), hr]
  · unfold fX5_covers
    rw [ps_let, show ps_ui τ4 45 0 0 = thr τ4 from rfl, m_isSet_yes hmω.1 hw.1 hS, Option.bind_some, if_neg (by decide), nl_8, m_isIn_yes (nI_pos (by omega)) (nI_nlt (by omega) (by decide)), Option.bind_some, if_neg (by decide), x1, Option.bind_some, n0, y1, Option.bind_some, pk_ok (by omega) (by decide), nI_clamp (by omega), y3 S (by omega)]
