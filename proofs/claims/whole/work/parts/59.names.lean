/-! names changed, on the class's side -/
/-- what a line is when the sets below i have changed places -/
def l_sw (a b i : Nat) (f : Nat → Int32) (x : Nat) : Int32 := if (x.testBit a = true ∧ x.testBit b = false ∧ x < i) ∨ (x.testBit a = false ∧ x.testBit b = true ∧ g_sw a b x < i) then f (g_sw a b x) else f x
theorem both_eq {a b : Nat} (ha : a < 8) (hb : b < 8) : ((1 : Int32) <<< (nI a &&& 31)) ||| ((1 : Int32) <<< (nI b &&& 31)) = nI (2 ^ a ||| 2 ^ b) := by
  rw [sh1' a ha, sh1' b hb, fa_or]
theorem both_and {s a b : Nat} (hab : a ≠ b) : s &&& (2 ^ a ||| 2 ^ b) = 2 ^ a ↔ s.testBit a = true ∧ s.testBit b = false := by
  constructor
  · intro h
    have h1 := congrArg (fun x => x.testBit a) h
    have h2 := congrArg (fun x => x.testBit b) h
    simp only [Nat.testBit_and, Nat.testBit_or, Nat.testBit_two_pow] at h1 h2
    simp [hab] at h1 h2
    exact ⟨h1, h2⟩
  · intro ⟨h1, h2⟩
    apply Nat.eq_of_testBit_eq
    intro i
    rw [Nat.testBit_and, Nat.testBit_or, Nat.testBit_two_pow, Nat.testBit_two_pow]
    by_cases e1 : a = i
    · subst e1; simp [h1]
    · by_cases e2 : b = i
      · subst e2; simp [h2, hab]
      · simp [e1, e2]
theorem sw_xor {s a b : Nat} (h1 : s.testBit a = true) (h2 : s.testBit b = false) : g_sw a b s = s ^^^ (2 ^ a ||| 2 ^ b) := by
  unfold g_sw
  rw [if_neg (by rw [h1, h2]; decide)]
theorem l_sw_step {a b i : Nat} {f : Nat → Int32} (hab : a ≠ b) (h1 : i.testBit a = true) (h2 : i.testBit b = false) (x : Nat) : l_sw a b (i + 1) f x = if x = i then f (g_sw a b i) else if x = g_sw a b i then f i else l_sw a b i f x := by
  have g1 : (g_sw a b i).testBit a = false := by rw [g_sw_tb hab]; unfold t_sw; rw [if_pos rfl]; exact h2
  have g2 : (g_sw a b i).testBit b = true := by rw [g_sw_tb hab]; unfold t_sw; rw [if_neg (fun q => hab q.symm), if_pos rfl]; exact h1
  unfold l_sw
  by_cases e : x = i
  · subst e
    rw [if_pos rfl, if_pos (Or.inl ⟨h1, h2, by omega⟩)]
  · rw [if_neg e]
    by_cases e2 : x = g_sw a b i
    · subst e2
      rw [if_pos rfl, g_sw_sw hab, if_pos (Or.inr ⟨g1, g2, by omega⟩)]
    · rw [if_neg e2]
      have e3 : g_sw a b x ≠ i := fun q => e2 (by rw [← q, g_sw_sw hab])
      congr 1
      apply propext
      constructor
      · rintro (⟨q1, q2, q3⟩ | ⟨q1, q2, q3⟩)
        · exact Or.inl ⟨q1, q2, by omega⟩
        · exact Or.inr ⟨q1, q2, by omega⟩
      · rintro (⟨q1, q2, q3⟩ | ⟨q1, q2, q3⟩)
        · exact Or.inl ⟨q1, q2, by omega⟩
        · exact Or.inr ⟨q1, q2, by omega⟩
theorem l_sw_skip {a b i : Nat} {f : Nat → Int32} (hab : a ≠ b) (h : ¬ (i.testBit a = true ∧ i.testBit b = false)) (x : Nat) : l_sw a b (i + 1) f x = l_sw a b i f x := by
  unfold l_sw
  congr 1
  apply propext
  constructor
  · rintro (⟨q1, q2, q3⟩ | ⟨q1, q2, q3⟩)
    · refine Or.inl ⟨q1, q2, ?_⟩
      have : x ≠ i := fun q => h (by rw [← q]; exact ⟨q1, q2⟩)
      omega
    · refine Or.inr ⟨q1, q2, ?_⟩
      have : g_sw a b x ≠ i := fun q => h (by
        rw [← q]
        rw [g_sw_tb hab, g_sw_tb hab]
        unfold t_sw
        rw [if_pos rfl, if_neg (fun q => hab q.symm), if_pos rfl]
        exact ⟨q2, q1⟩)
      omega
  · rintro (⟨q1, q2, q3⟩ | ⟨q1, q2, q3⟩)
    · exact Or.inl ⟨q1, q2, by omega⟩
    · exact Or.inr ⟨q1, q2, by omega⟩
theorem l_sw_end {a b : Nat} {f : Nat → Int32} (hab : a ≠ b) (ha : a < 8) (hb : b < 8) {x : Nat} (hx : x < 256) : l_sw a b 256 f x = f (g_sw a b x) := by
  have hx2 : g_sw a b x < 256 := g_sw_lt (n := 8) ha hb hx
  unfold l_sw
  by_cases e : x.testBit a = x.testBit b
  · have : g_sw a b x = x := by unfold g_sw; rw [if_pos e]
    rw [this]; simp
  · rw [if_pos]
    revert e
    cases h1 : x.testBit a <;> cases h2 : x.testBit b <;> simp <;> omega
theorem c_swLine {σ : ps_S} {a b l : Nat} (ha : a < 8) (hb : b < 8) (hab : a ≠ b) (hl : l < 5) : ∃ τ, ps_lp (fun s => fX1_swapNames_S20 (nI a) (nI b) (nI (2 ^ a ||| 2 ^ b)) (nI l) s.1 s.2) 100000 ((0 : Int32), σ) = some τ ∧ ps_fr (fun k => k = 3 + l) σ τ ∧ ∀ x, x < 256 → τ.1 (3 + l) x = σ.1 (3 + l) (g_sw a b x) := by
  obtain ⟨x, hx, q1, q2⟩ := ps_for (step := fun s => fX1_swapNames_S20 (nI a) (nI b) (nI (2 ^ a ||| 2 ^ b)) (nI l) s.1 s.2) 256
    (fun i s => s.1 = nI i ∧ ps_fr (fun k => k = 3 + l) σ s.2 ∧ ∀ x, s.2.1 (3 + l) x = l_sw a b i (σ.1 (3 + l)) x)
    (fun x => ps_fr (fun k => k = 3 + l) σ x ∧ ∀ y, x.1 (3 + l) y = l_sw a b 256 (σ.1 (3 + l)) y)
    (F := 100000) (s := ((0 : Int32), σ)) (by
      intro i s hi ⟨e, hf, hv⟩
      obtain ⟨a5, τ⟩ := s
      simp only at e hf hv
      subst e
      have hm : (2 ^ a ||| 2 ^ b) < 256 := Nat.or_lt_two_pow (n := 8) (Nat.pow_lt_pow_right (by decide) ha) (Nat.pow_lt_pow_right (by decide) hb)
      by_cases hc : i.testBit a = true ∧ i.testBit b = false
      · have hs : g_sw a b i < 256 := g_sw_lt (n := 8) ha hb hi
        have hsx := sw_xor hc.1 hc.2
        have hne : g_sw a b i ≠ i := fun q => by
          have := g_sw_tb (s := i) hab a
          rw [q] at this
          unfold t_sw at this
          rw [if_pos rfl, hc.1, hc.2] at this
          cases this
        refine ⟨(nI (i + 1), ps_ui (ps_ui τ (3 + l) i (τ.1 (3 + l) (g_sw a b i))) (3 + l) (g_sw a b i) (τ.1 (3 + l) i)), ?_, rfl, (hf.tr (ps_fr_ui rfl)).tr (ps_fr_ui rfl), fun x => ?_⟩
        · unfold fX1_swapNames_S20 fX1_swapNames_J86
          simp only [ps_let]
          rw [nl_256, if_neg (nI_ge hi (by decide)), fa_and, sh1' a ha, if_pos (by rw [(both_and hab).mpr hc]), pk_ok hl (by decide), pk_ok hi (by decide), pk_ok hl (by decide), pk_ok hl (by decide), fb_xorI, ← hsx, pk_ok hs (by decide), pk_ok hi (by decide), pk_ok hl (by decide), pk_ok hs (by decide), nI_clamp (by omega), nI_clamp (by omega), nI_clamp (by omega), n1, nI_add, show 2 + 1 + l = 3 + l by omega]
        · rw [l_sw_step hab hc.1 hc.2, pu_i, pu_i, hv i, hv (g_sw a b i)]
          have z1 : l_sw a b i (σ.1 (3 + l)) i = σ.1 (3 + l) i := by
            unfold l_sw
            rw [if_neg]
            rintro (⟨_, _, q⟩ | ⟨q, _, _⟩)
            · omega
            · rw [hc.1] at q; cases q
          have z2 : l_sw a b i (σ.1 (3 + l)) (g_sw a b i) = σ.1 (3 + l) (g_sw a b i) := by
            unfold l_sw
            rw [if_neg]
            rintro (⟨q, _, _⟩ | ⟨_, _, q⟩)
            · rw [g_sw_tb hab] at q
              unfold t_sw at q
              rw [if_pos rfl, hc.2] at q; cases q
            · rw [g_sw_sw hab] at q; omega
          rw [z1, z2]
          by_cases e1 : x = i
          · subst e1
            rw [if_neg (fun q => hne q.2.symm), if_pos ⟨rfl, rfl⟩, if_pos rfl]
          · rw [if_neg e1]
            by_cases e2 : x = g_sw a b i
            · rw [if_pos ⟨rfl, e2⟩, if_pos e2]
            · rw [if_neg (fun q => e2 q.2), if_neg (fun q => e1 q.2), if_neg e2, hv x]
      · refine ⟨(nI (i + 1), τ), ?_, rfl, hf, fun x => by rw [l_sw_skip hab hc]; exact hv x⟩
        unfold fX1_swapNames_S20 fX1_swapNames_J86
        simp only [ps_let]
        rw [nl_256, if_neg (nI_ge hi (by decide)), fa_and, sh1' a ha, if_neg, n1, nI_add]
        intro q
        rw [nI_eq (Nat.lt_of_le_of_lt Nat.and_le_left (by omega)) (Nat.lt_of_lt_of_le (Nat.pow_lt_pow_right (by decide) ha) (by decide))] at q
        exact hc ((both_and hab).mp q)) (by
      intro s ⟨e, hf, hv⟩
      obtain ⟨a5, τ⟩ := s
      simp only at e hf hv
      subst e
      exact ⟨τ, by unfold fX1_swapNames_S20; rw [nl_256, if_pos (nI_le (Nat.le_refl _) (by decide))], hf, hv⟩) ⟨rfl, ps_fr.rf, fun x => by
        unfold l_sw
        rw [if_neg]
        rintro (⟨_, _, q⟩ | ⟨_, _, q⟩) <;> omega⟩ (by decide)
  exact ⟨x, hx, q1, fun y hy => by rw [q2, l_sw_end hab ha hb hy]⟩
theorem c_swLines {σ : ps_S} {a b : Nat} (ha : a < 8) (hb : b < 8) (hab : a ≠ b) : ∃ τ, ps_lp (fun s => fX1_swapNames_S11 (nI a) (nI b) (nI (2 ^ a ||| 2 ^ b)) s.1 s.2) 100000 ((0 : Int32), σ) = some τ ∧ ps_fr (fun k => 3 ≤ k ∧ k ≤ 7) σ τ ∧ ∀ l x, l < 5 → x < 256 → τ.1 (3 + l) x = σ.1 (3 + l) (g_sw a b x) := by
  obtain ⟨x, hx, q1, q2⟩ := ps_for (step := fun s => fX1_swapNames_S11 (nI a) (nI b) (nI (2 ^ a ||| 2 ^ b)) s.1 s.2) 5
    (fun i s => s.1 = nI i ∧ ps_fr (fun k => 3 ≤ k ∧ k < 3 + i) σ s.2 ∧ ∀ l x, l < i → x < 256 → s.2.1 (3 + l) x = σ.1 (3 + l) (g_sw a b x))
    (fun x => ps_fr (fun k => 3 ≤ k ∧ k ≤ 7) σ x ∧ ∀ l y, l < 5 → y < 256 → x.1 (3 + l) y = σ.1 (3 + l) (g_sw a b y))
    (F := 100000) (s := ((0 : Int32), σ)) (by
      intro i s hi ⟨e, hf, hv⟩
      obtain ⟨a4, τ⟩ := s
      simp only at e hf hv
      subst e
      obtain ⟨υ, u1, u2, u3⟩ := c_swLine (σ := τ) ha hb hab hi
      refine ⟨(nI (i + 1), υ), ?_, rfl, (hf.wk (fun k q => by omega)).tr (u2.wk (fun k q => by omega)), fun l x hl hx => ?_⟩
      · unfold fX1_swapNames_S11
        simp only [ps_let]
        rw [nl_5, if_neg (nI_ge hi (by decide)), u1, Option.bind_some, n1, nI_add]
      · show υ.1 (3 + l) x = _
        by_cases e : l = i
        · rw [e, u3 x hx, (hf (3 + i) (by omega)).1]
        · rw [(u2 (3 + l) (by omega)).1]
          exact hv l x (by omega) hx) (by
      intro s ⟨e, hf, hv⟩
      obtain ⟨a4, τ⟩ := s
      simp only at e hf hv
      subst e
      exact ⟨τ, by unfold fX1_swapNames_S11; rw [nl_5, if_pos (nI_le (Nat.le_refl _) (by decide))], hf.wk (fun k q => by omega), hv⟩) ⟨rfl, ps_fr.rf, fun l x hl => absurd hl (by omega)⟩ (by decide)
  exact ⟨x, hx, q1, q2⟩
/-- pairs when the things below i have changed places at a and b -/
def p_sw (j : Nat → Nat) (a b i t u : Nat) : Bool := if ((t = a ∨ t = b) ∧ u ≠ a ∧ u ≠ b ∧ u < i) ∨ ((u = a ∨ u = b) ∧ t ≠ a ∧ t ≠ b ∧ t < i) then (j (t_sw a b t)).testBit (t_sw a b u) else (j t).testBit u
theorem c_swPairs {σ : ps_S} {j : Nat → Nat} {n a b : Nat} (hn : n ≤ 8) (ha : a < n) (hb : b < n) (hab : a ≠ b) (hj : ∀ t, j t < 256) (hsym : ∀ t u, (j t).testBit u = (j u).testBit t) (hz : ∀ t u, n ≤ t ∨ n ≤ u → (j t).testBit u = false) (hirr : ∀ t, (j t).testBit t = false) (h0 : σ.1 1 0 = nI n) (hv : σ.2 1 1 = lN (g_pr j)) : ∃ τ, ps_lp (fun s => fX1_swapNames_S101 (nI a) (nI b) s.1 s.2) 100000 ((0 : Int32), σ) = some τ ∧ ps_fr (fun k => k = 1) σ τ ∧ τ.1 1 = σ.1 1 ∧ τ.2 1 1 = lN (g_pr (fun t => g_sw a b (j (t_sw a b t)))) := by
  obtain ⟨x, hx, q1, q2, j', q3, q4, q5⟩ := ps_for (step := fun s => fX1_swapNames_S101 (nI a) (nI b) s.1 s.2) n
    (fun i s => s.1 = nI i ∧ ps_fr (fun k => k = 1) σ s.2 ∧ s.2.1 1 = σ.1 1 ∧ ∃ ji : Nat → Nat, (∀ t, ji t < 256) ∧ s.2.2 1 1 = lN (g_pr ji) ∧ ∀ t u, t < 8 → u < 8 → (ji t).testBit u = p_sw j a b i t u)
    (fun x => ps_fr (fun k => k = 1) σ x ∧ x.1 1 = σ.1 1 ∧ ∃ ji : Nat → Nat, (∀ t, ji t < 256) ∧ x.2 1 1 = lN (g_pr ji) ∧ ∀ t u, t < 8 → u < 8 → (ji t).testBit u = p_sw j a b n t u)
    (F := 100000) (s := ((0 : Int32), σ)) (by
      intro i s hi ⟨e, hf, g1, ji, w1, w2, w3⟩
      obtain ⟨a4, τ⟩ := s
      simp only at e hf g1 w2
      subst e
      have hi8 : i < 8 := by omega
      have e0 : τ.1 1 0 = nI n := by rw [g1]; exact h0
      unfold fX1_swapNames_S101 fX1_swapNames_J153
      simp only [ps_let]
      rw [e0, if_neg (nI_ge hi (by omega)), n1, nI_add]
      have keep : ∀ t u, t < 8 → u < 8 → ((i = a ∨ i = b) ∨ (j a).testBit i = (j b).testBit i) → p_sw j a b (i + 1) t u = p_sw j a b i t u := by
        intro t u ht hu hc
        unfold p_sw
        by_cases c1 : ((t = a ∨ t = b) ∧ u ≠ a ∧ u ≠ b ∧ u < i) ∨ ((u = a ∨ u = b) ∧ t ≠ a ∧ t ≠ b ∧ t < i)
        · rw [if_pos c1, if_pos (by omega)]
        · rw [if_neg c1]
          by_cases c2 : ((t = a ∨ t = b) ∧ u ≠ a ∧ u ≠ b ∧ u < i + 1) ∨ ((u = a ∨ u = b) ∧ t ≠ a ∧ t ≠ b ∧ t < i + 1)
          · rw [if_pos c2]
            rcases c2 with ⟨d1, d2, d3, d4⟩ | ⟨d1, d2, d3, d4⟩
            · have eu : u = i := by omega
              subst eu
              have hh : (j a).testBit u = (j b).testBit u := hc.resolve_left (by omega)
              have e1 : t_sw a b u = u := by unfold t_sw; rw [if_neg d2, if_neg d3]
              rw [e1]
              rcases d1 with rfl | rfl
              · unfold t_sw; rw [if_pos rfl]; exact hh.symm
              · unfold t_sw; rw [if_neg (fun q => hab q.symm), if_pos rfl]; exact hh
            · have eu : t = i := by omega
              subst eu
              have hh : (j a).testBit t = (j b).testBit t := hc.resolve_left (by omega)
              have e1 : t_sw a b t = t := by unfold t_sw; rw [if_neg d2, if_neg d3]
              rw [e1, hsym, hsym t u]
              rcases d1 with rfl | rfl
              · unfold t_sw; rw [if_pos rfl]; exact hh.symm
              · unfold t_sw; rw [if_neg (fun q => hab q.symm), if_pos rfl]; exact hh
          · rw [if_neg c2]
      by_cases ca : i = a
      · rw [if_pos (by rw [ca])]
        exact ⟨_, rfl, rfl, hf, g1, ji, w1, w2, fun t u ht hu => by rw [w3 t u ht hu, keep t u ht hu (Or.inl (Or.inl ca))]⟩
      · rw [if_neg (fun q => ca ((nI_eq (by omega) (by omega)).mp q))]
        by_cases cb : i = b
        · rw [if_pos (by rw [cb])]
          exact ⟨_, rfl, rfl, hf, g1, ji, w1, w2, fun t u ht hu => by rw [w3 t u ht hu, keep t u ht hu (Or.inl (Or.inr cb))]⟩
        · rw [if_neg (fun q => cb ((nI_eq (by omega) (by omega)).mp q)), c_areMates w2 w1 (by omega) hi8, Option.bind_some, c_areMates w2 w1 (by omega) hi8, Option.bind_some]
          have ra : (ji a).testBit i = (j a).testBit i := by
            rw [w3 a i (by omega) hi8]; unfold p_sw; rw [if_neg (by omega)]
          have rb : (ji b).testBit i = (j b).testBit i := by
            rw [w3 b i (by omega) hi8]; unfold p_sw; rw [if_neg (by omega)]
          by_cases cm : (ji a).testBit i = (ji b).testBit i
          · rw [if_pos (b2i.mpr cm)]
            exact ⟨_, rfl, rfl, hf, g1, ji, w1, w2, fun t u ht hu => by rw [w3 t u ht hu, keep t u ht hu (Or.inr (by rw [← ra, ← rb]; exact cm))]⟩
          · have l1 := g_tj_lt w1 (show a < 8 by omega) hi8
            have l2 := g_tj_lt l1 (show b < 8 by omega) hi8
            rw [if_neg (fun q => cm (b2i.mp q)), c_turnPair w2 w1 (by omega) hi8 (fun q => ca q.symm), Option.bind_some, c_turnPair (j := g_tj ji a i) (by rw [pu_l, if_pos ⟨rfl, rfl⟩]) l1 (by omega) hi8 (fun q => cb q.symm), Option.bind_some]
            refine ⟨_, rfl, rfl, (hf.tr (ps_fr_ul rfl)).tr (ps_fr_ul rfl), g1, g_tj (g_tj ji a i) b i, l2, by rw [pu_l, if_pos ⟨rfl, rfl⟩], fun t u ht hu => ?_⟩
            rw [g_tj_tb (fun q => cb q.symm), g_tj_tb (fun q => ca q.symm), w3 t u ht hu]
            have nm : (j b).testBit i = !(j a).testBit i := by
              rw [← ra, ← rb]
              revert cm
              cases (ji a).testBit i <;> cases (ji b).testBit i <;> simp
            have sa : t_sw a b a = b := by unfold t_sw; rw [if_pos rfl]
            have sb : t_sw a b b = a := by unfold t_sw; rw [if_neg (fun q => hab q.symm), if_pos rfl]
            have si : t_sw a b i = i := by unfold t_sw; rw [if_neg ca, if_neg cb]
            by_cases c3 : (t = a ∧ u = i) ∨ (t = i ∧ u = a)
            · have c4 : ¬ ((t = b ∧ u = i) ∨ (t = i ∧ u = b)) := by omega
              rw [decide_eq_true c3, decide_eq_false c4]
              unfold p_sw
              rw [if_neg (by omega), if_pos (by omega)]
              rcases c3 with ⟨rfl, rfl⟩ | ⟨rfl, rfl⟩
              · rw [sa, si, nm]; simp
              · rw [sa, si, hsym t b, nm, hsym t u]; simp
            · by_cases c4 : (t = b ∧ u = i) ∨ (t = i ∧ u = b)
              · rw [decide_eq_false c3, decide_eq_true c4]
                unfold p_sw
                rw [if_neg (by omega), if_pos (by omega)]
                rcases c4 with ⟨rfl, rfl⟩ | ⟨rfl, rfl⟩
                · rw [sb, si, nm]; simp
                · rw [sb, si, hsym t a, hsym t u, nm]; simp
              · rw [decide_eq_false c3, decide_eq_false c4]
                simp only [Bool.xor_false]
                unfold p_sw
                by_cases c1 : ((t = a ∨ t = b) ∧ u ≠ a ∧ u ≠ b ∧ u < i) ∨ ((u = a ∨ u = b) ∧ t ≠ a ∧ t ≠ b ∧ t < i)
                · rw [if_pos c1, if_pos (by omega)]
                · rw [if_neg c1, if_neg (by omega)]) (by
      intro s ⟨e, hf, g1, hq⟩
      obtain ⟨a4, τ⟩ := s
      simp only at e hf g1 hq
      subst e
      exact ⟨τ, by unfold fX1_swapNames_S101; rw [g1, h0, if_pos (nI_le (Nat.le_refl _) (by omega))], hf, g1, hq⟩) ⟨rfl, ps_fr.rf, rfl, j, hj, hv, fun t u _ _ => by
        unfold p_sw
        rw [if_neg (by omega)]⟩ (by omega)
  refine ⟨x, hx, q1, q2, ?_⟩
  rw [q4]
  congr 1
  refine pr_inj q3 (fun t => g_sw_lt (n := 8) (by omega) (by omega) (hj _)) (fun t u ht hu => ?_)
  rw [q5 t u ht hu, g_sw_tb hab]
  unfold p_sw
  by_cases c1 : ((t = a ∨ t = b) ∧ u ≠ a ∧ u ≠ b ∧ u < n) ∨ ((u = a ∨ u = b) ∧ t ≠ a ∧ t ≠ b ∧ t < n)
  · rw [if_pos c1]
  · rw [if_neg c1]
    by_cases cu : n ≤ t ∨ n ≤ u
    · rw [hz t u cu, hz]
      unfold t_sw
      rcases cu with c | c
      · exact Or.inl (by rw [if_neg (by omega), if_neg (by omega)]; exact c)
      · exact Or.inr (by rw [if_neg (by omega), if_neg (by omega)]; exact c)
    · by_cases ct : t = a ∨ t = b
      · have cu2 : u = a ∨ u = b := by omega
        have sa : t_sw a b a = b := by unfold t_sw; rw [if_pos rfl]
        have sb : t_sw a b b = a := by unfold t_sw; rw [if_neg (fun q => hab q.symm), if_pos rfl]
        rcases ct with rfl | rfl <;> rcases cu2 with rfl | rfl
        · rw [sa, hirr, hirr]
        · rw [sa, sb, hsym]
        · rw [sa, sb, hsym]
        · rw [sb, hirr, hirr]
      · have cu2 : ¬ (u = a ∨ u = b) := by omega
        unfold t_sw
        rw [if_neg (by omega), if_neg (by omega), if_neg (by omega), if_neg (by omega)]
theorem j_hz {g : gG} (hw : g_wf g) (t u : Nat) (h : g_n g ≤ t ∨ g_n g ≤ u) : (g_j g t).testBit u = false := by
  rcases h with h | h
  · rw [hw.2.2.2.2.1 t h]; simp
  · exact Nat.testBit_lt_two_pow (Nat.lt_of_lt_of_le (hw.2.2.2.1 t) (Nat.pow_le_pow_right (by decide) h))
theorem c_swapNames {σ : ps_S} {g : gG} {a b : Nat} (hc : c_G σ 1 g) (hw : g_wf g) (ha : a < g_n g) (hb : b < g_n g) (hab : a ≠ b) : ∃ τ, fX1_swapNames (nI a) (nI b) σ = some τ ∧ ps_fr (fun k => k = 1 ∨ (3 ≤ k ∧ k ≤ 7)) σ τ ∧ τ.1 1 = σ.1 1 ∧ c_G τ 1 (g_nm a b g) := by
  have hn := hw.1
  obtain ⟨τ, t1, t2, t3⟩ := c_swLines (σ := σ) (show a < 8 by omega) (show b < 8 by omega) hab
  obtain ⟨υ, u1, u2, u3, u4⟩ := c_swPairs (σ := τ) (j := g_j g) (n := g_n g) hn ha hb hab (j_lt hw) hw.2.2.2.2.2.1 (j_hz hw) hw.2.2.2.2.2.2.1 (by rw [(t2 1 (by omega)).1]; exact hc.1) (by rw [(t2 1 (by omega)).2]; exact hc.2.1)
  unfold fX1_swapNames
  simp only [ps_let]
  rw [both_eq (by omega) (by omega), t1, Option.bind_some, u1, Option.bind_some]
  refine ⟨υ, rfl, (t2.wk (fun k q => Or.inr q)).tr (u2.wk (fun k q => Or.inl q)), by rw [u3, (t2 1 (by omega)).1], ?_, u4, fun s hs => ?_, fun r s hr hs => ?_⟩
  · rw [u3, (t2 1 (by omega)).1]; exact hc.1
  · rw [(u2 7 (by omega)).1, show 7 = 3 + 4 from rfl, t3 4 s (by decide) hs]
    exact hc.2.2.1 _ (g_sw_lt (n := 8) (by omega) (by omega) hs)
  · rw [(u2 (1 + 2 + r) (by omega)).1, show 1 + 2 + r = 3 + r by omega, t3 r s (by omega) hs]
    exact hc.2.2.2 r _ hr (g_sw_lt (n := 8) (by omega) (by omega) hs)
