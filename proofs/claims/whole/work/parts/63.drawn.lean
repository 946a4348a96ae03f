/-! drawn -/
/-- the seed's next -/
def d_N (nx : Int32 → Int32) : Prop := ∀ s : Int32, (s * (1103515245 : Int32)) + (12345 : Int32) = nx s
def d_m (s : Int32) : Nat := s.toBitVec.toNat / 256
def d_dr (s : Int32) (n : Nat) : Nat := d_m s % n
theorem d_m_lt (s : Int32) : d_m s < 2 ^ 24 := by
  unfold d_m
  have := s.toBitVec.isLt
  omega
theorem d_ush (s : Int32) : (s.toUInt32 >>> (Int32.toUInt32 (8 : Int32) &&& Int32.toUInt32 31)).toInt32 = nI (d_m s) := by
  apply Int32.toBitVec_inj.mp
  apply BitVec.eq_of_toNat_eq
  have h := d_m_lt s
  rw [pk_ushr s 8 8 (by decide), pk_tn (by omega)]
  rfl
theorem d_val {s : Int32} {n : Nat} (hn : 0 < n) (hn2 : n < 2 ^ 31) : (s.toUInt32 >>> (Int32.toUInt32 (8 : Int32) &&& Int32.toUInt32 31)).toInt32 - (s.toUInt32 >>> (Int32.toUInt32 (8 : Int32) &&& Int32.toUInt32 31)).toInt32 / nI n * nI n = nI (d_dr s n) := by
  have h := d_m_lt s
  rw [d_ush, pk_rem (by omega) hn hn2]; rfl
theorem c_draw {s : Int32} {n : Nat} (hn : 0 < n) (hn2 : n < 2 ^ 31) : fX4_draw s (nI n) = some (nI (d_dr s n)) := by
  unfold fX4_draw
  rw [if_neg (nI_nle hn hn2), pz_ok (nI_ne0 hn hn2), d_val hn hn2]
theorem m_draw {nx : Int32 → Int32} (hnx : d_N nx) {σ : ps_S} {n : Nat} (hn : 0 < n) (hn2 : n < 2 ^ 31) : fX5_draw (nI n) σ = some (nI (d_dr (nx (σ.1 45 23)) n), ps_ui σ 45 23 (nx (σ.1 45 23))) := by
  unfold fX5_draw
  simp only [ps_let]
  rw [pz_ok (nI_ne0 hn hn2), hnx]
  have e : (ps_ui σ 45 23 (nx (σ.1 45 23))).1 45 23 = nx (σ.1 45 23) := by rw [pu_i, if_pos ⟨rfl, rfl⟩]
  rw [e, d_val hn hn2]
theorem d_dr_lt {s : Int32} {n : Nat} (h : 0 < n) : d_dr s n < n := Nat.mod_lt _ h
/-- one deed -/
def d_do (nx : Int32 → Int32) (q : Int32 × gG) : Int32 × gG :=
  let s1 := nx q.1
  let s2 := nx s1
  let s3 := nx s2
  if d_dr s1 3 = 0 then (s3, if d_dr s2 (g_n q.2) = d_dr s3 (g_n q.2) then q.2 else g_jn q.2 (d_dr s2 (g_n q.2)) (d_dr s3 (g_n q.2)))
  else if d_dr s1 3 = 2 then (s2, g_wt q.2 (d_dr s2 (2 ^ g_n q.2)) 0)
  else (s3, g_wt q.2 (d_dr s2 (2 ^ g_n q.2)) (d_dr s3 100 + 1))
theorem d_do_ok {nx : Int32 → Int32} {q : Int32 × gG} (hw : g_wf q.2) (hn : g_n q.2 ≠ 0) : g_wf (d_do nx q).2 ∧ g_n (d_do nx q).2 = g_n q.2 ∧ g_f (d_do nx q).2 = g_f q.2 := by
  have hN := g_N_pos hn
  have hd : ∀ s, d_dr s (2 ^ g_n q.2) < g_N q.2 := fun s => by rw [hN]; exact d_dr_lt (p2_pos _)
  unfold d_do
  dsimp only
  split
  · dsimp only
    split
    · exact ⟨hw, rfl, rfl⟩
    · rename_i h; exact ⟨g_jn_wf hw (d_dr_lt (by omega)) (d_dr_lt (by omega)) h, rfl, rfl⟩
  · split
    · exact ⟨g_wt_wf hw (hd _) (by decide), rfl, rfl⟩
    · have : d_dr (nx (nx (nx q.1))) 100 < 100 := d_dr_lt (by decide)
      exact ⟨g_wt_wf hw (hd _) (by omega), rfl, rfl⟩
theorem c_next {nx : Int32 → Int32} (hnx : d_N nx) (s : Int32) : fX4_nextSeed s = some (nx s) := congrArg some (hnx s)
theorem c_deed {nx : Int32 → Int32} (hnx : d_N nx) {σ : ps_S} {g : gG} (s : Int32) (h : c_G σ 1 g) (hw : g_wf g) (hn : g_n g ≠ 0) : ∃ τ, fX4_doDeed s σ = some ((d_do nx (s, g)).1, τ) ∧ ps_fr (fun k => k = 1 ∨ k = 7) σ τ ∧ c_G τ 1 (d_do nx (s, g)).2 := by
  have h8 := hw.1
  have h2 := p2_le _ hw.1
  have h3 := p2_pos (g_n g)
  have hN := g_N_pos hn
  unfold fX4_doDeed d_do
  simp only [ps_let]
  have k3 : d_dr (nx s) 3 < 3 := d_dr_lt (by decide)
  rw [c_next hnx, Option.bind_some, nl_3, c_draw (by decide) (by decide), Option.bind_some, c_next hnx, Option.bind_some, c_next hnx, h.1]
  simp only [Option.bind_some]
  by_cases e0 : d_dr (nx s) 3 = 0
  · rw [if_pos (by rw [e0]; rfl), c_draw (by omega) (by omega), Option.bind_some, c_draw (by omega) (by omega), Option.bind_some, if_pos e0]
    have la : d_dr (nx (nx s)) (g_n g) < g_n g := d_dr_lt (by omega)
    have lb : d_dr (nx (nx (nx s))) (g_n g) < g_n g := d_dr_lt (by omega)
    by_cases e1 : d_dr (nx (nx s)) (g_n g) = d_dr (nx (nx (nx s))) (g_n g)
    · rw [if_pos (by rw [e1]), if_pos e1]
      exact ⟨σ, rfl, ps_fr.rf, h⟩
    · rw [if_neg (fun q => e1 ((nI_eq (by omega) (by omega)).mp q)), if_neg e1, c_turnPair h.2.1 (j_lt hw) (by omega) (by omega) e1, Option.bind_some]
      exact ⟨_, rfl, ps_fr_ul (Or.inl rfl), c_G_jn h⟩
  · rw [if_neg (fun q => e0 ((nI0_iff (by omega)).mp q)), c_countSets h hw, hN, Option.bind_some, c_draw h3 (by omega), Option.bind_some, if_neg e0]
    have ls : d_dr (nx (nx s)) (2 ^ g_n g) < 2 ^ g_n g := d_dr_lt h3
    by_cases e2 : d_dr (nx s) 3 = 2
    · rw [if_pos (by rw [e2]; rfl), if_pos e2, nl_4, pk_ok (by decide) (by decide), pk_ok (by omega) (by decide), nI_clamp (by decide), nI_clamp (by omega)]
      exact ⟨_, rfl, ps_fr_ui (Or.inr rfl), c_G_wt (v := 0) h (by omega)⟩
    · rw [nl_2, if_neg (fun q => e2 ((nI_eq (by omega) (by decide)).mp q)), if_neg e2, nl_4, pk_ok (by decide) (by decide), nl_100, c_draw (by decide) (by decide), Option.bind_some, pk_ok (by omega) (by decide), nI_clamp (by decide), nI_clamp (by omega), n1, nI_add]
      exact ⟨_, rfl, ps_fr_ui (Or.inr rfl), c_G_wt h (by omega)⟩
theorem m_deed {nx : Int32 → Int32} (hnx : d_N nx) {σ : ps_S} {g : gG} {s : Int32} (h : m_G σ 47 0 g) (hs : σ.1 45 23 = s) (hw : g_wf g) (hn : g_n g ≠ 0) : ∃ τ, fX5_does σ = some τ ∧ ps_fr (fun k => k = 45 ∨ k = 47) σ τ ∧ (∀ j, j ≠ 23 → τ.1 45 j = σ.1 45 j) ∧ τ.1 45 23 = (d_do nx (s, g)).1 ∧ m_G τ 47 0 (d_do nx (s, g)).2 := by
  have h8 := hw.1
  have h2 := p2_le _ hw.1
  have h3 := p2_pos (g_n g)
  have hN := g_N_pos hn
  have k3 : d_dr (nx s) 3 < 3 := d_dr_lt (by decide)
  have G : ∀ (ρ : ps_S) (v : Int32), m_G ρ 47 0 g → m_G (ps_ui ρ 45 23 v) 47 0 g := fun ρ v hρ => m_G_ui hρ (by decide)
  unfold fX5_does d_do
  simp only [ps_let]
  rw [nl_3, m_draw hnx (by decide) (by decide), hs, Option.bind_some]
  have g1 := G σ (nx s) h
  have v1 : (ps_ui σ 45 23 (nx s)).1 45 23 = nx s := by rw [pu_i, if_pos ⟨rfl, rfl⟩]
  have o1 : ∀ j, j ≠ 23 → (ps_ui σ 45 23 (nx s)).1 45 j = σ.1 45 j := fun j hj => by rw [pu_i, if_neg (by omega)]
  have f1 : ps_fr (fun k => k = 45 ∨ k = 47) σ (ps_ui σ 45 23 (nx s)) := ps_fr_ui (Or.inl rfl)
  generalize ps_ui σ 45 23 (nx s) = σ1 at g1 v1 o1 f1 ⊢
  have g2 := G σ1 (nx (nx s)) g1
  have v2 : (ps_ui σ1 45 23 (nx (nx s))).1 45 23 = nx (nx s) := by rw [pu_i, if_pos ⟨rfl, rfl⟩]
  have o2 : ∀ j, j ≠ 23 → (ps_ui σ1 45 23 (nx (nx s))).1 45 j = σ.1 45 j := fun j hj => by rw [pu_i, if_neg (by omega)]; exact o1 j hj
  have f2 : ps_fr (fun k => k = 45 ∨ k = 47) σ (ps_ui σ1 45 23 (nx (nx s))) := f1.tr (ps_fr_ui (Or.inl rfl))
  have e2' : ∀ n, 0 < n → n < 2 ^ 31 → fX5_draw (nI n) σ1 = some (nI (d_dr (nx (nx s)) n), ps_ui σ1 45 23 (nx (nx s))) := fun n a b => by rw [m_draw hnx a b, v1]
  generalize ps_ui σ1 45 23 (nx (nx s)) = σ2 at g2 v2 o2 f2 e2' ⊢
  have g3 := G σ2 (nx (nx (nx s))) g2
  have v3 : (ps_ui σ2 45 23 (nx (nx (nx s)))).1 45 23 = nx (nx (nx s)) := by rw [pu_i, if_pos ⟨rfl, rfl⟩]
  have o3 : ∀ j, j ≠ 23 → (ps_ui σ2 45 23 (nx (nx (nx s)))).1 45 j = σ.1 45 j := fun j hj => by rw [pu_i, if_neg (by omega)]; exact o2 j hj
  have f3 : ps_fr (fun k => k = 45 ∨ k = 47) σ (ps_ui σ2 45 23 (nx (nx (nx s)))) := f2.tr (ps_fr_ui (Or.inl rfl))
  have e3' : ∀ n, 0 < n → n < 2 ^ 31 → fX5_draw (nI n) σ2 = some (nI (d_dr (nx (nx (nx s))) n), ps_ui σ2 45 23 (nx (nx (nx s)))) := fun n a b => by rw [m_draw hnx a b, v2]
  generalize ps_ui σ2 45 23 (nx (nx (nx s))) = σ3 at g3 v3 o3 f3 e3' ⊢
  have F : ∀ ρ : ps_S, ps_fr (fun k => k = 45 ∨ k = 47) σ ρ → (∀ j, j ≠ 23 → ρ.1 45 j = σ.1 45 j) → ∀ i v, ps_fr (fun k => k = 45 ∨ k = 47) σ (ps_ui ρ 47 i v) ∧ (∀ j, j ≠ 23 → (ps_ui ρ 47 i v).1 45 j = σ.1 45 j) ∧ (ps_ui ρ 47 i v).1 45 23 = ρ.1 45 23 := fun ρ hf ho i v => ⟨hf.tr (ps_fr_ui (Or.inr rfl)), fun j hj => by rw [pu_i, if_neg (by omega)]; exact ho j hj, by rw [pu_i, if_neg (by omega)]⟩
  by_cases e0 : d_dr (nx s) 3 = 0
  · rw [if_pos (by rw [e0]; rfl), m_things g1, Option.bind_some, e2' _ (by omega) (by omega), Option.bind_some, m_things g2, Option.bind_some, e3' _ (by omega) (by omega), Option.bind_some, if_pos e0]
    have la : d_dr (nx (nx s)) (g_n g) < g_n g := d_dr_lt (by omega)
    have lb : d_dr (nx (nx (nx s))) (g_n g) < g_n g := d_dr_lt (by omega)
    by_cases e1 : d_dr (nx (nx s)) (g_n g) = d_dr (nx (nx (nx s))) (g_n g)
    · rw [if_pos (by rw [e1]), if_pos e1]
      exact ⟨σ3, rfl, f3, o3, v3, g3⟩
    · rw [if_neg (fun q => e1 ((nI_eq (by omega) (by omega)).mp q)), if_neg e1]
      obtain ⟨τ, t1, t2, t3⟩ := m_joins g3 hw la lb e1
      rw [t1, Option.bind_some]
      exact ⟨τ, rfl, f3.tr (t2.wk (fun _ q => Or.inr q)), fun j hj => by rw [(t2 45 (by decide)).1]; exact o3 j hj, by rw [(t2 45 (by decide)).1]; exact v3, t3⟩
  · rw [if_neg (fun q => e0 ((nI0_iff (by omega)).mp q)), m_all g1 hw, Option.bind_some, n1, nI_add, show 2 ^ g_n g - 1 + 1 = 2 ^ g_n g by omega, e2' _ h3 (by omega), Option.bind_some, if_neg e0]
    have ls : d_dr (nx (nx s)) (2 ^ g_n g) < 2 ^ g_n g := d_dr_lt h3
    by_cases e2 : d_dr (nx s) 3 = 2
    · rw [if_neg (fun q => by have := (nI_eq (by omega) (by decide)).mp q; omega), if_pos e2, nI_add, pk_ok (by omega) (by decide), nI_clamp (by omega)]
      obtain ⟨y1, y2, y3⟩ := F σ2 f2 o2 (1 + d_dr (nx (nx s)) (2 ^ g_n g)) 0
      exact ⟨_, rfl, y1, y2, by rw [y3]; exact v2, m_G_wt (v := 0) g2 (by omega)⟩
    · rw [if_pos (by rw [show d_dr (nx s) 3 = 1 by omega]), if_neg e2, nl_100, e3' _ (by decide) (by decide), Option.bind_some, nI_add, pk_ok (by omega) (by decide), nI_clamp (by omega), nI_add]
      obtain ⟨y1, y2, y3⟩ := F σ3 f3 o3 (1 + d_dr (nx (nx s)) (2 ^ g_n g)) (nI (d_dr (nx (nx (nx s))) 100 + 1))
      exact ⟨_, rfl, y1, y2, by rw [y3]; exact v3, m_G_wt g3 (by omega)⟩
/-- k deeds -/
def d_it (nx : Int32 → Int32) : Nat → Int32 × gG → Int32 × gG
  | 0, q => q
  | k + 1, q => d_do nx (d_it nx k q)
theorem d_it_ok {nx : Int32 → Int32} {q : Int32 × gG} (hw : g_wf q.2) (hn : g_n q.2 ≠ 0) : ∀ k, g_wf (d_it nx k q).2 ∧ g_n (d_it nx k q).2 = g_n q.2 ∧ g_f (d_it nx k q).2 = g_f q.2
  | 0 => ⟨hw, rfl, rfl⟩
  | k + 1 => by
    obtain ⟨a, b, c⟩ := d_it_ok hw hn k
    obtain ⟨a2, b2, c2⟩ := d_do_ok (nx := nx) (q := d_it nx k q) a (by rw [b]; exact hn)
    exact ⟨a2, by rw [← b]; exact b2, by rw [← c]; exact c2⟩
/-- call 28: drawn -/
theorem op_drawn {σ : ps_S} (x y : Int32) (h : b_R σ) : ∃ (r : Int32) (τ υ : ps_S), fX4_drawn x y σ = some (r, τ) ∧ fX5_drawn x y τ = some (r, υ) ∧ b_R υ := by
  obtain ⟨A, hw, hc, hm⟩ := h
  obtain ⟨nx, hnx⟩ : ∃ nx : Int32 → Int32, d_N nx := ⟨_, fun _ => rfl⟩
  have hm' := thr_R hm
  have h8 := hw.1.1
  by_cases hx : x < nI 1 ∨ nI 60 < x
  · refine ⟨-1, σ, thr σ, ?_, ?_, b_keep hw hc hm' (thr_fr σ)⟩
    · unfold fX4_drawn
      rw [n1, nl_60]
      by_cases e : x < nI 1
      · rw [if_pos e]
      · rw [if_neg e, if_neg (fun q => by have := hx.resolve_left e; rw [fa_lt] at this; rw [fa_le] at q; omega)]
    · unfold fX5_drawn
      simp only [ps_let]
      rw [n1, nl_60, m_isIn_no hx]; rfl
  · have hx1 : ¬ x < nI 1 := fun q => hx (Or.inl q)
    have hx2 : ¬ nI 60 < x := fun q => hx (Or.inr q)
    have hx0 : ¬ x < 0 := fun q => hx1 (by rw [fa_lt] at q ⊢; have : (nI 1).toInt = 1 := rfl; have : (0 : Int32).toInt = 0 := rfl; omega)
    obtain ⟨n, hn31, rfl⟩ := nI_of hx0
    have hn60 : n ≤ 60 := by rw [nI_ltI (by decide) hn31] at hx2; omega
    have hle : nI n ≤ nI 60 := nI_le hn60 (by decide)
    by_cases e0 : g_n (a_g A) = 0
    · refine ⟨0, σ, thr σ, ?_, ?_, b_keep hw hc hm' (thr_fr σ)⟩
      · unfold fX4_drawn
        rw [n1, nl_60, if_neg hx1, if_pos hle, if_pos (by rw [hc.1.1, e0]; rfl)]
      · unfold fX5_drawn
        simp only [ps_let]
        rw [n1, nl_60, m_isIn_yes hx1 hx2, Option.bind_some, if_neg (by decide), m_things hm'.1, Option.bind_some, if_pos (by rw [e0]; rfl)]
    · obtain ⟨τ, t1, t2, t3⟩ := c_keepLine hw hc (l0 := 4) (by omega)
      have hG := c_G_acts hc.1 t2
      have ok := d_it_ok (nx := nx) (q := (y, a_g A)) hw.1 e0
      obtain ⟨ρ, l1, l2, l3⟩ := ps_for (step := fun s => fX4_drawn_S42 (nI n) s.1 s.2.1 s.2.2) n
        (fun i s => s.1 = (d_it nx i (y, a_g A)).1 ∧ s.2.1 = nI i ∧ ps_fr (fun k => k = 1 ∨ k = 7) τ s.2.2 ∧ c_G s.2.2 1 (d_it nx i (y, a_g A)).2)
        (fun x => ps_fr (fun k => k = 1 ∨ k = 7) τ x ∧ c_G x 1 (d_it nx n (y, a_g A)).2)
        (F := 100000) (s := (y, (0 : Int32), τ)) (by
          intro i s hi ⟨q1, q2, q3, q4⟩
          obtain ⟨a3, a4, υ⟩ := s
          simp only at q1 q2 q3 q4
          subst q2
          obtain ⟨ω, w1, w2, w3⟩ := c_deed hnx a3 q4 (ok i).1 (by rw [(ok i).2.1]; exact e0)
          have ep : (a3, (d_it nx i (y, a_g A)).2) = d_it nx i (y, a_g A) := by rw [q1]
          rw [ep] at w1 w3
          refine ⟨((d_it nx (i + 1) (y, a_g A)).1, nI (i + 1), ω), ?_, rfl, rfl, q3.tr w2, w3⟩
          unfold fX4_drawn_S42
          simp only [ps_let]
          rw [if_neg (nI_ge hi hn31), w1, Option.bind_some, n1, nI_add]; rfl) (by
          intro s ⟨q1, q2, q3, q4⟩
          obtain ⟨a3, a4, υ⟩ := s
          simp only at q1 q2 q3 q4
          subst q2
          exact ⟨υ, by unfold fX4_drawn_S42; rw [if_pos (nI_le (Nat.le_refl _) hn31)], q3, q4⟩) ⟨rfl, rfl, ps_fr.rf, hG⟩ (by omega)
      have hg : g_chg 4 (a_g A) (d_it nx n (y, a_g A)).2 := ⟨(ok n).2.1, fun q => absurd rfl q, fun r s _ _ _ => by rw [(ok n).2.2]⟩
      have hcR := c_R_push hc t2 (t3 _ hg) l2 (fun k _ _ q => by omega) l3
      have fc : ps_fr c_own σ ρ := (acts_c t2).tr (l2.wk (fun k q => by unfold c_own; omega))
      have hm2 := thr_R (m_R_c hm fc)
      obtain ⟨ω, s1, s2, s3, s4, s5⟩ := m_snap hw hm2
      have hmω := m_G_ui (k := 45) (j := 23) (v := y) (hm2.1.fr s2 (by decide)) (by decide)
      obtain ⟨π, p1, p2, p3, p4⟩ := ps_for (step := fun s => fX5_drawn_S37 (nI n) s.1 s.2) n
        (fun i s => s.1 = nI i ∧ ps_fr (fun k => k = 45 ∨ k = 47) ω s.2 ∧ (∀ j, j ≠ 23 → s.2.1 45 j = ω.1 45 j) ∧ s.2.1 45 23 = (d_it nx i (y, a_g A)).1 ∧ m_G s.2 47 0 (d_it nx i (y, a_g A)).2)
        (fun x => ps_fr (fun k => k = 45 ∨ k = 47) ω x ∧ (∀ j, j ≠ 23 → x.1 45 j = ω.1 45 j) ∧ m_G x 47 0 (d_it nx n (y, a_g A)).2)
        (F := 100000) (s := ((0 : Int32), ps_ui ω 45 23 y)) (by
          intro i s hi ⟨q1, q2, q3, q4, q5⟩
          obtain ⟨a3, υ⟩ := s
          simp only at q1 q2 q3 q4 q5
          subst q1
          obtain ⟨μ, w1, w2, w3, w4, w5⟩ := m_deed hnx q5 q4 (ok i).1 (by rw [(ok i).2.1]; exact e0)
          refine ⟨(nI (i + 1), μ), ?_, rfl, q2.tr w2, fun j hj => by show μ.1 45 j = _; rw [w3 j hj]; exact q3 j hj, w4, w5⟩
          unfold fX5_drawn_S37
          simp only [ps_let]
          rw [if_neg (nI_ge hi hn31), w1, Option.bind_some, n1, nI_add]) (by
          intro s ⟨q1, q2, q3, q4, q5⟩
          obtain ⟨a3, υ⟩ := s
          simp only at q1 q2 q3 q4 q5
          subst q1
          exact ⟨υ, by unfold fX5_drawn_S37; rw [if_pos (nI_le (Nat.le_refl _) hn31)], q2, q3, q5⟩) ⟨rfl, ps_fr_ui (Or.inl rfl), fun j hj => by rw [pu_i, if_neg (by omega)], by rw [pu_i, if_pos ⟨rfl, rfl⟩]; rfl, hmω⟩ (by omega)
      have f4 : ps_fr (fun q => q = 45 ∨ q = 47 ∨ q = 50) (thr ρ) π := (s2.wk (fun k q => by omega)).tr (p2.wk (fun k q => by omega))
      obtain ⟨q1, q2, q3, q4, q5, q6, q7⟩ := hm2
      refine ⟨nI (g_told (d_it nx n (y, a_g A)).2), ρ, π, ?_, ?_, b_both (σ := σ) (A := A) (A_push_wf hw (ok n).1) hcR (((thr_fr ρ).tr (snap_m s2)).tr (p2.wk (fun k q => by unfold m_own; omega))) ?_⟩
      · unfold fX4_drawn
        rw [n1, nl_60, if_neg hx1, if_pos hle, if_neg (by rw [hc.1.1]; exact nI_ne0 (by omega) (by omega)), nl_4, t1, Option.bind_some, l1, Option.bind_some, c_countTold l3 (ok n).1, Option.bind_some]
      · unfold fX5_drawn
        simp only [ps_let]
        rw [n1, nl_60, m_isIn_yes hx1 hx2, Option.bind_some, if_neg (by decide), m_things q1, Option.bind_some, if_neg (nI_ne0 (by omega) (by omega)), s1, Option.bind_some, p1, Option.bind_some, m_told p4 (ok n).1, Option.bind_some]
      · refine ⟨p4, by rw [p3 15 (by decide)]; exact s4, fun i hi => (s5 i hi).fr p2 (by decide), fun i hi => ⟨by rw [(f4 51 (by decide)).1]; exact (q4 i hi).1, fun hb => ((q4 i hi).2 hb).fr f4 (by decide)⟩, fun i hi => by rw [(f4 46 (by decide)).1]; exact q5 i hi, by rw [p3 2 (by decide), s3 2 (by decide)]; exact q6, by rw [p3 8 (by decide), s3 8 (by decide)]; exact q7⟩
