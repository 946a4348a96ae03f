/-! the start: all numbers are nought -/
def wz_s : ps_S := (fun _ _ => 0, fun _ _ => 0)
def wz_g : gG := (0, fun _ => 0, fun _ => 0, fun _ _ => 0)
def wz_a : gA := (wz_g, 0, fun _ => wz_g, fun _ => wz_g, fun _ => false, fun _ => 0, 0, 0)
theorem wz_0 : (0 : Int32) = nI 0 := nI_0.symm
theorem wz_l0 : (0 : Int64) = lN 0 := by decide +kernel
theorem wz_wf : g_wf wz_g := ⟨Nat.zero_le _, fun _ => Nat.zero_le _, fun _ _ => rfl, fun _ => Nat.one_pos, fun _ _ => rfl, fun _ _ => by show Nat.testBit 0 _ = Nat.testBit 0 _; rw [Nat.zero_testBit, Nat.zero_testBit], fun _ => Nat.zero_testBit _, fun _ _ => by show 0 < 1000003; decide, fun _ _ _ => rfl⟩
theorem wz_cG (g : Nat) : c_G wz_s g wz_g := ⟨wz_0, wz_l0, fun _ _ => wz_0, fun _ _ _ _ => wz_0⟩
theorem wz_mG (c o : Nat) : m_G wz_s c o wz_g := ⟨wz_0, fun _ _ => wz_0, fun _ _ => wz_0, fun _ _ _ _ => wz_0⟩
theorem wz_bR : b_R wz_s := ⟨wz_a, ⟨wz_wf, Nat.zero_le _, fun i hi => absurd hi (Nat.not_lt_zero i), fun _ _ h => (by cases h), fun _ => (by show 0 < 256; decide), Nat.zero_le _, Nat.zero_le _⟩,
  ⟨wz_cG 1, ⟨0, fun _ => 0, fun _ _ => 0, fun _ => 0, fun _ => 0, fun _ => 0, by decide, wz_0, wz_0, fun _ _ => wz_0, fun _ _ _ _ => wz_0, fun _ _ => wz_l0, fun _ _ => wz_0, fun _ _ => wz_0, fun i hi => absurd hi (Nat.not_lt_zero i)⟩, fun _ _ => ⟨rfl, fun h => (by cases h)⟩, fun i hi => absurd hi (Nat.not_lt_zero i), wz_0, wz_0⟩,
  ⟨wz_mG 47 0, wz_0, fun i hi => absurd hi (Nat.not_lt_zero i), fun _ _ => ⟨rfl, fun h => (by cases h)⟩, fun i hi => absurd hi (Nat.not_lt_zero i), wz_0, wz_0⟩⟩
abbrev wz_U : Type := Nat × (Nat × Nat × (Nat → Nat)) × (Nat × Nat × (Nat → Nat)) × (Nat × Nat × (Nat → Nat)) × (Nat × Nat × Nat × (Nat → Nat) × Nat × Nat × Nat) × (Nat × Nat × Nat) × (Nat × Nat × Nat) × Nat × Nat × Nat
abbrev wz_V : Type := Nat × Nat × Nat × Nat × Nat × Nat × Nat × Nat × Nat × Nat × Nat × Nat × Nat × Nat
def wz_ls (u : wz_U) (v : wz_V) (q : Nat) : List Nat := [u.1, u.2.1.1, u.2.1.2.1, u.2.1.2.2 0, u.2.1.2.2 1, u.2.1.2.2 2, u.2.1.2.2 3, u.2.1.2.2 4, u.2.2.1.1, u.2.2.1.2.1, u.2.2.1.2.2 0, u.2.2.1.2.2 1, u.2.2.1.2.2 2, u.2.2.1.2.2 3, u.2.2.1.2.2 4, u.2.2.2.1.1, u.2.2.2.1.2.1, u.2.2.2.1.2.2 0, u.2.2.2.1.2.2 1, u.2.2.2.1.2.2 2, u.2.2.2.1.2.2 3, u.2.2.2.1.2.2 4, u.2.2.2.2.1.1, u.2.2.2.2.1.2.1, u.2.2.2.2.1.2.2.1, u.2.2.2.2.1.2.2.2.1 0, u.2.2.2.2.1.2.2.2.1 1, u.2.2.2.2.1.2.2.2.1 2, u.2.2.2.2.1.2.2.2.1 3, u.2.2.2.2.1.2.2.2.1 4, u.2.2.2.2.1.2.2.2.1 5, u.2.2.2.2.1.2.2.2.1 6, u.2.2.2.2.1.2.2.2.1 7, u.2.2.2.2.1.2.2.2.2.1, u.2.2.2.2.1.2.2.2.2.2.1, u.2.2.2.2.1.2.2.2.2.2.2, u.2.2.2.2.2.1.1, u.2.2.2.2.2.1.2.1, u.2.2.2.2.2.1.2.2, u.2.2.2.2.2.2.1.1, u.2.2.2.2.2.2.1.2.1, u.2.2.2.2.2.2.1.2.2, u.2.2.2.2.2.2.2.1, u.2.2.2.2.2.2.2.2.1, u.2.2.2.2.2.2.2.2.2, v.1, v.2.1, v.2.2.1, v.2.2.2.1, v.2.2.2.2.1, v.2.2.2.2.2.1, v.2.2.2.2.2.2.1, v.2.2.2.2.2.2.2.1, v.2.2.2.2.2.2.2.2.1, v.2.2.2.2.2.2.2.2.2.1, v.2.2.2.2.2.2.2.2.2.2.1, v.2.2.2.2.2.2.2.2.2.2.2.1, v.2.2.2.2.2.2.2.2.2.2.2.2.1, v.2.2.2.2.2.2.2.2.2.2.2.2.2, q]
def wz_ad (u : wz_U) (v : wz_V) (q : Nat) (k : Nat) : Nat := (wz_ls u v q).getD k 0
abbrev wz_W (cs : Nat → ClassId) (u : wz_U) (v : wz_V) (q : Nat) : va_W := (([] ++ gP_w cs u) ++ gM_w cs v) ++ [(q, .inl (cs 1, 1, .inr (.inl (fun _ => 0))))]
def wz_F (cs : Nat → ClassId) (u : wz_U) (v : wz_V) (q : Nat) : va_W := [(u.1, .inr (4, [.ref (u.2.1.1), .ref (u.2.2.1.1), .ref (u.2.2.2.1.1), .ref (u.2.2.2.2.1.1), .ref (u.2.2.2.2.2.1.1), .ref (u.2.2.2.2.2.2.1.1), .ref (u.2.2.2.2.2.2.2.1), .ref (u.2.2.2.2.2.2.2.2.1), .ref (u.2.2.2.2.2.2.2.2.2)])), (u.2.1.1, .inr (1, [.int 0, .long 0, .int 0, .ref (u.2.1.2.1)])), (u.2.1.2.1, .inl (cs 4, 5, .inr (.inr (.inr (.inr (fun i => some (u.2.1.2.2 i))))))), (u.2.1.2.2 0, .inl (cs 0, 256, .inl (fun _ => 0))), (u.2.1.2.2 1, .inl (cs 0, 256, .inl (fun _ => 0))), (u.2.1.2.2 2, .inl (cs 0, 256, .inl (fun _ => 0))), (u.2.1.2.2 3, .inl (cs 0, 256, .inl (fun _ => 0))), (u.2.1.2.2 4, .inl (cs 0, 256, .inl (fun _ => 0))), (u.2.2.1.1, .inr (1, [.int 0, .long 0, .int 0, .ref (u.2.2.1.2.1)])), (u.2.2.1.2.1, .inl (cs 4, 5, .inr (.inr (.inr (.inr (fun i => some (u.2.2.1.2.2 i))))))), (u.2.2.1.2.2 0, .inl (cs 0, 256, .inl (fun _ => 0))), (u.2.2.1.2.2 1, .inl (cs 0, 256, .inl (fun _ => 0))), (u.2.2.1.2.2 2, .inl (cs 0, 256, .inl (fun _ => 0))), (u.2.2.1.2.2 3, .inl (cs 0, 256, .inl (fun _ => 0))), (u.2.2.1.2.2 4, .inl (cs 0, 256, .inl (fun _ => 0))), (u.2.2.2.1.1, .inr (1, [.int 0, .long 0, .int 0, .ref (u.2.2.2.1.2.1)])), (u.2.2.2.1.2.1, .inl (cs 4, 5, .inr (.inr (.inr (.inr (fun i => some (u.2.2.2.1.2.2 i))))))), (u.2.2.2.1.2.2 0, .inl (cs 0, 256, .inl (fun _ => 0))), (u.2.2.2.1.2.2 1, .inl (cs 0, 256, .inl (fun _ => 0))), (u.2.2.2.1.2.2 2, .inl (cs 0, 256, .inl (fun _ => 0))), (u.2.2.2.1.2.2 3, .inl (cs 0, 256, .inl (fun _ => 0))), (u.2.2.2.1.2.2 4, .inl (cs 0, 256, .inl (fun _ => 0))), (u.2.2.2.2.1.1, .inr (0, [.int 0, .int 0, .ref (u.2.2.2.2.1.2.1), .ref (u.2.2.2.2.1.2.2.1), .ref (u.2.2.2.2.1.2.2.2.2.1), .ref (u.2.2.2.2.1.2.2.2.2.2.1), .ref (u.2.2.2.2.1.2.2.2.2.2.2)])), (u.2.2.2.2.1.2.1, .inl (cs 0, 8, .inl (fun _ => 0))), (u.2.2.2.2.1.2.2.1, .inl (cs 4, 8, .inr (.inr (.inr (.inr (fun i => some (u.2.2.2.2.1.2.2.2.1 i))))))), (u.2.2.2.2.1.2.2.2.1 0, .inl (cs 0, 256, .inl (fun _ => 0))), (u.2.2.2.2.1.2.2.2.1 1, .inl (cs 0, 256, .inl (fun _ => 0))), (u.2.2.2.2.1.2.2.2.1 2, .inl (cs 0, 256, .inl (fun _ => 0))), (u.2.2.2.2.1.2.2.2.1 3, .inl (cs 0, 256, .inl (fun _ => 0))), (u.2.2.2.2.1.2.2.2.1 4, .inl (cs 0, 256, .inl (fun _ => 0))), (u.2.2.2.2.1.2.2.2.1 5, .inl (cs 0, 256, .inl (fun _ => 0))), (u.2.2.2.2.1.2.2.2.1 6, .inl (cs 0, 256, .inl (fun _ => 0))), (u.2.2.2.2.1.2.2.2.1 7, .inl (cs 0, 256, .inl (fun _ => 0))), (u.2.2.2.2.1.2.2.2.2.1, .inl (cs 1, 8, .inr (.inl (fun _ => 0)))), (u.2.2.2.2.1.2.2.2.2.2.1, .inl (cs 0, 8, .inl (fun _ => 0))), (u.2.2.2.2.1.2.2.2.2.2.2, .inl (cs 0, 8, .inl (fun _ => 0))), (u.2.2.2.2.2.1.1, .inr (2, [.ref (u.2.2.2.2.2.1.2.1), .int 0, .int 0, .int 0, .int 0, .long 0, .ref (u.2.2.2.2.2.1.2.2), .int 0, .int 0, .int 0])), (u.2.2.2.2.2.1.2.1, .inl (cs 2, 540, .inl (fun _ => 0))), (u.2.2.2.2.2.1.2.2, .inl (cs 0, 256, .inl (fun _ => 0))), (u.2.2.2.2.2.2.1.1, .inr (3, [.ref (u.2.2.2.2.2.2.1.2.1), .ref (u.2.2.2.2.2.2.1.2.2)])), (u.2.2.2.2.2.2.1.2.1, .inl (cs 1, 256, .inr (.inl (fun _ => 0)))), (u.2.2.2.2.2.2.1.2.2, .inl (cs 1, 9, .inr (.inl (fun _ => 0)))), (u.2.2.2.2.2.2.2.1, .inl (cs 0, 256, .inl (fun _ => 0))), (u.2.2.2.2.2.2.2.2.1, .inl (cs 0, 256, .inl (fun _ => 0))), (u.2.2.2.2.2.2.2.2.2, .inl (cs 0, 8, .inl (fun _ => 0))), (v.1, .inr (5, [.int 0, .ref (v.2.1), .int 0, .int 0, .int 0, .int 0, .int 0, .int 0, .int 0, .int 0, .ref (v.2.2.1), .ref (v.2.2.2.1), .ref (v.2.2.2.2.1), .ref (v.2.2.2.2.2.1), .ref (v.2.2.2.2.2.2.1), .int 0, .ref (v.2.2.2.2.2.2.2.1), .ref (v.2.2.2.2.2.2.2.2.1), .ref (v.2.2.2.2.2.2.2.2.2.1), .ref (v.2.2.2.2.2.2.2.2.2.2.1), .ref (v.2.2.2.2.2.2.2.2.2.2.2.1), .ref (v.2.2.2.2.2.2.2.2.2.2.2.2.1), .ref (v.2.2.2.2.2.2.2.2.2.2.2.2.2), .int 0])), (v.2.1, .inl (cs 0, 540, .inl (fun _ => 0))), (v.2.2.1, .inl (cs 0, 1289, .inl (fun _ => 0))), (v.2.2.2.1, .inl (cs 0, 1289, .inl (fun _ => 0))), (v.2.2.2.2.1, .inl (cs 0, 2578, .inl (fun _ => 0))), (v.2.2.2.2.2.1, .inl (cs 0, 10312, .inl (fun _ => 0))), (v.2.2.2.2.2.2.1, .inl (cs 3, 2, .inl (fun _ => 0))), (v.2.2.2.2.2.2.2.1, .inl (cs 0, 256, .inl (fun _ => 0))), (v.2.2.2.2.2.2.2.2.1, .inl (cs 0, 256, .inl (fun _ => 0))), (v.2.2.2.2.2.2.2.2.2.1, .inl (cs 0, 2304, .inl (fun _ => 0))), (v.2.2.2.2.2.2.2.2.2.2.1, .inl (cs 0, 256, .inl (fun _ => 0))), (v.2.2.2.2.2.2.2.2.2.2.2.1, .inl (cs 0, 2304, .inl (fun _ => 0))), (v.2.2.2.2.2.2.2.2.2.2.2.2.1, .inl (cs 0, 8, .inl (fun _ => 0))), (v.2.2.2.2.2.2.2.2.2.2.2.2.2, .inl (cs 0, 256, .inl (fun _ => 0))), (q, .inl (cs 1, 1, .inr (.inl (fun _ => 0))))]
set_option maxRecDepth 4096 in
theorem wz_flat (cs : Nat → ClassId) (u : wz_U) (v : wz_V) (q : Nat) : wz_W cs u v q = wz_F cs u v q := by
  simp only [wz_W, wz_F, gP_w, gG_w, gA_w, gR_w, gS_w, gM_w, List.nil_append, List.cons_append]
set_option maxRecDepth 4096 in
theorem wz_P {D : va_G} {cs : Nat → ClassId} {u : wz_U} {v : wz_V} {q : Nat} {H : Heap} (h : va_P D vwCl (wz_W cs u v q) H) : va_P D vwCl (ps_w (wz_ad u v q) cs wz_s) H := by
  rw [wz_flat] at h
  intro k x hx
  obtain ⟨hk, rfl⟩ := ps_w_inv hx
  clear hx
  match k, hk with
  | 0, _ => exact h 0 _ rfl
  | 1, _ => exact h 1 _ rfl
  | 2, _ => exact pn_refs (h 2 _ rfl) (fun j hj => by match j, hj with | 0, _ => rfl | 1, _ => rfl | 2, _ => rfl | 3, _ => rfl | 4, _ => rfl)
  | 3, _ => exact h 3 _ rfl
  | 4, _ => exact h 4 _ rfl
  | 5, _ => exact h 5 _ rfl
  | 6, _ => exact h 6 _ rfl
  | 7, _ => exact h 7 _ rfl
  | 8, _ => exact h 8 _ rfl
  | 9, _ => exact pn_refs (h 9 _ rfl) (fun j hj => by match j, hj with | 0, _ => rfl | 1, _ => rfl | 2, _ => rfl | 3, _ => rfl | 4, _ => rfl)
  | 10, _ => exact h 10 _ rfl
  | 11, _ => exact h 11 _ rfl
  | 12, _ => exact h 12 _ rfl
  | 13, _ => exact h 13 _ rfl
  | 14, _ => exact h 14 _ rfl
  | 15, _ => exact h 15 _ rfl
  | 16, _ => exact pn_refs (h 16 _ rfl) (fun j hj => by match j, hj with | 0, _ => rfl | 1, _ => rfl | 2, _ => rfl | 3, _ => rfl | 4, _ => rfl)
  | 17, _ => exact h 17 _ rfl
  | 18, _ => exact h 18 _ rfl
  | 19, _ => exact h 19 _ rfl
  | 20, _ => exact h 20 _ rfl
  | 21, _ => exact h 21 _ rfl
  | 22, _ => exact h 22 _ rfl
  | 23, _ => exact h 23 _ rfl
  | 24, _ => exact pn_refs (h 24 _ rfl) (fun j hj => by match j, hj with | 0, _ => rfl | 1, _ => rfl | 2, _ => rfl | 3, _ => rfl | 4, _ => rfl | 5, _ => rfl | 6, _ => rfl | 7, _ => rfl)
  | 25, _ => exact h 25 _ rfl
  | 26, _ => exact h 26 _ rfl
  | 27, _ => exact h 27 _ rfl
  | 28, _ => exact h 28 _ rfl
  | 29, _ => exact h 29 _ rfl
  | 30, _ => exact h 30 _ rfl
  | 31, _ => exact h 31 _ rfl
  | 32, _ => exact h 32 _ rfl
  | 33, _ => exact h 33 _ rfl
  | 34, _ => exact h 34 _ rfl
  | 35, _ => exact h 35 _ rfl
  | 36, _ => exact h 36 _ rfl
  | 37, _ => exact h 37 _ rfl
  | 38, _ => exact h 38 _ rfl
  | 39, _ => exact h 39 _ rfl
  | 40, _ => exact h 40 _ rfl
  | 41, _ => exact h 41 _ rfl
  | 42, _ => exact h 42 _ rfl
  | 43, _ => exact h 43 _ rfl
  | 44, _ => exact h 44 _ rfl
  | 45, _ => exact h 45 _ rfl
  | 46, _ => exact h 46 _ rfl
  | 47, _ => exact h 47 _ rfl
  | 48, _ => exact h 48 _ rfl
  | 49, _ => exact h 49 _ rfl
  | 50, _ => exact h 50 _ rfl
  | 51, _ => exact h 51 _ rfl
  | 52, _ => exact h 52 _ rfl
  | 53, _ => exact h 53 _ rfl
  | 54, _ => exact h 54 _ rfl
  | 55, _ => exact h 55 _ rfl
  | 56, _ => exact h 56 _ rfl
  | 57, _ => exact h 57 _ rfl
  | 58, _ => exact h 58 _ rfl
  | 59, _ => exact h 59 _ rfl
  | n + 60, hk => exact absurd hk (by omega)
theorem wz_fst (cs : Nat → ClassId) (u : wz_U) (v : wz_V) (q : Nat) : (wz_W cs u v q).map Prod.fst = (List.range 60).map (wz_ad u v q) := by
  rw [wz_flat]
  rfl
theorem wz_at {cs : Nat → ClassId} {u : wz_U} {v : wz_V} {q : Nat} {k : Nat} (hk : k < 60) : ∃ x, (wz_W cs u v q)[k]? = some x ∧ x.1 = wz_ad u v q k := by
  have h1 : ((List.range 60).map (wz_ad u v q))[k]? = some (wz_ad u v q k) := by simp [hk]
  rw [← wz_fst cs, List.getElem?_map] at h1
  cases hw : (wz_W cs u v q)[k]? with
  | none => rw [hw] at h1; cases h1
  | some x => rw [hw] at h1; exact ⟨x, rfl, Option.some.inj h1⟩
theorem wz_J {A : Nat → Prop} {cs : Nat → ClassId} {u : wz_U} {v : wz_V} {q : Nat} (h : va_D A (wz_W cs u v q)) : ps_J (wz_ad u v q) := fun i j hi hj e => by
  obtain ⟨x, h1, h2⟩ := wz_at (cs := cs) (u := u) (v := v) (q := q) hi
  obtain ⟨y, h3, h4⟩ := wz_at (cs := cs) (u := u) (v := v) (q := q) hj
  exact h.1 i j x y h1 h3 (by rw [h2, h4, e])
theorem wz_A {sz : Nat} {cs : Nat → ClassId} {u : wz_U} {v : wz_V} {q : Nat} (h : va_D (fun r => sz ≤ r) (wz_W cs u v q)) : ps_A (wz_ad u v q) sz = fun r => sz ≤ r := by
  funext r
  apply propext
  constructor
  · rintro (⟨k, hk, rfl⟩ | hr)
    · obtain ⟨x, h1, h2⟩ := wz_at (cs := cs) (u := u) (v := v) (q := q) hk
      rw [← h2]
      exact h.2 k x h1
    · exact hr
  · exact fun hr => Or.inr hr
