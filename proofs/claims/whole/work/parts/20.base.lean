/-! The world of both systems: sixty cells by their numbers; what they hold is one function of cell and place. -/
abbrev ps_S : Type := (Nat → Nat → Int32) × (Nat → Nat → Int64)
/-- the kind of a cell: 0 an object, 1 int[], 2 long[], 3 byte[], 4 boolean[], 5 int[][] -/
def ps_kd (k : Nat) : Nat := ([0, 0, 5, 1, 1, 1, 1, 1, 0, 5, 1, 1, 1, 1, 1, 0, 5, 1, 1, 1, 1, 1, 0, 1, 5, 1, 1, 1, 1, 1, 1, 1, 1, 2, 1, 1, 0, 3, 1, 0, 2, 2, 1, 1, 1, 0, 1, 1, 1, 1, 1, 4, 1, 1, 1, 1, 1, 1, 1, 2] : List Nat).getD k 9
/-- the length of an array -/
def ps_ln (k : Nat) : Nat := ([0, 0, 5, 256, 256, 256, 256, 256, 0, 5, 256, 256, 256, 256, 256, 0, 5, 256, 256, 256, 256, 256, 0, 8, 8, 256, 256, 256, 256, 256, 256, 256, 256, 8, 8, 8, 0, 540, 256, 0, 256, 9, 256, 256, 8, 0, 540, 1289, 1289, 2578, 10312, 2, 256, 256, 2304, 256, 2304, 8, 256, 1] : List Nat).getD k 0
def ps_ob (ad : Nat → Nat) (σ : ps_S) (k : Nat) : Nat × List Value :=
  if k = 0 then (4, [.ref (ad 1), .ref (ad 8), .ref (ad 15), .ref (ad 22), .ref (ad 36), .ref (ad 39), .ref (ad 42), .ref (ad 43), .ref (ad 44)])
  else if k = 22 then (0, [.int (σ.1 22 0), .int (σ.1 22 1), .ref (ad 23), .ref (ad 24), .ref (ad 33), .ref (ad 34), .ref (ad 35)])
  else if k = 36 then (2, [.ref (ad 37), .int (σ.1 36 1), .int (σ.1 36 2), .int (σ.1 36 3), .int (σ.1 36 4), .long (σ.2 36 5), .ref (ad 38), .int (σ.1 36 7), .int (σ.1 36 8), .int (σ.1 36 9)])
  else if k = 39 then (3, [.ref (ad 40), .ref (ad 41)])
  else if k = 45 then (5, [.int (σ.1 45 0), .ref (ad 46), .int (σ.1 45 2), .int (σ.1 45 3), .int (σ.1 45 4), .int (σ.1 45 5), .int (σ.1 45 6), .int (σ.1 45 7), .int (σ.1 45 8), .int (σ.1 45 9), .ref (ad 47), .ref (ad 48), .ref (ad 49), .ref (ad 50), .ref (ad 51), .int (σ.1 45 15), .ref (ad 52), .ref (ad 53), .ref (ad 54), .ref (ad 55), .ref (ad 56), .ref (ad 57), .ref (ad 58), .int (σ.1 45 23)])
  else (1, [.int (σ.1 k 0), .long (σ.2 k 1), .int (σ.1 k 2), .ref (ad (k + 1))])
def ps_ce (ad : Nat → Nat) (cs : Nat → ClassId) (σ : ps_S) (k : Nat) : va_E :=
  if ps_kd k = 0 then .inr (ps_ob ad σ k)
  else if ps_kd k = 1 then .inl (cs 0, ps_ln k, .inl (σ.1 k))
  else if ps_kd k = 2 then .inl (cs 1, ps_ln k, .inr (.inl (σ.2 k)))
  else if ps_kd k = 3 then .inl (cs 2, ps_ln k, .inl (σ.1 k))
  else if ps_kd k = 4 then .inl (cs 3, ps_ln k, .inl (σ.1 k))
  else .inl (cs 4, ps_ln k, .inr (.inr (.inr (.inr (fun i => some (ad (k + 1 + i)))))))
theorem ps_ce1 {ad : Nat → Nat} {cs : Nat → ClassId} {σ : ps_S} {k : Nat} (h : ps_kd k = 1) : ps_ce ad cs σ k = .inl (cs 0, ps_ln k, .inl (σ.1 k)) := by simp [ps_ce, h]
theorem ps_ce2 {ad : Nat → Nat} {cs : Nat → ClassId} {σ : ps_S} {k : Nat} (h : ps_kd k = 2) : ps_ce ad cs σ k = .inl (cs 1, ps_ln k, .inr (.inl (σ.2 k))) := by simp [ps_ce, h]
theorem ps_ce3 {ad : Nat → Nat} {cs : Nat → ClassId} {σ : ps_S} {k : Nat} (h : ps_kd k = 3) : ps_ce ad cs σ k = .inl (cs 2, ps_ln k, .inl (σ.1 k)) := by simp [ps_ce, h]
theorem ps_ce4 {ad : Nat → Nat} {cs : Nat → ClassId} {σ : ps_S} {k : Nat} (h : ps_kd k = 4) : ps_ce ad cs σ k = .inl (cs 3, ps_ln k, .inl (σ.1 k)) := by simp [ps_ce, h]
theorem ps_ce5 {ad : Nat → Nat} {cs : Nat → ClassId} {σ : ps_S} {k : Nat} (h : ps_kd k = 5) : ps_ce ad cs σ k = .inl (cs 4, ps_ln k, .inr (.inr (.inr (.inr (fun i => some (ad (k + 1 + i))))))) := by simp [ps_ce, h]
theorem ps_ce0 {ad : Nat → Nat} {cs : Nat → ClassId} {σ : ps_S} {k : Nat} (h : ps_kd k = 0) : ps_ce ad cs σ k = .inr (ps_ob ad σ k) := by simp [ps_ce, h]
theorem ps_kd_lt {k : Nat} (h : ps_kd k ≠ 9) : k < 60 := by
  rcases Nat.lt_or_ge k 60 with q | q
  · exact q
  · exact absurd (by unfold ps_kd; rw [List.getD_eq_getElem?_getD, List.getElem?_eq_none (by exact q)]; rfl) h
def ps_w (ad : Nat → Nat) (cs : Nat → ClassId) (σ : ps_S) : va_W := (List.range 60).map (fun k => (ad k, ps_ce ad cs σ k))
theorem ps_w_get {ad : Nat → Nat} {cs : Nat → ClassId} {σ : ps_S} {k : Nat} (h : k < 60) : (ps_w ad cs σ)[k]? = some (ad k, ps_ce ad cs σ k) := by
  simp [ps_w, h]
theorem ps_w_inv {ad : Nat → Nat} {cs : Nat → ClassId} {σ : ps_S} {k : Nat} {q : Nat × va_E} (h : (ps_w ad cs σ)[k]? = some q) : k < 60 ∧ q = (ad k, ps_ce ad cs σ k) := by
  have h1 : k < (ps_w ad cs σ).length := (List.getElem?_eq_some_iff.mp h).1
  have h2 : k < 60 := by simpa [ps_w] using h1
  rw [ps_w_get h2] at h
  exact ⟨h2, (Option.some.inj h).symm⟩
theorem ps_w_set {ad : Nat → Nat} {cs : Nat → ClassId} {σ σ' : ps_S} {k : Nat} (h : ∀ j, j ≠ k → ps_ce ad cs σ' j = ps_ce ad cs σ j) : (ps_w ad cs σ).set k (ad k, ps_ce ad cs σ' k) = ps_w ad cs σ' := by
  apply List.ext_getElem?
  intro i
  by_cases hi : i < 60
  · rw [ps_w_get hi]
    by_cases e : k = i
    · subst e
      rw [List.getElem?_set_self (by simpa [ps_w] using hi)]
    · rw [List.getElem?_set_ne e, ps_w_get hi, h i (fun q => e q.symm)]
  · rw [List.getElem?_eq_none (by simp [ps_w]; omega), List.getElem?_eq_none (by simp [ps_w]; omega)]
/-- one number of a row of ints, or of an int field -/
def ps_ui (σ : ps_S) (k j : Nat) (v : Int32) : ps_S := (va_up σ.1 k (upd (σ.1 k) j v), σ.2)
def ps_ul (σ : ps_S) (k j : Nat) (v : Int64) : ps_S := (σ.1, va_up σ.2 k (vp_updL (σ.2 k) j v))
def ps_ur (σ : ps_S) (k : Nat) (f : Nat → Int32) : ps_S := (va_up σ.1 k f, σ.2)
theorem ps_up_ne {α : Type} {f : Nat → α} {k j : Nat} {v : α} (h : j ≠ k) : va_up f k v j = f j := by simp [va_up, h]
theorem ps_up_eq {α : Type} {f : Nat → α} {k : Nat} {v : α} : va_up f k v k = v := by simp [va_up]
theorem ps_ce_of {ad : Nat → Nat} {cs : Nat → ClassId} {σ σ' : ps_S} {j : Nat} (h1 : σ'.1 j = σ.1 j) (h2 : σ'.2 j = σ.2 j) : ps_ce ad cs σ' j = ps_ce ad cs σ j := by
  unfold ps_ce ps_ob
  split
  · congr 1
    split
    · rfl
    · split
      · rename_i e; subst e; rw [h1]
      · split
        · rename_i e; subst e; rw [h1, h2]
        · split
          · rfl
          · split
            · rename_i e; subst e; rw [h1]
            · rw [h1, h2]
  · rw [h1, h2]
theorem ps_ce_ui {ad : Nat → Nat} {cs : Nat → ClassId} {σ : ps_S} {k i : Nat} {v : Int32} (j : Nat) (h : j ≠ k) : ps_ce ad cs (ps_ui σ k i v) j = ps_ce ad cs σ j := ps_ce_of (ps_up_ne h) rfl
theorem ps_ce_ul {ad : Nat → Nat} {cs : Nat → ClassId} {σ : ps_S} {k i : Nat} {v : Int64} (j : Nat) (h : j ≠ k) : ps_ce ad cs (ps_ul σ k i v) j = ps_ce ad cs σ j := ps_ce_of rfl (ps_up_ne h)
theorem ps_ce_ur {ad : Nat → Nat} {cs : Nat → ClassId} {σ : ps_S} {k : Nat} {f : Nat → Int32} (j : Nat) (h : j ≠ k) : ps_ce ad cs (ps_ur σ k f) j = ps_ce ad cs σ j := ps_ce_of (ps_up_ne h) rfl
def ps_A (ad : Nat → Nat) (sz : Nat) : Nat → Prop := fun q => (∃ k, k < 60 ∧ q = ad k) ∨ sz ≤ q
def ps_J (ad : Nat → Nat) : Prop := ∀ i j, i < 60 → j < 60 → ad i = ad j → i = j
theorem ps_D {ad : Nat → Nat} (hJ : ps_J ad) (cs : Nat → ClassId) (σ : ps_S) (sz : Nat) : va_D (ps_A ad sz) (ps_w ad cs σ) := by
  refine ⟨fun i j p q h1 h2 e => ?_, fun k q h => ?_⟩
  · obtain ⟨a1, rfl⟩ := ps_w_inv h1
    obtain ⟨a2, rfl⟩ := ps_w_inv h2
    exact hJ i j a1 a2 e
  · obtain ⟨a1, rfl⟩ := ps_w_inv h
    exact Or.inl ⟨k, a1, rfl⟩
abbrev ps_ty (cs : Nat → ClassId) : List (ClassId × FieldType) := [(cs 0, .int), (cs 1, .long), (cs 2, .byte), (cs 3, .boolean), (cs 4, .array .int)]
/-- calls of private methods of nest mates: their links -/
def ps_nt : List (String × Nat × MethodName × String) := [("PartSums", 9, yX1_init, "PartSums"), ("PartSums", 24, yX0_init, "PartSums"), ("PartSums", 31, yX2_init, "PartSums"), ("PartSums", 38, yX3_init, "PartSums"), ("PartSums$Reader", 82, yX4_leastThing, "PartSums"), ("PartSums$Series", 24, yX4_raise, "PartSums"), ("PartSums$Series", 29, yX4_reduce, "PartSums")]
def ps_N (U : State) : Prop := ∀ q ∈ ps_nt, va_Nw (.methodLinkNest q.1 q.2.1 q.2.2.1 q.2.2.2) U
theorem ps_N.warm {s U : State} (hW : s.WarmedH U.vm) (h : ps_N s) : ps_N U := fun q hq => va_Nw.warmM hW (h q hq)
theorem ps_N.same {u U : State} (e : u.vm = U.vm) (h : ps_N u) : ps_N U := fun q hq => va_Nw.same rfl e (h q hq)
/-- the surroundings: classes and slots, array classes, the cells' addresses, the String constants' addresses and their rows' -/
abbrev ps_E : Type := va_G × (Nat → ClassId) × (Nat → Nat) × (Nat → Nat) × (Nat → Nat)
abbrev e_D (E : ps_E) : va_G := E.1
abbrev e_cs (E : ps_E) : Nat → ClassId := E.2.1
abbrev e_ad (E : ps_E) : Nat → Nat := E.2.2.1
abbrev e_K (E : ps_E) : Nat → Nat := E.2.2.2.1
abbrev e_V (E : ps_E) : Nat → Nat := E.2.2.2.2
/-- the three words of the reader -/
def ps_tl : List Nat := [6, 3, 4]
def ps_tb : List (List Int32) := [[116, 104, 105, 110, 103, 115], [115, 101, 116], [112, 97, 105, 114]]
def ps_T (E : ps_E) (A : Nat → Prop) (U : State) (H : Heap) : Prop := vk_S 3 ps_tl ps_tb (e_K E) (e_V E) A U H ∧ vk_R "PartSums$Reader" 46 "things" (e_K E 0) U ∧ vk_R "PartSums$Reader" 59 "set" (e_K E 1) U ∧ vk_R "PartSums$Reader" 64 "pair" (e_K E 2) U ∧ va_Z "java/lang/String" "COMPACT_STRINGS" "Z" (.int 1) A U H ∧ va_Zq "jdk/internal/util/Preconditions" "SIOOBE_FORMATTER" "Ljava/util/function/BiFunction;" A U H
theorem ps_T.go {E : ps_E} {A B : Nat → Prop} {s U : State} {H : Heap} (h : ps_T E A s s.heap) (hW : s.WarmedH U.vm) (hU : U.heap = H) (hq : ∀ a : Nat, a < s.heap.size → ¬ A a → H[a]? = s.heap[a]?) (hAB : ∀ q, B q → A q) : ps_T E B U U.heap := by
  obtain ⟨h1, h2, h3, h4, h5, h6⟩ := h
  rw [hU]
  exact ⟨((h1.kept hq).narrow hAB).moved hW.alike, h2.warm hW, h3.warm hW, h4.warm hW, ((h5.kept hq).narrow hAB).moved hW.alike, ((h6.kept hq).narrow hAB).moved hW.alike⟩
theorem ps_T.same {E : ps_E} {A : Nat → Prop} {u U : State} {H : Heap} (h : ps_T E A u H) (e : U.vm = u.vm) : ps_T E A U H := by
  obtain ⟨h1, h2, h3, h4, h5, h6⟩ := h
  have hv : u.vm.Alike U.vm := by rw [e]; exact Vm.Alike.refl u.vm
  exact ⟨h1.moved hv, h2.same e, h3.same e, h4.same e, h5.moved hv, h6.moved hv⟩
/-- where a body runs: the state at its start, the room, the launch, and the rest -/
abbrev ps_X : Type := State × Room × Launch × Program × Env × MethodId × Array Value × List Frame × Method × Code × Nat × Nat × (State → Prop) × ps_E
abbrev z_s (z : ps_X) : State := z.1
abbrev z_R (z : ps_X) : Room := z.2.1
abbrev z_l (z : ps_X) : Launch := z.2.2.1
abbrev z_p (z : ps_X) : Program := z.2.2.2.1
abbrev z_e (z : ps_X) : Env := z.2.2.2.2.1
abbrev z_m (z : ps_X) : MethodId := z.2.2.2.2.2.1
abbrev z_args (z : ps_X) : Array Value := z.2.2.2.2.2.2.1
abbrev z_below (z : ps_X) : List Frame := z.2.2.2.2.2.2.2.1
abbrev z_meth (z : ps_X) : Method := z.2.2.2.2.2.2.2.2.1
abbrev z_c (z : ps_X) : Code := z.2.2.2.2.2.2.2.2.2.1
abbrev z_cells (z : ps_X) : Nat := z.2.2.2.2.2.2.2.2.2.2.1
abbrev z_slots (z : ps_X) : Nat := z.2.2.2.2.2.2.2.2.2.2.2.1
abbrev z_Q (z : ps_X) : State → Prop := z.2.2.2.2.2.2.2.2.2.2.2.2.1
abbrev z_E (z : ps_X) : ps_E := z.2.2.2.2.2.2.2.2.2.2.2.2.2
abbrev z_D (z : ps_X) : va_G := e_D (z_E z)
abbrev z_cs (z : ps_X) : Nat → ClassId := e_cs (z_E z)
abbrev z_ad (z : ps_X) : Nat → Nat := e_ad (z_E z)
/-- what holds in a method's body -/
def ps_C (z : ps_X) (cc : ByteArray) (nL : Nat) (own : String) : Prop := CallFix (z_p z) (z_m z) (z_c z) cc nL (z_s z) (z_args z) tw_all own ∧ va_K (z_D z) vwCl (ps_ty (z_cs z)) (z_s z) ∧ ps_J (z_ad z) ∧ ps_N (z_s z) ∧ ps_T (z_E z) (ps_A (z_ad z) (z_s z).heap.size) (z_s z) (z_s z).heap
/-- from here, with these locals, this stack and this state, it comes to Q -/
def ps_at (z : ps_X) (nL : Nat) (pc : Nat) (lv : List (Nat × Value)) (st : List Value) (σ : ps_S) : Prop :=
  ∀ (H : Heap) (locs : List Loc) (ls : Array Slot), va_P (z_D z) vwCl (ps_w (z_ad z) (z_cs z) σ) H → va_S (ps_A (z_ad z) (z_s z).heap.size) (z_s z).heap H locs → lv_has ls nL lv → W (z_p z) (z_l z) (z_e z) (z_R z) (z_s z) (z_m z) (z_args z) (z_below z) (z_meth z) (z_c z) H locs (z_cells z) (z_slots z) (z_Q z) (F0 (z_m z) pc ls st)
/-- pure words of the functions that are read off the bytecode -/
def ps_let {α β : Type} (x : α) (f : α → β) : β := f x
def ps_ck {α : Type} (i : Int32) (n : Nat) (x : Option α) : Option α := if (i < 0 ∨ n ≤ i.toNatClampNeg) then none else x
def ps_cz {α : Type} (y : Int32) (x : Option α) : Option α := if y = 0 then none else x
def ps_cb {α : Type} (y : Int32) (x : Option α) : Option α := if y = 0 ∨ y = 1 then x else none
/-- a check that is asked of a number of the walk: where a cell's number must be a row of ints -/
def ps_cr {α : Type} (k n : Nat) (x : Option α) : Option α := if ps_kd k = 1 ∧ ps_ln k = n then x else none
def ps_lp {S X : Type} (step : S → Option (S ⊕ X)) : Nat → S → Option X
  | 0, _ => none
  | n + 1, s => (step s).bind fun r => match r with
    | .inl s' => ps_lp step n s'
    | .inr x => some x
theorem ps_ck_s {α : Type} {i : Int32} {n : Nat} {x : Option α} {r : α} (h : ps_ck i n x = some r) : vp_in i n ∧ x = some r := by
  unfold ps_ck at h
  split at h
  · cases h
  · rename_i q; exact ⟨q, h⟩
theorem ps_cz_s {α : Type} {y : Int32} {x : Option α} {r : α} (h : ps_cz y x = some r) : ¬ y = 0 ∧ x = some r := by
  unfold ps_cz at h
  split at h
  · cases h
  · rename_i q; exact ⟨q, h⟩
theorem ps_cb_s {α : Type} {y : Int32} {x : Option α} {r : α} (h : ps_cb y x = some r) : (y = 0 ∨ y = 1) ∧ x = some r := by
  unfold ps_cb at h
  split at h
  · rename_i q; exact ⟨q, h⟩
  · cases h
theorem ps_cr_s {α : Type} {k n : Nat} {x : Option α} {r : α} (h : ps_cr k n x = some r) : (ps_kd k = 1 ∧ ps_ln k = n) ∧ x = some r := by
  unfold ps_cr at h
  split at h
  · rename_i q; exact ⟨q, h⟩
  · cases h
theorem ps_ift {α : Type} {q : Prop} {d : Decidable q} {x y : Option α} {r : α} (hc : q) (h : (@ite _ q d x y) = some r) : x = some r := by rw [if_pos hc] at h; exact h
theorem ps_iff {α : Type} {q : Prop} {d : Decidable q} {x y : Option α} {r : α} (hc : ¬ q) (h : (@ite _ q d x y) = some r) : y = some r := by rw [if_neg hc] at h; exact h
theorem ps_bd {α β : Type} {x : Option α} {f : α → Option β} {r : β} (h : x.bind f = some r) : ∃ q, x = some q ∧ f q = some r := by
  cases x with
  | none => cases h
  | some q => exact ⟨q, rfl, h⟩
def ps_k {S X : Type} (P : S → Prop) (K : X → Prop) (r : S ⊕ X) : Prop := match r with
  | .inl s => P s
  | .inr x => K x
theorem ps_loop {S X : Type} {step : S → Option (S ⊕ X)} {P : S → Prop} {K : X → Prop} (body : ∀ (s : S) (r : S ⊕ X), step s = some r → ps_k P K r → P s) : ∀ (n : Nat) (s : S) (x : X), ps_lp step n s = some x → K x → P s
  | 0, s, x, h, _ => by cases h
  | n + 1, s, x, h, k => by
    obtain ⟨r, h1, h2⟩ := ps_bd h
    refine body s r h1 ?_
    cases r with
    | inl s' => exact ps_loop body n s' x h2 k
    | inr y => cases h2; exact k
