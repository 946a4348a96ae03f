/-! what a state is, for both systems -/
/-- a ground: things, weights, joined masks, rows -/
abbrev gG : Type := Nat × (Nat → Nat) × (Nat → Nat) × (Nat → Nat → Nat)
abbrev g_n (a : gG) : Nat := a.1
abbrev g_w (a : gG) : Nat → Nat := a.2.1
abbrev g_j (a : gG) : Nat → Nat := a.2.2.1
abbrev g_f (a : gG) : Nat → Nat → Nat := a.2.2.2
def g_P : Nat := 1000003
/-- the pairs as one number of 64 bits -/
def g_pr (j : Nat → Nat) : Nat := j 0 + 256 * (j 1 + 256 * (j 2 + 256 * (j 3 + 256 * (j 4 + 256 * (j 5 + 256 * (j 6 + 256 * j 7))))))
def g_wf (a : gG) : Prop := g_n a ≤ 8 ∧ (∀ s, g_w a s ≤ 999) ∧ (∀ s, g_n a = 0 ∨ 2 ^ g_n a ≤ s → g_w a s = 0) ∧ (∀ t, g_j a t < 2 ^ g_n a) ∧ (∀ t, g_n a ≤ t → g_j a t = 0) ∧ (∀ t u, (g_j a t).testBit u = (g_j a u).testBit t) ∧ (∀ t, (g_j a t).testBit t = false) ∧ (∀ r s, g_f a r s < g_P) ∧ (∀ r s, g_n a = 0 ∨ 2 ^ g_n a ≤ s → g_f a r s = 0)
/-- the class's Ground at the cell g holds a -/
def c_G (σ : ps_S) (g : Nat) (a : gG) : Prop := σ.1 g 0 = nI (g_n a) ∧ σ.2 g 1 = lN (g_pr (g_j a)) ∧ (∀ s, s < 256 → σ.1 (g + 6) s = nI (g_w a s)) ∧ ∀ r s, r < 4 → s < 256 → σ.1 (g + 2 + r) s = nI (g_f a r s)
/-- the model's rows from o on at the cell c hold a -/
def m_G (σ : ps_S) (c o : Nat) (a : gG) : Prop := σ.1 c o = nI (g_n a) ∧ (∀ s, s < 256 → σ.1 c (o + 1 + s) = nI (g_w a s)) ∧ (∀ t, t < 8 → σ.1 c (o + 257 + t) = nI (g_j a t)) ∧ ∀ r s, r < 4 → s < 256 → σ.1 c (o + 265 + 256 * r + s) = nI (g_f a r s)
/-- the whole: the ground; how many acts are kept, and what stood ahead of each (the latest first); images, and whether they are; the tape, its length; the fault -/
abbrev gA : Type := gG × Nat × (Nat → gG) × (Nat → gG) × (Nat → Bool) × (Nat → Nat) × Nat × Nat
abbrev a_g (A : gA) : gG := A.1
abbrev a_k (A : gA) : Nat := A.2.1
abbrev a_h (A : gA) : Nat → gG := A.2.2.1
abbrev a_i (A : gA) : Nat → gG := A.2.2.2.1
abbrev a_b (A : gA) : Nat → Bool := A.2.2.2.2.1
abbrev a_t (A : gA) : Nat → Nat := A.2.2.2.2.2.1
abbrev a_l (A : gA) : Nat := A.2.2.2.2.2.2.1
abbrev a_f (A : gA) : Nat := A.2.2.2.2.2.2.2
def a_wf (A : gA) : Prop := g_wf (a_g A) ∧ a_k A ≤ 8 ∧ (∀ i, i < a_k A → g_wf (a_h A i)) ∧ (∀ i, i < 2 → a_b A i = true → g_wf (a_i A i)) ∧ (∀ i, a_t A i < 256) ∧ a_l A ≤ 540 ∧ a_f A ≤ 4
/-- what two things' names changed make of a set, a mask -/
def g_sw (a b s : Nat) : Nat := if s.testBit a = s.testBit b then s else s ^^^ (2 ^ a ||| 2 ^ b)
def g_nm (a b : Nat) (g : gG) : gG := (g_n g, fun s => g_w g (g_sw a b s), fun t => g_sw a b (g_j g (if t = a then b else if t = b then a else t)), fun r s => g_f g r (g_sw a b s))
/-- what stood ahead of an act of the ring: its line, what the line was, the pairs, or the names -/
def c_U (ln : Nat) (wa : Nat → Nat) (pw fa fb : Nat) (g h : gG) : Prop :=
  (ln = 5 ∧ fa < g_n g ∧ fb < g_n g ∧ fa ≠ fb ∧ h = g_nm fa fb g) ∨
  (ln < 5 ∧ g_n h = g_n g ∧ g_pr (g_j h) = pw ∧ (if ln = 4 then (∀ s, s < 256 → g_w h s = wa s) else (∀ s, s < 256 → g_w h s = g_w g s)) ∧ ∀ r s, r < 4 → s < 256 → g_f h r s = if r = ln then wa s else g_f g r s)
/-- the ring of acts: at the slots the rows ln wa pw fa fb, the next one nx -/
def c_K (σ : ps_S) (A : gA) : Prop := ∃ (nx : Nat) (ln : Nat → Nat) (wa : Nat → Nat → Nat) (pw fa fb : Nat → Nat), nx < 8 ∧ σ.1 22 0 = nI (a_k A) ∧ σ.1 22 1 = nI nx ∧ (∀ i, i < 8 → σ.1 23 i = nI (ln i)) ∧ (∀ i s, i < 8 → s < 256 → σ.1 (25 + i) s = nI (wa i s)) ∧ (∀ i, i < 8 → σ.2 33 i = lN (pw i)) ∧ (∀ i, i < 8 → σ.1 34 i = nI (fa i)) ∧ (∀ i, i < 8 → σ.1 35 i = nI (fb i)) ∧
  ∀ i, i < a_k A → c_U (ln ((nx + 7 - i) % 8)) (wa ((nx + 7 - i) % 8)) (pw ((nx + 7 - i) % 8)) (fa ((nx + 7 - i) % 8)) (fb ((nx + 7 - i) % 8)) (if i = 0 then a_g A else a_h A (i - 1)) (a_h A i)
/-- the class holds A -/
def c_R (σ : ps_S) (A : gA) : Prop := c_G σ 1 (a_g A) ∧ c_K σ A ∧ (∀ i, i < 2 → σ.1 (8 + 7 * i) 2 = (if a_b A i then 1 else 0) ∧ (a_b A i = true → c_G σ (8 + 7 * i) (a_i A i))) ∧ (∀ i, i < a_l A → σ.1 37 i = (nI (a_t A i)).toInt8.toInt32) ∧ σ.1 36 1 = nI (a_l A) ∧ σ.1 36 2 = nI (a_f A)
/-- the model holds A -/
def m_R (σ : ps_S) (A : gA) : Prop := m_G σ 47 0 (a_g A) ∧ σ.1 45 15 = nI (a_k A) ∧ (∀ i, i < a_k A → m_G σ 50 (1289 * (a_k A - 1 - i)) (a_h A i)) ∧ (∀ i, i < 2 → σ.1 51 i = (if a_b A i then 1 else 0) ∧ (a_b A i = true → m_G σ 49 (1289 * i) (a_i A i))) ∧ (∀ i, i < a_l A → σ.1 46 i = nI (a_t A i)) ∧ σ.1 45 2 = nI (a_l A) ∧ σ.1 45 8 = nI (a_f A)
def c_own (k : Nat) : Prop := k < 45
def m_own (k : Nat) : Prop := 45 ≤ k ∧ k < 59
theorem c_G.fr {P : Nat → Prop} {σ τ : ps_S} {g : Nat} {a : gG} (h : c_G σ g a) (hf : ps_fr P σ τ) (hn : ∀ k, g ≤ k → k ≤ g + 6 → ¬ P k) : c_G τ g a := by
  obtain ⟨h1, h2, h3, h4⟩ := h
  refine ⟨?_, ?_, fun s hs => ?_, fun r s hr hs => ?_⟩
  · rw [(hf g (hn g (by omega) (by omega))).1]; exact h1
  · rw [(hf g (hn g (by omega) (by omega))).2]; exact h2
  · rw [(hf (g + 6) (hn _ (by omega) (by omega))).1]; exact h3 s hs
  · rw [(hf (g + 2 + r) (hn _ (by omega) (by omega))).1]; exact h4 r s hr hs
theorem m_G.fr {P : Nat → Prop} {σ τ : ps_S} {c o : Nat} {a : gG} (h : m_G σ c o a) (hf : ps_fr P σ τ) (hn : ¬ P c) : m_G τ c o a := by
  have e := (hf c hn).1
  obtain ⟨h1, h2, h3, h4⟩ := h
  exact ⟨by rw [e]; exact h1, fun s hs => by rw [e]; exact h2 s hs, fun t ht => by rw [e]; exact h3 t ht, fun r s hr hs => by rw [e]; exact h4 r s hr hs⟩
theorem c_K.fr {P : Nat → Prop} {σ τ : ps_S} {A : gA} (h : c_K σ A) (hf : ps_fr P σ τ) (hn : ∀ k, 22 ≤ k → k ≤ 35 → ¬ P k) : c_K τ A := by
  obtain ⟨nx, ln, wa, pw, fa, fb, h0, h1, h2, h3, h4, h5, h6, h7, h8⟩ := h
  refine ⟨nx, ln, wa, pw, fa, fb, h0, ?_, ?_, fun i hi => ?_, fun i s hi hs => ?_, fun i hi => ?_, fun i hi => ?_, fun i hi => ?_, h8⟩
  · rw [(hf 22 (hn _ (by omega) (by omega))).1]; exact h1
  · rw [(hf 22 (hn _ (by omega) (by omega))).1]; exact h2
  · rw [(hf 23 (hn _ (by omega) (by omega))).1]; exact h3 i hi
  · rw [(hf (25 + i) (hn _ (by omega) (by omega))).1]; exact h4 i s hi hs
  · rw [(hf 33 (hn _ (by omega) (by omega))).2]; exact h5 i hi
  · rw [(hf 34 (hn _ (by omega) (by omega))).1]; exact h6 i hi
  · rw [(hf 35 (hn _ (by omega) (by omega))).1]; exact h7 i hi
/-- what the model does leaves the class as it is -/
theorem c_R.fr {P : Nat → Prop} {σ τ : ps_S} {A : gA} (h : c_R σ A) (hf : ps_fr P σ τ) (hn : ∀ k, k < 38 → ¬ P k) : c_R τ A := by
  obtain ⟨h1, h2, h3, h4, h5, h6⟩ := h
  refine ⟨h1.fr hf (fun k _ h => hn k (by omega)), h2.fr hf (fun k _ h => hn k (by omega)), fun i hi => ⟨?_, fun hb => ((h3 i hi).2 hb).fr hf (fun k _ h => hn k (by omega))⟩, fun i hi => ?_, ?_, ?_⟩
  · rw [(hf (8 + 7 * i) (hn _ (by omega))).1]; exact (h3 i hi).1
  · rw [(hf 37 (hn _ (by omega))).1]; exact h4 i hi
  · rw [(hf 36 (hn _ (by omega))).1]; exact h5
  · rw [(hf 36 (hn _ (by omega))).1]; exact h6
theorem m_R.fr {P : Nat → Prop} {σ τ : ps_S} {A : gA} (h : m_R σ A) (hf : ps_fr P σ τ) (hn : ∀ k, 45 ≤ k → k ≤ 51 → ¬ P k) : m_R τ A := by
  obtain ⟨h1, h2, h3, h4, h5, h6, h7⟩ := h
  refine ⟨h1.fr hf (hn 47 (by omega) (by omega)), ?_, fun i hi => (h3 i hi).fr hf (hn 50 (by omega) (by omega)), fun i hi => ⟨?_, fun hb => ((h4 i hi).2 hb).fr hf (hn 49 (by omega) (by omega))⟩, fun i hi => ?_, ?_, ?_⟩
  · rw [(hf 45 (hn _ (by omega) (by omega))).1]; exact h2
  · rw [(hf 51 (hn _ (by omega) (by omega))).1]; exact (h4 i hi).1
  · rw [(hf 46 (hn _ (by omega) (by omega))).1]; exact h5 i hi
  · rw [(hf 45 (hn _ (by omega) (by omega))).1]; exact h6
  · rw [(hf 45 (hn _ (by omega) (by omega))).1]; exact h7
/-- both hold A -/
def b_R (σ : ps_S) : Prop := ∃ A : gA, a_wf A ∧ c_R σ A ∧ m_R σ A
