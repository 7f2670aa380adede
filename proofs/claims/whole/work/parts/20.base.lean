/-! ===== tools for the printed functions ===== -/
theorem zc_some (v : Int32) (g : zG) (K : Int32 → zG → zR0) : zc (some (v, g)) K = K v g := rfl
theorem zw_eq (g : zG) (f i j : Nat) (v : Int32) (K : zG → zR0) : zw g f i j v K = K (zU g f i j v) := rfl
theorem zin_nI {i n : Nat} (h : i < n) (hn : n < 2 ^ 31) : zin (nI i) n = true := by
  simp only [zin, Bool.and_eq_true, decide_eq_true_eq]
  exact ⟨nI_pos (by omega), by rw [nI_clamp (by omega)]; exact h⟩
theorem zi_nI {i n : Nat} {A : zR0} (h : i < n) (hn : n < 2 ^ 31) : zi (nI i) n A = A := by
  unfold zi; rw [if_pos (zin_nI h hn)]
theorem zi_ok {j : Int32} {n : Nat} {A : zR0} (h : zin j n = true) : zi j n A = A := by
  unfold zi; rw [if_pos h]
theorem nI_ltz {n : Nat} (h : n < 2 ^ 31) : (nI n < 0) = False := eq_false (nI_pos h)
theorem nI_ne_m1 {n : Nat} (h : n < 2 ^ 31) : (nI n = -1) = False := by
  refine eq_false (fun q => ?_)
  have a := nI_toInt h
  rw [q] at a
  have b : (-1 : Int32).toInt = -1 := by decide
  omega
theorem nI_ne_m2 {n : Nat} (h : n < 2 ^ 31) : (nI n = -2) = False := by
  refine eq_false (fun q => ?_)
  have a := nI_toInt h
  rw [q] at a
  have b : (-2 : Int32).toInt = -2 := by decide
  omega
theorem nI_inj {a b : Nat} (ha : a < 2 ^ 31) (hb : b < 2 ^ 31) : (nI a = nI b) = (a = b) := propext (nI_eq ha hb)
theorem nI_lti {a b : Nat} (ha : a < 2 ^ 31) (hb : b < 2 ^ 31) : (nI a < nI b) = (a < b) := propext (nI_ltI ha hb)
theorem nI_eq0 {n : Nat} (h : n < 2 ^ 31) : (nI n = 0) = (n = 0) := by
  have := nI_inj h (show 0 < 2 ^ 31 by decide)
  rw [nI_0] at this
  exact this
theorem nI_0lt {n : Nat} (h : n < 2 ^ 31) : (0 < nI n) = (0 < n) := by
  have := nI_lti (show 0 < 2 ^ 31 by decide) h
  rw [nI_0] at this
  exact this
theorem nI_m1_ne {n : Nat} (h : n < 2 ^ 31) : (-1 = nI n) = False := by
  rw [eq_comm (a := (-1 : Int32)), nI_ne_m1 h]
theorem nI_m2_ne {n : Nat} (h : n < 2 ^ 31) : (-2 = nI n) = False := by
  rw [eq_comm (a := (-2 : Int32)), nI_ne_m2 h]
theorem zU_eq (g : zG) {f i j f' i' j' : Nat} (v : Int32) (h : f' = f ∧ i' = i ∧ j' = j) : zU g f i j v f' i' j' = v := by simp only [zU, if_pos h]
theorem zU_self (g : zG) (f i j : Nat) (v : Int32) : zU g f i j v f i j = v := by simp [zU]
theorem zU_ne (g : zG) {f i j f' i' j' : Nat} (v : Int32) (h : ¬ (f' = f ∧ i' = i ∧ j' = j)) : zU g f i j v f' i' j' = g f' i' j' := by simp only [zU, if_neg h]
/-- a printed loop: its state s, what holds in it, what falls; it steps, or it is through -/
theorem loopM {σ : Type} (M : Nat → σ → zR0) (I : σ → Prop) (μ : σ → Nat) (Q : zR0 → Prop) (hs : ∀ n s, I s → (∃ s', I s' ∧ μ s' < μ s ∧ M (n + 1) s = M n s') ∨ Q (M (n + 1) s)) : ∀ n s, I s → μ s < n → Q (M n s) := by
  intro n
  induction n with
  | zero => intro s _ h; omega
  | succ n ih =>
    intro s hI hm
    rcases hs n s hI with ⟨s', h1, h2, h3⟩ | h
    · rw [h3]; exact ih s' h1 (by omega)
    · exact h
/-- a printed loop over i = i0 .. N - 1 -/
theorem loopN {M : Nat → Nat → zG → zR0} (N : Nat) (I : Nat → zG → Prop) (Q : zR0 → Prop) (hs : ∀ n i g, i < N → I i g → (∃ g', I (i + 1) g' ∧ M (n + 1) i g = M n (i + 1) g') ∨ Q (M (n + 1) i g)) (hx : ∀ n g, I N g → Q (M (n + 1) N g)) {i0 : Nat} {g0 : zG} (h0 : I i0 g0) (hi : i0 ≤ N) (hN : N < zfuel) : Q (M zfuel i0 g0) := by
  refine loopM (σ := Nat × zG) (fun n s => M n s.1 s.2) (fun s => s.1 ≤ N ∧ I s.1 s.2) (fun s => N - s.1) Q ?_ zfuel (i0, g0) ⟨hi, h0⟩ ?_
  · intro n s hI
    obtain ⟨i, g⟩ := s
    obtain ⟨h1, h2⟩ := hI
    by_cases h : i < N
    · rcases hs n i g h h2 with ⟨g', a, b⟩ | a
      · exact Or.inl ⟨(i + 1, g'), ⟨h, a⟩, by simp only; omega, b⟩
      · exact Or.inr a
    · have e : i = N := by simp only at h1; omega
      subst e
      exact Or.inr (hx n g h2)
  · simp only; omega
theorem zfuel_ge {n : Nat} (h : n < 100000) : n < zfuel := h
