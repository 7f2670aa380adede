/-! ===== what holds of the row between two steps: the places ===== -/
abbrev PI (S W PL NC : Nat) (m : Rw) : Prop :=
  (LOK S W NC m) ∧
  (∀ c s w w', c < NC → s < S → w < W → w' < W → m (pos c s w) ≠ -2 → m (pos c s w) = m (pos c s w') → w = w') ∧
  (∀ c s w, c < NC → s < S → w < W → (m (pos c s w + 2) = nI 0 ∨ m (pos c s w + 2) = nI 1) ∧ (m (pos c s w + 3) = nI 0 ∨ m (pos c s w + 3) = nI 1)) ∧
  (LkOK S W NC m) ∧
  (∀ c s w k, c < NC → s < S → w < W → k < PL → ∃ v, v < 1000 ∧ m (pos c s w + 5 + k) = nI v) ∧
  (∀ i, 254 ≤ i → i < 318 → ∃ v, v < 1000 ∧ m i = nI v)
theorem PI.lok {S W PL NC : Nat} {m : Rw} (h : PI S W PL NC m) : LOK S W NC m := h.1
theorem PI.one {S W PL NC : Nat} {m : Rw} (h : PI S W PL NC m) : ∀ c s w w', c < NC → s < S → w < W → w' < W → m (pos c s w) ≠ -2 → m (pos c s w) = m (pos c s w') → w = w' := h.2.1
theorem PI.mk {S W PL NC : Nat} {m : Rw} (h : PI S W PL NC m) : ∀ c s w, c < NC → s < S → w < W → (m (pos c s w + 2) = nI 0 ∨ m (pos c s w + 2) = nI 1) ∧ (m (pos c s w + 3) = nI 0 ∨ m (pos c s w + 3) = nI 1) := h.2.2.1
theorem PI.lk {S W PL NC : Nat} {m : Rw} (h : PI S W PL NC m) : LkOK S W NC m := h.2.2.2.1
theorem PI.wd {S W PL NC : Nat} {m : Rw} (h : PI S W PL NC m) : ∀ c s w k, c < NC → s < S → w < W → k < PL → ∃ v, v < 1000 ∧ m (pos c s w + 5 + k) = nI v := h.2.2.2.2.1
theorem PI.mm {S W PL NC : Nat} {m : Rw} (h : PI S W PL NC m) : ∀ i, 254 ≤ i → i < 318 → ∃ v, v < 1000 ∧ m i = nI v := h.2.2.2.2.2
/-- sizes -/
def Siz (S W PL NC : Nat) : Prop := 0 < S ∧ S ≤ 4 ∧ 0 < W ∧ W ≤ 17 ∧ 0 < PL ∧ PL ≤ 4 ∧ 0 < NC ∧ NC ≤ 4
theorem PI_low {S W PL NC : Nat} {m m' : Rw} (h : PI S W PL NC m) (e : ∀ i, 254 ≤ i → m' i = m i) : PI S W PL NC m' := by
  have ge := pos_ge
  refine ⟨fun c s w a1 a2 a3 => ?_, fun c s w w' a1 a2 a3 a4 => ?_, fun c s w a1 a2 a3 => ?_, fun o w a1 a2 => ?_, fun c s w k a1 a2 a3 a4 => ?_, fun i a1 a2 => ?_⟩
  · rw [e _ (by have := ge c s w; omega)]; exact h.lok c s w a1 a2 a3
  · rw [e _ (by have := ge c s w; omega), e _ (by have := ge c s w'; omega)]; exact h.one c s w w' a1 a2 a3 a4
  · rw [e _ (by have := ge c s w; omega), e _ (by have := ge c s w; omega)]; exact h.mk c s w a1 a2 a3
  · rw [e _ (by have := ge o (16 % S) w; omega), e _ (by have := ge o (16 % S) w; omega)]; exact h.lk o w a1 a2
  · rw [e _ (by have := ge c s w; omega)]; exact h.wd c s w k a1 a2 a3 a4
  · rw [e _ (by omega)]; exact h.mm i a1 a2
theorem PI_at {S W PL NC : Nat} (hz : Siz S W PL NC) {m m' : Rw} (h : PI S W PL NC m) {c0 s0 w0 : Nat} (hc0 : c0 < NC) (hs0 : s0 < S) (hw0 : w0 < W)
    (hout : ∀ c s w f, c < NC → s < S → w < W → f < 9 → ¬ (c = c0 ∧ s = s0 ∧ w = w0) → m' (pos c s w + f) = m (pos c s w + f))
    (hmm : ∀ i, 254 ≤ i → i < 318 → ∃ v, v < 1000 ∧ m' i = nI v)
    (hl : m' (pos c0 s0 w0) = -2 ∨ m' (pos c0 s0 w0) = m (pos c0 s0 w0) ∨ ∃ ℓ, ℓ ≤ 16 ∧ ℓ % S = s0 ∧ m' (pos c0 s0 w0) = nI ℓ ∧ ∀ w, w < W → m (pos c0 s0 w) ≠ nI ℓ)
    (hmk : (m' (pos c0 s0 w0 + 2) = nI 0 ∨ m' (pos c0 s0 w0 + 2) = nI 1) ∧ (m' (pos c0 s0 w0 + 3) = nI 0 ∨ m' (pos c0 s0 w0 + 3) = nI 1))
    (hlk : m' (pos c0 s0 w0) = nI 16 → m' (pos c0 s0 w0 + 3) ≠ nI 1)
    (hwd : ∀ k, k < PL → ∃ v, v < 1000 ∧ m' (pos c0 s0 w0 + 5 + k) = nI v) : PI S W PL NC m' := by
  obtain ⟨p1, p2, p3, p4, p5, p6, p7, p8⟩ := hz
  have out0 : ∀ c s w, c < NC → s < S → w < W → ¬ (c = c0 ∧ s = s0 ∧ w = w0) → m' (pos c s w) = m (pos c s w) := fun c s w a1 a2 a3 a4 => by
    have := hout c s w 0 a1 a2 a3 (by omega) a4
    rwa [Nat.add_zero] at this
  refine ⟨fun c s w a1 a2 a3 => ?_, fun c s w w' a1 a2 a3 a4 b1 b2 => ?_, fun c s w a1 a2 a3 => ?_, fun o w a1 a2 b => ?_, fun c s w k a1 a2 a3 a4 => ?_, hmm⟩
  · by_cases e : c = c0 ∧ s = s0 ∧ w = w0
    · obtain ⟨rfl, rfl, rfl⟩ := e
      rcases hl with hl | hl | ⟨ℓ, l1, l2, l3, -⟩
      · exact Or.inl hl
      · rw [hl]; exact h.lok _ _ _ a1 a2 a3
      · exact Or.inr ⟨ℓ, l1, l2, l3⟩
    · rw [out0 c s w a1 a2 a3 e]; exact h.lok c s w a1 a2 a3
  · by_cases e : c = c0 ∧ s = s0 ∧ w = w0
    · obtain ⟨rfl, rfl, rfl⟩ := e
      by_cases e2 : w' = w
      · exact e2.symm
      · rw [out0 c s w' a1 a2 a4 (fun z => e2 z.2.2)] at b2
        rcases hl with hl | hl | ⟨ℓ, l1, l2, l3, l4⟩
        · exact absurd hl b1
        · rw [hl] at b1 b2
          exact h.one c s w w' a1 a2 a3 a4 b1 b2
        · rw [l3] at b2
          exact absurd b2.symm (l4 w' a4)
    · by_cases e2 : c = c0 ∧ s = s0 ∧ w' = w0
      · obtain ⟨rfl, rfl, rfl⟩ := e2
        rw [out0 c s w a1 a2 a3 e] at b1 b2
        rcases hl with hl | hl | ⟨ℓ, l1, l2, l3, l4⟩
        · exact absurd (b2.trans hl) b1
        · rw [hl] at b2
          exact h.one c s w w' a1 a2 a3 a4 b1 b2
        · rw [l3] at b2
          exact absurd b2 (l4 w a3)
      · rw [out0 c s w a1 a2 a3 e] at b1 b2
        rw [out0 c s w' a1 a2 a4 e2] at b2
        exact h.one c s w w' a1 a2 a3 a4 b1 b2
  · by_cases e : c = c0 ∧ s = s0 ∧ w = w0
    · obtain ⟨rfl, rfl, rfl⟩ := e
      exact hmk
    · rw [hout c s w 2 a1 a2 a3 (by omega) e, hout c s w 3 a1 a2 a3 (by omega) e]; exact h.mk c s w a1 a2 a3
  · have hs : 16 % S < S := Nat.mod_lt _ p1
    by_cases e : o = c0 ∧ 16 % S = s0 ∧ w = w0
    · obtain ⟨rfl, rfl, rfl⟩ := e
      exact hlk b
    · rw [out0 _ _ _ a1 hs a2 e] at b
      rw [hout _ _ _ 3 a1 hs a2 (by omega) e]
      exact h.lk o w a1 a2 b
  · by_cases e : c = c0 ∧ s = s0 ∧ w = w0
    · obtain ⟨rfl, rfl, rfl⟩ := e
      exact hwd k a4
    · rw [Nat.add_assoc, hout c s w (5 + k) a1 a2 a3 (by omega) e, ← Nat.add_assoc]; exact h.wd c s w k a1 a2 a3 a4
theorem PI_Ends {S W PL NC c cause : Nat} {tries : Int32} (hz : Siz S W PL NC) (hk : cause < 4) (hc : c < 4) {m m' : Rw} (he : EndsR S W c cause tries m m') (h : PI S W PL NC m) : PI S W PL NC m' := by
  obtain ⟨p1, p2, p3, p4, p5, p6, p7, p8⟩ := id hz
  have out : ∀ i, 254 ≤ i → (∀ s w f, s < S → w < W → f < 5 → i ≠ pos c s w + f) → m' i = m i := fun i hi hp => EndsR_out hk he hp (fun k hk => by have := cat_lt hc hk; omega)
  have oth : ∀ o s w f, o ≠ c → s < 4 → w < 17 → f < 9 → m' (pos o s w + f) = m (pos o s w + f) := fun o s w f h1 h2 h3 h4 => EndsR_other p2 p4 hk hc he h1 h2 h3 h4
  have oth0 : ∀ o s w, o ≠ c → s < 4 → w < 17 → m' (pos o s w) = m (pos o s w) := fun o s w h1 h2 h3 => by
    have := oth o s w 0 h1 h2 h3 (by omega)
    rwa [Nat.add_zero] at this
  have inn := @EndsR_in S W c cause tries m m' hc hk he
  refine ⟨LOK_Ends p2 p4 hk hc p8 he h.lok, fun o s w w' a1 a2 a3 a4 b1 b2 => ?_, fun o s w a1 a2 a3 => ?_, fun o w a1 a2 b => ?_, fun o s w k a1 a2 a3 a4 => ?_, fun i a1 a2 => ?_⟩
  · by_cases e : o = c
    · subst e
      have i1 := inn a2 a3
      have i2 := inn a2 a4
      by_cases z1 : m (pos o s w + 3) = nI 1
      · rw [if_pos z1] at i1
        exact absurd i1.1 b1
      · rw [if_neg z1] at i1
        by_cases z2 : m (pos o s w' + 3) = nI 1
        · rw [if_pos z2] at i2
          exact absurd (b2.trans i2.1) b1
        · rw [if_neg z2] at i2
          rw [i1.1] at b1 b2
          rw [i2.1] at b2
          exact h.one o s w w' a1 a2 a3 a4 b1 b2
    · rw [oth0 o s w e (by omega) (by omega)] at b1 b2
      rw [oth0 o s w' e (by omega) (by omega)] at b2
      exact h.one o s w w' a1 a2 a3 a4 b1 b2
  · by_cases e : o = c
    · subst e
      have i1 := inn a2 a3
      by_cases z1 : m (pos o s w + 3) = nI 1
      · rw [if_pos z1] at i1
        exact ⟨Or.inl i1.2.2.1, Or.inl i1.2.2.2.1⟩
      · rw [if_neg z1] at i1
        rw [i1.2.2.2.1]
        exact ⟨Or.inl i1.2.2.1, (h.mk o s w a1 a2 a3).2⟩
    · rw [oth o s w 2 e (by omega) (by omega) (by omega), oth o s w 3 e (by omega) (by omega) (by omega)]
      exact h.mk o s w a1 a2 a3
  · have hs : 16 % S < S := Nat.mod_lt _ p1
    by_cases e : o = c
    · subst e
      have i1 := inn hs a2
      by_cases z1 : m (pos o (16 % S) w + 3) = nI 1
      · rw [if_pos z1] at i1
        rw [i1.2.2.2.1, ne_eq, nI_inj (by omega) (by omega)]
        omega
      · rw [if_neg z1] at i1
        rw [i1.2.2.2.1]
        exact z1
    · rw [oth0 o _ w e (by omega) (by omega)] at b
      rw [oth o _ w 3 e (by omega) (by omega) (by omega)]
      exact h.lk o w a1 a2 b
  · rw [out _ (by have := pos_ge o s w; omega) (fun s' w' f b1 b2 b3 z => by
      rw [Nat.add_assoc] at z
      have := pos_inj (by omega) (by omega) (by omega) (by omega) (by omega) (by omega) z
      omega)]
    exact h.wd o s w k a1 a2 a3 a4
  · rw [out i a1 (fun s w f _ _ _ z => by have := pos_ge c s w; omega)]
    exact h.mm i a1 a2
theorem PI_EndsL {S W PL NC cause r : Nat} {tries : Int32} (hz : Siz S W PL NC) (hk : cause < 4) : ∀ (n : Nat) {m m' : Rw}, n ≤ 4 → EndsL S W cause tries r n m m' → PI S W PL NC m → PI S W PL NC m' := by
  intro n
  induction n with
  | zero => intro m m' _ h hp; rw [h]; exact hp
  | succ n ih =>
    intro m m' hn h hp
    obtain ⟨m1, h1, ⟨h3, h2⟩ | ⟨-, h2⟩⟩ := h
    · exact PI_Ends hz hk (by omega) h2 (ih (by omega) h1 hp)
    · rw [h2]; exact ih (by omega) h1 hp
theorem PI_Dec {S W PL NC rule c ℓ how r : Nat} {tries : Int32} {b : Bool} (hz : Siz S W PL NC) (hc : c < 4) {m m' : Rw} (h : DecR S W NC rule tries c ℓ b m how r m') (hp : PI S W PL NC m) : PI S W PL NC m' := by
  obtain ⟨v, -, ⟨-, -, -, h⟩ | ⟨-, -, -, -, -, h⟩ | ⟨-, -, -, -, h⟩ | ⟨-, -, -, -, -, h⟩⟩ := h
  · rw [h]; exact hp
  · rw [h]; exact hp
  · exact PI_Ends hz (by omega) hc h hp
  · exact PI_EndsL hz (by omega) NC hz.2.2.2.2.2.2.2 h hp
/-- a line is written to memory -/
theorem PI_WB {S W PL NC c s w : Nat} (hz : Siz S W PL NC) (hc : c < NC) (hs : s < S) (hw : w < W) {m : Rw} (h : PI S W PL NC m) : PI S W PL NC (rWB PL m (pos c s w)) := by
  obtain ⟨p1, p2, p3, p4, p5, p6, p7, p8⟩ := id hz
  have key : ∀ i, 318 ≤ i → rWB PL m (pos c s w) i = m i := fun i hi => by
    unfold rWB
    split
    · next z =>
      exfalso
      rcases h.lok c s w hc hs hw with e | ⟨ℓ, l1, -, l3⟩
      · rw [e, show (-2 : Int32).toNatClampNeg = 0 by decide] at z
        omega
      · rw [l3, nI_clamp (by omega)] at z
        have : ℓ < 16 := by
          rcases Nat.lt_or_ge ℓ 16 with q | q
          · exact q
          · exact absurd (by rw [show ℓ = 16 by omega]) z.1
        have := mul_le_64 p6 this
        omega
    · split
      · omega
      · rfl
  have mem : ∀ i, 254 ≤ i → i < 318 → ∃ v, v < 1000 ∧ rWB PL m (pos c s w) i = nI v := fun i h1 h2 => by
    unfold rWB
    split
    · next z => exact h.wd c s w _ hc hs hw (by omega)
    · split
      · omega
      · exact h.mm i h1 h2
  have ge := pos_ge
  refine PI_at hz h hc hs hw (fun c s w f _ _ _ _ _ => key _ (by have := ge c s w; omega)) mem (Or.inr (Or.inl (key _ (ge c s w)))) ?_ ?_ ?_
  · rw [key _ (by have := ge c s w; omega), key _ (by have := ge c s w; omega)]; exact h.mk c s w hc hs hw
  · rw [key _ (ge c s w), key _ (by have := ge c s w; omega)]
    intro z
    rcases h.lok c s w hc hs hw with e | ⟨ℓ, l1, l2, l3⟩
    · rw [e] at z; exact absurd z (by rw [nI_m2_ne (by omega)]; exact id)
    · rw [l3, nI_inj (by omega) (by omega)] at z
      subst z
      subst l2
      exact h.lk c w hc hw l3
  · intro k hk
    rw [key _ (by have := ge c s w; omega)]
    exact h.wd c s w k hc hs hw hk
