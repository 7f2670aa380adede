theorem cat_inj {c c' k k' : Nat} (hk : k < 14) (hk' : k' < 14) (h : cat c k = cat c' k') : c = c' ∧ k = k' := by
  unfold cat at h; omega
/-- what an ended try leaves: all but its core's own numbers and places -/
theorem EndsR_low {S W c cause : Nat} {tries : Int32} {m m' : Rw} (hk : cause < 4) (h : EndsR S W c cause tries m m') {i : Nat} (hi : i < 318) (hcat : ∀ k, k < 14 → i ≠ cat c k) : m' i = m i :=
  EndsR_out hk h (fun s w f _ _ _ z => by have := pos_ge c s w; omega) hcat
theorem EndsL_low {S W cause r : Nat} {tries : Int32} (hk : cause < 4) : ∀ (n : Nat) {m m' : Rw}, EndsL S W cause tries r n m m' → ∀ i, i < 318 → (∀ o k, o < n → r.testBit o = true → k < 14 → i ≠ cat o k) → m' i = m i := by
  intro n
  induction n with
  | zero => intro m m' h i _ _; rw [h]
  | succ n ih =>
    intro m m' h i hi hc
    obtain ⟨m1, h1, ⟨h3, h2⟩ | ⟨h3, h2⟩⟩ := h
    · rw [EndsR_low hk h2 hi (fun k hk' => hc n k (by omega) h3 hk')]
      exact ih h1 i hi (fun o k ho => hc o k (by omega))
    · rw [h2]; exact ih h1 i hi (fun o k ho => hc o k (by omega))
theorem rLay_low {PL q ℓ i : Nat} {b : Bool} {m : Rw} (hq : 318 ≤ q) (hi : i < 318) (h1 : i ≠ 1) : rLay PL b q ℓ m i = m i := by
  unfold rLay
  rw [if_neg (by omega), if_neg (by omega), if_neg (by omega), if_neg (by omega), if_neg (by omega), if_neg (by omega)]
theorem rUse_low {q i : Nat} {b : Bool} {m : Rw} (hq : 318 ≤ q) (hi : i < 318) : rUse b q m i = m i := by
  have h1 : (if b = true then upd m (q + 1) (nI 3) else m) i = m i := by
    split
    · exact upd_ne (by omega)
    · rfl
  unfold rUse
  rw [upd_ne (by omega)]
  exact h1
theorem rWB_low {PL : Nat} {m : Rw} {q i : Nat} (hPL : PL ≤ 4) (hl : ∃ ℓ, ℓ ≤ 16 ∧ m q = nI ℓ) (h2 : i ≠ 2) (hm : ¬ (254 ≤ i ∧ i < 318)) : rWB PL m q i = m i := by
  obtain ⟨ℓ, h1, h3⟩ := hl
  exact rWB_out hPL h3 h1 h2 hm
/-- a line that came: all but the places, memory and the traffic as before -/
theorem BrgR_low {S W PL NC c ℓ w : Nat} {tries : Int32} {b : Bool} (hz : Siz S W PL NC) (hc : c < NC) (hℓ : ℓ ≤ 16) {m m' : Rw} (hL : LOK S W NC m) (h : BrgR S W PL NC tries c ℓ b m (some w) m') {i : Nat} (hi : i < 254) (h1 : i ≠ 1) (h2 : i ≠ 2) (h3 : i ≠ 3) : m' i = m i := by
  obtain ⟨y1, y2, y3, y4⟩ := hz.par
  obtain ⟨o0, -, ⟨-, -, h, -⟩ | ⟨w1, m2, hh, -, -, -, hw, ho, he⟩ | ⟨w1, m2, hh, -, -, hw, ho, he⟩⟩ := h
  · cases h
  · have q := pos_ge c (ℓ % S) w1
    rw [he, rUse_low q (by omega), rLay_low q (by omega) h1, OthR_keep y1 y2 y3 hℓ NC y4 ho i h2 h3 (by omega) (fun o s w f _ _ _ _ _ z => by have := pos_ge o s w; omega)]
    split
    · next z =>
      refine rWB_low y3 ?_ h2 (by omega)
      rcases hL c (ℓ % S) w1 hc (Nat.mod_lt _ hz.1) hw with e | ⟨x, e1, -, e2⟩
      · exact absurd e z.1
      · exact ⟨x, e1, e2⟩
    · rfl
  · have q := pos_ge c (ℓ % S) w1
    rw [he, rUse_low q (by omega), OthR_keep y1 y2 y3 hℓ NC y4 ho i h2 h3 (by omega) (fun o s w f _ _ _ _ _ z => by have := pos_ge o s w; omega)]
theorem PI_Brg {S W PL NC c ℓ : Nat} {tries : Int32} {b : Bool} (hz : Siz S W PL NC) (hc : c < NC) (hℓ : ℓ ≤ 16) {m m' : Rw} {o : Option Nat} (h : BrgR S W PL NC tries c ℓ b m o m') (hp : PI S W PL NC m) : PI S W PL NC m' := by
  obtain ⟨y1, y2, y3, y4⟩ := hz.par
  have hs : ℓ % S < S := Nat.mod_lt _ hz.1
  obtain ⟨o0, hf, ⟨-, -, -, he⟩ | ⟨w, m2, hh, e0, -, -, hw, ho, he⟩ | ⟨w, m2, hh, -, -, hw, ho, he⟩⟩ := h
  · exact PI_Ends hz (by omega) (by omega) he hp
  · rw [e0] at hf
    have hq : PI S W PL NC (if m (pos c (ℓ % S) w) ≠ -2 ∧ m (pos c (ℓ % S) w + 1) = nI 3 then rWB PL m (pos c (ℓ % S) w) else m) := by
      split
      · exact PI_WB hz hc hs hw hp
      · exact hp
    rw [he]
    refine PI_Use hz hc hs hw (PI_Lay hz hc hℓ hw (fun w' hw' => ?_) (PI_OthR hz NC (Nat.le_refl _) ho hq))
    have ge := pos_ge c (ℓ % S) w'
    rw [OthR_keep y1 y2 y3 hℓ NC y4 ho _ (by omega) (by omega) (by omega) (fun o s w f _ a2 a3 a4 a5 z => by
      have := pos_inj (f := 0) (by omega) (by omega) (by omega) (by omega) (by omega) (by omega) z
      omega)]
    split
    · next z =>
      rw [rWB_low y3 ?_ (by omega) (by omega)]
      · exact hf w' hw'
      · rcases hp.lok c (ℓ % S) w hc hs hw with e | ⟨x, e1, -, e2⟩
        · exact absurd e z.1
        · exact ⟨x, e1, e2⟩
    · exact hf w' hw'
  · rw [he]
    exact PI_Use hz hc hs hw (PI_OthR hz NC (Nat.le_refl _) ho hp)
