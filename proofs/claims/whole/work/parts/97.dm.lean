/-! ===== machine: a text that fails; a text that is one ===== -/
/-- a call that reads a text and finds a fault in it (or none, and changes what is told) -/
theorem INV_fail {gc gm gc' gm' : zG} (h : INV gc gm) (hc : ∀ f i j, f ≠ 2000 → f ≠ 12000 → f ≠ 13000 → ¬ (4002 ≤ f ∧ f ≤ 12002 ∧ f % 1000 = 2) → ¬ (i = 1 ∧ ((11 ≤ f ∧ f ≤ 16) ∨ (1001 ≤ f ∧ f ≤ 7001 ∧ f % 1000 = 1))) → gc' f i j = gc f i j)
    (hm : ∀ f i j, f ≠ 1007 → f ≠ 2007 → f ≠ 3007 → f ≠ 4007 → f ≠ 6007 → ¬ (f = 10007 ∨ (22007 ≤ f ∧ f ≤ 30007 ∧ f % 1000 = 7) ∨ f = 32 ∨ f = 34 ∨ f = 36 ∨ f = 38 ∨ f = 40 ∨ f = 42) → gm' f i j = gm f i j)
    (t0 : gc' 2000 0 0 = nI 0) (t1 : gm' 6007 0 0 = nI 0) (hf : gc' 12000 0 0 = gm' 3007 0 0) (ht : gc' 13000 0 0 = gm' 2007 0 0) (h4 : gm' 2007 0 0 = nI 4 → gc' 12002 0 0 = gm' 4007 0 0) : INV gc' gm' := by
  obtain ⟨⟨-, b4, -, -, -, b8, b9, b, b10, b11⟩, hT⟩ := h
  refine ⟨⟨⟨0, by omega, t0, t1⟩, fun k hk => ?_, hf, ht, h4, ?_, fun c a => ?_, b, ?_, ?_⟩, ?_⟩
  · rw [hc _ _ _ (by omega) (by omega) (by omega) (by omega) (by omega), hm _ _ _ (by omega) (by omega) (by omega) (by omega) (by omega) (by omega)]; exact b4 k hk
  · rw [hc _ _ _ (by omega) (by omega) (by omega) (by omega) (by omega), hm _ _ _ (by omega) (by omega) (by omega) (by omega) (by omega) (by omega)]; exact b8
  · rw [hc _ _ _ (by omega) (by omega) (by omega) (by omega) (by omega), hm _ _ _ (by omega) (by omega) (by omega) (by omega) (by omega) (by omega)]; exact b9 c a
  · rw [hc _ _ _ (by omega) (by omega) (by omega) (by omega) (by omega)]; exact b10
  · rw [hm _ _ _ (by omega) (by omega) (by omega) (by omega) (by omega) (by omega)]; exact b11
  · rcases hT with ⟨a1, a2, a3, a4, a5, a6, a7⟩ | ⟨S, W, PL, NC, rl, tr, len, so, wh, ix, hT, hB, hK⟩
    · refine Or.inl ⟨?_, ?_, ?_, ?_, ?_, ?_, fun c a => ?_⟩
      · rw [hc _ _ _ (by omega) (by omega) (by omega) (by omega) (by omega)]; exact a1
      · rw [hm _ _ _ (by omega) (by omega) (by omega) (by omega) (by omega) (by omega)]; exact a2
      · rw [hc _ _ _ (by omega) (by omega) (by omega) (by omega) (by omega)]; exact a3
      · rw [hc _ _ _ (by omega) (by omega) (by omega) (by omega) (by omega)]; exact a4
      · rw [hc _ _ _ (by omega) (by omega) (by omega) (by omega) (by omega)]; exact a5
      · rw [hc _ _ _ (by omega) (by omega) (by omega) (by omega) (by omega)]; exact a6
      · rw [hc _ _ _ (by omega) (by omega) (by omega) (by omega) (by omega)]; exact a7 c a
    · have e43 : gm' 43 0 = gm 43 0 := funext (fun k => hm _ _ _ (by omega) (by omega) (by omega) (by omega) (by omega) (by omega))
      have e45 : gm' 45 0 = gm 45 0 := funext (fun k => hm _ _ _ (by omega) (by omega) (by omega) (by omega) (by omega) (by omega))
      refine Or.inr ⟨S, W, PL, NC, rl, tr, len, so, wh, ix, hT.fr (fun f i j a z => hc f i j (by omega) (by omega) (by omega) (by omega) (by omega)) (fun f i j a => hm f i j (by omega) (by omega) (by omega) (by omega) (by omega) (by omega)), ?_, fun z => ?_⟩
      · rw [e43]
        exact hB.fr hT.1.1 (fun f i j a _ => hc f i j (by unfold ofRun at a; omega) (by unfold ofRun at a; omega) (by unfold ofRun at a; omega) (by unfold ofRun at a; omega) (by unfold ofRun at a; omega))
      · rw [e45]
        rw [hm _ _ _ (by omega) (by omega) (by omega) (by omega) (by omega) (by omega)] at z
        exact (hK z).fr hT.1.1 (fun f i j a _ => hc f i j (by unfold ofRun at a; omega) (by unfold ofRun at a; omega) (by unfold ofRun at a; omega) (by unfold ofRun at a; omega) (by unfold ofRun at a; omega))
theorem CoreZ_fr {g g' : zG} {q : Nat} (h : CoreZ g q) (e : ∀ f i j, (22 ≤ f ∧ f ≤ 28) ∨ f = 1005 ∨ f = 2005 ∨ f = 3005 ∨ f = 4005 ∨ f = 5005 ∨ f = 6005 ∨ f = 7005 → g' f i j = g f i j) : CoreZ g' q := by
  obtain ⟨h1, h2, h3, h4, h5, h6, h7, h8, h9⟩ := h
  refine ⟨fun p hp => ?_, ?_, ?_, ?_, ?_, ?_, ?_, ?_, fun k hk => ?_⟩
  · rw [e 22 _ _ (by omega), e 23 _ _ (by omega), e 24 _ _ (by omega), e 25 _ _ (by omega), e 26 _ _ (by omega)]; exact h1 p hp
  · rw [e _ _ _ (by omega)]; exact h2
  · rw [e _ _ _ (by omega)]; exact h3
  · rw [e _ _ _ (by omega)]; exact h4
  · rw [e _ _ _ (by omega)]; exact h5
  · rw [e _ _ _ (by omega)]; exact h6
  · rw [e _ _ _ (by omega)]; exact h7
  · rw [e _ _ _ (by omega)]; exact h8
  · rw [e _ _ _ (by omega)]; exact h9 k hk
theorem vp_bI (b : Bool) : vp_nar .boolean (bI b) = bI b := by
  cases b
  · exact zvb0
  · exact zvb1
