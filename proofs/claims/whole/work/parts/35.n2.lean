theorem Siz.par {S W PL NC : Nat} (h : Siz S W PL NC) : (0 < S ∧ S ≤ 4) ∧ W ≤ 17 ∧ PL ≤ 4 ∧ NC ≤ 4 := ⟨⟨h.1, h.2.1⟩, h.2.2.2.1, h.2.2.2.2.2.1, h.2.2.2.2.2.2.2⟩
/-- one cell of a place is written -/
theorem PI_cell {S W PL NC c s w f : Nat} {v : Int32} (hz : Siz S W PL NC) (hc : c < NC) (hs : s < S) (hw : w < W) (hf0 : 0 < f) (hf : f < 9) {m : Rw} (h : PI S W PL NC m)
    (h2 : f = 2 → v = nI 0 ∨ v = nI 1) (h3 : f = 3 → v = nI 0 ∨ (v = nI 1 ∧ m (pos c s w) ≠ nI 16)) (h5 : 5 ≤ f → ∃ x, x < 1000 ∧ v = nI x) : PI S W PL NC (upd m (pos c s w + f) v) := by
  obtain ⟨p1, p2, p3, p4, p5, p6, p7, p8⟩ := id hz
  have ge := pos_ge c s w
  refine PI_at hz h hc hs hw (fun c' s' w' f' a1 a2 a3 a4 a5 => ?_) (fun i a1 a2 => ?_) (Or.inr (Or.inl (upd_ne (by omega)))) ⟨?_, ?_⟩ ?_ ?_
  · rw [upd_ne]
    intro z
    have := pos_inj (by omega) (by omega) (by omega) (by omega) (by omega) (by omega) z
    omega
  · rw [upd_ne (by omega)]; exact h.mm i a1 a2
  · by_cases e : f = 2
    · rw [e, upd_eq rfl]; exact h2 e
    · rw [upd_ne (by omega)]; exact (h.mk c s w hc hs hw).1
  · by_cases e : f = 3
    · rw [e, upd_eq rfl]; exact (h3 e).imp id (fun z => z.1)
    · rw [upd_ne (by omega)]; exact (h.mk c s w hc hs hw).2
  · rw [upd_ne (by omega)]
    intro z
    by_cases e : f = 3
    · rw [e, upd_eq rfl]
      rcases h3 e with y | y
      · rw [y, ne_eq, nI_inj (by omega) (by omega)]; omega
      · exact absurd z y.2
    · rw [upd_ne (by omega)]
      rcases h.lok c s w hc hs hw with y | ⟨ℓ, l1, l2, l3⟩
      · rw [y] at z; exact absurd z (by rw [nI_m2_ne (by omega)]; exact id)
      · rw [l3, nI_inj (by omega) (by omega)] at z
        subst z
        subst l2
        exact h.lk c w hc hw l3
  · intro k hk
    by_cases e : f = 5 + k
    · rw [e, ← Nat.add_assoc, upd_eq rfl]; exact h5 (by omega)
    · rw [upd_ne (by omega)]; exact h.wd c s w k hc hs hw hk
theorem PI_Emp {S W PL NC c s w : Nat} (hz : Siz S W PL NC) (hc : c < NC) (hs : s < S) (hw : w < W) {m : Rw} (h : PI S W PL NC m) : PI S W PL NC (rEmp m (pos c s w)) := by
  obtain ⟨p1, p2, p3, p4, p5, p6, p7, p8⟩ := id hz
  have ge := pos_ge c s w
  have out : ∀ i, (∀ f, f < 5 → i ≠ pos c s w + f) → rEmp m (pos c s w) i = m i := fun i hi => by
    have i0 := hi 0 (by omega)
    unfold rEmp
    rw [upd_ne (hi 4 (by omega)), upd_ne (hi 3 (by omega)), upd_ne (hi 2 (by omega)), upd_ne (hi 1 (by omega)), upd_ne (by omega)]
  refine PI_at hz h hc hs hw (fun c' s' w' f' a1 a2 a3 a4 a5 => ?_) (fun i a1 a2 => ?_) (Or.inl ?_) ⟨Or.inl ?_, Or.inl ?_⟩ ?_ ?_
  · refine out _ (fun f hf z => ?_)
    have := pos_inj (by omega) (by omega) (by omega) (by omega) (by omega) (by omega) z
    omega
  · rw [out i (fun f _ => by omega)]; exact h.mm i a1 a2
  · unfold rEmp
    rw [upd_ne (by omega), upd_ne (by omega), upd_ne (by omega), upd_ne (by omega), upd_eq rfl]
  · unfold rEmp
    rw [upd_ne (by omega), upd_ne (by omega), upd_eq rfl]
  · unfold rEmp
    rw [upd_ne (by omega), upd_eq rfl]
  · unfold rEmp
    rw [upd_ne (by omega), upd_ne (by omega), upd_ne (by omega), upd_ne (by omega), upd_eq rfl]
    intro z
    exact absurd z (by rw [nI_m2_ne (by omega)]; exact id)
  · intro k hk
    rw [out _ (fun f hf => by omega)]
    exact h.wd c s w k hc hs hw hk
theorem PI_low1 {S W PL NC i : Nat} {v : Int32} {m : Rw} (hi : i < 254) (h : PI S W PL NC m) : PI S W PL NC (upd m i v) := PI_low h (fun j hj => upd_ne (by omega))
theorem PI_OthQ {S W PL NC c s w : Nat} {b : Bool} (hz : Siz S W PL NC) (hc : c < NC) (hs : s < S) (hw : w < W) {m m' : Rw} (ho : OthQ PL b (pos c s w) m m') (h : PI S W PL NC m) : PI S W PL NC m' := by
  obtain ⟨m2, h1, h2⟩ := ho
  have hp : PI S W PL NC m2 := by
    rw [h1]
    split
    · exact PI_WB hz hc hs hw h
    · exact h
  rw [h2]
  split
  · exact PI_low1 (by omega) (PI_Emp hz hc hs hw hp)
  · exact PI_cell hz hc hs hw (by omega) (by omega) hp (fun z => by omega) (fun z => by omega) (fun z => by omega)
theorem PI_OthR {S W PL NC c ℓ : Nat} {b : Bool} (hz : Siz S W PL NC) : ∀ (n : Nat) {m m' : Rw} {h : Bool}, n ≤ NC → OthR S W PL c ℓ b n m h m' → PI S W PL NC m → PI S W PL NC m' := by
  intro n
  induction n with
  | zero => intro m m' h _ ho hp; rw [ho.2]; exact hp
  | succ n ih =>
    intro m m' h hn ho hp
    obtain ⟨m1, h1, ho1, ⟨-, -, he⟩ | ⟨-, -, -, he⟩ | ⟨-, w, hf, -, hq⟩⟩ := ho
    · rw [he]; exact ih (by omega) ho1 hp
    · rw [he]; exact ih (by omega) ho1 hp
    · exact PI_OthQ hz (by omega) (Nat.mod_lt _ hz.1) hf.1 hq (ih (by omega) ho1 hp)
theorem PI_Use {S W PL NC c s w : Nat} {b : Bool} (hz : Siz S W PL NC) (hc : c < NC) (hs : s < S) (hw : w < W) {m : Rw} (h : PI S W PL NC m) : PI S W PL NC (rUse b (pos c s w) m) := by
  have h1 : PI S W PL NC (if b = true then upd m (pos c s w + 1) (nI 3) else m) := by
    split
    · exact PI_cell hz hc hs hw (by omega) (by omega) h (fun z => by omega) (fun z => by omega) (fun z => by omega)
    · exact h
  unfold rUse
  exact PI_cell hz hc hs hw (by omega) (by omega) h1 (fun z => by omega) (fun z => by omega) (fun z => by omega)
theorem PI_Lay {S W PL NC c ℓ w : Nat} {b : Bool} (hz : Siz S W PL NC) (hc : c < NC) (hℓ : ℓ ≤ 16) (hw : w < W) {m : Rw} (hno : ∀ w, w < W → m (pos c (ℓ % S) w) ≠ nI ℓ) (h : PI S W PL NC m) : PI S W PL NC (rLay PL b (pos c (ℓ % S) w) ℓ m) := by
  obtain ⟨p1, p2, p3, p4, p5, p6, p7, p8⟩ := id hz
  have hs : ℓ % S < S := Nat.mod_lt _ p1
  have ge := pos_ge c (ℓ % S) w
  refine PI_at hz h hc hs hw (fun c' s' w' f' a1 a2 a3 a4 a5 => ?_) (fun i a1 a2 => ?_) (Or.inr (Or.inr ⟨ℓ, hℓ, rfl, ?_, hno⟩)) ⟨Or.inl ?_, Or.inl ?_⟩ ?_ ?_
  · have ne : ∀ f, f < 9 → pos c' s' w' + f' ≠ pos c (ℓ % S) w + f := fun f hf z => by
      have := pos_inj (by omega) (by omega) (by omega) (by omega) (by omega) (by omega) z
      omega
    have n0 := ne 0 (by omega)
    have n1 := ne 1 (by omega)
    have n2 := ne 2 (by omega)
    have n3 := ne 3 (by omega)
    have n5 := ne 5 (by omega)
    have n6 := ne 6 (by omega)
    have n7 := ne 7 (by omega)
    have n8 := ne 8 (by omega)
    have ge' := pos_ge c' s' w'
    unfold rLay
    rw [if_neg (by omega), if_neg (by omega), if_neg (by omega), if_neg (by omega), if_neg (by omega), if_neg (by omega)]
  · unfold rLay
    rw [if_neg (by omega), if_neg (by omega), if_neg (by omega), if_neg (by omega), if_neg (by omega), if_neg (by omega)]
    exact h.mm i a1 a2
  · unfold rLay; rw [if_pos rfl]
  · unfold rLay
    rw [if_neg (by omega), if_neg (by omega), if_pos rfl]
  · unfold rLay
    rw [if_neg (by omega), if_neg (by omega), if_neg (by omega), if_pos rfl]
  · intro _
    unfold rLay
    rw [if_neg (by omega), if_neg (by omega), if_neg (by omega), if_pos rfl, ne_eq, nI_inj (by omega) (by omega)]
    omega
  · intro k hk
    unfold rLay
    rw [if_neg (by omega), if_neg (by omega), if_neg (by omega), if_neg (by omega)]
    split
    · next z =>
      have := mul_le_64 p6 (show ℓ < 16 by omega)
      exact h.mm _ (by omega) (by omega)
    · rw [if_neg (by omega)]
      exact h.wd _ _ _ k hc hs hw hk
