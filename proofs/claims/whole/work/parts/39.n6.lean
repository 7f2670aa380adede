/-- marks only fall -/
def MF (S W NC : Nat) (m m' : Rw) : Prop := ∀ o s w, o < NC → s < S → w < W → (m' (pos o s w + 2) = m (pos o s w + 2) ∨ m' (pos o s w + 2) = nI 0) ∧ (m' (pos o s w + 3) = m (pos o s w + 3) ∨ m' (pos o s w + 3) = nI 0)
theorem MF.rfl' {S W NC : Nat} (m : Rw) : MF S W NC m m := fun _ _ _ _ _ _ => ⟨Or.inl rfl, Or.inl rfl⟩
theorem MF.trans {S W NC : Nat} {a b c : Rw} (h1 : MF S W NC a b) (h2 : MF S W NC b c) : MF S W NC a c := fun o s w x y z => by
  obtain ⟨a1, a2⟩ := h1 o s w x y z
  obtain ⟨b1, b2⟩ := h2 o s w x y z
  refine ⟨?_, ?_⟩
  · rcases b1 with b1 | b1
    · rw [b1]; exact a1
    · exact Or.inr b1
  · rcases b2 with b2 | b2
    · rw [b2]; exact a2
    · exact Or.inr b2
theorem MF.no {S W NC c : Nat} {m m' : Rw} (h : MF S W NC m m') (hc : c < NC) (hn : NoMk S W c m) : NoMk S W c m' := fun s w a1 a2 => by
  obtain ⟨b1, b2⟩ := h c s w hc a1 a2
  obtain ⟨n1, n2⟩ := hn s w a1 a2
  exact ⟨b1.elim (fun z => z.trans n1) id, b2.elim (fun z => z.trans n2) id⟩
theorem MF_eq {S W NC : Nat} {m m' : Rw} (h : ∀ o s w, o < NC → s < S → w < W → m' (pos o s w + 2) = m (pos o s w + 2) ∧ m' (pos o s w + 3) = m (pos o s w + 3)) : MF S W NC m m' := fun o s w a b c => ⟨Or.inl (h o s w a b c).1, Or.inl (h o s w a b c).2⟩
theorem MF_WB {S W PL NC q : Nat} (hz : Siz S W PL NC) {m : Rw} (hl : ∃ ℓ, ℓ ≤ 16 ∧ m q = nI ℓ) : MF S W NC m (rWB PL m q) := MF_eq (fun o s w _ _ _ => by
  have := pos_ge o s w
  exact ⟨rWB_low hz.par.2.2.1 hl (by omega) (by omega), rWB_low hz.par.2.2.1 hl (by omega) (by omega)⟩)
theorem MF_cell {S W PL NC c s w f : Nat} {v : Int32} (hz : Siz S W PL NC) (hs : s < S) (hw : w < W) (hf : f < 9) (hf2 : f ≠ 2) (hf3 : f ≠ 3) (m : Rw) : MF S W NC m (upd m (pos c s w + f) v) := by
  obtain ⟨p1, p2, p3, p4, p5, p6, p7, p8⟩ := id hz
  refine MF_eq (fun o s' w' a1 a2 a3 => ⟨upd_ne (fun z => ?_), upd_ne (fun z => ?_)⟩)
  · have := pos_inj (by omega) (by omega) (by omega) (by omega) (by omega) (by omega) z
    omega
  · have := pos_inj (by omega) (by omega) (by omega) (by omega) (by omega) (by omega) z
    omega
theorem MF_low {S W NC i : Nat} {v : Int32} (hi : i < 318) (m : Rw) : MF S W NC m (upd m i v) := MF_eq (fun o s w _ _ _ => by
  have := pos_ge o s w
  exact ⟨upd_ne (by omega), upd_ne (by omega)⟩)
theorem MF_Emp {S W PL NC c s w : Nat} (hz : Siz S W PL NC) (hs : s < S) (hw : w < W) (m : Rw) : MF S W NC m (rEmp m (pos c s w)) := by
  obtain ⟨p1, p2, p3, p4, p5, p6, p7, p8⟩ := id hz
  intro o s' w' a1 a2 a3
  unfold rEmp
  by_cases e : o = c ∧ s' = s ∧ w' = w
  · obtain ⟨rfl, rfl, rfl⟩ := e
    refine ⟨Or.inr ?_, Or.inr ?_⟩
    · rw [upd_ne (by omega), upd_ne (by omega), upd_eq rfl]
    · rw [upd_ne (by omega), upd_eq rfl]
  · have ne : ∀ a f, a < 9 → f < 9 → pos o s' w' + a ≠ pos c s w + f := fun a f ha hf z => by
      have := pos_inj (by omega) (by omega) (by omega) (by omega) (by omega) (by omega) z
      omega
    have n20 : pos o s' w' + 2 ≠ pos c s w := ne 2 0 (by omega) (by omega)
    have n30 : pos o s' w' + 3 ≠ pos c s w := ne 3 0 (by omega) (by omega)
    refine ⟨Or.inl ?_, Or.inl ?_⟩
    · rw [upd_ne (ne 2 4 (by omega) (by omega)), upd_ne (ne 2 3 (by omega) (by omega)), upd_ne (ne 2 2 (by omega) (by omega)), upd_ne (ne 2 1 (by omega) (by omega)), upd_ne n20]
    · rw [upd_ne (ne 3 4 (by omega) (by omega)), upd_ne (ne 3 3 (by omega) (by omega)), upd_ne (ne 3 2 (by omega) (by omega)), upd_ne (ne 3 1 (by omega) (by omega)), upd_ne n30]
theorem MF_OthQ {S W PL NC c s w : Nat} {b : Bool} (hz : Siz S W PL NC) (hs : s < S) (hw : w < W) {m m' : Rw} (hl : ∃ ℓ, ℓ ≤ 16 ∧ m (pos c s w) = nI ℓ) (ho : OthQ PL b (pos c s w) m m') : MF S W NC m m' := by
  obtain ⟨m2, h1, h2⟩ := ho
  have hp : MF S W NC m m2 := by
    rw [h1]
    split
    · exact MF_WB hz hl
    · exact MF.rfl' m
  refine hp.trans ?_
  rw [h2]
  split
  · exact (MF_Emp hz hs hw m2).trans (MF_low (by omega) _)
  · exact MF_cell hz hs hw (by omega) (by omega) (by omega) m2
theorem MF_OthR {S W PL NC c ℓ : Nat} {b : Bool} (hz : Siz S W PL NC) (hℓ : ℓ ≤ 16) : ∀ (n : Nat) {m m' : Rw} {h : Bool}, OthR S W PL c ℓ b n m h m' → MF S W NC m m' := by
  intro n
  induction n with
  | zero => intro m m' h ho; rw [ho.2]; exact MF.rfl' m
  | succ n ih =>
    intro m m' h ho
    obtain ⟨m1, h1, ho1, ⟨-, -, he⟩ | ⟨-, -, -, he⟩ | ⟨-, w, hf, -, hq⟩⟩ := ho
    · rw [he]; exact ih ho1
    · rw [he]; exact ih ho1
    · exact (ih ho1).trans (MF_OthQ hz (Nat.mod_lt _ hz.1) hf.1 ⟨ℓ, hℓ, hf.2.1⟩ hq)
theorem MF_Use {S W PL NC c s w : Nat} {b : Bool} (hz : Siz S W PL NC) (hs : s < S) (hw : w < W) (m : Rw) : MF S W NC m (rUse b (pos c s w) m) := by
  have h1 : MF S W NC m (if b = true then upd m (pos c s w + 1) (nI 3) else m) := by
    split
    · exact MF_cell hz hs hw (by omega) (by omega) (by omega) m
    · exact MF.rfl' m
  unfold rUse
  exact h1.trans (MF_cell hz hs hw (by omega) (by omega) (by omega) _)
theorem MF_Lay {S W PL NC c s w ℓ : Nat} {b : Bool} (hz : Siz S W PL NC) (hs : s < S) (hw : w < W) (m : Rw) : MF S W NC m (rLay PL b (pos c s w) ℓ m) := by
  obtain ⟨p1, p2, p3, p4, p5, p6, p7, p8⟩ := id hz
  intro o s' w' a1 a2 a3
  have ge := pos_ge o s' w'
  by_cases e : o = c ∧ s' = s ∧ w' = w
  · obtain ⟨rfl, rfl, rfl⟩ := e
    unfold rLay
    refine ⟨Or.inr ?_, Or.inr ?_⟩
    · rw [if_neg (by omega), if_neg (by omega), if_pos rfl]
    · rw [if_neg (by omega), if_neg (by omega), if_neg (by omega), if_pos rfl]
  · have ne : ∀ a f, a < 9 → f < 9 → pos o s' w' + a ≠ pos c s w + f := fun a f ha hf z => by
      have := pos_inj (by omega) (by omega) (by omega) (by omega) (by omega) (by omega) z
      omega
    have key : ∀ a, a < 9 → rLay PL b (pos c s w) ℓ m (pos o s' w' + a) = m (pos o s' w' + a) := fun a ha => by
      have n0 := ne a 0 ha (by omega)
      have n1 := ne a 1 ha (by omega)
      have n2 := ne a 2 ha (by omega)
      have n3 := ne a 3 ha (by omega)
      have n5 := ne a 5 ha (by omega)
      have n6 := ne a 6 ha (by omega)
      have n7 := ne a 7 ha (by omega)
      have n8 := ne a 8 ha (by omega)
      unfold rLay
      rw [if_neg (by omega), if_neg (by omega), if_neg (by omega), if_neg (by omega), if_neg (by omega), if_neg (by omega)]
    exact ⟨Or.inl (key 2 (by omega)), Or.inl (key 3 (by omega))⟩
theorem MF_Brg {S W PL NC c ℓ w : Nat} {tries : Int32} {b : Bool} (hz : Siz S W PL NC) (hc : c < NC) (hℓ : ℓ ≤ 16) {m m' : Rw} (hL : LOK S W NC m) (h : BrgR S W PL NC tries c ℓ b m (some w) m') : MF S W NC m m' := by
  have hs : ℓ % S < S := Nat.mod_lt _ hz.1
  obtain ⟨o0, -, ⟨-, -, h, -⟩ | ⟨w1, m2, hh, -, -, -, hw, ho, he⟩ | ⟨w1, m2, hh, -, -, hw, ho, he⟩⟩ := h
  · cases h
  · rw [he]
    refine MF.trans (MF.trans ?_ (MF_OthR hz hℓ NC ho)) ((MF_Lay hz hs hw m2).trans (MF_Use hz hs hw _))
    split
    · next z =>
      refine MF_WB hz ?_
      rcases hL c (ℓ % S) w1 hc hs hw with e | ⟨x, e1, -, e2⟩
      · exact absurd e z.1
      · exact ⟨x, e1, e2⟩
    · exact MF.rfl' m
  · rw [he]
    exact (MF_OthR hz hℓ NC ho).trans (MF_Use hz hs hw m2)
theorem RI_Brg {S W PL NC c ℓ w : Nat} {tries : Int32} {b : Bool} {len : Nat → Nat} {so wh : Nat → Nat → Nat} (hz : Siz S W PL NC) (hc : c < NC) (hℓ : ℓ ≤ 16) {m m' : Rw} (h : BrgR S W PL NC tries c ℓ b m (some w) m') (hp : RI S W PL NC len so wh m) : RI S W PL NC len so wh m' :=
  RI_places hz (PI_Brg hz hc hℓ h hp.1) (fun _ h1 h2 h3 h4 => BrgR_low hz hc hℓ hp.1.lok h h1 h2 h3 h4) (fun _ ho hn _ => (MF_Brg hz hc hℓ hp.1.lok h).no ho hn) hp
