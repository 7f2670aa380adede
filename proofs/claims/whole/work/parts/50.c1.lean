/-! ===== the class' runs beside the reference's row ===== -/
def Siz4 (S W PL NC : Nat) : Prop := 0 < S ∧ S ≤ 4 ∧ 0 < W ∧ W ≤ 4 ∧ 0 < PL ∧ PL ≤ 4 ∧ 0 < NC ∧ NC ≤ 4
theorem Siz4.siz {S W PL NC : Nat} (h : Siz4 S W PL NC) : Siz S W PL NC := ⟨h.1, h.2.1, h.2.2.1, by have := h.2.2.2.1; omega, h.2.2.2.2⟩
/-- the told numbers, as the class has them -/
def CPar (S W PL NC : Nat) (g : zG) : Prop := Siz4 S W PL NC ∧ g 1001 0 0 = nI S ∧ g 2001 0 0 = nI W ∧ g 3001 0 0 = nI PL ∧ g 6001 0 0 = nI NC
/-- a place of a cache and its stretch of the row -/
def PlS (PL : Nat) (g : zG) (q p : Nat) (m : Rw) (a : Nat) : Prop :=
  g 22 q p = m a ∧ g 23 q p = m (a + 1) ∧ g 24 q p = m (a + 2) ∧ g 25 q p = m (a + 3) ∧ (m a = -2 → g 23 q p = nI 0 ∧ g 26 q p = -2) ∧ (m a ≠ -2 → g 26 q p = m (a + 4)) ∧ (m a ≠ -2 → m a ≠ nI 16 → ∀ k, k < PL → g 27 q (4 * p + k) = m (a + 5 + k))
/-- a core's numbers -/
def NuS (g : zG) (q c : Nat) (m : Rw) : Prop :=
  g 1005 q 0 = m (cat c 0) ∧ g 2005 q 0 = m (cat c 6) ∧ g 3005 q 0 = m (cat c 1) ∧ g 4005 q 0 = m (cat c 2) ∧ g 5005 q 0 = m (cat c 3) ∧ g 6005 q 0 = m (cat c 4) ∧ g 7005 q 0 = m (cat c 5) ∧ ∀ k, k < 7 → g 28 q k = m (cat c (7 + k))
/-- what all cores share -/
def ShS (PL r : Nat) (g : zG) (m : Rw) : Prop :=
  (∀ a, a < 16 * PL → g 17 r a = m (254 + a)) ∧ (∀ k, k < 3 → g 20 r k = m (1 + k)) ∧ (∃ n, n ≤ 48 ∧ m 4 = nI n ∧ g 7003 r 0 = nI n ∧ ∀ i, i < 4 * n → g 21 r i = m (62 + i)) ∧ g 11003 r 0 = m 5 ∧ g 10003 r 0 = m 0
/-- run r and the row, but for a place -/
def SimH (S W PL NC r c0 s0 w0 : Nat) (g : zG) (m : Rw) : Prop :=
  (∀ c s w, c < NC → s < S → w < W → ¬ (c = c0 ∧ s = s0 ∧ w = w0) → PlS PL g (4 * r + c) (s * W + w) m (pos c s w)) ∧
  (∀ c p, c < NC → S * W ≤ p → p < 16 → g 22 (4 * r + c) p = -2) ∧
  (∀ c, c < NC → NuS g (4 * r + c) c m) ∧ ShS PL r g m ∧
  (∀ c, NC ≤ c → c < 4 → (∀ p, p < 16 → g 22 (4 * r + c) p = -2) ∧ ∀ k, k < 7 → g 28 (4 * r + c) k = nI 0)
abbrev Sim (S W PL NC r : Nat) (g : zG) (m : Rw) : Prop := SimH S W PL NC r 4 0 0 g m
/-- what a run's steps may change -/
def ofRun (r f i : Nat) : Prop := ((f = 17 ∨ f = 20 ∨ f = 21 ∨ f = 7003 ∨ f = 10003 ∨ f = 11003 ∨ f = 12003) ∧ i = r) ∨ (((22 ≤ f ∧ f ≤ 28) ∨ f = 1005 ∨ f = 2005 ∨ f = 3005 ∨ f = 4005 ∨ f = 5005 ∨ f = 6005 ∨ f = 7005) ∧ 4 * r ≤ i ∧ i < 4 * r + 4)
def FrC (r : Nat) (g g' : zG) : Prop := ∀ f i j, ¬ ofRun r f i → g' f i j = g f i j
theorem FrC.rfl' (r : Nat) (g : zG) : FrC r g g := fun _ _ _ _ => rfl
theorem FrC.trans {r : Nat} {a b c : zG} (h1 : FrC r a b) (h2 : FrC r b c) : FrC r a c := fun f i j x => (h2 f i j x).trans (h1 f i j x)
theorem FrC.u {r : Nat} {a b : zG} (h : FrC r a b) {f i : Nat} (j : Nat) (v : Int32) (hf : ofRun r f i) : FrC r a (zU b f i j v) := fun f' i' j' x => by
  rw [zU_ne _ _ (fun z => x (by rw [z.1, z.2.1]; exact hf))]
  exact h f' i' j' x
theorem CPar.fr {S W PL NC r : Nat} {g g' : zG} (h : CPar S W PL NC g) (hf : FrC r g g') : CPar S W PL NC g' :=
  ⟨h.1, by rw [hf _ _ _ (by unfold ofRun; omega)]; exact h.2.1, by rw [hf _ _ _ (by unfold ofRun; omega)]; exact h.2.2.1, by rw [hf _ _ _ (by unfold ofRun; omega)]; exact h.2.2.2.1, by rw [hf _ _ _ (by unfold ofRun; omega)]; exact h.2.2.2.2⟩
/-! places by numbers -/
theorem pl_lt {S W s w : Nat} (hs : s < S) (hw : w < W) : s * W + w < S * W := by
  have h1 : (s + 1) * W ≤ S * W := Nat.mul_le_mul_right W hs
  rw [Nat.add_mul, Nat.one_mul] at h1
  omega
theorem pl_16 {S W PL NC : Nat} (h : Siz4 S W PL NC) : S * W ≤ 16 := Nat.mul_le_mul h.2.1 h.2.2.2.1
theorem pl_inj {W s w s' w' : Nat} (hw : w < W) (hw' : w' < W) (h : s * W + w = s' * W + w') : s = s' ∧ w = w' := by
  have a : (s * W + w) / W = s := by rw [Nat.mul_comm, Nat.mul_add_div (by omega), Nat.div_eq_of_lt hw, Nat.add_zero]
  have b : (s' * W + w') / W = s' := by rw [Nat.mul_comm, Nat.mul_add_div (by omega), Nat.div_eq_of_lt hw', Nat.add_zero]
  rw [h] at a
  have e := a.symm.trans b
  subst e
  omega
theorem pl_split {S W p : Nat} (hW : 0 < W) (h : p < S * W) : ∃ s w, s < S ∧ w < W ∧ p = s * W + w :=
  ⟨p / W, p % W, Nat.div_lt_of_lt_mul (by rw [Nat.mul_comm]; exact h), Nat.mod_lt _ hW, by rw [Nat.mul_comm]; exact (Nat.div_add_mod p W).symm⟩
/-! ===== how the bond is kept: a cache, a core's numbers, the rest ===== -/
theorem PlS.congr {PL q p a : Nat} {g g' : zG} {m m' : Rw} (hPL : PL ≤ 4) (h : PlS PL g q p m a) (hg : ∀ f, 22 ≤ f → f ≤ 26 → g' f q p = g f q p) (hw : ∀ k, k < 4 → g' 27 q (4 * p + k) = g 27 q (4 * p + k)) (hm : ∀ k, k < 9 → m' (a + k) = m (a + k)) : PlS PL g' q p m' a := by
  obtain ⟨h1, h2, h3, h4, h5, h6, h7⟩ := h
  have m0 := hm 0 (by omega)
  rw [Nat.add_zero] at m0
  unfold PlS
  rw [hg 22 (by omega) (by omega), hg 23 (by omega) (by omega), hg 24 (by omega) (by omega), hg 25 (by omega) (by omega), hg 26 (by omega) (by omega), m0, hm 1 (by omega), hm 2 (by omega), hm 3 (by omega), hm 4 (by omega)]
  exact ⟨h1, h2, h3, h4, h5, h6, fun x y k hk => by rw [hw k (by omega), Nat.add_assoc, hm (5 + k) (by omega), ← Nat.add_assoc]; exact h7 x y k hk⟩
theorem NuS.congr {q c : Nat} {g g' : zG} {m m' : Rw} (h : NuS g q c m) (hg : ∀ f j, f = 28 ∨ f = 1005 ∨ f = 2005 ∨ f = 3005 ∨ f = 4005 ∨ f = 5005 ∨ f = 6005 ∨ f = 7005 → g' f q j = g f q j) (hm : ∀ k, k < 14 → m' (cat c k) = m (cat c k)) : NuS g' q c m' := by
  obtain ⟨h1, h2, h3, h4, h5, h6, h7, h8⟩ := h
  refine ⟨?_, ?_, ?_, ?_, ?_, ?_, ?_, fun k hk => ?_⟩
  · rw [hg _ _ (by omega), hm _ (by omega)]; exact h1
  · rw [hg _ _ (by omega), hm _ (by omega)]; exact h2
  · rw [hg _ _ (by omega), hm _ (by omega)]; exact h3
  · rw [hg _ _ (by omega), hm _ (by omega)]; exact h4
  · rw [hg _ _ (by omega), hm _ (by omega)]; exact h5
  · rw [hg _ _ (by omega), hm _ (by omega)]; exact h6
  · rw [hg _ _ (by omega), hm _ (by omega)]; exact h7
  · rw [hg _ _ (by omega), hm _ (by omega)]; exact h8 k hk
theorem ShS.congr {PL r : Nat} {g g' : zG} {m m' : Rw} (hPL : PL ≤ 4) (h : ShS PL r g m) (hg : ∀ f j, f = 17 ∨ f = 20 ∨ f = 21 ∨ f = 7003 ∨ f = 10003 ∨ f = 11003 → g' f r j = g f r j) (hm : ∀ i, i < 6 ∨ (62 ≤ i ∧ i < 318) → m' i = m i) : ShS PL r g' m' := by
  obtain ⟨h1, h2, ⟨n, h3, h4, h5, h6⟩, h7, h8⟩ := h
  refine ⟨fun a ha => ?_, fun k hk => ?_, ⟨n, h3, ?_, ?_, fun i hi => ?_⟩, ?_, ?_⟩
  · rw [hg _ _ (by omega), hm _ (by omega)]; exact h1 a ha
  · rw [hg _ _ (by omega), hm _ (by omega)]; exact h2 k hk
  · rw [hm _ (by omega)]; exact h4
  · rw [hg _ _ (by omega)]; exact h5
  · rw [hg _ _ (by omega), hm _ (by omega)]; exact h6 i hi
  · rw [hg _ _ (by omega), hm _ (by omega)]; exact h7
  · rw [hg _ _ (by omega), hm _ (by omega)]; exact h8
theorem SimH_cache {S W PL NC r c0 s0 w0 c1 c2 s2 w2 : Nat} {g g' : zG} {m m' : Rw} (hz : Siz4 S W PL NC) (h : SimH S W PL NC r c0 s0 w0 g m) (hc1 : c1 < NC)
    (hg : ∀ f i j, f ≠ 12003 → ¬ (i = 4 * r + c1 ∧ 22 ≤ f ∧ f ≤ 27) → g' f i j = g f i j)
    (hm : ∀ i, (∀ s w f, s < 4 → w < 17 → f < 9 → i ≠ pos c1 s w + f) → m' i = m i)
    (hp : ∀ s w, s < S → w < W → ¬ (c1 = c2 ∧ s = s2 ∧ w = w2) → PlS PL g' (4 * r + c1) (s * W + w) m' (pos c1 s w))
    (he : ∀ p, S * W ≤ p → p < 16 → g' 22 (4 * r + c1) p = -2)
    (hh : c0 = c1 ∨ NC ≤ c0 ∨ (c0 = c2 ∧ s0 = s2 ∧ w0 = w2)) : SimH S W PL NC r c2 s2 w2 g' m' := by
  obtain ⟨p1, p2, p3, p4, p5, p6, p7, p8⟩ := hz
  obtain ⟨h1, h2, h3, h4, h5⟩ := h
  refine ⟨fun c s w a1 a2 a3 a4 => ?_, fun c p a1 a2 a3 => ?_, fun c a1 => ?_, ?_, fun c a1 a2 => ⟨fun p a3 => ?_, fun k a3 => ?_⟩⟩
  · by_cases e : c = c1
    · subst e; exact hp s w a2 a3 a4
    · refine (h1 c s w a1 a2 a3 (by omega)).congr p6 (fun f b1 b2 => hg _ _ _ (by omega) (by omega)) (fun k hk => hg _ _ _ (by omega) (by omega)) (fun k hk => hm _ (fun s' w' f b1 b2 b3 z => ?_))
      exact e (pos_inj (by omega) b1 (by omega) b2 hk b3 z).1
  · by_cases e : c = c1
    · subst e; exact he p a2 a3
    · rw [hg _ _ _ (by omega) (by omega)]; exact h2 c p a1 a2 a3
  · refine (h3 c a1).congr (fun f j b => hg _ _ _ (by omega) (by omega)) (fun k hk => hm _ (fun s w f b1 b2 b3 z => ?_))
    have := cat_lt (show c < 4 by omega) hk
    have := pos_ge c1 s w
    omega
  · exact h4.congr p6 (fun f j b => hg _ _ _ (by omega) (by omega)) (fun i hi => hm _ (fun s w f b1 b2 b3 z => by have := pos_ge c1 s w; omega))
  · rw [hg _ _ _ (by omega) (by omega)]; exact (h5 c a1 a2).1 p a3
  · rw [hg _ _ _ (by omega) (by omega)]; exact (h5 c a1 a2).2 k a3
theorem SimH_place {S W PL NC r c0 s0 w0 c1 s1 w1 c2 s2 w2 : Nat} {g g' : zG} {m m' : Rw} (hz : Siz4 S W PL NC) (h : SimH S W PL NC r c0 s0 w0 g m) (hc1 : c1 < NC) (hs1 : s1 < S) (hw1 : w1 < W)
    (hg : ∀ f i j, f ≠ 12003 → ¬ (i = 4 * r + c1 ∧ ((22 ≤ f ∧ f ≤ 26 ∧ j = s1 * W + w1) ∨ (f = 27 ∧ 4 * (s1 * W + w1) ≤ j ∧ j < 4 * (s1 * W + w1) + 4))) → g' f i j = g f i j)
    (hm : ∀ i, (∀ f, f < 9 → i ≠ pos c1 s1 w1 + f) → m' i = m i)
    (hp : ¬ (c1 = c2 ∧ s1 = s2 ∧ w1 = w2) → PlS PL g' (4 * r + c1) (s1 * W + w1) m' (pos c1 s1 w1))
    (hh : (c0 = c1 ∧ s0 = s1 ∧ w0 = w1) ∨ NC ≤ c0 ∨ (c0 = c2 ∧ s0 = s2 ∧ w0 = w2)) : SimH S W PL NC r c2 s2 w2 g' m' := by
  obtain ⟨p1, p2, p3, p4, p5, p6, p7, p8⟩ := id hz
  refine SimH_cache hz h hc1 (fun f i j b1 b2 => hg f i j b1 (by omega)) (fun i hi => hm i (fun f hf => hi s1 w1 f (by omega) (by omega) hf)) (fun s w a2 a3 a4 => ?_) (fun p a2 a3 => ?_) (by omega)
  · by_cases e : s = s1 ∧ w = w1
    · obtain ⟨rfl, rfl⟩ := e
      exact hp a4
    · have ne : s * W + w ≠ s1 * W + w1 := fun z => e (pl_inj a3 hw1 z)
      refine (h.1 c1 s w hc1 a2 a3 (by omega)).congr p6 (fun f b1 b2 => hg _ _ _ (by omega) (by omega)) (fun k hk => hg _ _ _ (by omega) (by omega)) (fun k hk => hm _ (fun f hf z => ?_))
      have := pos_inj (by omega) (by omega) (by omega) (by omega) hk hf z
      omega
  · have := pl_lt hs1 hw1
    rw [hg _ _ _ (by omega) (by omega)]
    exact h.2.1 c1 p hc1 a2 a3
theorem SimH_num {S W PL NC r c0 s0 w0 c1 : Nat} {g g' : zG} {m m' : Rw} (hz : Siz4 S W PL NC) (h : SimH S W PL NC r c0 s0 w0 g m) (hc1 : c1 < NC)
    (hg : ∀ f i j, f ≠ 12003 → ¬ (i = 4 * r + c1 ∧ (f = 28 ∨ f = 1005 ∨ f = 2005 ∨ f = 3005 ∨ f = 4005 ∨ f = 5005 ∨ f = 6005 ∨ f = 7005)) → g' f i j = g f i j)
    (hm : ∀ i, (∀ k, k < 14 → i ≠ cat c1 k) → m' i = m i)
    (hp : NuS g' (4 * r + c1) c1 m') : SimH S W PL NC r c0 s0 w0 g' m' := by
  obtain ⟨p1, p2, p3, p4, p5, p6, p7, p8⟩ := hz
  obtain ⟨h1, h2, h3, h4, h5⟩ := h
  refine ⟨fun c s w a1 a2 a3 a4 => ?_, fun c p a1 a2 a3 => ?_, fun c a1 => ?_, ?_, fun c a1 a2 => ⟨fun p a3 => ?_, fun k a3 => ?_⟩⟩
  · refine (h1 c s w a1 a2 a3 a4).congr p6 (fun f b1 b2 => hg _ _ _ (by omega) (by omega)) (fun k hk => hg _ _ _ (by omega) (by omega)) (fun k hk => hm _ (fun k' hk' => cat_pos (by omega) hk' c s w k))
  · rw [hg _ _ _ (by omega) (by omega)]; exact h2 c p a1 a2 a3
  · by_cases e : c = c1
    · subst e; exact hp
    · refine (h3 c a1).congr (fun f j b => hg _ _ _ (by omega) (by omega)) (fun k hk => hm _ (fun k' hk' z => ?_))
      exact e (cat_inj hk hk' z).1
  · refine h4.congr p6 (fun f j b => hg _ _ _ (by omega) (by omega)) (fun i hi => hm _ (fun k hk z => ?_))
    have := cat_lt (show c1 < 4 by omega) hk
    unfold cat at *
    omega
  · rw [hg _ _ _ (by omega) (by omega)]; exact (h5 c a1 a2).1 p a3
  · rw [hg _ _ _ (by omega) (by omega)]; exact (h5 c a1 a2).2 k a3
theorem SimH_sh {S W PL NC r c0 s0 w0 : Nat} {g g' : zG} {m m' : Rw} (hz : Siz4 S W PL NC) (h : SimH S W PL NC r c0 s0 w0 g m)
    (hg : ∀ f i j, f ≠ 12003 → ¬ (i = r ∧ (f = 17 ∨ f = 20 ∨ f = 21 ∨ f = 7003 ∨ f = 10003 ∨ f = 11003)) → g' f i j = g f i j)
    (hm : ∀ i, ¬ (i < 6 ∨ (62 ≤ i ∧ i < 318)) → m' i = m i)
    (hp : ShS PL r g' m') : SimH S W PL NC r c0 s0 w0 g' m' := by
  obtain ⟨p1, p2, p3, p4, p5, p6, p7, p8⟩ := hz
  obtain ⟨h1, h2, h3, h4, h5⟩ := h
  refine ⟨fun c s w a1 a2 a3 a4 => ?_, fun c p a1 a2 a3 => ?_, fun c a1 => ?_, hp, fun c a1 a2 => ⟨fun p a3 => ?_, fun k a3 => ?_⟩⟩
  · have := pos_ge c s w
    exact (h1 c s w a1 a2 a3 a4).congr p6 (fun f b1 b2 => hg _ _ _ (by omega) (by omega)) (fun k hk => hg _ _ _ (by omega) (by omega)) (fun k hk => hm _ (by omega))
  · rw [hg _ _ _ (by omega) (by omega)]; exact h2 c p a1 a2 a3
  · refine (h3 c a1).congr (fun f j b => hg _ _ _ (by omega) (by omega)) (fun k hk => hm _ ?_)
    have := cat_lt (show c < 4 by omega) hk
    have : 6 ≤ cat c k := by unfold cat; omega
    omega
  · rw [hg _ _ _ (by omega) (by omega)]; exact (h5 c a1 a2).1 p a3
  · rw [hg _ _ _ (by omega) (by omega)]; exact (h5 c a1 a2).2 k a3
