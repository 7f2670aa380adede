/-! ===== waysFor: counting ===== -/
theorem cntS_succ (S T s n : Nat) : cntS S T s (n + 1) = cntS S T s n + if n % S = s ∧ T.testBit n = true then 1 else 0 := rfl
theorem cnt_le {S T s : Nat} : ∀ n W (f : Nat → Nat), (∀ i, i < n → i % S = s → T.testBit i = true → f i < W) → (∀ i j, i < n → j < n → i % S = s → j % S = s → T.testBit i = true → T.testBit j = true → f i = f j → i = j) → cntS S T s n ≤ W := by
  intro n
  induction n with
  | zero => intro W f _ _; exact Nat.zero_le _
  | succ n ih =>
    intro W f h1 h2
    rw [cntS_succ]
    by_cases hP : n % S = s ∧ T.testBit n = true
    · rw [if_pos hP]
      have hv := h1 n (by omega) hP.1 hP.2
      have := ih (W - 1) (fun i => if f i = W - 1 then f n else f i) (fun i a b d => by
        have hi := h1 i (by omega) b d
        try dsimp only
        by_cases z : f i = W - 1
        · rw [if_pos z]
          have : f n ≠ W - 1 := fun y => by
            have := h2 n i (by omega) (by omega) hP.1 b hP.2 d (y.trans z.symm)
            omega
          omega
        · rw [if_neg z]; omega) (fun i j a b d e x y z => by
        try dsimp only at z
        by_cases z1 : f i = W - 1
        · by_cases z2 : f j = W - 1
          · exact h2 i j (by omega) (by omega) d e x y (z1.trans z2.symm)
          · rw [if_pos z1, if_neg z2] at z
            have := h2 n j (by omega) (by omega) hP.1 e hP.2 y z
            omega
        · by_cases z2 : f j = W - 1
          · rw [if_neg z1, if_pos z2] at z
            have := h2 i n (by omega) (by omega) d hP.1 x hP.2 z
            omega
          · rw [if_neg z1, if_neg z2] at z
            exact h2 i j (by omega) (by omega) d e x y z)
      omega
    · rw [if_neg hP, Nat.add_zero]
      exact ih W f (fun i a => h1 i (by omega)) (fun i j a b => h2 i j (by omega) (by omega))
theorem cnt_ge {S T s : Nat} : ∀ n W (g : Nat → Nat), (∀ w, w < W → g w < n ∧ g w % S = s ∧ T.testBit (g w) = true) → (∀ w w', w < W → w' < W → g w = g w' → w = w') → W ≤ cntS S T s n := by
  intro n
  induction n with
  | zero =>
    intro W g h1 _
    rcases Nat.eq_zero_or_pos W with z | z
    · omega
    · have := (h1 0 z).1; omega
  | succ n ih =>
    intro W g h1 h2
    rw [cntS_succ]
    by_cases hx : ∃ w, w < W ∧ g w = n
    · obtain ⟨w0, w1, w2⟩ := hx
      have hP := (h1 w0 w1).2
      rw [w2] at hP
      rw [if_pos hP]
      have := ih (W - 1) (fun w => if w = w0 then g (W - 1) else g w) (fun w hw => by
        try dsimp only
        by_cases z : w = w0
        · rw [if_pos z]
          have := h1 (W - 1) (by omega)
          refine ⟨?_, this.2⟩
          have : g (W - 1) ≠ n := fun y => by
            have := h2 (W - 1) w0 (by omega) w1 (y.trans w2.symm)
            omega
          omega
        · rw [if_neg z]
          have := h1 w (by omega)
          refine ⟨?_, this.2⟩
          have : g w ≠ n := fun y => z (h2 w w0 (by omega) w1 (y.trans w2.symm))
          omega) (fun w w' a b z => by
        try dsimp only at z
        by_cases z1 : w = w0
        · by_cases z2 : w' = w0
          · omega
          · rw [if_pos z1, if_neg z2] at z
            have := h2 _ _ (by omega) (by omega) z
            omega
        · by_cases z2 : w' = w0
          · rw [if_neg z1, if_pos z2] at z
            have := h2 _ _ (by omega) (by omega) z
            omega
          · rw [if_neg z1, if_neg z2] at z
            exact h2 _ _ (by omega) (by omega) z)
      omega
    · have := ih W g (fun w hw => by
        have := h1 w hw
        refine ⟨?_, this.2⟩
        have : g w ≠ n := fun y => hx ⟨w, hw, y⟩
        omega) h2
      omega
theorem cntS_mono {S T T' s : Nat} (h : ∀ i, T.testBit i = true → T'.testBit i = true) : ∀ n, cntS S T s n ≤ cntS S T' s n := by
  intro n
  induction n with
  | zero => exact Nat.le_refl _
  | succ n ih =>
    rw [cntS_succ, cntS_succ]
    by_cases z : n % S = s ∧ T.testBit n = true
    · rw [if_pos z, if_pos ⟨z.1, h n z.2⟩]; omega
    · rw [if_neg z]; omega
theorem wd_le_widS (S T wd : Nat) : ∀ n, wd ≤ widS S T wd n := by
  intro n
  induction n with
  | zero => exact Nat.le_refl _
  | succ n ih =>
    unfold widS
    omega
theorem cnt_le_widS {S T wd s : Nat} : ∀ n, s < n → cntS S T s 17 ≤ widS S T wd n := by
  intro n
  induction n with
  | zero => intro h; omega
  | succ n ih =>
    intro h
    unfold widS
    by_cases e : s = n
    · subst e; omega
    · have := ih (by omega); omega
theorem widS_bound {S T wd W : Nat} (h : wd ≤ W) : ∀ n, (∀ s, s < n → cntS S T s 17 ≤ W) → widS S T wd n ≤ W := by
  intro n
  induction n with
  | zero => intro _; exact h
  | succ n ih =>
    intro hs
    have h1 := ih (fun s a => hs s (by omega))
    have h2 := hs n (by omega)
    unfold widS
    omega
theorem sDeed_mono (S PL so wh : Nat) (ix : Bool) (t : St) : t.2.2.2.2 ≤ (sDeed S PL so wh ix t).2.2.2.2 ∧ (so ≠ 0 → ∀ i, t.2.2.2.1.testBit i = true → (sDeed S PL so wh ix t).2.2.2.1.testBit i = true) := by
  unfold sDeed
  split
  · exact ⟨Nat.le_refl _, fun z => absurd (by assumption) z⟩
  · split
    · exact ⟨wd_le_widS _ _ _ _, fun _ i h => h⟩
    · split
      · exact ⟨Nat.le_refl _, fun _ i h => h⟩
      · split
        · exact ⟨Nat.le_refl _, fun _ i h => (or_bit _ _ _).mpr (Or.inl h)⟩
        · split
          · exact ⟨Nat.le_refl _, fun _ i h => (or_bit _ _ _).mpr (Or.inl h)⟩
          · split
            · exact ⟨Nat.le_refl _, fun _ i h => h⟩
            · exact ⟨Nat.le_refl _, fun _ i h => h⟩
/-- too many lines in a try show at its end -/
theorem fin_gt {S PL len W s : Nat} {so wh : Nat → Nat} {ix : Nat → Bool} {t0 : St} (hw : WfD so wh PL len) (hs : s < S) : ∀ n j, j + n = len → (opn so j = true ∧ W < cntS S (sRun S PL so wh ix t0 0 j).2.2.2.1 s 17) ∨ W < (sRun S PL so wh ix t0 0 j).2.2.2.2 → W < (sRun S PL so wh ix t0 0 len).2.2.2.2 := by
  intro n
  induction n with
  | zero =>
    intro j e h
    have : j = len := by omega
    subst this
    rcases h with ⟨h, -⟩ | h
    · rw [hw.2.1] at h; cases h
    · exact h
  | succ n ih =>
    intro j e h
    refine ih (j + 1) (by omega) ?_
    have hr : sRun S PL so wh ix t0 0 (j + 1) = sDeed S PL (so j) (wh j) (ix j) (sRun S PL so wh ix t0 0 j) := by
      show sDeed S PL (so (0 + j)) _ _ _ = _
      rw [Nat.zero_add]
    have hm := sDeed_mono S PL (so j) (wh j) (ix j) (sRun S PL so wh ix t0 0 j)
    rw [hr]
    rcases h with ⟨h1, h2⟩ | h
    · have w2 := (hw.2.2 j (by omega)).2.1
      have n0 : so j ≠ 0 := fun z => by rw [w2 z] at h1; cases h1
      by_cases e1 : so j = 1
      · right
        have : (sDeed S PL (so j) (wh j) (ix j) (sRun S PL so wh ix t0 0 j)).2.2.2.2 = widS S (sRun S PL so wh ix t0 0 j).2.2.2.1 (sRun S PL so wh ix t0 0 j).2.2.2.2 S := by
          simp only [sDeed, e1, show ¬ (1 = 0) by omega, if_true, if_false]
        rw [this]
        exact Nat.lt_of_lt_of_le h2 (cnt_le_widS S hs)
      · left
        refine ⟨by rw [opn, if_neg n0, if_neg e1]; exact h1, Nat.lt_of_lt_of_le h2 (cntS_mono (hm.2 n0) 17)⟩
    · right; omega
/-! one core alone in the reference -/
def Oth0 (S W NC c : Nat) (m : Rw) : Prop := ∀ o s w, o < NC → o ≠ c → s < S → w < W → m (pos o s w) = -2
theorem OthR_none {S W PL NC c ℓ : Nat} {b : Bool} (hS : 0 < S) (hℓ : ℓ ≤ 16) : ∀ n {m m' : Rw} {h : Bool}, n ≤ NC → Oth0 S W NC c m → OthR S W PL c ℓ b n m h m' → h = false ∧ m' = m := by
  intro n
  induction n with
  | zero => intro m m' h _ _ ho; exact ho
  | succ n ih =>
    intro m m' h hn h0 ho
    obtain ⟨m1, h1, k1, ⟨-, e1, e2⟩ | ⟨-, -, e1, e2⟩ | ⟨hc, w, hf, -⟩⟩ := ho
    · rw [e1, e2]; exact ih (by omega) h0 k1
    · rw [e1, e2]; exact ih (by omega) h0 k1
    · have := (ih (by omega) h0 k1).2
      rw [this] at hf
      have e := hf.2.1
      rw [h0 n _ w (by omega) hc (Nat.mod_lt _ hS) hf.1] at e
      exact absurd e.symm (by rw [nI_ne_m2 (by omega)]; exact id)
theorem noRiv {S W NC c o ℓ : Nat} {b : Bool} {m : Rw} (hS : 0 < S) (hℓ : ℓ ≤ 16) (ho : o < NC) (h : Oth0 S W NC c m) : ¬ RivR S W m c o ℓ b := by
  rintro ⟨hoc, w, hf, -⟩
  have e := hf.2.1
  rw [h o _ w ho hoc (Nat.mod_lt _ hS) hf.1] at e
  exact absurd e.symm (by rw [nI_ne_m2 (by omega)]; exact id)
theorem RivB0 {S W NC c ℓ v : Nat} {b : Bool} {m : Rw} (hS : 0 < S) (hℓ : ℓ ≤ 16) (h : Oth0 S W NC c m) (hv : RivB S W NC m c ℓ b v) : v = 0 := by
  rw [bit_zero v hv.1]
  intro j hj
  cases e : v.testBit j with
  | false => rfl
  | true =>
    have := (hv.2 j hj).mp e
    exact absurd this.2 (noRiv hS hℓ this.1 h)
theorem Dec_solo {S W NC rule c ℓ how r : Nat} {tries : Int32} {b : Bool} {m m' : Rw} (hS : 0 < S) (hℓ : ℓ ≤ 16) (h : Oth0 S W NC c m) (hd : DecR S W NC rule tries c ℓ b m how r m') : how = 1 ∧ m' = m := by
  obtain ⟨v, hv, ⟨-, h1, -, h2⟩ | ⟨z, -⟩ | ⟨z, -⟩ | ⟨z, -⟩⟩ := hd
  · exact ⟨h1, h2⟩
  · exact absurd (RivB0 hS hℓ h hv) z
  · exact absurd (RivB0 hS hℓ h hv) z
  · exact absurd (RivB0 hS hℓ h hv) z
def mWB (PL : Nat) (m : Rw) (a : Nat) : Rw := if m a ≠ -2 ∧ m (a + 1) = nI 3 then rWB PL m a else m
theorem Brg_solo {S W PL NC c ℓ : Nat} {tries : Int32} {b : Bool} {m m' : Rw} {o : Option Nat} (hz : Siz S W PL NC) (hc : c < NC) (hℓ : ℓ ≤ 16) (h0 : Oth0 S W NC c m) (hp : PI S W PL NC m) (h : BrgR S W PL NC tries c ℓ b m o m') :
    (o = none ∧ FindR S W m c ℓ none ∧ sroom m (pos c (ℓ % S)) W 0 none = none ∧ EndsR S W c 1 tries m m') ∨
    (∃ w, o = some w ∧ w < W ∧ FindR S W m c ℓ none ∧ sroom m (pos c (ℓ % S)) W 0 none = some w ∧ m' = rUse b (pos c (ℓ % S) w) (rLay PL false (pos c (ℓ % S) w) ℓ (mWB PL m (pos c (ℓ % S) w)))) ∨
    (∃ w, o = some w ∧ w < W ∧ FindR S W m c ℓ (some w) ∧ m' = rUse b (pos c (ℓ % S) w) m) := by
  obtain ⟨p1, p2, p3, p4, p5, p6, p7, p8⟩ := id hz
  obtain ⟨o0, hf, ⟨rfl, hr, ho, he⟩ | ⟨w, m2, hh, rfl, hr, ho, hw, hoth, he⟩ | ⟨w, m2, hh, rfl, ho, hw, hoth, he⟩⟩ := h
  · exact Or.inl ⟨ho, hf, hr, he⟩
  · right; left
    have h1 : Oth0 S W NC c (mWB PL m (pos c (ℓ % S) w)) := fun o s w' a1 a2 a3 a4 => by
      unfold mWB
      split
      · next z =>
        obtain ⟨ℓ', l1, -, l3⟩ := (hp.lok c (ℓ % S) w hc (Nat.mod_lt _ p1) hw).resolve_left z.1
        rw [rWB_low p6 ⟨ℓ', l1, l3⟩ (by have := pos_ge o s w'; omega) (by have := pos_ge o s w'; omega)]
        exact h0 o s w' a1 a2 a3 a4
      · exact h0 o s w' a1 a2 a3 a4
    obtain ⟨e1, e2⟩ := OthR_none p1 hℓ NC (Nat.le_refl _) h1 hoth
    exact ⟨w, ho, hw, hf, hr, by rw [he, e1, e2]⟩
  · right; right
    obtain ⟨-, e2⟩ := OthR_none p1 hℓ NC (Nat.le_refl _) h0 hoth
    exact ⟨w, ho, hw, hf, by rw [he, e2]⟩
theorem Bgn_solo {S W PL NC c how r : Nat} {tries : Int32} {m m' : Rw} (hz : Siz S W PL NC) (hc : c < NC) (h0 : Oth0 S W NC c m) (h5 : m 5 = -2) (h : BgnR S W PL NC tries c m how r m') : how = 1 ∧
    ((m (cat c 4) < tries ∧ ∃ w m1, BrgR S W PL NC tries c 16 false m (some w) m1 ∧ m' = rTail c (upd (upd m1 (pos c (16 % S) w + 2) (nI 1)) (cat c 3) (nI 1))) ∨
     (¬ m (cat c 4) < tries ∧ ∃ w m2, BrgR S W PL NC tries c 16 true m (some w) m2 ∧ m' = rTail c (upd (upd m2 5 (nI c)) (cat c 3) (nI 2)))) := by
  obtain ⟨p1, p2, p3, p4, p5, p6, p7, p8⟩ := id hz
  rcases h with ⟨z, -⟩ | ⟨-, hlt, hh, -, w, m1, hb, he⟩ | ⟨-, hlt, hh, m1, w, m2, hv, hen, hb, he⟩
  · exact absurd h5 z
  · exact ⟨hh, Or.inl ⟨hlt, w, m1, hb, he⟩⟩
  · have r0 := RivB0 p1 (Nat.le_refl 16) h0 hv
    subst r0
    have : ∀ n (m1 : Rw), EndsL S W 3 tries 0 n m m1 → m1 = m := by
      intro n
      induction n with
      | zero => intro m1 e; exact e
      | succ n ih =>
        intro m1 e
        obtain ⟨m3, e1, ⟨e2, -⟩ | ⟨-, e2⟩⟩ := e
        · simp at e2
        · rw [e2]; exact ih m3 e1
    rw [this NC m1 hen] at hb
    exact ⟨hh, Or.inr ⟨hlt, w, m2, hb, he⟩⟩
theorem sroom_spec {m : Rw} {p : Nat → Nat} : ∀ (n k : Nat) (best : Option Nat), (∀ j, best = some j → m (p j) ≠ -2 ∧ m (p j + 2) = 0 ∧ m (p j + 3) = 0) → (∀ w, sroom m p n k best = some w → m (p w) = -2 ∨ (m (p w + 2) = 0 ∧ m (p w + 3) = 0)) ∧ (sroom m p n k best = none → best = none ∧ ∀ w, k ≤ w → w < k + n → m (p w) ≠ -2 ∧ ¬ (m (p w + 2) = 0 ∧ m (p w + 3) = 0)) := by
  intro n
  induction n with
  | zero =>
    intro k best hb
    exact ⟨fun w h => Or.inr (hb w h).2, fun h => ⟨h, fun w a b => by omega⟩⟩
  | succ n ih =>
    intro k best hb
    rw [sroom]
    by_cases z0 : m (p k) = -2
    · rw [if_pos z0]
      exact ⟨fun w h => by cases h; exact Or.inl z0, fun h => by cases h⟩
    · rw [if_neg z0]
      by_cases z1 : m (p k + 2) = 0 ∧ m (p k + 3) = 0 ∧ sbet m p k best = true
      · rw [if_pos z1]
        obtain ⟨i1, i2⟩ := ih (k + 1) (some k) (fun j hj => by cases hj; exact ⟨z0, z1.1, z1.2.1⟩)
        exact ⟨i1, fun h => by have := (i2 h).1; cases this⟩
      · rw [if_neg z1]
        obtain ⟨i1, i2⟩ := ih (k + 1) best hb
        refine ⟨i1, fun h => ?_⟩
        obtain ⟨j1, j2⟩ := i2 h
        refine ⟨j1, fun w a b => ?_⟩
        by_cases e : w = k
        · subst e
          refine ⟨z0, fun y => z1 ⟨y.1, y.2, ?_⟩⟩
          rw [j1]; rfl
        · exact j2 w (by omega) (by omega)
