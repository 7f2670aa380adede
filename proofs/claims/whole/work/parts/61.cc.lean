/-! ===== a run begun, a run copied; the row begun ===== -/
/-- a row begun -/
def begR (fst : Nat → Int32) (i : Nat) : Int32 := if i = 5 then -2 else if i = 11 ∨ i = 25 ∨ i = 39 ∨ i = 53 then -2 else if 254 ≤ i ∧ i < 318 then fst (i - 254) else if 318 ≤ i ∧ (i - 318) % 9 = 0 then -2 else nI 0
def BegM (fst : Nat → Int32) (m : Rw) : Prop := ∀ i, i < 2766 → m i = begR fst i
theorem X7_begins_ok (g : zG) : ∃ g', X7_begins g = some (0, g') ∧ BegM (g 33 0) (g' 43 0) ∧ FrN g g' := by
  unfold X7_begins
  refine loopN (M := fun n i h => X7_begins_l2 (fun (v1 : Int32) g => X7_begins_l32 (fun (v1 : Int32) g => X7_begins_l57 (fun (v1 : Int32) g => X7_begins_l89  zfuel v1 g) zfuel v1 g) zfuel v1 g) n (nI i) h) 2766 (fun i h => (∀ k, k < i → h 43 0 k = nI 0) ∧ FrN g h) (fun o => ∃ g', o = some (0, g') ∧ BegM (g 33 0) (g' 43 0) ∧ FrN g g') ?_ ?_ (i0 := 0) ⟨fun k hk => by omega, FrN.rfl' g⟩ (by omega) (zfuel_ge (by omega))
  · rintro n i h hi ⟨h1, h2⟩
    left
    refine ⟨zU h 43 0 i (nI 0), ⟨fun k hk => ?_, h2.row _ _⟩, ?_⟩
    · by_cases z : k = i
      · rw [z, zU_self]
      · rw [zU_ne _ _ (by omega)]; exact h1 k (by omega)
    · rw [X7_begins_l2.eq_2]
      simp (disch := omega) only [zc_some, zw_eq, zi_nI, nI_clamp, nI_add, nI_1, nI_lti, nI_inj, nI_ltz, nI_eq0, nI_0lt, nI_ne_m1, nI_ne_m2, nI_m1_ne, nI_m2_ne, if_true, if_false, zU_eq, zU_ne, Nat.add_zero, pk_mul, hi]
  · rintro n h ⟨h1, h2⟩
    rw [X7_begins_l2.eq_2]
    simp (disch := omega) only [zc_some, zw_eq, zi_nI, nI_clamp, nI_add, nI_1, nI_lti, nI_inj, nI_ltz, nI_eq0, nI_0lt, nI_ne_m1, nI_ne_m2, nI_m1_ne, nI_m2_ne, if_true, if_false, zU_eq, zU_ne, Nat.add_zero, pk_mul, Nat.lt_irrefl]
    refine loopN (M := fun n i h => X7_begins_l32 (fun (v1 : Int32) g => X7_begins_l57 (fun (v1 : Int32) g => X7_begins_l89  zfuel v1 g) zfuel v1 g) n (nI i) h) 4 (fun i h' => (∀ k, k < 2766 → h' 43 0 k = if k = 5 then -2 else if ∃ c, c < i ∧ k = cat c 5 then -2 else nI 0) ∧ FrN g h') (fun o => ∃ g', o = some (0, g') ∧ BegM (g 33 0) (g' 43 0) ∧ FrN g g') ?_ ?_ (i0 := 0) ⟨fun k hk => ?_, h2.row _ _⟩ (by omega) (zfuel_ge (by omega))
    · rintro n i h' hi ⟨k1, k2⟩
      left
      have hlt := cat_lt hi (show 5 < 14 by omega)
      refine ⟨zU h' 43 0 (cat i 5) (-2), ⟨fun k hk => ?_, k2.row _ _⟩, ?_⟩
      · by_cases z : k = cat i 5
        · rw [z, zU_self, if_neg (by unfold cat; omega), if_pos ⟨i, by omega, rfl⟩]
        · rw [zU_ne _ _ (by omega), k1 k hk]
          by_cases z5 : k = 5
          · rw [if_pos z5, if_pos z5]
          · rw [if_neg z5, if_neg z5]
            by_cases z6 : ∃ c, c < i ∧ k = cat c 5
            · obtain ⟨c, y1, y2⟩ := z6
              rw [if_pos ⟨c, y1, y2⟩, if_pos ⟨c, by omega, y2⟩]
            · rw [if_neg z6, if_neg]
              rintro ⟨c, y1, y2⟩
              by_cases y : c = i
              · subst y; exact z y2
              · exact z6 ⟨c, by omega, y2⟩
      · rw [X7_begins_l32.eq_2]
        simp (disch := omega) only [zc_some, zw_eq, zi_nI, nI_clamp, nI_add, nI_1, nI_lti, nI_inj, nI_ltz, nI_eq0, nI_0lt, nI_ne_m1, nI_ne_m2, nI_m1_ne, nI_m2_ne, if_true, if_false, zU_eq, zU_ne, Nat.add_zero, pk_mul, hi, X7_coreAt_ok]
    · rintro n h' ⟨k1, k2⟩
      rw [X7_begins_l32.eq_2]
      simp (disch := omega) only [zc_some, zw_eq, zi_nI, nI_clamp, nI_add, nI_1, nI_lti, nI_inj, nI_ltz, nI_eq0, nI_0lt, nI_ne_m1, nI_ne_m2, nI_m1_ne, nI_m2_ne, if_true, if_false, zU_eq, zU_ne, Nat.add_zero, pk_mul, Nat.lt_irrefl]
      have k1' : ∀ k, k < 2766 → h' 43 0 k = if k = 5 then -2 else if k = 11 ∨ k = 25 ∨ k = 39 ∨ k = 53 then -2 else nI 0 := fun k hk => by
        rw [k1 k hk]
        by_cases z5 : k = 5
        · rw [if_pos z5, if_pos z5]
        · rw [if_neg z5, if_neg z5]
          by_cases z : k = 11 ∨ k = 25 ∨ k = 39 ∨ k = 53
          · rw [if_pos z, if_pos]
            rcases z with rfl | rfl | rfl | rfl
            · exact ⟨0, by omega, rfl⟩
            · exact ⟨1, by omega, rfl⟩
            · exact ⟨2, by omega, rfl⟩
            · exact ⟨3, by omega, rfl⟩
          · rw [if_neg z, if_neg]
            rintro ⟨c, y1, y2⟩
            apply z
            unfold cat at y2
            omega
      refine loopN (M := fun n i h => X7_begins_l57 (fun (v1 : Int32) g => X7_begins_l89  zfuel v1 g) n (nI i) h) 64 (fun i h'' => (∀ k, k < 2766 → h'' 43 0 k = if k = 5 then -2 else if k = 11 ∨ k = 25 ∨ k = 39 ∨ k = 53 then -2 else if 254 ≤ k ∧ k < 254 + i then g 33 0 (k - 254) else nI 0) ∧ FrN g h'') (fun o => ∃ g', o = some (0, g') ∧ BegM (g 33 0) (g' 43 0) ∧ FrN g g') ?_ ?_ (i0 := 0) ⟨fun k hk => by rw [k1' k hk, if_neg (show ¬ (254 ≤ k ∧ k < 254 + 0) by omega)], k2⟩ (by omega) (zfuel_ge (by omega))
      · rintro n i h'' hi ⟨j1, j2⟩
        left
        have e33 : h'' 33 0 i = g 33 0 i := j2 _ _ _ (by decide)
        refine ⟨zU h'' 43 0 (254 + i) (g 33 0 i), ⟨fun k hk => ?_, j2.row _ _⟩, ?_⟩
        · by_cases z : k = 254 + i
          · rw [z, zU_self, if_neg (by omega), if_neg (by omega), if_pos (by omega), show 254 + i - 254 = i by omega]
          · rw [zU_ne _ _ (by omega), j1 k hk]
            by_cases z2 : 254 ≤ k ∧ k < 254 + i
            · rw [if_pos z2, if_pos (show 254 ≤ k ∧ k < 254 + (i + 1) by omega)]
            · rw [if_neg z2, if_neg (show ¬ (254 ≤ k ∧ k < 254 + (i + 1)) by omega)]
        · rw [X7_begins_l57.eq_2]
          simp (disch := omega) only [zc_some, zw_eq, zi_nI, nI_clamp, nI_add, nI_1, nI_lti, nI_inj, nI_ltz, nI_eq0, nI_0lt, nI_ne_m1, nI_ne_m2, nI_m1_ne, nI_m2_ne, if_true, if_false, zU_eq, zU_ne, Nat.add_zero, pk_mul, hi, e33]
      · rintro n h'' ⟨j1, j2⟩
        rw [X7_begins_l57.eq_2]
        simp (disch := omega) only [zc_some, zw_eq, zi_nI, nI_clamp, nI_add, nI_1, nI_lti, nI_inj, nI_ltz, nI_eq0, nI_0lt, nI_ne_m1, nI_ne_m2, nI_m1_ne, nI_m2_ne, if_true, if_false, zU_eq, zU_ne, Nat.add_zero, pk_mul, Nat.lt_irrefl]
        refine loopM (σ := Nat × zG) (fun n s => X7_begins_l89 n (nI (318 + 9 * s.1)) s.2) (fun s => s.1 ≤ 272 ∧ (∀ k, k < 2766 → s.2 43 0 k = if k = 5 then -2 else if k = 11 ∨ k = 25 ∨ k = 39 ∨ k = 53 then -2 else if 254 ≤ k ∧ k < 318 then g 33 0 (k - 254) else if 318 ≤ k ∧ (k - 318) % 9 = 0 ∧ k < 318 + 9 * s.1 then -2 else nI 0) ∧ FrN g s.2) (fun s => 272 - s.1) (fun o => ∃ g', o = some (0, g') ∧ BegM (g 33 0) (g' 43 0) ∧ FrN g g') ?_ zfuel (0, h'') ⟨Nat.zero_le _, fun k hk => ?_, j2⟩ (by simp only; exact zfuel_ge (by omega))
        · rintro n ⟨i, s⟩ ⟨i1, i2, i3⟩
          simp only at i1 i2 i3
          by_cases hi : i < 272
          · left
            refine ⟨(i + 1, zU s 43 0 (318 + 9 * i) (-2)), ⟨hi, fun k hk => ?_, i3.row _ _⟩, by simp only; omega, ?_⟩
            · simp only
              by_cases z : k = 318 + 9 * i
              · rw [z, zU_self, if_neg (by omega), if_neg (by omega), if_neg (by omega), if_pos (by omega)]
              · rw [zU_ne _ _ (by omega), i2 k hk]
                by_cases z2 : 318 ≤ k ∧ (k - 318) % 9 = 0 ∧ k < 318 + 9 * i
                · rw [if_pos z2, if_pos (show 318 ≤ k ∧ (k - 318) % 9 = 0 ∧ k < 318 + 9 * (i + 1) by omega)]
                · rw [if_neg z2, if_neg (show ¬ (318 ≤ k ∧ (k - 318) % 9 = 0 ∧ k < 318 + 9 * (i + 1)) by omega)]
            · rw [X7_begins_l89.eq_2]
              simp (disch := omega) only [zc_some, zw_eq, zi_nI, nI_clamp, nI_add, nI_1, nI_lti, nI_inj, nI_ltz, nI_eq0, nI_0lt, nI_ne_m1, nI_ne_m2, nI_m1_ne, nI_m2_ne, if_true, if_false, zU_eq, zU_ne, Nat.add_zero, pk_mul, show 318 + 9 * i < 2766 by omega, show 318 + 9 * i + 9 = 318 + 9 * (i + 1) by omega]
          · right
            have : i = 272 := by omega
            subst this
            rw [X7_begins_l89.eq_2]
            simp (disch := omega) only [zc_some, zw_eq, zi_nI, nI_clamp, nI_add, nI_1, nI_lti, nI_inj, nI_ltz, nI_eq0, nI_0lt, nI_ne_m1, nI_ne_m2, nI_m1_ne, nI_m2_ne, if_true, if_false, zU_eq, zU_ne, Nat.add_zero, pk_mul, Nat.lt_irrefl]
            refine ⟨s, rfl, fun k hk => ?_, i3⟩
            rw [i2 k hk]
            unfold begR
            by_cases z2 : 318 ≤ k ∧ (k - 318) % 9 = 0
            · rw [if_pos (show 318 ≤ k ∧ (k - 318) % 9 = 0 ∧ k < 318 + 9 * 272 by omega), if_pos z2]
            · rw [if_neg (show ¬ (318 ≤ k ∧ (k - 318) % 9 = 0 ∧ k < 318 + 9 * 272) by omega), if_neg z2]
        · simp only
          rw [j1 k hk, if_neg (show ¬ (318 ≤ k ∧ (k - 318) % 9 = 0 ∧ k < 318 + 9 * 0) by omega)]
    · by_cases z : k = 5
      · rw [z, zU_self, if_pos rfl]
      · rw [zU_ne _ _ (by omega), if_neg z, if_neg (by rintro ⟨c, y, -⟩; omega)]
        exact h1 k hk
theorem begR_pos (fst : Nat → Int32) {c s w f : Nat} (hf : f < 9) : begR fst (pos c s w + f) = if f = 0 then -2 else nI 0 := by
  unfold begR pos
  rw [if_neg (by omega), if_neg (by omega), if_neg (by omega)]
  by_cases z : f = 0
  · rw [if_pos (by omega), if_pos z]
  · rw [if_neg (by omega), if_neg z]
theorem begR_cat (fst : Nat → Int32) {c k : Nat} (hc : c < 4) (hk : k < 14) : begR fst (cat c k) = if k = 5 then -2 else nI 0 := by
  unfold begR cat
  rw [if_neg (by omega)]
  by_cases z : k = 5
  · rw [if_pos (by omega), if_pos z]
  · rw [if_neg (by omega), if_neg (by omega), if_neg (by omega), if_neg z]
theorem nAll_zero {so : Nat → Nat → Nat} {m : Rw} : ∀ n, (∀ c, c < n → m (cat c 0) = nI 0) → nAll so m n = 0 := by
  intro n
  induction n with
  | zero => intro _; rfl
  | succ n ih =>
    intro h
    unfold nAll
    rw [ih (fun c hc => h c (by omega)), h n (by omega), nI_clamp (by omega)]
    rfl
theorem BegM.RI {S W PL NC : Nat} {fst : Nat → Int32} {m : Rw} {len : Nat → Nat} {so wh : Nat → Nat → Nat} (hz : Siz S W PL NC) (h : BegM fst m) (hf : ∀ a, a < 64 → ∃ v, v < 1000 ∧ fst a = nI v) (hd : ∀ c, c < NC → WfD (so c) (wh c) PL (len c)) : RI S W PL NC len so wh m ∧ CMT NC len so m := by
  obtain ⟨p1, p2, p3, p4, p5, p6, p7, p8⟩ := hz
  have P : ∀ c s w f, c < 4 → s < 4 → w < 17 → f < 9 → m (pos c s w + f) = if f = 0 then -2 else nI 0 := fun c s w f a b d e => by
    rw [h _ (by have := pos_lt a b d; omega)]; exact begR_pos fst e
  have P0 : ∀ c s w, c < 4 → s < 4 → w < 17 → m (pos c s w) = -2 := fun c s w a b d => by
    have := P c s w 0 a b d (by omega)
    rwa [Nat.add_zero, if_pos rfl] at this
  have C : ∀ c k, c < 4 → k < 14 → m (cat c k) = if k = 5 then -2 else nI 0 := fun c k a b => by
    rw [h _ (by have := cat_lt a b; omega)]; exact begR_cat fst a b
  have m4 : m 4 = nI 0 := by rw [h 4 (by omega)]; rfl
  refine ⟨⟨⟨fun c s w a b d => Or.inl (P0 c s w (by omega) (by omega) (by omega)), fun c s w w' a b d e z => absurd (P0 c s w (by omega) (by omega) (by omega)) z, fun c s w a b d => ⟨Or.inl ?_, Or.inl ?_⟩, fun o w a b z => ?_, fun c s w k a b d e => ⟨0, by omega, ?_⟩, fun i a b => ?_⟩, hd, fun c hc => ?_, ?_⟩, ⟨0, by omega, m4, fun i hi => by omega⟩⟩
  · rw [P c s w 2 (by omega) (by omega) (by omega) (by omega), if_neg (by omega)]
  · rw [P c s w 3 (by omega) (by omega) (by omega) (by omega), if_neg (by omega)]
  · rw [P0 o _ w (by omega) (by have := Nat.mod_lt 16 p1; omega) (by omega)] at z
    exact absurd z.symm (by rw [nI_ne_m2 (by omega)]; exact id)
  · rw [Nat.add_assoc, P c s w (5 + k) (by omega) (by omega) (by omega) (by omega), if_neg (by omega)]
  · rw [h i (by omega)]
    unfold begR
    rw [if_neg (by omega), if_neg (by omega), if_pos ⟨a, b⟩]
    exact hf _ (by omega)
  · have hw := hd c hc
    refine ⟨0, 0, 0, by rw [C c 0 (by omega) (by omega), if_neg (by omega)], by omega, by rw [C c 6 (by omega) (by omega), if_neg (by omega)], by rw [C c 3 (by omega) (by omega), if_neg (by omega)], by omega, ⟨fun z => absurd rfl z, fun z => by cases z⟩, fun z => absurd rfl z, fun _ s w a b => ⟨?_, ?_⟩, ⟨0, by omega, by rw [C c 1 (by omega) (by omega), if_neg (by omega)]⟩, ⟨0, by omega, by rw [C c 2 (by omega) (by omega), if_neg (by omega)]⟩⟩
    · rw [P c s w 2 (by omega) (by omega) (by omega) (by omega), if_neg (by omega)]
    · rw [P c s w 3 (by omega) (by omega) (by omega) (by omega), if_neg (by omega)]
  · rw [m4, nAll_zero NC (fun c hc => by rw [C c 0 (by omega) (by omega), if_neg (by omega)])]
/-- what a run's begin, a run's copy may change -/
def FrD (r : Nat) (g g' : zG) : Prop := ∀ f i j, ¬ ofRun r f i → ¬ ((f = 8003 ∨ f = 9003) ∧ i = r) → g' f i j = g f i j
theorem FrD.rfl' (r : Nat) (g : zG) : FrD r g g := fun _ _ _ _ _ => rfl
theorem FrD.trans {r : Nat} {a b c : zG} (h1 : FrD r a b) (h2 : FrD r b c) : FrD r a c := fun f i j x y => (h2 f i j x y).trans (h1 f i j x y)
theorem FrC.D {r : Nat} {a b : zG} (h : FrC r a b) : FrD r a b := fun f i j x _ => h f i j x
/-- a core's cells at the start -/
def CoreZ (g : zG) (q : Nat) : Prop := (∀ p, p < 16 → g 22 q p = -2 ∧ g 23 q p = nI 0 ∧ g 24 q p = nI 0 ∧ g 25 q p = nI 0 ∧ g 26 q p = -2) ∧ g 1005 q 0 = nI 0 ∧ g 2005 q 0 = nI 0 ∧ g 3005 q 0 = nI 0 ∧ g 4005 q 0 = nI 0 ∧ g 5005 q 0 = nI 0 ∧ g 6005 q 0 = nI 0 ∧ g 7005 q 0 = -2 ∧ ∀ k, k < 7 → g 28 q k = nI 0
theorem X0_clear_ok (q : Nat) (g : zG) : ∃ g', X0_clear q g = some (0, g') ∧ (∀ p, p < 16 → g' 22 q p = -2 ∧ g' 23 q p = nI 0 ∧ g' 24 q p = nI 0 ∧ g' 25 q p = nI 0 ∧ g' 26 q p = -2) ∧ ∀ f i j, ¬ (i = q ∧ 22 ≤ f ∧ f ≤ 26) → g' f i j = g f i j := by
  unfold X0_clear
  refine loopN (M := fun n i h => X0_clear_l2 n q (nI i) h) 16 (fun i h => (∀ p, p < i → h 22 q p = -2 ∧ h 23 q p = nI 0 ∧ h 24 q p = nI 0 ∧ h 25 q p = nI 0 ∧ h 26 q p = -2) ∧ ∀ f i j, ¬ (i = q ∧ 22 ≤ f ∧ f ≤ 26) → h f i j = g f i j) (fun o => ∃ g', o = some (0, g') ∧ (∀ p, p < 16 → g' 22 q p = -2 ∧ g' 23 q p = nI 0 ∧ g' 24 q p = nI 0 ∧ g' 25 q p = nI 0 ∧ g' 26 q p = -2) ∧ ∀ f i j, ¬ (i = q ∧ 22 ≤ f ∧ f ≤ 26) → g' f i j = g f i j) ?_ ?_ (i0 := 0) ⟨fun p hp => by omega, fun _ _ _ _ => rfl⟩ (by omega) (zfuel_ge (by omega))
  · rintro n i h hi ⟨h1, h2⟩
    left
    refine ⟨cDrop h q i, ⟨fun p hp => ?_, fun f a j hf => ?_⟩, ?_⟩
    · by_cases z : p = i
      · rw [z]; exact cDrop_at h q i
      · rw [cDrop_out (by omega), cDrop_out (by omega), cDrop_out (by omega), cDrop_out (by omega), cDrop_out (by omega)]
        exact h1 p (by omega)
    · rw [cDrop_out (by omega)]; exact h2 f a j hf
    · have hd := X0_dropLine_ok q i h hi
      rw [X0_clear_l2.eq_2]
      simp (disch := omega) only [zc_some, zw_eq, zi_nI, nI_clamp, nI_add, nI_1, nI_lti, nI_inj, nI_ltz, nI_eq0, nI_0lt, nI_ne_m1, nI_ne_m2, nI_m1_ne, nI_m2_ne, if_true, if_false, zU_eq, zU_ne, Nat.add_zero, pk_mul, hi, hd]
      rfl
  · rintro n h hu
    rw [X0_clear_l2.eq_2]
    simp (disch := omega) only [zc_some, zw_eq, zi_nI, nI_clamp, nI_add, nI_1, nI_lti, nI_inj, nI_ltz, nI_eq0, nI_0lt, nI_ne_m1, nI_ne_m2, nI_m1_ne, nI_m2_ne, if_true, if_false, zU_eq, zU_ne, Nat.add_zero, pk_mul, Nat.lt_irrefl]
    exact ⟨h, rfl, hu⟩
theorem X1_clear_ok (q : Nat) (g : zG) : ∃ g', X1_clear q g = some (0, g') ∧ (g' 1005 q 0 = nI 0 ∧ g' 2005 q 0 = nI 0 ∧ g' 3005 q 0 = nI 0 ∧ g' 4005 q 0 = nI 0 ∧ g' 5005 q 0 = nI 0 ∧ g' 6005 q 0 = nI 0 ∧ g' 7005 q 0 = -2 ∧ ∀ k, k < 7 → g' 28 q k = nI 0) ∧ ∀ f i j, ¬ (i = q ∧ (f = 28 ∨ f = 1005 ∨ f = 2005 ∨ f = 3005 ∨ f = 4005 ∨ f = 5005 ∨ f = 6005 ∨ f = 7005)) → g' f i j = g f i j := by
  unfold X1_clear
  simp only [zw_eq]
  obtain ⟨G, hG⟩ : ∃ G, G = zU (zU (zU (zU (zU (zU (zU g 1005 q 0 (nI 0)) 2005 q 0 (nI 0)) 3005 q 0 (nI 0)) 4005 q 0 (nI 0)) 5005 q 0 (nI 0)) 6005 q 0 (nI 0)) 7005 q 0 (-2) := ⟨_, rfl⟩
  rw [← hG]
  have e : G 1005 q 0 = nI 0 ∧ G 2005 q 0 = nI 0 ∧ G 3005 q 0 = nI 0 ∧ G 4005 q 0 = nI 0 ∧ G 5005 q 0 = nI 0 ∧ G 6005 q 0 = nI 0 ∧ G 7005 q 0 = -2 := by
    rw [hG]
    simp (disch := omega) only [zU_ne, zU_eq]
    trivial
  have e2 : ∀ f i j, ¬ (i = q ∧ (f = 28 ∨ f = 1005 ∨ f = 2005 ∨ f = 3005 ∨ f = 4005 ∨ f = 5005 ∨ f = 6005 ∨ f = 7005)) → G f i j = g f i j := fun f i j hf => by
    rw [hG]
    simp (disch := omega) only [zU_ne]
  refine loopN (M := fun n i h => X1_clear_l38 n q (nI i) h) 7 (fun i h => (∀ k, k < i → h 28 q k = nI 0) ∧ ∀ f a j, ¬ (f = 28 ∧ a = q) → h f a j = G f a j) (fun o => ∃ g', o = some (0, g') ∧ (g' 1005 q 0 = nI 0 ∧ g' 2005 q 0 = nI 0 ∧ g' 3005 q 0 = nI 0 ∧ g' 4005 q 0 = nI 0 ∧ g' 5005 q 0 = nI 0 ∧ g' 6005 q 0 = nI 0 ∧ g' 7005 q 0 = -2 ∧ ∀ k, k < 7 → g' 28 q k = nI 0) ∧ ∀ f i j, ¬ (i = q ∧ (f = 28 ∨ f = 1005 ∨ f = 2005 ∨ f = 3005 ∨ f = 4005 ∨ f = 5005 ∨ f = 6005 ∨ f = 7005)) → g' f i j = g f i j) ?_ ?_ (i0 := 0) ⟨fun p hp => by omega, fun _ _ _ _ => rfl⟩ (by omega) (zfuel_ge (by omega))
  · rintro n i h hi ⟨h1, h2⟩
    left
    refine ⟨zU h 28 q i (nI 0), ⟨fun p hp => ?_, fun f a j hf => ?_⟩, ?_⟩
    · by_cases z : p = i
      · rw [z, zU_self]
      · rw [zU_ne _ _ (by omega)]; exact h1 p (by omega)
    · rw [zU_ne _ _ (by omega)]; exact h2 f a j hf
    · rw [X1_clear_l38.eq_2]
      simp (disch := omega) only [zc_some, zw_eq, zi_nI, nI_clamp, nI_add, nI_1, nI_lti, nI_inj, nI_ltz, nI_eq0, nI_0lt, nI_ne_m1, nI_ne_m2, nI_m1_ne, nI_m2_ne, if_true, if_false, zU_eq, zU_ne, Nat.add_zero, pk_mul, hi]
  · rintro n h ⟨h1, h2⟩
    rw [X1_clear_l38.eq_2]
    simp (disch := omega) only [zc_some, zw_eq, zi_nI, nI_clamp, nI_add, nI_1, nI_lti, nI_inj, nI_ltz, nI_eq0, nI_0lt, nI_ne_m1, nI_ne_m2, nI_m1_ne, nI_m2_ne, if_true, if_false, zU_eq, zU_ne, Nat.add_zero, pk_mul, Nat.lt_irrefl]
    obtain ⟨a1, a2, a3, a4, a5, a6, a7⟩ := e
    refine ⟨h, rfl, ⟨?_, ?_, ?_, ?_, ?_, ?_, ?_, h1⟩, fun f a j hf => by rw [h2 _ _ _ (by omega)]; exact e2 f a j hf⟩
    all_goals (rw [h2 _ _ _ (by omega)]; assumption)
theorem X3_startOver_ok {r : Nat} (v1 v2 : Int32) (g : zG) : ∃ g', X3_startOver r v1 v2 g = some (0, g') ∧ g' 8003 r 0 = v1 ∧ g' 9003 r 0 = v2 ∧ g' 7003 r 0 = nI 0 ∧ g' 10003 r 0 = nI 0 ∧ g' 11003 r 0 = -2 ∧ (∀ i, i < 64 → g' 17 r i = g 15 0 i) ∧ (∀ k, k < 3 → g' 20 r k = nI 0) ∧ (∀ c, c < 4 → CoreZ g' (4 * r + c)) ∧ FrD r g g' := by
  unfold X3_startOver
  simp only [zw_eq]
  obtain ⟨G, hG⟩ : ∃ G, G = zU (zU (zU (zU (zU (zU g 8003 r 0 v1) 9003 r 0 v2) 7003 r 0 (nI 0)) 10003 r 0 (nI 0)) 11003 r 0 (-2)) 12003 r 0 (nI 0) := ⟨_, rfl⟩
  rw [← hG]
  have e : G 8003 r 0 = v1 ∧ G 9003 r 0 = v2 ∧ G 7003 r 0 = nI 0 ∧ G 10003 r 0 = nI 0 ∧ G 11003 r 0 = -2 := by
    rw [hG]
    simp (disch := omega) only [zU_ne, zU_eq]
    trivial
  have e2 : FrD r g G := fun f i j hf hf2 => by
    unfold ofRun at hf
    rw [hG]
    simp (disch := omega) only [zU_ne]
  refine loopN (M := fun n i h => X3_startOver_l33 (fun (r0 : Nat) (v3 : Int32) g => X3_startOver_l72 (fun (r0 : Nat) (v3 : Int32) g => X3_startOver_l92  zfuel r0 v3 g) zfuel r0 v3 g) n r (nI i) h) 68 (fun i h => (∀ k, k < i → k < 64 → h 17 r k = g 15 0 k) ∧ ∀ f a j, ¬ (f = 17 ∧ a = r) → h f a j = G f a j) (fun o => ∃ g', o = some (0, g') ∧ g' 8003 r 0 = v1 ∧ g' 9003 r 0 = v2 ∧ g' 7003 r 0 = nI 0 ∧ g' 10003 r 0 = nI 0 ∧ g' 11003 r 0 = -2 ∧ (∀ i, i < 64 → g' 17 r i = g 15 0 i) ∧ (∀ k, k < 3 → g' 20 r k = nI 0) ∧ (∀ c, c < 4 → CoreZ g' (4 * r + c)) ∧ FrD r g g') ?_ ?_ (i0 := 0) ⟨fun k hk => by omega, fun _ _ _ _ => rfl⟩ (by omega) (zfuel_ge (by omega))
  · rintro n i h hi ⟨h1, h2⟩
    left
    have e15 : h 15 0 i = g 15 0 i := by rw [h2 _ _ _ (by omega)]; exact e2 _ _ _ (by unfold ofRun; omega) (by omega)
    refine ⟨zU h 17 r i (if i < 64 then g 15 0 i else nI 0), ⟨fun k hk hk2 => ?_, fun f a j hf => ?_⟩, ?_⟩
    · by_cases z : k = i
      · rw [z, zU_self, if_pos (by omega)]
      · rw [zU_ne _ _ (by omega)]; exact h1 k (by omega) hk2
    · rw [zU_ne _ _ (by omega)]; exact h2 f a j hf
    · rw [X3_startOver_l33.eq_2]
      unfold X3_startOver_b63
      by_cases z : i < 64
      · simp (disch := omega) only [zc_some, zw_eq, zi_nI, nI_clamp, nI_add, nI_1, nI_lti, nI_inj, nI_ltz, nI_eq0, nI_0lt, nI_ne_m1, nI_ne_m2, nI_m1_ne, nI_m2_ne, if_true, if_false, zU_eq, zU_ne, Nat.add_zero, pk_mul, hi, z, e15]
      · simp (disch := omega) only [zc_some, zw_eq, zi_nI, nI_clamp, nI_add, nI_1, nI_lti, nI_inj, nI_ltz, nI_eq0, nI_0lt, nI_ne_m1, nI_ne_m2, nI_m1_ne, nI_m2_ne, if_true, if_false, zU_eq, zU_ne, Nat.add_zero, pk_mul, hi, z]
  · rintro n h ⟨h1, h2⟩
    rw [X3_startOver_l33.eq_2]
    simp (disch := omega) only [zc_some, zw_eq, zi_nI, nI_clamp, nI_add, nI_1, nI_lti, nI_inj, nI_ltz, nI_eq0, nI_0lt, nI_ne_m1, nI_ne_m2, nI_m1_ne, nI_m2_ne, if_true, if_false, zU_eq, zU_ne, Nat.add_zero, pk_mul, Nat.lt_irrefl]
    refine loopN (M := fun n i h => X3_startOver_l72 (fun (r0 : Nat) (v3 : Int32) g => X3_startOver_l92  zfuel r0 v3 g) n r (nI i) h) 3 (fun i h' => (∀ k, k < i → h' 20 r k = nI 0) ∧ ∀ f a j, ¬ (f = 20 ∧ a = r) → h' f a j = h f a j) (fun o => ∃ g', o = some (0, g') ∧ g' 8003 r 0 = v1 ∧ g' 9003 r 0 = v2 ∧ g' 7003 r 0 = nI 0 ∧ g' 10003 r 0 = nI 0 ∧ g' 11003 r 0 = -2 ∧ (∀ i, i < 64 → g' 17 r i = g 15 0 i) ∧ (∀ k, k < 3 → g' 20 r k = nI 0) ∧ (∀ c, c < 4 → CoreZ g' (4 * r + c)) ∧ FrD r g g') ?_ ?_ (i0 := 0) ⟨fun k hk => by omega, fun _ _ _ _ => rfl⟩ (by omega) (zfuel_ge (by omega))
    · rintro n i h' hi ⟨k1, k2⟩
      left
      refine ⟨zU h' 20 r i (nI 0), ⟨fun k hk => ?_, fun f a j hf => ?_⟩, ?_⟩
      · by_cases z : k = i
        · rw [z, zU_self]
        · rw [zU_ne _ _ (by omega)]; exact k1 k (by omega)
      · rw [zU_ne _ _ (by omega)]; exact k2 f a j hf
      · rw [X3_startOver_l72.eq_2]
        simp (disch := omega) only [zc_some, zw_eq, zi_nI, nI_clamp, nI_add, nI_1, nI_lti, nI_inj, nI_ltz, nI_eq0, nI_0lt, nI_ne_m1, nI_ne_m2, nI_m1_ne, nI_m2_ne, if_true, if_false, zU_eq, zU_ne, Nat.add_zero, pk_mul, hi]
    · rintro n h' ⟨k1, k2⟩
      rw [X3_startOver_l72.eq_2]
      simp (disch := omega) only [zc_some, zw_eq, zi_nI, nI_clamp, nI_add, nI_1, nI_lti, nI_inj, nI_ltz, nI_eq0, nI_0lt, nI_ne_m1, nI_ne_m2, nI_m1_ne, nI_m2_ne, if_true, if_false, zU_eq, zU_ne, Nat.add_zero, pk_mul, Nat.lt_irrefl]
      refine loopN (M := fun n i h => X3_startOver_l92 n r (nI i) h) 4 (fun i h'' => (∀ c, c < i → CoreZ h'' (4 * r + c)) ∧ ∀ f a j, ¬ (4 * r ≤ a ∧ a < 4 * r + 4 ∧ ((22 ≤ f ∧ f ≤ 28) ∨ f = 1005 ∨ f = 2005 ∨ f = 3005 ∨ f = 4005 ∨ f = 5005 ∨ f = 6005 ∨ f = 7005)) → h'' f a j = h' f a j) (fun o => ∃ g', o = some (0, g') ∧ g' 8003 r 0 = v1 ∧ g' 9003 r 0 = v2 ∧ g' 7003 r 0 = nI 0 ∧ g' 10003 r 0 = nI 0 ∧ g' 11003 r 0 = -2 ∧ (∀ i, i < 64 → g' 17 r i = g 15 0 i) ∧ (∀ k, k < 3 → g' 20 r k = nI 0) ∧ (∀ c, c < 4 → CoreZ g' (4 * r + c)) ∧ FrD r g g') ?_ ?_ (i0 := 0) ⟨fun k hk => by omega, fun _ _ _ _ => rfl⟩ (by omega) (zfuel_ge (by omega))
      · rintro n i h'' hi ⟨j1, j2⟩
        left
        obtain ⟨ga, a1, a2, a3⟩ := X0_clear_ok (4 * r + i) h''
        obtain ⟨gb, b1, b2, b3⟩ := X1_clear_ok (4 * r + i) ga
        refine ⟨gb, ⟨fun c hc => ?_, fun f a j hf => ?_⟩, ?_⟩
        · by_cases z : c = i
          · subst z
            refine ⟨fun p hp => ?_, b2⟩
            rw [b3 _ _ _ (by omega), b3 _ _ _ (by omega), b3 _ _ _ (by omega), b3 _ _ _ (by omega), b3 _ _ _ (by omega)]
            exact a2 p hp
          · obtain ⟨y1, y2, y3, y4, y5, y6, y7, y8, y9⟩ := j1 c (by omega)
            have ee : ∀ f j, gb f (4 * r + c) j = h'' f (4 * r + c) j := fun f j => by rw [b3 _ _ _ (by omega), a3 _ _ _ (by omega)]
            unfold CoreZ
            simp only [ee]
            exact ⟨y1, y2, y3, y4, y5, y6, y7, y8, y9⟩
        · rw [b3 _ _ _ (by omega), a3 _ _ _ (by omega)]; exact j2 f a j hf
        · rw [X3_startOver_l92.eq_2]
          simp (disch := omega) only [zc_some, zw_eq, zi_nI, nI_clamp, nI_add, nI_1, nI_lti, nI_inj, nI_ltz, nI_eq0, nI_0lt, nI_ne_m1, nI_ne_m2, nI_m1_ne, nI_m2_ne, if_true, if_false, zU_eq, zU_ne, Nat.add_zero, pk_mul, hi, a1, b1]
      · rintro n h'' ⟨j1, j2⟩
        rw [X3_startOver_l92.eq_2]
        simp (disch := omega) only [zc_some, zw_eq, zi_nI, nI_clamp, nI_add, nI_1, nI_lti, nI_inj, nI_ltz, nI_eq0, nI_0lt, nI_ne_m1, nI_ne_m2, nI_m1_ne, nI_m2_ne, if_true, if_false, zU_eq, zU_ne, Nat.add_zero, pk_mul, Nat.lt_irrefl]
        obtain ⟨y1, y2, y3, y4, y5⟩ := e
        refine ⟨h'', rfl, ?_, ?_, ?_, ?_, ?_, fun i hi => ?_, fun k hk => ?_, j1, fun f a j hf hf2 => ?_⟩
        · rw [j2 _ _ _ (by omega), k2 _ _ _ (by omega), h2 _ _ _ (by omega)]; exact y1
        · rw [j2 _ _ _ (by omega), k2 _ _ _ (by omega), h2 _ _ _ (by omega)]; exact y2
        · rw [j2 _ _ _ (by omega), k2 _ _ _ (by omega), h2 _ _ _ (by omega)]; exact y3
        · rw [j2 _ _ _ (by omega), k2 _ _ _ (by omega), h2 _ _ _ (by omega)]; exact y4
        · rw [j2 _ _ _ (by omega), k2 _ _ _ (by omega), h2 _ _ _ (by omega)]; exact y5
        · rw [j2 _ _ _ (by omega), k2 _ _ _ (by omega)]; exact h1 i (by omega) hi
        · rw [j2 _ _ _ (by omega)]; exact k1 k hk
        · have e2' := e2 f a j hf hf2
          unfold ofRun at hf
          rw [j2 _ _ _ (by omega), k2 _ _ _ (by omega), h2 _ _ _ (by omega)]; exact e2'
/-- both begun -/
theorem Sim_start {S W PL NC r : Nat} {g : zG} {m : Rw} {fst : Nat → Int32} (hz : Siz4 S W PL NC) (hm : BegM fst m) (h7 : g 7003 r 0 = nI 0) (h10 : g 10003 r 0 = nI 0) (h11 : g 11003 r 0 = -2) (h17 : ∀ i, i < 64 → g 17 r i = fst i) (h20 : ∀ k, k < 3 → g 20 r k = nI 0) (hc : ∀ c, c < 4 → CoreZ g (4 * r + c)) : Sim S W PL NC r g m := by
  obtain ⟨p1, p2, p3, p4, p5, p6, p7, p8⟩ := id hz
  have h16 := pl_16 hz
  have P : ∀ c s w f, c < 4 → s < 4 → w < 17 → f < 9 → m (pos c s w + f) = if f = 0 then -2 else nI 0 := fun c s w f a b d e => by
    rw [hm _ (by have := pos_lt a b d; omega)]; exact begR_pos fst e
  have P0 : ∀ c s w, c < 4 → s < 4 → w < 17 → m (pos c s w) = -2 := fun c s w a b d => by
    have := P c s w 0 a b d (by omega)
    rwa [Nat.add_zero, if_pos rfl] at this
  have C : ∀ c k, c < 4 → k < 14 → m (cat c k) = if k = 5 then -2 else nI 0 := fun c k a b => by
    rw [hm _ (by have := cat_lt a b; omega)]; exact begR_cat fst a b
  refine ⟨fun c s w a b d _ => ?_, fun c p a b d => ((hc c (by omega)).1 p d).1, fun c a => ?_, ⟨fun a ha => ?_, fun k hk => ?_, ⟨0, by omega, ?_, h7, fun i hi => by omega⟩, ?_, ?_⟩, fun c a b => ⟨fun p hp => ((hc c b).1 p hp).1, (hc c b).2.2.2.2.2.2.2.2⟩⟩
  · have hlt := pl_lt b d
    obtain ⟨y1, y2, y3, y4, y5⟩ := (hc c (by omega)).1 (s * W + w) (by omega)
    have q0 := P0 c s w (by omega) (by omega) (by omega)
    unfold PlS
    rw [y1, y2, y3, y4, y5, q0, P c s w 1 (by omega) (by omega) (by omega) (by omega), P c s w 2 (by omega) (by omega) (by omega) (by omega), P c s w 3 (by omega) (by omega) (by omega) (by omega), if_neg (by omega), if_neg (by omega), if_neg (by omega)]
    exact ⟨rfl, rfl, rfl, rfl, fun _ => ⟨rfl, rfl⟩, fun z => absurd rfl z, fun z => absurd rfl z⟩
  · obtain ⟨-, y1, y2, y3, y4, y5, y6, y7, y8⟩ := hc c (by omega)
    unfold NuS
    rw [y1, y2, y3, y4, y5, y6, y7, C c 0 (by omega) (by omega), C c 1 (by omega) (by omega), C c 2 (by omega) (by omega), C c 3 (by omega) (by omega), C c 4 (by omega) (by omega), C c 5 (by omega) (by omega), C c 6 (by omega) (by omega)]
    exact ⟨rfl, rfl, rfl, rfl, rfl, rfl, rfl, fun k hk => by rw [y8 k hk, C c (7 + k) (by omega) (by omega), if_neg (by omega)]⟩
  · rw [h17 a (by omega), hm _ (by omega)]
    unfold begR
    rw [if_neg (by omega), if_neg (by omega), if_pos (by omega), show 254 + a - 254 = a by omega]
  · rw [h20 k hk, hm _ (by omega)]
    unfold begR
    rw [if_neg (by omega), if_neg (by omega), if_neg (by omega), if_neg (by omega)]
  · rw [hm _ (by omega)]; rfl
  · rw [h11, hm _ (by omega)]; rfl
  · rw [h10, hm _ (by omega)]; rfl
