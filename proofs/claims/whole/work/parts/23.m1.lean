/-! ===== the reference's steps, as relations of its row before and behind ===== -/
abbrev Rw : Type := Nat → Int32
theorem zU_row (g : zG) (j : Nat) (v : Int32) : zU g 43 0 j v 43 0 = upd (g 43 0) j v := by
  funext i
  simp [zU, upd]
theorem zU_row' (g : zG) (f i j : Nat) (v : Int32) (h : f ≠ 43) : zU g f i j v 43 0 = g 43 0 := by
  funext k
  rw [zU_ne _ _ (fun z => h z.1.symm)]
theorem upd_eq {m : Rw} {i j : Nat} {v : Int32} (h : j = i) : upd m i v j = v := by simp [upd, h]
theorem upd_ne {m : Rw} {i j : Nat} {v : Int32} (h : ¬ j = i) : upd m i v j = m j := by simp [upd, h]
/-- all but the row and 'ended' stay -/
def FrM (g g' : zG) : Prop := ∀ f i j, f ≠ 43 → f ≠ 38007 → g' f i j = g f i j
theorem FrM.rfl' (g : zG) : FrM g g := fun _ _ _ _ _ => rfl
theorem FrM.trans {a b c : zG} (h1 : FrM a b) (h2 : FrM b c) : FrM a c := fun f i j x y => (h2 f i j x y).trans (h1 f i j x y)
theorem FrM.row {a b : zG} (h : FrM a b) (j : Nat) (v : Int32) : FrM a (zU b 43 0 j v) := fun f i k x y => by
  rw [zU_ne _ _ (fun z => x z.1)]; exact h f i k x y
theorem FrM.end' {a b : zG} (h : FrM a b) (v : Int32) : FrM a (zU b 38007 0 0 v) := fun f i k x y => by
  rw [zU_ne _ _ (fun z => y z.1)]; exact h f i k x y
/-- all but the row stays -/
def FrN (g g' : zG) : Prop := ∀ f i j, f ≠ 43 → g' f i j = g f i j
theorem FrN.rfl' (g : zG) : FrN g g := fun _ _ _ _ => rfl
theorem FrN.trans {a b c : zG} (h1 : FrN a b) (h2 : FrN b c) : FrN a c := fun f i j x => (h2 f i j x).trans (h1 f i j x)
theorem FrN.row {a b : zG} (h : FrN a b) (j : Nat) (v : Int32) : FrN a (zU b 43 0 j v) := fun f i k x => by
  rw [zU_ne _ _ (fun z => x z.1)]; exact h f i k x
theorem FrN.trans' {a b c : zG} (h2 : FrN b c) (h1 : FrN a b) : FrN a c := h1.trans h2
theorem FrN.M {a b : zG} (h : FrN a b) : FrM a b := fun f i j x _ => h f i j x
theorem MPar.fr {S W PL NC : Nat} {g g' : zG} (h : MPar S W PL NC g) (hf : FrM g g') : MPar S W PL NC g' :=
  ⟨h.1, by rw [hf _ _ _ (by decide) (by decide)]; exact h.2.1, by rw [hf _ _ _ (by decide) (by decide)]; exact h.2.2.1, by rw [hf _ _ _ (by decide) (by decide)]; exact h.2.2.2.1, by rw [hf _ _ _ (by decide) (by decide)]; exact h.2.2.2.2⟩
def rEmp (m : Rw) (q : Nat) : Rw := upd (upd (upd (upd (upd m q (-2)) (q + 1) (nI 0)) (q + 2) (nI 0)) (q + 3) (nI 0)) (q + 4) (nI 0)
theorem sEmp_row (g : zG) (q : Nat) : sEmp g q 43 0 = rEmp (g 43 0) q := by
  unfold sEmp rEmp
  simp only [zU_row]
theorem sEmp_fr (g : zG) (q : Nat) : FrN g (sEmp g q) := ((((((FrN.rfl' g).row _ _).row _ _).row _ _).row _ _).row _ _)
/-- a line written to memory -/
def rWB (PL : Nat) (m : Rw) (q : Nat) : Rw := fun i =>
  if m q ≠ nI 16 ∧ 254 + PL * (m q).toNatClampNeg ≤ i ∧ i < 254 + PL * (m q).toNatClampNeg + PL then m (q + 5 + (i - (254 + PL * (m q).toNatClampNeg))) else if i = 2 then m 2 + nI 1 else m i
theorem mul_le_64 {PL ℓ : Nat} (h : PL ≤ 4) (hl : ℓ < 16) : PL * ℓ + PL ≤ 64 := by
  have : PL * (ℓ + 1) ≤ 4 * 16 := Nat.mul_le_mul h hl
  rw [Nat.mul_add, Nat.mul_one] at this
  omega
theorem X7_writesBack_ok {S W PL NC : Nat} {g : zG} (hP : MPar S W PL NC g) {q ℓ : Nat} (hq : q + 9 ≤ 2766) (hq0 : 318 ≤ q) (hl : g 43 0 q = nI ℓ) (hℓ : ℓ ≤ 16) : ∃ g', X7_writesBack (nI q) g = some (0, g') ∧ g' 43 0 = rWB PL (g 43 0) q ∧ FrN g g' := by
  obtain ⟨⟨p1, p2, p3, p4, p5, p6, p7, p8⟩, q1, q2, q3, q4⟩ := hP
  have hcl : (g 43 0 q).toNatClampNeg = ℓ := by rw [hl]; exact nI_clamp (by omega)
  unfold X7_writesBack
  by_cases e : ℓ = 16
  · refine ⟨zU g 43 0 2 (g 43 0 2 + nI 1), ?_, ?_, (FrN.rfl' g).row _ _⟩
    · simp (disch := omega) only [zc_some, zw_eq, zi_nI, nI_clamp, nI_add, nI_1, nI_lti, nI_inj, nI_ltz, nI_eq0, nI_0lt, nI_ne_m1, nI_ne_m2, nI_m1_ne, nI_m2_ne, if_true, if_false, zU_eq, zU_ne, Nat.add_zero, pk_mul, hl, e]
    · rw [zU_row]
      funext i
      unfold rWB upd
      by_cases z2 : i = 2
      · subst z2; simp [hl, e]
      · simp [hl, e, z2]
  · have h16 : ℓ < 16 := by omega
    have hml := mul_le_64 p6 h16
    simp (disch := omega) only [zc_some, zw_eq, zi_nI, nI_clamp, nI_add, nI_1, nI_lti, nI_inj, nI_ltz, nI_eq0, nI_0lt, nI_ne_m1, nI_ne_m2, nI_m1_ne, nI_m2_ne, if_true, if_false, zU_eq, zU_ne, Nat.add_zero, pk_mul, hl, e]
    refine loopN (M := fun n i h => X7_writesBack_l26 n (nI q) (nI i) h) PL (fun k h => (∀ i, h 43 0 i = if 254 + PL * ℓ ≤ i ∧ i < 254 + PL * ℓ + k then g 43 0 (q + 5 + (i - (254 + PL * ℓ))) else if i = 2 then g 43 0 2 + nI 1 else g 43 0 i) ∧ FrN g h) (fun o => ∃ g', o = some (0, g') ∧ g' 43 0 = rWB PL (g 43 0) q ∧ FrN g g') ?_ ?_ (i0 := 0) ⟨?_, (FrN.rfl' g).row _ _⟩ (by omega) (zfuel_ge (by omega))
    · rintro n k h hk ⟨he, hf⟩
      left
      have a1 : h 31 0 2 = nI PL := by rw [hf _ _ _ (by decide)]; exact q3
      have a2 : h 43 0 q = nI ℓ := by
        rw [he, if_neg (by omega), if_neg (by omega), hl]
      have a3 : h 43 0 (q + 5 + k) = g 43 0 (q + 5 + k) := by
        rw [he, if_neg (by omega), if_neg (by omega)]
      refine ⟨zU h 43 0 (254 + PL * ℓ + k) (g 43 0 (q + 5 + k)), ⟨?_, hf.row _ _⟩, ?_⟩
      · intro i
        rw [zU_row]
        unfold upd
        by_cases z : i = 254 + PL * ℓ + k
        · rw [if_pos z, if_pos (by omega)]
          congr 1
          omega
        · rw [if_neg z, he]
          by_cases z2 : 254 + PL * ℓ ≤ i ∧ i < 254 + PL * ℓ + k
          · rw [if_pos z2, if_pos (by omega)]
          · rw [if_neg z2, if_neg (show ¬ (254 + PL * ℓ ≤ i ∧ i < 254 + PL * ℓ + (k + 1)) by omega)]
      · rw [X7_writesBack_l26.eq_2]
        simp (disch := omega) only [zc_some, zw_eq, zi_nI, nI_clamp, nI_add, nI_1, nI_lti, nI_inj, nI_ltz, nI_eq0, nI_0lt, nI_ne_m1, nI_ne_m2, nI_m1_ne, nI_m2_ne, if_true, if_false, zU_eq, zU_ne, Nat.add_zero, pk_mul, a1, a2, a3, hk]
    · rintro n h ⟨he, hf⟩
      have a1 : h 31 0 2 = nI PL := by rw [hf _ _ _ (by decide)]; exact q3
      rw [X7_writesBack_l26.eq_2]
      simp (disch := omega) only [zc_some, zw_eq, zi_nI, nI_clamp, nI_add, nI_1, nI_lti, nI_inj, nI_ltz, nI_eq0, nI_0lt, nI_ne_m1, nI_ne_m2, nI_m1_ne, nI_m2_ne, if_true, if_false, zU_eq, zU_ne, Nat.add_zero, pk_mul, a1, Nat.lt_irrefl]
      refine ⟨h, rfl, ?_, hf⟩
      funext i
      rw [he]
      unfold rWB
      rw [hcl]
      by_cases z2 : 254 + PL * ℓ ≤ i ∧ i < 254 + PL * ℓ + PL
      · rw [if_pos z2, if_pos ⟨by rw [hl]; exact fun z => e (by rw [nI_inj (by omega) (by omega)] at z; exact z), z2⟩]
      · rw [if_neg z2, if_neg (show ¬ (g 43 0 q ≠ nI 16 ∧ 254 + PL * ℓ ≤ i ∧ i < 254 + PL * ℓ + PL) from fun z => z2 z.2)]
    · intro i
      rw [zU_row]
      unfold upd
      rw [if_neg (show ¬ (254 + PL * ℓ ≤ i ∧ i < 254 + PL * ℓ + 0) by omega)]
/-- a core's marks gone: of a try that ended (drop) or is committed -/
def UnR (S W c : Nat) (drop : Bool) (m m' : Rw) : Prop :=
  (∀ s w, s < S → w < W → if drop = true ∧ m (pos c s w + 3) = nI 1 then m' (pos c s w) = -2 ∧ m' (pos c s w + 1) = nI 0 ∧ m' (pos c s w + 2) = nI 0 ∧ m' (pos c s w + 3) = nI 0 ∧ m' (pos c s w + 4) = nI 0
    else m' (pos c s w) = m (pos c s w) ∧ m' (pos c s w + 1) = m (pos c s w + 1) ∧ m' (pos c s w + 2) = nI 0 ∧ m' (pos c s w + 3) = (if drop = true then m (pos c s w + 3) else nI 0) ∧ m' (pos c s w + 4) = m (pos c s w + 4)) ∧
  ∀ i, (∀ s w f, s < S → w < W → f < 5 → i ≠ pos c s w + f) → m' i = m i
/-! ends: a try ends -/
theorem pos_ne {c s w c' s' w' : Nat} {f f' : Nat} (hs : s < 4) (hs' : s' < 4) (hw : w < 17) (hw' : w' < 17) (hf : f < 9) (hf' : f' < 9) : pos c s w + f = pos c' s' w' + f' ↔ c = c' ∧ s = s' ∧ w = w' ∧ f = f' := by
  unfold pos
  constructor
  · intro h
    have h1 : f = f' := by omega
    have h2 : 68 * c + 17 * s + w = 68 * c' + 17 * s' + w' := by omega
    omega
  · rintro ⟨rfl, rfl, rfl, rfl⟩; rfl
/-- what the marks' loop has done before the place (s, w) -/
def UnI (S W c : Nat) (s0 w0 : Nat) (m m' : Rw) : Prop :=
  (∀ s w, s < S → w < W → if s < s0 ∨ (s = s0 ∧ w < w0) then (if m (pos c s w + 3) = nI 1 then m' (pos c s w) = -2 ∧ m' (pos c s w + 1) = nI 0 ∧ m' (pos c s w + 2) = nI 0 ∧ m' (pos c s w + 3) = nI 0 ∧ m' (pos c s w + 4) = nI 0
    else m' (pos c s w) = m (pos c s w) ∧ m' (pos c s w + 1) = m (pos c s w + 1) ∧ m' (pos c s w + 2) = nI 0 ∧ m' (pos c s w + 3) = m (pos c s w + 3) ∧ m' (pos c s w + 4) = m (pos c s w + 4))
    else ∀ f, f < 5 → m' (pos c s w + f) = m (pos c s w + f)) ∧
  ∀ i, (∀ s w f, s < S → w < W → f < 5 → i ≠ pos c s w + f) → m' i = m i
theorem UnI_step {S W c s w : Nat} {m m' m'' : Rw} (hS : S ≤ 4) (hW : W ≤ 17) (hs : s < S) (hw : w < W) (h : UnI S W c s w m m') (h' : m'' = upd (if m' (pos c s w + 3) = nI 1 then rEmp m' (pos c s w) else m') (pos c s w + 2) (nI 0)) : UnI S W c s (w + 1) m m'' := by
  have key : ∀ s' w' f, s' < S → w' < W → f < 5 → ¬ (s' = s ∧ w' = w) → m'' (pos c s' w' + f) = m' (pos c s' w' + f) := by
    intro s' w' f a1 a2 a3 a4
    have ne : ∀ f', f' < 5 → ¬ pos c s' w' + f = pos c s w + f' := fun f' z q => by
      rw [pos_ne (by omega) (by omega) (by omega) (by omega) (by omega) (by omega)] at q
      exact a4 ⟨q.2.1, q.2.2.1⟩
    have n0 := ne 0 (by omega)
    have n1 := ne 1 (by omega)
    have n2 := ne 2 (by omega)
    have n3 := ne 3 (by omega)
    have n4 := ne 4 (by omega)
    rw [Nat.add_zero] at n0
    rw [h', upd_ne n2]
    split
    · unfold rEmp
      rw [upd_ne n4, upd_ne n3, upd_ne n2, upd_ne n1, upd_ne n0]
    · rfl
  have hsw := h.1 s w hs hw
  rw [if_neg (by omega)] at hsw
  refine ⟨fun s' w' a1 a2 => ?_, fun i hi => ?_⟩
  · have hz := h.1 s' w' a1 a2
    by_cases e : s' = s ∧ w' = w
    · obtain ⟨rfl, rfl⟩ := e
      rw [if_pos (by omega)]
      have h3 := hsw 3 (by omega)
      by_cases hm : m (pos c s' w' + 3) = nI 1
      · rw [if_pos hm]
        rw [h', if_pos (by rw [h3]; exact hm)]
        unfold rEmp
        refine ⟨?_, ?_, ?_, ?_, ?_⟩ <;> simp [upd]
      · rw [if_neg hm]
        rw [h', if_neg (by rw [h3]; exact hm)]
        refine ⟨?_, ?_, ?_, ?_, ?_⟩
        · rw [upd_ne (by omega)]; exact hsw 0 (by omega)
        · rw [upd_ne (by omega)]; exact hsw 1 (by omega)
        · simp [upd]
        · rw [upd_ne (by omega)]; exact hsw 3 (by omega)
        · rw [upd_ne (by omega)]; exact hsw 4 (by omega)
    · have k0 := key s' w' 0 a1 a2 (by omega) e
      have k1 := key s' w' 1 a1 a2 (by omega) e
      have k2 := key s' w' 2 a1 a2 (by omega) e
      have k3 := key s' w' 3 a1 a2 (by omega) e
      have k4 := key s' w' 4 a1 a2 (by omega) e
      by_cases z : s' < s ∨ (s' = s ∧ w' < w)
      · rw [if_pos z] at hz
        rw [if_pos (by omega)]
        rw [Nat.add_zero] at k0
        rw [k0, k1, k2, k3, k4]
        exact hz
      · rw [if_neg z] at hz
        rw [if_neg (by omega)]
        intro f hf
        rw [key s' w' f a1 a2 hf e]
        exact hz f hf
  · have hx := h.2 i hi
    have n0 := hi s w 0 hs hw (by omega)
    have n1 := hi s w 1 hs hw (by omega)
    have n2 := hi s w 2 hs hw (by omega)
    have n3 := hi s w 3 hs hw (by omega)
    have n4 := hi s w 4 hs hw (by omega)
    rw [Nat.add_zero] at n0
    rw [h', upd_ne n2]
    split
    · unfold rEmp
      rw [upd_ne n4, upd_ne n3, upd_ne n2, upd_ne n1, upd_ne n0]
      exact hx
    · exact hx
theorem UnI_next {S W c s : Nat} {m m' : Rw} (h : UnI S W c s W m m') : UnI S W c (s + 1) 0 m m' := by
  refine ⟨fun s' w' a1 a2 => ?_, h.2⟩
  have hz := h.1 s' w' a1 a2
  by_cases z : s' < s ∨ (s' = s ∧ w' < W)
  · rw [if_pos z] at hz; rw [if_pos (by omega)]; exact hz
  · rw [if_neg z] at hz; rw [if_neg (by omega)]; exact hz
theorem UnI_end {S W c : Nat} {m m' : Rw} (h : UnI S W c S 0 m m') : UnR S W c true m m' := by
  refine ⟨fun s w a1 a2 => ?_, h.2⟩
  have hz := h.1 s w a1 a2
  rw [if_pos (by omega)] at hz
  by_cases z : m (pos c s w + 3) = nI 1
  · rw [if_pos z] at hz; rw [if_pos ⟨rfl, z⟩]; exact hz
  · rw [if_neg z] at hz; rw [if_neg (fun q => z q.2)]; exact hz
/-- a try of a core ends by a cause: 0 conflict, 1 capacity, 2 interrupt, 3 lock -/
def rEnds (c cause : Nat) (tries : Int32) (m : Rw) : Rw :=
  let m2 := upd (upd (upd (upd (upd m (cat c 1) (nI 0)) (cat c 2) (nI 0)) (cat c 0) (m (cat c 6))) (cat c 3) (nI 0)) (cat c (7 + cause)) (m (cat c (7 + cause)) + nI 1)
  if cause = 0 then upd m2 (cat c 4) (m2 (cat c 4) + nI 1) else if cause = 1 then upd m2 (cat c 4) tries else m2
def EndsR (S W c cause : Nat) (tries : Int32) (m m' : Rw) : Prop := ∃ m1, UnR S W c true m m1 ∧ m' = rEnds c cause tries m1
def bitc (c : Nat) : Int32 := nI 1 <<< (nI c &&& 31)
theorem X7_ends_ok {S W PL NC : Nat} {g : zG} (hP : MPar S W PL NC g) {c cause : Nat} (hc : c < 4) (hk : cause < 4) : ∃ g', X7_ends (nI c) (nI cause) g = some (0, g') ∧ EndsR S W c cause (g 36007 0 0) (g 43 0) (g' 43 0) ∧ FrM g g' ∧ g' 38007 0 0 = g 38007 0 0 ||| bitc c := by
  obtain ⟨⟨p1, p2, p3, p4, p5, p6, p7, p8⟩, q1, q2, q3, q4⟩ := hP
  unfold X7_ends
  refine loopN (M := fun n i h => X7_ends_l2 (fun (v1 : Int32) (v2 : Int32) g => X7_ends_b163 v1 v2 g) n (nI c) (nI cause) (nI i) h) S (fun s h => UnI S W c s 0 (g 43 0) (h 43 0) ∧ FrN g h) (fun o => ∃ g', o = some (0, g') ∧ EndsR S W c cause (g 36007 0 0) (g 43 0) (g' 43 0) ∧ FrM g g' ∧ g' 38007 0 0 = g 38007 0 0 ||| bitc c) ?_ ?_ (i0 := 0) ⟨⟨fun s w _ _ => by rw [if_neg (by omega)]; exact fun f _ => rfl, fun i _ => rfl⟩, FrN.rfl' g⟩ (by omega) (zfuel_ge (by omega))
  · rintro n s h hs ⟨hu, hf⟩
    left
    have a1 : h 31 0 0 = nI S := by rw [hf _ _ _ (by decide)]; exact q1
    rw [X7_ends_l2.eq_2]
    simp (disch := omega) only [zc_some, zw_eq, zi_nI, nI_clamp, nI_add, nI_1, nI_lti, nI_inj, nI_ltz, nI_eq0, nI_0lt, nI_ne_m1, nI_ne_m2, nI_m1_ne, nI_m2_ne, if_true, if_false, zU_eq, zU_ne, Nat.add_zero, pk_mul, a1, hs]
    refine loopN (M := fun n' i h' => X7_ends_l15 (X7_ends_l2 (fun (v1 : Int32) (v2 : Int32) g => X7_ends_b163 v1 v2 g) n) n' (nI c) (nI cause) (nI s) (nI i) h') W (fun w h' => UnI S W c s w (g 43 0) (h' 43 0) ∧ FrN g h') (fun o => ∃ g', (UnI S W c (s + 1) 0 (g 43 0) (g' 43 0) ∧ FrN g g') ∧ o = X7_ends_l2 (fun (v1 : Int32) (v2 : Int32) g => X7_ends_b163 v1 v2 g) n (nI c) (nI cause) (nI (s + 1)) g') ?_ ?_ (i0 := 0) ⟨hu, hf⟩ (by omega) (zfuel_ge (by omega))
    · rintro n' w h' hw ⟨hu', hf'⟩
      left
      have hp := pos_lt hc (show s < 4 by omega) (show w < 17 by omega)
      have a2 : h' 37007 0 0 = nI W := by rw [hf' _ _ _ (by decide)]; exact q2
      rw [X7_ends_l15.eq_2]
      simp (disch := omega) only [zc_some, zw_eq, zi_nI, nI_clamp, nI_add, nI_1, nI_lti, nI_inj, nI_ltz, nI_eq0, nI_0lt, nI_ne_m1, nI_ne_m2, nI_m1_ne, nI_m2_ne, if_true, if_false, zU_eq, zU_ne, Nat.add_zero, pk_mul, a2, hw, X7_placeAt_ok, X7_empties_ok]
      by_cases e : h' 43 0 (pos c s w + 3) = nI 1
      · refine ⟨zU (sEmp h' (pos c s w)) 43 0 (pos c s w + 2) (nI 0), ⟨UnI_step p2 p4 hs hw hu' ?_, ((sEmp_fr h' _).trans' hf').row _ _⟩, ?_⟩
        · rw [zU_row, sEmp_row, if_pos e]
        · rw [if_pos e]
          unfold X7_ends_b52
          simp (disch := omega) only [zc_some, zw_eq, zi_nI, nI_clamp, nI_add, nI_1, nI_lti, nI_inj, nI_ltz, nI_eq0, nI_0lt, nI_ne_m1, nI_ne_m2, nI_m1_ne, nI_m2_ne, if_true, if_false, zU_eq, zU_ne, Nat.add_zero, pk_mul]
      · refine ⟨zU h' 43 0 (pos c s w + 2) (nI 0), ⟨UnI_step p2 p4 hs hw hu' ?_, hf'.row _ _⟩, ?_⟩
        · rw [zU_row, if_neg e]
        · rw [if_neg e]
          unfold X7_ends_b52
          simp (disch := omega) only [zc_some, zw_eq, zi_nI, nI_clamp, nI_add, nI_1, nI_lti, nI_inj, nI_ltz, nI_eq0, nI_0lt, nI_ne_m1, nI_ne_m2, nI_m1_ne, nI_m2_ne, if_true, if_false, zU_eq, zU_ne, Nat.add_zero, pk_mul]
    · rintro n' h' ⟨hu', hf'⟩
      have a2 : h' 37007 0 0 = nI W := by rw [hf' _ _ _ (by decide)]; exact q2
      rw [X7_ends_l15.eq_2]
      simp (disch := omega) only [zc_some, zw_eq, zi_nI, nI_clamp, nI_add, nI_1, nI_lti, nI_inj, nI_ltz, nI_eq0, nI_0lt, nI_ne_m1, nI_ne_m2, nI_m1_ne, nI_m2_ne, if_true, if_false, zU_eq, zU_ne, Nat.add_zero, pk_mul, a2, Nat.lt_irrefl]
      exact ⟨h', ⟨UnI_next hu', hf'⟩, rfl⟩
  · rintro n h ⟨hu, hf⟩
    have a1 : h 31 0 0 = nI S := by rw [hf _ _ _ (by decide)]; exact q1
    have a3 : h 36007 0 0 = g 36007 0 0 := hf _ _ _ (by decide)
    have a4 : h 38007 0 0 = g 38007 0 0 := hf _ _ _ (by decide)
    have b0 := cat_lt hc (show 0 < 14 by omega)
    have b1 := cat_lt hc (show 1 < 14 by omega)
    have b2 := cat_lt hc (show 2 < 14 by omega)
    have b3 := cat_lt hc (show 3 < 14 by omega)
    have b4 := cat_lt hc (show 4 < 14 by omega)
    have b6 := cat_lt hc (show 6 < 14 by omega)
    have b7 := cat_lt hc (show 7 + cause < 14 by omega)
    rw [X7_ends_l2.eq_2]
    have hcs : cause = 0 ∨ cause = 1 ∨ cause = 2 ∨ cause = 3 := by omega
    rcases hcs with rfl | rfl | rfl | rfl
    all_goals
      simp (disch := omega) only [zc_some, zw_eq, zi_nI, nI_clamp, nI_add, nI_1, nI_lti, nI_inj, nI_ltz, nI_eq0, nI_0lt, nI_ne_m1, nI_ne_m2, nI_m1_ne, nI_m2_ne, if_true, if_false, zU_eq, zU_ne, Nat.add_zero, pk_mul, a1, Nat.lt_irrefl, X7_coreAt_ok, X7_ends_b163, X7_ends_b182, cat]
      refine ⟨_, rfl, ⟨h 43 0, UnI_end hu, ?_⟩, ?_, ?_⟩
    all_goals first
      | (exact (((((((hf.row _ _).row _ _).row _ _).row _ _).row _ _).row _ _).M).end' _)
      | (exact ((((((hf.row _ _).row _ _).row _ _).row _ _).row _ _).M).end' _)
      | (rw [zU_self, a4]; rfl)
      | (simp (disch := omega) only [zU_row', zU_row]
         simp (disch := omega) [rEnds, cat, upd_ne, a3])
      | trace_state
