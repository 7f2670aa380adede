/-! ===== deeds alone: the pure picture, the class' Solo, the reference's plain words ===== -/
abbrev St : Type := (Nat → Nat) × Nat × Nat × Nat × Nat
def cntS (S T s : Nat) : Nat → Nat
  | 0 => 0
  | n + 1 => cntS S T s n + if n % S = s ∧ T.testBit n = true then 1 else 0
def widS (S T wd : Nat) : Nat → Nat
  | 0 => wd
  | n + 1 => max (widS S T wd n) (cntS S T n 17)
/-- a deed alone: words, A, X, the touched lines, the widest -/
def sDeed (S PL so wh : Nat) (ix : Bool) (t : St) : St :=
  if so = 0 then (t.1, 0, 0, 65536, t.2.2.2.2)
  else if so = 1 then (t.1, t.2.1, t.2.2.1, t.2.2.2.1, widS S t.2.2.2.1 t.2.2.2.2 S)
  else if so = 2 then (t.1, t.2.1, t.2.1, t.2.2.2.1, t.2.2.2.2)
  else if so = 3 then (t.1, t.1 (aOf PL wh t.2.2.1 ix), t.2.2.1, t.2.2.2.1 ||| 2 ^ (aOf PL wh t.2.2.1 ix / PL), t.2.2.2.2)
  else if so = 4 then (fun i => if i = aOf PL wh t.2.2.1 ix then t.2.1 else t.1 i, t.2.1, t.2.2.1, t.2.2.2.1 ||| 2 ^ (aOf PL wh t.2.2.1 ix / PL), t.2.2.2.2)
  else if so = 5 then (t.1, (t.2.1 + wh) % 1000, t.2.2.1, t.2.2.2.1, t.2.2.2.2)
  else (t.1, (t.2.1 + 1000 - wh) % 1000, t.2.2.1, t.2.2.2.1, t.2.2.2.2)
def sRun (S PL : Nat) (so wh : Nat → Nat) (ix : Nat → Bool) (t : St) (k : Nat) : Nat → St
  | 0 => t
  | n + 1 => sDeed S PL (so (k + n)) (wh (k + n)) (ix (k + n)) (sRun S PL so wh ix t k n)
theorem sRun_cons (S PL : Nat) (so wh : Nat → Nat) (ix : Nat → Bool) (t : St) (k : Nat) : ∀ n, sRun S PL so wh ix t k (n + 1) = sRun S PL so wh ix (sDeed S PL (so k) (wh k) (ix k) t) (k + 1) n := by
  intro n
  induction n with
  | zero => rfl
  | succ n ih =>
    rw [sRun, ih, sRun, show k + 1 + n = k + (n + 1) by omega]
def StB (t : St) : Prop := (∀ i, t.1 i < 1000) ∧ t.2.1 < 1000 ∧ t.2.2.1 < 1000 ∧ t.2.2.2.1 < 131072 ∧ t.2.2.2.2 ≤ 17
theorem cntS_le (S T s : Nat) : ∀ n, cntS S T s n ≤ n := by
  intro n
  induction n with
  | zero => exact Nat.le_refl _
  | succ n ih =>
    unfold cntS
    split <;> omega
theorem widS_le {S T wd : Nat} (h : wd ≤ 17) : ∀ n, widS S T wd n ≤ 17 := by
  intro n
  induction n with
  | zero => exact h
  | succ n ih =>
    have := cntS_le S T n 17
    unfold widS
    omega
theorem StB.deed {S PL so wh : Nat} {ix : Bool} {t : St} (h : StB t) (hPL : 0 < PL) : StB (sDeed S PL so wh ix t) := by
  obtain ⟨h1, h2, h3, h4, h5⟩ := h
  have hl : aOf PL wh t.2.2.1 ix / PL < 16 := (Nat.div_lt_iff_lt_mul hPL).mpr (Nat.mod_lt _ (by omega))
  have h17 : t.2.2.2.1 ||| 2 ^ (aOf PL wh t.2.2.1 ix / PL) < 131072 := by
    have e : 2 ^ (aOf PL wh t.2.2.1 ix / PL) < 2 ^ 17 := Nat.pow_lt_pow_right (by omega) (by omega)
    exact Nat.or_lt_two_pow (n := 17) h4 e
  unfold sDeed
  split
  · exact ⟨h1, by simp, by simp, by simp, h5⟩
  · split
    · exact ⟨h1, h2, h3, h4, widS_le h5 S⟩
    · split
      · exact ⟨h1, h2, h2, h4, h5⟩
      · split
        · exact ⟨h1, h1 _, h3, h17, h5⟩
        · split
          · refine ⟨fun i => ?_, h2, h3, h17, h5⟩
            dsimp only
            split
            · exact h2
            · exact h1 i
          · split
            · exact ⟨h1, Nat.mod_lt _ (by omega), h3, h4, h5⟩
            · exact ⟨h1, Nat.mod_lt _ (by omega), h3, h4, h5⟩
theorem StB.run {S PL : Nat} {so wh : Nat → Nat} {ix : Nat → Bool} {t : St} (h : StB t) (hPL : 0 < PL) (k : Nat) : ∀ n, StB (sRun S PL so wh ix t k n) := by
  intro n
  induction n with
  | zero => exact h
  | succ n ih => exact ih.deed hPL
theorem shv : ∀ ℓ, ℓ ≤ 16 → ((nI ℓ &&& 31).toBitVec.smod 32).toNat = ℓ := by decide +kernel
theorem bt17 {T ℓ : Nat} (hT : T < 131072) (hℓ : ℓ ≤ 16) : ((nI T >>> (nI ℓ &&& 31)) &&& nI 1 = nI 1) = (T.testBit ℓ = true) := by
  have hd : T / 2 ^ ℓ ≤ T := Nat.div_le_self _ _
  rw [pk_shrN (by omega) _ ℓ (shv ℓ hℓ), pk_andN (by omega) 1 (by decide), nI_inj (by omega) (by omega), Nat.testBit_eq_decide_div_mod_eq, decide_eq_true_eq]
/-- the class' Solo holds a pure state -/
def SoS (g : zG) (t : St) : Prop := (∀ i, i < 64 → g 29 0 i = nI (t.1 i)) ∧ g 3006 0 0 = nI t.2.1 ∧ g 4006 0 0 = nI t.2.2.1 ∧ g 5006 0 0 = nI t.2.2.2.1 ∧ g 6006 0 0 = nI t.2.2.2.2
/-- what Solo may change -/
def FrO (g g' : zG) : Prop := ∀ f i j, f ≠ 29 → f ≠ 3006 → f ≠ 4006 → f ≠ 5006 → f ≠ 6006 → g' f i j = g f i j
theorem FrO.rfl' (g : zG) : FrO g g := fun _ _ _ _ _ _ _ _ => rfl
theorem FrO.trans {a b c : zG} (h1 : FrO a b) (h2 : FrO b c) : FrO a c := fun f i j x1 x2 x3 x4 x5 => (h2 f i j x1 x2 x3 x4 x5).trans (h1 f i j x1 x2 x3 x4 x5)
theorem CPar.frO {S W PL NC : Nat} {g g' : zG} (h : CPar S W PL NC g) (hf : FrO g g') : CPar S W PL NC g' :=
  ⟨h.1, by rw [hf _ _ _ (by omega) (by omega) (by omega) (by omega) (by omega)]; exact h.2.1, by rw [hf _ _ _ (by omega) (by omega) (by omega) (by omega) (by omega)]; exact h.2.2.1, by rw [hf _ _ _ (by omega) (by omega) (by omega) (by omega) (by omega)]; exact h.2.2.2.1, by rw [hf _ _ _ (by omega) (by omega) (by omega) (by omega) (by omega)]; exact h.2.2.2.2⟩
theorem DeedsC.frO {c len : Nat} {so wh : Nat → Nat} {ix : Nat → Bool} {g g' : zG} (h : DeedsC c len so wh ix g) (hf : FrO g g') : DeedsC c len so wh ix g' := by
  obtain ⟨h1, h2, h3⟩ := h
  refine ⟨by rw [hf _ _ _ (by omega) (by omega) (by omega) (by omega) (by omega)]; exact h1, h2, fun j hj => ?_⟩
  rw [hf 12 _ _ (by omega) (by omega) (by omega) (by omega) (by omega), hf 13 _ _ (by omega) (by omega) (by omega) (by omega) (by omega), hf 14 _ _ (by omega) (by omega) (by omega) (by omega) (by omega)]
  exact h3 j hj
theorem X4_widen_ok {S W PL NC T wd : Nat} {g : zG} (hP : CPar S W PL NC g) (hT : T < 131072) (h5 : g 5006 0 0 = nI T) (h6 : g 6006 0 0 = nI wd) (hwd : wd ≤ 17) : ∃ g', X4_widen g = some (0, g') ∧ g' 6006 0 0 = nI (widS S T wd S) ∧ ∀ f i j, f ≠ 6006 → g' f i j = g f i j := by
  obtain ⟨⟨p1, p2, p3, p4, p5, p6, p7, p8⟩, q1, q2, q3, q4⟩ := id hP
  have inner : ∀ (K : Int32 → zG → zR0) s w h, s < S → (∀ f i j, f ≠ 6006 → h f i j = g f i j) → h 6006 0 0 = nI w → w ≤ 17 → ∀ d i n, i + d = 17 → X4_widen_l17 K (n + d + 1) (nI s) (nI (cntS S T s i)) (nI i) h = K (nI (s + 1)) (zU h 6006 0 0 (nI (max w (cntS S T s 17)))) := by
    intro K s w h hs hh hw hw17 d
    have hPh : CPar S W PL NC h := hP.frO (fun f i j _ _ _ _ a => hh f i j a)
    induction d with
    | zero =>
      intro i n e
      have e' : i = 17 := by omega
      subst e'
      have c17 := cntS_le S T s 17
      rw [X4_widen_l17.eq_2, if_pos (by rw [nI_lti (by omega) (by omega)]; omega), hw]
      unfold J9_max_7cf53
      by_cases z : w < cntS S T s 17
      · rw [if_pos (show nI w < nI (cntS S T s 17) by rw [nI_lti (by omega) (by omega)]; exact z), zc_some, zw_eq, nI_add, show max w (cntS S T s 17) = cntS S T s 17 by omega]
      · rw [if_neg (show ¬ nI w < nI (cntS S T s 17) by rw [nI_lti (by omega) (by omega)]; exact z), zc_some, zw_eq, nI_add, show max w (cntS S T s 17) = w by omega]
    | succ d ih =>
      intro i n e
      have := ih (i + 1) n (by omega)
      have hset := hPh.setOf (show i ≤ 16 by omega)
      have e5 : h 5006 0 0 = nI T := by rw [hh _ _ _ (by omega)]; exact h5
      have ci := cntS_le S T s i
      have hm : i % S < S := Nat.mod_lt _ p1
      rw [show n + (d + 1) + 1 = (n + d + 1) + 1 by omega, X4_widen_l17.eq_2, if_neg (by rw [nI_lti (by omega) (by omega)]; omega), hset, zc_some, e5]
      unfold X4_widen_b50
      rw [nI_add, nI_add, ← this]
      by_cases z1 : i % S = s
      · rw [if_pos (show nI (i % S) = nI s by rw [z1])]
        by_cases z2 : T.testBit i = true
        · rw [if_pos (show ((nI T >>> (nI i &&& 31)) &&& nI 1 = nI 1) by rw [bt17 hT (by omega)]; exact z2), show cntS S T s (i + 1) = cntS S T s i + 1 by
            show cntS S T s i + _ = _
            rw [if_pos ⟨z1, z2⟩]]
        · rw [if_neg (show ¬ ((nI T >>> (nI i &&& 31)) &&& nI 1 = nI 1) by rw [bt17 hT (by omega)]; exact z2), show cntS S T s (i + 1) = cntS S T s i by
            show cntS S T s i + _ = _
            rw [if_neg (fun y => z2 y.2)]; rfl]
      · rw [if_neg (show ¬ nI (i % S) = nI s by rw [nI_inj (by omega) (by omega)]; exact z1), show cntS S T s (i + 1) = cntS S T s i by
          show cntS S T s i + _ = _
          rw [if_neg (fun y => z1 y.1)]; rfl]
  unfold X4_widen
  refine loopN (M := fun n i h => X4_widen_l2 n (nI i) h) S (fun s h => h 6006 0 0 = nI (widS S T wd s) ∧ ∀ f i j, f ≠ 6006 → h f i j = g f i j) (fun o => ∃ g', o = some (0, g') ∧ g' 6006 0 0 = nI (widS S T wd S) ∧ ∀ f i j, f ≠ 6006 → g' f i j = g f i j) ?_ ?_ (i0 := 0) ⟨h6, fun _ _ _ _ => rfl⟩ (by omega) (zfuel_ge (by omega))
  · rintro n s h hs ⟨h1, h2⟩
    left
    have e1 : h 1001 0 0 = nI S := by rw [h2 _ _ _ (by omega)]; exact q1
    refine ⟨zU h 6006 0 0 (nI (max (widS S T wd s) (cntS S T s 17))), ⟨zU_self _ _ _ _ _, fun f i j a => by rw [zU_ne _ _ (by omega)]; exact h2 f i j a⟩, ?_⟩
    rw [X4_widen_l2.eq_2, e1, if_pos (by rw [nI_lti (by omega) (by omega)]; exact hs)]
    exact inner (X4_widen_l2 n) s (widS S T wd s) h hs h2 h1 (widS_le hwd s) 17 0 (zfuel - 18) (by omega)
  · rintro n h ⟨h1, h2⟩
    have e1 : h 1001 0 0 = nI S := by rw [h2 _ _ _ (by omega)]; exact q1
    rw [X4_widen_l2.eq_2, e1, if_neg (by rw [nI_lti (by omega) (by omega)]; omega)]
    exact ⟨h, rfl, h1, h2⟩
theorem X4_touch_ok {S W PL NC c k len : Nat} {so wh : Nat → Nat} {ix : Nat → Bool} {g : zG} {t : St} (hP : CPar S W PL NC g) (hd : DeedsC c len so wh ix g) (hc : c < NC) (hk : k < len) (h3 : 3 ≤ so k) (hwh : wh k < 16 * PL) (hS : SoS g t) (hB : StB t) : X4_touch (nI c) (nI k) g = some (nI (aOf PL (wh k) t.2.2.1 (ix k)), zU g 5006 0 0 (nI (t.2.2.2.1 ||| 2 ^ (aOf PL (wh k) t.2.2.1 (ix k) / PL)))) := by
  have ha : aOf PL (wh k) t.2.2.1 (ix k) < 16 * PL := Nat.mod_lt _ (by have := hP.1.2.2.2.2.1; omega)
  have hl : aOf PL (wh k) t.2.2.1 (ix k) / PL < 16 := (Nat.div_lt_iff_lt_mul hP.1.2.2.2.2.1).mpr (by omega)
  unfold X4_touch
  rw [hS.2.2.1, hP.addressOf hd hc hk h3 hwh hB.2.2.1, zc_some, hP.lineOf ha, zc_some, hS.2.2.2.1, shI _ (by omega), orI, zw_eq]
theorem X4_playDeed_ok {S W PL NC c k len : Nat} {so wh : Nat → Nat} {ix : Nat → Bool} {g : zG} {t : St} (hP : CPar S W PL NC g) (hd : DeedsC c len so wh ix g) (hw : WfD so wh PL len) (hc : c < NC) (hk : k < len) (hS : SoS g t) (hB : StB t) : ∃ g', X4_playDeed (nI c) (nI k) g = some (0, g') ∧ SoS g' (sDeed S PL (so k) (wh k) (ix k) t) ∧ FrO g g' := by
  obtain ⟨p1, p2, p3, p4, p5, p6, p7, p8⟩ := id hP.1
  obtain ⟨s1, s2, s3, s4, s5⟩ := id hS
  obtain ⟨b1, b2, b3, b4, b5⟩ := id hB
  obtain ⟨w1, -, w3, w4, w5⟩ := hw.2.2 k hk
  have hwo := fun z => (hd.2.2 k hk).2 z
  unfold X4_playDeed
  rw [hP.wholeOf hd hc hk, zc_some, hP.sortOf hd hc hk, zc_some]
  have hcs : so k = 0 ∨ so k = 1 ∨ so k = 2 ∨ so k = 3 ∨ so k = 4 ∨ so k = 5 ∨ so k = 6 := by omega
  have fr1 : ∀ {f : Nat} {j : Nat} {v : Int32}, (f = 29 ∨ f = 3006 ∨ f = 4006 ∨ f = 5006 ∨ f = 6006) → FrO g (zU g f 0 j v) := fun hf f' i' j' x1 x2 x3 x4 x5 => zU_ne _ _ (by omega)
  unfold sDeed
  rcases hcs with e | e | e | e | e | e | e
  · rw [e, if_pos rfl, if_pos rfl, zw_eq, zw_eq, zw_eq]
    refine ⟨_, rfl, ⟨fun i hi => ?_, ?_, ?_, ?_, ?_⟩, fun f i j x1 x2 x3 x4 x5 => by simp (disch := omega) only [zU_ne]⟩
    · simp (disch := omega) only [zU_ne]; exact s1 i hi
    · simp (disch := omega) only [zU_ne, zU_eq]
    · simp (disch := omega) only [zU_ne, zU_eq]
    · simp (disch := omega) only [zU_ne, zU_eq]
    · simp (disch := omega) only [zU_ne]; exact s5
  · obtain ⟨g', k1, k2, k3⟩ := X4_widen_ok hP b4 s4 s5 b5
    rw [e, if_neg (by decide), if_pos rfl, if_neg (by decide), if_pos rfl, k1, zc_some]
    refine ⟨g', rfl, ⟨fun i hi => ?_, ?_, ?_, ?_, k2⟩, fun f i j x1 x2 x3 x4 x5 => k3 f i j x5⟩
    · rw [k3 _ _ _ (by omega)]; exact s1 i hi
    · rw [k3 _ _ _ (by omega)]; exact s2
    · rw [k3 _ _ _ (by omega)]; exact s3
    · rw [k3 _ _ _ (by omega)]; exact s4
  · rw [e, if_neg (by decide), if_neg (by decide), if_pos rfl, if_neg (by decide), if_neg (by decide), if_pos rfl, zw_eq, s2]
    refine ⟨_, rfl, ⟨fun i hi => ?_, ?_, ?_, ?_, ?_⟩, fr1 (by omega)⟩
    · rw [zU_ne _ _ (by omega)]; exact s1 i hi
    · rw [zU_ne _ _ (by omega)]; exact s2
    · rw [zU_self]
    · rw [zU_ne _ _ (by omega)]; exact s4
    · rw [zU_ne _ _ (by omega)]; exact s5
  · have ht := X4_touch_ok hP hd hc hk (by omega) (w5 (Or.inl e)) hS hB
    have ha : aOf PL (wh k) t.2.2.1 (ix k) < 16 * PL := Nat.mod_lt _ (by omega)
    rw [e, if_neg (by decide), if_neg (by decide), if_neg (by decide), if_pos rfl, if_neg (by decide), if_neg (by decide), if_neg (by decide), if_pos rfl, ht, zc_some, zi_nI (show aOf PL (wh k) t.2.2.1 (ix k) < 64 by omega) (by omega), show (nI (aOf PL (wh k) t.2.2.1 (ix k))).toNatClampNeg = aOf PL (wh k) t.2.2.1 (ix k) from nI_clamp (by omega), zU_ne _ _ (by omega), s1 _ (by omega), zw_eq]
    refine ⟨_, rfl, ⟨fun i hi => ?_, ?_, ?_, ?_, ?_⟩, fun f i j x1 x2 x3 x4 x5 => by simp (disch := omega) only [zU_ne]⟩
    · simp (disch := omega) only [zU_ne]; exact s1 i hi
    · rw [zU_self]
    · simp (disch := omega) only [zU_ne]; exact s3
    · rw [zU_ne _ _ (by omega), zU_self]
    · simp (disch := omega) only [zU_ne]; exact s5
  · have ht := X4_touch_ok hP hd hc hk (by omega) (w5 (Or.inr e)) hS hB
    have ha : aOf PL (wh k) t.2.2.1 (ix k) < 16 * PL := Nat.mod_lt _ (by omega)
    rw [e, if_neg (by decide), if_neg (by decide), if_neg (by decide), if_neg (by decide), if_pos rfl, if_neg (by decide), if_neg (by decide), if_neg (by decide), if_neg (by decide), if_pos rfl, ht, zc_some, zi_nI (show aOf PL (wh k) t.2.2.1 (ix k) < 64 by omega) (by omega), show (nI (aOf PL (wh k) t.2.2.1 (ix k))).toNatClampNeg = aOf PL (wh k) t.2.2.1 (ix k) from nI_clamp (by omega), zU_ne _ _ (by omega), s2, zw_eq]
    refine ⟨_, rfl, ⟨fun i hi => ?_, ?_, ?_, ?_, ?_⟩, fun f i j x1 x2 x3 x4 x5 => by simp (disch := omega) only [zU_ne]⟩
    · dsimp only
      by_cases z : i = aOf PL (wh k) t.2.2.1 (ix k)
      · rw [if_pos z, z, zU_self]
      · rw [if_neg z, zU_ne _ _ (by omega), zU_ne _ _ (by omega)]; exact s1 i hi
    · simp (disch := omega) only [zU_ne]; exact s2
    · simp (disch := omega) only [zU_ne]; exact s3
    · rw [zU_ne _ _ (by omega), zU_self]
    · simp (disch := omega) only [zU_ne]; exact s5
  · have hwl := w4 (by omega)
    rw [e, if_neg (by decide), if_neg (by decide), if_neg (by decide), if_neg (by decide), if_neg (by decide), if_pos rfl, if_neg (by decide), if_neg (by decide), if_neg (by decide), if_neg (by decide), if_neg (by decide), if_pos rfl, s2, (hwo (by omega)).1, nI_add, J9_mod g (by omega) (by omega) (by omega), zc_some, zw_eq]
    refine ⟨_, rfl, ⟨fun i hi => ?_, ?_, ?_, ?_, ?_⟩, fr1 (by omega)⟩
    · rw [zU_ne _ _ (by omega)]; exact s1 i hi
    · rw [zU_self]
    · rw [zU_ne _ _ (by omega)]; exact s3
    · rw [zU_ne _ _ (by omega)]; exact s4
    · rw [zU_ne _ _ (by omega)]; exact s5
  · have hwl := w4 (by omega)
    rw [e, if_neg (by decide), if_neg (by decide), if_neg (by decide), if_neg (by decide), if_neg (by decide), if_neg (by decide), if_neg (by decide), if_neg (by decide), if_neg (by decide), if_neg (by decide), if_neg (by decide), if_neg (by decide), s2, (hwo (by omega)).1, J9_less g b2 hwl, zc_some, zw_eq]
    refine ⟨_, rfl, ⟨fun i hi => ?_, ?_, ?_, ?_, ?_⟩, fr1 (by omega)⟩
    · rw [zU_ne _ _ (by omega)]; exact s1 i hi
    · rw [zU_self]
    · rw [zU_ne _ _ (by omega)]; exact s3
    · rw [zU_ne _ _ (by omega)]; exact s4
    · rw [zU_ne _ _ (by omega)]; exact s5
/-- the reference's plain words hold a pure state -/
def PlP (g : zG) (t : St) : Prop := (∀ i, i < 64 → g 46 0 i = nI (t.1 i)) ∧ g 40007 0 0 = nI t.2.1 ∧ g 41007 0 0 = nI t.2.2.1
def FrP (g g' : zG) : Prop := ∀ f i j, f ≠ 46 → f ≠ 40007 → f ≠ 41007 → g' f i j = g f i j
theorem FrP.rfl' (g : zG) : FrP g g := fun _ _ _ _ _ _ => rfl
theorem FrP.trans {a b c : zG} (h1 : FrP a b) (h2 : FrP b c) : FrP a c := fun f i j x1 x2 x3 => (h2 f i j x1 x2 x3).trans (h1 f i j x1 x2 x3)
theorem X7_plainly_ok {S W PL NC c k len : Nat} {so wh : Nat → Nat} {ix : Nat → Bool} {g : zG} {t : St} (hz : 0 < PL ∧ PL ≤ 4) (h2 : g 31 0 2 = nI PL) (hd : DeedsM c len so wh ix g) (hw : WfD so wh PL len) (hc : c < 4) (hk : k < len) (hS : PlP g t) (hB : StB t) : ∃ g', X7_plainly (nI (24 * c + k)) g = some (0, g') ∧ PlP g' (sDeed S PL (so k) (wh k) (ix k) t) ∧ FrP g g' := by
  obtain ⟨s1, s2, s3⟩ := id hS
  obtain ⟨b1, b2, b3, b4, b5⟩ := id hB
  obtain ⟨w1, -, w3, w4, w5⟩ := hw.2.2 k hk
  have hl24 := hw.1
  obtain ⟨d1, d2⟩ := hd.2 k hk
  have hcs : so k = 0 ∨ so k = 1 ∨ so k = 2 ∨ so k = 3 ∨ so k = 4 ∨ so k = 5 ∨ so k = 6 := by omega
  have ecl : (nI (24 * c + k)).toNatClampNeg = 24 * c + k := nI_clamp (by omega)
  have e22 : (nI 2).toNatClampNeg = 2 := nI_clamp (by omega)
  have n16 : ¬ (nI (16 * PL) = 0) := by rw [nI_eq0 (by omega)]; omega
  have red : ∀ s0 s1 : Int32, X7_plainly_b24 (nI (24 * c + k)) s0 s1 g = (if nI (so k) = nI 0 then (zw g 40007 0 0 (nI 0) (fun g4 => zw g4 41007 0 0 (nI 0) (fun g5 => some (0, g5)))) else if nI (so k) = nI 1 then some (0, g) else if nI (so k) = nI 2 then (zw g 41007 0 0 (g 40007 0 0) (fun g6 => some (0, g6))) else if nI (so k) = nI 3 then (zi ((s0 + s1) - (s0 + s1) / nI (16 * PL) * nI (16 * PL)) 64 (zw g 40007 0 0 (g 46 0 ((s0 + s1) - (s0 + s1) / nI (16 * PL) * nI (16 * PL)).toNatClampNeg) (fun g7 => some (0, g7)))) else if nI (so k) = nI 4 then (zi ((s0 + s1) - (s0 + s1) / nI (16 * PL) * nI (16 * PL)) 64 (zw g 46 0 ((s0 + s1) - (s0 + s1) / nI (16 * PL) * nI (16 * PL)).toNatClampNeg (g 40007 0 0) (fun g8 => some (0, g8)))) else if nI (so k) = nI 5 then (zc (X7_plus (g 40007 0 0) (g 39 0 (24 * c + k)) g) (fun x9 g10 => zw g10 40007 0 0 x9 (fun g12 => some (0, g12)))) else if nI (so k) = nI 6 then (zc (X7_plus (g 40007 0 0) (-(g 39 0 (24 * c + k))) g) (fun x13 g14 => zw g14 40007 0 0 x13 (fun g16 => some (0, g16)))) else some (0, g)) := fun s0 s1 => by
    unfold X7_plainly_b24 X7_addresses
    rw [zi_nI (by omega) (by omega), e22, h2, pk_mul, zc_some, if_neg n16, zi_nI (show 24 * c + k < 96 by omega) (by omega), ecl, d1, zi_nI (show 24 * c + k < 96 by omega) (by omega), zi_nI (show 24 * c + k < 96 by omega) (by omega)]
  unfold X7_plainly
  rw [zi_nI (show 24 * c + k < 96 by omega) (by omega), zi_nI (show 24 * c + k < 96 by omega) (by omega), ecl, red, red]
  unfold sDeed
  rcases hcs with e | e | e | e | e | e | e
  · rw [e]
    simp only [if_true, zw_eq, ite_self]
    exact ⟨_, rfl, ⟨fun i hi => by simp (disch := omega) only [zU_ne]; exact s1 i hi, by simp (disch := omega) only [zU_ne, zU_eq], by rw [zU_self]⟩, fun f i j x1 x2 x3 => by simp (disch := omega) only [zU_ne]⟩
  · rw [e]
    simp only [nI_inj (show 1 < 2 ^ 31 by omega) (show 0 < 2 ^ 31 by omega), show ¬ (1 = 0) by omega, if_true, if_false, ite_self]
    exact ⟨g, rfl, hS, FrP.rfl' g⟩
  · rw [e]
    simp only [nI_inj (show 2 < 2 ^ 31 by omega) (show 0 < 2 ^ 31 by omega), nI_inj (show 2 < 2 ^ 31 by omega) (show 1 < 2 ^ 31 by omega), show ¬ (2 = 0) by omega, show ¬ (2 = 1) by omega, if_true, if_false, ite_self, zw_eq, s2]
    exact ⟨_, rfl, ⟨fun i hi => by rw [zU_ne _ _ (by omega)]; exact s1 i hi, by rw [zU_ne _ _ (by omega)]; exact s2, by rw [zU_self]⟩, fun f i j x1 x2 x3 => by rw [zU_ne _ _ (by omega)]⟩
  · have hwl := w5 (Or.inl e)
    obtain ⟨d3, d4⟩ := d2 (by omega)
    have ha : aOf PL (wh k) t.2.2.1 (ix k) < 16 * PL := Nat.mod_lt _ (by omega)
    have sum : ∀ K : Int32 → zR0, (if g 41 0 (24 * c + k) = nI 1 then K (g 39 0 (24 * c + k) + g 41007 0 0) else K (g 39 0 (24 * c + k) + nI 0)) = K (nI (wh k + if ix k = true then t.2.2.1 else 0)) := fun K => by
      rw [d4, d3, s3, nI_add, nI_add]
      cases ix k with
      | false => rw [if_neg (show ¬ bI false = nI 1 by decide), if_neg (by decide)]
      | true => rw [if_pos (show bI true = nI 1 from rfl), if_pos rfl]
    rw [e]
    simp only [nI_inj (show 3 < 2 ^ 31 by omega) (show 0 < 2 ^ 31 by omega), nI_inj (show 3 < 2 ^ 31 by omega) (show 1 < 2 ^ 31 by omega), nI_inj (show 3 < 2 ^ 31 by omega) (show 2 < 2 ^ 31 by omega), show ¬ (3 = 0) by omega, show ¬ (3 = 1) by omega, show ¬ (3 = 2) by omega, if_true, if_false]
    rw [sum (fun y => zi (y - y / nI (16 * PL) * nI (16 * PL)) 64 (zw g 40007 0 0 (g 46 0 (y - y / nI (16 * PL) * nI (16 * PL)).toNatClampNeg) (fun g7 => some (0, g7))))]
    have hsum : wh k + (if ix k = true then t.2.2.1 else 0) < 2000 := by split <;> omega
    rw [pk_rem (by omega) (by omega) (by omega)]
    show ∃ g', zi (nI (aOf PL (wh k) t.2.2.1 (ix k))) 64 (zw g 40007 0 0 (g 46 0 (nI (aOf PL (wh k) t.2.2.1 (ix k))).toNatClampNeg) (fun g7 => some (0, g7))) = some (0, g') ∧ _
    rw [zi_nI (by omega) (by omega), show (nI (aOf PL (wh k) t.2.2.1 (ix k))).toNatClampNeg = aOf PL (wh k) t.2.2.1 (ix k) from nI_clamp (by omega), s1 _ (by omega), zw_eq]
    exact ⟨_, rfl, ⟨fun i hi => by rw [zU_ne _ _ (by omega)]; exact s1 i hi, by rw [zU_self], by rw [zU_ne _ _ (by omega)]; exact s3⟩, fun f i j x1 x2 x3 => by rw [zU_ne _ _ (by omega)]⟩
  · have hwl := w5 (Or.inr e)
    obtain ⟨d3, d4⟩ := d2 (by omega)
    have ha : aOf PL (wh k) t.2.2.1 (ix k) < 16 * PL := Nat.mod_lt _ (by omega)
    have sum : ∀ K : Int32 → zR0, (if g 41 0 (24 * c + k) = nI 1 then K (g 39 0 (24 * c + k) + g 41007 0 0) else K (g 39 0 (24 * c + k) + nI 0)) = K (nI (wh k + if ix k = true then t.2.2.1 else 0)) := fun K => by
      rw [d4, d3, s3, nI_add, nI_add]
      cases ix k with
      | false => rw [if_neg (show ¬ bI false = nI 1 by decide), if_neg (by decide)]
      | true => rw [if_pos (show bI true = nI 1 from rfl), if_pos rfl]
    rw [e]
    simp only [nI_inj (show 4 < 2 ^ 31 by omega) (show 0 < 2 ^ 31 by omega), nI_inj (show 4 < 2 ^ 31 by omega) (show 1 < 2 ^ 31 by omega), nI_inj (show 4 < 2 ^ 31 by omega) (show 2 < 2 ^ 31 by omega), nI_inj (show 4 < 2 ^ 31 by omega) (show 3 < 2 ^ 31 by omega), show ¬ (4 = 0) by omega, show ¬ (4 = 1) by omega, show ¬ (4 = 2) by omega, show ¬ (4 = 3) by omega, if_true, if_false]
    rw [sum (fun y => zi (y - y / nI (16 * PL) * nI (16 * PL)) 64 (zw g 46 0 (y - y / nI (16 * PL) * nI (16 * PL)).toNatClampNeg (g 40007 0 0) (fun g8 => some (0, g8))))]
    have hsum : wh k + (if ix k = true then t.2.2.1 else 0) < 2000 := by split <;> omega
    rw [pk_rem (by omega) (by omega) (by omega)]
    show ∃ g', zi (nI (aOf PL (wh k) t.2.2.1 (ix k))) 64 (zw g 46 0 (nI (aOf PL (wh k) t.2.2.1 (ix k))).toNatClampNeg (g 40007 0 0) (fun g8 => some (0, g8))) = some (0, g') ∧ _
    rw [zi_nI (by omega) (by omega), show (nI (aOf PL (wh k) t.2.2.1 (ix k))).toNatClampNeg = aOf PL (wh k) t.2.2.1 (ix k) from nI_clamp (by omega), s2, zw_eq]
    refine ⟨_, rfl, ⟨fun i hi => ?_, by rw [zU_ne _ _ (by omega)]; exact s2, by rw [zU_ne _ _ (by omega)]; exact s3⟩, fun f i j x1 x2 x3 => by rw [zU_ne _ _ (by omega)]⟩
    dsimp only
    by_cases z : i = aOf PL (wh k) t.2.2.1 (ix k)
    · rw [if_pos z, z, zU_self]
    · rw [if_neg z, zU_ne _ _ (by omega)]; exact s1 i hi
  · have hwl := w4 (by omega)
    obtain ⟨d3, d4⟩ := d2 (by omega)
    rw [e]
    unfold X7_plus
    simp only [nI_inj (show 5 < 2 ^ 31 by omega) (show 0 < 2 ^ 31 by omega), nI_inj (show 5 < 2 ^ 31 by omega) (show 1 < 2 ^ 31 by omega), nI_inj (show 5 < 2 ^ 31 by omega) (show 2 < 2 ^ 31 by omega), nI_inj (show 5 < 2 ^ 31 by omega) (show 3 < 2 ^ 31 by omega), nI_inj (show 5 < 2 ^ 31 by omega) (show 4 < 2 ^ 31 by omega), show ¬ (5 = 0) by omega, show ¬ (5 = 1) by omega, show ¬ (5 = 2) by omega, show ¬ (5 = 3) by omega, show ¬ (5 = 4) by omega, if_true, if_false, ite_self, s2, d3, nI_add]
    rw [pk_rem (by omega) (by omega) (by omega), Nat.add_mod_right, zc_some, zw_eq]
    exact ⟨_, rfl, ⟨fun i hi => by rw [zU_ne _ _ (by omega)]; exact s1 i hi, by rw [zU_self], by rw [zU_ne _ _ (by omega)]; exact s3⟩, fun f i j x1 x2 x3 => by rw [zU_ne _ _ (by omega)]⟩
  · have hwl := w4 (by omega)
    obtain ⟨d3, d4⟩ := d2 (by omega)
    rw [e]
    unfold X7_plus
    simp only [nI_inj (show 6 < 2 ^ 31 by omega) (show 0 < 2 ^ 31 by omega), nI_inj (show 6 < 2 ^ 31 by omega) (show 1 < 2 ^ 31 by omega), nI_inj (show 6 < 2 ^ 31 by omega) (show 2 < 2 ^ 31 by omega), nI_inj (show 6 < 2 ^ 31 by omega) (show 3 < 2 ^ 31 by omega), nI_inj (show 6 < 2 ^ 31 by omega) (show 4 < 2 ^ 31 by omega), nI_inj (show 6 < 2 ^ 31 by omega) (show 5 < 2 ^ 31 by omega), show ¬ (6 = 0) by omega, show ¬ (6 = 1) by omega, show ¬ (6 = 2) by omega, show ¬ (6 = 3) by omega, show ¬ (6 = 4) by omega, show ¬ (6 = 5) by omega, if_true, if_false, ite_self, s2, d3]
    rw [nI_subm (by omega), pk_rem (by omega) (by omega) (by omega), zc_some, zw_eq]
    exact ⟨_, rfl, ⟨fun i hi => by rw [zU_ne _ _ (by omega)]; exact s1 i hi, by rw [zU_self], by rw [zU_ne _ _ (by omega)]; exact s3⟩, fun f i j x1 x2 x3 => by rw [zU_ne _ _ (by omega)]⟩
