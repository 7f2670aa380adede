/-! ===== the class' askings, its room, a line written back ===== -/
theorem nI_or16 : ∀ a, a < 16 → ∀ b, b < 16 → nI a ||| nI b = nI (a ||| b) ∧ a ||| b < 16 := by decide +kernel
theorem EndE.or2 {e0 r u : Nat} {x : Int32} (h : EndE e0 r x) (hu : u < 16) : EndE e0 (r ||| u) (x ||| nI u) := by
  obtain ⟨e1, h1, rfl, h3⟩ := h
  obtain ⟨a, b⟩ := nI_or16 e1 h1 u hu
  refine ⟨e1 ||| u, b, a, fun j hj => ?_⟩
  rw [Nat.testBit_or, Nat.testBit_or, Bool.or_eq_true, Bool.or_eq_true, h3 j hj, or_assoc]
theorem EndE.self {e0 : Nat} (h : e0 < 16) : EndE e0 0 (nI e0) := ⟨e0, h, rfl, fun j _ => by simp⟩
theorem c_askLoop {S W PL NC r c v : Nat} {g : zG} {m : Rw} {K : Nat → Int32 → zG → zR0} (hz : Siz4 S W PL NC) (h : Sim S W PL NC r g m) (hc : c < NC) (hv : v < 16) (hvn : ∀ j, v.testBit j = true → j < NC) :
    ((∀ o, o < 4 → v.testBit o = true → m (cat c 5) < m (cat o 5)) → X3_ask_l53 K zfuel r (nI c) (nI v) (nI 0) g = K r (nI v) g) ∧ ((∃ o, v.testBit o = true ∧ ¬ m (cat c 5) < m (cat o 5)) → X3_ask_l53 K zfuel r (nI c) (nI v) (nI 0) g = some (nI 2, g)) := by
  obtain ⟨p1, p2, p3, p4, p5, p6, p7, p8⟩ := id hz
  have ag : ∀ o, o < NC → g 7005 (4 * r + o) 0 = m (cat o 5) := fun o ho => (h.2.2.1 o ho).2.2.2.2.2.2.1
  refine loopN (M := fun n i h => X3_ask_l53 K n r (nI c) (nI v) (nI i) h) 4 (fun i h => h = g ∧ ∀ o, o < i → v.testBit o = true → m (cat c 5) < m (cat o 5)) (fun x => ((∀ o, o < 4 → v.testBit o = true → m (cat c 5) < m (cat o 5)) → x = K r (nI v) g) ∧ ((∃ o, v.testBit o = true ∧ ¬ m (cat c 5) < m (cat o 5)) → x = some (nI 2, g))) ?_ ?_ (i0 := 0) ⟨rfl, fun o ho => by omega⟩ (by omega) (zfuel_ge (by omega))
  · rintro n i h' hi ⟨he, h2⟩
    rw [he]
    have hbt := bit_test v hv i hi
    have hlt : nI i < nI 4 := by rw [nI_lti (by omega) (by omega)]; exact hi
    rw [X3_ask_l53.eq_2, if_pos hlt]
    by_cases e : v.testBit i = true
    · have hiN := hvn i e
      rw [if_pos (hbt.mpr e)]
      have a1 := ag i hiN
      have a2 := ag c hc
      simp (disch := omega) only [zc_some, zw_eq, zi_nI, nI_clamp, nI_add, nI_1, nI_lti, nI_inj, nI_ltz, nI_eq0, nI_0lt, nI_ne_m1, nI_ne_m2, nI_m1_ne, nI_m2_ne, if_true, if_false, zU_eq, zU_ne, Nat.add_zero, pk_mul, hi, show c < 4 by omega, a1, a2, X3_ask_b94]
      by_cases e5 : m (cat c 5) < m (cat i 5)
      · left
        rw [if_pos e5]
        refine ⟨g, ⟨rfl, fun o ho hb => ?_⟩, rfl⟩
        by_cases z : o = i
        · rw [z]; exact e5
        · exact h2 o (by omega) hb
      · right
        rw [if_neg e5]
        exact ⟨fun z => absurd (z i hi e) e5, fun _ => rfl⟩
    · left
      rw [if_neg (fun z => e (hbt.mp z))]
      unfold X3_ask_b94
      refine ⟨g, ⟨rfl, fun o ho hb => ?_⟩, by rw [nI_add]⟩
      by_cases z : o = i
      · subst z; exact absurd hb e
      · exact h2 o (by omega) hb
  · rintro n h' ⟨he, h2⟩
    rw [he, X3_ask_l53.eq_2, if_neg (by rw [nI_lti (by omega) (by omega)]; omega)]
    refine ⟨fun _ => rfl, ?_⟩
    rintro ⟨o, z1, z2⟩
    have := hvn o z1
    exact absurd (h2 o (by omega) z1) z2
theorem c_ask {S W PL NC r c ℓ rule how rr e0 : Nat} {b : Bool} {g : zG} {m m' : Rw} (hz : Siz4 S W PL NC) (h : Sim S W PL NC r g m) (hp : PI S W PL NC m) (hc : c < NC) (hℓ : ℓ ≤ 16) (hr : g 8003 r 0 = nI rule) (hr2 : rule ≤ 2) (he0 : e0 < 16) (hE : g 12003 r 0 = nI e0) (hd : DecR S W NC rule (g 9003 r 0) c ℓ b m how rr m') :
    ∃ g', X3_ask r (nI c) (nI ℓ) (bI b) g = some (nI how, g') ∧ Sim S W PL NC r g' m' ∧ PI S W PL NC m' ∧ FrC r g g' ∧ EndE e0 rr (g' 12003 r 0) := by
  obtain ⟨p1, p2, p3, p4, p5, p6, p7, p8⟩ := id hz
  have hp' := PI_Dec hz.siz (show c < 4 by omega) hd hp
  obtain ⟨v, hv, hd⟩ := hd
  have hvn : ∀ j, v.testBit j = true → j < NC := fun j hj => by
    by_cases z : j < 4
    · exact ((hv.2 j z).mp hj).1
    · rw [bit_ge v hv.1 j (by omega)] at hj; cases hj
  have hm := c_marking hz h hc hp.lok hp.mk hℓ hv
  have red : X3_ask r (nI c) (nI ℓ) (bI b) g = (if v = 0 then some (nI 1, g) else if rule = 2 then zc (X3_endTries r (nI 1 <<< (nI c &&& 31)) (nI 0) g) (fun x g => some (nI 3, g)) else if rule = 1 then X3_ask_l53 (fun (r0 : Nat) (v4 : Int32) g => X3_ask_b100 r0 v4 g) zfuel r (nI c) (nI v) (nI 0) g else X3_ask_b100 r (nI v) g) := by
    have hv16 := hv.1
    have red1 : X3_ask r (nI c) (nI ℓ) (bI b) g = X3_ask_b12 r (nI c) r (nI c) (nI ℓ) (bI (!b)) g := by
      unfold X3_ask
      cases b with
      | false => rw [if_pos (by decide)]; rfl
      | true => rw [if_neg (by decide)]; rfl
    rw [red1]
    unfold X3_ask_b12
    rw [hm]
    simp (disch := omega) only [zc_some, zw_eq, zi_nI, nI_clamp, nI_add, nI_1, nI_lti, nI_inj, nI_ltz, nI_eq0, nI_0lt, nI_ne_m1, nI_ne_m2, nI_m1_ne, nI_m2_ne, if_true, if_false, zU_eq, zU_ne, Nat.add_zero, pk_mul, hr]
  rw [red]
  have hE0 : EndE e0 0 (g 12003 r 0) := by rw [hE]; exact EndE.self he0
  rcases hd with ⟨rfl, rfl, rfl, rfl⟩ | ⟨z, rfl, ho, rfl, rfl, rfl⟩ | ⟨z, rfl, rfl, rfl, he⟩ | ⟨z, hr0, ha, rfl, hrv, he⟩
  · exact ⟨g, by rw [if_pos rfl], h, hp, FrC.rfl' r g, hE0⟩
  · refine ⟨g, ?_, h, hp, FrC.rfl' r g, hE0⟩
    rw [if_neg z, if_neg (by omega), if_pos rfl]
    refine (c_askLoop hz h hc hv.1 hvn).2 ?_
    obtain ⟨o, o1, o2, o3⟩ := ho
    exact ⟨o, (hv.2 o (by omega)).mpr ⟨o1, o2⟩, o3⟩
  · obtain ⟨g', k1, k2, k3, k4⟩ := c_endOne hz h hp hc (show 0 < 4 by omega) he
    refine ⟨g', ?_, k2, hp', k3, ?_⟩
    · rw [if_neg z, if_pos rfl, k1]; rfl
    · rw [k4]
      have := hE0.or2 (pow_lt16 c (by omega))
      rwa [Nat.zero_or] at this
  · obtain ⟨g', k1, k2, k3, k4⟩ := c_endTries hz h hp (show 0 < 4 by omega) hv.1 hvn he
    have fin : X3_ask_b100 r (nI v) g = some (nI 1, g') := by
      unfold X3_ask_b100
      rw [k1]; rfl
    refine ⟨g', ?_, k2, hp', k3, ?_⟩
    · rw [if_neg z, if_neg hr0]
      by_cases e : rule = 1
      · rw [if_pos e, (c_askLoop hz h hc hv.1 hvn).1 (fun o ho hb => ha e o (hvn o hb) ((hv.2 o ho).mp hb).2)]
        exact fin
      · rw [if_neg e]; exact fin
    · rw [k4, hrv]
      have := hE0.or2 hv.1
      rwa [Nat.zero_or] at this
theorem CPar.setOf {S W PL NC : Nat} {g : zG} (h : CPar S W PL NC g) {ℓ : Nat} (hℓ : ℓ ≤ 16) : X2_setOf 0 (nI ℓ) g = some (nI (ℓ % S), g) := by
  obtain ⟨⟨p1, p2, p3, p4, p5, p6, p7, p8⟩, q1, q2, q3, q4⟩ := h
  unfold X2_setOf
  simp (disch := omega) only [zc_some, zw_eq, zi_nI, nI_clamp, nI_add, nI_1, nI_lti, nI_inj, nI_ltz, nI_eq0, nI_0lt, nI_ne_m1, nI_ne_m2, nI_m1_ne, nI_m2_ne, if_true, if_false, zU_eq, zU_ne, Nat.add_zero, pk_mul, q1, pk_rem, p1, show ¬ S = 0 by omega]
theorem c_findRoom {S W PL NC r c ℓ : Nat} {g : zG} {m : Rw} (hP : CPar S W PL NC g) (h : Sim S W PL NC r g m) (hc : c < NC) (hℓ : ℓ ≤ 16) : X0_findRoom (4 * r + c) (nI ℓ) g = some (cpO S W ℓ (sroom m (pos c (ℓ % S)) W 0 none), g) := by
  have hz := hP.1
  have hset := hP.setOf hℓ
  obtain ⟨⟨p1, p2, p3, p4, p5, p6, p7, p8⟩, q1, q2, q3, q4⟩ := hP
  have h16 := pl_16 hz
  have hs : ℓ % S < S := Nat.mod_lt _ p1
  unfold X0_findRoom
  rw [hset, zc_some, q2, pk_mul]
  have key : ∀ d n i best, i + d = W → d < n → (∀ j, best = some j → j < W ∧ m (pos c (ℓ % S) j) ≠ -2) → X0_findRoom_l22 n (4 * r + c) (nI (ℓ % S * W)) (cpO S W ℓ best) (nI (ℓ % S * W + i)) g = some (cpO S W ℓ (sroom m (pos c (ℓ % S)) d i best), g) := by
    intro d
    induction d with
    | zero =>
      intro n i best h1 h2 _
      obtain ⟨n, rfl⟩ : ∃ k, n = k + 1 := ⟨n - 1, by omega⟩
      have hi : i = W := by omega
      have := pl_lt hs (show W - 1 < W by omega)
      rw [X0_findRoom_l22.eq_2, hi]
      simp (disch := omega) only [zc_some, zw_eq, zi_nI, nI_clamp, nI_add, nI_1, nI_lti, nI_inj, nI_ltz, nI_eq0, nI_0lt, nI_ne_m1, nI_ne_m2, nI_m1_ne, nI_m2_ne, if_true, if_false, zU_eq, zU_ne, Nat.add_zero, pk_mul, q2, Nat.lt_irrefl]
      rfl
    | succ d ih =>
      intro n i best h1 h2 hbst
      obtain ⟨n, rfl⟩ : ∃ k, n = k + 1 := ⟨n - 1, by omega⟩
      have hi : i < W := by omega
      have hlt := pl_lt hs hi
      obtain ⟨e0, -, e2, e3, -, e4, -⟩ := h.1 c (ℓ % S) i hc hs hi (by omega)
      have ih2 := ih n (i + 1) best (by omega) (by omega) hbst
      rw [← Nat.add_assoc] at ih2
      rw [X0_findRoom_l22.eq_2]
      simp (disch := omega) only [zc_some, zw_eq, zi_nI, nI_clamp, nI_add, nI_1, nI_lti, nI_inj, nI_ltz, nI_eq0, nI_0lt, nI_ne_m1, nI_ne_m2, nI_m1_ne, nI_m2_ne, if_true, if_false, zU_eq, zU_ne, Nat.add_zero, pk_mul, q2, show ℓ % S * W + i < ℓ % S * W + W by omega, show ℓ % S * W + i < 16 by omega, e0, e2, e3, X0_findRoom_b110, X0_findRoom_b107, ih2]
      rw [sroom]
      by_cases z0 : m (pos c (ℓ % S) i) = -2
      · rw [if_pos z0, if_pos z0]; rfl
      · have ih1 : X0_findRoom_l22 n (4 * r + c) (nI (ℓ % S * W)) (nI (ℓ % S * W + i)) (nI (ℓ % S * W + i + 1)) g = some (cpO S W ℓ (sroom m (pos c (ℓ % S)) d (i + 1) (some i)), g) := ih n (i + 1) (some i) (by omega) (by omega) (fun j hj => by cases hj; exact ⟨hi, z0⟩)
        rw [if_neg z0, if_neg z0, ih1]
        by_cases z2 : m (pos c (ℓ % S) i + 2) = 0
        · by_cases z3 : m (pos c (ℓ % S) i + 3) = 0
          · rw [if_pos z2, if_pos z3]
            cases best with
            | none =>
              rw [if_pos (show cpO S W ℓ none = -1 from rfl), if_pos ⟨z2, z3, rfl⟩]
            | some j =>
              obtain ⟨j1, j2⟩ := hbst j rfl
              have hltj := pl_lt hs j1
              obtain ⟨-, -, -, -, -, f4, -⟩ := h.1 c (ℓ % S) j hc hs j1 (by omega)
              simp only [cpO]
              simp (disch := omega) only [zc_some, zw_eq, zi_nI, nI_clamp, nI_add, nI_1, nI_lti, nI_inj, nI_ltz, nI_eq0, nI_0lt, nI_ne_m1, nI_ne_m2, nI_m1_ne, nI_m2_ne, if_true, if_false, zU_eq, zU_ne, Nat.add_zero, pk_mul, e4 z0, f4 j2]
              by_cases z4 : m (pos c (ℓ % S) i + 4) < m (pos c (ℓ % S) j + 4)
              · rw [if_pos z4, if_pos ⟨z2, z3, by simp [sbet, z4]⟩]
              · rw [if_neg z4, if_neg (fun z => z4 (by simpa [sbet] using z.2.2))]
                try rfl
          · rw [if_pos z2, if_neg z3, if_neg (fun z => z3 z.2.1)]
        · rw [if_neg z2, if_neg (fun z => z2 z.1)]
  exact key W zfuel 0 none (by omega) (zfuel_ge (by omega)) (fun j hj => by cases hj)
/-- a line is written back -/
theorem X0_wordIn_ok {q p k : Nat} (g : zG) (hp : p < 16) (hk : k < 4) : X0_wordIn q (nI p) (nI k) g = some (g 27 q (4 * p + k), g) := by
  unfold X0_wordIn
  simp (disch := omega) only [zc_some, zw_eq, zi_nI, nI_clamp, nI_add, nI_1, nI_lti, nI_inj, nI_ltz, nI_eq0, nI_0lt, nI_ne_m1, nI_ne_m2, nI_m1_ne, nI_m2_ne, if_true, if_false, zU_eq, zU_ne, Nat.add_zero, pk_mul, Nat.mul_comm p 4, show 4 * p + k < 64 by omega]
theorem X0_setWord_ok {q p k : Nat} (g : zG) (v : Int32) (hp : p < 16) (hk : k < 4) : X0_setWord q (nI p) (nI k) v g = some (0, zU g 27 q (4 * p + k) v) := by
  unfold X0_setWord
  simp (disch := omega) only [zc_some, zw_eq, zi_nI, nI_clamp, nI_add, nI_1, nI_lti, nI_inj, nI_ltz, nI_eq0, nI_0lt, nI_ne_m1, nI_ne_m2, nI_m1_ne, nI_m2_ne, if_true, if_false, zU_eq, zU_ne, Nat.add_zero, pk_mul, Nat.mul_comm p 4, show 4 * p + k < 64 by omega]
theorem mul_le_68 {PL ℓ : Nat} (h : PL ≤ 4) (hl : ℓ ≤ 16) : ℓ * PL + PL ≤ 68 := by
  have : (ℓ + 1) * PL ≤ 17 * 4 := Nat.mul_le_mul (by omega) h
  rw [Nat.add_mul, Nat.one_mul] at this
  omega
theorem X3_writeBack_ok {S W PL NC r q p ℓ : Nat} {g : zG} (hP : CPar S W PL NC g) (hp : p < 16) (hl : g 22 q p = nI ℓ) (hℓ : ℓ ≤ 16) :
    ∃ g', X3_writeBack r q (nI p) g = some (0, g') ∧ (∀ i, g' 17 r i = if ℓ * PL ≤ i ∧ i < ℓ * PL + PL then g 27 q (4 * p + (i - ℓ * PL)) else g 17 r i) ∧ g' 20 r 1 = g 20 r 1 + nI 1 ∧ ∀ f i j, ¬ (i = r ∧ (f = 17 ∨ (f = 20 ∧ j = 1))) → g' f i j = g f i j := by
  obtain ⟨⟨p1, p2, p3, p4, p5, p6, p7, p8⟩, q1, q2, q3, q4⟩ := hP
  have hml := mul_le_68 p6 hℓ
  unfold X3_writeBack
  simp (disch := omega) only [zc_some, zw_eq, zi_nI, nI_clamp, nI_add, nI_1, nI_lti, nI_inj, nI_ltz, nI_eq0, nI_0lt, nI_ne_m1, nI_ne_m2, nI_m1_ne, nI_m2_ne, if_true, if_false, zU_eq, zU_ne, Nat.add_zero, pk_mul, hp]
  refine loopN (M := fun n i h => X3_writeBack_l13 n r q (nI p) (nI i) h) PL (fun k h => (∀ i, h 17 r i = if ℓ * PL ≤ i ∧ i < ℓ * PL + k then g 27 q (4 * p + (i - ℓ * PL)) else g 17 r i) ∧ ∀ f i j, ¬ (i = r ∧ f = 17) → h f i j = g f i j) (fun o => ∃ g', o = some (0, g') ∧ (∀ i, g' 17 r i = if ℓ * PL ≤ i ∧ i < ℓ * PL + PL then g 27 q (4 * p + (i - ℓ * PL)) else g 17 r i) ∧ g' 20 r 1 = g 20 r 1 + nI 1 ∧ ∀ f i j, ¬ (i = r ∧ (f = 17 ∨ (f = 20 ∧ j = 1))) → g' f i j = g f i j) ?_ ?_ (i0 := 0) ⟨fun i => by rw [if_neg (by omega)], fun _ _ _ _ => rfl⟩ (by omega) (zfuel_ge (by omega))
  · rintro n k h hk ⟨h1, h2⟩
    left
    have a3 : h 3001 0 0 = nI PL := by rw [h2 _ _ _ (by omega)]; exact q3
    have a22 : h 22 q p = nI ℓ := by rw [h2 _ _ _ (by omega)]; exact hl
    have a27 : h 27 q (4 * p + k) = g 27 q (4 * p + k) := h2 _ _ _ (by omega)
    refine ⟨zU h 17 r (ℓ * PL + k) (g 27 q (4 * p + k)), ⟨fun i => ?_, fun f i j hf => ?_⟩, ?_⟩
    · by_cases z : i = ℓ * PL + k
      · rw [z, zU_self, if_pos (by omega)]
        congr 1; omega
      · rw [zU_ne _ _ (by omega), h1 i]
        by_cases z2 : ℓ * PL ≤ i ∧ i < ℓ * PL + k
        · rw [if_pos z2, if_pos (by omega)]
        · rw [if_neg z2, if_neg (show ¬ (ℓ * PL ≤ i ∧ i < ℓ * PL + (k + 1)) by omega)]
    · rw [zU_ne _ _ (by omega)]; exact h2 f i j hf
    · rw [X3_writeBack_l13.eq_2]
      have hw := X0_wordIn_ok (q := q) (p := p) (k := k) h hp (by omega)
      simp (disch := omega) only [zc_some, zw_eq, zi_nI, nI_clamp, nI_add, nI_1, nI_lti, nI_inj, nI_ltz, nI_eq0, nI_0lt, nI_ne_m1, nI_ne_m2, nI_m1_ne, nI_m2_ne, if_true, if_false, zU_eq, zU_ne, Nat.add_zero, pk_mul, a3, a22, hk, hw, a27, show ℓ * PL + k < 68 by omega, X3_writeBack_b67]
  · rintro n h ⟨h1, h2⟩
    have a3 : h 3001 0 0 = nI PL := by rw [h2 _ _ _ (by omega)]; exact q3
    have a20 : h 20 r 1 = g 20 r 1 := h2 _ _ _ (by omega)
    rw [X3_writeBack_l13.eq_2]
    simp (disch := omega) only [zc_some, zw_eq, zi_nI, nI_clamp, nI_add, nI_1, nI_lti, nI_inj, nI_ltz, nI_eq0, nI_0lt, nI_ne_m1, nI_ne_m2, nI_m1_ne, nI_m2_ne, if_true, if_false, zU_eq, zU_ne, Nat.add_zero, pk_mul, a3, Nat.lt_irrefl]
    refine ⟨_, rfl, fun i => ?_, by rw [zU_self, a20], fun f i j hf => ?_⟩
    · rw [zU_ne _ _ (by omega)]; exact h1 i
    · rw [zU_ne _ _ (by omega)]; exact h2 f i j (by omega)
/-- .. and the row's line as well -/
theorem c_writeBack {S W PL NC r c0 s0 w0 c s w ℓ : Nat} {g : zG} {m : Rw} (hP : CPar S W PL NC g) (h : SimH S W PL NC r c0 s0 w0 g m) (hc : c < NC) (hs : s < S) (hw : w < W) (hne : ¬ (c = c0 ∧ s = s0 ∧ w = w0)) (hl : m (pos c s w) = nI ℓ) (hℓ : ℓ ≤ 16) :
    ∃ g', X3_writeBack r (4 * r + c) (nI (s * W + w)) g = some (0, g') ∧ SimH S W PL NC r c0 s0 w0 g' (rWB PL m (pos c s w)) ∧ FrC r g g' ∧ g' 12003 r 0 = g 12003 r 0 ∧ ∀ f i j, 22 ≤ f ∧ f ≤ 28 → g' f i j = g f i j := by
  have hz := hP.1
  obtain ⟨p1, p2, p3, p4, p5, p6, p7, p8⟩ := id hz
  have h16 := pl_16 hz
  have hlt := pl_lt hs hw
  obtain ⟨e0, -, -, -, -, -, e7⟩ := h.1 c s w hc hs hw hne
  have hcl : (m (pos c s w)).toNatClampNeg = ℓ := by rw [hl]; exact nI_clamp (by omega)
  have n2 : m (pos c s w) ≠ -2 := by rw [hl]; exact fun z => by rw [nI_ne_m2 (by omega)] at z; exact z
  have n16 : m (pos c s w) ≠ nI 16 ↔ ℓ ≠ 16 := by rw [hl, ne_eq, nI_inj (by omega) (by omega)]
  obtain ⟨g', k1, k2, k3, k4⟩ := X3_writeBack_ok (r := r) hP (q := 4 * r + c) (p := s * W + w) (by omega) (by rw [e0]; exact hl) hℓ
  have out : ∀ i, i ≠ 2 → ¬ (254 ≤ i ∧ i < 318) → rWB PL m (pos c s w) i = m i := fun i a b => rWB_out p6 hl hℓ a b
  have at2 : rWB PL m (pos c s w) 2 = m 2 + nI 1 := by
    unfold rWB
    rw [if_neg (by omega), if_pos rfl]
  refine ⟨g', k1, SimH_sh hz h (fun f i j _ hf => k4 f i j (by omega)) (fun i hi => out i (by omega) (by omega)) ?_, fun f i j hf => k4 f i j (fun z => hf (by unfold ofRun; omega)), k4 _ _ _ (by omega), fun f i j hf => k4 f i j (by omega)⟩
  obtain ⟨h1, h2, ⟨n, h3, h4, h5, h6⟩, h7, h8⟩ := h.2.2.2.1
  refine ⟨fun a ha => ?_, fun k hk => ?_, ⟨n, h3, ?_, ?_, fun i hi => ?_⟩, ?_, ?_⟩
  · rw [k2]
    unfold rWB
    rw [hcl, Nat.mul_comm PL ℓ]
    by_cases z : ℓ * PL ≤ a ∧ a < ℓ * PL + PL
    · have hne16 : ℓ ≠ 16 := fun y => by subst y; omega
      rw [if_pos z, if_pos ⟨n16.mpr hne16, by omega, by omega⟩, e7 n2 (n16.mpr hne16) _ (by omega)]
      congr 1; omega
    · rw [if_neg z, if_neg (by omega), if_neg (by omega)]; exact h1 a ha
  · by_cases z : k = 1
    · subst z; rw [k3, at2, h2 1 (by omega)]
    · rw [k4 _ _ _ (by omega), out _ (by omega) (by omega)]; exact h2 k hk
  · rw [out _ (by omega) (by omega)]; exact h4
  · rw [k4 _ _ _ (by omega)]; exact h5
  · rw [k4 _ _ _ (by omega), out _ (by omega) (by omega)]; exact h6 i hi
  · rw [k4 _ _ _ (by omega), out _ (by omega) (by omega)]; exact h7
  · rw [k4 _ _ _ (by omega), out _ (by omega) (by omega)]; exact h8
