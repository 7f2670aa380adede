/-! ===== the class' reach ===== -/
theorem rBr_at {PL ℓ a : Nat} {b h : Bool} {m : Rw} (ha : 318 ≤ a) : rUse b a (rLay PL h a ℓ m) a = nI ℓ ∧ rUse b a (rLay PL h a ℓ m) (a + 1) = (if b = true then nI 3 else nI (if h = true then 1 else 2)) ∧ rUse b a (rLay PL h a ℓ m) (a + 2) = nI 0 ∧ rUse b a (rLay PL h a ℓ m) (a + 3) = nI 0 ∧ rUse b a (rLay PL h a ℓ m) (a + 4) = m 0 ∧
    (∀ k, k < PL → PL ≤ 4 → ℓ ≠ 16 → rUse b a (rLay PL h a ℓ m) (a + 5 + k) = m (254 + PL * ℓ + k)) ∧ ∀ i, (∀ f, f < 9 → i ≠ a + f) → PL ≤ 4 → rUse b a (rLay PL h a ℓ m) i = upd m 1 (m 1 + nI 1) i := by
  have l0 : rLay PL h a ℓ m a = nI ℓ := by unfold rLay; rw [if_pos rfl]
  have l1 : rLay PL h a ℓ m (a + 1) = nI (if h = true then 1 else 2) := by unfold rLay; rw [if_neg (by omega), if_pos rfl]
  have l2 : rLay PL h a ℓ m (a + 2) = nI 0 := by unfold rLay; rw [if_neg (by omega), if_neg (by omega), if_pos rfl]
  have l3 : rLay PL h a ℓ m (a + 3) = nI 0 := by unfold rLay; rw [if_neg (by omega), if_neg (by omega), if_neg (by omega), if_pos rfl]
  have lz : rLay PL h a ℓ m 0 = m 0 := rLay_low ha (by omega) (by omega)
  have out : ∀ i, i ≠ a + 1 → i ≠ a + 4 → rUse b a (rLay PL h a ℓ m) i = rLay PL h a ℓ m i := fun i h1 h4 => by
    unfold rUse
    try dsimp only
    rw [upd_ne h4]
    split
    · rw [upd_ne h1]
    · rfl
  refine ⟨?_, ?_, ?_, ?_, ?_, fun k hk hPL hne => ?_, fun i hi hPL => ?_⟩
  · rw [out _ (by omega) (by omega)]; exact l0
  · unfold rUse
    try dsimp only
    rw [upd_ne (by omega)]
    cases b with
    | true => rw [if_pos rfl, if_pos rfl, upd_eq rfl]
    | false => rw [if_neg (by decide), if_neg (by decide)]; exact l1
  · rw [out _ (by omega) (by omega)]; exact l2
  · rw [out _ (by omega) (by omega)]; exact l3
  · unfold rUse
    try dsimp only
    rw [upd_eq rfl]
    split
    · rw [upd_ne (by omega)]; exact lz
    · exact lz
  · rw [out _ (by omega) (by omega)]
    unfold rLay
    rw [if_neg (by omega), if_neg (by omega), if_neg (by omega), if_neg (by omega), if_pos ⟨hne, by omega, by omega⟩]
    congr 1; omega
  · have i0 := hi 0 (by omega)
    have i1 := hi 1 (by omega)
    have i2 := hi 2 (by omega)
    have i3 := hi 3 (by omega)
    have i4 := hi 4 (by omega)
    have i5 := hi 5 (by omega)
    have i6 := hi 6 (by omega)
    have i7 := hi 7 (by omega)
    have i8 := hi 8 (by omega)
    rw [out _ i1 i4]
    unfold rLay upd
    rw [if_neg (by omega), if_neg (by omega), if_neg (by omega), if_neg (by omega), if_neg (by omega)]
theorem SimH.time {S W PL NC r c0 s0 w0 : Nat} {g : zG} {m : Rw} (h : SimH S W PL NC r c0 s0 w0 g m) : g 10003 r 0 = m 0 := h.2.2.2.1.2.2.2.2
theorem c_brings {S W PL NC r c ℓ e0 rr : Nat} {b : Bool} {o : Option Nat} {g : zG} {m m' : Rw} (hP : CPar S W PL NC g) (h : Sim S W PL NC r g m) (hp : PI S W PL NC m) (hc : c < NC) (hℓ : ℓ ≤ 16) (hE : EndE e0 rr (g 12003 r 0)) (hb : BrgR S W PL NC (g 9003 r 0) c ℓ b m o m') :
    ∃ g', zc (X0_find (4 * r + c) (nI ℓ) g) (fun x6 g7 => if x6 = -1 then X3_reach_b45 r (nI c) (nI ℓ) (bI b) (4 * r + c) x6 (nI 1) g7 else X3_reach_b45 r (nI c) (nI ℓ) (bI b) (4 * r + c) x6 (nI 0) g7) = some (nI (if o = none then 3 else 1), g') ∧ Sim S W PL NC r g' m' ∧ FrC r g g' ∧ EndE e0 (if o = none then rr ||| 2 ^ c else rr) (g' 12003 r 0) := by
  have hz := hP.1
  obtain ⟨p1, p2, p3, p4, p5, p6, p7, p8⟩ := id hz
  have h16 := pl_16 hz
  have hs : ℓ % S < S := Nat.mod_lt _ p1
  have hln := @BrgR_line S W PL NC c ℓ
  obtain ⟨o0, hf, hb'⟩ := id hb
  have hfi := c_find hz h hc (by omega) hp.lok hℓ hf
  rw [hfi, zc_some]
  rcases hb' with ⟨rfl, hr, rfl, he⟩ | ⟨w, m2, hh, rfl, hr, rfl, hw, ho, he⟩ | ⟨w, m2, hh, rfl, rfl, hw, ho, he⟩
  · rw [if_pos (show cpO S W ℓ none = -1 from rfl)]
    have hroom := c_findRoom hP h hc hℓ
    rw [hr] at hroom
    obtain ⟨g', k1, k2, k3, k4⟩ := c_endOne hz h hp hc (show 1 < 4 by omega) he
    refine ⟨g', ?_, k2, k3, ?_⟩
    · unfold X3_reach_b45
      rw [if_neg (by decide), hroom]
      simp only [cpO, zc_some, if_true, k1]
    · rw [if_pos rfl, k4]
      exact hE.or2 (pow_lt16 c (by omega))
  · rw [if_pos (show cpO S W ℓ none = -1 from rfl)]
    have hlt := pl_lt hs hw
    have hroom := c_findRoom hP h hc hℓ
    rw [hr] at hroom
    have ga := pos_ge c (ℓ % S) w
    obtain ⟨a0, a1, a2, a3, a4, a5, a6⟩ := h.1 c (ℓ % S) w hc hs hw (by omega)
    -- the line that goes
    obtain ⟨gW, w1, w2, w3, w4⟩ : ∃ gW, Sim S W PL NC r gW (if m (pos c (ℓ % S) w) ≠ -2 ∧ m (pos c (ℓ % S) w + 1) = nI 3 then rWB PL m (pos c (ℓ % S) w) else m) ∧ FrC r g gW ∧ gW 12003 r 0 = g 12003 r 0 ∧ X3_reach_b45 r (nI c) (nI ℓ) (bI b) (4 * r + c) (cpO S W ℓ none) (nI 1) g = X3_reach_b96 r (nI c) (nI ℓ) (bI b) (4 * r + c) (nI (ℓ % S * W + w)) (nI 1) gW := by
      have red : X3_reach_b45 r (nI c) (nI ℓ) (bI b) (4 * r + c) (cpO S W ℓ none) (nI 1) g = (if g 23 (4 * r + c) (ℓ % S * W + w) = nI 3 then zc (X3_writeBack r (4 * r + c) (nI (ℓ % S * W + w)) g) (fun x4 g5 => X3_reach_b96 r (nI c) (nI ℓ) (bI b) (4 * r + c) (nI (ℓ % S * W + w)) (nI 1) g5) else X3_reach_b96 r (nI c) (nI ℓ) (bI b) (4 * r + c) (nI (ℓ % S * W + w)) (nI 1) g) := by
        unfold X3_reach_b45
        rw [if_neg (by decide), hroom]
        simp only [cpO]
        simp (disch := omega) only [zc_some, zw_eq, zi_nI, nI_clamp, nI_add, nI_1, nI_lti, nI_inj, nI_ltz, nI_eq0, nI_0lt, nI_ne_m1, nI_ne_m2, nI_m1_ne, nI_m2_ne, if_true, if_false, zU_eq, zU_ne, Nat.add_zero, pk_mul, show ℓ % S * W + w < 16 by omega]
      rw [red]
      by_cases e : m (pos c (ℓ % S) w) = -2
      · refine ⟨g, by rw [if_neg (fun z => z.1 e)]; exact h, FrC.rfl' r g, rfl, ?_⟩
        rw [(a4 e).1, if_neg (by decide)]
      · by_cases e3 : m (pos c (ℓ % S) w + 1) = nI 3
        · obtain ⟨ℓ', l1, l2, l3⟩ := (hp.lok c (ℓ % S) w hc hs hw).resolve_left e
          obtain ⟨gW, k1, k2, k3, k4, -⟩ := c_writeBack hP h hc hs hw (by omega) l3 l1
          refine ⟨gW, by rw [if_pos ⟨e, e3⟩]; exact k2, k3, k4, ?_⟩
          rw [a1, if_pos e3, k1, zc_some]
        · refine ⟨g, by rw [if_neg (fun z => e3 z.2)]; exact h, FrC.rfl' r g, rfl, ?_⟩
          rw [a1, if_neg e3]
    rw [w4]
    have hpW : PI S W PL NC (if m (pos c (ℓ % S) w) ≠ -2 ∧ m (pos c (ℓ % S) w + 1) = nI 3 then rWB PL m (pos c (ℓ % S) w) else m) := by
      split
      · exact PI_WB hz.siz hc hs hw hp
      · exact hp
    generalize (if m (pos c (ℓ % S) w) ≠ -2 ∧ m (pos c (ℓ % S) w + 1) = nI 3 then rWB PL m (pos c (ℓ % S) w) else m) = mW at w1 hpW ho
    have hD := c_dropH hz w1 hc hs hw
    obtain ⟨fD1, fD2⟩ := @cDrop_fr r c (ℓ % S * W + w) gW (by omega)
    have hPD := (hP.fr w2).fr fD1
    obtain ⟨gO, j1, j2, j3, j4, j5, j6⟩ := c_changeOthers hPD hD (Or.inl rfl) hpW hc hℓ ho
    obtain ⟨gB, i1, i2, i3, i4, i5⟩ := X3_bringLine_ok (r := r) (q := 4 * r + c) (hPD.fr j4) (show ℓ % S * W + w < 16 by omega) hℓ
    obtain ⟨d1, d2, d3, d4, d5⟩ := cDrop_at gW (4 * r + c) (ℓ % S * W + w)
    obtain ⟨t0, t1, t2, t3, t4, t5, t6⟩ := @rBr_at PL ℓ (pos c (ℓ % S) w) b hh m2 ga
    have hT := c_traf (k := 0) (v := gO 20 r 0 + nI 1) hz j2 (by omega)
    have e201 : gO 20 r 0 = m2 1 := j2.2.2.2.1.2.1 0 (by omega)
    have eB : gB 10003 r 0 = m2 0 := by rw [i5 _ _ _ (by omega) (by omega)]; exact j2.time
    have fB : FrC r gO gB := fun f i j hf => i5 f i j (fun z => hf (by unfold ofRun; omega)) (fun z => hf (by unfold ofRun; omega))
    have fAll := ((w2.trans fD1).trans j4).trans fB
    have e12 : gB 12003 r 0 = g 12003 r 0 := by rw [i5 _ _ _ (by omega) (by omega), j5, fD2, w3]
    -- what is left: how, used
    have fin : ∀ G : zG, (∀ f i j, ¬ (i = 4 * r + c ∧ j = ℓ % S * W + w ∧ (f = 23 ∨ f = 26)) → G f i j = gB f i j) → G 23 (4 * r + c) (ℓ % S * W + w) = (if b = true then nI 3 else nI (if hh = true then 1 else 2)) → G 26 (4 * r + c) (ℓ % S * W + w) = m2 0 → Sim S W PL NC r G m' := by
      intro G G1 G2 G3
      rw [he]
      refine SimH_place hz hT hc hs hw (fun f i j hf0 hf => ?_) (fun i hi => ?_) (fun _ => ?_) (Or.inl ⟨rfl, rfl, rfl⟩)
      · rw [G1 f i j (by omega)]
        by_cases e : f = 20 ∧ i = r ∧ j = 0
        · obtain ⟨rfl, rfl, rfl⟩ := e
          rw [zU_self, i4]
        · rw [zU_ne _ _ (by omega), i5 f i j (by omega) (by omega)]
      · rw [t6 i hi p6, e201]
      · unfold PlS
        rw [t0, t1, t2, t3, t4, G2, G3, G1 22 _ _ (by omega), G1 24 _ _ (by omega), G1 25 _ _ (by omega), i2, i5 24 _ _ (by omega) (by omega), i5 25 _ _ (by omega) (by omega), j6 24 _ (by omega) (by omega), j6 25 _ (by omega) (by omega), d3, d4]
        refine ⟨rfl, rfl, rfl, rfl, fun z => absurd z (by rw [nI_ne_m2 (by omega)]; exact id), fun _ => rfl, fun _ z k hk => ?_⟩
        have hne : ℓ ≠ 16 := fun y => z (by rw [y])
        have hml := mul_le_64 p6 (show ℓ < 16 by omega)
        have hm2 : PL * ℓ + PL ≤ 16 * PL := by
          rw [Nat.mul_comm PL ℓ]
          have := Nat.mul_le_mul_right PL (show ℓ + 1 ≤ 16 by omega)
          rw [Nat.add_mul, Nat.one_mul] at this
          exact this
        rw [t5 k hk p6 hne, G1 27 _ _ (by omega), i3 k hk, Nat.mul_comm ℓ PL, j2.2.2.2.1.1 _ (by omega)]
        congr 1; omega
    have hdrop := X0_dropLine_ok (4 * r + c) (ℓ % S * W + w) gW (by omega)
    have red : X3_reach_b96 r (nI c) (nI ℓ) (bI b) (4 * r + c) (nI (ℓ % S * W + w)) (nI 1) gW = X3_reach_b143 r (bI b) (4 * r + c) (nI (ℓ % S * W + w)) (4 * r + c) (nI (ℓ % S * W + w)) (nI (if hh = true then 1 else 2)) gB := by
      unfold X3_reach_b96 X3_reach_b103
      rw [hdrop, zc_some]
      show zc (X3_changeOthers r (nI c) (nI ℓ) (bI b) (cDrop gW (4 * r + c) (ℓ % S * W + w))) _ = _
      rw [j1, zc_some, if_neg (by decide), i1, zc_some]
      cases hh with
      | true => rw [if_neg (by decide), if_pos rfl]
      | false => rw [if_pos (by decide), if_neg (by decide)]
    rw [red]
    unfold X3_reach_b143 X3_reach_b144 X3_reach_b157
    rw [if_neg (show ¬ ((some w : Option Nat) = none) by simp), if_neg (show ¬ ((some w : Option Nat) = none) by simp)]
    cases b with
    | false =>
      simp (disch := omega) only [zc_some, zw_eq, zi_nI, nI_clamp, nI_add, nI_1, nI_lti, nI_inj, nI_ltz, nI_eq0, nI_0lt, nI_ne_m1, nI_ne_m2, nI_m1_ne, nI_m2_ne, if_true, if_false, zU_eq, zU_ne, Nat.add_zero, pk_mul, show ℓ % S * W + w < 16 by omega, bI0]
      refine ⟨_, rfl, fin _ (fun f i j hf => by simp (disch := omega) only [zU_ne]) ?_ ?_, (fAll.u _ _ (by unfold ofRun; omega)).u _ _ (by unfold ofRun; omega), ?_⟩
      · rw [zU_ne _ _ (by omega), zU_self]; rfl
      · rw [zU_self]; exact eB
      · simp (disch := omega) only [zU_ne]; rw [e12]; exact hE
    | true =>
      simp (disch := omega) only [zc_some, zw_eq, zi_nI, nI_clamp, nI_add, nI_1, nI_lti, nI_inj, nI_ltz, nI_eq0, nI_0lt, nI_ne_m1, nI_ne_m2, nI_m1_ne, nI_m2_ne, if_true, if_false, zU_eq, zU_ne, Nat.add_zero, pk_mul, show ℓ % S * W + w < 16 by omega, bI1, show ¬ (1 = 0) by omega]
      refine ⟨_, rfl, fin _ (fun f i j hf => by simp (disch := omega) only [zU_ne]) ?_ ?_, ((fAll.u _ _ (by unfold ofRun; omega)).u _ _ (by unfold ofRun; omega)).u _ _ (by unfold ofRun; omega), ?_⟩
      · rw [zU_ne _ _ (by omega), zU_self]; rfl
      · rw [zU_self]; exact eB
      · simp (disch := omega) only [zU_ne]; rw [e12]; exact hE
  · have hlt := pl_lt hs hw
    have ga := pos_ge c (ℓ % S) w
    obtain ⟨gO, j1, j2, j3, j4, j5, j6⟩ := c_changeOthers hP h (Or.inr (Nat.le_refl _)) hp hc hℓ ho
    have l2 : m2 (pos c (ℓ % S) w) = nI ℓ := by
      have := (hln ⟨p1, p2⟩ (by omega) p6 hℓ p8 hc hb).2
      rw [he] at this
      rw [← this]
      unfold rUse
      try dsimp only
      rw [upd_ne (by omega)]
      split
      · rw [upd_ne (by omega)]
      · rfl
    have nn : ¬ (nI (ℓ % S * W + w) = -1) := by rw [nI_ne_m1 (by omega)]; exact id
    rw [if_neg (show ¬ (cpO S W ℓ (some w) = -1) from nn)]
    simp only [cpO]
    unfold X3_reach_b45 X3_reach_b103
    rw [if_pos (by decide), j1, zc_some, if_pos (by decide)]
    unfold X3_reach_b144 X3_reach_b157
    rw [if_neg (show ¬ ((some w : Option Nat) = none) by simp), if_neg (show ¬ ((some w : Option Nat) = none) by simp)]
    have et := j2.time
    cases b with
    | false =>
      simp (disch := omega) only [zc_some, zw_eq, zi_nI, nI_clamp, nI_add, nI_1, nI_lti, nI_inj, nI_ltz, nI_eq0, nI_0lt, nI_ne_m1, nI_ne_m2, nI_m1_ne, nI_m2_ne, if_true, if_false, zU_eq, zU_ne, Nat.add_zero, pk_mul, show ℓ % S * W + w < 16 by omega, bI0]
      refine ⟨_, rfl, ?_, j4.u _ _ (by unfold ofRun; omega), ?_⟩
      · rw [he]
        show Sim S W PL NC r _ (upd m2 (pos c (ℓ % S) w + 4) (m2 0))
        rw [et]
        exact c_cell hz j2 hc hs hw (by omega) rfl (by omega) (by omega) (ne_m2_of l2 (by omega))
      · rw [zU_ne _ _ (by omega), j5]; exact hE
    | true =>
      simp (disch := omega) only [zc_some, zw_eq, zi_nI, nI_clamp, nI_add, nI_1, nI_lti, nI_inj, nI_ltz, nI_eq0, nI_0lt, nI_ne_m1, nI_ne_m2, nI_m1_ne, nI_m2_ne, if_true, if_false, zU_eq, zU_ne, Nat.add_zero, pk_mul, show ℓ % S * W + w < 16 by omega, bI1, show ¬ (1 = 0) by omega]
      refine ⟨_, rfl, ?_, (j4.u _ _ (by unfold ofRun; omega)).u _ _ (by unfold ofRun; omega), ?_⟩
      · rw [he]
        show Sim S W PL NC r _ (upd (upd m2 (pos c (ℓ % S) w + 1) (nI 3)) (pos c (ℓ % S) w + 4) (upd m2 (pos c (ℓ % S) w + 1) (nI 3) 0))
        rw [et, upd_ne (show ¬ 0 = pos c (ℓ % S) w + 1 by omega)]
        have k1 := c_cell (k := 1) (v := nI 3) hz j2 hc hs hw (by omega) rfl (by omega) (by omega) (ne_m2_of l2 (by omega))
        exact c_cell hz k1 hc hs hw (by omega) rfl (by omega) (by omega) (by rw [upd_ne (by omega)]; exact ne_m2_of l2 (by omega))
      · simp (disch := omega) only [zU_ne]
        rw [j5]; exact hE
/-- reach, where the rule lets the core through -/
theorem c_reach {S W PL NC r c ℓ rule r1 e0 : Nat} {b : Bool} {o : Option Nat} {g : zG} {m m1 m2 : Rw} (hP : CPar S W PL NC g) (h : Sim S W PL NC r g m) (hp : PI S W PL NC m) (hc : c < NC) (hℓ : ℓ ≤ 16) (hr : g 8003 r 0 = nI rule) (hr2 : rule ≤ 2) (he0 : e0 < 16) (hE : g 12003 r 0 = nI e0) (hd : DecR S W NC rule (g 9003 r 0) c ℓ b m 1 r1 m1) (hb : BrgR S W PL NC (g 9003 r 0) c ℓ b m1 o m2) :
    ∃ g', X3_reach r (nI c) (nI ℓ) (bI b) g = some (nI (if o = none then 3 else 1), g') ∧ Sim S W PL NC r g' m2 ∧ PI S W PL NC m2 ∧ FrC r g g' ∧ EndE e0 (if o = none then r1 ||| 2 ^ c else r1) (g' 12003 r 0) := by
  have hz := hP.1
  have hc4 : c < 4 := by have := hz.2.2.2.2.2.2.2; omega
  obtain ⟨g1, k1, k2, k3, k4, k5⟩ := c_ask hz h hp hc hℓ hr hr2 he0 hE hd
  have t9 : g1 9003 r 0 = g 9003 r 0 := k4 _ _ _ (by unfold ofRun; omega)
  rw [← t9] at hb
  obtain ⟨g2, j1, j2, j3, j4⟩ := c_brings (hP.fr k4) k2 k3 hc hℓ k5 hb
  refine ⟨g2, ?_, j2, PI_Brg hz.siz hc hℓ hb k3, k4.trans j3, j4⟩
  unfold X3_reach
  rw [k1, zc_some, if_pos rfl]
  simp (disch := omega) only [zc_some, zw_eq, zi_nI, nI_clamp, nI_add, nI_1, nI_lti, nI_inj, nI_ltz, nI_eq0, nI_0lt, nI_ne_m1, nI_ne_m2, nI_m1_ne, nI_m2_ne, if_true, if_false, zU_eq, zU_ne, Nat.add_zero, pk_mul, hc4]
  exact j1
theorem c_reachNo {S W PL NC r c ℓ rule how r1 e0 : Nat} {b : Bool} {g : zG} {m m1 : Rw} (hP : CPar S W PL NC g) (h : Sim S W PL NC r g m) (hp : PI S W PL NC m) (hc : c < NC) (hℓ : ℓ ≤ 16) (hr : g 8003 r 0 = nI rule) (hr2 : rule ≤ 2) (he0 : e0 < 16) (hE : g 12003 r 0 = nI e0) (hd : DecR S W NC rule (g 9003 r 0) c ℓ b m how r1 m1) (hh : how = 2 ∨ how = 3) :
    ∃ g', X3_reach r (nI c) (nI ℓ) (bI b) g = some (nI how, g') ∧ Sim S W PL NC r g' m1 ∧ FrC r g g' ∧ EndE e0 r1 (g' 12003 r 0) := by
  obtain ⟨g1, k1, k2, k3, k4, k5⟩ := c_ask hP.1 h hp hc hℓ hr hr2 he0 hE hd
  refine ⟨g1, ?_, k2, k4, k5⟩
  unfold X3_reach
  rw [k1, zc_some, if_neg (by rcases hh with rfl | rfl <;> decide)]
