/-! ===== waysFor: a step, a core alone to its end ===== -/
theorem opn_next {so : Nat → Nat} {k : Nat} (h : 2 ≤ so k) : opn so (k + 1) = opn so k := by rw [opn, if_neg (by omega), if_neg (by omega)]
theorem solo_step {S W PL NC rule c tr k st lost q how r : Nat} {len : Nat → Nat} {so wh : Nat → Nat → Nat} {ix : Nat → Bool} {m m' : Rw} (hz : Siz S W PL NC) (hc : c < NC) (htr : 1 ≤ tr ∧ tr ≤ 9) (hR : RI S W PL NC len so wh m) (hC : Cmn S W NC c tr k st lost q m) (hk : k < len c) (h : StepR S W PL NC rule (nI tr) (len c) (so c) (wh c) ix c m how r m') :
    (∃ st' lost', Cmn S W NC c tr (k + 1) st' lost' q m' ∧ lost' = (if so c k = 1 then 0 else lost) ∧ (lost = 0 → ∀ t, SY S W PL c (opn (so c) k) m t → SY S W PL c (opn (so c) (k + 1)) m' (sDeed S PL (so c k) (wh c k) (ix k) t))) ∨
    (∃ b, lost = 0 ∧ b < k ∧ nend (so c) b = nend (so c) k ∧ Cmn S W NC c tr b 0 tr (q + 1) m' ∧ opn (so c) (k + 1) = true ∧ ∀ t, SY S W PL c (opn (so c) k) m t → ∃ s, s < S ∧ W < cntS S (sDeed S PL (so c k) (wh c k) (ix k) t).2.2.2.1 s 17) := by
  obtain ⟨p1, p2, p3, p4, p5, p6, p7, p8⟩ := id hz
  have hc4 : c < 4 := by omega
  have hw := hR.2.1 c hc
  have hw24 := hw.1
  obtain ⟨k', hk24, hk', ⟨z, -⟩ | ⟨-, -, m1, hd, he⟩⟩ := h
  · have : k' = k := by
      have := hC.1
      rw [hk', nI_inj (by omega) (by omega)] at this
      exact this
    omega
  have ek : k' = k := by
    have := hC.1
    rw [hk', nI_inj (by omega) (by omega)] at this
    exact this
  subst ek
  have hR0 : RI S W PL NC len so wh (upd m 0 (m 0 + nI 1)) := RI_num hz (fun i hi => upd_ne (by omega)) (fun o j _ _ _ _ => upd_ne (by unfold cat; omega)) (upd_ne (by omega)) hR
  have hC0 : Cmn S W NC c tr k' st lost q (upd m 0 (m 0 + nI 1)) := hC.low (fun i hi => upd_ne (by omega)) (upd_ne (by omega)) (fun j hj => upd_ne (by have := cat_ge c j; omega))
  have hS0 : ∀ o t, SY S W PL c o m t → SY S W PL c o (upd m 0 (m 0 + nI 1)) t := fun o t hS => hS.low (fun i hi => upd_ne (by omega)) (upd_ne (by have := cat_ge c 1; omega)) (upd_ne (by have := cat_ge c 2; omega))
  generalize upd m 0 (m 0 + nI 1) = m0 at hd hR0 hC0 hS0
  obtain ⟨kk, b, st', c1, c2, c3, c4, c5, c6, c7, c8, -, -⟩ := hR0.2.2.1 c hc
  have e1 : kk = k' := by
    have := hC0.1
    rw [c1, nI_inj (by omega) (by omega)] at this
    exact this
  subst e1
  have e2 : st' = st := by
    have := hC0.2.1
    have h2 := hC0.2.2.1
    rw [c4, nI_inj (by omega) (by omega)] at this
    exact this
  subst e2
  obtain ⟨w1, w2, w3, w4, w5⟩ := hw.2.2 kk hk
  -- on by one
  have on : ∀ (st2 lost2 : Nat) (M : Rw), how = 1 → m1 = M → Cmn S W NC c tr kk st2 lost2 q M → lost2 = (if so c kk = 1 then 0 else lost) → (lost = 0 → ∀ t, SY S W PL c (opn (so c) kk) m0 t → SY S W PL c (opn (so c) (kk + 1)) M (sDeed S PL (so c kk) (wh c kk) (ix kk) t)) → ∃ st' lost', Cmn S W NC c tr (kk + 1) st' lost' q m' ∧ lost' = (if so c kk = 1 then 0 else lost) ∧ (lost = 0 → ∀ t, SY S W PL c (opn (so c) kk) m t → SY S W PL c (opn (so c) (kk + 1)) m' (sDeed S PL (so c kk) (wh c kk) (ix kk) t)) := by
    intro st2 lost2 M h1 h2 h3 h4 h5
    subst h2
    rw [if_pos h1] at he
    rw [he]
    exact ⟨st2, lost2, h3.next hc4, h4, fun z t hS => (h5 z t (hS0 _ t hS)).next hc4⟩
  rcases hd with ⟨hs, hd⟩ | ⟨hs, hh, -, n, m2, h4, hn, hcm, he1⟩ | ⟨hs, hh, -, he1⟩ | ⟨hs, xx, hx, hxl, hd⟩ | ⟨hs, hh, -, y, y1, y2, he1⟩ | ⟨hs, hh, -, y, y1, y2, he1⟩
  · left
    have ho := w2 hs
    have st0 : st' = 0 := Classical.byContradiction (fun z => by
      have := c6.mp z
      rw [ho] at this; cases this)
    subst st0
    obtain ⟨hh, st2, k1, k2⟩ := solo_begin hz hc htr hR0.1 (c8 (by omega)) hC0 hd
    refine on st2 lost m1 hh rfl k1 (by rw [if_neg (by omega)]) (fun z t hS => ?_)
    have := k2 z _ t hS
    rw [show opn (so c) (kk + 1) = true by rw [opn, if_pos hs]]
    simp only [sDeed, hs, if_true]
    exact this
  · left
    have ho := w3 (Or.inl hs)
    obtain ⟨k1, k2⟩ := solo_end hz hc hC0 hn hcm
    refine on 0 0 _ hh he1 k1 (by rw [if_pos hs]) (fun z t hS => ?_)
    rw [ho] at hS
    rw [show opn (so c) (kk + 1) = false by rw [opn, if_neg (by omega), if_pos hs], hs]
    exact k2 t _ _ hS
  · left
    have l2 := cat_lt hc4 (show 2 < 14 by omega)
    have g2 := cat_ge c 2
    refine on st' lost _ hh he1 (hC0.low (fun i hi => upd_ne (by omega)) (upd_ne (by omega)) (fun j hj => upd_ne (cat_ne (by omega)))) (by rw [if_neg (by omega)]) (fun z t hS => ?_)
    obtain ⟨s1, s2, s3, s4, s5, s6⟩ := hS
    have hb := s5.deed (S := S) (so := 2) (wh := wh c kk) (ix := ix kk) p5
    rw [opn_next (by omega), hs]
    simp only [sDeed, show ¬ (2 = 0) by omega, show ¬ (2 = 1) by omega, if_true, if_false] at hb ⊢
    exact ⟨by rw [upd_ne (cat_ne (by omega))]; exact s1, by rw [upd_eq rfl]; exact s1, WSy_low s3 (fun i hi => upd_ne (by omega)), fun x => MkS_low (s4 x) (fun i hi => upd_ne (by omega)), hb, s6⟩
  · have ho := w3 (Or.inr hs)
    have hst : st' ≠ 0 := c6.mpr ho
    obtain ⟨b1, b2, b3⟩ := c7 hst
    have ha : aOf PL (wh c kk) xx (ix kk) < 16 * PL := Nat.mod_lt _ (by omega)
    have on1 : opn (so c) (kk + 1) = true := by rw [opn_next (by omega)]; exact ho
    have ex : ∀ t, SY S W PL c true m0 t → t.2.2.1 = xx := fun t hS => by
      have h1 := hS.2.1
      have h2 := hS.2.2.2.2.1.2.2.1
      rw [hx, nI_inj (by omega) (by omega)] at h1
      exact h1.symm
    have eT : ∀ t, t.2.2.1 = xx → (sDeed S PL (so c kk) (wh c kk) (ix kk) t) = if (so c kk == 4) = true then (fun i => if i = aOf PL (wh c kk) xx (ix kk) then t.2.1 else t.1 i, t.2.1, t.2.2.1, t.2.2.2.1 ||| 2 ^ (aOf PL (wh c kk) xx (ix kk) / PL), t.2.2.2.2) else (t.1, t.1 (aOf PL (wh c kk) xx (ix kk)), t.2.2.1, t.2.2.2.1 ||| 2 ^ (aOf PL (wh c kk) xx (ix kk) / PL), t.2.2.2.2) := fun t z => by
      rw [← z]
      rcases hs with hs | hs
      · rw [hs, if_neg (by decide)]
        simp only [sDeed, show ¬ (3 = 0) by omega, show ¬ (3 = 1) by omega, show ¬ (3 = 2) by omega, if_true, if_false]
      · rw [hs, if_pos (by decide)]
        simp only [sDeed, show ¬ (4 = 0) by omega, show ¬ (4 = 1) by omega, show ¬ (4 = 2) by omega, show ¬ (4 = 3) by omega, if_true, if_false]
    rcases solo_touch hz hc htr hR0.1 ha hst c8 c3 hC0 hd with ⟨hh, k1, k2⟩ | ⟨hh, k0, k1, k2⟩
    · left
      refine on st' lost m1 hh rfl k1 (by rw [if_neg (by omega)]) (fun z t hS => ?_)
      rw [ho] at hS
      rw [on1, eT t (ex t hS)]
      exact k2 z t hS
    · right
      rw [if_neg (by omega)] at he
      rw [he]
      refine ⟨b, k0, b1, b3, k1, on1, fun t hS => ?_⟩
      have hS1 := hS0 _ t hS
      rw [ho] at hS1
      obtain ⟨s, x1, x2⟩ := k2 t hS1
      refine ⟨s, x1, ?_⟩
      rw [eT t (ex t hS1)]
      split
      · exact x2
      · exact x2
  · left
    have l2 := cat_lt hc4 (show 1 < 14 by omega)
    have g2 := cat_ge c 1
    refine on st' lost _ hh he1 (hC0.low (fun i hi => upd_ne (by omega)) (upd_ne (by omega)) (fun j hj => upd_ne (cat_ne (by omega)))) (by rw [if_neg (by omega)]) (fun z t hS => ?_)
    obtain ⟨s1, s2, s3, s4, s5, s6⟩ := hS
    have hb := s5.deed (S := S) (so := 5) (wh := wh c kk) (ix := ix kk) p5
    have ey : y = t.2.1 := by
      have := s5.2.1
      rw [s1, nI_inj (by omega) (by omega)] at y2
      exact y2.symm
    rw [opn_next (by omega), hs]
    simp only [sDeed, show ¬ (5 = 0) by omega, show ¬ (5 = 1) by omega, show ¬ (5 = 2) by omega, show ¬ (5 = 3) by omega, show ¬ (5 = 4) by omega, if_true, if_false] at hb ⊢
    exact ⟨by rw [upd_eq rfl, ey], by rw [upd_ne (cat_ne (by omega))]; exact s2, WSy_low s3 (fun i hi => upd_ne (by omega)), fun x => MkS_low (s4 x) (fun i hi => upd_ne (by omega)), hb, s6⟩
  · left
    have l2 := cat_lt hc4 (show 1 < 14 by omega)
    have g2 := cat_ge c 1
    refine on st' lost _ hh he1 (hC0.low (fun i hi => upd_ne (by omega)) (upd_ne (by omega)) (fun j hj => upd_ne (cat_ne (by omega)))) (by rw [if_neg (by omega)]) (fun z t hS => ?_)
    obtain ⟨s1, s2, s3, s4, s5, s6⟩ := hS
    have hb := s5.deed (S := S) (so := 6) (wh := wh c kk) (ix := ix kk) p5
    have ey : y = t.2.1 := by
      have := s5.2.1
      rw [s1, nI_inj (by omega) (by omega)] at y2
      exact y2.symm
    rw [opn_next (by omega), hs]
    simp only [sDeed, show ¬ (6 = 0) by omega, show ¬ (6 = 1) by omega, show ¬ (6 = 2) by omega, show ¬ (6 = 3) by omega, show ¬ (6 = 4) by omega, show ¬ (6 = 5) by omega, if_true, if_false] at hb ⊢
    exact ⟨by rw [upd_eq rfl, ey], by rw [upd_ne (cat_ne (by omega))]; exact s2, WSy_low s3 (fun i hi => upd_ne (by omega)), fun x => MkS_low (s4 x) (fun i hi => upd_ne (by omega)), hb, s6⟩
/-- what the reference's row needs to run a core alone -/
def Sol (S W PL NC rl tr c : Nat) (len : Nat → Nat) (so wh : Nat → Nat → Nat) (ix : Nat → Bool) (g : zG) : Prop :=
  MPar S W PL NC g ∧ DeedsM c (len c) (so c) (wh c) ix g ∧ g 35007 0 0 = nI rl ∧ rl ≤ 2 ∧ g 36007 0 0 = nI tr ∧ RI S W PL NC len so wh (g 43 0)
theorem X7_left_ok {S W PL NC rl tr c k : Nat} {len : Nat → Nat} {so wh : Nat → Nat → Nat} {ix : Nat → Bool} {g : zG} (h : Sol S W PL NC rl tr c len so wh ix g) (hc : c < NC) (hk : g 43 0 (cat c 0) = nI k) (hk24 : k ≤ 24) : X7_hasLeft (nI c) g = some (bI (decide (k < len c)), g) := by
  obtain ⟨hP, ⟨d1, d2⟩, -, -, -, hR⟩ := h
  have hl := (hR.2.1 c hc).1
  have hc4 : c < 4 := by have := hP.1.2.2.2.2.2.2.2; omega
  have hlt := cat_lt hc4 (show 0 < 14 by omega)
  unfold X7_hasLeft
  simp (disch := omega) only [zc_some, zw_eq, zi_nI, nI_clamp, nI_add, nI_1, nI_lti, nI_inj, nI_ltz, nI_eq0, nI_0lt, nI_ne_m1, nI_ne_m2, nI_m1_ne, nI_m2_ne, if_true, if_false, zU_eq, zU_ne, Nat.add_zero, pk_mul, X7_coreAt_ok, hk, d1]
  by_cases e : k < len c
  · rw [if_pos e, decide_eq_true e]; rfl
  · rw [if_neg e, decide_eq_false e]; rfl
theorem Sol.step {S W PL NC rl tr c k st lost q : Nat} {len : Nat → Nat} {so wh : Nat → Nat → Nat} {ix : Nat → Bool} {g : zG} (h : Sol S W PL NC rl tr c len so wh ix g) (hc : c < NC) (htr : 1 ≤ tr ∧ tr ≤ 9) (hC : Cmn S W NC c tr k st lost q (g 43 0)) (hk : k < len c) :
    ∃ x g', X7_steps (nI c) g = some (x, g') ∧ FrM g g' ∧ Sol S W PL NC rl tr c len so wh ix g' ∧
    ((∃ st' lost', Cmn S W NC c tr (k + 1) st' lost' q (g' 43 0) ∧ lost' = (if so c k = 1 then 0 else lost) ∧ (lost = 0 → ∀ t, SY S W PL c (opn (so c) k) (g 43 0) t → SY S W PL c (opn (so c) (k + 1)) (g' 43 0) (sDeed S PL (so c k) (wh c k) (ix k) t))) ∨
    (∃ b, lost = 0 ∧ b < k ∧ nend (so c) b = nend (so c) k ∧ Cmn S W NC c tr b 0 tr (q + 1) (g' 43 0) ∧ opn (so c) (k + 1) = true ∧ ∀ t, SY S W PL c (opn (so c) k) (g 43 0) t → ∃ s, s < S ∧ W < cntS S (sDeed S PL (so c k) (wh c k) (ix k) t).2.2.2.1 s 17)) := by
  obtain ⟨hP, hd, hr, hr2, ht, hR⟩ := h
  obtain ⟨g', how, r, k1, k2, k3, k4, -, -⟩ := X7_step_RI hP (ix := fun _ => ix) hc hd hr hr2 hR
  rw [ht] at k2
  refine ⟨_, g', k1, k4, ⟨hP.fr k4, ?_, ?_, hr2, ?_, k3⟩, solo_step hP.1 hc htr hR hC hk k2⟩
  · obtain ⟨d1, d2⟩ := hd
    refine ⟨by rw [k4 _ _ _ (by omega) (by omega)]; exact d1, fun j hj => ?_⟩
    rw [k4 37 _ _ (by omega) (by omega), k4 39 _ _ (by omega) (by omega), k4 41 _ _ (by omega) (by omega)]
    exact d2 j hj
  · rw [k4 _ _ _ (by omega) (by omega)]; exact hr
  · rw [k4 _ _ _ (by omega) (by omega)]; exact ht
/-- at the end -/
theorem solo_fin {S W PL NC rl tr c k st lost q : Nat} {len : Nat → Nat} {so wh : Nat → Nat → Nat} {ix : Nat → Bool} {g : zG} (h : Sol S W PL NC rl tr c len so wh ix g) (hc : c < NC) (hC : Cmn S W NC c tr k st lost q (g 43 0)) (hk : k = len c) (hq : q < 2 ^ 31) (f : Nat) : X7_isEnough_l9 (f + 1) (nI c) g = some (if q = 0 then nI 1 else nI 0, g) := by
  have hl := (h.2.2.2.2.2.2.1 c hc).1
  have hc4 : c < 4 := by have := h.1.1.2.2.2.2.2.2.2; omega
  have hlt := cat_lt hc4 (show 8 < 14 by omega)
  obtain ⟨c1, -, -, -, -, -, -, -, c9, -⟩ := id hC
  rw [X7_isEnough_l9.eq_2, X7_left_ok h hc c1 (by omega), zc_some, iteB, decide_eq_false (by omega)]
  simp only [Bool.false_eq_true, if_false]
  rw [X7_coreAt_ok, zc_some, zi_nI (by omega) (by omega), show (nI (cat c 8)).toNatClampNeg = cat c 8 from nI_clamp (by omega), c9]
  by_cases z : q = 0
  · rw [if_pos z, if_pos (by rw [nI_eq0 hq]; exact z)]
  · rw [if_neg z, if_neg (by rw [nI_eq0 hq]; exact z)]
/-- behind an end by capacity -/
theorem solo_B {S W PL NC rl tr c : Nat} {len : Nat → Nat} {so wh : Nat → Nat → Nat} {ix : Nat → Bool} (hc : c < NC) (htr : 1 ≤ tr ∧ tr ≤ 9) : ∀ M k st lost q f g, Sol S W PL NC rl tr c len so wh ix g → Cmn S W NC c tr k st lost q (g 43 0) → k ≤ len c → 1 ≤ q → q + M ≤ 3000 → 60 * (13 - nend (so c) k) + (if lost = 0 then 30 else 0) + (24 - k) ≤ M → ∃ g', X7_isEnough_l9 (f + M + 1) (nI c) g = some (nI 0, g') ∧ FrM g g' := by
  intro M
  induction M with
  | zero =>
    intro k st lost q f g h hC hk hq hqM hM
    have hw := h.2.2.2.2.2.2.1 c hc
    have := nend_le hw k hk
    have := hw.1
    omega
  | succ M ih =>
    intro k st lost q f g h hC hk hq hqM hM
    have hw := h.2.2.2.2.2.2.1 c hc
    have hl := hw.1
    by_cases e : k = len c
    · refine ⟨g, ?_, FrM.rfl' g⟩
      rw [show f + (M + 1) + 1 = (f + M + 1) + 1 by omega, solo_fin h hc hC e (by omega), if_neg (by omega)]
    · obtain ⟨x, g1, k1, k2, k3, hx⟩ := h.step hc htr hC (show k < len c by omega)
      have red : X7_isEnough_l9 (f + (M + 1) + 1) (nI c) g = X7_isEnough_l9 (f + M + 1) (nI c) g1 := by
        rw [show f + (M + 1) + 1 = (f + M + 1) + 1 by omega, X7_isEnough_l9.eq_2, X7_left_ok h hc hC.1 (by omega), zc_some, iteB, decide_eq_true (by omega), if_pos rfl, k1, zc_some]
      rw [red]
      have ne := nend_le hw k hk
      rcases hx with ⟨st', lost', j1, j2, -⟩ | ⟨b, j0, j1, j2, j3, -, -⟩
      · have ne1 := nend_le hw (k + 1) (by omega)
        have es : nend (so c) (k + 1) = nend (so c) k + (if so c k = 1 then 1 else 0) := rfl
        obtain ⟨g', y1, y2⟩ := ih (k + 1) st' lost' q f g1 k3 j1 (by omega) hq (by omega) (by
          by_cases z : so c k = 1
          · rw [if_pos z] at j2 es
            rw [if_pos j2]
            split at hM <;> omega
          · rw [if_neg z] at j2 es
            rw [j2]
            split at hM
            · rw [if_pos (by assumption)]; omega
            · rw [if_neg (by assumption)]; omega)
        exact ⟨g', y1, k2.trans y2⟩
      · have hb := nend_le hw b (by omega)
        obtain ⟨g', y1, y2⟩ := ih b 0 tr (q + 1) f g1 k3 j3 (by omega) (by omega) (by omega) (by
          rw [if_neg (by omega)]
          rw [if_pos j0] at hM
          omega)
        exact ⟨g', y1, k2.trans y2⟩
/-- from the start, as the pure picture goes -/
theorem solo_A {S W PL NC rl tr c : Nat} {len : Nat → Nat} {so wh : Nat → Nat → Nat} {ix : Nat → Bool} {t0 : St} (hc : c < NC) (htr : 1 ≤ tr ∧ tr ≤ 9) : ∀ n k st f g, k + n = len c → Sol S W PL NC rl tr c len so wh ix g → Cmn S W NC c tr k st 0 0 (g 43 0) → SY S W PL c (opn (so c) k) (g 43 0) (sRun S PL (so c) (wh c) ix t0 0 k) → ∃ ans g', X7_isEnough_l9 (f + 1000 + n + 1) (nI c) g = some (ans, g') ∧ FrM g g' ∧ ((ans = nI 1 ∧ (sRun S PL (so c) (wh c) ix t0 0 (len c)).2.2.2.2 ≤ W) ∨ (ans = nI 0 ∧ W < (sRun S PL (so c) (wh c) ix t0 0 (len c)).2.2.2.2)) := by
  intro n
  induction n with
  | zero =>
    intro k st f g e h hC hS
    have e' : k = len c := by omega
    refine ⟨nI 1, g, ?_, FrM.rfl' g, Or.inl ⟨rfl, ?_⟩⟩
    · rw [show f + 1000 + 0 + 1 = (f + 1000) + 1 by omega, solo_fin h hc hC e' (by omega), if_pos rfl]
    · rw [← e']; exact hS.2.2.2.2.2
  | succ n ih =>
    intro k st f g e h hC hS
    have hw := h.2.2.2.2.2.2.1 c hc
    have hl := hw.1
    obtain ⟨x, g1, k1, k2, k3, hx⟩ := h.step hc htr hC (show k < len c by omega)
    have hr : sRun S PL (so c) (wh c) ix t0 0 (k + 1) = sDeed S PL (so c k) (wh c k) (ix k) (sRun S PL (so c) (wh c) ix t0 0 k) := by
      show sDeed S PL (so c (0 + k)) _ _ _ = _
      rw [Nat.zero_add]
    have red : X7_isEnough_l9 (f + 1000 + (n + 1) + 1) (nI c) g = X7_isEnough_l9 (f + 1000 + n + 1) (nI c) g1 := by
      rw [show f + 1000 + (n + 1) + 1 = (f + 1000 + n + 1) + 1 by omega, X7_isEnough_l9.eq_2, X7_left_ok h hc hC.1 (by omega), zc_some, iteB, decide_eq_true (by omega), if_pos rfl, k1, zc_some]
    rw [red]
    rcases hx with ⟨st', lost', j1, j2, j3⟩ | ⟨b, -, j1, j2, j3, j4, j5⟩
    · have el : lost' = 0 := by rw [j2]; split <;> rfl
      rw [el] at j1
      have hS1 := j3 rfl _ hS
      rw [← hr] at hS1
      obtain ⟨ans, g', y1, y2, y3⟩ := ih (k + 1) st' f g1 (by omega) k3 j1 hS1
      exact ⟨ans, g', y1, k2.trans y2, y3⟩
    · obtain ⟨s, s1, s2⟩ := j5 _ hS
      rw [← hr] at s2
      have big := fin_gt (S := S) (PL := PL) (ix := ix) (t0 := t0) hw s1 (len c - (k + 1)) (k + 1) (by omega) (Or.inl ⟨j4, s2⟩)
      obtain ⟨g', y1, y2⟩ := solo_B (f := f + 1000 + n - 900) (M := 900) (k := b) (st := 0) (lost := tr) (q := 0 + 1) hc htr g1 k3 j3 (by omega) (by omega) (by omega) (by
        rw [if_neg (by omega)]
        omega)
      refine ⟨nI 0, g', ?_, k2.trans y2, Or.inr ⟨rfl, big⟩⟩
      rw [show f + 1000 + n + 1 = f + 1000 + n - 900 + 900 + 1 by omega]
      exact y1
