/-! ===== waysFor: a touch, a step of a core alone ===== -/
/-- a set is full of touched lines, and one more is touched -/
theorem full_cnt {S W PL NC c ℓ T : Nat} {m : Rw} (hz : Siz S W PL NC) (hc : c < NC) (hp : PI S W PL NC m) (hℓ : ℓ ≤ 16) (hf : FindR S W m c ℓ none) (hr : sroom m (pos c (ℓ % S)) W 0 none = none) (h : MkS S W c m T) : W < cntS S (T ||| 2 ^ ℓ) (ℓ % S) 17 := by
  obtain ⟨p1, p2, p3, p4, p5, p6, p7, p8⟩ := id hz
  have hs : ℓ % S < S := Nat.mod_lt _ p1
  have full := ((sroom_spec (m := m) (p := pos c (ℓ % S)) W 0 none (fun j hj => by cases hj)).2 hr).2
  have ex : ∀ w, ∃ ℓ', w < W → ℓ' ≤ 16 ∧ ℓ' % S = ℓ % S ∧ m (pos c (ℓ % S) w) = nI ℓ' ∧ T.testBit ℓ' = true := fun w => by
    by_cases hw : w < W
    · obtain ⟨f1, f2⟩ := full w (Nat.zero_le _) (by omega)
      obtain ⟨ℓ', l1, l2, l3⟩ := (hp.lok c (ℓ % S) w hc hs hw).resolve_left f1
      obtain ⟨k1, k2⟩ := hp.mk c (ℓ % S) w hc hs hw
      refine ⟨ℓ', fun _ => ⟨l1, l2, l3, (h ℓ' l1).mpr ⟨w, hw, by rw [l2]; exact l3, ?_⟩⟩⟩
      rw [l2]
      rcases k1 with k1 | k1
      · rcases k2 with k2 | k2
        · exact absurd ⟨k1.trans nI_0, k2.trans nI_0⟩ f2
        · exact Or.inr k2
      · exact Or.inl k1
    · exact ⟨0, fun z => absurd z hw⟩
  obtain ⟨g, hg⟩ := Classical.axiomOfChoice ex
  have := cnt_ge (S := S) (T := T ||| 2 ^ ℓ) (s := ℓ % S) 17 (W + 1) (fun w => if w < W then g w else ℓ) (fun w hw => by
    try dsimp only
    by_cases z : w < W
    · rw [if_pos z]
      obtain ⟨a, b, -, d⟩ := hg w z
      exact ⟨by omega, b, (or_bit _ _ _).mpr (Or.inl d)⟩
    · rw [if_neg z]
      exact ⟨by omega, rfl, (or_bit _ _ _).mpr (Or.inr rfl)⟩) (fun w w' a b z => by
    try dsimp only at z
    by_cases z1 : w < W
    · by_cases z2 : w' < W
      · rw [if_pos z1, if_pos z2] at z
        refine hp.one c (ℓ % S) w w' hc hs z1 z2 (full w (Nat.zero_le _) (by omega)).1 ?_
        rw [(hg w z1).2.2.1, (hg w' z2).2.2.1, z]
      · rw [if_pos z1, if_neg z2] at z
        exact absurd ((hg w z1).2.2.1.trans (by rw [z])) (hf w z1)
    · by_cases z2 : w' < W
      · rw [if_neg z1, if_pos z2] at z
        exact absurd ((hg w' z2).2.2.1.trans (by rw [← z])) (hf w' z2)
      · omega)
  omega
theorem solo_touch {S W PL NC rule c tr k st lost q a how r bb : Nat} {b : Bool} {m m' : Rw} (hz : Siz S W PL NC) (hc : c < NC) (htr : 1 ≤ tr ∧ tr ≤ 9) (hp : PI S W PL NC m) (ha : a < 16 * PL) (hst : st ≠ 0) (hno : st ≠ 1 → NoMk S W c m) (h6 : m (cat c 6) = nI bb) (hC : Cmn S W NC c tr k st lost q m) (h : TchR S W PL NC rule (nI tr) c a b m how r m') :
    (how = 1 ∧ Cmn S W NC c tr k st lost q m' ∧ (lost = 0 → ∀ t, SY S W PL c true m t → SY S W PL c true m' (if b = true then (fun i => if i = a then t.2.1 else t.1 i, t.2.1, t.2.2.1, t.2.2.2.1 ||| 2 ^ (a / PL), t.2.2.2.2) else (t.1, t.1 a, t.2.2.1, t.2.2.2.1 ||| 2 ^ (a / PL), t.2.2.2.2)))) ∨
    (how = 3 ∧ lost = 0 ∧ Cmn S W NC c tr bb 0 tr (q + 1) m' ∧ ∀ t, SY S W PL c true m t → ∃ s, s < S ∧ W < cntS S (t.2.2.2.1 ||| 2 ^ (a / PL)) s 17) := by
  obtain ⟨p1, p2, p3, p4, p5, p6, p7, p8⟩ := id hz
  obtain ⟨c1, c2, c3, c4, c5, c6, c7, c8, c9, c10⟩ := id hC
  have hℓ : a / PL < 16 := (Nat.div_lt_iff_lt_mul p5).mpr (by omega)
  have hk : a % PL < PL := Nat.mod_lt _ p5
  have hs : a / PL % S < S := Nat.mod_lt _ p1
  have hdm : PL * (a / PL) + a % PL = a := Nat.div_add_mod a PL
  have lt := fun j (hj : j < 14) => cat_lt (show c < 4 by omega) hj
  have ge := cat_ge c
  obtain ⟨h1, r1, m1, hd, hx⟩ := h
  obtain ⟨rfl, rfl⟩ := Dec_solo p1 (by omega) c10 hd
  rcases hx with ⟨z, -⟩ | ⟨z, -⟩ | ⟨-, was, o, m2, -, hb, ⟨rfl, hh, -, rfl⟩ | ⟨w, rfl, hh, -, rfl⟩⟩
  · omega
  · omega
  · -- no room
    right
    have e1 : st = 1 := Classical.byContradiction (fun z => by
      obtain ⟨w, hw⟩ := BrgR_some p1 p3 (hno z) hb
      cases hw)
    rcases Brg_solo hz hc (by omega) c10 hp hb with ⟨-, hf, hr, he⟩ | ⟨w, z, -⟩ | ⟨w, z, -⟩
    · refine ⟨hh, c7 e1, ?_, fun t hS => ⟨_, hs, full_cnt hz hc hp (by omega) hf hr (hS.2.2.2.1 rfl)⟩⟩
      have oth : Oth0 S W NC c m' := fun o s w x1 x2 x3 x4 => by
        have := EndsR_other p2 p4 (by omega) (by omega) he x2 (s := s) (w := w) (f := 0) (by omega) (by omega) (by omega)
        rw [Nat.add_zero] at this
        rw [this]; exact c10 o s w x1 x2 x3 x4
      have e5 : m' 5 = m1 5 := EndsR_low (by omega) he (by omega) (fun k hk' => by have := ge k; omega)
      obtain ⟨mm, hu, hm⟩ := he
      obtain ⟨r0, r6, rA, rX, r3, r4, rf, r7⟩ := @rEnds_cat c 1 (nI tr) mm (by omega)
      have lo : ∀ j, j < 14 → mm (cat c j) = m1 (cat c j) := fun j hj => hu.2 _ (fun s w f _ _ _ => by have := pos_ge c s w; have := lt j hj; omega)
      refine ⟨?_, ?_, by omega, ?_, ?_, Or.inr rfl, fun z => by omega, fun z => by omega, ?_, oth⟩
      · rw [hm, r0, lo 6 (by omega)]; exact h6
      · rw [hm, r3]
      · rw [e5, c4, if_neg (by omega), if_neg (by omega)]
      · rw [hm, r4]; rfl
      · rw [hm]
        have := r7 1 (by omega)
        rw [if_pos rfl] at this
        rw [this, lo _ (by omega), c9, nI_add]
    · cases z
    · cases z
  · left
    obtain ⟨hw, hl, hown, low, ho, hws, hmk⟩ := Brg_sync (T := 0) (t := fun _ => 0) hz hc (show a / PL ≤ 16 by omega) c10 hp hb
    have ga := pos_ge c (a / PL % S) w
    have hp2 := PI_Brg hz hc (show a / PL ≤ 16 by omega) hb hp
    have cl : ∀ j, j < 14 → m2 (cat c j) = m1 (cat c j) := fun j hj => by
      have h1 := lt j hj; have h2 := ge j
      exact low _ (by omega) (by omega) (by omega) (by omega)
    have hC2 : Cmn S W NC c tr k st lost q m2 := ⟨by rw [cl 0 (by omega)]; exact c1, by rw [cl 3 (by omega)]; exact c2, c3, by rw [low 5 (by omega) (by omega) (by omega) (by omega)]; exact c4, by rw [cl 4 (by omega)]; exact c5, c6, c7, c8, by rw [cl 8 (by omega)]; exact c9, ho⟩
    have e3 : m2 (cat c 3) = nI st := hC2.2.1
    refine ⟨hh, ?_⟩
    -- a mark more
    have mark : ∀ (f : Nat) (M : Rw), f = 2 ∨ f = 3 → Cmn S W NC c tr k st lost q M → Cmn S W NC c tr k st lost q (upd M (pos c (a / PL % S) w + f) (nI 1)) := fun f M hf hM => by
      obtain ⟨d1, d2, d3, d4, d5, d6, d7, d8, d9, d10⟩ := hM
      have ne : ∀ j, j < 14 → cat c j ≠ pos c (a / PL % S) w + f := fun j hj => by have := lt j hj; omega
      exact ⟨by rw [upd_ne (ne 0 (by omega))]; exact d1, by rw [upd_ne (ne 3 (by omega))]; exact d2, d3, by rw [upd_ne (by omega)]; exact d4, by rw [upd_ne (ne 4 (by omega))]; exact d5, d6, d7, d8, by rw [upd_ne (ne 8 (by omega))]; exact d9, Oth0_cell hz hs hw (by omega) d10⟩
    have hst1 : lost = 0 → st = 1 := fun z => by
      have : st ≠ 2 := fun y => by have := c8 y; omega
      omega
    cases b with
    | false =>
      rw [if_neg (by decide)]
      unfold rGet
      try dsimp only
      have e31 : (m2 (cat c 3) = nI 1) = (st = 1) := by rw [e3, nI_inj (by omega) (by omega)]
      have l1 := lt 1 (by omega); have g1 := ge 1
      constructor
      · have : Cmn S W NC c tr k st lost q (if m2 (cat c 3) = nI 1 then upd m2 (pos c (a / PL % S) w + 2) (nI 1) else m2) := by
          split
          · exact mark 2 m2 (Or.inl rfl) hC2
          · exact hC2
        exact this.low (fun i hi => upd_ne (by omega)) (upd_ne (by omega)) (fun j hj => upd_ne (cat_ne (by omega)))
      · intro h0 t hS
        rw [if_neg (show ¬ (false = true) by decide)]
        obtain ⟨s1, s2, s3, s4, s5, s6⟩ := hS
        obtain ⟨-, -, -, -, -, hws', -⟩ := Brg_sync (T := 0) (t := t.1) hz hc (show a / PL ≤ 16 by omega) c10 hp hb
        obtain ⟨-, -, -, -, -, -, hmk'⟩ := Brg_sync (T := t.2.2.2.1) (t := t.1) hz hc (show a / PL ≤ 16 by omega) c10 hp hb
        have w1 := hws' s3
        rw [if_pos (by rw [e31]; exact hst1 h0)]
        have hb' := s5.deed (S := S) (so := 3) (wh := a) (ix := false) p5
        have eb : sDeed S PL 3 a false t = (t.1, t.1 a, t.2.2.1, t.2.2.2.1 ||| 2 ^ (a / PL), t.2.2.2.2) := by
          have : aOf PL a t.2.2.1 false = a := by
            unfold aOf
            rw [if_neg (by decide), Nat.add_zero, Nat.mod_eq_of_lt ha]
          simp only [sDeed, show ¬ (3 = 0) by omega, show ¬ (3 = 1) by omega, show ¬ (3 = 2) by omega, if_true, if_false, this]
        rw [eb] at hb'
        have mk2 := MkS_set (f := 2) hz hc hp2 (show a / PL ≤ 16 by omega) hw (Or.inl rfl) hl (hmk' (s4 rfl))
        have ws2 : WSy S W PL c (upd m2 (pos c (a / PL % S) w + 2) (nI 1)) t.1 := WSy_mark hz hs hw (Or.inl rfl) w1
        refine ⟨?_, ?_, WSy_low ws2 (fun i hi => upd_ne (by omega)), fun _ => MkS_low mk2 (fun i hi => upd_ne (by omega)), hb', s6⟩
        · rw [upd_eq rfl, upd_ne (by omega), w1.1 (a / PL) w (a % PL) hℓ hw hk hl, hdm]
        · rw [upd_ne (cat_ne (by omega)), upd_ne (by have := lt 2 (by omega); omega), cl 2 (by omega)]; exact s2
    | true =>
      rw [if_pos rfl]
      unfold rPut
      try dsimp only
      have h3 := hown rfl
      have e31 : (m2 (cat c 3) = nI 1) = (st = 1) := by rw [e3, nI_inj (by omega) (by omega)]
      have wb : ∀ i, i ≠ 2 → ¬ (254 ≤ i ∧ i < 318) → rWB PL m2 (pos c (a / PL % S) w) i = m2 i := fun i x y => rWB_low p6 ⟨a / PL, by omega, hl⟩ x y
      -- what was owned is saved first
      have A : Cmn S W NC c tr k st lost q (if m2 (cat c 3) = nI 1 ∧ oldO S c (a / PL) m1 was = true then rWB PL m2 (pos c (a / PL % S) w) else m2) ∧ PI S W PL NC (if m2 (cat c 3) = nI 1 ∧ oldO S c (a / PL) m1 was = true then rWB PL m2 (pos c (a / PL % S) w) else m2) ∧ (∀ i, i ≠ 2 → ¬ (254 ≤ i ∧ i < 318) → (if m2 (cat c 3) = nI 1 ∧ oldO S c (a / PL) m1 was = true then rWB PL m2 (pos c (a / PL % S) w) else m2) i = m2 i) ∧ ∀ t, WSy S W PL c m2 t → WSy S W PL c (if m2 (cat c 3) = nI 1 ∧ oldO S c (a / PL) m1 was = true then rWB PL m2 (pos c (a / PL % S) w) else m2) t := by
        split
        · refine ⟨hC2.low (fun i hi => wb i (by omega) (by omega)) (wb 5 (by omega) (by omega)) (fun j hj => ?_), PI_WB hz hc hs hw hp2, wb, fun t ht => WSy_WB hz hℓ hw hl ht⟩
          have h1 := lt j (by omega); have h2 := ge j
          exact wb _ (by omega) (by omega)
        · exact ⟨hC2, hp2, fun _ _ _ => rfl, fun t ht => ht⟩
      generalize (if m2 (cat c 3) = nI 1 ∧ oldO S c (a / PL) m1 was = true then rWB PL m2 (pos c (a / PL % S) w) else m2) = m3 at A ⊢
      obtain ⟨A1, A2, A3, A4⟩ := A
      have l3 : m3 (pos c (a / PL % S) w) = nI (a / PL) := by rw [A3 _ (by omega) (by omega)]; exact hl
      have n16 : m3 (pos c (a / PL % S) w) ≠ nI 16 := by rw [l3, ne_eq, nI_inj (by omega) (by omega)]; omega
      have l1 := lt 1 (by omega); have g1 := ge 1
      constructor
      · have : Cmn S W NC c tr k st lost q (if m2 (cat c 3) = nI 1 then upd m3 (pos c (a / PL % S) w + 3) (nI 1) else m3) := by
          split
          · exact mark 3 m3 (Or.inr rfl) A1
          · exact A1
        obtain ⟨d1, d2, d3, d4, d5, d6, d7, d8, d9, d10⟩ := this
        have ne : ∀ j, j < 14 → cat c j ≠ pos c (a / PL % S) w + 5 + a % PL := fun j hj => by have := lt j hj; omega
        refine ⟨by rw [upd_ne (ne 0 (by omega))]; exact d1, by rw [upd_ne (ne 3 (by omega))]; exact d2, d3, by rw [upd_ne (by omega)]; exact d4, by rw [upd_ne (ne 4 (by omega))]; exact d5, d6, d7, d8, by rw [upd_ne (ne 8 (by omega))]; exact d9, ?_⟩
        rw [Nat.add_assoc]
        exact Oth0_cell hz hs hw (by omega) d10
      · intro h0 t hS
        rw [if_pos rfl]
        obtain ⟨s1, s2, s3, s4, s5, s6⟩ := hS
        obtain ⟨-, -, -, -, -, hws', -⟩ := Brg_sync (T := 0) (t := t.1) hz hc (show a / PL ≤ 16 by omega) c10 hp hb
        obtain ⟨-, -, -, -, -, -, hmk'⟩ := Brg_sync (T := t.2.2.2.1) (t := t.1) hz hc (show a / PL ≤ 16 by omega) c10 hp hb
        have w1 := A4 _ (hws' s3)
        rw [if_pos (by rw [e31]; exact hst1 h0)]
        have hb' := s5.deed (S := S) (so := 4) (wh := a) (ix := false) p5
        have eb : sDeed S PL 4 a false t = (fun i => if i = a then t.2.1 else t.1 i, t.2.1, t.2.2.1, t.2.2.2.1 ||| 2 ^ (a / PL), t.2.2.2.2) := by
          have : aOf PL a t.2.2.1 false = a := by
            unfold aOf
            rw [if_neg (by decide), Nat.add_zero, Nat.mod_eq_of_lt ha]
          simp only [sDeed, show ¬ (4 = 0) by omega, show ¬ (4 = 1) by omega, show ¬ (4 = 2) by omega, show ¬ (4 = 3) by omega, if_true, if_false, this]
        rw [eb] at hb'
        have ha1 : upd m3 (pos c (a / PL % S) w + 3) (nI 1) (cat c 1) = nI t.2.1 := by
          rw [upd_ne (by omega), A3 _ (by omega) (by omega), cl 1 (by omega)]; exact s1
        have hp3 : PI S W PL NC (upd m3 (pos c (a / PL % S) w + 3) (nI 1)) := PI_cell hz hc hs hw (by omega) (by omega) A2 (fun z => by omega) (fun _ => Or.inr ⟨rfl, n16⟩) (fun z => by omega)
        have mk1 : MkS S W c m3 t.2.2.2.1 := MkS_hi (hmk' (s4 rfl)) (fun i hi => A3 i (by omega) (by omega))
        have mk2 := MkS_set (f := 3) hz hc A2 (show a / PL ≤ 16 by omega) hw (Or.inr rfl) l3 mk1
        have ws2 : WSy S W PL c (upd m3 (pos c (a / PL % S) w + 3) (nI 1)) t.1 := WSy_mark hz hs hw (Or.inr rfl) w1
        have ws3 := WSy_put (v := t.2.1) hz hc hp3 hℓ hw hk (by rw [upd_ne (by omega)]; exact l3) (by rw [upd_ne (by omega), A3 _ (by omega) (by omega)]; exact h3) ws2
        rw [hdm] at ws3
        rw [ha1]
        refine ⟨?_, ?_, ws3, fun _ ℓ' hℓ' => ?_, hb', s6⟩
        · rw [upd_ne (by omega)]; exact ha1
        · have := lt 2 (by omega); have := ge 2
          rw [upd_ne (by omega), upd_ne (by omega), A3 _ (by omega) (by omega), cl 2 (by omega)]; exact s2
        · have hs' : ℓ' % S < S := Nat.mod_lt _ p1
          have kp : ∀ w2 f, w2 < W → f < 5 → ∀ v, upd (upd m3 (pos c (a / PL % S) w + 3) (nI 1)) (pos c (a / PL % S) w + 5 + a % PL) v (pos c (ℓ' % S) w2 + f) = upd m3 (pos c (a / PL % S) w + 3) (nI 1) (pos c (ℓ' % S) w2 + f) := fun w2 f x y v => upd_ne (fun z => by
            rw [Nat.add_assoc] at z
            have := (pos_inj (by omega) (by omega) (by omega) (by omega) (by omega) (by omega) z).2.2.2
            omega)
          have kp0 : ∀ w2, w2 < W → ∀ v, upd (upd m3 (pos c (a / PL % S) w + 3) (nI 1)) (pos c (a / PL % S) w + 5 + a % PL) v (pos c (ℓ' % S) w2) = upd m3 (pos c (a / PL % S) w + 3) (nI 1) (pos c (ℓ' % S) w2) := fun w2 x v => by
            have := kp w2 0 x (by omega) v
            rwa [Nat.add_zero] at this
          rw [mk2 ℓ' hℓ']
          constructor
          · rintro ⟨w2, x, y⟩
            exact ⟨w2, x, by rw [kp0 w2 x, kp w2 2 x (by omega), kp w2 3 x (by omega)]; exact y⟩
          · rintro ⟨w2, x, y⟩
            rw [kp0 w2 x, kp w2 2 x (by omega), kp w2 3 x (by omega)] at y
            exact ⟨w2, x, y⟩
