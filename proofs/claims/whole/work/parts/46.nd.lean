theorem Tch_next {S W PL NC rule c a r : Nat} {tries : Int32} {b : Bool} {len : Nat → Nat} {so wh : Nat → Nat → Nat} (hz : Siz S W PL NC) (hc : c < NC) (ha : a < 16 * PL) {m m' : Rw} (hst : m (cat c 3) ≠ nI 0) (h : TchR S W PL NC rule tries c a b m 1 r m') (hp : RI S W PL NC len so wh m) : m' (cat c 0) = m (cat c 0) := by
  obtain ⟨p1, p2, p3, p4, p5, p6, p7, p8⟩ := id hz
  have hℓ : a / PL < 16 := (Nat.div_lt_iff_lt_mul p5).mpr (by omega)
  have lt := cat_lt (show c < 4 by omega) (show 0 < 14 by omega)
  have g0 := (show cat c 0 = 6 + 14 * c + 0 from rfl)
  have g1 := (show cat c 1 = 6 + 14 * c + 1 from rfl)
  obtain ⟨h1, r1, m1, hd, ⟨-, h, -, -⟩ | ⟨-, h, -, -⟩ | ⟨rfl, was, o, m2, -, hb, ⟨-, h, -, -⟩ | ⟨w, e, -, -, he⟩⟩⟩ := h
  · omega
  · omega
  · omega
  · subst e
    have q0 := RI_Dec hz hc hst hd hp
    obtain ⟨hw, hl⟩ := BrgR_line ⟨p1, p2⟩ p4 p6 (by omega) p8 hc hb
    have gp := pos_ge c (a / PL % S) w
    have e2 : m2 (cat c 0) = m (cat c 0) := by
      rw [BrgR_low hz hc (by omega) q0.1.lok hb (by omega) (by omega) (by omega) (by omega)]
      exact Dec_cat hz (by omega) hd 0 (by omega)
    rw [he, ← e2]
    split
    · unfold rPut
      rw [upd_ne (by omega)]
      split
      · rw [upd_ne (by omega)]
        split
        · exact rWB_low p6 ⟨_, by omega, hl⟩ (by omega) (by omega)
        · rfl
      · split
        · exact rWB_low p6 ⟨_, by omega, hl⟩ (by omega) (by omega)
        · rfl
    · unfold rGet
      rw [upd_ne (by omega)]
      split
      · rw [upd_ne (by omega)]
      · rfl
theorem RI_step {S W PL NC rule c how r : Nat} {tries : Int32} {len : Nat → Nat} {so wh : Nat → Nat → Nat} {ix : Nat → Bool} (hz : Siz S W PL NC) (hc : c < NC) {m m' : Rw} (hp : RI S W PL NC len so wh m) (h : StepR S W PL NC rule tries (len c) (so c) (wh c) ix c m how r m') : RI S W PL NC len so wh m' := by
  obtain ⟨p1, p2, p3, p4, p5, p6, p7, p8⟩ := id hz
  have hc4 : c < 4 := by omega
  obtain ⟨k, -, hk, ⟨-, -, -, he⟩ | ⟨hl, -, m1, hd, he⟩⟩ := h
  · rw [he]; exact hp
  have hp0 : RI S W PL NC len so wh (upd m 0 (m 0 + nI 1)) := RI_num hz (fun i hi => upd_ne (by omega)) (fun o j _ _ _ _ => upd_ne (by unfold cat; omega)) (upd_ne (by omega)) hp
  have hk0 : upd m 0 (m 0 + nI 1) (cat c 0) = nI k := by rw [upd_ne (by unfold cat; omega)]; exact hk
  generalize upd m 0 (m 0 + nI 1) = m0 at hd hp0 hk0
  obtain ⟨k', b, st, c1, c2, c3, c4, c5, c6, c7, c8, ⟨a, a1, a2⟩, c10⟩ := hp0.2.2.1 c hc
  have hw := hp0.2.1 c hc
  have h24 := hw.1
  rw [hk0, nI_inj (by omega) (by omega)] at c1
  subst c1
  obtain ⟨w1, w2, w3, w4, w5⟩ := hw.2.2 k hl
  have nx : ∀ j v, (j = 1 ∨ j = 2) → v < 1000 → 2 ≤ so c k → RI S W PL NC len so wh (upd (upd m0 (cat c j) (nI v)) (cat c 0) (upd m0 (cat c j) (nI v) (cat c 0) + nI 1)) := fun j v hj hv hs => by
    have e : upd m0 (cat c j) (nI v) (cat c 0) = nI k := by rw [upd_ne (by unfold cat; omega)]; exact hk0
    rw [e, nI_add]
    exact RI_next hz hc e hl hs (RI_ax hz hc hj hv hp0)
  rw [he]
  rcases hd with ⟨hs, hd⟩ | ⟨hs, rfl, -, n, m2, h4, hn, hcm, rfl⟩ | ⟨hs, rfl, -, rfl⟩ | ⟨hs, xx, hx, hxl, hd⟩ | ⟨hs, rfl, -, y, y1, y2, rfl⟩ | ⟨hs, rfl, -, y, y1, y2, rfl⟩
  · have hst : st ≠ 1 := fun z => by
      have := c6.mp (by omega)
      rw [w2 hs] at this; cases this
    exact RI_Bgn hz hc hp0 hk0 hl hs (c8 hst) hd
  · rw [if_pos rfl]; exact RI_Cmt hz hc hp0 hk0 hl hs h4 hn hcm
  · rw [if_pos rfl, a2]; exact nx 2 a (Or.inr rfl) a1 (by omega)
  · have hst : m0 (cat c 3) ≠ nI 0 := by
      rw [c4, ne_eq, nI_inj (by omega) (by omega)]
      exact c6.mpr (w3 (by omega))
    have hal : aOf PL (wh c k) xx (ix k) < 16 * PL := Nat.mod_lt _ (by omega)
    have q := RI_Tch hz hc hal hst hd hp0
    by_cases e : how = 1
    · subst e
      rw [if_pos rfl]
      have e := (Tch_next hz hc hal hst hd hp0).trans hk0
      rw [e, nI_add]
      exact RI_next hz hc e hl (by omega) q
    · rw [if_neg e]; exact q
  · rw [if_pos rfl]; exact nx 1 _ (Or.inl rfl) (Nat.mod_lt _ (by omega)) (by omega)
  · rw [if_pos rfl]; exact nx 1 _ (Or.inl rfl) (Nat.mod_lt _ (by omega)) (by omega)
