/-! ===== the class' get, put, begin, end ===== -/
theorem Dec_places {S W PL NC rule c ℓ r : Nat} {tries : Int32} {b : Bool} (hz : Siz S W PL NC) {m m' : Rw} (hc : c < NC) (h : DecR S W NC rule tries c ℓ b m 1 r m') : ∀ s w f, s < 4 → w < 17 → f < 9 → m' (pos c s w + f) = m (pos c s w + f) := by
  obtain ⟨p1, p2, p3, p4, p5, p6, p7, p8⟩ := hz
  intro s w f hs hw hf
  obtain ⟨v, hv, ⟨-, -, -, h⟩ | ⟨-, -, -, h, -⟩ | ⟨-, -, h, -⟩ | ⟨-, -, -, -, -, h⟩⟩ := h
  · rw [h]
  · omega
  · omega
  · have hvc : v.testBit c = false := by
      cases hb : v.testBit c with
      | false => rfl
      | true => exact absurd rfl ((hv.2 c (by omega)).mp hb).2.1
    exact EndsL_other p2 p4 (by omega) NC p8 h c s w f (Or.inr hvc) hs hw hf
theorem c_get62 {S W PL NC r c w adr : Nat} {g : zG} {m : Rw} (hP : CPar S W PL NC g) (h : Sim S W PL NC r g m) (hp : PI S W PL NC m) (hc : c < NC) (hw : w < W) (ha : adr < 16 * PL) (hl : m (pos c (adr / PL % S) w) = nI (adr / PL)) :
    ∃ g', X3_doGet_b62 r (nI c) (4 * r + c) (nI adr) (nI (adr / PL)) g = some (nI 1, g') ∧ Sim S W PL NC r g' (upd m (cat c 1) (m (pos c (adr / PL % S) w + 5 + adr % PL))) ∧ FrC r g g' ∧ g' 12003 r 0 = g 12003 r 0 := by
  have hz := hP.1
  obtain ⟨p1, p2, p3, p4, p5, p6, p7, p8⟩ := id hz
  have h16 := pl_16 hz
  have hℓ : adr / PL < 16 := (Nat.div_lt_iff_lt_mul p5).mpr (by omega)
  have hs : adr / PL % S < S := Nat.mod_lt _ p1
  have hk : adr % PL < PL := Nat.mod_lt _ p5
  have hlt := pl_lt hs hw
  have hf := c_find hz h hc (by omega) hp.lok (show adr / PL ≤ 16 by omega) (FindR_at hz hp hc hw (by omega) hl)
  obtain ⟨-, -, -, -, -, -, a6⟩ := h.1 c _ w hc hs hw (by omega)
  have hwd := a6 (ne_m2_of hl (by omega)) (by rw [hl, ne_eq, nI_inj (by omega) (by omega)]; omega) _ hk
  have hwi := X0_wordIn_ok (q := 4 * r + c) (p := adr / PL % S * W + w) (k := adr % PL) g (by omega) (by omega)
  unfold X3_doGet_b62
  refine ⟨zU g 3005 (4 * r + c) 0 (m (pos c (adr / PL % S) w + 5 + adr % PL)), ?_, c_num1 hz h hc (by omega), (FrC.rfl' r g).u _ _ (by unfold ofRun; omega), zU_ne _ _ (by omega)⟩
  simp (disch := omega) only [zc_some, zw_eq, zi_nI, nI_clamp, nI_add, nI_1, nI_lti, nI_inj, nI_ltz, nI_eq0, nI_0lt, nI_ne_m1, nI_ne_m2, nI_m1_ne, nI_m2_ne, if_true, if_false, zU_eq, zU_ne, Nat.add_zero, pk_mul, show c < 4 by omega, hf, cpO, hP.offsetOf ha, hwi, hwd]
theorem c_doGet {S W PL NC r c k len rule how rr xx e0 : Nat} {so wh : Nat → Nat} {ix : Nat → Bool} {g : zG} {m m' : Rw} (hP : CPar S W PL NC g) (h : Sim S W PL NC r g m) (hp : PI S W PL NC m) (hc : c < NC) (hd : DeedsC c len so wh ix g) (hk : m (cat c 0) = nI k) (hkl : k < len) (hs3 : 3 ≤ so k) (hwh : wh k < 16 * PL) (hx : m (cat c 2) = nI xx) (hxl : xx < 1000) (hr : g 8003 r 0 = nI rule) (hr2 : rule ≤ 2) (he0 : e0 < 16) (hE : g 12003 r 0 = nI e0) (ht : TchR S W PL NC rule (g 9003 r 0) c (aOf PL (wh k) xx (ix k)) false m how rr m') :
    ∃ g' mid, X3_doGet r (nI c) (4 * r + c) g = some (nI how, g') ∧ Sim S W PL NC r g' mid ∧ m' = (if how = 2 then rWait c mid else mid) ∧ FrC r g g' ∧ EndE e0 rr (g' 12003 r 0) := by
  have hz := hP.1
  obtain ⟨p1, p2, p3, p4, p5, p6, p7, p8⟩ := id hz
  have h16 := pl_16 hz
  have e1 : g 1005 (4 * r + c) 0 = nI k := (h.2.2.1 c hc).1.trans hk
  have e4 : g 4005 (4 * r + c) 0 = nI xx := (h.2.2.1 c hc).2.2.2.1.trans hx
  have had : aOf PL (wh k) xx (ix k) < 16 * PL := Nat.mod_lt _ (by omega)
  have hadr := hP.addressOf hd hc hkl hs3 hwh hxl
  generalize aOf PL (wh k) xx (ix k) = adr at ht had hadr
  have hℓ : adr / PL < 16 := (Nat.div_lt_iff_lt_mul p5).mpr (by omega)
  have red : X3_doGet r (nI c) (4 * r + c) g = zc (X3_reach r (nI c) (nI (adr / PL)) (bI false) g) (fun x7 g8 => if x7 = nI 1 then (if g8 5005 (4 * r + c) 0 = nI 1 then zc (X3_markLine r (nI c) (nI (adr / PL)) (nI 0) g8) (fun x10 g11 => X3_doGet_b62 r (nI c) (4 * r + c) (nI adr) (nI (adr / PL)) g11) else X3_doGet_b62 r (nI c) (4 * r + c) (nI adr) (nI (adr / PL)) g8) else some (x7, g8)) := by
    unfold X3_doGet
    rw [e1, e4, hadr, zc_some, hP.lineOf had, zc_some]
    rfl
  rw [red]
  obtain ⟨h1, r1, m1, hdec, ⟨rfl, rfl, rfl, he⟩ | ⟨rfl, rfl, rfl, he⟩ | ⟨rfl, was, o, m2, -, hb, ⟨rfl, rfl, rfl, he⟩ | ⟨w, rfl, rfl, rfl, he⟩⟩⟩ := ht
  · obtain ⟨g1, k1, k2, k3, k4⟩ := c_reachNo hP h hp hc (by omega) hr hr2 he0 hE hdec (Or.inl rfl)
    exact ⟨g1, m1, by rw [k1, zc_some, if_neg (by decide)], k2, by rw [if_pos rfl]; exact he, k3, k4⟩
  · obtain ⟨g1, k1, k2, k3, k4⟩ := c_reachNo hP h hp hc (by omega) hr hr2 he0 hE hdec (Or.inr rfl)
    exact ⟨g1, m1, by rw [k1, zc_some, if_neg (by decide)], k2, by rw [if_neg (by omega)]; exact he, k3, k4⟩
  · obtain ⟨g1, k1, k2, k3, k4, k5⟩ := c_reach hP h hp hc (by omega) hr hr2 he0 hE hdec hb
    rw [if_pos rfl] at k1 k5
    exact ⟨g1, m2, by rw [k1, zc_some, if_neg (by decide)], k2, by rw [if_neg (by omega)]; exact he, k4, k5⟩
  · obtain ⟨g1, k1, k2, k3, k4, k5⟩ := c_reach hP h hp hc (by omega) hr hr2 he0 hE hdec hb
    rw [if_neg (by simp)] at k1 k5
    obtain ⟨hw, hl⟩ := BrgR_line ⟨p1, p2⟩ (by omega) p6 (by omega) p8 hc hb
    have hs : adr / PL % S < S := Nat.mod_lt _ p1
    have e5 : g1 5005 (4 * r + c) 0 = m2 (cat c 3) := (k2.2.2.1 c hc).2.2.2.2.1
    have ga := pos_ge c (adr / PL % S) w
    rw [if_neg (by decide)] at he
    by_cases e : m2 (cat c 3) = nI 1
    · obtain ⟨g2, j1, j2, j3, j4⟩ := c_mark (b := false) hz k2 k3 hc hw (show adr / PL ≤ 16 by omega) hl
      rw [if_neg (by decide)] at j2
      have hp3 : PI S W PL NC (upd m2 (pos c (adr / PL % S) w + 2) (nI 1)) := PI_cell hz.siz hc hs hw (by omega) (by omega) k3 (fun _ => Or.inr rfl) (fun z => by omega) (fun z => by omega)
      obtain ⟨g3, i1, i2, i3, i4⟩ := c_get62 (hP.fr (k4.trans j3)) j2 hp3 hc hw had (by rw [upd_ne (by omega)]; exact hl)
      refine ⟨g3, _, ?_, i2, ?_, (k4.trans j3).trans i3, by rw [i4, j4]; exact k5⟩
      · rw [k1, zc_some, if_pos rfl, e5, if_pos e]
        show zc (X3_markLine r (nI c) (nI (adr / PL)) (bI false) g1) _ = _
        rw [j1, zc_some]; exact i1
      · rw [if_neg (by omega), he]
        unfold rGet
        try dsimp only
        rw [if_pos e]
    · obtain ⟨g3, i1, i2, i3, i4⟩ := c_get62 (hP.fr k4) k2 k3 hc hw had hl
      refine ⟨g3, _, ?_, i2, ?_, k4.trans i3, by rw [i4]; exact k5⟩
      · rw [k1, zc_some, if_pos rfl, e5, if_neg e]; exact i1
      · rw [if_neg (by omega), he]
        unfold rGet
        try dsimp only
        rw [if_neg e]
theorem c_put133 {S W PL NC r c w adr : Nat} {g : zG} {m : Rw} (hP : CPar S W PL NC g) (h : Sim S W PL NC r g m) (hc : c < NC) (hw : w < W) (ha : adr < 16 * PL) :
    ∃ g', X3_doPut_b133 r (4 * r + c) (4 * r + c) (nI adr) (nI (adr / PL % S * W + w)) g = some (nI 1, g') ∧ Sim S W PL NC r g' (upd m (pos c (adr / PL % S) w + 5 + adr % PL) (m (cat c 1))) ∧ FrC r g g' ∧ g' 12003 r 0 = g 12003 r 0 := by
  have hz := hP.1
  obtain ⟨p1, p2, p3, p4, p5, p6, p7, p8⟩ := id hz
  have h16 := pl_16 hz
  have hs : adr / PL % S < S := Nat.mod_lt _ p1
  have hk : adr % PL < PL := Nat.mod_lt _ p5
  have hlt := pl_lt hs hw
  have e3 : g 3005 (4 * r + c) 0 = m (cat c 1) := (h.2.2.1 c hc).2.2.1
  have hsw := X0_setWord_ok (q := 4 * r + c) (p := adr / PL % S * W + w) (k := adr % PL) g (m (cat c 1)) (by omega) (by omega)
  unfold X3_doPut_b133
  refine ⟨zU g 27 (4 * r + c) (4 * (adr / PL % S * W + w) + adr % PL) (m (cat c 1)), ?_, c_word hz h hc hs hw (by omega) (by omega), (FrC.rfl' r g).u _ _ (by unfold ofRun; omega), zU_ne _ _ (by omega)⟩
  rw [hP.offsetOf ha, zc_some, e3, hsw, zc_some]
theorem c_doPut {S W PL NC r c k len rule how rr xx e0 : Nat} {so wh : Nat → Nat} {ix : Nat → Bool} {g : zG} {m m' : Rw} (hP : CPar S W PL NC g) (h : Sim S W PL NC r g m) (hp : PI S W PL NC m) (hc : c < NC) (hd : DeedsC c len so wh ix g) (hk : m (cat c 0) = nI k) (hkl : k < len) (hs3 : 3 ≤ so k) (hwh : wh k < 16 * PL) (hx : m (cat c 2) = nI xx) (hxl : xx < 1000) (hr : g 8003 r 0 = nI rule) (hr2 : rule ≤ 2) (he0 : e0 < 16) (hE : g 12003 r 0 = nI e0) (ht : TchR S W PL NC rule (g 9003 r 0) c (aOf PL (wh k) xx (ix k)) true m how rr m') :
    ∃ g' mid, X3_doPut r (nI c) (4 * r + c) g = some (nI how, g') ∧ Sim S W PL NC r g' mid ∧ m' = (if how = 2 then rWait c mid else mid) ∧ FrC r g g' ∧ EndE e0 rr (g' 12003 r 0) := by
  have hz := hP.1
  obtain ⟨p1, p2, p3, p4, p5, p6, p7, p8⟩ := id hz
  have h16 := pl_16 hz
  have e1 : g 1005 (4 * r + c) 0 = nI k := (h.2.2.1 c hc).1.trans hk
  have e4 : g 4005 (4 * r + c) 0 = nI xx := (h.2.2.1 c hc).2.2.2.1.trans hx
  have had : aOf PL (wh k) xx (ix k) < 16 * PL := Nat.mod_lt _ (by omega)
  have hadr := hP.addressOf hd hc hkl hs3 hwh hxl
  generalize aOf PL (wh k) xx (ix k) = adr at ht had hadr
  have hℓ : adr / PL < 16 := (Nat.div_lt_iff_lt_mul p5).mpr (by omega)
  have hs : adr / PL % S < S := Nat.mod_lt _ p1
  obtain ⟨o9, ho9⟩ := FindR_ex (S := S) (W := W) m c (adr / PL)
  have hf9 := c_find hz h hc (by omega) hp.lok (show adr / PL ≤ 16 by omega) ho9
  have red : X3_doPut r (nI c) (4 * r + c) g = X3_doPut_b76 r (nI c) (4 * r + c) (4 * r + c) (nI adr) (nI (adr / PL)) (bI (oldO S c (adr / PL) m o9)) g := by
    unfold X3_doPut
    rw [e1, e4, zi_nI (show c < 4 by omega) (by omega), hadr, zc_some, hP.lineOf had, zc_some, show (nI c).toNatClampNeg = c from nI_clamp (by omega), hf9, zc_some]
    unfold X3_doPut_b75
    cases o9 with
    | none => rw [if_pos (show cpO S W (adr / PL) none = -1 from rfl)]; rfl
    | some w =>
      have hw := ho9.1
      have hlt := pl_lt hs hw
      obtain ⟨a0, a1, a2, a3, -⟩ := h.1 c _ w hc hs hw (by omega)
      simp only [cpO, oldO]
      simp (disch := omega) only [zc_some, zw_eq, zi_nI, nI_clamp, nI_add, nI_1, nI_lti, nI_inj, nI_ltz, nI_eq0, nI_0lt, nI_ne_m1, nI_ne_m2, nI_m1_ne, nI_m2_ne, if_true, if_false, zU_eq, zU_ne, Nat.add_zero, pk_mul, show adr / PL % S * W + w < 16 by omega, a1, a3]
      by_cases z1 : m (pos c (adr / PL % S) w + 1) = nI 3
      · by_cases z3 : m (pos c (adr / PL % S) w + 3) = 0
        · rw [if_pos z1, if_pos z3, decide_eq_true ⟨z1, z3⟩]; rfl
        · rw [if_pos z1, if_neg z3, decide_eq_false (fun z => z3 z.2)]; rfl
      · rw [if_neg z1, decide_eq_false (fun z => z1 z.1)]; rfl
  rw [red]
  have red2 : X3_doPut_b76 r (nI c) (4 * r + c) (4 * r + c) (nI adr) (nI (adr / PL)) (bI (oldO S c (adr / PL) m o9)) g = zc (X3_reach r (nI c) (nI (adr / PL)) (bI true) g) (fun x1 g2 => if x1 = nI 1 then zc (X0_find (4 * r + c) (nI (adr / PL)) g2) (fun x4 g5 => if g5 5005 (4 * r + c) 0 = nI 1 then (if bI (oldO S c (adr / PL) m o9) = 0 then X3_doPut_b125 r (nI c) (4 * r + c) (4 * r + c) (nI adr) (nI (adr / PL)) x4 g5 else zc (X3_writeBack r (4 * r + c) x4 g5) (fun x7 g8 => X3_doPut_b125 r (nI c) (4 * r + c) (4 * r + c) (nI adr) (nI (adr / PL)) x4 g8)) else X3_doPut_b133 r (4 * r + c) (4 * r + c) (nI adr) x4 g5) else some (x1, g2)) := rfl
  rw [red2]
  obtain ⟨h1, r1, m1, hdec, ⟨rfl, rfl, rfl, he⟩ | ⟨rfl, rfl, rfl, he⟩ | ⟨rfl, was, o, m2, hwas, hb, ⟨rfl, rfl, rfl, he⟩ | ⟨w, rfl, rfl, rfl, he⟩⟩⟩ := ht
  · obtain ⟨g1, k1, k2, k3, k4⟩ := c_reachNo hP h hp hc (by omega) hr hr2 he0 hE hdec (Or.inl rfl)
    exact ⟨g1, m1, by rw [k1, zc_some, if_neg (by decide)], k2, by rw [if_pos rfl]; exact he, k3, k4⟩
  · obtain ⟨g1, k1, k2, k3, k4⟩ := c_reachNo hP h hp hc (by omega) hr hr2 he0 hE hdec (Or.inr rfl)
    exact ⟨g1, m1, by rw [k1, zc_some, if_neg (by decide)], k2, by rw [if_neg (by omega)]; exact he, k3, k4⟩
  · obtain ⟨g1, k1, k2, k3, k4, k5⟩ := c_reach hP h hp hc (by omega) hr hr2 he0 hE hdec hb
    rw [if_pos rfl] at k1 k5
    exact ⟨g1, m2, by rw [k1, zc_some, if_neg (by decide)], k2, by rw [if_neg (by omega)]; exact he, k4, k5⟩
  · have pl := Dec_places hz.siz hc hdec
    have pl0 : ∀ w', w' < W → m1 (pos c (adr / PL % S) w') = m (pos c (adr / PL % S) w') := fun w' hw' => by
      have := pl (adr / PL % S) w' 0 (by omega) (by omega) (by omega)
      rwa [Nat.add_zero] at this
    have hwm : FindR S W m c (adr / PL) was := by
      cases was with
      | none => exact fun w' hw' => by rw [← pl0 w' hw']; exact hwas w' hw'
      | some v =>
        obtain ⟨v1, v2, v3⟩ := hwas
        exact ⟨v1, by rw [← pl0 v v1]; exact v2, fun q hq => by rw [← pl0 q (by omega)]; exact v3 q hq⟩
    have hw9 : was = o9 := FindR_det hwm ho9
    subst hw9
    have hold : oldO S c (adr / PL) m1 was = oldO S c (adr / PL) m was := by
      cases was with
      | none => rfl
      | some v =>
        have := hwas.1
        simp only [oldO]
        rw [pl _ v 1 (by omega) (by omega) (by omega), pl _ v 3 (by omega) (by omega) (by omega)]
    rw [hold, if_pos rfl] at he
    generalize oldO S c (adr / PL) m was = old at he
    obtain ⟨g1, k1, k2, k3, k4, k5⟩ := c_reach hP h hp hc (by omega) hr hr2 he0 hE hdec hb
    rw [if_neg (by simp)] at k1 k5
    obtain ⟨hw, hl⟩ := BrgR_line ⟨p1, p2⟩ (by omega) p6 (by omega) p8 hc hb
    have hlt := pl_lt hs hw
    have ga := pos_ge c (adr / PL % S) w
    have hb3 := cat_lt (show c < 4 by omega) (show 3 < 14 by omega)
    have hb1 := cat_lt (show c < 4 by omega) (show 1 < 14 by omega)
    have e5 : g1 5005 (4 * r + c) 0 = m2 (cat c 3) := (k2.2.2.1 c hc).2.2.2.2.1
    have hfw := c_find hz k2 hc (by omega) k3.lok (show adr / PL ≤ 16 by omega) (FindR_at hz k3 hc hw (by omega) hl)
    rw [k1, zc_some, if_pos rfl, hfw, zc_some, e5]
    simp only [cpO]
    by_cases e : m2 (cat c 3) = nI 1
    · rw [if_pos e]
      -- the words of before are saved
      obtain ⟨g2, j1, j2, j3, j4⟩ : ∃ g2, (if bI old = 0 then X3_doPut_b125 r (nI c) (4 * r + c) (4 * r + c) (nI adr) (nI (adr / PL)) (nI (adr / PL % S * W + w)) g1 else zc (X3_writeBack r (4 * r + c) (nI (adr / PL % S * W + w)) g1) (fun x7 g8 => X3_doPut_b125 r (nI c) (4 * r + c) (4 * r + c) (nI adr) (nI (adr / PL)) (nI (adr / PL % S * W + w)) g8)) = X3_doPut_b125 r (nI c) (4 * r + c) (4 * r + c) (nI adr) (nI (adr / PL)) (nI (adr / PL % S * W + w)) g2 ∧ Sim S W PL NC r g2 (if old = true then rWB PL m2 (pos c (adr / PL % S) w) else m2) ∧ FrC r g1 g2 ∧ g2 12003 r 0 = g1 12003 r 0 := by
        cases old with
        | false => exact ⟨g1, by rw [if_pos (by decide)], by rw [if_neg (by decide)]; exact k2, FrC.rfl' r g1, rfl⟩
        | true =>
          obtain ⟨g2, y1, y2, y3, y4, -⟩ := c_writeBack (hP.fr k4) k2 hc hs hw (by omega) hl (by omega)
          exact ⟨g2, by rw [if_neg (by decide), y1, zc_some], by rw [if_pos rfl]; exact y2, y3, y4⟩
      have hp2 : PI S W PL NC (if old = true then rWB PL m2 (pos c (adr / PL % S) w) else m2) := by
        split
        · exact PI_WB hz.siz hc hs hw k3
        · exact k3
      have hm3 : (if m2 (cat c 3) = nI 1 ∧ old = true then rWB PL m2 (pos c (adr / PL % S) w) else m2) = (if old = true then rWB PL m2 (pos c (adr / PL % S) w) else m2) := by
        cases old with
        | false => rw [if_neg (fun z => by cases z.2), if_neg (by decide)]
        | true => rw [if_pos ⟨e, rfl⟩, if_pos rfl]
      have low : ∀ i, i ≠ 2 → ¬ (254 ≤ i ∧ i < 318) → (if old = true then rWB PL m2 (pos c (adr / PL % S) w) else m2) i = m2 i := fun i a b => by
        split
        · exact rWB_low p6 ⟨adr / PL, by omega, hl⟩ a b
        · rfl
      obtain ⟨g3, i1, i2, i3, i4⟩ := c_mark (b := true) hz j2 hp2 hc hw (show adr / PL ≤ 16 by omega) (by rw [low _ (by omega) (by omega)]; exact hl)
      rw [if_pos rfl] at i2
      obtain ⟨g4, y1, y2, y3, y4⟩ := c_put133 (hP.fr ((k4.trans j3).trans i3)) i2 hc hw had
      refine ⟨g4, _, ?_, y2, ?_, ((k4.trans j3).trans i3).trans y3, by rw [y4, i4, j4]; exact k5⟩
      · rw [j1]
        unfold X3_doPut_b125
        show zc (X3_markLine r (nI c) (nI (adr / PL)) (bI true) g2) _ = _
        rw [i1, zc_some]; exact y1
      · rw [if_neg (by omega), he]
        unfold rPut
        try dsimp only
        rw [hm3, if_pos e]
    · rw [if_neg e]
      obtain ⟨g4, y1, y2, y3, y4⟩ := c_put133 (hP.fr k4) k2 hc hw had
      refine ⟨g4, _, y1, y2, ?_, k4.trans y3, by rw [y4]; exact k5⟩
      rw [if_neg (by omega), he]
      unfold rPut
      try dsimp only
      rw [if_neg e, if_neg (fun z => e z.1)]
