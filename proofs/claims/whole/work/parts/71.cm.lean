/-! ===== serial, agrees, alone ===== -/
theorem hasDeed_end {S W PL NC c len : Nat} {so wh : Nat → Nat} {ix : Nat → Bool} {g : zG} (h : CPar S W PL NC g) (hd : DeedsC c len so wh ix g) (hc : c < NC) : X2_hasDeed 0 (nI c) (nI len) g = some (nI 0, g) := by
  obtain ⟨⟨p1, p2, p3, p4, p5, p6, p7, p8⟩, q1, q2, q3, q4⟩ := h
  obtain ⟨d1, d2, d3⟩ := hd
  unfold X2_hasDeed
  simp (disch := omega) only [zc_some, zw_eq, zi_nI, nI_clamp, nI_add, nI_1, nI_lti, nI_inj, nI_ltz, nI_eq0, nI_0lt, nI_ne_m1, nI_ne_m2, nI_m1_ne, nI_m2_ne, if_true, if_false, zU_eq, zU_ne, Nat.add_zero, pk_mul, q4, hc, show c < 4 by omega, d1, Nat.lt_irrefl]
theorem X4_play_all {S W PL NC c len : Nat} {so wh : Nat → Nat} {ix : Nat → Bool} (hc : c < NC) (hw : WfD so wh PL len) : ∀ n i f g t, i + n = len → CPar S W PL NC g → DeedsC c len so wh ix g → SoS g t → StB t → ∃ g', X4_play_l3 (f + n + 1) (nI c) (nI 0) (nI i) g = some (0, g') ∧ SoS g' (sRun S PL so wh ix t i n) ∧ FrO g g' := by
  intro n
  induction n with
  | zero =>
    intro i f g t e hP hd hS hB
    have e' : i = len := by omega
    subst e'
    refine ⟨g, ?_, hS, FrO.rfl' g⟩
    rw [X4_play_l3.eq_2]
    have := hw.1
    by_cases z : i < 24
    · rw [if_pos (by rw [nI_lti (by omega) (by omega)]; exact z), hasDeed_end hP hd hc, zc_some, ite0]
    · rw [if_neg (by rw [nI_lti (by omega) (by omega)]; exact z)]
  | succ n ih =>
    intro i f g t e hP hd hS hB
    have hl := hw.1
    obtain ⟨g1, k1, k2, k3⟩ := X4_playDeed_ok hP hd hw hc (show i < len by omega) hS hB
    have hPL := hP.1.2.2.2.2.1
    obtain ⟨g', j1, j2, j3⟩ := ih (i + 1) f g1 _ (by omega) (hP.frO k3) (hd.frO k3) k2 (hB.deed hPL)
    refine ⟨g', ?_, by rw [sRun_cons]; exact j2, k3.trans j3⟩
    rw [show f + (n + 1) + 1 = (f + n + 1) + 1 by omega, X4_play_l3.eq_2, if_pos (by rw [nI_lti (by omega) (by omega)]; omega), hP.hasDeed hd hc (by omega), zc_some, ite1, k1, zc_some, ite0]
    unfold X4_play_b49
    rw [nI_add]; exact j1
theorem X4_play_end {S W PL NC c len e : Nat} {so wh : Nat → Nat} {ix : Nat → Bool} (hc : c < NC) (hw : WfD so wh PL len) (hel : e < len) (he : so e = 1) : ∀ n i f g t, i + n = e → (∀ j, i ≤ j → j < e → so j ≠ 1) → CPar S W PL NC g → DeedsC c len so wh ix g → SoS g t → StB t → ∃ g', X4_play_l3 (f + n + 1) (nI c) (nI 1) (nI i) g = some (0, g') ∧ SoS g' (sRun S PL so wh ix t i (n + 1)) ∧ FrO g g' := by
  intro n
  induction n with
  | zero =>
    intro i f g t e' hno hP hd hS hB
    have ee : i = e := by omega
    subst ee
    have hl := hw.1
    obtain ⟨g1, k1, k2, k3⟩ := X4_playDeed_ok hP hd hw hc hel hS hB
    refine ⟨g1, ?_, k2, k3⟩
    rw [X4_play_l3.eq_2, if_pos (by rw [nI_lti (by omega) (by omega)]; omega), hP.hasDeed hd hc hel, zc_some, ite1, k1, zc_some, ite1, (hP.frO k3).sortOf (hd.frO k3) hc hel, zc_some, he, if_pos rfl]
  | succ n ih =>
    intro i f g t e' hno hP hd hS hB
    have hl := hw.1
    obtain ⟨g1, k1, k2, k3⟩ := X4_playDeed_ok hP hd hw hc (show i < len by omega) hS hB
    have hPL := hP.1.2.2.2.2.1
    obtain ⟨g', j1, j2, j3⟩ := ih (i + 1) f g1 _ (by omega) (fun j a b => hno j (by omega) b) (hP.frO k3) (hd.frO k3) k2 (hB.deed hPL)
    have hs6 := (hw.2.2 i (by omega)).1
    have hne := hno i (Nat.le_refl _) (by omega)
    refine ⟨g', ?_, by rw [sRun_cons]; exact j2, k3.trans j3⟩
    rw [show f + (n + 1) + 1 = (f + n + 1) + 1 by omega, X4_play_l3.eq_2, if_pos (by rw [nI_lti (by omega) (by omega)]; omega), hP.hasDeed hd hc (by omega), zc_some, ite1, k1, zc_some, ite1, (hP.frO k3).sortOf (hd.frO k3) hc (by omega), zc_some, if_neg (by rw [nI_inj (by omega) (by omega)]; exact hne)]
    unfold X4_play_b49
    rw [nI_add]; exact j1
/-- words alike; A and X too where a try is open -/
def WS (o : Bool) (t t' : St) : Prop := t.1 = t'.1 ∧ (o = true → t.2.1 = t'.2.1 ∧ t.2.2.1 = t'.2.2.1)
theorem WS_deed {S PL len k : Nat} {so wh : Nat → Nat} {ix : Nat → Bool} {t t' : St} (hw : WfD so wh PL len) (hk : k < len) (h : WS (opn so k) t t') : WS (opn so (k + 1)) (sDeed S PL (so k) (wh k) (ix k) t) (sDeed S PL (so k) (wh k) (ix k) t') := by
  obtain ⟨w1, -, w3, -⟩ := hw.2.2 k hk
  obtain ⟨h1, h2⟩ := h
  have hcs : so k = 0 ∨ so k = 1 ∨ so k = 2 ∨ so k = 3 ∨ so k = 4 ∨ so k = 5 ∨ so k = 6 := by omega
  rcases hcs with e | e | e | e | e | e | e
  · simp only [sDeed, e, if_true]; exact ⟨h1, fun _ => ⟨rfl, rfl⟩⟩
  · have : opn so (k + 1) = false := by rw [opn, if_neg (by omega), if_pos e]
    rw [this]
    simp only [sDeed, e, if_true, show ¬ (1 = 0) by omega, if_false]; exact ⟨h1, fun z => by cases z⟩
  · have : opn so (k + 1) = opn so k := by rw [opn, if_neg (by omega), if_neg (by omega)]
    rw [this]
    simp only [sDeed, e, if_true, show ¬ (2 = 0) by omega, show ¬ (2 = 1) by omega, if_false]; exact ⟨h1, fun z => ⟨(h2 z).1, (h2 z).1⟩⟩
  · have : opn so (k + 1) = opn so k := by rw [opn, if_neg (by omega), if_neg (by omega)]
    obtain ⟨y1, y2⟩ := h2 (w3 (by omega))
    rw [this]
    simp only [sDeed, e, if_true, show ¬ (3 = 0) by omega, show ¬ (3 = 1) by omega, show ¬ (3 = 2) by omega, if_false, h1, y2]; exact ⟨rfl, fun _ => ⟨rfl, rfl⟩⟩
  · have : opn so (k + 1) = opn so k := by rw [opn, if_neg (by omega), if_neg (by omega)]
    obtain ⟨y1, y2⟩ := h2 (w3 (by omega))
    rw [this]
    simp only [sDeed, e, if_true, show ¬ (4 = 0) by omega, show ¬ (4 = 1) by omega, show ¬ (4 = 2) by omega, show ¬ (4 = 3) by omega, if_false, h1, y1, y2]; exact ⟨rfl, fun _ => ⟨rfl, rfl⟩⟩
  · have : opn so (k + 1) = opn so k := by rw [opn, if_neg (by omega), if_neg (by omega)]
    rw [this]
    simp only [sDeed, e, if_true, show ¬ (5 = 0) by omega, show ¬ (5 = 1) by omega, show ¬ (5 = 2) by omega, show ¬ (5 = 3) by omega, show ¬ (5 = 4) by omega, if_false]; exact ⟨h1, fun z => ⟨by rw [(h2 z).1], (h2 z).2⟩⟩
  · have : opn so (k + 1) = opn so k := by rw [opn, if_neg (by omega), if_neg (by omega)]
    rw [this]
    simp only [sDeed, e, show ¬ (6 = 0) by omega, show ¬ (6 = 1) by omega, show ¬ (6 = 2) by omega, show ¬ (6 = 3) by omega, show ¬ (6 = 4) by omega, show ¬ (6 = 5) by omega, if_false]; exact ⟨h1, fun z => ⟨by rw [(h2 z).1], (h2 z).2⟩⟩
theorem WS_run {S PL len k : Nat} {so wh : Nat → Nat} {ix : Nat → Bool} {t t' : St} (hw : WfD so wh PL len) (h : WS (opn so k) t t') : ∀ n, k + n ≤ len → WS (opn so (k + n)) (sRun S PL so wh ix t k n) (sRun S PL so wh ix t' k n) := by
  intro n
  induction n with
  | zero => intro _; exact h
  | succ n ih => intro hn; exact WS_deed (k := k + n) hw (by omega) (ih (by omega))
/-- an end stands behind a begin -/
theorem end_behind {len b : Nat} {so : Nat → Nat} (hb : so b = 0) (hbl : b < len) (ho : opn so len = false) : ∃ e, b < e ∧ e < len ∧ so e = 1 ∧ ∀ j, b ≤ j → j < e → so j ≠ 1 := by
  have key : ∀ n, (∀ j, b < j → j < b + 1 + n → so j ≠ 1) → opn so (b + 1 + n) = true := by
    intro n
    induction n with
    | zero => intro _; rw [Nat.add_zero, opn, if_pos hb]
    | succ n ih =>
      intro h
      show opn so (b + 1 + n + 1) = true
      rw [opn]
      split
      · rfl
      · rw [if_neg (h _ (by omega) (by omega))]
        exact ih (fun j a c => h j a (by omega))
  have ex : ∃ e, b < e ∧ e < len ∧ so e = 1 := Classical.byContradiction (fun hn => by
    have := key (len - (b + 1)) (fun j a c e => hn ⟨j, a, by omega, e⟩)
    rw [show b + 1 + (len - (b + 1)) = len by omega, ho] at this
    cases this)
  have least : ∀ n e, e ≤ n → b < e → e < len → so e = 1 → ∃ e, b < e ∧ e < len ∧ so e = 1 ∧ ∀ j, b ≤ j → j < e → so j ≠ 1 := by
    intro n
    induction n with
    | zero => intro e h1 h2; omega
    | succ n ih =>
      intro e h1 h2 h3 h4
      by_cases hz : ∃ j, b < j ∧ j < e ∧ so j = 1
      · obtain ⟨j, j1, j2, j3⟩ := hz
        exact ih j (by omega) j1 (by omega) j3
      · refine ⟨e, h2, h3, h4, fun j a c y => ?_⟩
        by_cases z : j = b
        · rw [z, hb] at y; omega
        · exact hz ⟨j, by omega, c, y⟩
  obtain ⟨e, h1, h2, h3⟩ := ex
  exact least e e (Nat.le_refl _) h1 h2 h3
def PlW (g : zG) (w : Nat → Nat) : Prop := ∀ i, i < 64 → g 46 0 i = nI (w i)
theorem X7_plain_begin {PL c k len : Nat} {so wh : Nat → Nat} {ix : Nat → Bool} {g : zG} {w : Nat → Nat} (hz : 0 < PL ∧ PL ≤ 4) (h2 : g 31 0 2 = nI PL) (hd : DeedsM c len so wh ix g) (hl24 : len ≤ 24) (hc : c < 4) (hk : k < len) (h0 : so k = 0) (hS : PlW g w) : ∃ g', X7_plainly (nI (24 * c + k)) g = some (0, g') ∧ PlP g' (w, 0, 0, 0, 0) ∧ FrP g g' := by
  obtain ⟨d1, d2⟩ := hd.2 k hk
  have ecl : (nI (24 * c + k)).toNatClampNeg = 24 * c + k := nI_clamp (by omega)
  have e22 : (nI 2).toNatClampNeg = 2 := nI_clamp (by omega)
  have n16 : ¬ (nI (16 * PL) = 0) := by rw [nI_eq0 (by omega)]; omega
  have red : ∀ s0 s1 : Int32, X7_plainly_b24 (nI (24 * c + k)) s0 s1 g = some (0, zU (zU g 40007 0 0 (nI 0)) 41007 0 0 (nI 0)) := fun s0 s1 => by
    unfold X7_plainly_b24 X7_addresses
    rw [zi_nI (by omega) (by omega), e22, h2, pk_mul, zc_some, if_neg n16, zi_nI (show 24 * c + k < 96 by omega) (by omega), ecl, d1, h0, if_pos rfl, zw_eq, zw_eq]
  unfold X7_plainly
  rw [zi_nI (show 24 * c + k < 96 by omega) (by omega), zi_nI (show 24 * c + k < 96 by omega) (by omega), ecl, red, red, ite_self]
  exact ⟨_, rfl, ⟨fun i hi => by simp (disch := omega) only [zU_ne]; exact hS i hi, by rw [zU_ne _ _ (by omega), zU_self], by rw [zU_self]⟩, fun f i j x1 x2 x3 => by simp (disch := omega) only [zU_ne]⟩
theorem DeedsM.frP {c len : Nat} {so wh : Nat → Nat} {ix : Nat → Bool} {g g' : zG} (h : DeedsM c len so wh ix g) (hf : FrP g g') : DeedsM c len so wh ix g' := by
  obtain ⟨h1, h2⟩ := h
  refine ⟨by rw [hf _ _ _ (by omega) (by omega) (by omega)]; exact h1, fun j hj => ?_⟩
  rw [hf 37 _ _ (by omega) (by omega) (by omega), hf 39 _ _ (by omega) (by omega) (by omega), hf 41 _ _ (by omega) (by omega) (by omega)]
  exact h2 j hj
/-- the reference's deeds up to an end -/
theorem X7_ser_end {S W PL NC c len e : Nat} {so wh : Nat → Nat} {ix : Nat → Bool} (K : Int32 → zG → zR0) (v1 : Int32) (hz : 0 < PL ∧ PL ≤ 4) (hc : c < 4) (hw : WfD so wh PL len) (hel : e < len) (he : so e = 1) : ∀ n i f g t, i + n = e → (∀ j, i ≤ j → j < e → so j ≠ 1) → g 31 0 2 = nI PL → DeedsM c len so wh ix g → PlP g t → StB t → ∃ g', X7_serially_l45 K (f + n + 1) v1 (nI (24 * c + i)) g = K (v1 + nI 1) g' ∧ PlP g' (sRun S PL so wh ix t i n) ∧ FrP g g' := by
  have hl := hw.1
  intro n
  induction n with
  | zero =>
    intro i f g t e' hno h2 hd hS hB
    have ee : i = e := by omega
    subst ee
    have d1 := (hd.2 i hel).1
    refine ⟨g, ?_, hS, FrP.rfl' g⟩
    rw [X7_serially_l45.eq_2, zi_nI (by omega) (by omega), show (nI (24 * c + i)).toNatClampNeg = 24 * c + i from nI_clamp (by omega), d1, he, if_pos rfl]
  | succ n ih =>
    intro i f g t e' hno h2 hd hS hB
    have d1 := (hd.2 i (by omega)).1
    have hs6 := (hw.2.2 i (by omega)).1
    obtain ⟨g1, k1, k2, k3⟩ := X7_plainly_ok (S := S) (W := W) (NC := NC) hz h2 hd hw hc (show i < len by omega) hS hB
    obtain ⟨g', j1, j2, j3⟩ := ih (i + 1) f g1 _ (by omega) (fun j a b => hno j (by omega) b) (by rw [k3 _ _ _ (by omega) (by omega) (by omega)]; exact h2) (hd.frP k3) k2 (hB.deed hz.1)
    refine ⟨g', ?_, by rw [sRun_cons]; exact j2, k3.trans j3⟩
    rw [show f + (n + 1) + 1 = (f + n + 1) + 1 by omega, X7_serially_l45.eq_2, zi_nI (by omega) (by omega), show (nI (24 * c + i)).toNatClampNeg = 24 * c + i from nI_clamp (by omega), d1, if_neg (by rw [nI_inj (by omega) (by omega)]; exact hno i (Nat.le_refl _) (by omega)), k1, zc_some, nI_add]
    exact j1
theorem X7_plain_all {S W PL NC c len : Nat} {so wh : Nat → Nat} {ix : Nat → Bool} (K : Int32 → Int32 → Int32 → zG → zR0) (v1 v2 v3 : Int32) (hz : 0 < PL ∧ PL ≤ 4) (hc : c < 4) (hw : WfD so wh PL len) : ∀ n i f g t, i + n = len → g 31 0 2 = nI PL → DeedsM c len so wh ix g → PlP g t → StB t → ∃ g', X7_alone_l67 K (f + n + 1) v1 v2 v3 (nI c) (nI i) g = K v1 v2 (v3 + nI 1) g' ∧ PlP g' (sRun S PL so wh ix t i n) ∧ FrP g g' := by
  have hl := hw.1
  intro n
  induction n with
  | zero =>
    intro i f g t e' h2 hd hS hB
    have ee : i = len := by omega
    subst ee
    refine ⟨g, ?_, hS, FrP.rfl' g⟩
    rw [X7_alone_l67.eq_2, zi_nI hc (by omega), show (nI c).toNatClampNeg = c from nI_clamp (by omega), hd.1, if_neg (by rw [nI_lti (by omega) (by omega)]; omega)]
  | succ n ih =>
    intro i f g t e' h2 hd hS hB
    obtain ⟨g1, k1, k2, k3⟩ := X7_plainly_ok (S := S) (W := W) (NC := NC) hz h2 hd hw hc (show i < len by omega) hS hB
    obtain ⟨g', j1, j2, j3⟩ := ih (i + 1) f g1 _ (by omega) (by rw [k3 _ _ _ (by omega) (by omega) (by omega)]; exact h2) (hd.frP k3) k2 (hB.deed hz.1)
    refine ⟨g', ?_, by rw [sRun_cons]; exact j2, k3.trans j3⟩
    rw [show f + (n + 1) + 1 = (f + n + 1) + 1 by omega, X7_alone_l67.eq_2, zi_nI hc (by omega), show (nI c).toNatClampNeg = c from nI_clamp (by omega), hd.1, if_pos (by rw [nI_lti (by omega) (by omega)]; omega), pk_mul, nI_add, k1, zc_some, nI_add]
    exact j1
/-- the words told at first -/
def fstW (g : zG) (i : Nat) : Nat := if i < 64 then (g 33 0 i).toNatClampNeg else 0
theorem fstW_ok {S W PL NC rl tr : Nat} {len : Nat → Nat} {so wh : Nat → Nat → Nat} {ix : Nat → Nat → Bool} {gc g : zG} (hT : Told S W PL NC rl tr len so wh ix gc g) : (∀ i, i < 64 → gc 15 0 i = nI (fstW g i) ∧ g 33 0 i = nI (fstW g i)) ∧ ∀ i, fstW g i < 1000 := by
  have h15 := hT.2.2.2.2.2.2.2.2.2.2.2.2.2.2.1
  have E : ∀ i, i < 64 → g 33 0 i = nI (fstW g i) ∧ fstW g i < 1000 := fun i hi => by
    obtain ⟨v, v1, v2⟩ := (h15 i hi).2
    unfold fstW
    rw [if_pos hi, v2, nI_clamp (by omega)]
    exact ⟨rfl, v1⟩
  refine ⟨fun i hi => ⟨(h15 i hi).1.trans (E i hi).1, (E i hi).1⟩, fun i => ?_⟩
  by_cases z : i < 64
  · exact (E i z).2
  · unfold fstW; rw [if_neg z]; omega
theorem X4_startOver_ok {gc : zG} {w : Nat → Nat} (hw : ∀ i, i < 64 → gc 15 0 i = nI (w i)) : ∃ g', X4_startOver gc = some (0, g') ∧ SoS g' (w, 0, 0, 0, 1) ∧ FrO gc g' := by
  unfold X4_startOver
  rw [zcq_eq, zw_eq, zw_eq, zw_eq, zw_eq]
  refine ⟨_, rfl, ⟨fun i hi => ?_, ?_, ?_, ?_, ?_⟩, fun f i j x1 x2 x3 x4 x5 => ?_⟩
  · simp (disch := omega) only [zU_ne]
    rw [zcp_at _ hi]; exact hw i hi
  · simp (disch := omega) only [zU_ne, zU_eq]
  · simp (disch := omega) only [zU_ne, zU_eq]
  · simp (disch := omega) only [zU_ne, zU_eq]
  · rw [zU_self]
  · simp (disch := omega) only [zU_ne]
    exact zcp_ne _ (by omega)
theorem X7_plainBegins_ok {g : zG} {w : Nat → Nat} (hw : ∀ i, i < 64 → g 33 0 i = nI (w i)) : ∃ g', X7_plainBegins g = some (0, g') ∧ PlW g' w ∧ FrP g g' := by
  unfold X7_plainBegins
  refine loopN (M := fun n i h => X7_plainBegins_l2 n (nI i) h) 64 (fun i h => (∀ k, k < i → h 46 0 k = nI (w k)) ∧ FrP g h) (fun o => ∃ g', o = some (0, g') ∧ PlW g' w ∧ FrP g g') ?_ ?_ (i0 := 0) ⟨fun k hk => by omega, FrP.rfl' g⟩ (by omega) (zfuel_ge (by omega))
  · rintro n i h hi ⟨h1, h2⟩
    left
    have e : h 33 0 i = nI (w i) := by rw [h2 _ _ _ (by omega) (by omega) (by omega)]; exact hw i hi
    refine ⟨zU h 46 0 i (nI (w i)), ⟨fun k hk => ?_, fun f a j x1 x2 x3 => by rw [zU_ne _ _ (by omega)]; exact h2 f a j x1 x2 x3⟩, ?_⟩
    · by_cases z : k = i
      · rw [z, zU_self]
      · rw [zU_ne _ _ (by omega)]; exact h1 k (by omega)
    · rw [X7_plainBegins_l2.eq_2]
      simp (disch := omega) only [zc_some, zw_eq, zi_nI, nI_clamp, nI_add, nI_1, nI_lti, nI_inj, nI_ltz, nI_eq0, nI_0lt, nI_ne_m1, nI_ne_m2, nI_m1_ne, nI_m2_ne, if_true, if_false, zU_eq, zU_ne, Nat.add_zero, pk_mul, hi, e]
  · rintro n h ⟨h1, h2⟩
    rw [X7_plainBegins_l2.eq_2]
    simp (disch := omega) only [zc_some, zw_eq, zi_nI, nI_clamp, nI_add, nI_1, nI_lti, nI_inj, nI_ltz, nI_eq0, nI_0lt, nI_ne_m1, nI_ne_m2, nI_m1_ne, nI_m2_ne, if_true, if_false, zU_eq, zU_ne, Nat.add_zero, pk_mul, Nat.lt_irrefl]
    exact ⟨h, rfl, h1, h2⟩
/-- the commits, gone through by both -/
theorem jserial {S W PL NC rl tr : Nat} {len : Nat → Nat} {so wh : Nat → Nat → Nat} {ix : Nat → Nat → Bool} {gc g : zG} (hT : Tld S W PL NC rl tr len so wh ix gc g) : ∃ (gc' g' : zG) (w : Nat → Nat), X6_playCommits gc = some (0, gc') ∧ X7_serially g = some (0, g') ∧ (∀ i, i < 64 → gc' 29 0 i = nI (w i) ∧ g' 46 0 i = nI (w i)) ∧ FrO gc gc' ∧ FrP g g' := by
  obtain ⟨p1, p2, p3, p4, p5, p6, p7, p8⟩ := id hT.1.1.1
  obtain ⟨fw1, fw2⟩ := fstW_ok hT.1
  obtain ⟨gc0, a1, a2, a3⟩ := X4_startOver_ok (fun i hi => (fw1 i hi).1)
  obtain ⟨g0, b1, b2, b3⟩ := X7_plainBegins_ok (fun i hi => (fw1 i hi).2)
  obtain ⟨n, s3, s4, s5, s6⟩ := hT.2.1.1.2.2.2.1.2.2.1
  obtain ⟨n', c1, c2, c3⟩ := hT.2.1.2.2.1
  have hnn : n' = n := by
    rw [s4, nI_inj (by omega) (by omega)] at c2
    exact c2.symm
  subst hnn
  obtain ⟨t1, t2, t3, t4, t5, t6, t7, t8, t9, t10, t11, t12, t13, -⟩ := id hT.1
  have key : ∀ d i f f' gc1 g1 t, i + d = n' → FrO gc gc1 → FrP g g1 → SoS gc1 t → StB t → PlW g1 t.1 → ∃ (gc' g' : zG) (w : Nat → Nat), X6_playCommits_l9 (f + d + 1) (nI i) gc1 = some (0, gc') ∧ X7_serially_l6 (f' + d + 1) (nI i) g1 = some (0, g') ∧ (∀ i, i < 64 → gc' 29 0 i = nI (w i) ∧ g' 46 0 i = nI (w i)) ∧ FrO gc gc' ∧ FrP g g' := by
    intro d
    induction d with
    | zero =>
      intro i f f' gc1 g1 t e f1 f2 hS hB hW
      have e' : i = n' := by omega
      subst e'
      have e7 : gc1 7003 0 0 = nI i := by rw [f1 _ _ _ (by omega) (by omega) (by omega) (by omega) (by omega)]; exact s5
      have e4 : g1 43 0 4 = nI i := by rw [f2 _ _ _ (by omega) (by omega) (by omega)]; exact s4
      refine ⟨gc1, g1, t.1, ?_, ?_, fun i hi => ⟨hS.1 i hi, hW i hi⟩, f1, f2⟩
      · rw [X6_playCommits_l9.eq_2, e7, if_neg (by rw [nI_lti (by omega) (by omega)]; omega)]
      · rw [X7_serially_l6.eq_2, zi_nI (by omega) (by omega), show (nI 4).toNatClampNeg = 4 from nI_clamp (by omega), e4, if_neg (by rw [nI_lti (by omega) (by omega)]; omega)]
    | succ d ih =>
      intro i f f' gc1 g1 t e f1 f2 hS hB hW
      have e7 : gc1 7003 0 0 = nI n' := by rw [f1 _ _ _ (by omega) (by omega) (by omega) (by omega) (by omega)]; exact s5
      have e4 : g1 43 0 4 = nI n' := by rw [f2 _ _ _ (by omega) (by omega) (by omega)]; exact s4
      obtain ⟨c, b, x1, x2, x3, x4, x5⟩ := c3 i (by omega)
      have y1 : gc1 21 0 (4 * i) = nI c := by
        rw [f1 _ _ _ (by omega) (by omega) (by omega) (by omega) (by omega), s6 _ (by omega)]; exact x4
      have y2 : gc1 21 0 (4 * i + 1) = nI b := by
        rw [f1 _ _ _ (by omega) (by omega) (by omega) (by omega) (by omega), s6 _ (by omega), ← Nat.add_assoc]; exact x5
      have y3 : g1 43 0 (62 + 4 * i) = nI c := by rw [f2 _ _ _ (by omega) (by omega) (by omega)]; exact x4
      have y4 : g1 43 0 (62 + 4 * i + 1) = nI b := by rw [f2 _ _ _ (by omega) (by omega) (by omega)]; exact x5
      obtain ⟨dC, dM, hw, -⟩ := t13 c x1
      have hl := hw.1
      obtain ⟨ee, v1, v2, v3, v4⟩ := end_behind x3 x2 hw.2.1
      have hP1 : CPar S W PL NC gc1 := t1.frO f1
      obtain ⟨gc2, j1, j2, j3⟩ := X4_play_end x1 hw v2 v3 (ee - b) b (zfuel - (ee - b) - 1) gc1 t (by omega) v4 hP1 (dC.frO f1) hS hB
      have h31 : g1 31 0 2 = nI PL := by rw [f2 _ _ _ (by omega) (by omega) (by omega)]; exact t2.2.2.2.1
      obtain ⟨g2, k1, k2, k3⟩ := X7_plain_begin ⟨p5, p6⟩ h31 (dM.frP f2) hl (show c < 4 by omega) x2 x3 hW
      have hB0 : StB (t.1, 0, 0, 0, 0) := ⟨hB.1, by simp, by simp, by simp, by simp⟩
      obtain ⟨g3, l1, l2, l3⟩ := X7_ser_end (S := S) (W := W) (NC := NC) (X7_serially_l6 (f' + d + 1)) (nI i) ⟨p5, p6⟩ (show c < 4 by omega) hw v2 v3 (ee - (b + 1)) (b + 1) (zfuel - (ee - (b + 1)) - 2) g2 _ (by omega) (fun j a q => v4 j (by omega) q) (by rw [k3 _ _ _ (by omega) (by omega) (by omega)]; exact h31) ((dM.frP f2).frP k3) k2 hB0
      have hz : zfuel = 100000 := rfl
      -- the words are the same
      have hws : (sRun S PL (so c) (wh c) (ix c) t b (ee - b + 1)).1 = (sRun S PL (so c) (wh c) (ix c) (t.1, 0, 0, 0, 0) (b + 1) (ee - (b + 1))).1 := by
        have q1 : WS (opn (so c) (b + 1)) (sDeed S PL (so c b) (wh c b) (ix c b) t) (t.1, 0, 0, 0, 0) := by
          rw [x3]
          simp only [sDeed, if_true]
          exact ⟨rfl, fun _ => ⟨rfl, rfl⟩⟩
        have q2 := (WS_run (S := S) (ix := ix c) hw q1 (ee - (b + 1)) (by omega)).1
        rw [← sRun_cons, show ee - (b + 1) + 1 = ee - b by omega] at q2
        rw [← q2]
        show (sDeed S PL (so c (b + (ee - b))) _ _ _).1 = _
        rw [show b + (ee - b) = ee by omega, v3]
        simp only [sDeed, show ¬ (1 = 0) by omega, if_true, if_false]
      obtain ⟨gc', g', w, r1, r2, r3, r4, r5⟩ := ih (i + 1) f f' gc2 g3 _ (by omega) (f1.trans j3) ((f2.trans k3).trans l3) j2 (hB.run p5 b _) (by rw [hws]; exact l2.1)
      refine ⟨gc', g', w, ?_, ?_, r3, r4, r5⟩
      · rw [show f + (d + 1) + 1 = (f + d + 1) + 1 by omega, X6_playCommits_l9.eq_2, e7, if_pos (by rw [nI_lti (by omega) (by omega)]; omega), if_pos (by rw [nI_lti (by omega) (by omega)]; omega), pk_mul, nI_add, Nat.mul_comm i 4, zi_nI (by omega) (by omega), zi_nI (by omega) (by omega), show (nI (4 * i)).toNatClampNeg = 4 * i from nI_clamp (by omega), show (nI (4 * i + 1)).toNatClampNeg = 4 * i + 1 from nI_clamp (by omega), y1, y2]
        unfold X4_play
        rw [show zfuel - (ee - b) - 1 + (ee - b) + 1 = zfuel by omega] at j1
        rw [j1, zc_some, nI_add]; exact r1
      · rw [show f' + (d + 1) + 1 = (f' + d + 1) + 1 by omega, X7_serially_l6.eq_2, zi_nI (by omega) (by omega), show (nI 4).toNatClampNeg = 4 from nI_clamp (by omega), e4, if_pos (by rw [nI_lti (by omega) (by omega)]; omega), pk_mul, nI_add, nI_add, zi_nI (by omega) (by omega), zi_nI (by omega) (by omega), show (nI (62 + 4 * i)).toNatClampNeg = 62 + 4 * i from nI_clamp (by omega), show (nI (62 + 4 * i + 1)).toNatClampNeg = 62 + 4 * i + 1 from nI_clamp (by omega), y3, y4, pk_mul, nI_add]
        rw [show zfuel = (zfuel - (ee - (b + 1)) - 2 + (ee - (b + 1)) + 1) + 1 by omega, X7_serially_l45.eq_2, zi_nI (by omega) (by omega), show (nI (24 * c + b)).toNatClampNeg = 24 * c + b from nI_clamp (by omega), ((dM.frP f2).2 b x2).1, x3, if_neg (by decide), k1, zc_some, nI_add, show 24 * c + b + 1 = 24 * c + (b + 1) by omega, l1, nI_add]
        exact r2
  have hB1 : StB (fstW g, 0, 0, 0, 1) := ⟨fw2, by simp, by simp, by simp, by simp⟩
  obtain ⟨gc', g', w, r1, r2, r3, r4, r5⟩ := key n' 0 (zfuel - n' - 1) (zfuel - n' - 1) gc0 g0 _ (by omega) a3 b3 a2 hB1 b2
  have hz : zfuel = 100000 := rfl
  rw [show zfuel - n' - 1 + n' + 1 = zfuel by omega] at r1 r2
  refine ⟨gc', g', w, ?_, ?_, r3, r4, r5⟩
  · unfold X6_playCommits
    rw [a1, zc_some]; exact r1
  · unfold X7_serially
    rw [b1, zc_some]; exact r2
theorem INV_o {S W PL NC rl tr : Nat} {len : Nat → Nat} {so wh : Nat → Nat → Nat} {ix : Nat → Nat → Bool} {gc gm gc1 gm1 : zG} (h : INV gc gm) (hT : Tld S W PL NC rl tr len so wh ix gc (aN gm)) (f1 : FrO gc gc1) (f2 : FrP (aN gm) gm1) : INV (zU gc1 13000 0 0 (nI 0)) gm1 ∧ Tld S W PL NC rl tr len so wh ix gc1 gm1 := by
  have G : ∀ f i j, f ≠ 29 → f % 1000 ≠ 6 → gc1 f i j = gc f i j := fun f i j a b => f1 f i j a (by omega) (by omega) (by omega) (by omega)
  have M : ∀ f i j, f ≠ 46 → f ≠ 40007 → f ≠ 41007 → gm1 f i j = aN gm f i j := f2
  have hz := hT.1.1.1
  have e43 : gm1 43 0 = aN gm 43 0 := funext (fun k => M _ _ _ (by omega) (by omega) (by omega))
  have e45 : gm1 45 0 = aN gm 45 0 := funext (fun k => M _ _ _ (by omega) (by omega) (by omega))
  have T1 : Tld S W PL NC rl tr len so wh ix gc1 gm1 := by
    refine ⟨hT.1.fr (fun f i j a _ => G f i j (by omega) (by omega)) (fun f i j a => M f i j (by omega) (by omega) (by omega)), ?_, fun z => ?_⟩
    · rw [e43]
      exact hT.2.1.fr hz (fun f i j a _ => f1 f i j (by unfold ofRun at a; omega) (by unfold ofRun at a; omega) (by unfold ofRun at a; omega) (by unfold ofRun at a; omega) (by unfold ofRun at a; omega))
    · rw [e45]
      rw [M _ _ _ (by omega) (by omega) (by omega)] at z
      exact (hT.2.2 z).fr hz (fun f i j a _ => f1 f i j (by unfold ofRun at a; omega) (by unfold ofRun at a; omega) (by unfold ofRun at a; omega) (by unfold ofRun at a; omega) (by unfold ofRun at a; omega))
  refine ⟨⟨Base_run h (fun f i j a => G f i j (by omega) (by omega)) (fun f i j a => by rw [M f i j (by omega) (by omega) (by omega), aN_ne gm (by omega) (by omega) (by omega)]) (by rw [M _ _ _ (by omega) (by omega) (by omega), aN_2007]), Or.inr ⟨S, W, PL, NC, rl, tr, len, so, wh, ix, T1.1.fr (fun f i j a _ => zU_ne _ _ (by omega)) (fun _ _ _ _ => rfl), Bnd.tro hz T1.2.1, fun z => Bnd.tro hz (T1.2.2 z)⟩⟩, T1⟩
theorem q_serial {gc gm : zG} (h : INV gc gm) (v : Int32) : Alike (X6_serial v gc) (X7_serial v gm) := by
  unfold X6_serial X7_serial
  rw [X7_anew_eq]
  rcases addr_cases h v with ⟨a, b⟩ | ⟨S, W, PL, NC, rl, tr, len, so, wh, ix, x, hT, hx, hPL, rfl, a, b⟩
  · rw [a, b, zc_some, zc_some, ite0, ite0]; exact no_alike h (by omega)
  · obtain ⟨gc1, g1, w, k1, k2, k3, k4, k5⟩ := jserial hT
    rw [a, b, zc_some, zc_some, ite1, ite1, k1, k2, zc_some, zc_some, zi_nI (show x < 64 by omega) (by omega), zi_nI (show x < 64 by omega) (by omega), show (nI x).toNatClampNeg = x from nI_clamp (by omega), (k3 x (by omega)).1, (k3 x (by omega)).2]
    exact ⟨_, _, _, rfl, rfl, (INV_o h hT k4 k5).1⟩
theorem q_agrees {gc gm : zG} (h : INV gc gm) : Alike (X6_agrees gc) (X7_agrees gm) := by
  unfold X6_agrees X7_agrees
  rw [X7_anew_eq]
  rcases told_cases h with ⟨a, b⟩ | ⟨S, W, PL, NC, rl, tr, len, so, wh, ix, hT, a, b⟩
  · rw [a, b, ite0, ite0]; exact no_alike h (by omega)
  · obtain ⟨gc1, g1, w, k1, k2, k3, k4, k5⟩ := jserial hT
    obtain ⟨hI, hT1⟩ := INV_o h hT k4 k5
    obtain ⟨p1, p2, p3, p4, p5, p6, p7, p8⟩ := id hT.1.1.1
    rw [a, b, ite1, ite1, k1, k2, zc_some, zc_some]
    have m3 := hT1.1.2.1.2.2.2.1
    have hP := hT1.1.1
    have key : ∀ d i f f', i + d = 16 * PL → Alike (X6_agrees_l19 (fun g => X6_agrees_b68 g) (f + d + 1) (nI i) gc1) (X7_agrees_l23 (f' + d + 1) (nI i) g1) := by
      intro d
      induction d with
      | zero =>
        intro i f f' e
        have r2 : X7_agrees_l23 (f' + 0 + 1) (nI i) g1 = some (nI 1, g1) := by
          unfold X7_agrees_l23 X7_addresses
          rw [zi_nI (by omega) (by omega), show (nI 2).toNatClampNeg = 2 from nI_clamp (by omega), m3, pk_mul, zc_some, if_neg (by rw [nI_lti (by omega) (by omega)]; omega)]
        have r1 : X6_agrees_l19 (fun g => X6_agrees_b68 g) (f + 0 + 1) (nI i) gc1 = X6_agrees_b68 gc1 := by
          rw [X6_agrees_l19.eq_2]
          by_cases z : i < 64
          · rw [if_pos (by rw [nI_lti (by omega) (by omega)]; exact z)]
            have : X2_hasAddress 0 (nI i) gc1 = some (nI 0, gc1) := by
              unfold X2_hasAddress X2_addresses
              rw [if_neg (nI_pos (by omega)), zc_some, hP.2.2.2.1, pk_mul, if_neg (by rw [nI_lti (by omega) (by omega)]; omega)]
            rw [this, zc_some, ite0]
          · rw [if_neg (by rw [nI_lti (by omega) (by omega)]; exact z)]
        rw [r1, r2]
        exact ⟨_, _, _, rfl, rfl, hI⟩
      | succ d ih =>
        intro i f f' e
        obtain ⟨y, y1, y2⟩ := jword hP hT1.1.2.1 hT1.2.1.1 hT1.2.1.2.1.1 (show i < 16 * PL by omega)
        have r2 : X7_agrees_l23 (f' + (d + 1) + 1) (nI i) g1 = if nI (w i) = y then X7_agrees_l23 (f' + d + 1) (nI (i + 1)) g1 else some (nI 0, g1) := by
          rw [show f' + (d + 1) + 1 = (f' + d + 1) + 1 by omega, X7_agrees_l23.eq_2]
          unfold X7_addresses
          rw [zi_nI (by omega) (by omega), show (nI 2).toNatClampNeg = 2 from nI_clamp (by omega), m3, pk_mul, zc_some, if_pos (by rw [nI_lti (by omega) (by omega)]; omega), zi_nI (show i < 64 by omega) (by omega), y2, zc_some, show (nI i).toNatClampNeg = i from nI_clamp (by omega), (k3 i (by omega)).2, nI_add]
        have r1 : X6_agrees_l19 (fun g => X6_agrees_b68 g) (f + (d + 1) + 1) (nI i) gc1 = if nI (w i) = y then X6_agrees_l19 (fun g => X6_agrees_b68 g) (f + d + 1) (nI (i + 1)) gc1 else zc (X6_answer (nI 0) gc1) (fun x7 g8 => some (x7, g8)) := by
          rw [show f + (d + 1) + 1 = (f + d + 1) + 1 by omega, X6_agrees_l19.eq_2, if_pos (by rw [nI_lti (by omega) (by omega)]; omega), hP.hasAddress (by omega), zc_some, ite1, zi_nI (show i < 64 by omega) (by omega), y1, zc_some, show (nI i).toNatClampNeg = i from nI_clamp (by omega), (k3 i (by omega)).1, nI_add]
        rw [r1, r2]
        by_cases z : nI (w i) = y
        · rw [if_pos z, if_pos z]; exact ih (i + 1) f f' (by omega)
        · rw [if_neg z, if_neg z]; exact ⟨_, _, _, rfl, rfl, hI⟩
    have := key (16 * PL) 0 (99999 - 16 * PL) (99999 - 16 * PL) (by omega)
    rw [show 99999 - 16 * PL + 16 * PL + 1 = zfuel by have : zfuel = 100000 := rfl; omega] at this
    exact this
