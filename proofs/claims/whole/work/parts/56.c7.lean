/-! ===== the class' deeds: numbers, marks, get, put ===== -/
theorem c_num1 {S W PL NC r c0 s0 w0 c f k : Nat} {v : Int32} {g : zG} {m : Rw} (hz : Siz4 S W PL NC) (h : SimH S W PL NC r c0 s0 w0 g m) (hc : c < NC) (hf : (f = 1005 ∧ k = 0) ∨ (f = 2005 ∧ k = 6) ∨ (f = 3005 ∧ k = 1) ∨ (f = 4005 ∧ k = 2) ∨ (f = 5005 ∧ k = 3) ∨ (f = 6005 ∧ k = 4) ∨ (f = 7005 ∧ k = 5)) : SimH S W PL NC r c0 s0 w0 (zU g f (4 * r + c) 0 v) (upd m (cat c k) v) := by
  refine SimH_num hz h hc (fun f' i j _ hf' => zU_ne _ _ (by omega)) (fun i hi => upd_ne (hi k (by omega))) ?_
  obtain ⟨h1, h2, h3, h4, h5, h6, h7, h8⟩ := h.2.2.1 c hc
  have hk : k < 7 := by omega
  have ne : ∀ a, a ≠ k → cat c a ≠ cat c k := fun a ha z => ha (by unfold cat at z; omega)
  refine ⟨?_, ?_, ?_, ?_, ?_, ?_, ?_, fun k' hk' => ?_⟩
  · by_cases e : k = 0
    · rw [show f = 1005 by omega, e, zU_self, upd_eq rfl]
    · rw [zU_ne _ _ (by omega), upd_ne (ne _ (by omega))]; exact h1
  · by_cases e : k = 6
    · rw [show f = 2005 by omega, e, zU_self, upd_eq rfl]
    · rw [zU_ne _ _ (by omega), upd_ne (ne _ (by omega))]; exact h2
  · by_cases e : k = 1
    · rw [show f = 3005 by omega, e, zU_self, upd_eq rfl]
    · rw [zU_ne _ _ (by omega), upd_ne (ne _ (by omega))]; exact h3
  · by_cases e : k = 2
    · rw [show f = 4005 by omega, e, zU_self, upd_eq rfl]
    · rw [zU_ne _ _ (by omega), upd_ne (ne _ (by omega))]; exact h4
  · by_cases e : k = 3
    · rw [show f = 5005 by omega, e, zU_self, upd_eq rfl]
    · rw [zU_ne _ _ (by omega), upd_ne (ne _ (by omega))]; exact h5
  · by_cases e : k = 4
    · rw [show f = 6005 by omega, e, zU_self, upd_eq rfl]
    · rw [zU_ne _ _ (by omega), upd_ne (ne _ (by omega))]; exact h6
  · by_cases e : k = 5
    · rw [show f = 7005 by omega, e, zU_self, upd_eq rfl]
    · rw [zU_ne _ _ (by omega), upd_ne (ne _ (by omega))]; exact h7
  · rw [zU_ne _ _ (by omega), upd_ne (ne _ (by omega))]; exact h8 k' hk'
theorem c_cnt {S W PL NC r c0 s0 w0 c k : Nat} {v : Int32} {g : zG} {m : Rw} (hz : Siz4 S W PL NC) (h : SimH S W PL NC r c0 s0 w0 g m) (hc : c < NC) (hk : k < 7) : SimH S W PL NC r c0 s0 w0 (zU g 28 (4 * r + c) k v) (upd m (cat c (7 + k)) v) := by
  refine SimH_num hz h hc (fun f' i j _ hf' => zU_ne _ _ (by omega)) (fun i hi => upd_ne (hi (7 + k) (by omega))) ?_
  obtain ⟨h1, h2, h3, h4, h5, h6, h7, h8⟩ := h.2.2.1 c hc
  have ne : ∀ a, a ≠ 7 + k → cat c a ≠ cat c (7 + k) := fun a ha z => ha (by unfold cat at z; omega)
  refine ⟨?_, ?_, ?_, ?_, ?_, ?_, ?_, fun k' hk' => ?_⟩
  · rw [zU_ne _ _ (by omega), upd_ne (ne _ (by omega))]; exact h1
  · rw [zU_ne _ _ (by omega), upd_ne (ne _ (by omega))]; exact h2
  · rw [zU_ne _ _ (by omega), upd_ne (ne _ (by omega))]; exact h3
  · rw [zU_ne _ _ (by omega), upd_ne (ne _ (by omega))]; exact h4
  · rw [zU_ne _ _ (by omega), upd_ne (ne _ (by omega))]; exact h5
  · rw [zU_ne _ _ (by omega), upd_ne (ne _ (by omega))]; exact h6
  · rw [zU_ne _ _ (by omega), upd_ne (ne _ (by omega))]; exact h7
  · by_cases e : k' = k
    · subst e; rw [zU_self, upd_eq rfl]
    · rw [zU_ne _ _ (by omega), upd_ne (ne _ (by omega))]; exact h8 k' hk'
theorem c_holder {S W PL NC r c0 s0 w0 : Nat} {v : Int32} {g : zG} {m : Rw} (hz : Siz4 S W PL NC) (h : SimH S W PL NC r c0 s0 w0 g m) : SimH S W PL NC r c0 s0 w0 (zU g 11003 r 0 v) (upd m 5 v) := by
  refine SimH_sh hz h (fun f i j _ hf => zU_ne _ _ (by omega)) (fun i hi => upd_ne (by omega)) ?_
  obtain ⟨h1, h2, ⟨n, h3, h4, h5, h6⟩, h7, h8⟩ := h.2.2.2.1
  refine ⟨fun a ha => ?_, fun k' hk' => ?_, ⟨n, h3, ?_, ?_, fun i hi => ?_⟩, ?_, ?_⟩
  · rw [zU_ne _ _ (by omega), upd_ne (by omega)]; exact h1 a ha
  · rw [zU_ne _ _ (by omega), upd_ne (by omega)]; exact h2 k' hk'
  · rw [upd_ne (by omega)]; exact h4
  · rw [zU_ne _ _ (by omega)]; exact h5
  · rw [zU_ne _ _ (by omega), upd_ne (by omega)]; exact h6 i hi
  · rw [zU_self, upd_eq rfl]
  · rw [zU_ne _ _ (by omega), upd_ne (by omega)]; exact h8
theorem c_time {S W PL NC r c0 s0 w0 : Nat} {v : Int32} {g : zG} {m : Rw} (hz : Siz4 S W PL NC) (h : SimH S W PL NC r c0 s0 w0 g m) : SimH S W PL NC r c0 s0 w0 (zU g 10003 r 0 v) (upd m 0 v) := by
  refine SimH_sh hz h (fun f i j _ hf => zU_ne _ _ (by omega)) (fun i hi => upd_ne (by omega)) ?_
  obtain ⟨h1, h2, ⟨n, h3, h4, h5, h6⟩, h7, h8⟩ := h.2.2.2.1
  refine ⟨fun a ha => ?_, fun k' hk' => ?_, ⟨n, h3, ?_, ?_, fun i hi => ?_⟩, ?_, ?_⟩
  · rw [zU_ne _ _ (by omega), upd_ne (by omega)]; exact h1 a ha
  · rw [zU_ne _ _ (by omega), upd_ne (by omega)]; exact h2 k' hk'
  · rw [upd_ne (by omega)]; exact h4
  · rw [zU_ne _ _ (by omega)]; exact h5
  · rw [zU_ne _ _ (by omega), upd_ne (by omega)]; exact h6 i hi
  · rw [zU_ne _ _ (by omega), upd_ne (by omega)]; exact h7
  · rw [zU_self, upd_eq rfl]
theorem c_commit {S W PL NC r c0 s0 w0 n : Nat} {a b d e : Int32} {g : zG} {m : Rw} (hz : Siz4 S W PL NC) (h : SimH S W PL NC r c0 s0 w0 g m) (hn : n < 48) (h4n : m 4 = nI n) : SimH S W PL NC r c0 s0 w0 (zU (zU (zU (zU (zU g 21 r (4 * n) a) 21 r (4 * n + 1) b) 21 r (4 * n + 2) d) 21 r (4 * n + 3) e) 7003 r 0 (nI (n + 1))) (upd (upd (upd (upd (upd m (62 + 4 * n) a) (62 + 4 * n + 1) b) (62 + 4 * n + 2) d) (62 + 4 * n + 3) e) 4 (nI (n + 1))) := by
  refine SimH_sh hz h (fun f i j _ hf => by simp (disch := omega) only [zU_ne]) (fun i hi => by simp (disch := omega) only [upd_ne]) ?_
  obtain ⟨h1, h2, ⟨n', h3, h4, h5, h6⟩, h7, h8⟩ := h.2.2.2.1
  have hnn : n' = n := by
    rw [h4n, nI_inj (by omega) (by omega)] at h4
    exact h4.symm
  subst hnn
  refine ⟨fun x hx => ?_, fun k' hk' => ?_, ⟨n' + 1, by omega, by rw [upd_eq rfl], by rw [zU_self], fun i hi => ?_⟩, ?_, ?_⟩
  · simp (disch := omega) only [zU_ne, upd_ne]; exact h1 x hx
  · simp (disch := omega) only [zU_ne, upd_ne]; exact h2 k' hk'
  · by_cases e3 : i = 4 * n' + 3
    · rw [e3, zU_ne _ _ (by omega), zU_self, upd_ne (by omega), upd_eq (by omega)]
    · by_cases e2 : i = 4 * n' + 2
      · rw [e2, zU_ne _ _ (by omega), zU_ne _ _ (by omega), zU_self, upd_ne (by omega), upd_ne (by omega), upd_eq (by omega)]
      · by_cases e1 : i = 4 * n' + 1
        · rw [e1, zU_ne _ _ (by omega), zU_ne _ _ (by omega), zU_ne _ _ (by omega), zU_self, upd_ne (by omega), upd_ne (by omega), upd_ne (by omega), upd_eq (by omega)]
        · by_cases e0 : i = 4 * n'
          · rw [e0, zU_ne _ _ (by omega), zU_ne _ _ (by omega), zU_ne _ _ (by omega), zU_ne _ _ (by omega), zU_self, upd_ne (by omega), upd_ne (by omega), upd_ne (by omega), upd_ne (by omega), upd_eq (by omega)]
          · simp (disch := omega) only [zU_ne, upd_ne]; exact h6 i (by omega)
  · simp (disch := omega) only [zU_ne, upd_ne]; exact h7
  · simp (disch := omega) only [zU_ne, upd_ne]; exact h8
/-- the line is found where it lies -/
theorem FindR_at {S W PL NC c ℓ w : Nat} {m : Rw} (hz : Siz4 S W PL NC) (hp : PI S W PL NC m) (hc : c < NC) (hw : w < W) (hℓ : ℓ ≤ 16) (hl : m (pos c (ℓ % S) w) = nI ℓ) : FindR S W m c ℓ (some w) :=
  ⟨hw, hl, fun q hq e => by
    have := hp.one c (ℓ % S) q w hc (Nat.mod_lt _ hz.1) (by omega) hw (ne_m2_of e (by omega)) (e.trans hl.symm)
    omega⟩
theorem c_mark {S W PL NC r c ℓ w : Nat} {b : Bool} {g : zG} {m : Rw} (hz : Siz4 S W PL NC) (h : Sim S W PL NC r g m) (hp : PI S W PL NC m) (hc : c < NC) (hw : w < W) (hℓ : ℓ ≤ 16) (hl : m (pos c (ℓ % S) w) = nI ℓ) :
    ∃ g', X3_markLine r (nI c) (nI ℓ) (bI b) g = some (0, g') ∧ Sim S W PL NC r g' (upd m (pos c (ℓ % S) w + if b = true then 3 else 2) (nI 1)) ∧ FrC r g g' ∧ g' 12003 r 0 = g 12003 r 0 := by
  obtain ⟨p1, p2, p3, p4, p5, p6, p7, p8⟩ := id hz
  have h16 := pl_16 hz
  have hs : ℓ % S < S := Nat.mod_lt _ p1
  have hlt := pl_lt hs hw
  have hf := c_find hz h hc (by omega) hp.lok hℓ (FindR_at hz hp hc hw hℓ hl)
  have hl2 := ne_m2_of hl (by omega)
  unfold X3_markLine
  cases b with
  | false =>
    simp (disch := omega) only [zc_some, zw_eq, zi_nI, nI_clamp, nI_add, nI_1, nI_lti, nI_inj, nI_ltz, nI_eq0, nI_0lt, nI_ne_m1, nI_ne_m2, nI_m1_ne, nI_m2_ne, if_true, if_false, zU_eq, zU_ne, Nat.add_zero, pk_mul, show c < 4 by omega, hf, cpO, bI0, show ℓ % S * W + w < 16 by omega]
    exact ⟨_, rfl, c_cell (k := 2) hz h hc hs hw (by omega) rfl (by omega) (by omega) hl2, (FrC.rfl' r g).u _ _ (by unfold ofRun; omega), zU_ne _ _ (by omega)⟩
  | true =>
    simp (disch := omega) only [zc_some, zw_eq, zi_nI, nI_clamp, nI_add, nI_1, nI_lti, nI_inj, nI_ltz, nI_eq0, nI_0lt, nI_ne_m1, nI_ne_m2, nI_m1_ne, nI_m2_ne, if_true, if_false, zU_eq, zU_ne, Nat.add_zero, pk_mul, show c < 4 by omega, hf, cpO, bI1, show ¬ (1 = 0) by omega, show ℓ % S * W + w < 16 by omega]
    exact ⟨_, rfl, c_cell (k := 3) hz h hc hs hw (by omega) rfl (by omega) (by omega) hl2, (FrC.rfl' r g).u _ _ (by unfold ofRun; omega), zU_ne _ _ (by omega)⟩
/-- the deeds of a core, as the class has them -/
def DeedsC (c len : Nat) (so wh : Nat → Nat) (ix : Nat → Bool) (g : zG) : Prop := g 11 0 c = nI len ∧ len ≤ 24 ∧ ∀ j, j < len → g 12 0 (24 * c + j) = nI (so j) ∧ (3 ≤ so j → g 13 0 (24 * c + j) = nI (wh j) ∧ g 14 0 (24 * c + j) = bI (ix j))
theorem DeedsC.fr {r c len : Nat} {so wh : Nat → Nat} {ix : Nat → Bool} {g g' : zG} (h : DeedsC c len so wh ix g) (hf : FrC r g g') : DeedsC c len so wh ix g' := by
  obtain ⟨h1, h2, h3⟩ := h
  refine ⟨by rw [hf _ _ _ (by unfold ofRun; omega)]; exact h1, h2, fun j hj => ?_⟩
  rw [hf _ _ _ (by unfold ofRun; omega), hf _ _ _ (by unfold ofRun; omega), hf _ _ _ (by unfold ofRun; omega)]
  exact h3 j hj
theorem CPar.hasCore {S W PL NC : Nat} {g : zG} (h : CPar S W PL NC g) {c : Nat} (hc : c < NC) : X2_hasCore 0 (nI c) g = some (nI 1, g) := by
  obtain ⟨⟨p1, p2, p3, p4, p5, p6, p7, p8⟩, q1, q2, q3, q4⟩ := h
  unfold X2_hasCore
  simp (disch := omega) only [zc_some, zw_eq, zi_nI, nI_clamp, nI_add, nI_1, nI_lti, nI_inj, nI_ltz, nI_eq0, nI_0lt, nI_ne_m1, nI_ne_m2, nI_m1_ne, nI_m2_ne, if_true, if_false, zU_eq, zU_ne, Nat.add_zero, pk_mul, q4, hc, show c < 4 by omega]
theorem CPar.hasDeed {S W PL NC c k len : Nat} {so wh : Nat → Nat} {ix : Nat → Bool} {g : zG} (h : CPar S W PL NC g) (hd : DeedsC c len so wh ix g) (hc : c < NC) (hk : k < len) : X2_hasDeed 0 (nI c) (nI k) g = some (nI 1, g) := by
  obtain ⟨⟨p1, p2, p3, p4, p5, p6, p7, p8⟩, q1, q2, q3, q4⟩ := h
  obtain ⟨d1, d2, d3⟩ := hd
  unfold X2_hasDeed
  simp (disch := omega) only [zc_some, zw_eq, zi_nI, nI_clamp, nI_add, nI_1, nI_lti, nI_inj, nI_ltz, nI_eq0, nI_0lt, nI_ne_m1, nI_ne_m2, nI_m1_ne, nI_m2_ne, if_true, if_false, zU_eq, zU_ne, Nat.add_zero, pk_mul, q4, hc, show c < 4 by omega, d1, hk, show k < 24 by omega]
theorem CPar.sortOf {S W PL NC c k len : Nat} {so wh : Nat → Nat} {ix : Nat → Bool} {g : zG} (h : CPar S W PL NC g) (hd : DeedsC c len so wh ix g) (hc : c < NC) (hk : k < len) : X2_sortOf 0 (nI c) (nI k) g = some (nI (so k), g) := by
  have hD := h.hasDeed hd hc hk
  obtain ⟨⟨p1, p2, p3, p4, p5, p6, p7, p8⟩, q1, q2, q3, q4⟩ := h
  obtain ⟨d1, d2, d3⟩ := hd
  unfold X2_sortOf
  simp (disch := omega) only [zc_some, zw_eq, zi_nI, nI_clamp, nI_add, nI_1, nI_lti, nI_inj, nI_ltz, nI_eq0, nI_0lt, nI_ne_m1, nI_ne_m2, nI_m1_ne, nI_m2_ne, if_true, if_false, zU_eq, zU_ne, Nat.add_zero, pk_mul, hD, show ¬ (1 = 0) by omega, Nat.mul_comm c 24, (d3 k hk).1]
theorem CPar.wholeOf {S W PL NC c k len : Nat} {so wh : Nat → Nat} {ix : Nat → Bool} {g : zG} (h : CPar S W PL NC g) (hd : DeedsC c len so wh ix g) (hc : c < NC) (hk : k < len) : X2_wholeOf 0 (nI c) (nI k) g = some (g 13 0 (24 * c + k), g) := by
  have hD := h.hasDeed hd hc hk
  obtain ⟨⟨p1, p2, p3, p4, p5, p6, p7, p8⟩, q1, q2, q3, q4⟩ := h
  obtain ⟨d1, d2, d3⟩ := hd
  unfold X2_wholeOf
  simp (disch := omega) only [zc_some, zw_eq, zi_nI, nI_clamp, nI_add, nI_1, nI_lti, nI_inj, nI_ltz, nI_eq0, nI_0lt, nI_ne_m1, nI_ne_m2, nI_m1_ne, nI_m2_ne, if_true, if_false, zU_eq, zU_ne, Nat.add_zero, pk_mul, hD, show ¬ (1 = 0) by omega, Nat.mul_comm c 24]
theorem CPar.isIndexed {S W PL NC c k len : Nat} {so wh : Nat → Nat} {ix : Nat → Bool} {g : zG} (h : CPar S W PL NC g) (hd : DeedsC c len so wh ix g) (hc : c < NC) (hk : k < len) (h3 : 3 ≤ so k) : X2_isIndexed 0 (nI c) (nI k) g = some (bI (ix k), g) := by
  have hD := h.hasDeed hd hc hk
  obtain ⟨⟨p1, p2, p3, p4, p5, p6, p7, p8⟩, q1, q2, q3, q4⟩ := h
  obtain ⟨d1, d2, d3⟩ := hd
  have hix := ((d3 k hk).2 h3).2
  unfold X2_isIndexed
  simp (disch := omega) only [zc_some, zw_eq, zi_nI, nI_clamp, nI_add, nI_1, nI_lti, nI_inj, nI_ltz, nI_eq0, nI_0lt, nI_ne_m1, nI_ne_m2, nI_m1_ne, nI_m2_ne, if_true, if_false, zU_eq, zU_ne, Nat.add_zero, pk_mul, hD, show ¬ (1 = 0) by omega, Nat.mul_comm c 24, hix]
  cases ix k with
  | false => rfl
  | true => rw [if_neg (by decide)]; rfl
theorem CPar.hasAddress {S W PL NC a : Nat} {g : zG} (h : CPar S W PL NC g) (ha : a < 16 * PL) : X2_hasAddress 0 (nI a) g = some (nI 1, g) := by
  obtain ⟨⟨p1, p2, p3, p4, p5, p6, p7, p8⟩, q1, q2, q3, q4⟩ := h
  unfold X2_hasAddress X2_addresses
  simp (disch := omega) only [zc_some, zw_eq, zi_nI, nI_clamp, nI_add, nI_1, nI_lti, nI_inj, nI_ltz, nI_eq0, nI_0lt, nI_ne_m1, nI_ne_m2, nI_m1_ne, nI_m2_ne, if_true, if_false, zU_eq, zU_ne, Nat.add_zero, pk_mul, q3, ha, show a < 64 by omega]
theorem J9_mod {a d : Nat} (g : zG) (ha : a < 2 ^ 31) (h0 : 0 < d) (hd : d < 2 ^ 31) : J9_floorMod_7cf53 (nI a) (nI d) g = some (nI (a % d), g) := by
  have hx : ¬ (nI a ^^^ nI d) < 0 := by
    have h1 : (nI a).toBitVec.toNat = a := pk_tn (by omega)
    have h2 : (nI d).toBitVec.toNat = d := pk_tn (by omega)
    have h3 : (nI a ^^^ nI d) = nI (a ^^^ d) := by
      apply Int32.toBitVec_inj.mp
      apply BitVec.eq_of_toNat_eq
      have h4 : a ^^^ d < 2 ^ 31 := Nat.xor_lt_two_pow ha hd
      rw [Int32.toBitVec_xor, BitVec.toNat_xor, h1, h2, pk_tn (by omega)]
    rw [h3]
    exact nI_pos (Nat.xor_lt_two_pow ha hd)
  unfold J9_floorMod_7cf53
  rw [if_neg (by rw [nI_eq0 hd]; omega), if_neg hx, pk_rem ha h0 hd]
theorem CPar.addressOf {S W PL NC c k len x : Nat} {so wh : Nat → Nat} {ix : Nat → Bool} {g : zG} (h : CPar S W PL NC g) (hd : DeedsC c len so wh ix g) (hc : c < NC) (hk : k < len) (h3 : 3 ≤ so k) (hwh : wh k < 16 * PL) (hx : x < 1000) : X2_addressOf 0 (nI c) (nI k) (nI x) g = some (nI (aOf PL (wh k) x (ix k)), g) := by
  have e1 := h.wholeOf hd hc hk
  have e2 := h.isIndexed hd hc hk h3
  have hwo := ((hd.2.2 k hk).2 h3).1
  have h' := h
  obtain ⟨⟨p1, p2, p3, p4, p5, p6, p7, p8⟩, q1, q2, q3, q4⟩ := h'
  have b39 : ∀ a, a < 16 * PL → X2_addressOf_b39 0 (nI a) g = some (nI a, g) := fun a ha => by
    unfold X2_addressOf_b39
    rw [h.hasAddress ha, zc_some, if_neg (by decide)]
  unfold X2_addressOf X2_addresses
  rw [e1, zc_some, hwo, zc_some, e2, zc_some, q3]
  unfold aOf
  cases ix k with
  | false =>
    rw [if_pos (show bI false = 0 by decide), b39 _ hwh, if_neg (by decide), Nat.add_zero, Nat.mod_eq_of_lt hwh]
  | true =>
    rw [if_neg (show ¬ bI true = 0 by decide), pk_mul, if_pos (by rw [nI_0lt (by omega)]; omega), nI_add, J9_mod g (by omega) (by omega) (by omega), zc_some, b39 _ (Nat.mod_lt _ (by omega)), if_pos rfl]
theorem CPar.lineOf {S W PL NC a : Nat} {g : zG} (h : CPar S W PL NC g) (ha : a < 16 * PL) : X2_lineOf 0 (nI a) g = some (nI (a / PL), g) := by
  obtain ⟨⟨p1, p2, p3, p4, p5, p6, p7, p8⟩, q1, q2, q3, q4⟩ := h
  unfold X2_lineOf
  simp (disch := omega) only [zc_some, zw_eq, zi_nI, nI_clamp, nI_add, nI_1, nI_lti, nI_inj, nI_ltz, nI_eq0, nI_0lt, nI_ne_m1, nI_ne_m2, nI_m1_ne, nI_m2_ne, if_true, if_false, zU_eq, zU_ne, Nat.add_zero, pk_mul, q3, pk_div, p5, show ¬ PL = 0 by omega]
theorem CPar.offsetOf {S W PL NC a : Nat} {g : zG} (h : CPar S W PL NC g) (ha : a < 16 * PL) : X2_offsetOf 0 (nI a) g = some (nI (a % PL), g) := by
  obtain ⟨⟨p1, p2, p3, p4, p5, p6, p7, p8⟩, q1, q2, q3, q4⟩ := h
  unfold X2_offsetOf
  simp (disch := omega) only [zc_some, zw_eq, zi_nI, nI_clamp, nI_add, nI_1, nI_lti, nI_inj, nI_ltz, nI_eq0, nI_0lt, nI_ne_m1, nI_ne_m2, nI_m1_ne, nI_m2_ne, if_true, if_false, zU_eq, zU_ne, Nat.add_zero, pk_mul, q3, pk_rem, p5, show ¬ PL = 0 by omega]
