/-! ===== the class' lines: single cells, the others, a line comes ===== -/
theorem ne_m2_of {x : Int32} {ℓ : Nat} (h : x = nI ℓ) (hℓ : ℓ < 2 ^ 31) : x ≠ -2 := fun z => by
  rw [h, nI_ne_m2 hℓ] at z; exact z
theorem c_cell {S W PL NC r c0 s0 w0 c s w f k : Nat} {v : Int32} {g : zG} {m : Rw} (hz : Siz4 S W PL NC) (h : SimH S W PL NC r c0 s0 w0 g m) (hc : c < NC) (hs : s < S) (hw : w < W) (hne : ¬ (c = c0 ∧ s = s0 ∧ w = w0)) (hf : f = 22 + k) (hk0 : 0 < k) (hk4 : k ≤ 4) (hl : m (pos c s w) ≠ -2) : SimH S W PL NC r c0 s0 w0 (zU g f (4 * r + c) (s * W + w) v) (upd m (pos c s w + k) v) := by
  subst hf
  refine SimH_place hz h hc hs hw (fun f' i j _ hf => zU_ne _ _ (by omega)) (fun i hi => upd_ne (hi k (by omega))) (fun _ => ?_) (Or.inr (Or.inr ⟨rfl, rfl, rfl⟩))
  obtain ⟨e0, e1, e2, e3, e4, e5, e6⟩ := h.1 c s w hc hs hw hne
  have hcs : k = 1 ∨ k = 2 ∨ k = 3 ∨ k = 4 := by omega
  unfold PlS
  rw [upd_ne (by omega)]
  have wds : ∀ k', upd m (pos c s w + k) v (pos c s w + 5 + k') = m (pos c s w + 5 + k') := fun k' => upd_ne (by omega)
  rcases hcs with rfl | rfl | rfl | rfl
  · refine ⟨?_, ?_, ?_, ?_, fun z => absurd z hl, fun z => ?_, fun y z k' hk' => ?_⟩
    · simp (disch := omega) only [zU_ne]; exact e0
    · rw [zU_self, upd_eq rfl]
    · simp (disch := omega) only [zU_ne, upd_ne]; exact e2
    · simp (disch := omega) only [zU_ne, upd_ne]; exact e3
    · simp (disch := omega) only [zU_ne, upd_ne]; exact e5 z
    · rw [wds]; simp (disch := omega) only [zU_ne]; exact e6 y z k' hk'
  · refine ⟨?_, ?_, ?_, ?_, fun z => absurd z hl, fun z => ?_, fun y z k' hk' => ?_⟩
    · simp (disch := omega) only [zU_ne]; exact e0
    · simp (disch := omega) only [zU_ne, upd_ne]; exact e1
    · rw [zU_self, upd_eq rfl]
    · simp (disch := omega) only [zU_ne, upd_ne]; exact e3
    · simp (disch := omega) only [zU_ne, upd_ne]; exact e5 z
    · rw [wds]; simp (disch := omega) only [zU_ne]; exact e6 y z k' hk'
  · refine ⟨?_, ?_, ?_, ?_, fun z => absurd z hl, fun z => ?_, fun y z k' hk' => ?_⟩
    · simp (disch := omega) only [zU_ne]; exact e0
    · simp (disch := omega) only [zU_ne, upd_ne]; exact e1
    · simp (disch := omega) only [zU_ne, upd_ne]; exact e2
    · rw [zU_self, upd_eq rfl]
    · simp (disch := omega) only [zU_ne, upd_ne]; exact e5 z
    · rw [wds]; simp (disch := omega) only [zU_ne]; exact e6 y z k' hk'
  · refine ⟨?_, ?_, ?_, ?_, fun z => absurd z hl, fun z => ?_, fun y z k' hk' => ?_⟩
    · simp (disch := omega) only [zU_ne]; exact e0
    · simp (disch := omega) only [zU_ne, upd_ne]; exact e1
    · simp (disch := omega) only [zU_ne, upd_ne]; exact e2
    · simp (disch := omega) only [zU_ne, upd_ne]; exact e3
    · rw [zU_self, upd_eq rfl]
    · rw [wds]; simp (disch := omega) only [zU_ne]; exact e6 y z k' hk'
theorem c_word {S W PL NC r c0 s0 w0 c s w k : Nat} {v : Int32} {g : zG} {m : Rw} (hz : Siz4 S W PL NC) (h : SimH S W PL NC r c0 s0 w0 g m) (hc : c < NC) (hs : s < S) (hw : w < W) (hne : ¬ (c = c0 ∧ s = s0 ∧ w = w0)) (hk : k < 4) : SimH S W PL NC r c0 s0 w0 (zU g 27 (4 * r + c) (4 * (s * W + w) + k) v) (upd m (pos c s w + 5 + k) v) := by
  refine SimH_place hz h hc hs hw (fun f' i j _ hf => zU_ne _ _ (by omega)) (fun i hi => upd_ne (by have := hi (5 + k) (by omega); omega)) (fun _ => ?_) (Or.inr (Or.inr ⟨rfl, rfl, rfl⟩))
  obtain ⟨e0, e1, e2, e3, e4, e5, e6⟩ := h.1 c s w hc hs hw hne
  unfold PlS
  simp (disch := omega) only [zU_ne, upd_ne]
  refine ⟨e0, e1, e2, e3, e4, e5, fun y z k' hk' => ?_⟩
  by_cases e : k' = k
  · subst e; rw [zU_self, upd_eq rfl]
  · rw [zU_ne _ _ (by omega), upd_ne (by omega)]; exact e6 y z k' hk'
theorem c_traf {S W PL NC r c0 s0 w0 k : Nat} {v : Int32} {g : zG} {m : Rw} (hz : Siz4 S W PL NC) (h : SimH S W PL NC r c0 s0 w0 g m) (hk : k < 3) : SimH S W PL NC r c0 s0 w0 (zU g 20 r k v) (upd m (1 + k) v) := by
  refine SimH_sh hz h (fun f i j _ hf => zU_ne _ _ (by omega)) (fun i hi => upd_ne (by omega)) ?_
  obtain ⟨h1, h2, ⟨n, h3, h4, h5, h6⟩, h7, h8⟩ := h.2.2.2.1
  refine ⟨fun a ha => ?_, fun k' hk' => ?_, ⟨n, h3, ?_, ?_, fun i hi => ?_⟩, ?_, ?_⟩
  · rw [zU_ne _ _ (by omega), upd_ne (by omega)]; exact h1 a ha
  · by_cases e : k' = k
    · subst e; rw [zU_self, upd_eq rfl]
    · rw [zU_ne _ _ (by omega), upd_ne (by omega)]; exact h2 k' hk'
  · rw [upd_ne (by omega)]; exact h4
  · rw [zU_ne _ _ (by omega)]; exact h5
  · rw [zU_ne _ _ (by omega), upd_ne (by omega)]; exact h6 i hi
  · rw [zU_ne _ _ (by omega), upd_ne (by omega)]; exact h7
  · rw [zU_ne _ _ (by omega), upd_ne (by omega)]; exact h8
/-- a place emptied -/
def cDrop (g : zG) (q p : Nat) : zG := zU (zU (zU (zU (zU g 22 q p (-2)) 23 q p (nI 0)) 24 q p (nI 0)) 25 q p (nI 0)) 26 q p (-2)
theorem cDrop_out {g : zG} {q p f i j : Nat} (h : ¬ (i = q ∧ j = p ∧ 22 ≤ f ∧ f ≤ 26)) : cDrop g q p f i j = g f i j := by
  unfold cDrop
  simp (disch := omega) only [zU_ne]
theorem cDrop_at (g : zG) (q p : Nat) : cDrop g q p 22 q p = -2 ∧ cDrop g q p 23 q p = nI 0 ∧ cDrop g q p 24 q p = nI 0 ∧ cDrop g q p 25 q p = nI 0 ∧ cDrop g q p 26 q p = -2 := by
  unfold cDrop
  simp (disch := omega) only [zU_ne, zU_eq]
  trivial
theorem rEmp_at (m : Rw) (q : Nat) : rEmp m q q = -2 ∧ rEmp m q (q + 1) = nI 0 ∧ rEmp m q (q + 2) = nI 0 ∧ rEmp m q (q + 3) = nI 0 ∧ rEmp m q (q + 4) = nI 0 := by
  unfold rEmp
  simp (disch := omega) only [upd_ne, upd_eq]
  trivial
theorem rEmp_out {m : Rw} {q i : Nat} (h : ∀ f, f < 5 → i ≠ q + f) : rEmp m q i = m i := by
  have h0 := h 0 (by omega)
  unfold rEmp
  rw [upd_ne (h 4 (by omega)), upd_ne (h 3 (by omega)), upd_ne (h 2 (by omega)), upd_ne (h 1 (by omega)), upd_ne (by omega)]
theorem c_drop {S W PL NC r c0 s0 w0 c s w : Nat} {g : zG} {m : Rw} (hz : Siz4 S W PL NC) (h : SimH S W PL NC r c0 s0 w0 g m) (hc : c < NC) (hs : s < S) (hw : w < W) (hne : ¬ (c = c0 ∧ s = s0 ∧ w = w0)) : SimH S W PL NC r c0 s0 w0 (cDrop g (4 * r + c) (s * W + w)) (rEmp m (pos c s w)) := by
  refine SimH_place hz h hc hs hw (fun f' i j _ hf => cDrop_out (by omega)) (fun i hi => rEmp_out (fun f hf => hi f (by omega))) (fun _ => ?_) (Or.inr (Or.inr ⟨rfl, rfl, rfl⟩))
  obtain ⟨a1, a2, a3, a4, a5⟩ := cDrop_at g (4 * r + c) (s * W + w)
  obtain ⟨b1, b2, b3, b4, b5⟩ := rEmp_at m (pos c s w)
  unfold PlS
  rw [a1, a2, a3, a4, a5, b1, b2, b3, b4]
  exact ⟨rfl, rfl, rfl, rfl, fun _ => ⟨rfl, rfl⟩, fun z => absurd rfl z, fun z => absurd rfl z⟩
theorem c_dropH {S W PL NC r c s w : Nat} {g : zG} {m : Rw} (hz : Siz4 S W PL NC) (h : Sim S W PL NC r g m) (hc : c < NC) (hs : s < S) (hw : w < W) : SimH S W PL NC r c s w (cDrop g (4 * r + c) (s * W + w)) m :=
  SimH_place hz h hc hs hw (fun f' i j _ hf => cDrop_out (by omega)) (fun i hi => rfl) (fun z => absurd ⟨rfl, rfl, rfl⟩ z) (Or.inr (Or.inl hz.2.2.2.2.2.2.2))
theorem cDrop_fr {r c p : Nat} {g : zG} (hc : c < 4) : FrC r g (cDrop g (4 * r + c) p) ∧ cDrop g (4 * r + c) p 12003 r 0 = g 12003 r 0 :=
  ⟨fun f i j hf => cDrop_out (fun z => hf (by unfold ofRun; omega)), cDrop_out (by omega)⟩
theorem zbo_bI (h : Bool) (A : zR0) : zbo (bI h) A = A := by
  unfold zbo
  cases h with
  | false => exact if_pos (Or.inl rfl)
  | true => exact if_pos (Or.inr rfl)
theorem c_changeOthers {S W PL NC r c0 s0 w0 c ℓ : Nat} {b hh : Bool} {g : zG} {m m' : Rw} (hP : CPar S W PL NC g) (h : SimH S W PL NC r c0 s0 w0 g m) (h0 : c0 = c ∨ 4 ≤ c0) (hp : PI S W PL NC m) (hc : c < NC) (hℓ : ℓ ≤ 16) (ho : OthR S W PL c ℓ b NC m hh m') :
    ∃ g', X3_changeOthers r (nI c) (nI ℓ) (bI b) g = some (bI hh, g') ∧ SimH S W PL NC r c0 s0 w0 g' m' ∧ PI S W PL NC m' ∧ FrC r g g' ∧ g' 12003 r 0 = g 12003 r 0 ∧ ∀ f j, 22 ≤ f → f ≤ 28 → g' f (4 * r + c) j = g f (4 * r + c) j := by
  have hz := hP.1
  obtain ⟨p1, p2, p3, p4, p5, p6, p7, p8⟩ := id hz
  have h16 := pl_16 hz
  have hs : ℓ % S < S := Nat.mod_lt _ p1
  have key : ∀ i, i ≤ NC → ∀ hi mi, OthR S W PL c ℓ b i m hi mi → ∃ gi, SimH S W PL NC r c0 s0 w0 gi mi ∧ PI S W PL NC mi ∧ FrC r g gi ∧ gi 12003 r 0 = g 12003 r 0 ∧ (∀ f j, 22 ≤ f → f ≤ 28 → gi f (4 * r + c) j = g f (4 * r + c) j) ∧ ∀ n, X3_changeOthers_l6 (n + i) r (nI c) (nI ℓ) (bI b) (nI 0) (nI 0) g = X3_changeOthers_l6 n r (nI c) (nI ℓ) (bI b) (bI hi) (nI i) gi := by
    intro i
    induction i with
    | zero => intro _ hi mi e; rw [e.1, e.2]; exact ⟨g, h, hp, FrC.rfl' r g, rfl, fun _ _ _ _ => rfl, fun n => rfl⟩
    | succ i ih =>
      intro hi h' mi e
      have hpi := PI_OthR hz.siz (i + 1) hi e hp
      obtain ⟨m1, h1, e1, e2⟩ := e
      obtain ⟨gi, s1, s2, s3, s4, s5, s6⟩ := ih (by omega) h1 m1 e1
      have hi4 : i < 4 := by omega
      rcases e2 with ⟨hic, rfl, rfl⟩ | ⟨hic, hf, rfl, rfl⟩ | ⟨hic, w, hf, rfl, hq⟩
      · refine ⟨gi, s1, s2, s3, s4, s5, fun n => ?_⟩
        rw [show n + (i + 1) = (n + 1) + i by omega, s6, X3_changeOthers_l6.eq_2]
        simp (disch := omega) only [zc_some, zw_eq, zi_nI, nI_clamp, nI_add, nI_1, nI_lti, nI_inj, nI_ltz, nI_eq0, nI_0lt, nI_ne_m1, nI_ne_m2, nI_m1_ne, nI_m2_ne, if_true, if_false, zU_eq, zU_ne, Nat.add_zero, pk_mul, hic, hc, show c < 4 by omega, X3_changeOthers_b33, X3_changeOthers_b120]
      · refine ⟨gi, s1, s2, s3, s4, s5, fun n => ?_⟩
        have hfi := c_find hz s1 (show i < NC by omega) (by omega) s2.lok hℓ hf
        rw [show n + (i + 1) = (n + 1) + i by omega, s6, X3_changeOthers_l6.eq_2]
        simp (disch := omega) only [zc_some, zw_eq, zi_nI, nI_clamp, nI_add, nI_1, nI_lti, nI_inj, nI_ltz, nI_eq0, nI_0lt, nI_ne_m1, nI_ne_m2, nI_m1_ne, nI_m2_ne, if_true, if_false, zU_eq, zU_ne, Nat.add_zero, pk_mul, hic, hi4, hfi, cpO, X3_changeOthers_b33, X3_changeOthers_b120]
      · have hfi := c_find hz s1 (show i < NC by omega) (by omega) s2.lok hℓ hf
        obtain ⟨f1, f2, f3⟩ := id hf
        have hlt := pl_lt hs f1
        have hne : ¬ (i = c0 ∧ ℓ % S = s0 ∧ w = w0) := by omega
        obtain ⟨a0, a1, -⟩ := s1.1 i (ℓ % S) w (by omega) hs f1 hne
        obtain ⟨m2, q1, q2⟩ := hq
        -- written back, if it is changed
        obtain ⟨gw, k1, k2, k3, k4, k5⟩ : ∃ gw, SimH S W PL NC r c0 s0 w0 gw m2 ∧ FrC r g gw ∧ gw 12003 r 0 = g 12003 r 0 ∧ (∀ f j, 22 ≤ f → f ≤ 28 → gw f (4 * r + c) j = g f (4 * r + c) j) ∧ ∀ n, X3_changeOthers_l6 (n + (i + 1)) r (nI c) (nI ℓ) (bI b) (nI 0) (nI 0) g = X3_changeOthers_b74 (X3_changeOthers_l6 n) r (nI c) (nI ℓ) (bI b) (bI h1) (nI i) (nI (ℓ % S * W + w)) gw := by
          have red : ∀ n, X3_changeOthers_l6 (n + (i + 1)) r (nI c) (nI ℓ) (bI b) (nI 0) (nI 0) g = X3_changeOthers_b33 (X3_changeOthers_l6 n) r (nI c) (nI ℓ) (bI b) (bI h1) (nI i) (nI (ℓ % S * W + w)) gi := fun n => by
            rw [show n + (i + 1) = (n + 1) + i by omega, s6, X3_changeOthers_l6.eq_2]
            simp (disch := omega) only [zc_some, zw_eq, zi_nI, nI_clamp, nI_add, nI_1, nI_lti, nI_inj, nI_ltz, nI_eq0, nI_0lt, nI_ne_m1, nI_ne_m2, nI_m1_ne, nI_m2_ne, if_true, if_false, zU_eq, zU_ne, Nat.add_zero, pk_mul, hic, hi4, hfi, cpO]
          by_cases e3 : m1 (pos i (ℓ % S) w + 1) = nI 3
          · rw [if_pos e3] at q1
            obtain ⟨gw, y1, y2, y3, y4, y5⟩ := c_writeBack (hP.fr s3) s1 (show i < NC by omega) hs f1 hne f2 hℓ
            refine ⟨gw, by rw [q1]; exact y2, s3.trans y3, y4.trans s4, fun f j x y => (y5 f _ j ⟨x, y⟩).trans (s5 f j x y), fun n => ?_⟩
            rw [red]
            unfold X3_changeOthers_b33
            simp (disch := omega) only [zc_some, zw_eq, zi_nI, nI_clamp, nI_add, nI_1, nI_lti, nI_inj, nI_ltz, nI_eq0, nI_0lt, nI_ne_m1, nI_ne_m2, nI_m1_ne, nI_m2_ne, if_true, if_false, zU_eq, zU_ne, Nat.add_zero, pk_mul, hi4, a1, e3, show ℓ % S * W + w < 16 by omega, y1]
          · rw [if_neg e3] at q1
            refine ⟨gi, by rw [q1]; exact s1, s3, s4, s5, fun n => ?_⟩
            rw [red]
            unfold X3_changeOthers_b33
            simp (disch := omega) only [zc_some, zw_eq, zi_nI, nI_clamp, nI_add, nI_1, nI_lti, nI_inj, nI_ltz, nI_eq0, nI_0lt, nI_ne_m1, nI_ne_m2, nI_m1_ne, nI_m2_ne, if_true, if_false, zU_eq, zU_ne, Nat.add_zero, pk_mul, hi4, a1, e3, show ℓ % S * W + w < 16 by omega]
        have l2 : m2 (pos i (ℓ % S) w) = nI ℓ := by
          rw [q1]
          split
          · rw [rWB_low p6 ⟨ℓ, hℓ, f2⟩ (by have := pos_ge i (ℓ % S) w; omega) (by have := pos_ge i (ℓ % S) w; omega)]; exact f2
          · exact f2
        cases b with
        | false =>
          rw [if_neg (by decide)] at q2
          refine ⟨zU gw 23 (4 * r + i) (ℓ % S * W + w) (nI 1), by rw [q2]; exact c_cell hz k1 (by omega) hs f1 hne rfl (by omega) (by omega) (ne_m2_of l2 (by omega)), hpi, k2.u _ _ (by unfold ofRun; omega), by rw [zU_ne _ _ (by omega)]; exact k3, fun f j x y => by rw [zU_ne _ _ (by omega)]; exact k4 f j x y, fun n => ?_⟩
          rw [k5]
          unfold X3_changeOthers_b74 X3_changeOthers_b120
          simp (disch := omega) only [zc_some, zw_eq, zi_nI, nI_clamp, nI_add, nI_1, nI_lti, nI_inj, nI_ltz, nI_eq0, nI_0lt, nI_ne_m1, nI_ne_m2, nI_m1_ne, nI_m2_ne, if_true, if_false, zU_eq, zU_ne, Nat.add_zero, pk_mul, bI0, hi4, show ℓ % S * W + w < 16 by omega]
          rfl
        | true =>
          rw [if_pos rfl] at q2
          have kd := c_drop hz k1 (show i < NC by omega) hs f1 hne
          have kt := c_traf (k := 2) (v := cDrop gw (4 * r + i) (ℓ % S * W + w) 20 r 2 + nI 1) hz kd (by omega)
          have e32 : cDrop gw (4 * r + i) (ℓ % S * W + w) 20 r 2 = rEmp m2 (pos i (ℓ % S) w) 3 := kd.2.2.2.1.2.1 2 (by omega)
          refine ⟨zU (cDrop gw (4 * r + i) (ℓ % S * W + w)) 20 r 2 (cDrop gw (4 * r + i) (ℓ % S * W + w) 20 r 2 + nI 1), by rw [q2, ← e32]; exact kt, hpi, (k2.trans (cDrop_fr hi4).1).u _ _ (by unfold ofRun; omega), by rw [zU_ne _ _ (by omega), (cDrop_fr hi4).2]; exact k3, fun f j x y => by rw [zU_ne _ _ (by omega), cDrop_out (by omega)]; exact k4 f j x y, fun n => ?_⟩
          have hd := X0_dropLine_ok (4 * r + i) (ℓ % S * W + w) gw (by omega)
          rw [k5]
          unfold X3_changeOthers_b74 X3_changeOthers_b120
          rw [if_neg (by decide)]
          simp (disch := omega) only [zc_some, zw_eq, zi_nI, nI_clamp, nI_add, nI_1, nI_lti, nI_inj, nI_ltz, nI_eq0, nI_0lt, nI_ne_m1, nI_ne_m2, nI_m1_ne, nI_m2_ne, if_true, if_false, zU_eq, zU_ne, Nat.add_zero, pk_mul, hi4, hd]
          rfl
  obtain ⟨g1, s1, s2, s3, s4, s5, s6⟩ := key NC (Nat.le_refl _) hh m' ho
  have tail : ∀ d i n, i + d = 4 → NC ≤ i → X3_changeOthers_l6 (n + d + 1) r (nI c) (nI ℓ) (bI b) (bI hh) (nI i) g1 = some (bI hh, g1) := by
    intro d
    induction d with
    | zero =>
      intro i n e _
      have : i = 4 := by omega
      subst this
      rw [X3_changeOthers_l6.eq_2, if_neg (by rw [nI_lti (by omega) (by omega)]; omega), zbo_bI]
    | succ d ih =>
      intro i n e hi
      have hfi := c_find_out s1 hi (show i < 4 by omega) hℓ
      have := ih (i + 1) n (by omega) (by omega)
      rw [X3_changeOthers_l6.eq_2]
      simp (disch := omega) only [zc_some, zw_eq, zi_nI, nI_clamp, nI_add, nI_1, nI_lti, nI_inj, nI_ltz, nI_eq0, nI_0lt, nI_ne_m1, nI_ne_m2, nI_m1_ne, nI_m2_ne, if_true, if_false, zU_eq, zU_ne, Nat.add_zero, pk_mul, show ¬ i = c by omega, show i < 4 by omega, hfi, X3_changeOthers_b33, X3_changeOthers_b120]
      exact this
  refine ⟨g1, ?_, s1, s2, s3, s4, s5⟩
  unfold X3_changeOthers
  rw [show zfuel = (99995 + (4 - NC) + 1) + NC + (4 - (4 - NC) - NC) by have : zfuel = 100000 := rfl; omega, show 4 - (4 - NC) - NC = 0 by omega, Nat.add_zero, s6]
  exact tail (4 - NC) NC 99995 (by omega) (Nat.le_refl _)
theorem X3_bringLine_ok {S W PL NC r q p ℓ : Nat} {g : zG} (hP : CPar S W PL NC g) (hp : p < 16) (hℓ : ℓ ≤ 16) :
    ∃ g', X3_bringLine r q (nI p) (nI ℓ) g = some (0, g') ∧ g' 22 q p = nI ℓ ∧ (∀ k, k < PL → g' 27 q (4 * p + k) = g 17 r (ℓ * PL + k)) ∧ g' 20 r 0 = g 20 r 0 + nI 1 ∧ ∀ f i j, ¬ (i = q ∧ ((f = 22 ∧ j = p) ∨ (f = 27 ∧ 4 * p ≤ j ∧ j < 4 * p + 4))) → ¬ (f = 20 ∧ i = r ∧ j = 0) → g' f i j = g f i j := by
  obtain ⟨⟨p1, p2, p3, p4, p5, p6, p7, p8⟩, q1, q2, q3, q4⟩ := hP
  have hml := mul_le_68 p6 hℓ
  unfold X3_bringLine
  simp (disch := omega) only [zc_some, zw_eq, zi_nI, nI_clamp, nI_add, nI_1, nI_lti, nI_inj, nI_ltz, nI_eq0, nI_0lt, nI_ne_m1, nI_ne_m2, nI_m1_ne, nI_m2_ne, if_true, if_false, zU_eq, zU_ne, Nat.add_zero, pk_mul, hp]
  refine loopN (M := fun n i h => X3_bringLine_l10 n r q (nI p) (nI ℓ) (nI i) h) PL (fun k h => h 22 q p = nI ℓ ∧ (∀ k', k' < k → h 27 q (4 * p + k') = g 17 r (ℓ * PL + k')) ∧ ∀ f i j, ¬ (i = q ∧ ((f = 22 ∧ j = p) ∨ (f = 27 ∧ 4 * p ≤ j ∧ j < 4 * p + 4))) → h f i j = g f i j) (fun o => ∃ g', o = some (0, g') ∧ g' 22 q p = nI ℓ ∧ (∀ k, k < PL → g' 27 q (4 * p + k) = g 17 r (ℓ * PL + k)) ∧ g' 20 r 0 = g 20 r 0 + nI 1 ∧ ∀ f i j, ¬ (i = q ∧ ((f = 22 ∧ j = p) ∨ (f = 27 ∧ 4 * p ≤ j ∧ j < 4 * p + 4))) → ¬ (f = 20 ∧ i = r ∧ j = 0) → g' f i j = g f i j) ?_ ?_ (i0 := 0) ⟨zU_self _ _ _ _ _, fun k hk => by omega, fun f i j hf => zU_ne _ _ (by omega)⟩ (by omega) (zfuel_ge (by omega))
  · rintro n k h hk ⟨h0, h1, h2⟩
    left
    have a3 : h 3001 0 0 = nI PL := by rw [h2 _ _ _ (by omega)]; exact q3
    have a17 : h 17 r (ℓ * PL + k) = g 17 r (ℓ * PL + k) := h2 _ _ _ (by omega)
    refine ⟨zU h 27 q (4 * p + k) (g 17 r (ℓ * PL + k)), ⟨by rw [zU_ne _ _ (by omega)]; exact h0, fun k' hk' => ?_, fun f i j hf => ?_⟩, ?_⟩
    · by_cases z : k' = k
      · rw [z, zU_self]
      · rw [zU_ne _ _ (by omega)]; exact h1 k' (by omega)
    · rw [zU_ne _ _ (by omega)]; exact h2 f i j hf
    · have hw := X0_setWord_ok (q := q) (p := p) (k := k) h (g 17 r (ℓ * PL + k)) hp (by omega)
      rw [X3_bringLine_l10.eq_2]
      simp (disch := omega) only [zc_some, zw_eq, zi_nI, nI_clamp, nI_add, nI_1, nI_lti, nI_inj, nI_ltz, nI_eq0, nI_0lt, nI_ne_m1, nI_ne_m2, nI_m1_ne, nI_m2_ne, if_true, if_false, zU_eq, zU_ne, Nat.add_zero, pk_mul, a3, hk, show ℓ * PL + k < 68 by omega, X3_bringLine_b63, a17, hw]
  · rintro n h ⟨h0, h1, h2⟩
    have a3 : h 3001 0 0 = nI PL := by rw [h2 _ _ _ (by omega)]; exact q3
    have a20 : h 20 r 0 = g 20 r 0 := h2 _ _ _ (by omega)
    rw [X3_bringLine_l10.eq_2]
    simp (disch := omega) only [zc_some, zw_eq, zi_nI, nI_clamp, nI_add, nI_1, nI_lti, nI_inj, nI_ltz, nI_eq0, nI_0lt, nI_ne_m1, nI_ne_m2, nI_m1_ne, nI_m2_ne, if_true, if_false, zU_eq, zU_ne, Nat.add_zero, pk_mul, a3, Nat.lt_irrefl]
    refine ⟨_, rfl, ?_, fun k hk => ?_, ?_, fun f i j hf hf2 => ?_⟩
    · rw [zU_ne _ _ (by omega)]; exact h0
    · rw [zU_ne _ _ (by omega)]; exact h1 k hk
    · rw [zU_self, a20]
    · rw [zU_ne _ _ (by omega)]; exact h2 f i j hf
