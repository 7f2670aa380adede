/-! ===== the class' ends of tries ===== -/
theorem Sim_unR {S W PL NC r c : Nat} {drop : Bool} {g g1 : zG} {m m1 : Rw} (hz : Siz4 S W PL NC) (h : Sim S W PL NC r g m) (hp : PI S W PL NC m) (hc : c < NC) (hu : UnR S W c drop m m1) (hg : cUn drop g g1 (4 * r + c) 16) : Sim S W PL NC r g1 m1 := by
  obtain ⟨p1, p2, p3, p4, p5, p6, p7, p8⟩ := id hz
  have h16 := pl_16 hz
  refine SimH_cache hz h hc (fun f i j _ hf => hg.2 f i j (by omega)) (fun i hi => hu.2 i (fun s w f a b d => hi s w f (by omega) (by omega) (by omega))) (fun s w hs hw _ => ?_) (fun p a b => ?_) (Or.inr (Or.inl (by omega)))
  · have hlt := pl_lt hs hw
    obtain ⟨q1, q2, q3, q4, q5, q6, q7⟩ := h.1 c s w hc hs hw (by omega)
    have hk := (hp.mk c s w hc hs hw).2
    have k1 := hg.1 (s * W + w) (by omega)
    have k2 := hu.1 s w hs hw
    have e5 : ∀ k, k < PL → m1 (pos c s w + 5 + k) = m (pos c s w + 5 + k) := fun k hk => hu.2 _ (fun s' w' f a b d z => by
      rw [Nat.add_assoc] at z
      have := pos_inj (by omega) (by omega) (by omega) (by omega) (by omega) (by omega) z
      omega)
    have e27 : ∀ k, g1 27 (4 * r + c) k = g 27 (4 * r + c) k := fun k => hg.2 _ _ _ (by omega)
    have ne1 : m (pos c s w + 3) = nI 1 ↔ g 25 (4 * r + c) (s * W + w) ≠ 0 := by
      rw [q4]
      rcases hk with z | z
      · rw [z]; decide
      · rw [z]; decide
    unfold PlS
    by_cases e : drop = true ∧ m (pos c s w + 3) = nI 1
    · rw [if_pos ⟨e.1, ne1.mp e.2⟩] at k1
      rw [if_pos e] at k2
      obtain ⟨a1, a2, a3, a4, a5⟩ := k1
      obtain ⟨b1, b2, b3, b4, b5⟩ := k2
      rw [a1, a2, a3, a4, a5, b1, b2, b3, b4]
      exact ⟨rfl, rfl, rfl, rfl, fun _ => ⟨rfl, rfl⟩, fun z => absurd rfl z, fun z => absurd rfl z⟩
    · rw [if_neg (fun z => e ⟨z.1, ne1.mpr z.2⟩)] at k1
      rw [if_neg e] at k2
      obtain ⟨a1, a2, a3, a4, a5⟩ := k1
      obtain ⟨b1, b2, b3, b4, b5⟩ := k2
      have b4' : m1 (pos c s w + 3) = nI 0 := by
        rw [b4]
        split
        · next z => exact hk.resolve_right (fun y => e ⟨z, y⟩)
        · rfl
      rw [a1, a2, a3, a4, a5, b1, b2, b3, b4', b5]
      exact ⟨q1, q2, rfl, rfl, q5, q6, fun y z k hk => by rw [e27, e5 k hk]; exact q7 y z k hk⟩
  · have k1 := hg.1 p b
    have z := h.2.1 c p hc a b
    split at k1
    · exact k1.1
    · rw [k1.1]; exact z
def cEnd (q cause : Nat) (lost : Int32) (g1 : zG) : zG := zU (zU (zU (zU (zU (zU g1 3005 q 0 (nI 0)) 4005 q 0 (nI 0)) 1005 q 0 (g1 2005 q 0)) 5005 q 0 (nI 0)) 6005 q 0 lost) 28 q cause (g1 28 q cause + nI 1)
def lostI (cause : Nat) (tries x : Int32) : Int32 := if cause = 1 then tries else if cause = 0 then x + nI 1 else x
theorem rEnds_cat {c cause : Nat} {tries : Int32} {m : Rw} (hk : cause < 4) : rEnds c cause tries m (cat c 0) = m (cat c 6) ∧ rEnds c cause tries m (cat c 6) = m (cat c 6) ∧ rEnds c cause tries m (cat c 1) = nI 0 ∧ rEnds c cause tries m (cat c 2) = nI 0 ∧ rEnds c cause tries m (cat c 3) = nI 0 ∧ rEnds c cause tries m (cat c 4) = lostI cause tries (m (cat c 4)) ∧ rEnds c cause tries m (cat c 5) = m (cat c 5) ∧ ∀ k, k < 7 → rEnds c cause tries m (cat c (7 + k)) = if k = cause then m (cat c (7 + k)) + nI 1 else m (cat c (7 + k)) := by
  have hc : cause = 0 ∨ cause = 1 ∨ cause = 2 ∨ cause = 3 := by omega
  rcases hc with rfl | rfl | rfl | rfl
  all_goals
    refine ⟨?_, ?_, ?_, ?_, ?_, ?_, ?_, fun k hk7 => ?_⟩
    all_goals
      simp (disch := omega) [rEnds, lostI, cat, upd_eq, upd_ne]
    all_goals try
      split
      · next z => subst z; simp (disch := omega) [upd_eq, upd_ne]
      · simp (disch := omega) [upd_eq, upd_ne]
theorem Sim_endNum {S W PL NC r c cause : Nat} {tries : Int32} {g1 : zG} {m1 : Rw} (hz : Siz4 S W PL NC) (h : Sim S W PL NC r g1 m1) (hc : c < NC) (hk : cause < 4) : Sim S W PL NC r (cEnd (4 * r + c) cause (lostI cause tries (g1 6005 (4 * r + c) 0)) g1) (rEnds c cause tries m1) := by
  refine SimH_num hz h hc (fun f i j _ hf => ?_) (fun i hi => rEnds_out hk hi) ?_
  · unfold cEnd
    simp (disch := omega) only [zU_ne]
  · obtain ⟨q0, q6, q1, q2, q3, q4, q5, q7⟩ := h.2.2.1 c hc
    obtain ⟨r0, r6, r1, r2, r3, r4, r5, r7⟩ := @rEnds_cat c cause tries m1 hk
    unfold NuS
    rw [r0, r6, r1, r2, r3, r4, r5]
    unfold cEnd
    simp (disch := omega) only [zU_ne, zU_eq]
    refine ⟨q6, q6, trivial, trivial, trivial, by rw [q4], q5, fun k hk7 => ?_⟩
    rw [r7 k hk7, ← q7 k hk7]
    by_cases e : k = cause
    · subst e
      rw [if_pos rfl, zU_self]
    · rw [if_neg e]
      simp (disch := omega) only [zU_ne]
theorem cEnd_fr {r c cause : Nat} {lost : Int32} {g1 : zG} (hc : c < 4) : FrC r g1 (cEnd (4 * r + c) cause lost g1) ∧ cEnd (4 * r + c) cause lost g1 12003 r 0 = g1 12003 r 0 := by
  unfold cEnd
  refine ⟨((((((FrC.rfl' r g1).u _ _ ?_).u _ _ ?_).u _ _ ?_).u _ _ ?_).u _ _ ?_).u _ _ ?_, ?_⟩
  all_goals first
    | (unfold ofRun; omega)
    | simp (disch := omega) only [zU_ne]
theorem cUn_fr {r c : Nat} {d : Bool} {g g1 : zG} (hc : c < 4) (h : cUn d g g1 (4 * r + c) 16) : FrC r g g1 ∧ g1 12003 r 0 = g 12003 r 0 :=
  ⟨fun f i j hf => h.2 f i j (fun z => hf (by unfold ofRun; omega)), h.2 _ _ _ (by omega)⟩
theorem c_endTries {S W PL NC r cause v : Nat} {g : zG} {m m' : Rw} (hz : Siz4 S W PL NC) (h : Sim S W PL NC r g m) (hp : PI S W PL NC m) (hk : cause < 4) (hv : v < 16) (hvn : ∀ j, v.testBit j = true → j < NC) (he : EndsL S W cause (g 9003 r 0) v NC m m') :
    ∃ g', X3_endTries r (nI v) (nI cause) g = some (0, g') ∧ Sim S W PL NC r g' m' ∧ FrC r g g' ∧ g' 12003 r 0 = g 12003 r 0 ||| nI v := by
  obtain ⟨p1, p2, p3, p4, p5, p6, p7, p8⟩ := id hz
  have key : ∀ i, i ≤ 4 → ∀ mi, EndsL S W cause (g 9003 r 0) v i m mi → ∃ gi, Sim S W PL NC r gi mi ∧ PI S W PL NC mi ∧ FrC r g gi ∧ gi 12003 r 0 = g 12003 r 0 ∧ ∀ n, X3_endTries_l2 (n + i) r (nI v) (nI cause) (nI 0) g = X3_endTries_l2 n r (nI v) (nI cause) (nI i) gi := by
    intro i
    induction i with
    | zero => intro _ mi e; rw [e]; exact ⟨g, h, hp, FrC.rfl' r g, rfl, fun n => rfl⟩
    | succ i ih =>
      intro hi mi e
      obtain ⟨m1, e1, e2⟩ := e
      obtain ⟨gi, s1, s2, s3, s4, s5⟩ := ih (by omega) m1 e1
      have hbt := bit_test v hv i (by omega)
      rcases e2 with ⟨hb, e2⟩ | ⟨hb, e2⟩
      · have hiN := hvn i hb
        have hp' := PI_Ends hz.siz hk (by omega) e2 s2
        obtain ⟨m2, hu, rfl⟩ := e2
        obtain ⟨gu, u1, u2⟩ := X0_unmark_ok (4 * r + i) true gi
        have su := Sim_unR hz s1 s2 hiN hu u2
        have sn := Sim_endNum (tries := g 9003 r 0) hz su hiN hk
        obtain ⟨f1, f2⟩ := cUn_fr (by omega) u2
        obtain ⟨f3, f4⟩ := @cEnd_fr r i cause (lostI cause (g 9003 r 0) (gu 6005 (4 * r + i) 0)) gu (by omega)
        have t9 : gu 9003 r 0 = g 9003 r 0 := (s3.trans f1) _ _ _ (by unfold ofRun; omega)
        refine ⟨_, sn, hp', (s3.trans f1).trans f3, by rw [f4, f2, s4], fun n => ?_⟩
        rw [show n + (i + 1) = (n + 1) + i by omega, s5, X3_endTries_l2.eq_2]
        rw [if_pos (by rw [nI_lti (by omega) (by omega)]; omega), if_pos (hbt.mpr hb)]
        rw [bI1] at u1
        unfold X3_endTries_b84 X3_lostAfter
        have hcs : cause = 0 ∨ cause = 1 ∨ cause = 2 ∨ cause = 3 := by omega
        rcases hcs with rfl | rfl | rfl | rfl
        · simp (disch := omega) only [zc_some, zw_eq, zi_nI, nI_clamp, nI_add, nI_1, nI_lti, nI_inj, nI_ltz, nI_eq0, nI_0lt, nI_ne_m1, nI_ne_m2, nI_m1_ne, nI_m2_ne, if_true, if_false, zU_eq, zU_ne, Nat.add_zero, pk_mul, show i < 4 by omega, u1, show ¬ (0 = 1) by omega]
          rfl
        · simp (disch := omega) only [zc_some, zw_eq, zi_nI, nI_clamp, nI_add, nI_1, nI_lti, nI_inj, nI_ltz, nI_eq0, nI_0lt, nI_ne_m1, nI_ne_m2, nI_m1_ne, nI_m2_ne, if_true, if_false, zU_eq, zU_ne, Nat.add_zero, pk_mul, show i < 4 by omega, u1, t9]
          rfl
        · simp (disch := omega) only [zc_some, zw_eq, zi_nI, nI_clamp, nI_add, nI_1, nI_lti, nI_inj, nI_ltz, nI_eq0, nI_0lt, nI_ne_m1, nI_ne_m2, nI_m1_ne, nI_m2_ne, if_true, if_false, zU_eq, zU_ne, Nat.add_zero, pk_mul, show i < 4 by omega, u1, show ¬ (2 = 1) by omega, show ¬ (2 = 0) by omega]
          rfl
        · simp (disch := omega) only [zc_some, zw_eq, zi_nI, nI_clamp, nI_add, nI_1, nI_lti, nI_inj, nI_ltz, nI_eq0, nI_0lt, nI_ne_m1, nI_ne_m2, nI_m1_ne, nI_m2_ne, if_true, if_false, zU_eq, zU_ne, Nat.add_zero, pk_mul, show i < 4 by omega, u1, show ¬ (3 = 1) by omega, show ¬ (3 = 0) by omega]
          rfl
      · rw [e2]
        refine ⟨gi, s1, s2, s3, s4, fun n => ?_⟩
        have hbt' : ¬ ((nI v >>> (nI i &&& 31)) &&& nI 1) = nI 1 := fun z => by
          rw [hbt.mp z] at hb; cases hb
        rw [show n + (i + 1) = (n + 1) + i by omega, s5, X3_endTries_l2.eq_2]
        rw [if_pos (by rw [nI_lti (by omega) (by omega)]; omega), if_neg hbt']
        unfold X3_endTries_b84
        rw [nI_add]
  have e4 := EndsL_to NC 4 p8 he (fun k hk' => by
    cases e : v.testBit k with
    | false => rfl
    | true => have := hvn k e; omega)
  obtain ⟨g4, s1, s2, s3, s4, s5⟩ := key 4 (Nat.le_refl _) m' e4
  refine ⟨zU g4 12003 r 0 (g4 12003 r 0 ||| nI v), ?_, ?_, s3.u _ _ (by unfold ofRun; omega), by rw [zU_self, s4]⟩
  · unfold X3_endTries
    rw [show zfuel = 99995 + 1 + 4 from rfl, s5, X3_endTries_l2.eq_2]
    simp (disch := omega) only [zc_some, zw_eq, zi_nI, nI_clamp, nI_add, nI_1, nI_lti, nI_inj, nI_ltz, nI_eq0, nI_0lt, nI_ne_m1, nI_ne_m2, nI_m1_ne, nI_m2_ne, if_true, if_false, zU_eq, zU_ne, Nat.add_zero, pk_mul, Nat.lt_irrefl]
  · exact SimH_sh hz s1 (fun f i j a _ => zU_ne _ _ (by omega)) (fun i _ => rfl) (s1.2.2.2.1.congr p6 (fun f j a => zU_ne _ _ (by omega)) (fun i _ => rfl))
theorem EndsL_single {S W c cause : Nat} {tries : Int32} {m m' : Rw} (hc : c < 4) (h : EndsR S W c cause tries m m') : ∀ n, n ≤ 4 → EndsL S W cause tries (2 ^ c) n m (if c < n then m' else m) := by
  intro n
  induction n with
  | zero => intro _; exact rfl
  | succ n ih =>
    intro hn
    have i := ih (by omega)
    rcases Nat.lt_trichotomy c n with z | z | z
    · rw [if_pos z] at i
      rw [if_pos (by omega)]
      exact ⟨m', i, Or.inr ⟨by rw [Nat.testBit_two_pow]; simp; omega, rfl⟩⟩
    · subst z
      rw [if_neg (by omega)] at i
      rw [if_pos (by omega)]
      exact ⟨m, i, Or.inl ⟨by rw [Nat.testBit_two_pow]; simp, h⟩⟩
    · rw [if_neg (by omega)] at i
      rw [if_neg (by omega)]
      exact ⟨m, i, Or.inr ⟨by rw [Nat.testBit_two_pow]; simp; omega, rfl⟩⟩
theorem bitc_eq : ∀ c, c < 4 → nI 1 <<< (nI c &&& 31) = nI (2 ^ c) := by decide +kernel
theorem pow_lt16 : ∀ c, c < 4 → 2 ^ c < 16 := by decide
theorem c_endOne {S W PL NC r c cause : Nat} {g : zG} {m m' : Rw} (hz : Siz4 S W PL NC) (h : Sim S W PL NC r g m) (hp : PI S W PL NC m) (hc : c < NC) (hk : cause < 4) (he : EndsR S W c cause (g 9003 r 0) m m') :
    ∃ g', X3_endTries r (nI 1 <<< (nI c &&& 31)) (nI cause) g = some (0, g') ∧ Sim S W PL NC r g' m' ∧ FrC r g g' ∧ g' 12003 r 0 = g 12003 r 0 ||| nI (2 ^ c) := by
  have hc4 : c < 4 := by have := hz.2.2.2.2.2.2.2; omega
  have e := EndsL_single hc4 he NC hz.2.2.2.2.2.2.2
  rw [if_pos hc] at e
  rw [bitc_eq c hc4]
  exact c_endTries hz h hp hk (pow_lt16 c hc4) (fun j hj => by
    rw [Nat.testBit_two_pow] at hj
    have : c = j := by simpa using hj
    omega) e
