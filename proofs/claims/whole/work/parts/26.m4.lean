/-! ===== room for a line, the others, a line comes ===== -/
def sbet (m : Rw) (p : Nat → Nat) (k : Nat) : Option Nat → Bool
  | none => true
  | some j => decide (m (p k + 4) < m (p j + 4))
def sroom (m : Rw) (p : Nat → Nat) : Nat → Nat → Option Nat → Option Nat
  | 0, _, best => best
  | n + 1, k, best => if m (p k) = -2 then some k else if m (p k + 2) = 0 ∧ m (p k + 3) = 0 ∧ sbet m p k best = true then sroom m p n (k + 1) (some k) else sroom m p n (k + 1) best
def posQ (c s : Nat) : Option Nat → Int32
  | none => -1
  | some w => nI (pos c s w)
theorem X7_room_ok {S W PL NC : Nat} {g : zG} (hP : MPar S W PL NC g) {c ℓ : Nat} (hc : c < 4) (hℓ : ℓ ≤ 16) : X7_room (nI c) (nI ℓ) g = some (posQ c (ℓ % S) (sroom (g 43 0) (pos c (ℓ % S)) W 0 none), g) := by
  obtain ⟨⟨p1, p2, p3, p4, p5, p6, p7, p8⟩, q1, q2, q3, q4⟩ := hP
  have hm : ℓ % S < S := Nat.mod_lt _ p1
  unfold X7_room
  have key : ∀ d n i best, i + d = W → d < n → (∀ j, best = some j → j < W) → X7_room_l5 n (nI c) (nI ℓ) (posQ c (ℓ % S) best) (nI i) g = some (posQ c (ℓ % S) (sroom (g 43 0) (pos c (ℓ % S)) d i best), g) := by
    intro d
    induction d with
    | zero =>
      intro n i best h1 h2 _
      obtain ⟨n, rfl⟩ : ∃ k, n = k + 1 := ⟨n - 1, by omega⟩
      have : i = W := by omega
      subst this
      rw [X7_room_l5.eq_2]
      simp (disch := omega) only [zc_some, zw_eq, zi_nI, nI_clamp, nI_add, nI_1, nI_lti, nI_inj, nI_ltz, nI_eq0, nI_0lt, nI_ne_m1, nI_ne_m2, nI_m1_ne, nI_m2_ne, if_true, if_false, zU_eq, zU_ne, Nat.add_zero, pk_mul, q2, Nat.lt_irrefl]
      rfl
    | succ d ih =>
      intro n i best h1 h2 hbst
      obtain ⟨n, rfl⟩ : ∃ k, n = k + 1 := ⟨n - 1, by omega⟩
      have hi : i < W := by omega
      have hp := pos_lt hc (show ℓ % S < 4 by omega) (show i < 17 by omega)
      have ih1 : X7_room_l5 n (nI c) (nI ℓ) (nI (pos c (ℓ % S) i)) (nI (i + 1)) g = some (posQ c (ℓ % S) (sroom (g 43 0) (pos c (ℓ % S)) d (i + 1) (some i)), g) := ih n (i + 1) (some i) (by omega) (by omega) (fun j hj => by cases hj; exact hi)
      have ih2 := ih n (i + 1) best (by omega) (by omega) hbst
      rw [X7_room_l5.eq_2]
      simp (disch := omega) only [zc_some, zw_eq, zi_nI, nI_clamp, nI_add, nI_1, nI_lti, nI_inj, nI_ltz, nI_eq0, nI_0lt, nI_ne_m1, nI_ne_m2, nI_m1_ne, nI_m2_ne, if_true, if_false, zU_eq, zU_ne, Nat.add_zero, pk_mul, q1, q2, hi, pk_rem, X7_placeAt_ok, X7_room_b99, X7_room_b96, show ¬ S = 0 by omega, ih1, ih2]
      rw [sroom]
      by_cases e0 : g 43 0 (pos c (ℓ % S) i) = -2
      · rw [if_pos e0, if_pos e0]; rfl
      · rw [if_neg e0, if_neg e0]
        by_cases e2 : g 43 0 (pos c (ℓ % S) i + 2) = 0
        · by_cases e3 : g 43 0 (pos c (ℓ % S) i + 3) = 0
          · rw [if_pos e2, if_pos e3]
            cases best with
            | none =>
              rw [if_pos (show posQ c (ℓ % S) none = -1 from rfl), if_pos ⟨e2, e3, rfl⟩]
            | some j =>
              have hpj := pos_lt hc (show ℓ % S < 4 by omega) (show j < 17 by have := hbst j rfl; omega)
              simp only [posQ]
              simp (disch := omega) only [zc_some, zw_eq, zi_nI, nI_clamp, nI_add, nI_1, nI_lti, nI_inj, nI_ltz, nI_eq0, nI_0lt, nI_ne_m1, nI_ne_m2, nI_m1_ne, nI_m2_ne, if_true, if_false, zU_eq, zU_ne, Nat.add_zero, pk_mul]
              by_cases e4 : g 43 0 (pos c (ℓ % S) i + 4) < g 43 0 (pos c (ℓ % S) j + 4)
              · rw [if_pos e4, if_pos ⟨e2, e3, by simp [sbet, e4]⟩]
              · rw [if_neg e4, if_neg (fun z => e4 (by simpa [sbet] using z.2.2))]
                try rfl
          · rw [if_pos e2, if_neg e3, if_neg (fun z => e3 z.2.1)]
        · rw [if_neg e2, if_neg (fun z => e2 z.1)]
  exact key W zfuel 0 none (by omega) (zfuel_ge (by omega)) (fun j hj => by cases hj)
/-- one other core's part when a line is seen or owned -/
def OthQ (PL : Nat) (owns : Bool) (q : Nat) (m m' : Rw) : Prop :=
  ∃ m2, m2 = (if m (q + 1) = nI 3 then rWB PL m q else m) ∧ m' = (if owns = true then upd (rEmp m2 q) 3 (rEmp m2 q 3 + nI 1) else upd m2 (q + 1) (nI 1))
def OthR (S W PL c ℓ : Nat) (owns : Bool) : Nat → Rw → Bool → Rw → Prop
  | 0, m, h, m' => h = false ∧ m' = m
  | n + 1, m, h, m' => ∃ m1 h1, OthR S W PL c ℓ owns n m h1 m1 ∧
      ((n = c ∧ h = h1 ∧ m' = m1) ∨
       (n ≠ c ∧ FindR S W m1 n ℓ none ∧ h = h1 ∧ m' = m1) ∨
       (n ≠ c ∧ ∃ w, FindR S W m1 n ℓ (some w) ∧ h = (if owns = true then h1 else true) ∧ OthQ PL owns (pos n (ℓ % S) w) m1 m'))
theorem X7_othersHave_ok {S W PL NC : Nat} {g : zG} (hP : MPar S W PL NC g) {c ℓ : Nat} (hc : c < 4) (hℓ : ℓ ≤ 16) (b : Bool) : ∃ g' h, X7_othersHave (nI c) (nI ℓ) (bI b) g = some (bI h, g') ∧ OthR S W PL c ℓ b NC (g 43 0) h (g' 43 0) ∧ FrN g g' := by
  obtain ⟨⟨p1, p2, p3, p4, p5, p6, p7, p8⟩, q1, q2, q3, q4⟩ := id hP
  have hm : ℓ % S < S := Nat.mod_lt _ p1
  unfold X7_othersHave
  refine loopM (σ := Nat × Bool × zG) (fun n s => X7_othersHave_l6 n (nI c) (nI ℓ) (bI b) (bI s.2.1) (nI s.1) s.2.2) (fun s => s.1 ≤ NC ∧ OthR S W PL c ℓ b s.1 (g 43 0) s.2.1 (s.2.2 43 0) ∧ FrN g s.2.2) (fun s => NC - s.1) (fun o => ∃ g' h, o = some (bI h, g') ∧ OthR S W PL c ℓ b NC (g 43 0) h (g' 43 0) ∧ FrN g g') ?_ zfuel (0, false, g) ⟨Nat.zero_le _, ⟨rfl, rfl⟩, FrN.rfl' g⟩ ?_
  · rintro n ⟨i, hv, h⟩ ⟨h1, h2, h3⟩
    simp only at h1 h2 h3
    have a1 : h 31 0 5 = nI NC := by rw [h3 _ _ _ (by decide)]; exact q4
    have hPh := hP.fr h3.M
    by_cases hi : i < NC
    · left
      by_cases e : i = c
      · subst e
        refine ⟨(i + 1, hv, h), ⟨hi, ⟨_, _, h2, Or.inl ⟨rfl, rfl, rfl⟩⟩, h3⟩, by simp only; omega, ?_⟩
        rw [X7_othersHave_l6.eq_2]
        simp (disch := omega) only [zc_some, zw_eq, zi_nI, nI_clamp, nI_add, nI_1, nI_lti, nI_inj, nI_ltz, nI_eq0, nI_0lt, nI_ne_m1, nI_ne_m2, nI_m1_ne, nI_m2_ne, if_true, if_false, zU_eq, zU_ne, Nat.add_zero, pk_mul, a1, hi, X7_othersHave_b34, X7_othersHave_b100]
        try simp only [if_true]
      · obtain ⟨oo, k1, k2⟩ := X7_findR hPh (show i < 4 by omega) hℓ
        cases oo with
        | none =>
          refine ⟨(i + 1, hv, h), ⟨hi, ⟨_, _, h2, Or.inr (Or.inl ⟨e, k1, rfl, rfl⟩)⟩, h3⟩, by simp only; omega, ?_⟩
          rw [X7_othersHave_l6.eq_2]
          simp (disch := omega) only [zc_some, zw_eq, zi_nI, nI_clamp, nI_add, nI_1, nI_lti, nI_inj, nI_ltz, nI_eq0, nI_0lt, nI_ne_m1, nI_ne_m2, nI_m1_ne, nI_m2_ne, if_true, if_false, zU_eq, zU_ne, Nat.add_zero, pk_mul, a1, hi, e, k2, X7_othersHave_b34, X7_othersHave_b100, posO]
          try simp only [if_true]
        | some w =>
          have hw : w < W := k1.1
          have hp := pos_lt (show i < 4 by omega) (show ℓ % S < 4 by omega) (show w < 17 by omega)
          have hp0 := pos_ge i (ℓ % S) w
          obtain ⟨g2, j1, j2, j3⟩ := X7_writesBack_ok hPh hp hp0 k1.2.1 hℓ
          obtain ⟨g3, e3, f3, r3⟩ : ∃ g3, (if h 43 0 (pos i (ℓ % S) w + 1) = nI 3 then rWB PL (h 43 0) (pos i (ℓ % S) w) else h 43 0) = g3 43 0 ∧ FrN g g3 ∧ (∀ K : zG → zR0, (if h 43 0 (pos i (ℓ % S) w + 1) = nI 3 then zc (X7_writesBack (nI (pos i (ℓ % S) w)) h) (fun x1 g2 => K g2) else K h) = K g3) := by
            by_cases z : h 43 0 (pos i (ℓ % S) w + 1) = nI 3
            · exact ⟨g2, by rw [if_pos z, j2], h3.trans j3, fun K => by rw [if_pos z, j1]; rfl⟩
            · exact ⟨h, by rw [if_neg z], h3, fun K => by rw [if_neg z]⟩
          cases b with
          | false =>
            refine ⟨(i + 1, true, zU g3 43 0 (pos i (ℓ % S) w + 1) (nI 1)), ⟨hi, ⟨_, _, h2, Or.inr (Or.inr ⟨e, w, k1, rfl, _, rfl, ?_⟩)⟩, f3.row _ _⟩, by simp only; omega, ?_⟩
            · rw [e3]; show zU g3 43 0 _ _ 43 0 = _; rw [zU_row]; rfl
            · rw [X7_othersHave_l6.eq_2]
              simp (disch := omega) only [zc_some, zw_eq, zi_nI, nI_clamp, nI_add, nI_1, nI_lti, nI_inj, nI_ltz, nI_eq0, nI_0lt, nI_ne_m1, nI_ne_m2, nI_m1_ne, nI_m2_ne, if_true, if_false, zU_eq, zU_ne, Nat.add_zero, pk_mul, a1, hi, e, k2, X7_othersHave_b34, posO, r3]
              unfold X7_othersHave_b64
              simp (disch := omega) only [zc_some, zw_eq, zi_nI, nI_clamp, nI_add, nI_1, nI_lti, nI_inj, nI_ltz, nI_eq0, nI_0lt, nI_ne_m1, nI_ne_m2, nI_m1_ne, nI_m2_ne, if_true, if_false, zU_eq, zU_ne, Nat.add_zero, pk_mul, X7_othersHave_b100, bI0]
              try rfl
          | true =>
            refine ⟨(i + 1, hv, zU (sEmp g3 (pos i (ℓ % S) w)) 43 0 3 (sEmp g3 (pos i (ℓ % S) w) 43 0 3 + nI 1)), ⟨hi, ⟨_, _, h2, Or.inr (Or.inr ⟨e, w, k1, rfl, _, rfl, ?_⟩)⟩, ((sEmp_fr g3 _).trans' f3).row _ _⟩, by simp only; omega, ?_⟩
            · rw [e3]; show zU (sEmp g3 _) 43 0 3 _ 43 0 = _; rw [zU_row, sEmp_row]; rfl
            · rw [X7_othersHave_l6.eq_2]
              simp (disch := omega) only [zc_some, zw_eq, zi_nI, nI_clamp, nI_add, nI_1, nI_lti, nI_inj, nI_ltz, nI_eq0, nI_0lt, nI_ne_m1, nI_ne_m2, nI_m1_ne, nI_m2_ne, if_true, if_false, zU_eq, zU_ne, Nat.add_zero, pk_mul, a1, hi, e, k2, X7_othersHave_b34, posO, r3]
              unfold X7_othersHave_b64
              simp (disch := omega) only [zc_some, zw_eq, zi_nI, nI_clamp, nI_add, nI_1, nI_lti, nI_inj, nI_ltz, nI_eq0, nI_0lt, nI_ne_m1, nI_ne_m2, nI_m1_ne, nI_m2_ne, if_true, if_false, zU_eq, zU_ne, Nat.add_zero, pk_mul, X7_othersHave_b100, X7_empties_ok, bI1, show ¬ (1 = 0) by omega]
    · right
      have hie : i = NC := by omega
      subst hie
      refine ⟨h, hv, ?_, h2, h3⟩
      rw [X7_othersHave_l6.eq_2]
      simp (disch := omega) only [zc_some, zw_eq, zi_nI, nI_clamp, nI_add, nI_1, nI_lti, nI_inj, nI_ltz, nI_eq0, nI_0lt, nI_ne_m1, nI_ne_m2, nI_m1_ne, nI_m2_ne, if_true, if_false, zU_eq, zU_ne, Nat.add_zero, pk_mul, a1, Nat.lt_irrefl]
      cases hv <;> rfl
  · simp only; exact zfuel_ge (by omega)
