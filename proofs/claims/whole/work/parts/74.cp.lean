/-! ===== waysFor: words and marks of a core alone ===== -/
def WSy (S W PL c : Nat) (m : Rw) (t : Nat → Nat) : Prop :=
  (∀ ℓ w k, ℓ < 16 → w < W → k < PL → m (pos c (ℓ % S) w) = nI ℓ → m (pos c (ℓ % S) w + 5 + k) = nI (t (PL * ℓ + k))) ∧
  (∀ ℓ k, ℓ < 16 → k < PL → (∀ w, w < W → m (pos c (ℓ % S) w) = nI ℓ → m (pos c (ℓ % S) w + 1) ≠ nI 3) → m (254 + PL * ℓ + k) = nI (t (PL * ℓ + k)))
def MkS (S W c : Nat) (m : Rw) (T : Nat) : Prop := ∀ ℓ, ℓ ≤ 16 → (T.testBit ℓ = true ↔ ∃ w, w < W ∧ m (pos c (ℓ % S) w) = nI ℓ ∧ (m (pos c (ℓ % S) w + 2) = nI 1 ∨ m (pos c (ℓ % S) w + 3) = nI 1))
theorem adr_inj {PL a b j k : Nat} (hj : j < PL) (hk : k < PL) (h : PL * a + j = PL * b + k) : a = b ∧ j = k := by
  rw [Nat.mul_comm PL a, Nat.mul_comm PL b] at h
  exact pl_inj hj hk h
theorem rWB_mem {PL : Nat} {m : Rw} {a ℓ0 : Nat} (hPL : PL ≤ 4) (hl : m a = nI ℓ0) (h16 : ℓ0 < 16) {ℓ k : Nat} (hℓ : ℓ < 16) (hk : k < PL) : rWB PL m a (254 + PL * ℓ + k) = if ℓ = ℓ0 then m (a + 5 + k) else m (254 + PL * ℓ + k) := by
  have hcl : (m a).toNatClampNeg = ℓ0 := by rw [hl]; exact nI_clamp (by omega)
  unfold rWB
  rw [hcl]
  by_cases e : ℓ = ℓ0
  · subst e
    rw [if_pos rfl, if_pos ⟨by rw [hl, ne_eq, nI_inj (by omega) (by omega)]; omega, by omega, by omega⟩]
    congr 1; omega
  · rw [if_neg e, if_neg, if_neg (by omega)]
    rintro ⟨-, b, d⟩
    have := (adr_inj (PL := PL) (a := ℓ) (b := ℓ0) (j := k) (k := PL * ℓ + k - PL * ℓ0) hk (by omega) (by omega)).1
    exact e this
/-- places and memory alike: the words and marks as well -/
theorem WSy_low {S W PL c : Nat} {m m' : Rw} {t : Nat → Nat} (h : WSy S W PL c m t) (e : ∀ i, 254 ≤ i → m' i = m i) : WSy S W PL c m' t := by
  have ge := pos_ge
  refine ⟨fun ℓ w k a b d x => ?_, fun ℓ k a b x => ?_⟩
  · rw [e _ (by have := ge c (ℓ % S) w; omega)] at x
    rw [e _ (by have := ge c (ℓ % S) w; omega)]
    exact h.1 ℓ w k a b d x
  · rw [e _ (by omega)]
    refine h.2 ℓ k a b (fun w hw y => ?_)
    have := x w hw
    rw [e _ (by have := ge c (ℓ % S) w; omega), e _ (by have := ge c (ℓ % S) w; omega)] at this
    exact this y
theorem MkS_low {S W c T : Nat} {m m' : Rw} (h : MkS S W c m T) (e : ∀ i, 254 ≤ i → m' i = m i) : MkS S W c m' T := by
  have ge := pos_ge
  intro ℓ hℓ
  rw [h ℓ hℓ]
  constructor
  · rintro ⟨w, a, b, d⟩
    refine ⟨w, a, ?_⟩
    rw [e _ (by have := ge c (ℓ % S) w; omega), e _ (by have := ge c (ℓ % S) w; omega), e _ (by have := ge c (ℓ % S) w; omega)]
    exact ⟨b, d⟩
  · rintro ⟨w, a, b⟩
    refine ⟨w, a, ?_⟩
    rw [e _ (by have := ge c (ℓ % S) w; omega), e _ (by have := ge c (ℓ % S) w; omega), e _ (by have := ge c (ℓ % S) w; omega)] at b
    exact b
/-- a line comes to a core alone -/
theorem Brg_sync {S W PL NC c ℓ w T : Nat} {tries : Int32} {b : Bool} {m m' : Rw} {t : Nat → Nat} (hz : Siz S W PL NC) (hc : c < NC) (hℓ : ℓ ≤ 16) (h0 : Oth0 S W NC c m) (hp : PI S W PL NC m) (h : BrgR S W PL NC tries c ℓ b m (some w) m') :
    w < W ∧ m' (pos c (ℓ % S) w) = nI ℓ ∧ (b = true → m' (pos c (ℓ % S) w + 1) = nI 3) ∧ (∀ i, i < 254 → i ≠ 1 → i ≠ 2 → i ≠ 3 → m' i = m i) ∧ Oth0 S W NC c m' ∧ (WSy S W PL c m t → WSy S W PL c m' t) ∧ (MkS S W c m T → MkS S W c m' T) := by
  obtain ⟨p1, p2, p3, p4, p5, p6, p7, p8⟩ := id hz
  obtain ⟨hw, hl⟩ := BrgR_line ⟨p1, p2⟩ p4 p6 hℓ p8 hc h
  have hs : ℓ % S < S := Nat.mod_lt _ p1
  have ga := pos_ge c (ℓ % S) w
  have low : ∀ i, i < 254 → i ≠ 1 → i ≠ 2 → i ≠ 3 → m' i = m i := fun i a b d e => BrgR_low hz hc hℓ hp.lok h a b d e
  refine ⟨hw, hl, ?_, low, ?_⟩
  · intro hb
    rcases Brg_solo hz hc hℓ h0 hp h with ⟨z, -⟩ | ⟨w', z, -, -, -, he⟩ | ⟨w', z, -, -, he⟩
    · cases z
    · cases z
      rw [he, (@rBr_at PL ℓ (pos c (ℓ % S) w) b false (mWB PL m (pos c (ℓ % S) w)) ga).2.1, if_pos hb]
    · cases z
      rw [he, hb]
      unfold rUse
      try dsimp only
      rw [upd_ne (by omega), if_pos rfl, upd_eq rfl]
  rcases Brg_solo hz hc hℓ h0 hp h with ⟨z, -⟩ | ⟨w', z, -, hnf, hsr, he⟩ | ⟨w', z, -, hf, he⟩
  · cases z
  · -- the line comes
    cases z
    obtain ⟨t0, t1, t2, t3, t4, t5, t6⟩ := @rBr_at PL ℓ (pos c (ℓ % S) w) b false (mWB PL m (pos c (ℓ % S) w)) ga
    rw [← he] at t0 t1 t2 t3 t4 t5 t6
    -- what lies above memory is as it was
    have hW : ∀ i, 318 ≤ i → mWB PL m (pos c (ℓ % S) w) i = m i := fun i hi => by
      unfold mWB
      split
      · next z =>
        obtain ⟨ℓ', l1, -, l3⟩ := (hp.lok c (ℓ % S) w hc hs hw).resolve_left z.1
        exact rWB_low p6 ⟨ℓ', l1, l3⟩ (by omega) (by omega)
      · rfl
    have out : ∀ i, 254 ≤ i → (∀ f, f < 9 → i ≠ pos c (ℓ % S) w + f) → m' i = mWB PL m (pos c (ℓ % S) w) i := fun i hi hf => by
      rw [t6 i hf p6, upd_ne (by omega)]
    have oth : ∀ o s w2 f, s < 4 → w2 < 17 → f < 9 → ¬ (o = c ∧ s = ℓ % S ∧ w2 = w) → m' (pos o s w2 + f) = m (pos o s w2 + f) := fun o s w2 f a1 a2 a3 a4 => by
      have := pos_ge o s w2
      rw [out _ (by omega) (fun f' hf' z => ?_), hW _ (by omega)]
      have := pos_inj a1 (by omega) a2 (by omega) a3 hf' z
      exact a4 ⟨this.1, this.2.1, this.2.2.1⟩
    have oth0 : ∀ o s w2, s < 4 → w2 < 17 → ¬ (o = c ∧ s = ℓ % S ∧ w2 = w) → m' (pos o s w2) = m (pos o s w2) := fun o s w2 a1 a2 a4 => by
      have := oth o s w2 0 a1 a2 (by omega) a4
      rwa [Nat.add_zero] at this
    have mem : ∀ i, 254 ≤ i → i < 318 → m' i = mWB PL m (pos c (ℓ % S) w) i := fun i a d => out i a (fun f _ => by omega)
    refine ⟨fun o s w2 a1 a2 a3 a4 => ?_, fun hWS => ?_, fun hMk => ?_⟩
    · rw [oth0 o s w2 (by omega) (by omega) (fun z => a2 z.1)]; exact h0 o s w2 a1 a2 a3 a4
    · -- memory behind the writing back
      have ml : ∀ ℓ' k, ℓ' < 16 → k < PL → 254 + PL * ℓ' + k < 318 := fun ℓ' k a d => by have := mul_le_64 p6 a; omega
      have M1 : ∀ ℓ' k, ℓ' < 16 → k < PL → (∀ w, w < W → m (pos c (ℓ' % S) w) = nI ℓ' → m (pos c (ℓ' % S) w + 1) ≠ nI 3) → mWB PL m (pos c (ℓ % S) w) (254 + PL * ℓ' + k) = nI (t (PL * ℓ' + k)) := fun ℓ' k a d x => by
        unfold mWB
        split
        · next z =>
          obtain ⟨ℓ0, l1, l2, l3⟩ := (hp.lok c (ℓ % S) w hc hs hw).resolve_left z.1
          by_cases e16 : ℓ0 = 16
          · rw [show rWB PL m (pos c (ℓ % S) w) (254 + PL * ℓ' + k) = m (254 + PL * ℓ' + k) by
              unfold rWB
              rw [if_neg (fun y => y.1 (by rw [l3, e16])), if_neg (by omega)]]
            exact hWS.2 ℓ' k a d x
          · rw [rWB_mem p6 l3 (by omega) a d]
            by_cases e : ℓ' = ℓ0
            · rw [if_pos e]
              have := hWS.1 ℓ0 w k (by omega) hw d (by rw [l2]; exact l3)
              rw [l2] at this
              rw [this, e]
            · rw [if_neg e]; exact hWS.2 ℓ' k a d x
        · exact hWS.2 ℓ' k a d x
      have M2 : ∀ ℓ0 k, ℓ0 < 16 → k < PL → m (pos c (ℓ % S) w) = nI ℓ0 → ℓ0 % S = ℓ % S → mWB PL m (pos c (ℓ % S) w) (254 + PL * ℓ0 + k) = nI (t (PL * ℓ0 + k)) := fun ℓ0 k a d x y => by
        by_cases z : m (pos c (ℓ % S) w + 1) = nI 3
        · have z' : m (pos c (ℓ % S) w) ≠ -2 := ne_m2_of x (by omega)
          unfold mWB
          rw [if_pos ⟨z', z⟩, rWB_mem p6 x a a d, if_pos rfl]
          have := hWS.1 ℓ0 w k a hw d (by rw [y]; exact x)
          rw [y] at this
          exact this
        · refine M1 ℓ0 k a d (fun w2 hw2 e => ?_)
          rw [y] at e ⊢
          have := hp.one c (ℓ % S) w2 w hc hs hw2 hw (ne_m2_of e (by omega)) (e.trans x.symm)
          rw [this]; exact z
      refine ⟨fun ℓ' w2 k a d x e => ?_, fun ℓ' k a d x => ?_⟩
      · have hs' : ℓ' % S < S := Nat.mod_lt _ p1
        by_cases z : ℓ' % S = ℓ % S ∧ w2 = w
        · rw [z.1, z.2] at e ⊢
          rw [t0, nI_inj (by omega) (by omega)] at e
          subst e
          rw [t5 k x p6 (by omega)]
          exact M1 ℓ k a x (fun w3 hw3 y => absurd y (hnf w3 hw3))
        · rw [oth0 c _ w2 (by omega) (by omega) (fun y => z ⟨y.2.1, y.2.2⟩)] at e
          rw [Nat.add_assoc, oth c _ w2 (5 + k) (by omega) (by omega) (by omega) (fun y => z ⟨y.2.1, y.2.2⟩), ← Nat.add_assoc]
          exact hWS.1 ℓ' w2 k a d x e
      · have hs' : ℓ' % S < S := Nat.mod_lt _ p1
        rw [mem _ (by omega) (ml ℓ' k a d)]
        by_cases z : m (pos c (ℓ % S) w) = nI ℓ' ∧ ℓ' % S = ℓ % S
        · exact M2 ℓ' k a d z.1 z.2
        · refine M1 ℓ' k a d (fun w2 hw2 e => ?_)
          have ne : ¬ (ℓ' % S = ℓ % S ∧ w2 = w) := fun y => z ⟨by rw [← y.1, ← y.2]; exact e, y.1⟩
          have := x w2 hw2
          rw [oth0 c _ w2 (by omega) (by omega) (fun y => ne ⟨y.2.1, y.2.2⟩), oth c _ w2 1 (by omega) (by omega) (by omega) (fun y => ne ⟨y.2.1, y.2.2⟩)] at this
          exact this e
    · intro ℓ' hℓ'
      have hs' : ℓ' % S < S := Nat.mod_lt _ p1
      have sp := (sroom_spec (m := m) (p := pos c (ℓ % S)) W 0 none (fun j hj => by cases hj)).1 w hsr
      rw [hMk ℓ' hℓ']
      constructor
      · rintro ⟨w2, a, d, x⟩
        have ne : ¬ (ℓ' % S = ℓ % S ∧ w2 = w) := fun y => by
          rw [y.1, y.2] at d x
          rcases sp with q | ⟨q1, q2⟩
          · rw [q] at d; exact absurd d.symm (by rw [nI_ne_m2 (by omega)]; exact id)
          · rcases x with x | x
            · rw [q1] at x; exact absurd x (by decide)
            · rw [q2] at x; exact absurd x (by decide)
        refine ⟨w2, a, ?_⟩
        rw [oth0 c _ w2 (by omega) (by omega) (fun y => ne ⟨y.2.1, y.2.2⟩), oth c _ w2 2 (by omega) (by omega) (by omega) (fun y => ne ⟨y.2.1, y.2.2⟩), oth c _ w2 3 (by omega) (by omega) (by omega) (fun y => ne ⟨y.2.1, y.2.2⟩)]
        exact ⟨d, x⟩
      · rintro ⟨w2, a, d, x⟩
        have ne : ¬ (ℓ' % S = ℓ % S ∧ w2 = w) := fun y => by
          rw [y.1, y.2, t2, t3, nI_inj (by omega) (by omega)] at x
          omega
        refine ⟨w2, a, ?_⟩
        rw [oth0 c _ w2 (by omega) (by omega) (fun y => ne ⟨y.2.1, y.2.2⟩)] at d
        rw [oth c _ w2 2 (by omega) (by omega) (by omega) (fun y => ne ⟨y.2.1, y.2.2⟩), oth c _ w2 3 (by omega) (by omega) (by omega) (fun y => ne ⟨y.2.1, y.2.2⟩)] at x
        exact ⟨d, x⟩
  · -- it is there
    cases z
    have out : ∀ i, i ≠ pos c (ℓ % S) w + 1 → i ≠ pos c (ℓ % S) w + 4 → m' i = m i := fun i a d => by
      rw [he]
      unfold rUse
      try dsimp only
      rw [upd_ne d]
      split
      · rw [upd_ne a]
      · rfl
    have c1 : ∀ o s w2 f, s < 4 → w2 < 17 → f < 9 → f ≠ 1 → f ≠ 4 → m' (pos o s w2 + f) = m (pos o s w2 + f) := fun o s w2 f a1 a2 a3 a4 a5 => out _ (fun z => a4 (pos_inj a1 (by omega) a2 (by omega) a3 (by omega) z).2.2.2) (fun z => a5 (pos_inj a1 (by omega) a2 (by omega) a3 (by omega) z).2.2.2)
    have c0 : ∀ o s w2, s < 4 → w2 < 17 → m' (pos o s w2) = m (pos o s w2) := fun o s w2 a1 a2 => by
      have := c1 o s w2 0 a1 a2 (by omega) (by omega) (by omega)
      rwa [Nat.add_zero] at this
    refine ⟨fun o s w2 a1 a2 a3 a4 => ?_, fun hWS => ⟨fun ℓ' w2 k a d x e => ?_, fun ℓ' k a d x => ?_⟩, fun hMk ℓ' hℓ' => ?_⟩
    · rw [c0 o s w2 (by omega) (by omega)]; exact h0 o s w2 a1 a2 a3 a4
    · have hs' : ℓ' % S < S := Nat.mod_lt _ p1
      rw [c0 c _ w2 (by omega) (by omega)] at e
      rw [Nat.add_assoc, c1 c _ w2 (5 + k) (by omega) (by omega) (by omega) (by omega) (by omega), ← Nat.add_assoc]
      exact hWS.1 ℓ' w2 k a d x e
    · have hs' : ℓ' % S < S := Nat.mod_lt _ p1
      have := mul_le_64 p6 a
      rw [out _ (by omega) (by omega)]
      refine hWS.2 ℓ' k a d (fun w2 hw2 e y => ?_)
      refine x w2 hw2 (by rw [c0 c _ w2 (by omega) (by omega)]; exact e) ?_
      by_cases q : pos c (ℓ' % S) w2 + 1 = pos c (ℓ % S) w + 1
      · rw [he]
        unfold rUse
        try dsimp only
        rw [upd_ne (by omega)]
        split
        · rw [upd_eq q]
        · exact y
      · rw [out _ q (fun z => by
          have := (pos_inj (by omega) (by omega) (by omega) (by omega) (by omega) (by omega) z).2.2.2
          omega)]
        exact y
    · have hs' : ℓ' % S < S := Nat.mod_lt _ p1
      rw [hMk ℓ' hℓ']
      constructor
      · rintro ⟨w2, a, d, x⟩
        refine ⟨w2, a, ?_⟩
        rw [c0 c _ w2 (by omega) (by omega), c1 c _ w2 2 (by omega) (by omega) (by omega) (by omega) (by omega), c1 c _ w2 3 (by omega) (by omega) (by omega) (by omega) (by omega)]
        exact ⟨d, x⟩
      · rintro ⟨w2, a, d⟩
        refine ⟨w2, a, ?_⟩
        rw [c0 c _ w2 (by omega) (by omega), c1 c _ w2 2 (by omega) (by omega) (by omega) (by omega) (by omega), c1 c _ w2 3 (by omega) (by omega) (by omega) (by omega) (by omega)] at d
        exact d
/-- a mark set where the line lies -/
theorem MkS_set {S W PL NC c ℓ w f T : Nat} {m : Rw} (hz : Siz S W PL NC) (hc : c < NC) (hp : PI S W PL NC m) (hℓ : ℓ ≤ 16) (hw : w < W) (hf : f = 2 ∨ f = 3) (hl : m (pos c (ℓ % S) w) = nI ℓ) (h : MkS S W c m T) : MkS S W c (upd m (pos c (ℓ % S) w + f) (nI 1)) (T ||| 2 ^ ℓ) := by
  obtain ⟨p1, p2, p3, p4, p5, p6, p7, p8⟩ := id hz
  have hs : ℓ % S < S := Nat.mod_lt _ p1
  intro ℓ' hℓ'
  have hs' : ℓ' % S < S := Nat.mod_lt _ p1
  have l0 : ∀ w2, w2 < W → upd m (pos c (ℓ % S) w + f) (nI 1) (pos c (ℓ' % S) w2) = m (pos c (ℓ' % S) w2) := fun w2 hw2 => upd_ne (fun z => by
    have := (pos_inj (c := c) (s := ℓ' % S) (w := w2) (f := 0) (c' := c) (s' := ℓ % S) (w' := w) (f' := f) (by omega) (by omega) (by omega) (by omega) (by omega) (by omega) (by rw [Nat.add_zero]; exact z)).2.2.2
    omega)
  have mk : ∀ w2 f', w2 < W → (f' = 2 ∨ f' = 3) → ¬ (ℓ' % S = ℓ % S ∧ w2 = w ∧ f' = f) → upd m (pos c (ℓ % S) w + f) (nI 1) (pos c (ℓ' % S) w2 + f') = m (pos c (ℓ' % S) w2 + f') := fun w2 f' hw2 hf' ne => upd_ne (fun z => by
    have := pos_inj (by omega) (by omega) (by omega) (by omega) (by omega) (by omega) z
    exact ne ⟨this.2.1, this.2.2.1, this.2.2.2⟩)
  rw [or_bit, h ℓ' hℓ']
  constructor
  · rintro (⟨w2, a, d, x⟩ | rfl)
    · refine ⟨w2, a, by rw [l0 w2 a]; exact d, ?_⟩
      rcases x with x | x
      · by_cases q : ℓ' % S = ℓ % S ∧ w2 = w ∧ 2 = f
        · left; rw [q.1, q.2.1, q.2.2, upd_eq rfl]
        · left; rw [mk w2 2 a (Or.inl rfl) q]; exact x
      · by_cases q : ℓ' % S = ℓ % S ∧ w2 = w ∧ 3 = f
        · right; rw [q.1, q.2.1, q.2.2, upd_eq rfl]
        · right; rw [mk w2 3 a (Or.inr rfl) q]; exact x
    · refine ⟨w, hw, by rw [l0 w hw]; exact hl, ?_⟩
      rcases hf with rfl | rfl
      · left; rw [upd_eq rfl]
      · right; rw [upd_eq rfl]
  · rintro ⟨w2, a, d, x⟩
    rw [l0 w2 a] at d
    by_cases q : ℓ' % S = ℓ % S ∧ w2 = w
    · right
      rw [q.1, q.2, hl, nI_inj (by omega) (by omega)] at d
      exact d.symm
    · left
      rw [mk w2 2 a (Or.inl rfl) (fun y => q ⟨y.1, y.2.1⟩), mk w2 3 a (Or.inr rfl) (fun y => q ⟨y.1, y.2.1⟩)] at x
      exact ⟨w2, a, d, x⟩
/-- a mark changes no words -/
theorem WSy_mark {S W PL NC c s w f : Nat} {v : Int32} {m : Rw} {t : Nat → Nat} (hz : Siz S W PL NC) (hs : s < S) (hw : w < W) (hf : f = 2 ∨ f = 3) (h : WSy S W PL c m t) : WSy S W PL c (upd m (pos c s w + f) v) t := by
  obtain ⟨p1, p2, p3, p4, p5, p6, p7, p8⟩ := id hz
  have ga := pos_ge c s w
  have keep : ∀ s2 w2 f', s2 < 4 → w2 < 17 → f' < 9 → f' ≠ f → upd m (pos c s w + f) v (pos c s2 w2 + f') = m (pos c s2 w2 + f') := fun s2 w2 f' a d x y => upd_ne (fun z => y (pos_inj a (by omega) d (by omega) x (by omega) z).2.2.2)
  have keep0 : ∀ s2 w2, s2 < 4 → w2 < 17 → upd m (pos c s w + f) v (pos c s2 w2) = m (pos c s2 w2) := fun s2 w2 a d => by
    have := keep s2 w2 0 a d (by omega) (by omega)
    rwa [Nat.add_zero] at this
  refine ⟨fun ℓ w2 k a d x e => ?_, fun ℓ k a d x => ?_⟩
  · have hs' : ℓ % S < S := Nat.mod_lt _ p1
    rw [keep0 _ w2 (by omega) (by omega)] at e
    rw [Nat.add_assoc, keep _ w2 (5 + k) (by omega) (by omega) (by omega) (by omega), ← Nat.add_assoc]
    exact h.1 ℓ w2 k a d x e
  · have hs' : ℓ % S < S := Nat.mod_lt _ p1
    have := mul_le_64 p6 a
    rw [upd_ne (by omega)]
    refine h.2 ℓ k a d (fun w2 hw2 e => ?_)
    have := x w2 hw2
    rw [keep0 _ w2 (by omega) (by omega), keep _ w2 1 (by omega) (by omega) (by omega) (by omega)] at this
    exact this e
/-- a word put where the line lies, changed -/
theorem WSy_put {S W PL NC c ℓ w k v : Nat} {m : Rw} {t : Nat → Nat} (hz : Siz S W PL NC) (hc : c < NC) (hp : PI S W PL NC m) (hℓ : ℓ < 16) (hw : w < W) (hk : k < PL) (hl : m (pos c (ℓ % S) w) = nI ℓ) (h3 : m (pos c (ℓ % S) w + 1) = nI 3) (h : WSy S W PL c m t) : WSy S W PL c (upd m (pos c (ℓ % S) w + 5 + k) (nI v)) (fun i => if i = PL * ℓ + k then v else t i) := by
  obtain ⟨p1, p2, p3, p4, p5, p6, p7, p8⟩ := id hz
  have hs : ℓ % S < S := Nat.mod_lt _ p1
  have ga := pos_ge c (ℓ % S) w
  have keep : ∀ s2 w2 f', s2 < 4 → w2 < 17 → f' < 9 → ¬ (s2 = ℓ % S ∧ w2 = w ∧ f' = 5 + k) → upd m (pos c (ℓ % S) w + 5 + k) (nI v) (pos c s2 w2 + f') = m (pos c s2 w2 + f') := fun s2 w2 f' a d x y => upd_ne (fun z => by
    rw [Nat.add_assoc] at z
    have := pos_inj a (by omega) d (by omega) x (by omega) z
    exact y ⟨this.2.1, this.2.2.1, this.2.2.2⟩)
  have keep0 : ∀ s2 w2, s2 < 4 → w2 < 17 → upd m (pos c (ℓ % S) w + 5 + k) (nI v) (pos c s2 w2) = m (pos c s2 w2) := fun s2 w2 a d => by
    have := keep s2 w2 0 a d (by omega) (by omega)
    rwa [Nat.add_zero] at this
  have uni : ∀ w2, w2 < W → m (pos c (ℓ % S) w2) = nI ℓ → w2 = w := fun w2 a e => hp.one c _ w2 w hc hs a hw (ne_m2_of e (by omega)) (e.trans hl.symm)
  refine ⟨fun ℓ' w2 j a d x e => ?_, fun ℓ' j a d x => ?_⟩
  · have hs' : ℓ' % S < S := Nat.mod_lt _ p1
    rw [keep0 _ w2 (by omega) (by omega)] at e
    try dsimp only
    by_cases q : ℓ' = ℓ ∧ j = k
    · obtain ⟨rfl, rfl⟩ := q
      rw [uni w2 d e, upd_eq rfl, if_pos rfl]
    · rw [if_neg (fun y => q (adr_inj x hk y)), Nat.add_assoc (pos c (ℓ' % S) w2) 5 j, keep (ℓ' % S) w2 (5 + j) (by omega) (by omega) (by omega) (fun y => ?_), ← Nat.add_assoc]
      · exact h.1 ℓ' w2 j a d x e
      · rw [y.1, y.2.1, hl, nI_inj (by omega) (by omega)] at e
        exact q ⟨e.symm, by omega⟩
  · have hs' : ℓ' % S < S := Nat.mod_lt _ p1
    have := mul_le_64 p6 a
    have ne : ℓ' ≠ ℓ := fun y => by
      subst y
      refine x w hw (by rw [keep0 _ w (by omega) (by omega)]; exact hl) ?_
      rw [keep _ w 1 (by omega) (by omega) (by omega) (by omega)]
      exact h3
    try dsimp only
    rw [if_neg (fun y => ne (adr_inj d hk y).1), upd_ne (by omega)]
    refine h.2 ℓ' j a d (fun w2 hw2 e => ?_)
    have := x w2 hw2
    rw [keep0 _ w2 (by omega) (by omega), keep _ w2 1 (by omega) (by omega) (by omega) (by omega)] at this
    exact this e
/-- a changed line's words saved: nothing that was alike is lost -/
theorem WSy_WB {S W PL NC c ℓ w : Nat} {m : Rw} {t : Nat → Nat} (hz : Siz S W PL NC) (hℓ : ℓ < 16) (hw : w < W) (hl : m (pos c (ℓ % S) w) = nI ℓ) (h : WSy S W PL c m t) : WSy S W PL c (rWB PL m (pos c (ℓ % S) w)) t := by
  obtain ⟨p1, p2, p3, p4, p5, p6, p7, p8⟩ := id hz
  have hi : ∀ i, 318 ≤ i → rWB PL m (pos c (ℓ % S) w) i = m i := fun i a => rWB_low p6 ⟨ℓ, by omega, hl⟩ (by omega) (by omega)
  refine ⟨fun ℓ' w2 j a d x e => ?_, fun ℓ' j a d x => ?_⟩
  · have := pos_ge c (ℓ' % S) w2
    rw [hi _ (by omega)] at e
    rw [hi _ (by omega)]
    exact h.1 ℓ' w2 j a d x e
  · rw [rWB_mem p6 hl hℓ a d]
    by_cases q : ℓ' = ℓ
    · rw [if_pos q]
      subst q
      exact h.1 ℓ' w j a hw d hl
    · rw [if_neg q]
      refine h.2 ℓ' j a d (fun w2 hw2 e => ?_)
      have := pos_ge c (ℓ' % S) w2
      have := x w2 hw2
      rw [hi _ (by omega), hi _ (by omega)] at this
      exact this e
