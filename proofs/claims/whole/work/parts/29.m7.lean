/-! ===== a get, a put; a begin; an end; a step: of the reference ===== -/
theorem EndsR_out {S W c cause : Nat} {tries : Int32} {m m' : Rw} (hk : cause < 4) (h : EndsR S W c cause tries m m') {i : Nat} (hp : ∀ s w f, s < S → w < W → f < 5 → i ≠ pos c s w + f) (hcat : ∀ k, k < 14 → i ≠ cat c k) : m' i = m i := by
  obtain ⟨m1, h1, rfl⟩ := h
  have a1 := hcat 1 (by omega)
  have a2 := hcat 2 (by omega)
  have a0 := hcat 0 (by omega)
  have a3 := hcat 3 (by omega)
  have a4 := hcat 4 (by omega)
  have a7 := hcat (7 + cause) (by omega)
  rw [← h1.2 i hp]
  unfold rEnds
  split
  · rw [upd_ne a4, upd_ne a7, upd_ne a3, upd_ne a0, upd_ne a2, upd_ne a1]
  · split
    · rw [upd_ne a4, upd_ne a7, upd_ne a3, upd_ne a0, upd_ne a2, upd_ne a1]
    · rw [upd_ne a7, upd_ne a3, upd_ne a0, upd_ne a2, upd_ne a1]
theorem rEnds_out {c cause : Nat} {tries : Int32} {m : Rw} {i : Nat} (hk : cause < 4) (hcat : ∀ k, k < 14 → i ≠ cat c k) : rEnds c cause tries m i = m i := by
  have a1 := hcat 1 (by omega)
  have a2 := hcat 2 (by omega)
  have a0 := hcat 0 (by omega)
  have a3 := hcat 3 (by omega)
  have a4 := hcat 4 (by omega)
  have a7 := hcat (7 + cause) (by omega)
  unfold rEnds
  split
  · rw [upd_ne a4, upd_ne a7, upd_ne a3, upd_ne a0, upd_ne a2, upd_ne a1]
  · split
    · rw [upd_ne a4, upd_ne a7, upd_ne a3, upd_ne a0, upd_ne a2, upd_ne a1]
    · rw [upd_ne a7, upd_ne a3, upd_ne a0, upd_ne a2, upd_ne a1]
theorem cat_pos {c k : Nat} (hc : c < 4) (hk : k < 14) (c' s w f : Nat) : pos c' s w + f ≠ cat c k := by
  have := cat_lt hc hk
  have := pos_ge c' s w
  omega
/-- a core's places behind the end of its try -/
theorem EndsR_in {S W c cause : Nat} {tries : Int32} {m m' : Rw} (hc : c < 4) (hk : cause < 4) (h : EndsR S W c cause tries m m') {s w : Nat} (hs : s < S) (hw : w < W) :
    if m (pos c s w + 3) = nI 1 then m' (pos c s w) = -2 ∧ m' (pos c s w + 1) = nI 0 ∧ m' (pos c s w + 2) = nI 0 ∧ m' (pos c s w + 3) = nI 0 ∧ m' (pos c s w + 4) = nI 0
    else m' (pos c s w) = m (pos c s w) ∧ m' (pos c s w + 1) = m (pos c s w + 1) ∧ m' (pos c s w + 2) = nI 0 ∧ m' (pos c s w + 3) = m (pos c s w + 3) ∧ m' (pos c s w + 4) = m (pos c s w + 4) := by
  obtain ⟨m1, h1, rfl⟩ := h
  have hz := h1.1 s w hs hw
  have e : ∀ f, rEnds c cause tries m1 (pos c s w + f) = m1 (pos c s w + f) := fun f => rEnds_out hk (fun k hk' => cat_pos hc hk' c s w f)
  have e0 := e 0
  rw [Nat.add_zero] at e0
  rw [e0, e 1, e 2, e 3, e 4]
  simpa using hz
theorem EndsR_other {S W c cause : Nat} {tries : Int32} {m m' : Rw} (hS : S ≤ 4) (hW : W ≤ 17) (hk : cause < 4) (hc : c < 4) (h : EndsR S W c cause tries m m') {o s w f : Nat} (ho : o ≠ c) (hs : s < 4) (hw : w < 17) (hf : f < 9) : m' (pos o s w + f) = m (pos o s w + f) := by
  refine EndsR_out hk h (fun s' w' f' a1 a2 a3 hz => ?_) (fun k hk' => cat_pos hc hk' o s w f)
  exact ho (pos_inj hs (by omega) hw (by omega) hf (by omega) hz).1
theorem LOK_Ends {S W NC c cause : Nat} {tries : Int32} {m m' : Rw} (hS : S ≤ 4) (hW : W ≤ 17) (hk : cause < 4) (hc : c < 4) (hN : NC ≤ 4) (h : EndsR S W c cause tries m m') (hL : LOK S W NC m) : LOK S W NC m' := by
  intro o s w ho hs hw
  by_cases e : o = c
  · subst e
    have hz := EndsR_in hc hk h hs hw
    split at hz
    · exact Or.inl hz.1
    · rw [hz.1]; exact hL o s w ho hs hw
  · have := EndsR_other hS hW hk hc h e (show s < 4 by omega) (show w < 17 by omega) (show 0 < 9 by omega)
    rw [Nat.add_zero] at this
    rw [this]
    exact hL o s w ho hs hw
theorem LOK_EndsL {S W NC cause r : Nat} {tries : Int32} (hS : S ≤ 4) (hW : W ≤ 17) (hk : cause < 4) (hN : NC ≤ 4) : ∀ (n : Nat) {m m' : Rw}, n ≤ 4 → EndsL S W cause tries r n m m' → LOK S W NC m → LOK S W NC m' := by
  intro n
  induction n with
  | zero => intro m m' _ h hL; rw [h]; exact hL
  | succ n ih =>
    intro m m' hn h hL
    obtain ⟨m1, h1, ⟨-, h2⟩ | ⟨-, h2⟩⟩ := h
    · exact LOK_Ends hS hW hk (by omega) hN h2 (ih (by omega) h1 hL)
    · rw [h2]; exact ih (by omega) h1 hL
theorem LOK_Dec {S W NC rule c ℓ how r : Nat} {tries : Int32} {b : Bool} {m m' : Rw} (hS : S ≤ 4) (hW : W ≤ 17) (hN : NC ≤ 4) (hc : c < 4) (h : DecR S W NC rule tries c ℓ b m how r m') (hL : LOK S W NC m) : LOK S W NC m' := by
  obtain ⟨v, -, ⟨-, -, -, rfl⟩ | ⟨-, -, -, -, -, rfl⟩ | ⟨-, -, -, -, h⟩ | ⟨-, -, -, -, -, h⟩⟩ := h
  · exact hL
  · exact hL
  · exact LOK_Ends hS hW (by omega) hc hN h hL
  · exact LOK_EndsL hS hW (by omega) hN NC hN h hL
def rWait (c : Nat) (m : Rw) : Rw := upd m (cat c 13) (m (cat c 13) + nI 1)
/-- behind the line's coming: the marks, the word -/
def rGet (c p k : Nat) (m : Rw) : Rw :=
  let m3 := if m (cat c 3) = nI 1 then upd m (p + 2) (nI 1) else m
  upd m3 (cat c 1) (m3 (p + 5 + k))
def rPut (PL c p k : Nat) (old : Bool) (m : Rw) : Rw :=
  let m3 := if m (cat c 3) = nI 1 ∧ old = true then rWB PL m p else m
  let m4 := if m (cat c 3) = nI 1 then upd m3 (p + 3) (nI 1) else m3
  upd m4 (p + 5 + k) (m4 (cat c 1))
def oldO (S c ℓ : Nat) (m : Rw) : Option Nat → Bool
  | none => false
  | some w => decide (m (pos c (ℓ % S) w + 1) = nI 3 ∧ m (pos c (ℓ % S) w + 3) = 0)
def TchR (S W PL NC rule : Nat) (tries : Int32) (c a : Nat) (owns : Bool) (m : Rw) (how r : Nat) (m' : Rw) : Prop :=
  ∃ h1 r1 m1, DecR S W NC rule tries c (a / PL) owns m h1 r1 m1 ∧
    ((h1 = 2 ∧ how = 2 ∧ r = r1 ∧ m' = rWait c m1) ∨ (h1 = 3 ∧ how = 3 ∧ r = r1 ∧ m' = m1) ∨
     (h1 = 1 ∧ ∃ was o m2, FindR S W m1 c (a / PL) was ∧ BrgR S W PL NC tries c (a / PL) owns m1 o m2 ∧
       ((o = none ∧ how = 3 ∧ r = r1 ||| 2 ^ c ∧ m' = m2) ∨
        (∃ w, o = some w ∧ how = 1 ∧ r = r1 ∧ m' = (if owns = true then rPut PL c (pos c (a / PL % S) w) (a % PL) (oldO S c (a / PL) m1 was) m2 else rGet c (pos c (a / PL % S) w) (a % PL) m2)))))
/-- 'ended' grows by a set of cores -/
def EndE (e0 r : Nat) (x : Int32) : Prop := ∃ e1, e1 < 16 ∧ x = nI e1 ∧ ∀ j, j < 4 → (e1.testBit j = true ↔ (e0.testBit j = true ∨ r.testBit j = true))
theorem EndE.or {e0 r c : Nat} {x : Int32} (h : EndE e0 r x) (hr : r < 16) (hc : c < 4) : EndE e0 (r ||| 2 ^ c) (x ||| bitc c) := by
  obtain ⟨e1, h1, rfl, h3⟩ := h
  have hb := bit_or e1 h1 c hc
  refine ⟨e1 ||| 2 ^ c, hb.2, bitc_pow e1 h1 c hc, fun j hj => ?_⟩
  rw [bit_orT e1 h1 c hc j hj, bit_orT r hr c hc j hj, h3 j hj]
  constructor
  · rintro ((h | h) | h)
    · exact Or.inl h
    · exact Or.inr (Or.inl h)
    · exact Or.inr (Or.inr h)
  · rintro (h | h | h)
    · exact Or.inl (Or.inl h)
    · exact Or.inl (Or.inr h)
    · exact Or.inr h
theorem DecR_r {S W NC rule c ℓ how r : Nat} {tries : Int32} {b : Bool} {m m' : Rw} (hc : c < 4) (h : DecR S W NC rule tries c ℓ b m how r m') : r < 16 := by
  obtain ⟨v, hv, ⟨-, -, rfl, -⟩ | ⟨-, -, -, -, rfl, -⟩ | ⟨-, -, -, rfl, -⟩ | ⟨-, -, -, -, rfl, -⟩⟩ := h
  · omega
  · omega
  · have := (bit_or 0 (by omega) c hc).2
    rw [Nat.zero_or] at this
    exact this
  · exact hv.1
theorem X7_get_ok {S W PL NC : Nat} {g : zG} (hP : MPar S W PL NC g) {c p a : Nat} (hc : c < 4) (hp : p + 9 ≤ 2766) (hp0 : 318 ≤ p) (ha : a < 64) (was : Int32) : ∃ g', (if g 43 0 (cat c 3) = nI 1 then X7_touches_b193 (nI c) (nI a) (bI false) was (nI p) (nI 1) g else X7_touches_b193 (nI c) (nI a) (bI false) was (nI p) (nI 0) g) = some (nI 1, g') ∧ g' 43 0 = rGet c p (a % PL) (g 43 0) ∧ FrN g g' := by
  obtain ⟨⟨p1, p2, p3, p4, p5, p6, p7, p8⟩, q1, q2, q3, q4⟩ := id hP
  have b1 := cat_lt hc (show 1 < 14 by omega)
  have hm : a % PL < PL := Nat.mod_lt _ p5
  unfold X7_touches_b193
  simp (disch := omega) only [zc_some, zw_eq, zi_nI, nI_clamp, nI_add, nI_1, nI_lti, nI_inj, nI_ltz, nI_eq0, nI_0lt, nI_ne_m1, nI_ne_m2, nI_m1_ne, nI_m2_ne, if_true, if_false, zU_eq, zU_ne, Nat.add_zero, pk_mul, bI0, bI1, q3, pk_rem, show ¬ PL = 0 by omega, show ¬ (1 = 0) by omega, X7_touches_b242, X7_coreAt_ok]
  by_cases e : g 43 0 (cat c 3) = nI 1
  · rw [if_pos e]
    refine ⟨_, rfl, ?_, ((FrN.rfl' g).row _ _).row _ _⟩
    rw [zU_row, zU_row]
    unfold rGet
    simp only [if_pos e]
    rw [upd_ne (by omega)]
  · rw [if_neg e]
    refine ⟨_, rfl, ?_, ((FrN.rfl' g).row _ _).row _ _⟩
    rw [zU_row, zU_row]
    unfold rGet
    simp only [if_neg e]
    congr 1
    funext i
    unfold upd
    split
    · rename_i z; rw [z]
    · rfl
