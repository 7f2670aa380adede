/-! ===== a begin ===== -/
theorem EndsL_other {S W cause r : Nat} {tries : Int32} (hS : S ≤ 4) (hW : W ≤ 17) (hk : cause < 4) : ∀ (n : Nat) {m m' : Rw}, n ≤ 4 → EndsL S W cause tries r n m m' → ∀ o s w f, (n ≤ o ∨ r.testBit o = false) → s < 4 → w < 17 → f < 9 → m' (pos o s w + f) = m (pos o s w + f) := by
  intro n
  induction n with
  | zero => intro m m' _ h o s w f _ _ _ _; rw [h]
  | succ n ih =>
    intro m m' hn h o s w f ho hs hw hf
    obtain ⟨m1, h1, ⟨h3, h2⟩ | ⟨-, h2⟩⟩ := h
    · have hne : o ≠ n := by
        rcases ho with ho | ho
        · omega
        · intro z; rw [z, h3] at ho; cases ho
      rw [EndsR_other hS hW hk (by omega) h2 hne hs hw hf]
      exact ih (by omega) h1 o s w f (ho.imp (fun z => by omega) id) hs hw hf
    · rw [h2]; exact ih (by omega) h1 o s w f (ho.imp (fun z => by omega) id) hs hw hf
theorem FindR_congr {S W o ℓ : Nat} {m m' : Rw} (hs : ℓ % S < 4) (hW : W ≤ 17) (h : ∀ s w f, s < 4 → w < 17 → f < 9 → m' (pos o s w + f) = m (pos o s w + f)) (x : Option Nat) : FindR S W m' o ℓ x ↔ FindR S W m o ℓ x := by
  have e : ∀ w, w < W → m' (pos o (ℓ % S) w) = m (pos o (ℓ % S) w) := fun w hw => by
    have := h (ℓ % S) w 0 hs (by omega) (by omega)
    rwa [Nat.add_zero] at this
  cases x with
  | none =>
    constructor
    · intro z w hw; rw [← e w hw]; exact z w hw
    · intro z w hw; rw [e w hw]; exact z w hw
  | some w =>
    constructor
    · rintro ⟨a, b, c⟩; exact ⟨a, by rw [← e w a]; exact b, fun q hq => by rw [← e q (by omega)]; exact c q hq⟩
    · rintro ⟨a, b, c⟩; exact ⟨a, by rw [e w a]; exact b, fun q hq => by rw [e q (by omega)]; exact c q hq⟩
theorem RivR_congr {S W c o ℓ : Nat} {b : Bool} {m m' : Rw} (hs : ℓ % S < 4) (hW : W ≤ 17) (h : ∀ s w f, s < 4 → w < 17 → f < 9 → m' (pos o s w + f) = m (pos o s w + f)) : RivR S W m' c o ℓ b ↔ RivR S W m c o ℓ b := by
  constructor
  · rintro ⟨a, w, hf, hm⟩
    have hf' := (FindR_congr hs hW h _).mp hf
    have hw := hf'.1
    rw [h _ _ _ hs (by omega) (by omega), h _ _ _ hs (by omega) (by omega)] at hm
    exact ⟨a, w, hf', hm⟩
  · rintro ⟨a, w, hf, hm⟩
    have hw := hf.1
    rw [← h _ _ _ hs (by omega) (by omega), ← h (ℓ % S) w 2 hs (by omega) (by omega)] at hm
    exact ⟨a, w, (FindR_congr hs hW h _).mpr hf, hm⟩
/-- a core's places bear no mark -/
def NoMk (S W c : Nat) (m : Rw) : Prop := ∀ s w, s < S → w < W → m (pos c s w + 2) = nI 0 ∧ m (pos c s w + 3) = nI 0
theorem sroom_some {m : Rw} {p : Nat → Nat} : ∀ (n k : Nat) (best : Option Nat), best ≠ none → sroom m p n k best ≠ none := by
  intro n
  induction n with
  | zero => intro k best h; exact h
  | succ n ih =>
    intro k best h
    rw [sroom]
    split
    · simp
    · split
      · exact ih _ _ (by simp)
      · exact ih _ _ h
theorem sroom_no {S W c s : Nat} {m : Rw} (hs : s < S) (hW : 0 < W) (h : NoMk S W c m) : sroom m (pos c s) W 0 none ≠ none := by
  obtain ⟨n, rfl⟩ : ∃ n, W = n + 1 := ⟨W - 1, by omega⟩
  have h0 := h s 0 hs (by omega)
  rw [sroom]
  split
  · simp
  · rw [if_pos ⟨h0.1.trans nI_0, h0.2.trans nI_0, rfl⟩]
    exact sroom_some _ _ _ (by simp)
theorem BrgR_some {S W PL NC c ℓ : Nat} {tries : Int32} {b : Bool} {m m' : Rw} {o : Option Nat} (hS : 0 < S) (hW : 0 < W) (h : NoMk S W c m) (hb : BrgR S W PL NC tries c ℓ b m o m') : ∃ w, o = some w := by
  obtain ⟨o0, -, ⟨-, h1, -, -⟩ | ⟨w, m2, hh, -, -, h2, -⟩ | ⟨w, m2, hh, -, h2, -⟩⟩ := hb
  · exact absurd h1 (sroom_no (Nat.mod_lt _ hS) hW h)
  · exact ⟨w, h2⟩
  · exact ⟨w, h2⟩
def rTail (c : Nat) (m : Rw) : Rw :=
  let m1 := upd (upd (upd m (cat c 1) (nI 0)) (cat c 2) (nI 0)) (cat c 6) (m (cat c 0))
  if m (cat c 5) = -2 then upd m1 (cat c 5) (m 0) else m1
theorem X7_tail_ok {c : Nat} {g : zG} (hc : c < 4) : ∃ g', X7_begin_b147 (nI c) g = some (nI 1, g') ∧ g' 43 0 = rTail c (g 43 0) ∧ FrN g g' := by
  have hx : 6 + 14 * c + 13 < 62 := by omega
  unfold X7_begin_b147
  simp (disch := omega) only [zc_some, zw_eq, zi_nI, nI_clamp, X7_coreAt_ok, cat, zU_ne, Nat.add_zero]
  by_cases e : g 43 0 (6 + 14 * c + 5) = -2
  · rw [if_pos e]
    refine ⟨_, rfl, ?_, ((((FrN.rfl' g).row _ _).row _ _).row _ _).row _ _⟩
    simp only [zU_row]
    unfold rTail
    dsimp only
    rw [if_pos (show g 43 0 (cat c 5) = -2 from e)]
    simp only [cat, Nat.add_zero]
  · rw [if_neg e]
    refine ⟨_, rfl, ?_, (((FrN.rfl' g).row _ _).row _ _).row _ _⟩
    simp only [zU_row]
    unfold rTail
    dsimp only
    rw [if_neg (show ¬ (g 43 0 (cat c 5) = -2) from e)]
    simp only [cat, Nat.add_zero]
def BgnR (S W PL NC : Nat) (tries : Int32) (c : Nat) (m : Rw) (how r : Nat) (m' : Rw) : Prop :=
  (m 5 ≠ -2 ∧ how = 2 ∧ r = 0 ∧ m' = rWait c m) ∨
  (m 5 = -2 ∧ m (cat c 4) < tries ∧ how = 1 ∧ r = 0 ∧ ∃ w m1, BrgR S W PL NC tries c 16 false m (some w) m1 ∧ m' = rTail c (upd (upd m1 (pos c (16 % S) w + 2) (nI 1)) (cat c 3) (nI 1))) ∨
  (m 5 = -2 ∧ ¬ m (cat c 4) < tries ∧ how = 1 ∧ ∃ m1 w m2, RivB S W NC m c 16 true r ∧ EndsL S W 3 tries r NC m m1 ∧ BrgR S W PL NC tries c 16 true m1 (some w) m2 ∧ m' = rTail c (upd (upd m2 5 (nI c)) (cat c 3) (nI 2)))
theorem rivBits {S W NC c ℓ : Nat} {m : Rw} {b : Bool} (hN : NC ≤ 4) : ∃ v, RivB S W NC m c ℓ b v := by
  have key : ∀ n, n ≤ 4 → ∃ v, v < 16 ∧ ∀ o, o < 4 → (v.testBit o = true ↔ (o < n ∧ o < NC ∧ RivR S W m c o ℓ b)) := by
    intro n
    induction n with
    | zero => intro _; exact ⟨0, by omega, fun o _ => by simp⟩
    | succ n ih =>
      intro hn
      obtain ⟨v, h1, h2⟩ := ih (by omega)
      by_cases z : n < NC ∧ RivR S W m c n ℓ b
      · refine ⟨v ||| 2 ^ n, (bit_or v h1 n (by omega)).2, fun o ho => ?_⟩
        rw [bit_orT v h1 n (by omega) o ho, h2 o ho]
        constructor
        · rintro (h | rfl)
          · exact ⟨by omega, h.2⟩
          · exact ⟨by omega, z⟩
        · rintro ⟨h3, h4⟩
          by_cases y : o = n
          · exact Or.inr y
          · exact Or.inl ⟨by omega, h4⟩
      · refine ⟨v, h1, fun o ho => ?_⟩
        rw [h2 o ho]
        constructor
        · rintro ⟨h3, h4⟩; exact ⟨by omega, h4⟩
        · rintro ⟨h3, h4⟩
          by_cases y : o = n
          · subst y; exact absurd h4 z
          · exact ⟨by omega, h4⟩
  obtain ⟨v, h1, h2⟩ := key 4 (by omega)
  exact ⟨v, h1, fun o ho => (h2 o ho).trans ⟨fun z => z.2, fun z => ⟨ho, z⟩⟩⟩
theorem X7_begin_t {S W PL NC : Nat} {g : zG} (hP : MPar S W PL NC g) {c rule : Nat} (hc : c < NC) (hr : g 35007 0 0 = nI rule) (hr2 : rule ≤ 2) (hL : LOK S W NC (g 43 0)) (hNM : NoMk S W c (g 43 0)) (hLk : ∀ o w, o < NC → w < W → g 43 0 (pos o (16 % S) w) = nI 16 → g 43 0 (pos o (16 % S) w + 3) ≠ nI 1) {e0 : Nat} (he0 : e0 < 16) (hE : g 38007 0 0 = nI e0) (h5 : g 43 0 5 = -2) (hlt : g 43 0 (cat c 4) < g 36007 0 0) :
    ∃ g' how r, X7_begin (nI c) g = some (nI how, g') ∧ BgnR S W PL NC (g 36007 0 0) c (g 43 0) how r (g' 43 0) ∧ FrM g g' ∧ EndE e0 r (g' 38007 0 0) ∧ 1 ≤ how ∧ how ≤ 3 := by
  obtain ⟨⟨p1, p2, p3, p4, p5, p6, p7, p8⟩, q1, q2, q3, q4⟩ := id hP
  have hc4 : c < 4 := by omega
  have hs : 16 % S < S := Nat.mod_lt _ p1
  have hb3 := cat_lt hc4 (show 3 < 14 by omega)
  have hb4 := cat_lt hc4 (show 4 < 14 by omega)
  have same : EndE e0 0 (nI e0) := ⟨e0, he0, rfl, fun j _ => by simp⟩
  unfold X7_begin
  simp (disch := omega) only [zc_some, zw_eq, zi_nI, nI_clamp, nI_add, nI_1, nI_lti, nI_inj, nI_ltz, nI_eq0, nI_0lt, nI_ne_m1, nI_ne_m2, nI_m1_ne, nI_m2_ne, if_true, if_false, zU_eq, zU_ne, Nat.add_zero, pk_mul, X7_coreAt_ok]
  rw [if_pos h5, if_pos hlt]
  obtain ⟨g1, h1, r1, e1, d1, d2, d3, d4, d5, d6⟩ := X7_decides_ok hP hc (show 16 ≤ 16 by omega) false hr hr2 he0 hE
  have hz : h1 = 1 ∧ g1 43 0 = g 43 0 ∧ r1 = 0 := by
    obtain ⟨v, hv, hh⟩ := d2
    have hv0 : v = 0 := (bit_zero v hv.1).mpr (fun j hj => by
      cases hb : v.testBit j with
      | false => rfl
      | true =>
        obtain ⟨a1, -, w, a3, a4⟩ := (hv.2 j hj).mp hb
        rcases a4 with a4 | a4
        · exact absurd a4 (hLk j w a1 a3.1 a3.2.1)
        · cases a4.1)
    rcases hh with ⟨-, a, b, c⟩ | ⟨a, -⟩ | ⟨a, -⟩ | ⟨a, -⟩
    · exact ⟨a, c, b⟩
    · exact absurd hv0 a
    · exact absurd hv0 a
    · exact absurd hv0 a
  obtain ⟨rfl, hm1, rfl⟩ := hz
  have hP1 := hP.fr d3
  have ht1 : g1 36007 0 0 = g 36007 0 0 := d3 _ _ _ (by decide) (by decide)
  obtain ⟨g2, o, b1, b2, b3, b4, b5⟩ := X7_brings_ok hP1 hc (show 16 ≤ 16 by omega) false (by rw [hm1]; exact hL)
  rw [hm1, ht1] at b2
  obtain ⟨w, rfl⟩ := BrgR_some p1 p3 hNM b2
  obtain ⟨hw, hln⟩ := BrgR_line ⟨p1, p2⟩ p4 p6 (show 16 ≤ 16 by omega) p8 hc b2
  have hp := pos_lt hc4 (show 16 % S < 4 by omega) (show w < 17 by omega)
  obtain ⟨g3, t1, t2, t3⟩ := X7_tail_ok (c := c) (g := zU (zU g2 43 0 (pos c (16 % S) w + 2) (nI 1)) 43 0 (cat c 3) (nI 1)) hc4
  refine ⟨g3, 1, 0, ?_, Or.inr (Or.inl ⟨h5, hlt, rfl, rfl, w, g2 43 0, b2, ?_⟩), (d3.trans b3).trans ((((FrN.rfl' g2).row _ _).row _ _).trans t3).M, ?_, by omega, by omega⟩
  · rw [bI0] at d1 b1
    rw [d1, zc_some, if_neg (by decide +kernel), b1]
    simp only [posQ]
    simp (disch := omega) only [zc_some, zw_eq, zi_nI, nI_clamp, nI_add, nI_1, nI_lti, nI_inj, nI_ltz, nI_eq0, nI_0lt, nI_ne_m1, nI_ne_m2, nI_m1_ne, nI_m2_ne, if_true, if_false, zU_eq, zU_ne, Nat.add_zero, pk_mul, X7_coreAt_ok]
    exact t1
  · rw [t2, zU_row, zU_row]
  · rw [t3 _ _ _ (by decide), zU_ne _ _ (by omega), zU_ne _ _ (by omega), b4 (by simp)]
    exact ⟨e1, d4, d5, d6⟩

/-- the same, whatever the fuel -/
theorem loopF {M : Nat → Nat → zG → zR0} (N : Nat) (I : Nat → zG → Prop) (Q : zR0 → Prop) (hs : ∀ n i g, i < N → I i g → (∃ g', I (i + 1) g' ∧ M (n + 1) i g = M n (i + 1) g') ∨ Q (M (n + 1) i g)) (hx : ∀ n g, I N g → Q (M (n + 1) N g)) {F i0 : Nat} {g0 : zG} (h0 : I i0 g0) (hi : i0 ≤ N) (hN : N < F) : Q (M F i0 g0) := by
  refine loopM (σ := Nat × zG) (fun n s => M n s.1 s.2) (fun s => s.1 ≤ N ∧ I s.1 s.2) (fun s => N - s.1) Q ?_ F (i0, g0) ⟨hi, h0⟩ ?_
  · intro n s hI
    obtain ⟨i, g⟩ := s
    obtain ⟨h1, h2⟩ := hI
    by_cases h : i < N
    · rcases hs n i g h h2 with ⟨g', a, b⟩ | a
      · exact Or.inl ⟨(i + 1, g'), ⟨h, a⟩, by simp only; omega, b⟩
      · exact Or.inr a
    · have e : i = N := by simp only at h1; omega
      subst e
      exact Or.inr (hx n g h2)
  · simp only; omega
theorem X7_begin_l {S W PL NC : Nat} {g : zG} (hP : MPar S W PL NC g) {c rule : Nat} (hc : c < NC) (hr : g 35007 0 0 = nI rule) (hr2 : rule ≤ 2) (hL : LOK S W NC (g 43 0)) (hNM : NoMk S W c (g 43 0)) (hLk : ∀ o w, o < NC → w < W → g 43 0 (pos o (16 % S) w) = nI 16 → g 43 0 (pos o (16 % S) w + 3) ≠ nI 1) {e0 : Nat} (he0 : e0 < 16) (hE : g 38007 0 0 = nI e0) (h5 : g 43 0 5 = -2) (hlt : ¬ g 43 0 (cat c 4) < g 36007 0 0) :
    ∃ g' how r, X7_begin (nI c) g = some (nI how, g') ∧ BgnR S W PL NC (g 36007 0 0) c (g 43 0) how r (g' 43 0) ∧ FrM g g' ∧ EndE e0 r (g' 38007 0 0) ∧ 1 ≤ how ∧ how ≤ 3 := by
  obtain ⟨⟨p1, p2, p3, p4, p5, p6, p7, p8⟩, q1, q2, q3, q4⟩ := id hP
  have hc4 : c < 4 := by omega
  have hs : 16 % S < S := Nat.mod_lt _ p1
  have hb3 := cat_lt hc4 (show 3 < 14 by omega)
  have hb4 := cat_lt hc4 (show 4 < 14 by omega)
  have same : EndE e0 0 (nI e0) := ⟨e0, he0, rfl, fun j _ => by simp⟩
  unfold X7_begin
  simp (disch := omega) only [zc_some, zw_eq, zi_nI, nI_clamp, nI_add, nI_1, nI_lti, nI_inj, nI_ltz, nI_eq0, nI_0lt, nI_ne_m1, nI_ne_m2, nI_m1_ne, nI_m2_ne, if_true, if_false, zU_eq, zU_ne, Nat.add_zero, pk_mul, X7_coreAt_ok]
  rw [if_pos h5, if_neg hlt]
  obtain ⟨v, hv⟩ := rivBits (S := S) (W := W) (m := g 43 0) (c := c) (ℓ := 16) (b := true) p8
  have hz : NC < zfuel := zfuel_ge (by omega)
  generalize zfuel = F at hz ⊢
  refine loopF (M := fun n i h => X7_begin_l86 (fun (v1 : Int32) g => X7_begin_b147 v1 g) n (nI c) (nI i) h) NC (fun i h => EndsL S W 3 (g 36007 0 0) v i (g 43 0) (h 43 0) ∧ FrM g h ∧ ∃ e1, e1 < 16 ∧ h 38007 0 0 = nI e1 ∧ ∀ j, j < 4 → (e1.testBit j = true ↔ (e0.testBit j = true ∨ (j < i ∧ v.testBit j = true)))) (fun oo => ∃ g' how r, oo = some (nI how, g') ∧ BgnR S W PL NC (g 36007 0 0) c (g 43 0) how r (g' 43 0) ∧ FrM g g' ∧ EndE e0 r (g' 38007 0 0) ∧ 1 ≤ how ∧ how ≤ 3) ?_ ?_ (i0 := 0) ⟨rfl, FrM.rfl' g, e0, he0, hE, fun j _ => by simp⟩ (by omega) hz
  · rintro n i h hi ⟨h1, h2, e1, h3, h4, h6⟩
    left
    have hPh := hP.fr h2
    have a1 : h 31 0 5 = nI NC := hPh.2.2.2.2
    have a2 : h 36007 0 0 = g 36007 0 0 := h2 _ _ _ (by decide) (by decide)
    obtain ⟨x, y1, y2⟩ := X7_isRival_ok hPh hc4 (show i < 4 by omega) (show 16 ≤ 16 by omega) true
    rw [bI1] at y1
    have hcg : RivR S W (h 43 0) c i 16 true ↔ RivR S W (g 43 0) c i 16 true := RivR_congr (by omega) p4 (fun s w f b1 b2 b3 => EndsL_other p2 p4 (by omega) i (by omega) h1 i s w f (Or.inl (Nat.le_refl _)) b1 b2 b3)
    rw [X7_begin_l86.eq_2]
    simp (disch := omega) only [zc_some, zw_eq, zi_nI, nI_clamp, nI_add, nI_1, nI_lti, nI_inj, nI_ltz, nI_eq0, nI_0lt, nI_ne_m1, nI_ne_m2, nI_m1_ne, nI_m2_ne, if_true, if_false, zU_eq, zU_ne, Nat.add_zero, pk_mul, a1, hi, y1, X7_begin_b114]
    rcases y2 with ⟨rfl, y2⟩ | ⟨rfl, y2⟩
    · have hbt : v.testBit i = true := (hv.2 i (by omega)).mpr ⟨hi, hcg.mp y2⟩
      obtain ⟨h', k1, k2, k3, k4⟩ := X7_ends_ok hPh (show i < 4 by omega) (show 3 < 4 by omega)
      rw [a2] at k2
      have hb := bit_or e1 h3 i (by omega)
      refine ⟨h', ⟨⟨_, h1, Or.inl ⟨hbt, k2⟩⟩, h2.trans k3, e1 ||| 2 ^ i, hb.2, by rw [k4, h4]; exact bitc_pow e1 h3 i (by omega), fun j hj => ?_⟩, ?_⟩
      · rw [bit_orT e1 h3 i (by omega) j hj, h6 j hj]
        constructor
        · rintro ((z | z) | rfl)
          · exact Or.inl z
          · exact Or.inr ⟨by omega, z.2⟩
          · exact Or.inr ⟨by omega, hbt⟩
        · rintro (z | z)
          · exact Or.inl (Or.inl z)
          · by_cases y : j = i
            · exact Or.inr y
            · exact Or.inl (Or.inr ⟨by omega, z.2⟩)
      · simp (disch := omega) only [zc_some, zw_eq, zi_nI, nI_clamp, nI_add, nI_1, nI_lti, nI_inj, nI_ltz, nI_eq0, nI_0lt, nI_ne_m1, nI_ne_m2, nI_m1_ne, nI_m2_ne, if_true, if_false, zU_eq, zU_ne, Nat.add_zero, pk_mul, show ¬ (1 = 0) by omega, k1]
    · have hbt : v.testBit i = false := by
        cases hb : v.testBit i with
        | false => rfl
        | true => exact absurd (hcg.mpr ((hv.2 i (by omega)).mp hb).2) y2
      refine ⟨h, ⟨⟨_, h1, Or.inr ⟨hbt, rfl⟩⟩, h2, e1, h3, h4, fun j hj => ?_⟩, ?_⟩
      · rw [h6 j hj]
        constructor
        · rintro (z | z)
          · exact Or.inl z
          · exact Or.inr ⟨by omega, z.2⟩
        · rintro (z | z)
          · exact Or.inl z
          · by_cases y : j = i
            · subst y; rw [hbt] at z; cases z.2
            · exact Or.inr ⟨by omega, z.2⟩
      · simp (disch := omega) only [zc_some, zw_eq, zi_nI, nI_clamp, nI_add, nI_1, nI_lti, nI_inj, nI_ltz, nI_eq0, nI_0lt, nI_ne_m1, nI_ne_m2, nI_m1_ne, nI_m2_ne, if_true, if_false, zU_eq, zU_ne, Nat.add_zero, pk_mul]
  · rintro n h ⟨h1, h2, e1, h3, h4, h6⟩
    have hPh := hP.fr h2
    have a1 : h 31 0 5 = nI NC := hPh.2.2.2.2
    have a2 : h 36007 0 0 = g 36007 0 0 := h2 _ _ _ (by decide) (by decide)
    have hvc : v.testBit c = false := by
      cases hb : v.testBit c with
      | false => rfl
      | true => exact absurd rfl ((hv.2 c hc4).mp hb).2.1
    have hNM1 : NoMk S W c (h 43 0) := fun s w b1 b2 => by
      rw [EndsL_other p2 p4 (by omega) NC p8 h1 c s w 2 (Or.inr hvc) (by omega) (by omega) (by omega), EndsL_other p2 p4 (by omega) NC p8 h1 c s w 3 (Or.inr hvc) (by omega) (by omega) (by omega)]
      exact hNM s w b1 b2
    obtain ⟨g2, o, b1, b2, b3, b4, b5⟩ := X7_brings_ok hPh hc (show 16 ≤ 16 by omega) true (LOK_EndsL p2 p4 (by omega) p8 NC p8 h1 hL)
    rw [a2] at b2
    obtain ⟨w, rfl⟩ := BrgR_some p1 p3 hNM1 b2
    obtain ⟨g3, t1, t2, t3⟩ := X7_tail_ok (c := c) (g := zU (zU g2 43 0 5 (nI c)) 43 0 (cat c 3) (nI 2)) hc4
    refine ⟨g3, 1, v, ?_, Or.inr (Or.inr ⟨h5, hlt, rfl, h 43 0, w, g2 43 0, hv, h1, b2, ?_⟩), (h2.trans b3).trans ((((FrN.rfl' g2).row _ _).row _ _).trans t3).M, ?_, by omega, by omega⟩
    · rw [bI1] at b1
      rw [X7_begin_l86.eq_2]
      simp (disch := omega) only [zc_some, zw_eq, zi_nI, nI_clamp, nI_add, nI_1, nI_lti, nI_inj, nI_ltz, nI_eq0, nI_0lt, nI_ne_m1, nI_ne_m2, nI_m1_ne, nI_m2_ne, if_true, if_false, zU_eq, zU_ne, Nat.add_zero, pk_mul, a1, Nat.lt_irrefl]
      rw [b1, zc_some]
      simp (disch := omega) only [zc_some, zw_eq, zi_nI, nI_clamp, nI_add, nI_1, nI_lti, nI_inj, nI_ltz, nI_eq0, nI_0lt, nI_ne_m1, nI_ne_m2, nI_m1_ne, nI_m2_ne, if_true, if_false, zU_eq, zU_ne, Nat.add_zero, pk_mul, X7_coreAt_ok]
      exact t1
    · rw [t2, zU_row, zU_row]
    · rw [t3 _ _ _ (by decide), zU_ne _ _ (by omega), zU_ne _ _ (by omega), b4 (by simp)]
      refine ⟨e1, h3, h4, fun j hj => ?_⟩
      rw [h6 j hj]
      exact ⟨fun z => z.imp id (fun y => y.2), fun z => z.imp id (fun y => ⟨((hv.2 j hj).mp y).1, y⟩)⟩

theorem X7_begin_ok {S W PL NC : Nat} {g : zG} (hP : MPar S W PL NC g) {c rule : Nat} (hc : c < NC) (hr : g 35007 0 0 = nI rule) (hr2 : rule ≤ 2) (hL : LOK S W NC (g 43 0)) (hNM : NoMk S W c (g 43 0)) (hLk : ∀ o w, o < NC → w < W → g 43 0 (pos o (16 % S) w) = nI 16 → g 43 0 (pos o (16 % S) w + 3) ≠ nI 1) {e0 : Nat} (he0 : e0 < 16) (hE : g 38007 0 0 = nI e0) :
    ∃ g' how r, X7_begin (nI c) g = some (nI how, g') ∧ BgnR S W PL NC (g 36007 0 0) c (g 43 0) how r (g' 43 0) ∧ FrM g g' ∧ EndE e0 r (g' 38007 0 0) ∧ 1 ≤ how ∧ how ≤ 3 := by
  obtain ⟨⟨p1, p2, p3, p4, p5, p6, p7, p8⟩, q1, q2, q3, q4⟩ := id hP
  have hc4 : c < 4 := by omega
  have hs : 16 % S < S := Nat.mod_lt _ p1
  have hb3 := cat_lt hc4 (show 3 < 14 by omega)
  have hb4 := cat_lt hc4 (show 4 < 14 by omega)
  have same : EndE e0 0 (nI e0) := ⟨e0, he0, rfl, fun j _ => by simp⟩
  by_cases h5 : g 43 0 5 = -2
  · by_cases hlt : g 43 0 (cat c 4) < g 36007 0 0
    · exact X7_begin_t hP hc hr hr2 hL hNM hLk he0 hE h5 hlt
    · exact X7_begin_l hP hc hr hr2 hL hNM hLk he0 hE h5 hlt
  · unfold X7_begin
    simp (disch := omega) only [zc_some, zw_eq, zi_nI, nI_clamp, nI_add, nI_1, nI_lti, nI_inj, nI_ltz, nI_eq0, nI_0lt, nI_ne_m1, nI_ne_m2, nI_m1_ne, nI_m2_ne, if_true, if_false, zU_eq, zU_ne, Nat.add_zero, pk_mul, X7_waits_ok]
    rw [if_neg h5]
    refine ⟨_, 2, 0, rfl, Or.inl ⟨h5, rfl, rfl, by rw [zU_row]; rfl⟩, ((FrN.rfl' g).row _ _).M, ?_, by omega, by omega⟩
    rw [zU_ne _ _ (by omega), hE]
    exact same
