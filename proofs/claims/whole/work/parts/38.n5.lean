theorem nAll_congr {so : Nat → Nat → Nat} {m m' : Rw} : ∀ n, (∀ c, c < n → nend (so c) (m' (cat c 0)).toNatClampNeg = nend (so c) (m (cat c 0)).toNatClampNeg) → nAll so m' n = nAll so m n := by
  intro n
  induction n with
  | zero => intro _; rfl
  | succ n ih =>
    intro h
    unfold nAll
    rw [ih (fun c hc => h c (by omega)), h n (by omega)]
theorem RI_Ends {S W PL NC c cause : Nat} {tries : Int32} {len : Nat → Nat} {so wh : Nat → Nat → Nat} (hz : Siz S W PL NC) (hk : cause < 4) (hc : c < NC) {m m' : Rw} (hst : m (cat c 3) ≠ nI 0) (he : EndsR S W c cause tries m m') (h : RI S W PL NC len so wh m) : RI S W PL NC len so wh m' := by
  obtain ⟨p1, p2, p3, p4, p5, p6, p7, p8⟩ := id hz
  obtain ⟨hp, hd, hci, hn⟩ := h
  have hc4 : c < 4 := by omega
  obtain ⟨d0, d1, d2, d3, d6⟩ := EndsR_cats hc4 hk he
  have oth : ∀ o k, o ≠ c → o < 4 → k < 14 → m' (cat o k) = m (cat o k) := fun o k h1 h2 h3 => EndsR_low hk he (by have := cat_lt h2 h3; omega) (fun k' hk' z => h1 (cat_inj h3 hk' z).1)
  obtain ⟨k, b, st, c1, c2, c3, c4, c5, c6, c7, c8, c9, c10⟩ := hci c hc
  have hs0 : st ≠ 0 := fun z => hst (by rw [c4, z])
  obtain ⟨x1, x2, x3⟩ := c7 hs0
  obtain ⟨w1, w2, w3⟩ := hd c hc
  have hob : opn (so c) b = false := (w3 b (by omega)).2.1 x2
  refine ⟨PI_Ends hz hk hc4 he hp, hd, fun o ho => ?_, ?_⟩
  · by_cases e : o = c
    · subst e
      refine ⟨b, b, 0, by rw [d0, c3], by omega, by rw [d6, c3], d3, by omega, ?_, fun z => absurd rfl z, fun _ => EndsR_noMk hc4 hk he (fun s w a1 a2 => (hp.mk o s w hc a1 a2).2), ⟨0, by omega, d1⟩, ⟨0, by omega, d2⟩⟩
      rw [hob]
      exact ⟨fun z => absurd rfl z, fun z => by cases z⟩
    · refine CI_same (hci o ho) (fun k hk' => oth o k e (by omega) (by omega)) (fun z s w a1 a2 => ?_)
      rw [EndsR_other p2 p4 hk hc4 he e (by omega) (by omega) (by omega), EndsR_other p2 p4 hk hc4 he e (by omega) (by omega) (by omega)]
      exact z s w a1 a2
  · rw [EndsR_low hk he (by omega) (fun k _ => by unfold cat; omega), hn]
    congr 1
    refine (nAll_congr NC (fun o ho => ?_)).symm
    by_cases e : o = c
    · subst e
      rw [d0, c3, c1, nI_clamp (by omega), nI_clamp (by omega), x3]
    · rw [oth o 0 e (by omega) (by omega)]
/-- a rival is in a try -/
theorem RivR_try {S W PL NC c o ℓ : Nat} {b : Bool} {len : Nat → Nat} {so wh : Nat → Nat → Nat} (hz : Siz S W PL NC) {m : Rw} (h : RI S W PL NC len so wh m) (ho : o < NC) (hr : RivR S W m c o ℓ b) : m (cat o 3) = nI 1 := by
  obtain ⟨k, b', st, c1, c2, c3, c4, c5, c6, c7, c8, c9, c10⟩ := h.2.2.1 o ho
  by_cases e : st = 1
  · rw [c4, e]
  · have hn := c8 e
    obtain ⟨-, w, hf, hm⟩ := hr
    have hs : ℓ % S < S := Nat.mod_lt _ hz.1
    have := hn _ w hs hf.1
    rcases hm with hm | ⟨-, hm⟩
    · rw [this.2, nI_inj (by omega) (by omega)] at hm; omega
    · rw [this.1, nI_inj (by omega) (by omega)] at hm; omega
theorem RI_EndsL {S W PL NC cause r : Nat} {tries : Int32} {len : Nat → Nat} {so wh : Nat → Nat → Nat} (hz : Siz S W PL NC) (hk : cause < 4) : ∀ (n : Nat) {m m' : Rw}, n ≤ NC → (∀ o, o < n → r.testBit o = true → m (cat o 3) = nI 1) → EndsL S W cause tries r n m m' → RI S W PL NC len so wh m → RI S W PL NC len so wh m' := by
  obtain ⟨p1, p2, p3, p4, p5, p6, p7, p8⟩ := id hz
  intro n
  induction n with
  | zero => intro m m' _ _ h hp; rw [h]; exact hp
  | succ n ih =>
    intro m m' hn hr h hp
    obtain ⟨m1, h1, ⟨h3, h2⟩ | ⟨-, h2⟩⟩ := h
    · refine RI_Ends hz hk (by omega) ?_ h2 (ih (by omega) (fun o ho => hr o (by omega)) h1 hp)
      have hx := cat_lt (show n < 4 by omega) (show 3 < 14 by omega)
      rw [EndsL_low hk n h1 _ (by omega) (fun o k ho _ hk' z => by have := (cat_inj (by omega) hk' z).1; omega), hr n (by omega) h3, ne_eq, nI_inj (by omega) (by omega)]
      omega
    · rw [h2]; exact ih (by omega) (fun o ho => hr o (by omega)) h1 hp
theorem RI_Dec {S W PL NC rule c ℓ how r : Nat} {tries : Int32} {b : Bool} {len : Nat → Nat} {so wh : Nat → Nat → Nat} (hz : Siz S W PL NC) (hc : c < NC) {m m' : Rw} (hst : m (cat c 3) ≠ nI 0) (h : DecR S W NC rule tries c ℓ b m how r m') (hp : RI S W PL NC len so wh m) : RI S W PL NC len so wh m' := by
  obtain ⟨p1, p2, p3, p4, p5, p6, p7, p8⟩ := id hz
  obtain ⟨v, hv, ⟨-, -, -, h⟩ | ⟨-, -, -, -, -, h⟩ | ⟨-, -, -, -, h⟩ | ⟨-, -, -, -, -, h⟩⟩ := h
  · rw [h]; exact hp
  · rw [h]; exact hp
  · exact RI_Ends hz (by omega) hc hst h hp
  · exact RI_EndsL hz (by omega) NC (Nat.le_refl _) (fun o ho hb => RivR_try hz hp ho ((hv.2 o (by omega)).mp hb).2) h hp
/-- a row that differs in places, memory and traffic only -/
theorem RI_places {S W PL NC : Nat} {len : Nat → Nat} {so wh : Nat → Nat → Nat} (hz : Siz S W PL NC) {m m' : Rw} (hp' : PI S W PL NC m') (e : ∀ i, i < 254 → i ≠ 1 → i ≠ 2 → i ≠ 3 → m' i = m i) (hm : ∀ c, c < NC → NoMk S W c m → m (cat c 3) ≠ nI 1 → NoMk S W c m') (hp : RI S W PL NC len so wh m) : RI S W PL NC len so wh m' := by
  obtain ⟨p1, p2, p3, p4, p5, p6, p7, p8⟩ := id hz
  obtain ⟨h1, h2, h3, h4⟩ := hp
  have ec : ∀ c k, c < NC → k < 14 → m' (cat c k) = m (cat c k) := fun c k a1 a2 => by
    have := cat_lt (show c < 4 by omega) a2
    refine e _ (by omega) ?_ ?_ ?_ <;> (unfold cat; omega)
  refine ⟨hp', h2, fun c hc => ?_, ?_⟩
  · obtain ⟨k, b, st, c1, c2, c3, c4, c5, c6, c7, c8, c9, c10⟩ := h3 c hc
    exact ⟨k, b, st, by rw [ec c 0 hc (by omega)]; exact c1, c2, by rw [ec c 6 hc (by omega)]; exact c3, by rw [ec c 3 hc (by omega)]; exact c4, c5, c6, c7, fun z => hm c hc (c8 z) (by rw [c4, ne_eq, nI_inj (by omega) (by omega)]; exact z), by rw [ec c 1 hc (by omega)]; exact c9, by rw [ec c 2 hc (by omega)]; exact c10⟩
  · rw [e 4 (by omega) (by omega) (by omega) (by omega), h4]
    congr 1
    exact (nAll_congr NC (fun o ho => by rw [ec o 0 ho (by omega)])).symm
