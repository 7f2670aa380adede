theorem RI_num {S W PL NC : Nat} {len : Nat → Nat} {so wh : Nat → Nat → Nat} (hz : Siz S W PL NC) {m m' : Rw} (e1 : ∀ i, 254 ≤ i → m' i = m i) (e2 : ∀ c k, c < NC → k < 7 → k ≠ 4 → k ≠ 5 → m' (cat c k) = m (cat c k)) (e3 : m' 4 = m 4) (hp : RI S W PL NC len so wh m) : RI S W PL NC len so wh m' := by
  obtain ⟨h1, h2, h3, h4⟩ := hp
  refine ⟨PI_low h1 e1, h2, fun c hc => ?_, ?_⟩
  · obtain ⟨k, b, st, c1, c2, c3, c4, c5, c6, c7, c8, c9, c10⟩ := h3 c hc
    refine ⟨k, b, st, by rw [e2 c 0 hc (by omega) (by omega) (by omega)]; exact c1, c2, by rw [e2 c 6 hc (by omega) (by omega) (by omega)]; exact c3, by rw [e2 c 3 hc (by omega) (by omega) (by omega)]; exact c4, c5, c6, c7, fun z s w a1 a2 => ?_, by rw [e2 c 1 hc (by omega) (by omega) (by omega)]; exact c9, by rw [e2 c 2 hc (by omega) (by omega) (by omega)]; exact c10⟩
    have := pos_ge c s w
    rw [e1 _ (by omega), e1 _ (by omega)]
    exact c8 z s w a1 a2
  · rw [e3, h4]
    congr 1
    exact (nAll_congr NC (fun o ho => by rw [e2 o 0 ho (by omega) (by omega) (by omega)])).symm
theorem RI_wait {S W PL NC c : Nat} {len : Nat → Nat} {so wh : Nat → Nat → Nat} (hz : Siz S W PL NC) (hc : c < NC) {m : Rw} (hp : RI S W PL NC len so wh m) : RI S W PL NC len so wh (rWait c m) := by
  have := cat_lt (show c < 4 by have := hz.par.2.2.2; omega) (show 13 < 14 by omega)
  unfold rWait
  refine RI_num hz (fun i hi => upd_ne (by omega)) (fun o k ho hk _ _ => upd_ne (fun z => ?_)) (upd_ne (by unfold cat; omega)) hp
  have := (cat_inj (by omega) (by omega) z).2
  omega
/-- A or X is written -/
theorem RI_ax {S W PL NC c k v : Nat} {len : Nat → Nat} {so wh : Nat → Nat → Nat} (hz : Siz S W PL NC) (hc : c < NC) (hk : k = 1 ∨ k = 2) (hv : v < 1000) {m : Rw} (hp : RI S W PL NC len so wh m) : RI S W PL NC len so wh (upd m (cat c k) (nI v)) := by
  have hc4 : c < 4 := by have := hz.par.2.2.2; omega
  have hlt := cat_lt hc4 (show k < 14 by omega)
  obtain ⟨h1, h2, h3, h4⟩ := hp
  have e1 : ∀ i, 254 ≤ i → upd m (cat c k) (nI v) i = m i := fun i hi => upd_ne (by omega)
  have e2 : ∀ o j, j < 14 → j ≠ k → upd m (cat c k) (nI v) (cat o j) = m (cat o j) := fun o j hj hjk => upd_ne (fun z => hjk (cat_inj hj (by omega) z).2)
  have e3 : ∀ o j, (j = 1 ∨ j = 2) → (∃ a, a < 1000 ∧ m (cat o j) = nI a) → ∃ a, a < 1000 ∧ upd m (cat c k) (nI v) (cat o j) = nI a := fun o j hj h => by
    by_cases z : cat o j = cat c k
    · exact ⟨v, hv, upd_eq z⟩
    · rw [upd_ne z]; exact h
  refine ⟨PI_low h1 e1, h2, fun o ho => ?_, ?_⟩
  · obtain ⟨n, b, st, c1, c2, c3, c4, c5, c6, c7, c8, c9, c10⟩ := h3 o ho
    refine ⟨n, b, st, by rw [e2 o 0 (by omega) (by omega)]; exact c1, c2, by rw [e2 o 6 (by omega) (by omega)]; exact c3, by rw [e2 o 3 (by omega) (by omega)]; exact c4, c5, c6, c7, fun z s w a1 a2 => ?_, e3 o 1 (Or.inl rfl) c9, e3 o 2 (Or.inr rfl) c10⟩
    have := pos_ge o s w
    rw [e1 _ (by omega), e1 _ (by omega)]
    exact c8 z s w a1 a2
  · rw [upd_ne (by unfold cat; omega), h4]
    congr 1
    exact (nAll_congr NC (fun o ho => by rw [e2 o 0 (by omega) (by omega)])).symm
/-- a mark is set in a try -/
theorem RI_mark {S W PL NC c s w f : Nat} {len : Nat → Nat} {so wh : Nat → Nat → Nat} (hz : Siz S W PL NC) (hc : c < NC) (hs : s < S) (hw : w < W) (hf : f = 2 ∨ f = 3) {m : Rw} (hst : m (cat c 3) = nI 1) (hl : f = 3 → m (pos c s w) ≠ nI 16) (hp : RI S W PL NC len so wh m) : RI S W PL NC len so wh (upd m (pos c s w + f) (nI 1)) := by
  obtain ⟨p1, p2, p3, p4, p5, p6, p7, p8⟩ := id hz
  have ge := pos_ge c s w
  refine RI_places hz (PI_cell hz hc hs hw (by omega) (by omega) hp.1 (fun _ => Or.inr rfl) (fun z => Or.inr ⟨rfl, hl z⟩) (fun z => by omega)) (fun i hi _ _ _ => upd_ne (by omega)) (fun o ho hn hne s' w' a1 a2 => ?_) hp
  have hoc : o ≠ c := fun z => hne (by rw [z]; exact hst)
  rw [upd_ne (fun z => hoc (pos_inj (by omega) (by omega) (by omega) (by omega) (by omega) (by omega) z).1), upd_ne (fun z => hoc (pos_inj (by omega) (by omega) (by omega) (by omega) (by omega) (by omega) z).1)]
  exact hn s' w' a1 a2
theorem RI_get {S W PL NC c s w k : Nat} {len : Nat → Nat} {so wh : Nat → Nat → Nat} (hz : Siz S W PL NC) (hc : c < NC) (hs : s < S) (hw : w < W) (hk : k < PL) {m : Rw} (hp : RI S W PL NC len so wh m) : RI S W PL NC len so wh (rGet c (pos c s w) k m) := by
  have h1 : RI S W PL NC len so wh (if m (cat c 3) = nI 1 then upd m (pos c s w + 2) (nI 1) else m) := by
    split
    · next e => exact RI_mark hz hc hs hw (Or.inl rfl) e (fun z => by omega) hp
    · exact hp
  unfold rGet
  obtain ⟨v, v1, v2⟩ := h1.1.wd c s w k hc hs hw hk
  dsimp only
  rw [v2]
  exact RI_ax hz hc (Or.inl rfl) v1 h1
theorem RI_put {S W PL NC c s w k ℓ : Nat} {old : Bool} {len : Nat → Nat} {so wh : Nat → Nat → Nat} (hz : Siz S W PL NC) (hc : c < NC) (hs : s < S) (hw : w < W) (hk : k < PL) {m : Rw} (hℓ : ℓ < 16) (hl : m (pos c s w) = nI ℓ) (hp : RI S W PL NC len so wh m) : RI S W PL NC len so wh (rPut PL c (pos c s w) k old m) := by
  obtain ⟨p1, p2, p3, p4, p5, p6, p7, p8⟩ := id hz
  have ge := pos_ge c s w
  have hb3 := cat_lt (show c < 4 by omega) (show 3 < 14 by omega)
  have g3 := (show cat c 3 = 6 + 14 * c + 3 from rfl)
  have wb : ∀ i, i ≠ 2 → ¬ (254 ≤ i ∧ i < 318) → rWB PL m (pos c s w) i = m i := fun i a b => rWB_low p6 ⟨ℓ, by omega, hl⟩ a b
  have h1 : RI S W PL NC len so wh (if m (cat c 3) = nI 1 ∧ old = true then rWB PL m (pos c s w) else m) ∧ ∀ i, i ≠ 2 → ¬ (254 ≤ i ∧ i < 318) → (if m (cat c 3) = nI 1 ∧ old = true then rWB PL m (pos c s w) else m) i = m i := by
    split
    · exact ⟨RI_places hz (PI_WB hz hc hs hw hp.1) (fun i a1 a2 a3 a4 => wb i a3 (by omega)) (fun o ho hn _ => (MF_WB hz ⟨ℓ, by omega, hl⟩).no ho hn) hp, wb⟩
    · exact ⟨hp, fun _ _ _ => rfl⟩
  unfold rPut
  dsimp only
  generalize (if m (cat c 3) = nI 1 ∧ old = true then rWB PL m (pos c s w) else m) = m3 at h1 ⊢
  obtain ⟨h1, e3⟩ := h1
  have h2 : RI S W PL NC len so wh (if m (cat c 3) = nI 1 then upd m3 (pos c s w + 3) (nI 1) else m3) := by
    split
    · next e =>
      refine RI_mark hz hc hs hw (Or.inr rfl) (by rw [e3 _ (by omega) (by omega)]; exact e) (fun _ => ?_) h1
      rw [e3 _ (by omega) (by omega), hl, ne_eq, nI_inj (by omega) (by omega)]
      omega
    · exact h1
  generalize (if m (cat c 3) = nI 1 then upd m3 (pos c s w + 3) (nI 1) else m3) = m4 at h2 ⊢
  obtain ⟨n, b, st, c1, c2, c3, c4, c5, c6, c7, c8, ⟨a, a1, a2⟩, c10⟩ := h2.2.2.1 c hc
  rw [Nat.add_assoc]
  refine RI_places hz (PI_cell hz hc hs hw (by omega) (by omega) h2.1 (fun z => by omega) (fun z => by omega) (fun _ => ⟨a, a1, a2⟩)) (fun i hi _ _ _ => upd_ne (by omega)) (fun o ho hn _ => (MF_cell hz hs hw (by omega) (by omega) (by omega) m4).no ho hn) h2
