/-! ===== waysFor: a begin, an end of a core alone ===== -/
def Cmn (S W NC c tr k st lost q : Nat) (m : Rw) : Prop := m (cat c 0) = nI k ∧ m (cat c 3) = nI st ∧ st ≤ 2 ∧ m 5 = (if st = 2 then nI c else -2) ∧ m (cat c 4) = nI lost ∧ (lost = 0 ∨ lost = tr) ∧ (st = 1 → lost = 0) ∧ (st = 2 → lost = tr) ∧ m (cat c 8) = nI q ∧ Oth0 S W NC c m
def SY (S W PL c : Nat) (o : Bool) (m : Rw) (t : St) : Prop := m (cat c 1) = nI t.2.1 ∧ m (cat c 2) = nI t.2.2.1 ∧ WSy S W PL c m t.1 ∧ (o = true → MkS S W c m t.2.2.2.1) ∧ StB t ∧ t.2.2.2.2 ≤ W
theorem Oth0_hi {S W NC c : Nat} {m m' : Rw} (h : Oth0 S W NC c m) (e : ∀ i, 318 ≤ i → m' i = m i) : Oth0 S W NC c m' := fun o s w a b d x => by
  rw [e _ (pos_ge o s w)]; exact h o s w a b d x
theorem Oth0_cell {S W PL NC c s w f : Nat} {v : Int32} {m : Rw} (hz : Siz S W PL NC) (hs : s < S) (hw : w < W) (hf : f < 9) (h : Oth0 S W NC c m) : Oth0 S W NC c (upd m (pos c s w + f) v) := fun o s' w' a b d x => by
  obtain ⟨p1, p2, p3, p4, p5, p6, p7, p8⟩ := id hz
  rw [upd_ne (fun z => b (pos_inj (c := o) (s := s') (w := w') (f := 0) (c' := c) (s' := s) (w' := w) (f' := f) (by omega) (by omega) (by omega) (by omega) (by omega) (by omega) (by rw [Nat.add_zero]; exact z)).1)]
  exact h o s' w' a b d x
theorem MkS_hi {S W c T : Nat} {m m' : Rw} (h : MkS S W c m T) (e : ∀ i, 318 ≤ i → m' i = m i) : MkS S W c m' T := by
  have ge := pos_ge
  intro ℓ hℓ
  rw [h ℓ hℓ]
  constructor
  · rintro ⟨w, a, b, d⟩
    refine ⟨w, a, ?_⟩
    rw [e _ (by have := ge c (ℓ % S) w; omega), e _ (by have := ge c (ℓ % S) w; omega), e _ (by have := ge c (ℓ % S) w; omega)]
    exact ⟨b, d⟩
  · rintro ⟨w, a, b⟩
    refine ⟨w, a, ?_⟩
    rw [e _ (by have := ge c (ℓ % S) w; omega), e _ (by have := ge c (ℓ % S) w; omega), e _ (by have := ge c (ℓ % S) w; omega)] at b
    exact b
theorem cat_ne {c a b : Nat} (h : a ≠ b) : cat c a ≠ cat c b := fun z => h (by unfold cat at z; omega)
theorem cat_ge (c k : Nat) : 6 ≤ cat c k := by unfold cat; omega
theorem Cmn.low {S W NC c tr k st lost q : Nat} {m m' : Rw} (h : Cmn S W NC c tr k st lost q m) (e : ∀ i, 318 ≤ i → m' i = m i) (e5 : m' 5 = m 5) (ec : ∀ j, j = 0 ∨ j = 3 ∨ j = 4 ∨ j = 8 → m' (cat c j) = m (cat c j)) : Cmn S W NC c tr k st lost q m' := by
  obtain ⟨h1, h2, h3, h4, h5, h6, h7, h8, h9, h10⟩ := h
  exact ⟨by rw [ec 0 (by omega)]; exact h1, by rw [ec 3 (by omega)]; exact h2, h3, by rw [e5]; exact h4, by rw [ec 4 (by omega)]; exact h5, h6, h7, h8, by rw [ec 8 (by omega)]; exact h9, Oth0_hi h10 e⟩
theorem Cmn.next {S W NC c tr k st lost q : Nat} {m : Rw} (hc : c < 4) (h : Cmn S W NC c tr k st lost q m) : Cmn S W NC c tr (k + 1) st lost q (upd m (cat c 0) (m (cat c 0) + nI 1)) := by
  obtain ⟨h1, h2, h3, h4, h5, h6, h7, h8, h9, h10⟩ := h
  have := cat_ge c 0
  have := cat_lt hc (show 0 < 14 by omega)
  refine ⟨by rw [upd_eq rfl, h1, nI_add], by rw [upd_ne (cat_ne (by omega))]; exact h2, h3, by rw [upd_ne (by omega)]; exact h4, by rw [upd_ne (cat_ne (by omega))]; exact h5, h6, h7, h8, by rw [upd_ne (cat_ne (by omega))]; exact h9, Oth0_hi h10 (fun i hi => upd_ne (by omega))⟩
theorem SY.low {S W PL c : Nat} {o : Bool} {m m' : Rw} {t : St} (h : SY S W PL c o m t) (e : ∀ i, 254 ≤ i → m' i = m i) (e1 : m' (cat c 1) = m (cat c 1)) (e2 : m' (cat c 2) = m (cat c 2)) : SY S W PL c o m' t := by
  obtain ⟨h1, h2, h3, h4, h5, h6⟩ := h
  exact ⟨e1.trans h1, e2.trans h2, WSy_low h3 e, fun z => MkS_low (h4 z) e, h5, h6⟩
theorem SY.next {S W PL c : Nat} {o : Bool} {m : Rw} {v : Int32} {t : St} (hc : c < 4) (h : SY S W PL c o m t) : SY S W PL c o (upd m (cat c 0) v) t := by
  have := cat_lt hc (show 0 < 14 by omega)
  exact h.low (fun i hi => upd_ne (by omega)) (upd_ne (cat_ne (by omega))) (upd_ne (cat_ne (by omega)))
theorem MkS_none {S W c : Nat} {m : Rw} (hS : 0 < S) (h : NoMk S W c m) : MkS S W c m 0 := by
  intro ℓ hℓ
  constructor
  · intro z; simp at z
  · rintro ⟨w, a, -, d⟩
    have := h (ℓ % S) w (Nat.mod_lt _ hS) a
    rw [this.1, this.2, nI_inj (by omega) (by omega)] at d
    omega
theorem solo_begin {S W PL NC c tr k lost q how r : Nat} {m m' : Rw} (hz : Siz S W PL NC) (hc : c < NC) (htr : 1 ≤ tr ∧ tr ≤ 9) (hp : PI S W PL NC m) (hno : NoMk S W c m) (hC : Cmn S W NC c tr k 0 lost q m) (h : BgnR S W PL NC (nI tr) c m how r m') :
    how = 1 ∧ ∃ st', Cmn S W NC c tr k st' lost q m' ∧ (lost = 0 → ∀ o t, SY S W PL c o m t → SY S W PL c true m' (t.1, 0, 0, 65536, t.2.2.2.2)) := by
  obtain ⟨p1, p2, p3, p4, p5, p6, p7, p8⟩ := id hz
  obtain ⟨c1, c2, c3, c4, c5, c6, c7, c8, c9, c10⟩ := id hC
  rw [if_neg (by omega)] at c4
  have hs : 16 % S < S := Nat.mod_lt _ p1
  have lt := fun j (hj : j < 14) => cat_lt (show c < 4 by omega) hj
  have ge := cat_ge c
  have l0 := lt 0 (by omega); have l3 := lt 3 (by omega); have l4 := lt 4 (by omega); have l8 := lt 8 (by omega)
  have g0 := ge 0; have g3 := ge 3; have g4 := ge 4; have g8 := ge 8
  have tl : ∀ M j, j = 0 ∨ j = 3 ∨ j = 4 ∨ j = 8 → rTail c M (cat c j) = M (cat c j) := fun M j hj => rTail_out (fun k hk => cat_ne (by omega))
  have tl5 : ∀ M, rTail c M 5 = M 5 := fun M => rTail_out (fun k hk => by have := ge k; omega)
  have th : ∀ M i, 62 ≤ i → rTail c M i = M i := fun M i hi => rTail_out (fun k hk => by have := lt k (by omega); omega)
  obtain ⟨hh, ⟨hlt, w, m1, hb, rfl⟩ | ⟨hlt, w, m1, hb, rfl⟩⟩ := Bgn_solo hz hc c10 c4 h
  · obtain ⟨hw, hl, -, low, ho, hws, hmk⟩ := Brg_sync (T := 0) (t := fun _ => 0) hz hc (Nat.le_refl 16) c10 hp hb
    have ga := pos_ge c (16 % S) w
    have e0 : lost = 0 := by
      rcases c6 with z | z
      · exact z
      · rw [c5, z] at hlt; exact absurd hlt (by rw [nI_lti (by omega) (by omega)]; omega)
    refine ⟨hh, 1, ⟨?_, ?_, by omega, ?_, ?_, c6, fun _ => e0, fun z => by omega, ?_, ?_⟩, fun _ o t hS => ⟨?_, ?_, ?_, fun _ => ?_, ?_, hS.2.2.2.2.2⟩⟩
    · rw [tl _ _ (by omega), upd_ne (cat_ne (by omega)), upd_ne (by omega), low _ (by omega) (by omega) (by omega) (by omega)]; exact c1
    · rw [tl _ _ (by omega), upd_eq rfl]
    · rw [if_neg (by omega), tl5, upd_ne (by omega), upd_ne (by omega), low _ (by omega) (by omega) (by omega) (by omega)]; exact c4
    · rw [tl _ _ (by omega), upd_ne (cat_ne (by omega)), upd_ne (by omega), low _ (by omega) (by omega) (by omega) (by omega)]; exact c5
    · rw [tl _ _ (by omega), upd_ne (cat_ne (by omega)), upd_ne (by omega), low _ (by omega) (by omega) (by omega) (by omega)]; exact c9
    · refine Oth0_hi (m := upd m1 (pos c (16 % S) w + 2) (nI 1)) (Oth0_cell hz hs hw (by omega) ho) (fun i hi => ?_)
      rw [th _ _ (by omega), upd_ne (by omega)]
    · exact rTail_at.1
    · exact rTail_at.2.1
    · obtain ⟨-, -, -, -, -, hws', -⟩ := Brg_sync (T := 0) (t := t.1) hz hc (Nat.le_refl 16) c10 hp hb
      refine WSy_low (m := upd m1 (pos c (16 % S) w + 2) (nI 1)) (WSy_mark hz hs hw (Or.inl rfl) (hws' hS.2.2.1)) (fun i hi => ?_)
      rw [th _ _ (by omega), upd_ne (by omega)]
    · have k1 := MkS_set (f := 2) hz hc (PI_Brg hz hc (Nat.le_refl 16) hb hp) (Nat.le_refl 16) hw (Or.inl rfl) hl (hmk (MkS_none p1 hno))
      rw [show 0 ||| 2 ^ 16 = 65536 by decide] at k1
      refine MkS_hi k1 (fun i hi => ?_)
      rw [th _ _ (by omega), upd_ne (by omega)]
    · obtain ⟨b1, b2, b3, b4, b5⟩ := hS.2.2.2.2.1
      exact ⟨b1, by simp, by simp, by simp, b5⟩
  · obtain ⟨hw, hl, -, low, ho, hws, hmk⟩ := Brg_sync (T := 0) (t := fun _ => 0) hz hc (Nat.le_refl 16) c10 hp hb
    have e0 : lost = tr := by
      rcases c6 with z | z
      · rw [c5, z] at hlt; exact absurd (show nI 0 < nI tr by rw [nI_lti (by omega) (by omega)]; omega) hlt
      · exact z
    refine ⟨hh, 2, ⟨?_, ?_, by omega, ?_, ?_, c6, fun z => by omega, fun _ => e0, ?_, ?_⟩, fun z => by omega⟩
    · rw [tl _ _ (by omega), upd_ne (cat_ne (by omega)), upd_ne (by omega), low _ (by omega) (by omega) (by omega) (by omega)]; exact c1
    · rw [tl _ _ (by omega), upd_eq rfl]
    · rw [if_pos rfl, tl5, upd_ne (by omega), upd_eq rfl]
    · rw [tl _ _ (by omega), upd_ne (cat_ne (by omega)), upd_ne (by omega), low _ (by omega) (by omega) (by omega) (by omega)]; exact c5
    · rw [tl _ _ (by omega), upd_ne (cat_ne (by omega)), upd_ne (by omega), low _ (by omega) (by omega) (by omega) (by omega)]; exact c9
    · refine Oth0_hi ho (fun i hi => ?_)
      rw [th _ _ (by omega), upd_ne (by omega), upd_ne (by omega)]
theorem rCmt_out {c n i : Nat} {m : Rw} (hn : n < 48) (h1 : i < 62 ∨ 254 ≤ i) (h4 : i ≠ 4) (h5 : i ≠ 5) (hk : ∀ k, k = 3 ∨ k = 4 ∨ k = 5 ∨ k = 11 ∨ k = 12 → i ≠ cat c k) : rCmt c n m i = m i := by
  unfold rCmt
  rw [upd_ne (hk 3 (by omega)), upd_ne (hk 5 (by omega)), upd_ne (hk 4 (by omega)), upd_ne (hk 11 (by omega)), upd_ne h4, upd_ne (by omega), upd_ne (by omega), upd_ne (by omega), upd_ne (by omega)]
  split
  · rw [upd_ne (hk 12 (by omega)), upd_ne h5]
  · rfl
theorem WSy_cm {S W PL NC c : Nat} {m m1 : Rw} {t : Nat → Nat} (hz : Siz S W PL NC) (hcm : CmR S W c S 0 m m1) (h : WSy S W PL c m t) : WSy S W PL c m1 t := by
  obtain ⟨p1, p2, p3, p4, p5, p6, p7, p8⟩ := id hz
  have keep : ∀ s w f, s < 4 → w < 17 → f < 9 → f ≠ 2 → f ≠ 3 → m1 (pos c s w + f) = m (pos c s w + f) := fun s w f a b d x y => hcm.2 _ (fun s' w' a' b' => ⟨fun z => x (pos_inj a (by omega) b (by omega) d (by omega) z).2.2.2, fun z => y (pos_inj a (by omega) b (by omega) d (by omega) z).2.2.2⟩)
  have keep0 : ∀ s w, s < 4 → w < 17 → m1 (pos c s w) = m (pos c s w) := fun s w a b => by
    have := keep s w 0 a b (by omega) (by omega) (by omega)
    rwa [Nat.add_zero] at this
  have mem : ∀ i, i < 318 → m1 i = m i := fun i hi => hcm.2 _ (fun s' w' _ _ => by have := pos_ge c s' w'; omega)
  refine ⟨fun ℓ w k a d x e => ?_, fun ℓ k a d x => ?_⟩
  · have hs' : ℓ % S < S := Nat.mod_lt _ p1
    rw [keep0 _ w (by omega) (by omega)] at e
    rw [Nat.add_assoc, keep _ w (5 + k) (by omega) (by omega) (by omega) (by omega) (by omega), ← Nat.add_assoc]
    exact h.1 ℓ w k a d x e
  · have hs' : ℓ % S < S := Nat.mod_lt _ p1
    have := mul_le_64 p6 a
    rw [mem _ (by omega)]
    refine h.2 ℓ k a d (fun w hw e => ?_)
    have := x w hw
    rw [keep0 _ w (by omega) (by omega), keep _ w 1 (by omega) (by omega) (by omega) (by omega) (by omega)] at this
    exact this e
/-- the lines of an open try have room -/
theorem MkS_wd {S W c T wd : Nat} {m : Rw} (hS : 0 < S) (h : MkS S W c m T) (hwd : wd ≤ W) : widS S T wd S ≤ W := by
  refine widS_bound hwd S (fun s hs => ?_)
  have ex : ∀ ℓ, ∃ w, ℓ ≤ 16 → T.testBit ℓ = true → w < W ∧ m (pos c (ℓ % S) w) = nI ℓ := fun ℓ => by
    by_cases z : ℓ ≤ 16 ∧ T.testBit ℓ = true
    · obtain ⟨w, a, b, -⟩ := (h ℓ z.1).mp z.2
      exact ⟨w, fun _ _ => ⟨a, b⟩⟩
    · exact ⟨0, fun a b => absurd ⟨a, b⟩ z⟩
  obtain ⟨f, hf⟩ := Classical.axiomOfChoice ex
  refine cnt_le 17 W f (fun i a b d => (hf i (by omega) d).1) (fun i j a b d e x y z => ?_)
  have q1 := (hf i (by omega) x).2
  have q2 := (hf j (by omega) y).2
  rw [d] at q1
  rw [e, ← z, q1, nI_inj (by omega) (by omega)] at q2
  exact q2
theorem solo_end {S W PL NC c tr k st lost q n : Nat} {m m1 : Rw} (hz : Siz S W PL NC) (hc : c < NC) (hC : Cmn S W NC c tr k st lost q m) (hn : n < 48) (hcm : CmR S W c S 0 m m1) :
    Cmn S W NC c tr k 0 0 q (rCmt c n m1) ∧ ∀ t wh ix, SY S W PL c true m t → SY S W PL c false (rCmt c n m1) (sDeed S PL 1 wh ix t) := by
  obtain ⟨p1, p2, p3, p4, p5, p6, p7, p8⟩ := id hz
  obtain ⟨c1, c2, c3, c4, c5, c6, c7, c8, c9, c10⟩ := id hC
  have lt := fun j (hj : j < 14) => cat_lt (show c < 4 by omega) hj
  have ge := cat_ge c
  have lo : ∀ i, i < 318 → m1 i = m i := fun i hi => hcm.2 _ (fun s' w' _ _ => by have := pos_ge c s' w'; omega)
  have ct : ∀ j, j < 14 → j ≠ 3 → j ≠ 4 → j ≠ 5 → j ≠ 11 → j ≠ 12 → rCmt c n m1 (cat c j) = m (cat c j) := fun j hj a b d e f => by
    have h1 := lt j hj; have h2 := ge j
    rw [rCmt_out hn (Or.inl h1) (by omega) (by omega) (fun k hk => cat_ne (by omega)), lo _ (by omega)]
  have hi : ∀ i, 254 ≤ i → rCmt c n m1 i = m1 i := fun i a => rCmt_out hn (Or.inr a) (by omega) (by omega) (fun k hk => by have := lt k (by omega); omega)
  have oth : Oth0 S W NC c m1 := fun o s w a b d e => by
    rw [hcm.2 _ (fun s' w' a' b' => ⟨fun z => b (pos_inj (c := o) (s := s) (w := w) (f := 0) (c' := c) (s' := s') (w' := w') (f' := 2) (by omega) (by omega) (by omega) (by omega) (by omega) (by omega) (by rw [Nat.add_zero]; exact z)).1, fun z => b (pos_inj (c := o) (s := s) (w := w) (f := 0) (c' := c) (s' := s') (w' := w') (f' := 3) (by omega) (by omega) (by omega) (by omega) (by omega) (by omega) (by rw [Nat.add_zero]; exact z)).1⟩)]
    exact c10 o s w a b d e
  refine ⟨⟨?_, ?_, by omega, ?_, ?_, Or.inl rfl, fun z => by omega, fun z => by omega, ?_, Oth0_hi oth (fun i a => hi i (by omega))⟩, fun t wh ix hS => ?_⟩
  · rw [ct 0 (by omega) (by omega) (by omega) (by omega) (by omega) (by omega)]; exact c1
  · unfold rCmt; rw [upd_eq rfl]
  · rw [if_neg (by omega)]
    unfold rCmt
    have g3 := ge 3; have g4 := ge 4; have g5 := ge 5; have g11 := ge 11; have g12 := ge 12
    have e3 : m1 (cat c 3) = nI st := by rw [lo _ (by have := lt 3 (by omega); omega)]; exact c2
    have e5 : m1 5 = if st = 2 then nI c else -2 := by rw [lo _ (by omega)]; exact c4
    rw [upd_ne (by omega), upd_ne (by omega), upd_ne (by omega), upd_ne (by omega), upd_ne (by omega), upd_ne (by omega), upd_ne (by omega), upd_ne (by omega), upd_ne (by omega), e3]
    by_cases z : st = 2
    · rw [if_pos (by rw [z]), upd_ne (by omega), upd_eq rfl]
    · rw [if_neg (by rw [nI_inj (by omega) (by omega)]; exact z), e5, if_neg z]
  · unfold rCmt; rw [upd_ne (cat_ne (by omega)), upd_ne (cat_ne (by omega)), upd_eq rfl]
  · rw [ct 8 (by omega) (by omega) (by omega) (by omega) (by omega) (by omega)]; exact c9
  · obtain ⟨s1, s2, s3, s4, s5, s6⟩ := hS
    have hb := s5.deed (S := S) (so := 1) (wh := wh) (ix := ix) p5
    have e : sDeed S PL 1 wh ix t = (t.1, t.2.1, t.2.2.1, t.2.2.2.1, widS S t.2.2.2.1 t.2.2.2.2 S) := by
      simp only [sDeed, show ¬ (1 = 0) by omega, if_true, if_false]
    rw [e] at hb ⊢
    refine ⟨?_, ?_, WSy_low (WSy_cm hz hcm s3) hi, (fun z => by cases z), hb, MkS_wd p1 (s4 rfl) s6⟩
    · rw [ct 1 (by omega) (by omega) (by omega) (by omega) (by omega) (by omega)]; exact s1
    · rw [ct 2 (by omega) (by omega) (by omega) (by omega) (by omega) (by omega)]; exact s2
