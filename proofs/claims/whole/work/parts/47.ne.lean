theorem nAll_le {so : Nat → Nat → Nat} {m : Rw} {c : Nat} : ∀ n, (∀ o, o < n → nend (so o) (m (cat o 0)).toNatClampNeg ≤ 12) → (c < n → nend (so c) (m (cat c 0)).toNatClampNeg ≤ 11) → nAll so m n + (if c < n then 1 else 0) ≤ 12 * n := by
  intro n
  induction n with
  | zero => intro _ _; simp [nAll]
  | succ n ih =>
    intro h hc
    have i := ih (fun o ho => h o (by omega)) (fun z => hc (by omega))
    have q := h n (by omega)
    unfold nAll
    by_cases e : c = n
    · subst e
      have := hc (by omega)
      rw [if_neg (by omega)] at i
      rw [if_pos (by omega)]
      omega
    · by_cases e2 : c < n
      · rw [if_pos e2] at i; rw [if_pos (by omega)]; omega
      · rw [if_neg e2] at i; rw [if_neg (by omega)]; omega
/-- the deeds of a core, as the reference has them -/
def DeedsM (c len : Nat) (so wh : Nat → Nat) (ix : Nat → Bool) (g : zG) : Prop := g 35 0 c = nI len ∧ ∀ j, j < len → g 37 0 (24 * c + j) = nI (so j) ∧ (3 ≤ so j → g 39 0 (24 * c + j) = nI (wh j) ∧ g 41 0 (24 * c + j) = bI (ix j))
theorem X7_step_RI {S W PL NC : Nat} {g : zG} (hP : MPar S W PL NC g) {c rule : Nat} {len : Nat → Nat} {so wh : Nat → Nat → Nat} {ix : Nat → Nat → Bool} (hc : c < NC) (hd : DeedsM c (len c) (so c) (wh c) (ix c) g) (hr : g 35007 0 0 = nI rule) (hr2 : rule ≤ 2) (hp : RI S W PL NC len so wh (g 43 0)) :
    ∃ g' how r, X7_steps (nI c) g = some (nI how, g') ∧ StepR S W PL NC rule (g 36007 0 0) (len c) (so c) (wh c) (ix c) c (g 43 0) how r (g' 43 0) ∧ RI S W PL NC len so wh (g' 43 0) ∧ FrM g g' ∧ EndE 0 r (g' 38007 0 0) ∧ how ≤ 3 := by
  have hz : Siz S W PL NC := hP.1
  obtain ⟨p1, p2, p3, p4, p5, p6, p7, p8⟩ := id hz
  obtain ⟨k, b, st, c1, c2, c3, c4, c5, c6, c7, c8, c9, c10⟩ := hp.2.2.1 c hc
  have hw := hp.2.1 c hc
  obtain ⟨g', how, r, k1, k2, k3, k4, k5⟩ := X7_steps_ok hP (so := so c) (wh := wh c) (ix := ix c) (len := len c) hc c1 (by have := hw.1; omega) hd.1 hw.1 (fun j hj => by
      obtain ⟨d1, d2⟩ := hd.2 j hj
      obtain ⟨w1, -, -, w4, w5⟩ := hw.2.2 j hj
      refine ⟨d1, w1, fun h3 => ⟨(d2 h3).1, ?_, (d2 h3).2⟩⟩
      by_cases e : 5 ≤ so c j
      · exact w4 e
      · have := w5 (by omega); omega) hr hr2 hp.1.lok hp.1.lk (fun hk hs => c8 (fun z => by
        have h1 := (hw.2.2 k hk).2.1 hs
        have h2 := c6.mp (by omega)
        rw [h1] at h2; cases h2)) (fun hk hs => by
      refine ⟨nAll so (g 43 0) NC, ?_, hp.2.2.2⟩
      have all : ∀ o, o < NC → nend (so o) (g 43 0 (cat o 0)).toNatClampNeg ≤ 12 := fun o ho => by
        obtain ⟨k', b', st', e1, e2, -⟩ := hp.2.2.1 o ho
        have ho' := hp.2.1 o ho
        have := nend_le ho' k' e2
        have := ho'.1
        rw [e1, nI_clamp (by omega)]
        omega
      have own : nend (so c) (g 43 0 (cat c 0)).toNatClampNeg ≤ 11 := by
        have := nend_le hw k c2
        rw [(hw.2.2 k hk).2.2.1 (Or.inl hs), if_pos rfl] at this
        have := hw.1
        rw [c1, nI_clamp (by omega)]
        omega
      have := nAll_le (c := c) NC all (fun _ => own)
      rw [if_pos hc] at this
      omega) c9 c10
  exact ⟨g', how, r, k1, k2, RI_step hz hc hp k2, k3, k4, k5⟩
