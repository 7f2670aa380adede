/-! ===== the law: its rows ===== -/
theorem zM_XX (K : zKp) (fl fl' : Bool) (o o' : zG) : zM (XX K fl o) = zM (XX K fl' o') := by
  funext v
  rcases v with x | q | y <;> rfl
theorem zE_XX (K : zKp) (fl fl' : Bool) (o o' : zG) : ∀ (L : List (Option zV)) (k : Nat), zE (XX K fl o) k L = zE (XX K fl' o') k L := by
  intro L
  induction L with
  | nil => intro k; rfl
  | cons a L ih =>
    intro k
    rcases a with _ | x | q | y
    · exact ih (k + 1)
    · exact congrArg (List.cons (k, Value.int x)) (ih (k + 1))
    · exact congrArg (List.cons (k, Value.ref (zA (XX K fl' o') q))) (ih (k + 1))
    · exact ih (k + 1)
theorem zC0_XX (K : zKp) (fl fl' : Bool) (o o' : zG) (g : zG) (t i : Nat) : zC0 (XX K fl o) g t i = zC0 (XX K fl' o') g t i := by
  have e : (fun k f => zfv (XX K fl o) g t i k f) = (fun k f => zfv (XX K fl' o') g t i k f) := by
    funext k f
    cases f <;> rfl
  unfold zC0
  rcases zK t with ⟨ci, fs⟩ | ⟨j, n⟩ | ⟨j, n, r⟩
  · simp only [e]
  · rfl
  · rfl
theorem zW_XX (K : zKp) (gc gm : zG) : zW (XX K false gm) gc = zW (XX K true gc) gm := by
  unfold zW
  refine List.map_congr_left (fun q _ => ?_)
  have e : zC (XX K false gm) gc q.1 q.2 = zC (XX K true gc) gm q.1 q.2 := by
    unfold zC
    rw [zC0_XX K false true gm gc]
    congr 1
    unfold zpk
    show (if zmod q.1 = false then gc else gm) = (if zmod q.1 = true then gm else gc)
    cases zmod q.1 <;> rfl
  rw [e]
  rfl
def LC (K : zKp) (p : Program) (s : State) (m : MethodId) (meth : Method) (c : Code) (b L : Nat) (xs : Nat → Int32) : Prop :=
  lw_At p s m meth c b L xs ∧ K.2.2.1 = s.heap.size ∧ K.2.2.2.1 1000 = b ∧ ∀ fl o, nS (XX K fl o) s s.heap ∧ yS (XX K fl o) s s.heap
section LV
variable {p : Program} {l : Launch} {e : Env} {s : State} {m : MethodId} {below : List Frame} {meth : Method} {c : Code} {cells slots : Nat} {Q : State → Prop} {K : zKp} {b Ln : Nat} {xs : Nat → Int32}
variable {g gc gm : zG} {pc : Nat} {L L' : List (Option zV)} {st : List zV} {fl : Bool} {o : zG}
theorem LC.x (A : LC K p s m meth c b Ln xs) (fl : Bool) (o : zG) (h1 : cells ≤ 601024) (h2 : slots ≤ 7293034) : Cx (XX K fl o) p room_1 s m #[Value.ref b] meth c cL_law 7 RL cells slots :=
  ⟨A.1.1, A.1.2.1, A.1.2.2.2.1, A.1.2.2.2.2.1, fun w hw => A.1.2.2.2.2.2.1 w (List.mem_filter.mp hw).1, (A.2.2.2 fl o).1.1, A.1.2.2.2.2.2.2.2.2.1, h1, h2⟩
theorem v_flip (kk : V (XX K true gc) p l e room_1 s m #[Value.ref b] below meth c 7 cells slots Q gm pc L st) : V (XX K false gm) p l e room_1 s m #[Value.ref b] below meth c 7 cells slots Q gc pc L st := by
  intro H locs ls hP hS h
  rw [zW_XX] at hP
  rw [zE_XX K false true gm gc] at h
  rw [zM_XX K false true gm gc]
  exact kk H locs ls hP hS h
theorem v_flop (kk : V (XX K false gm) p l e room_1 s m #[Value.ref b] below meth c 7 cells slots Q gc pc L st) : V (XX K true gc) p l e room_1 s m #[Value.ref b] below meth c 7 cells slots Q gm pc L st := by
  intro H locs ls hP hS h
  rw [← zW_XX] at hP
  rw [zE_XX K true false gc gm] at h
  rw [zM_XX K true false gc gm]
  exact kk H locs ls hP hS h
theorem v_wide {X : zX} {cells' slots' : Nat} (h1 : cells ≤ cells') (h2 : slots ≤ slots') (kk : V X p l e room_1 s m #[Value.ref b] below meth c 7 cells' slots' Q g pc L st) : V X p l e room_1 s m #[Value.ref b] below meth c 7 cells slots Q g pc L st :=
  fun H locs ls hP hS h => W.widen h1 h2 (kk H locs ls hP hS h)
theorem LC.nb (A : LC K p s m meth c b Ln xs) (fl : Bool) (o : zG) : ¬ zF (XX K fl o) b := fun z => by
  have h1 : K.2.2.1 ≤ b := z.1
  have h2 := A.2.1
  have h3 := A.1.2.2.2.2.2.2.2.1
  omega
theorem v_slen (A : LC K p s m meth c b Ln xs) (hd : decode cL_law pc = .ok (.arraylength, 1)) (kk : V (XX K fl o) p l e room_1 s m #[Value.ref b] below meth c 7 cells slots Q g (pc + 1) L (.inl (nI Ln) :: st)) : V (XX K fl o) p l e room_1 s m #[Value.ref b] below meth c 7 cells slots Q g pc L (.inr (.inl (60, 1000)) :: st) := by
  intro H locs ls hP hS h
  have k := kk H locs ls hP hS h
  have e : zA (XX K fl o) (60, 1000) = b := A.2.2.1
  show W _ _ _ _ _ _ _ _ _ _ _ _ _ _ _ (F0 m pc ls (.ref (zA (XX K fl o) (60, 1000)) :: st.map (zM (XX K fl o))))
  rw [e]
  exact va_slen A.1.1 A.1.2.1 A.1.2.2.2.2.2.2.1 A.1.2.2.2.2.2.2.2.1 (A.nb fl o) hS hd k
theorem v_sld (A : LC K p s m meth c b Ln xs) {a : Nat} (ha : a < Ln) (hL : Ln ≤ 3072) (hd : decode cL_law pc = .ok (.iaload, 1)) (kk : V (XX K fl o) p l e room_1 s m #[Value.ref b] below meth c 7 cells slots Q g (pc + 1) L (.inl (xs a) :: st)) : V (XX K fl o) p l e room_1 s m #[Value.ref b] below meth c 7 cells slots Q g pc L (.inl (nI a) :: .inr (.inl (60, 1000)) :: st) := by
  intro H locs ls hP hS h
  have k := kk H locs ls hP hS h
  have e : zA (XX K fl o) (60, 1000) = b := A.2.2.1
  show W _ _ _ _ _ _ _ _ _ _ _ _ _ _ _ (F0 m pc ls (.int (nI a) :: .ref (zA (XX K fl o) (60, 1000)) :: st.map (zM (XX K fl o))))
  rw [e]
  refine va_sld A.1.1 A.1.2.1 A.1.2.2.2.2.2.2.1 A.1.2.2.2.2.2.2.2.1 (A.nb fl o) hS (vp_in_nI ha (by omega)) hd ?_
  rw [nI_clamp (by omega)]
  exact k
theorem v_iaddn {X : zX} (C : Cx X p room_1 s m #[Value.ref b] meth c cL_law 7 RL cells slots) {x y : Nat} (hd : decode cL_law pc = .ok (.iadd, 1)) (kk : V X p l e room_1 s m #[Value.ref b] below meth c 7 cells slots Q g (pc + 1) L (.inl (nI (x + y)) :: st)) : V X p l e room_1 s m #[Value.ref b] below meth c 7 cells slots Q g pc L (.inl (nI y) :: .inl (nI x) :: st) :=
  v_iadd C hd (by rw [nI_add]; exact kk)
/-- the script's a-th int, pushed -/
theorem v_arg (A : LC K p s m meth c b Ln xs) (C : Cx (XX K fl o) p room_1 s m #[Value.ref b] meth c cL_law 7 RL cells slots) {a k : Nat} {n : Int} (hk : Int32.ofInt n = nI k) (ha : a + k < Ln) (hL : Ln ≤ 3072) (h0 : L[0]? = some (some (.inr (.inl (60, 1000))))) (h4 : L[4]? = some (some (.inl (nI a))))
    (d0 : decode cL_law pc = .ok (.aload_n 0, 1)) (d1 : decode cL_law (pc + 1) = .ok (.iload 4, 2)) (d3 : decode cL_law (pc + 3) = .ok (.iconst n, 1)) (d4 : decode cL_law (pc + 4) = .ok (.iadd, 1)) (d5 : decode cL_law (pc + 5) = .ok (.iaload, 1))
    (kk : V (XX K fl o) p l e room_1 s m #[Value.ref b] below meth c 7 cells slots Q g (pc + 6) L (.inl (xs (a + k)) :: st)) : V (XX K fl o) p l e room_1 s m #[Value.ref b] below meth c 7 cells slots Q g pc L st :=
  v_aload_n C 0 d0 rfl h0 (v_iload C 4 d1 h4 (v_iconst C (nI k) d3 hk (v_iaddn C d4 (v_sld A ha hL d5 kk))))
theorem wD_161 : Cond.methodLink RL 161 yL_done ∈ zall := zall_of (i := 1049) (by decide +kernel) rfl
theorem wD_static : Cond.static yL_done ∈ zall := zall_of (i := 1050) (by decide +kernel) rfl
theorem wD_init : Cond.initialized yL_done.cls ∈ zall := zall_of (i := 130) (by decide +kernel) rfl
theorem wsD_in : ∀ w ∈ va_wsS RL 161 yL_done zwsD, w ∈ zall := by
  intro w hw
  unfold va_wsS at hw
  rcases List.mem_append.mp hw with h | h
  · rcases List.mem_cons.mp h with rfl | h
    · exact wD_161
    · rcases List.mem_cons.mp h with rfl | h
      · exact wD_static
      · rcases List.mem_cons.mp h with rfl | h
        · exact wD_init
        · cases h
  · rcases List.mem_cons.mp h with rfl | h
    · exact wD_code
    · exact h
theorem v_callLD (A : LC K p s m meth c b Ln xs) (C : Cx (XX K false o) p room_1 s m #[Value.ref b] meth c cL_law 7 RL cells slots) (hl : l.stackTraces = false) {v rr : Int32} {gr : zG} (hM : X6_done v g = some (rr, gr)) (hc : cells + 1 ≤ 601024) (hs : slots + 6 ≤ 7293034) (hd : decode cL_law pc = .ok (.invokestatic 161, 3))
    (kk : V (XX K false o) p l e room_1 s m #[Value.ref b] below meth c 7 (cells + 1) (slots + 6) Q (dG rr gr) (pc + 3) L [.inl (dK rr)]) : V (XX K false o) p l e room_1 s m #[Value.ref b] below meth c 7 cells slots Q g pc L [.inr (.inl (47, 0)), .inl v, .inr (.inl (0, 0))] := by
  intro H locs ls hP hS h
  have hsz : ls.size = 7 := h.1
  have hr := vx_runSW (p := p) (l := l) (e := e) (R := room_1) (s := s) (m := m) (args := #[Value.ref b]) (below := below) (meth := meth) (c := c) (H := H) (locs := locs) (cells := cells) (slots := slots) (own := RL) (index := 161) (y := yL_done) (bytes := cL_done) (maxL := 4) (ret := some .int) (hh := [(0, 9, 12, 13)]) (ws := zwsD) (n := 3) (As := [.inr (.inl (0, 0)), .inl v, .inr (.inl (47, 0))].map (zM (XX K false o))) (rest := []) (g := F0 m pc ls [.ref (zA (XX K false o) (47, 0)), .int v, .ref (zA (XX K false o) (0, 0))]) (zfix C) (c_L_done rfl hM l hl)
    (vx_cwSW (ws' := zall) 3 C.2.2.2.2.1 (fun w hw => ⟨wsD_in w hw, good_of_word (List.mem_filter.mp (wsD_in w hw)).2⟩) rfl rfl rfl ⟨by decide, by decide, by decide +kernel⟩ ⟨Nat.le_of_ble_eq_true rfl, Nat.le_of_ble_eq_true rfl⟩) ⟨eblind, eRS C.2.2.2.2.2.1 (A.2.2.2 false o).2 hP hS⟩ rfl rfl hsz rfl (Nat.le_of_ble_eq_true rfl) hd ⟨hc, hs⟩
  intro T hT Y
  obtain ⟨v', st₀, t, T', L, h0, X', hL, e1, e2, ⟨hv, hP1, hz, hk⟩, stp⟩ := hr T hT Y
  cases hv
  rw [h0] at hz hk
  obtain ⟨t2, a1, b1⟩ := kk T'.heap (locs ++ L) ls (by rw [e1]; exact hP1)
    ⟨Nat.le_trans hS.1 (by rw [e1]; exact hz), fun q h1 h2 => by rw [e1, hk q (Nat.lt_of_lt_of_le h1 hS.1) h2]; exact hS.2.1 q h1 h2, fun q hq => by
      rcases List.mem_append.mp hq with h | h
      · exact hS.2.2 q h
      · exact hL q h⟩ h T' rfl X'
  exact ⟨t2, stp t2 a1, b1⟩
end LV
/-- the law's long[] is no matter of the two -/
theorem INV_47 {gc gm : zG} (h : INV gc gm) (v : Int32) : INV (zU gc 47 0 0 v) gm := by
  have hc : ∀ f i j, f ≠ 47 → (zU gc 47 0 0 v) f i j = gc f i j := fun f i j x => zU_ne _ _ (by omega)
  obtain ⟨⟨⟨t, b1, b2, b3⟩, b4, b5, b6, b7, b8, b9, b, b10, b11⟩, hT⟩ := h
  refine ⟨⟨⟨t, b1, by rw [hc _ _ _ (by omega)]; exact b2, b3⟩, fun k hk => ?_, ?_, ?_, fun z => ?_, ?_, fun c a => ?_, b, ?_, b11⟩, ?_⟩
  · rw [hc _ _ _ (by omega)]; exact b4 k hk
  · rw [hc _ _ _ (by omega)]; exact b5
  · rw [hc _ _ _ (by omega)]; exact b6
  · rw [hc _ _ _ (by omega)]; exact b7 z
  · rw [hc _ _ _ (by omega)]; exact b8
  · rw [hc _ _ _ (by omega)]; exact b9 c a
  · rw [hc _ _ _ (by omega)]; exact b10
  · rcases hT with ⟨a1, a2, a3, a4, a5, a6, a7⟩ | ⟨S, W, PL, NC, rl, tr, len, so, wh, ix, hT, hB, hK⟩
    · refine Or.inl ⟨?_, a2, ?_, ?_, ?_, ?_, fun c a => ?_⟩
      · rw [hc _ _ _ (by omega)]; exact a1
      · rw [hc _ _ _ (by omega)]; exact a3
      · rw [hc _ _ _ (by omega)]; exact a4
      · rw [hc _ _ _ (by omega)]; exact a5
      · rw [hc _ _ _ (by omega)]; exact a6
      · rw [hc _ _ _ (by omega)]; exact a7 c a
    · refine Or.inr ⟨S, W, PL, NC, rl, tr, len, so, wh, ix, hT.fr (fun f i j a _ => hc f i j (by omega)) (fun f i j a => rfl), ?_, fun z => ?_⟩
      · exact hB.fr hT.1.1 (fun f i j a _ => hc f i j (by unfold ofRun at a; omega))
      · exact (hK z).fr hT.1.1 (fun f i j a _ => hc f i j (by unfold ofRun at a; omega))
