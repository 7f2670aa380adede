/-! ===== the law: its start and its loop ===== -/
theorem wL_RL_8 : Cond.classLink RL 8 RX6 ∈ zall := zall_of (i := 149) (by decide +kernel) rfl
theorem wL_RL_16 : Cond.classLink RL 16 RX7 ∈ zall := zall_of (i := 1118) (by decide +kernel) rfl
theorem wM_RL_15 : Cond.methodLink RL 15 yX6_init ∈ zall := zall_of (i := 151) (by decide +kernel) rfl
theorem wM_RL_18 : Cond.methodLink RL 18 yX7_init ∈ zall := zall_of (i := 1120) (by decide +kernel) rfl
theorem wA_long : Cond.arrayClass .long ∈ zall := zall_of (i := 1661) (by decide +kernel) rfl
section SV
variable {X : zX} {p : Program} {l : Launch} {e : Env} {R : Room} {s : State} {m : MethodId} {args : Array Value} {below : List Frame} {meth : Method} {c : Code} {cc : ByteArray} {nL : Nat} {own : String} {cells slots : Nat} {Q : State → Prop}
variable {g : zG} {τ n pc : Nat} {L L' : List (Option zV)} {st : List zV}
theorem n_astore_n (C : Cn X p s m args meth c cc nL own) {k : _root_.Fin 4} (i : Nat) {x : Nat × Nat} (hd : decode cc pc = .ok (.astore_n k, 1)) (hi : (k : Nat) = i) (hn : i < nL) (hL : L.set i (some (.inr (.inl x))) = L') (kk : NN X p l e R s m args below meth c nL Q g τ n cells slots (pc + 1) L' st) : NN X p l e R s m args below meth c nL Q g τ n cells slots pc L (.inr (.inl x) :: st) :=
  fun H locs ls hP hS h => lv_astore_n C.1 C.2.1 hd hi h hn rfl (fun ls' h' => kk H locs ls' hP hS (zE_set (v := .inr (.inl x)) h' hL))
theorem n_istore (C : Cn X p s m args meth c cc nL own) (i : Nat) {x : Int32} (hd : decode cc pc = .ok (.istore i, 2)) (hn : i < nL) (hL : L.set i (some (.inl x)) = L') (kk : NN X p l e R s m args below meth c nL Q g τ n cells slots (pc + 2) L' st) : NN X p l e R s m args below meth c nL Q g τ n cells slots pc L (.inl x :: st) :=
  fun H locs ls hP hS h => lv_istore C.1 C.2.1 hd h hn rfl (fun ls' h' => kk H locs ls' hP hS (zE_set (v := .inl x) h' hL))
theorem n_callI (C : Cn X p s m args meth c cc nL own) {y : MethodName} {bytes : ByteArray} {maxL k d mc ms index : Nat} {q : Nat × Nat} {as rest : List zV} {g' : zG} {τ' n' : Nat} (hM : NC X y bytes maxL d mc ms (.inr (.inl q) :: as) g τ n g' τ' n') (hw : zMW y bytes maxL none k) (hy : y.name = "<init>") (hin : Cond.instanceMethod y ∈ zall) (hl : Cond.methodLink own index y ∈ zall) (hR : d + 1 ≤ R.frames ∧ 8 + (maxL + 11) + 36 * d ≤ R.locals) (hn : as.length = k) (hrest : rest.length ≤ 4) (hf : cells + mc ≤ R.cells ∧ slots + ms ≤ R.slots) (hd : decode cc pc = .ok (.invokespecial index, 3)) (hst : st = as.reverse ++ .inr (.inl q) :: rest)
    (kk : NN X p l e R s m args below meth c nL Q g' τ' n' (cells + mc) (slots + ms) (pc + 3) L rest) : NN X p l e R s m args below meth c nL Q g τ n cells slots pc L st := by
  subst hst
  intro H locs ls hP hS h
  have hsz : ls.size = nL := h.1
  have hcr := zcat X rest
  refine n_call0 (a := ((.inr (.inl q) :: as).map (zM X)).toArray) (rest := rest.map (zM X)) ?_ hS (fun H1 locs1 hP1 hS1 => kk H1 locs1 ls hP1 hS1 h)
  refine va_runI (As := as.map (zM X)) (nfix C) (hM l) ⟨callB_of k C.w (zgood hw.1) rfl rfl rfl (C.w _ hw.2.1) (C.w _ hl) hw.2.2 hR, hy, C.w _ hin⟩ ⟨nblind, nRS C.2.2.2.2.2.1 hP hS⟩ rfl (by rw [List.length_map]; exact hn) hsz ?_ ?_ hd hf
  · simp [zM]
  · show 2 * 0 + _ ≤ 8
    omega
theorem n_newl (C : Cn X p s m args meth c cc nL own) (hq : zcds[n]? = some (47, 0)) (hg : ∀ k, g 47 0 k = 0) (hcells : cells + 1 ≤ R.cells) (hslots : slots + 1 ≤ R.slots) (hd : decode cc pc = .ok (.newarray .long, 2))
    (kk : NN X p l e R s m args below meth c nL Q g τ (n + 1) (cells + 1) (slots + 1) (pc + 2) L (.inr (.inl (47, 0)) :: st)) : NN X p l e R s m args below meth c nL Q g τ n cells slots pc L (.inl (nI 1) :: st) := by
  intro H locs ls hP hS h
  refine va_newaK (atype := .long) C.1 C.2.1 (C.w _ wA_long) rfl hd rfl (nI_pos (by omega)) (nI_clamp (by omega)) (by decide) hcells hslots hP.2 fun H1 cA e1 z1 o1 hAr hNm => ?_
  have hRA := (C.K.2 4 _ rfl).2
  have hcA : cA = X.2.1 4 := Option.some.inj (hNm.symm.trans hRA)
  have hk1 : ∀ (k : Nat) (x : Nat × va_E), (nW X g τ n)[k]? = some x → H1[x.1]? = H[x.1]? := fun k x hx => o1 x.1 (by rw [← hP.2]; exact (hP.1 k x hx).lt)
  have e : W p l e R s m args below meth c H1 locs (cells + 1) (slots + 1) Q (F0 m (pc + 2) ls (.ref (zA X (47, 0)) :: st.map (zM X))) := by
    refine kk H1 locs ls ⟨?_, by rw [z1]; rfl⟩ ⟨Nat.le_trans hS.1 (by rw [z1, hP.2]; omega), fun x h1 h2 => (o1 x (by rw [← hP.2]; exact Nat.lt_of_lt_of_le h1 hS.1)).trans (hS.2.1 x h1 h2), hS.2.2⟩ h
    rw [nW_push X g hq]
    refine (hP.1.kept hk1).app (fun k x hx => ?_)
    have hz : k < 1 := (List.getElem?_eq_some_iff.mp hx).1
    rw [show k = 0 by omega] at hx
    cases hx
    show H1[X.2.2.1 + n]? = some (vp_cell (X.2.1 4) (1, .inr (.inl (fun k => (g 47 0 k).toInt64))))
    rw [vp_cell_l, e1, hcA]
    congr 2
    funext k
    rw [hg]
    rfl
  rw [nA_at X hq] at e
  exact e
theorem v_gtN (C : Cx X p R s m args meth c cc nL own cells slots) {x y : Int32} {off : Int} (tgt : Nat) (hd : decode cc pc = .ok (.if_icmp .gt off, 3)) (ht : (pc : Int) + off = (tgt : Int)) (hlt : ¬ y < x) (kk : V X p l e R s m args below meth c nL cells slots Q g (pc + 3) L st) : V X p l e R s m args below meth c nL cells slots Q g pc L (.inl y :: .inl x :: st) :=
  fun H locs ls hP hS h => lv_icmp_gt C.1 C.2.1 hd ht (fun q => absurd q hlt) (fun _ => kk H locs ls hP hS h)
theorem v_gtY (C : Cx X p R s m args meth c cc nL own cells slots) {x y : Int32} {off : Int} (tgt : Nat) (hd : decode cc pc = .ok (.if_icmp .gt off, 3)) (ht : (pc : Int) + off = (tgt : Int)) (hlt : y < x) (kk : V X p l e R s m args below meth c nL cells slots Q g tgt L st) : V X p l e R s m args below meth c nL cells slots Q g pc L (.inl y :: .inl x :: st) :=
  fun H locs ls hP hS h => lv_icmp_gt C.1 C.2.1 hd ht (fun _ => kk H locs ls hP hS h) (fun q => absurd hlt q)
end SV
/-! the world is made -/
def nck (q : Nat × Nat) : Bool := match zK q.1 with
  | .inl (_, fs) => (List.range fs.length).all (fun a => (fs.getD a none).isNone || laid 178 q.1 q.2 a)
  | .inr (.inl _) => true
  | .inr (.inr (_, n, _)) => (List.range n).all (fun a => laid 178 q.1 q.2 a)
theorem nck_all : zcds.all nck = true := by decide +kernel
theorem zclen : zcds.length = 163 := by decide +kernel
theorem n_done {K : zKp} {g : zG} {H : Heap} (h : va_P (XX K false g).1 zcl (nW (XX K false g) g 178 163) H) : va_P (XX K false g).1 zcl (zW (XX K false g) g) H := by
  intro k q hk
  unfold zW at hk
  rw [List.getElem?_map] at hk
  cases hq : zcds[k]? with
  | none => rw [hq] at hk; cases hk
  | some q' =>
    rw [hq] at hk
    cases hk
    obtain ⟨t, i⟩ := q'
    have hlt : k < 163 := by rw [← zclen]; exact (List.getElem?_eq_some_iff.mp hq).1
    have h1 := h k _ (nW_get (XX K false g) g hq hlt)
    have hn := List.all_eq_true.mp nck_all _ (List.mem_of_getElem? hq)
    have ez : zC (XX K false g) g t i = zC0 (XX K false g) g t i := by
      unfold zC
      congr 1
      unfold zpk
      show (if zmod t = false then g else g) = g
      split <;> rfl
    show va_at _ zcl (zA (XX K false g) (t, i), zC (XX K false g) g t i) H
    rw [ez]
    unfold nck at hn
    unfold nC at h1
    unfold zC0
    generalize zK t = z at hn h1 ⊢
    rcases z with ⟨ci, fs⟩ | ⟨j, nn⟩ | ⟨j, nn, r⟩
    · have e : fs.mapIdx (fun k f => nfv (XX K false g) g 178 t i k f) = fs.mapIdx (fun k f => zfv (XX K false g) g t i k f) := by
        apply List.ext_getElem?
        intro a
        rw [List.getElem?_mapIdx, List.getElem?_mapIdx]
        cases hf : fs[a]? with
        | none => rfl
        | some f =>
          cases f with
          | none => rfl
          | some tg =>
            have h2 := List.all_eq_true.mp hn a (List.mem_range.mpr (List.getElem?_eq_some_iff.mp hf).1)
            rw [List.getD_eq_getElem?_getD, hf] at h2
            have h3 : laid 178 t i a = true := by simpa using h2
            simp only [Option.map_some, nfv, zfv, h3, if_true]
      simp only [e] at h1
      exact h1
    · exact h1
    · have e : (fun j : _root_.Fin nn => va_rf ((fun k => if laid 178 t i k = true then some (zA (XX K false g) (r i k)) else none) j.val)) = (fun j : _root_.Fin nn => va_rf (some (zA (XX K false g) (r i j.val)))) := by
        funext j
        have h2 := List.all_eq_true.mp hn j.val (List.mem_range.mpr j.isLt)
        simp only [h2, if_true]
      have h4 : H[zA (XX K false g) (t, i)]? = some ({ cls := (XX K false g).2.1 j, slots := Array.ofFn (n := nn) (fun j : _root_.Fin nn => va_rf ((fun k => if laid 178 t i k = true then some (zA (XX K false g) (r i k)) else none) j.val)), vm := .none } : Cell) := h1
      rw [e] at h4
      exact h4
theorem g1_ne {f i j : Nat} (h : f ≠ 4007) : g1 f i j = 0 := by
  unfold g1
  rw [zU_ne _ _ (by omega)]
  rfl
theorem INV_start : INV g1 g1 := by
  refine ⟨⟨⟨0, by omega, g1_ne (by omega), g1_ne (by omega)⟩, fun k _ => ⟨by rw [g1_ne (by omega), g1_ne (by omega)], 0, by omega, g1_ne (by omega)⟩, by rw [g1_ne (by omega), g1_ne (by omega)], by rw [g1_ne (by omega), g1_ne (by omega)], fun z => ?_, by rw [g1_ne (by omega), g1_ne (by omega)], fun c _ => by rw [g1_ne (by omega), g1_ne (by omega)], false, g1_ne (by omega), g1_ne (by omega)⟩, Or.inl ⟨g1_ne (by omega), g1_ne (by omega), g1_ne (by omega), g1_ne (by omega), g1_ne (by omega), g1_ne (by omega), fun c _ => g1_ne (by omega)⟩⟩
  rw [g1_ne (by omega)] at z
  exact absurd z (by decide)
set_option maxRecDepth 100000 in
set_option maxHeartbeats 4000000 in
theorem law_loop {p : Program} {l : Launch} {e : Env} {s : State} {m : MethodId} {below : List Frame} {meth : Method} {c : Code} {K : zKp} {b Ln : Nat} {xs : Nat → Int32} (A : LC K p s m meth c b Ln xs) (hL : Ln ≤ 3072) (hl : l.stackTraces = false) : ∀ (n j : Nat) (gc gm : zG) (L5 L6 : Option zV), Ln + 1 ≤ 6 * j + n → 6 * j ≤ Ln → INV gc gm → V (XX K false gm) p l e room_1 s m #[Value.ref b] below meth c 7 (163 + j) (14665 + 6 * j) (lw_Z below #[Value.ref b] s) gc 23 [some (.inr (.inl (60, 1000))), some (.inr (.inl (0, 0))), some (.inr (.inl (7, 0))), some (.inr (.inl (47, 0))), some (.inl (nI (6 * j))), L5, L6] [] := by
  intro n
  induction n with
  | zero =>
    intro j gc gm L5 L6 h1 h2
    exact absurd h1 (by omega)
  | succ n ih =>
    intro j gc gm L5 L6 h1 h2 hI
    have C := A.x (cells := 163 + j) (slots := 14665 + 6 * j) false gm (by omega) (by omega)
    refine v_iload C 4 dL_law_23 rfl ?_
    refine v_aload_n C 0 dL_law_25 rfl rfl ?_
    refine v_slen A dL_law_26 ?_
    refine v_bipush C (nI 6) dL_law_27 (by decide +kernel) ?_
    refine v_isub C dL_law_29 ?_
    by_cases h6 : 6 * j + 6 ≤ Ln
    · refine v_gtN C 1346 dL_law_30 rfl (by rw [pk_sub (by omega), nI_lti (by omega) (by omega)]; omega) ?_
      refine v_aload_n C 0 dL_law_33 rfl rfl ?_
      refine v_iload C 4 dL_law_34 rfl ?_
      refine v_sld A (a := 6 * j) (by omega) hL dL_law_36 ?_
      refine v_bipush C (nI 63) dL_law_37 (by decide +kernel) ?_
      refine v_iand C dL_law_39 ?_
      have next : ∀ (gc1 gm1 : zG) (L5 L6 : Option zV), INV gc1 gm1 → V (XX K false gm1) p l e room_1 s m #[Value.ref b] below meth c 7 (163 + j + 1) (14665 + 6 * j + 6) (lw_Z below #[Value.ref b] s) gc1 1340 [some (.inr (.inl (60, 1000))), some (.inr (.inl (0, 0))), some (.inr (.inl (7, 0))), some (.inr (.inl (47, 0))), some (.inl (nI (6 * j))), L5, L6] [] := by
        intro gc1 gm1 L5 L6 hI1
        have C1 := A.x (cells := 163 + j + 1) (slots := 14665 + 6 * j + 6) false gm1 (by omega) (by omega)
        refine v_iinc (L' := [some (.inr (.inl (60, 1000))), some (.inr (.inl (0, 0))), some (.inr (.inl (7, 0))), some (.inr (.inl (47, 0))), some (.inl (nI (6 * j) + nI 6)), L5, L6]) C1 4 (nI 6) dL_law_1340 (by decide +kernel) (by decide) rfl rfl ?_
        refine v_goto C1 23 dL_law_1343 rfl ?_
        have k := ih (j + 1) gc1 gm1 L5 L6 (by omega) (by omega) hI1
        rw [show 14665 + 6 * (j + 1) = 14665 + 6 * j + 6 by omega, show 6 * (j + 1) = 6 * j + 6 by omega, show 163 + (j + 1) = 163 + j + 1 by omega] at k
        rw [nI_add]
        exact k
      generalize xs (6 * j) &&& nI 63 = vv
      by_cases h_0 : vv = nI 0
      · refine v_tblIn C 204 0 dL_law_40 (by rw [h_0]; rfl) (by decide) (by decide) rfl rfl ?_
        exact law_0 A hL h6 (by omega) (by omega) hI next
      by_cases h_1 : vv = nI 1
      · refine v_tblIn C 277 1 dL_law_40 (by rw [h_1]; rfl) (by decide) (by decide) rfl rfl ?_
        exact law_1 A hL h6 (by omega) (by omega) hI next
      by_cases h_2 : vv = nI 2
      · refine v_tblIn C 302 2 dL_law_40 (by rw [h_2]; rfl) (by decide) (by decide) rfl rfl ?_
        exact law_2 A hL h6 (by omega) (by omega) hI next
      by_cases h_3 : vv = nI 3
      · refine v_tblIn C 315 3 dL_law_40 (by rw [h_3]; rfl) (by decide) (by decide) rfl rfl ?_
        exact law_3 A hL h6 (by omega) (by omega) hI next
      by_cases h_4 : vv = nI 4
      · refine v_tblIn C 328 4 dL_law_40 (by rw [h_4]; rfl) (by decide) (by decide) rfl rfl ?_
        exact law_4 A hL h6 (by omega) (by omega) hI next
      by_cases h_5 : vv = nI 5
      · refine v_tblIn C 353 5 dL_law_40 (by rw [h_5]; rfl) (by decide) (by decide) rfl rfl ?_
        exact law_5 A hL h6 (by omega) (by omega) hI next
      by_cases h_6 : vv = nI 6
      · refine v_tblIn C 402 6 dL_law_40 (by rw [h_6]; rfl) (by decide) (by decide) rfl rfl ?_
        exact law_6 A hL h6 (by omega) (by omega) hI next
      by_cases h_7 : vv = nI 7
      · refine v_tblIn C 427 7 dL_law_40 (by rw [h_7]; rfl) (by decide) (by decide) rfl rfl ?_
        exact law_7 A hL h6 (by omega) (by omega) hI next
      by_cases h_8 : vv = nI 8
      · refine v_tblIn C 452 8 dL_law_40 (by rw [h_8]; rfl) (by decide) (by decide) rfl rfl ?_
        exact law_8 A hL h6 (by omega) (by omega) hI next
      by_cases h_9 : vv = nI 9
      · refine v_tblIn C 477 9 dL_law_40 (by rw [h_9]; rfl) (by decide) (by decide) rfl rfl ?_
        exact law_9 A hL h6 (by omega) (by omega) hI next
      by_cases h_10 : vv = nI 10
      · refine v_tblIn C 490 10 dL_law_40 (by rw [h_10]; rfl) (by decide) (by decide) rfl rfl ?_
        exact law_10 A hL h6 (by omega) (by omega) hI next
      by_cases h_11 : vv = nI 11
      · refine v_tblIn C 503 11 dL_law_40 (by rw [h_11]; rfl) (by decide) (by decide) rfl rfl ?_
        exact law_11 A hL h6 (by omega) (by omega) hI next
      by_cases h_12 : vv = nI 12
      · refine v_tblIn C 540 12 dL_law_40 (by rw [h_12]; rfl) (by decide) (by decide) rfl rfl ?_
        exact law_12 A hL h6 (by omega) (by omega) hI next
      by_cases h_13 : vv = nI 13
      · refine v_tblIn C 601 13 dL_law_40 (by rw [h_13]; rfl) (by decide) (by decide) rfl rfl ?_
        exact law_13 A hL h6 (by omega) (by omega) hI next
      by_cases h_14 : vv = nI 14
      · refine v_tblIn C 638 14 dL_law_40 (by rw [h_14]; rfl) (by decide) (by decide) rfl rfl ?_
        exact law_14 A hL h6 (by omega) (by omega) hI next
      by_cases h_15 : vv = nI 15
      · refine v_tblIn C 663 15 dL_law_40 (by rw [h_15]; rfl) (by decide) (by decide) rfl rfl ?_
        exact law_15 A hL h6 (by omega) (by omega) hI next
      by_cases h_16 : vv = nI 16
      · refine v_tblIn C 688 16 dL_law_40 (by rw [h_16]; rfl) (by decide) (by decide) rfl rfl ?_
        exact law_16 A hL h6 (by omega) (by omega) hI next
      by_cases h_17 : vv = nI 17
      · refine v_tblIn C 713 17 dL_law_40 (by rw [h_17]; rfl) (by decide) (by decide) rfl rfl ?_
        exact law_17 A hL h6 (by omega) (by omega) hI next
      by_cases h_18 : vv = nI 18
      · refine v_tblIn C 738 18 dL_law_40 (by rw [h_18]; rfl) (by decide) (by decide) rfl rfl ?_
        exact law_18 A hL h6 (by omega) (by omega) hI next
      by_cases h_19 : vv = nI 19
      · refine v_tblIn C 775 19 dL_law_40 (by rw [h_19]; rfl) (by decide) (by decide) rfl rfl ?_
        exact law_19 A hL h6 (by omega) (by omega) hI next
      by_cases h_20 : vv = nI 20
      · refine v_tblIn C 812 20 dL_law_40 (by rw [h_20]; rfl) (by decide) (by decide) rfl rfl ?_
        exact law_20 A hL h6 (by omega) (by omega) hI next
      by_cases h_21 : vv = nI 21
      · refine v_tblIn C 849 21 dL_law_40 (by rw [h_21]; rfl) (by decide) (by decide) rfl rfl ?_
        exact law_21 A hL h6 (by omega) (by omega) hI next
      by_cases h_22 : vv = nI 22
      · refine v_tblIn C 886 22 dL_law_40 (by rw [h_22]; rfl) (by decide) (by decide) rfl rfl ?_
        exact law_22 A hL h6 (by omega) (by omega) hI next
      by_cases h_23 : vv = nI 23
      · refine v_tblIn C 911 23 dL_law_40 (by rw [h_23]; rfl) (by decide) (by decide) rfl rfl ?_
        exact law_23 A hL h6 (by omega) (by omega) hI next
      by_cases h_24 : vv = nI 24
      · refine v_tblIn C 936 24 dL_law_40 (by rw [h_24]; rfl) (by decide) (by decide) rfl rfl ?_
        exact law_24 A hL h6 (by omega) (by omega) hI next
      by_cases h_25 : vv = nI 25
      · refine v_tblIn C 961 25 dL_law_40 (by rw [h_25]; rfl) (by decide) (by decide) rfl rfl ?_
        exact law_25 A hL h6 (by omega) (by omega) hI next
      by_cases h_26 : vv = nI 26
      · refine v_tblIn C 986 26 dL_law_40 (by rw [h_26]; rfl) (by decide) (by decide) rfl rfl ?_
        exact law_26 A hL h6 (by omega) (by omega) hI next
      by_cases h_27 : vv = nI 27
      · refine v_tblIn C 1023 27 dL_law_40 (by rw [h_27]; rfl) (by decide) (by decide) rfl rfl ?_
        exact law_27 A hL h6 (by omega) (by omega) hI next
      by_cases h_28 : vv = nI 28
      · refine v_tblIn C 1048 28 dL_law_40 (by rw [h_28]; rfl) (by decide) (by decide) rfl rfl ?_
        exact law_28 A hL h6 (by omega) (by omega) hI next
      by_cases h_29 : vv = nI 29
      · refine v_tblIn C 1109 29 dL_law_40 (by rw [h_29]; rfl) (by decide) (by decide) rfl rfl ?_
        exact law_29 A hL h6 (by omega) (by omega) hI next
      by_cases h_30 : vv = nI 30
      · refine v_tblIn C 1170 30 dL_law_40 (by rw [h_30]; rfl) (by decide) (by decide) rfl rfl ?_
        exact law_30 A hL h6 (by omega) (by omega) hI next
      by_cases h_31 : vv = nI 31
      · refine v_tblIn C 1195 31 dL_law_40 (by rw [h_31]; rfl) (by decide) (by decide) rfl rfl ?_
        exact law_31 A hL h6 (by omega) (by omega) hI next
      by_cases h_32 : vv = nI 32
      · refine v_tblIn C 1220 32 dL_law_40 (by rw [h_32]; rfl) (by decide) (by decide) rfl rfl ?_
        exact law_32 A hL h6 (by omega) (by omega) hI next
      by_cases h_33 : vv = nI 33
      · refine v_tblIn C 1233 33 dL_law_40 (by rw [h_33]; rfl) (by decide) (by decide) rfl rfl ?_
        exact law_33 A hL h6 (by omega) (by omega) hI next
      by_cases h_34 : vv = nI 34
      · refine v_tblIn C 1246 34 dL_law_40 (by rw [h_34]; rfl) (by decide) (by decide) rfl rfl ?_
        exact law_34 A hL h6 (by omega) (by omega) hI hl next
      by_cases h_35 : vv = nI 35
      · refine v_tblIn C 1302 35 dL_law_40 (by rw [h_35]; rfl) (by decide) (by decide) rfl rfl ?_
        exact law_35 A hL h6 (by omega) (by omega) hI next
      by_cases h_36 : vv = nI 36
      · refine v_tblIn C 1327 36 dL_law_40 (by rw [h_36]; rfl) (by decide) (by decide) rfl rfl ?_
        exact law_36 A hL h6 (by omega) (by omega) hI next
      refine v_tblOut C 1340 dL_law_40 (ztbl 37 rfl (by intro k hk; match k, hk with | 0, _ => exact h_0 | 1, _ => exact h_1 | 2, _ => exact h_2 | 3, _ => exact h_3 | 4, _ => exact h_4 | 5, _ => exact h_5 | 6, _ => exact h_6 | 7, _ => exact h_7 | 8, _ => exact h_8 | 9, _ => exact h_9 | 10, _ => exact h_10 | 11, _ => exact h_11 | 12, _ => exact h_12 | 13, _ => exact h_13 | 14, _ => exact h_14 | 15, _ => exact h_15 | 16, _ => exact h_16 | 17, _ => exact h_17 | 18, _ => exact h_18 | 19, _ => exact h_19 | 20, _ => exact h_20 | 21, _ => exact h_21 | 22, _ => exact h_22 | 23, _ => exact h_23 | 24, _ => exact h_24 | 25, _ => exact h_25 | 26, _ => exact h_26 | 27, _ => exact h_27 | 28, _ => exact h_28 | 29, _ => exact h_29 | 30, _ => exact h_30 | 31, _ => exact h_31 | 32, _ => exact h_32 | 33, _ => exact h_33 | 34, _ => exact h_34 | 35, _ => exact h_35 | 36, _ => exact h_36 | k + 37, hk => omega)) rfl ?_
      exact v_wide (Nat.le_succ _) (Nat.le_add_right _ _) (next gc gm L5 L6 hI)
    · refine v_gtY C 1346 dL_law_30 rfl ?_ ?_
      · by_cases h3 : 6 ≤ Ln
        · rw [pk_sub h3, nI_lti (by omega) (by omega)]; omega
        · have hj : j = 0 := by omega
          rw [hj]
          rcases (show Ln = 0 ∨ Ln = 1 ∨ Ln = 2 ∨ Ln = 3 ∨ Ln = 4 ∨ Ln = 5 by omega) with h | h | h | h | h | h <;> rw [h] <;> decide
      · intro H locs ls hP hS h
        refine lv_iconst (v := 1) A.1.1 A.1.2.1 dL_law_1346 (by decide) ?_
        refine va_forget (fun q hq => ?_) ?_
        · have z1 : K.2.2.1 ≤ q.base := (hS.2.2 q hq).1
          rw [A.2.1] at z1
          exact z1
        · refine W.widen (k := 601024) (n := 7293034) (by omega) (by omega) ?_
          exact lw_ret A.1.1 A.1.2.1 A.1.2.2.1 A.1.2.2.2.2.2.2.2.2.1 dL_law_1347
