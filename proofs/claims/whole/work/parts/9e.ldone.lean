/-! ===== the law's own done; rows of longs and of the script ===== -/
theorem zm47 : (47, 0) ∈ zcds := by decide +kernel
theorem zC0_47 (X : zX) (g : zG) : zC0 X g 47 0 = .inl (X.2.1 4, 1, .inr (.inl (fun k => (g 47 0 k).toInt64))) := rfl
section EV
variable {X : zX} {p : Program} {l : Launch} {e : Env} {R : Room} {s : State} {m : MethodId} {args : Array Value} {below : List Frame} {meth : Method} {c : Code} {cc : ByteArray} {nL : Nat} {own : String} {cells slots : Nat} {Q : State → Prop}
variable {g : zG} {pc : Nat} {L L' : List (Option zV)} {st : List zV}
theorem v_i2l (C : Cx X p R s m args meth c cc nL own cells slots) {x : Int32} (hd : decode cc pc = .ok (.i2l, 1)) (kk : V X p l e R s m args below meth c nL cells slots Q g (pc + 1) L (.inr (.inr x.toInt64) :: st)) : V X p l e R s m args below meth c nL cells slots Q g pc L (.inl x :: st) :=
  fun H locs ls hP hS h => lv_i2l C.1 C.2.1 hd rfl (kk H locs ls hP hS h)
theorem v_last (C : Cx X p R s m args meth c cc nL own cells slots) (hX : zfl X = false) {x : Int32} (hd : decode cc pc = .ok (.lastore, 1)) (kk : V X p l e R s m args below meth c nL cells slots Q (zU g 47 0 0 x) (pc + 1) L st) : V X p l e R s m args below meth c nL cells slots Q g pc L (.inr (.inr x.toInt64) :: .inl (nI 0) :: .inr (.inl (47, 0)) :: st) := by
  intro H locs ls hP hS h
  have hX' : zmod 47 = zfl X := hX.symm
  have he := zW_get X g zm47
  rw [zC_in X g hX', zC0_47] at he
  refine va_last (tys := zT X) C.1 C.2.1 C.2.2.2.2.2.1.1 hP (zW_D X g) hS (zcds.idxOf (47, 0)) 4 he rfl (vp_in_nI (by omega) (by omega)) hd (fun H1 locs1 hP1 _ hS1 => kk H1 locs1 ls ?_ hS1 h)
  have e : (zW X g).set (zcds.idxOf (47, 0)) (zA X (47, 0), .inl (X.2.1 4, 1, .inr (.inl (vp_updL (fun k => (g 47 0 k).toInt64) (nI 0).toNatClampNeg x.toInt64)))) = zW X (zU g 47 0 0 x) := by
    refine zW_set X zm47 ?_ ?_
    · have e0 : vp_updL (fun k => (g 47 0 k).toInt64) 0 x.toInt64 = fun k => (zU g 47 0 0 x 47 0 k).toInt64 := by
        funext k
        unfold vp_updL
        by_cases hk : k = 0
        · rw [if_pos hk, hk, zU_self]
        · rw [if_neg hk, zU_ne _ _ (by omega)]
      rw [zC_in X _ hX', zC0_47, nI_clamp (by omega), e0]
    · intro q hq hn
      have h2 := ztag _ hq
      have hn' : ¬ (q.1 = 47 ∧ q.2 = 0) := fun z => hn (Prod.ext z.1 z.2)
      refine zC_ext X (fun j => ?_) (fun j => ?_)
      · rw [zU_ne _ _ (by omega)]
      · rw [zU_ne _ _ (by omega)]
  rw [e] at hP1
  exact hP1
theorem v_lald (C : Cx X p R s m args meth c cc nL own cells slots) (hX : zfl X = false) (hd : decode cc pc = .ok (.laload, 1)) (kk : V X p l e R s m args below meth c nL cells slots Q g (pc + 1) L (.inr (.inr (g 47 0 0).toInt64) :: st)) : V X p l e R s m args below meth c nL cells slots Q g pc L (.inl (nI 0) :: .inr (.inl (47, 0)) :: st) := by
  intro H locs ls hP hS h
  have hX' : zmod 47 = zfl X := hX.symm
  have he := zW_get X g zm47
  rw [zC_in X g hX', zC0_47] at he
  refine va_lald (tys := zT X) C.1 C.2.1 C.2.2.2.2.2.1.1 hP (zcds.idxOf (47, 0)) 4 he rfl (vp_in_nI (by omega) (by omega)) hd ?_
  have k := kk H locs ls hP hS h
  rw [nI_clamp (by omega)]
  exact k
theorem v_lcmp0 (C : Cx X p R s m args meth c cc nL own cells slots) {x : Int64} (hd : decode cc pc = .ok (.lcmp, 1)) (kk : V X p l e R s m args below meth c nL cells slots Q g (pc + 1) L (.inl (nI 0) :: st)) : V X p l e R s m args below meth c nL cells slots Q g pc L (.inr (.inr x) :: .inr (.inr x) :: st) := by
  intro H locs ls hP hS h
  refine W.lcmp C.1 C.2.1 hd ?_
  have e0 : lg_cmp x x = nI 0 := by
    unfold lg_cmp
    rw [if_neg (by rw [gt_iff_lt, Int64.lt_iff_toInt_lt]; omega), if_pos rfl]
    rfl
  rw [e0]
  exact kk H locs ls hP hS h
theorem v_eqY (C : Cx X p R s m args meth c cc nL own cells slots) {x y : Int32} {off : Int} (tgt : Nat) (hd : decode cc pc = .ok (.if_icmp .eq off, 3)) (ht : (pc : Int) + off = (tgt : Int)) (hxy : x = y) (kk : V X p l e R s m args below meth c nL cells slots Q g tgt L st) : V X p l e R s m args below meth c nL cells slots Q g pc L (.inl y :: .inl x :: st) :=
  fun H locs ls hP hS h => lv_icmp_eq C.1 C.2.1 hd ht (fun _ => kk H locs ls hP hS h) (fun q => absurd hxy q)
theorem v_if0Y (C : Cx X p R s m args meth c cc nL own cells slots) {x : Int32} {off : Int} (tgt : Nat) (hd : decode cc pc = .ok (.ifCond .eq off, 3)) (ht : (pc : Int) + off = (tgt : Int)) (hx : x = 0) (kk : V X p l e R s m args below meth c nL cells slots Q g tgt L st) : V X p l e R s m args below meth c nL cells slots Q g pc L (.inl x :: st) :=
  fun H locs ls hP hS h => lv_if_eq C.1 C.2.1 hd ht (fun _ => kk H locs ls hP hS h) (fun q => absurd hx q)
theorem v_ifnY (C : Cx X p R s m args meth c cc nL own cells slots) {x : Int32} {off : Int} (tgt : Nat) (hd : decode cc pc = .ok (.ifCond .ne off, 3)) (ht : (pc : Int) + off = (tgt : Int)) (hx : ¬ x = 0) (kk : V X p l e R s m args below meth c nL cells slots Q g tgt L st) : V X p l e R s m args below meth c nL cells slots Q g pc L (.inl x :: st) :=
  fun H locs ls hP hS h => lv_if_ne C.1 C.2.1 hd ht (fun _ => kk H locs ls hP hS h) (fun q => absurd q hx)
theorem v_ifnN (C : Cx X p R s m args meth c cc nL own cells slots) {x : Int32} {off : Int} (tgt : Nat) (hd : decode cc pc = .ok (.ifCond .ne off, 3)) (ht : (pc : Int) + off = (tgt : Int)) (hx : x = 0) (kk : V X p l e R s m args below meth c nL cells slots Q g (pc + 3) L st) : V X p l e R s m args below meth c nL cells slots Q g pc L (.inl x :: st) :=
  fun H locs ls hP hS h => lv_if_ne C.1 C.2.1 hd ht (fun q => absurd hx q) (fun _ => kk H locs ls hP hS h)
/-- a call of done: it answers, or has thrown -/
theorem v_callD {X : zX} {rr : Int32} {gr : zG} {mc ms : Nat} {ls : Array Slot} {st0 rest : List Value} {a : Array Value} {H : Heap} {locs : List Loc} (hr : vx_Run p l e R s m args below meth c H locs cells slots mc ms (F0 m pc ls st0) rest (dQ X rr gr a) (dX X rr gr) (zF X)) (hS : va_S (zF X) s.heap H locs)
    (kx : rr = nI 1000 → ∀ (ce : Cell) (q9 : Addr) (H1 : Heap) (locs1 : List Loc), va_P X.1 zcl (zW X gr) H1 → va_S (zF X) s.heap H1 locs1 → H1[q9]? = some ce → ce.vm = .none → s.vm.findClass nse = some ce.cls → vx_W p l e R s m args below meth c H1 locs1 (cells + mc) (slots + ms) Q (F0 m pc ls rest) q9)
    (kk : (¬ rr = nI 1000) → ∀ (H1 : Heap) (locs1 : List Loc), va_P X.1 zcl (zW X gr) H1 → va_S (zF X) s.heap H1 locs1 → W p l e R s m args below meth c H1 locs1 (cells + mc) (slots + ms) Q (F0 m (pc + 3) ls (.int rr :: rest))) : W p l e R s m args below meth c H locs cells slots Q (F0 m pc ls st0) := by
  intro T hT Y
  rcases hr T hT Y with ⟨v, st₀, t, T', L, h0, X', hL, e1, e2, ⟨hne, hv, hP1, hF⟩, st⟩ | ⟨q, st₀, t, T', L, E, ce, h0, X', hL, e1, e2, ⟨hrr, hE, hP1, hF⟩, hce, hcv, hcl, st⟩
  · cases hv
    obtain ⟨k1, k2, k3⟩ := vx_keep h0 e1 hS (fun _ _ h => h) (fun _ h => h) hL hF
    obtain ⟨t2, a1, b1⟩ := kk hne T'.heap (locs ++ L) (by rw [e1]; exact hP1) k3 T' rfl X'
    exact ⟨t2, st t2 a1, b1⟩
  · subst hE
    obtain ⟨k1, k2, k3⟩ := vx_keep h0 e1 hS (fun _ _ h => h) (fun _ h => h) hL hF
    obtain ⟨t2, a1, b1⟩ := kx hrr ce q T'.heap (locs ++ L) (by rw [e1]; exact hP1) k3 (by rw [e1]; exact hce) hcv hcl T' rfl X'
    exact ⟨t2, st.trans a1, b1⟩
end EV
def dK (rr : Int32) : Int32 := if rr = nI 1000 then nI 1 else nI 0
def dG (rr : Int32) (gr : zG) : zG := if rr = nI 1000 then gr else zU gr 47 0 0 rr
def zwsD : List Cond := .codeWith yL_done cL_done 4 (some .int) [(0, 9, 12, 13)] :: zall
theorem wD_code : Cond.codeWith yL_done cL_done 4 (some .int) [(0, 9, 12, 13)] ∈ zall := zall_of (i := 1051) (by decide +kernel) rfl
theorem wD_link : Cond.classLink RL 13 nse ∈ zall := zall_of (i := 1052) (by decide +kernel) rfl
theorem wD_7 : Cond.methodLink RL 7 yX6_done ∈ zall := zall_of (i := 1053) (by decide +kernel) rfl
theorem c_L_done {X : zX} (hX : zfl X = false) {v rr : Int32} {g gr : zG} (hM : X6_done v g = some (rr, gr)) (l : Launch) (hl : l.stackTraces = false) : Met l yL_done zwsD eRm (va_Pc ([.inr (.inl (0, 0)), .inl v, .inr (.inl (47, 0))].map (zM X)) (eR X g)) (zQ X (some (.int (dK rr))) (dG rr gr)) 1 6 (zF X) := by
  refine va_MetW (hh := [(0, 9, 12, 13)]) (cc := cL_done) (maxL := 4) (ret := some .int) (by decide) rfl ?_
  intro p e s m args below meth c s₁ B hml hv
  obtain ⟨rfl, ⟨hP, hSt⟩, hY⟩ := hv
  have hts := atoms_spec (ws := zwsD) B.pre
  have hown : s.vm.findClass RL = some m.cls := findClass_of_methodNamed B.named
  have htab := vx_table (x := yL_done) B (hts _ List.mem_cons_self)
  have C : Cx X p eRm s m ([.inr (.inl (0, 0)), .inl v, .inr (.inl (47, 0))].map (zM X)).toArray meth c cL_done 4 RL 0 0 := ⟨B.exec, B.bytes, hml, hown, fun w hw => hts w (List.mem_cons_of_mem _ hw), hSt, B.notSynchronized, Nat.zero_le _, Nat.zero_le _⟩
  have C1 : Cx X p eRm s m ([.inr (.inl (0, 0)), .inl v, .inr (.inl (47, 0))].map (zM X)).toArray meth c cL_done 4 RL 1 6 := ⟨C.1, C.2.1, C.2.2.1, C.2.2.2.1, C.2.2.2.2.1, C.2.2.2.2.2.1, C.2.2.2.2.2.2.1, by decide, by decide⟩
  have hlv := lv_entry ([.inr (.inl (0, 0)), .inl v, .inr (.inl (47, 0))].map (zM X)) (n := 4) (Nat.le_of_ble_eq_true rfl)
  rw [lg_entry_eq]
  rw [← zE_args X [.inr (.inl (0, 0)), .inl v, .inr (.inl (47, 0))] 0 1 (znl_of _ trivial)] at hlv
  have hr := B.returns
  have hb : V X p l e eRm s m ([.inr (.inl (0, 0)), .inl v, .inr (.inl (47, 0))].map (zM X)).toArray below meth c 4 0 0 (MQ below (zQ X (some (.int (dK rr))) (dG rr gr)) ([.inr (.inl (0, 0)), .inl v, .inr (.inl (47, 0))].map (zM X)).toArray s 1 6 (zF X)) g 0 [some (.inr (.inl (0, 0))), some (.inl v), some (.inr (.inl (47, 0))), none] [] := by
    refine v_aload_n C 2 dL_done_0 rfl rfl ?_
    refine v_iconst C (nI 0) dL_done_1 zk_0 ?_
    refine v_aload_n C 0 dL_done_2 rfl rfl ?_
    refine v_iload_n C 1 dL_done_3 rfl rfl ?_
    intro H locs ls hP hS h
    have hsz : ls.size = 4 := h.1
    have he := zW_get X g zm0
    rw [zC_in X g (show zmod 0 = zfl X from hX.symm)] at he
    simp only [zC0, show zK 0 = .inl (6, [some (fun _ => (10, 0)), none, some (fun _ => (1, 0)), some (fun _ => (1, 1)), some (fun _ => (2, 0)), some (fun _ => (3, 0)), some (fun _ => (3, 1)), some (fun _ => (3, 2)), some (fun _ => (6, 0)), none, none, none, none]) from rfl] at he
    have hrec := va_recv (tys := zT X) (ci := 6) (q := (RX6, TX6, 13)) C.2.2.2.2.2.1.1 hP rfl he
    refine v_callD (a := ([.inr (.inl (0, 0)), .inl v].map (zM X)).toArray) (mc := 1) (ms := 6) (rest := [.int (nI 0), .ref (zA X (47, 0))]) (vx_runV (As := [.int v]) (zfix C) (c_X6_done hX hM l hl) (⟨callB_of 1 C.2.2.2.2.1 (zgood mw_X6_done.1) rfl rfl rfl (C.2.2.2.2.1 _ mw_X6_done.2.1) (C.2.2.2.2.1 _ wD_7) mw_X6_done.2.2 ⟨by decide, Nat.le_of_ble_eq_true rfl⟩, C.2.2.2.2.1 _ mi_X6_done.1, C.2.2.2.2.1 _ mi_X6_done.2⟩) ⟨eblind, hrec, eRS hSt hY hP hS⟩ rfl rfl hsz rfl ?_ dL_done_4 ⟨by decide, by decide⟩) hS ?_ ?_
    · exact Nat.le_of_ble_eq_true rfl
    · intro hrr ce q9 H1 locs1 hP1 hS1 hce hcv hcl
      refine vx_catch (own := RL) (name := nse) (E := nse) hown [] ⟨0, 9, 12, 13⟩ [] htab (fun z hz => nomatch hz) (by decide) (by decide) (C.2.2.2.2.1 _ wD_link) (va_Nw.use rfl hY.1) hce hcv hcl ?_
      refine lv_astore_n C.1 C.2.1 dL_done_12 rfl h (by decide) rfl (fun ls' h' => ?_)
      refine lv_iconst C.1 C.2.1 dL_done_13 zk_1 ?_
      refine W.iret C.1 C.2.1 hr (fun t ht hW => ⟨?_, ?_, hS1.F ht⟩) hS1.2.2 dL_done_14 C.2.2.2.2.2.2.1
      · unfold dK
        rw [if_pos hrr]
      · unfold dG
        rw [if_pos hrr, ht]
        exact hP1
    · intro hne H1 locs1 hP1 hS1
      have kb : V X p l e eRm s m ([.inr (.inl (0, 0)), .inl v, .inr (.inl (47, 0))].map (zM X)).toArray below meth c 4 1 6 (MQ below (zQ X (some (.int (dK rr))) (dG rr gr)) ([.inr (.inl (0, 0)), .inl v, .inr (.inl (47, 0))].map (zM X)).toArray s 1 6 (zF X)) gr 7 [some (.inr (.inl (0, 0))), some (.inl v), some (.inr (.inl (47, 0))), none] [.inl rr, .inl (nI 0), .inr (.inl (47, 0))] := by
        refine v_i2l C1 dL_done_7 ?_
        refine v_last C1 hX dL_done_8 ?_
        refine v_goto C1 15 dL_done_9 rfl ?_
        refine v_iconst C1 (nI 0) dL_done_15 zk_0 ?_
        intro H locs ls hP hS h
        refine W.iret C.1 C.2.1 hr (fun t ht hW => ⟨?_, ?_, hS.F ht⟩) hS.2.2 dL_done_16 C.2.2.2.2.2.2.1
        · unfold dK
          rw [if_neg hne]
        · unfold dG
          rw [if_neg hne, ht]
          exact hP
      exact kb H1 locs1 ls hP1 hS1 h
  exact hb s.heap [] _ hP va_S.rf hlv
