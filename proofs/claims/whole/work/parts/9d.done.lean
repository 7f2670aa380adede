/-! ===== done: it answers, or throws; the law's own done catches ===== -/
abbrev nse : String := "java/util/NoSuchElementException"
abbrev nsN : List String := ["java/lang/RuntimeException", "java/lang/Exception"]
/-- what a throw wants beside the words -/
def yS (X : zX) (U : State) (H : Heap) : Prop :=
  va_Nw (.castable nse nse) U ∧ va_Nw (.declares (Bundle.init0 "java/lang/RuntimeException")) U ∧ va_Nw (.declares (Bundle.init0 "java/lang/Exception")) U ∧ va_Nw (.declares (Bundle.init0 Bundle.tN)) U ∧ vx_Zq Bundle.tN "UNASSIGNED_STACK" Bundle.steD (zF X) U H ∧ vx_Zq Bundle.tN "SUPPRESSED_SENTINEL" Bundle.listD (zF X) U H
theorem yS_vm {X : zX} {u U : State} {H : Heap} (h : yS X u H) (hv : U.vm = u.vm) : yS X U H := by
  have hA : u.vm.Alike U.vm := by rw [hv]; exact Vm.Alike.refl u.vm
  exact ⟨va_Nw.same rfl hv.symm h.1, va_Nw.same rfl hv.symm h.2.1, va_Nw.same rfl hv.symm h.2.2.1, va_Nw.same rfl hv.symm h.2.2.2.1, vx_Zq.moved hA h.2.2.2.2.1, vx_Zq.moved hA h.2.2.2.2.2⟩
theorem yS_warm {X : zX} {s U : State} {H H1 : Heap} (h : yS X s H) (hW : s.WarmedH U.vm) (hq : ∀ a : Nat, a < H.size → ¬ zF X a → H1[a]? = H[a]?) : yS X U H1 :=
  ⟨va_Nw.warmC hW h.1, va_Nw.warmD hW h.2.1, va_Nw.warmD hW h.2.2.1, va_Nw.warmD hW h.2.2.2.1, vx_Zq.moved hW.alike (h.2.2.2.2.1.kept hq), vx_Zq.moved hW.alike (h.2.2.2.2.2.kept hq)⟩
def eR (X : zX) (g : zG) (U : State) : Prop := zR X g U ∧ yS X U U.heap
theorem eblind {X : zX} {g : zG} {av : List Value} : FrameBlind (va_Pc av (eR X g)) :=
  fun a U gg mk h => ⟨h.1, ⟨h.2.1.1, zS_vm (u := U) (U := U.calling gg mk a) h.2.1.2 rfl⟩, yS_vm (u := U) (U := U.calling gg mk a) h.2.2 rfl⟩
theorem eRS {X : zX} {s : State} {g : zG} {H : Heap} {locs : List Loc} {av : List Value} (hSt : zS X s s.heap) (hY : yS X s s.heap) (hP : va_P X.1 zcl (zW X g) H) (hS : va_S (zF X) s.heap H locs) : ∀ U : State, U.heap = H → s.WarmedH U.vm → va_Pc av (eR X g) av.toArray U :=
  fun U hU hW => ⟨rfl, ⟨by rw [hU]; exact hP, by rw [hU]; exact zS_warm hSt hW (fun a h1 h2 => hS.2.1 a h1 h2)⟩, by rw [hU]; exact yS_warm hY hW (fun a h1 h2 => hS.2.1 a h1 h2)⟩
/-- the world when it has thrown -/
def dX (X : zX) (rr : Int32) (g' : zG) : String → State → State → Prop := fun E st t => rr = nI 1000 ∧ E = nse ∧ va_P X.1 zcl (zW X g') t.heap ∧ va_F (zF X) st t
def dQ (X : zX) (rr : Int32) (g' : zG) : Array Value → State → Outcome → State → Prop := fun a st o t => (¬ rr = nI 1000) ∧ zQ X (some (.int rr)) g' a st o t
abbrev dR : Room := { frames := 6, cells := 1, slots := 6, locals := 216 }
abbrev eRm : Room := { frames := 7, cells := 1, slots := 6, locals := 252 }
theorem wT_at0 : ∀ w ∈ vx_at0 RX6 292 nse nsN, w ∈ lw_tbl := by decide +kernel
theorem wT_ot : ∀ w ∈ Cond.classLink RX6 290 nse :: Cond.initialized nse :: vx_at0 RX6 292 nse nsN, vx_ot w = true := by decide +kernel
theorem wT_bad : ∀ w ∈ (vx_at0 RX6 292 nse nsN).filter (fun w => !goodWord w), w ∈ [Cond.castable nse nse, Cond.declares (Bundle.init0 "java/lang/RuntimeException"), Cond.declares (Bundle.init0 "java/lang/Exception"), Cond.declares (Bundle.init0 Bundle.tN)] := by decide +kernel
theorem wT_link : Cond.classLink RX6 290 nse ∈ zall := zall_of (i := 1057) (by decide +kernel) rfl
theorem wT_init : Cond.initialized nse ∈ zall := zall_of (i := 148) (by decide +kernel) rfl
section DV
variable {X : zX} {p : Program} {l : Launch} {e : Env} {R : Room} {s : State} {m : MethodId} {args : Array Value} {below : List Frame} {meth : Method} {c : Code} {cc : ByteArray} {nL : Nat} {own : String} {cells slots : Nat} {Q : State → Prop}
variable {g : zG} {pc : Nat} {L L' : List (Option zV)} {st : List zV}
theorem v_geN (C : Cx X p R s m args meth c cc nL own cells slots) {x y : Int32} {off : Int} (tgt : Nat) (hd : decode cc pc = .ok (.if_icmp .ge off, 3)) (ht : (pc : Int) + off = (tgt : Int)) (hlt : x < y) (kk : V X p l e R s m args below meth c nL cells slots Q g (pc + 3) L st) : V X p l e R s m args below meth c nL cells slots Q g pc L (.inl y :: .inl x :: st) :=
  fun H locs ls hP hS h => lv_icmp_ge C.1 C.2.1 hd ht (fun q => absurd hlt (Int32.not_lt.mpr q)) (fun _ => kk H locs ls hP hS h)
theorem v_geY (C : Cx X p R s m args meth c cc nL own cells slots) {x y : Int32} {off : Int} (tgt : Nat) (hd : decode cc pc = .ok (.if_icmp .ge off, 3)) (ht : (pc : Int) + off = (tgt : Int)) (hlt : ¬ x < y) (kk : V X p l e R s m args below meth c nL cells slots Q g tgt L st) : V X p l e R s m args below meth c nL cells slots Q g pc L (.inl y :: .inl x :: st) :=
  fun H locs ls hP hS h => lv_icmp_ge C.1 C.2.1 hd ht (fun _ => kk H locs ls hP hS h) (fun q => absurd (Int32.not_le.mp q) hlt)
theorem yhat {w : Cond} (hw : w ∈ vx_at0 RX6 292 nse nsN) (hts : ∀ w ∈ zall, w.before args s = true) (hY : yS X s s.heap) : w.before args s = true := by
  refine vx_hat (L := vx_at0 RX6 292 nse nsN) (fun w hw => ?_) wT_bad ?_ w hw
  · obtain ⟨h1, h2⟩ := List.mem_filter.mp hw
    exact hts w (List.mem_filter.mpr ⟨wT_at0 w h1, h2⟩)
  · exact vx_c (va_Nw.use rfl hY.1) (vx_c (va_Nw.use rfl hY.2.1) (vx_c (va_Nw.use rfl hY.2.2.1) (vx_c (va_Nw.use rfl hY.2.2.2.1) vx_n)))
theorem t_X6_done {rr v1 : Int32} {gr : zG} (hl : l.stackTraces = false) (hX : zfl X = false) (C : Cx X p dR s m args meth c cX6_done 4 RX6 0 0) (hY : yS X s s.heap) (hr : meth.sig.returnType = some .int) (htab : ∀ x ∈ c.exceptionTable.toList, False) :
    ∀ (n : Nat) (v2 v3 : Int32) (g : zG), X6_done_l4 n v1 v2 v3 g = some (rr, gr) → V X p l e dR s m args below meth c 4 0 0 (vx_MQ below (dQ X rr gr) (dX X rr gr) args s 1 6 (zF X)) g 4 [some (.inr (.inl (0, 0))), some (.inl v1), some (.inl v2), some (.inl v3)] [] := by
  intro n
  induction n with
  | zero =>
    intro v2 v3 g hM
    exact absurd (show (none : Option (Int32 × zG)) = some (rr, gr) from hM) (by simp)
  | succ n ih =>
    intro v2 v3 g hM
    have at41 : ∀ (v2 : Int32) (g : zG), X6_done_l4 n v1 v2 (v3 + nI 1) g = some (rr, gr) → V X p l e dR s m args below meth c 4 0 0 (vx_MQ below (dQ X rr gr) (dX X rr gr) args s 1 6 (zF X)) g 41 [some (.inr (.inl (0, 0))), some (.inl v1), some (.inl v2), some (.inl v3)] [] := by
      intro v2 g hM
      refine v_iinc (L' := [some (.inr (.inl (0, 0))), some (.inl v1), some (.inl v2), some (.inl (v3 + nI 1))]) C 3 (nI 1) dX6_done_41 zk_1 (by decide) rfl rfl ?_
      refine v_goto C 4 dX6_done_44 rfl ?_
      exact ih v2 (v3 + nI 1) g hM
    rw [X6_done_l4.eq_2] at hM
    refine v_iload_n C 3 dX6_done_4 rfl rfl ?_
    refine v_iconst C (nI 4) dX6_done_5 zk_4 ?_
    by_cases hlt : v3 < nI 4
    · rw [if_pos hlt] at hM
      refine v_geN C 47 dX6_done_6 rfl hlt ?_
      refine v_aload_n C 0 dX6_done_9 rfl rfl ?_
      refine gf_RX6_16 C hX dX6_done_10 ?_
      refine v_iload_n C 3 dX6_done_13 rfl rfl ?_
      obtain ⟨x1, g2, e3, hM⟩ := zc_elim hM
      refine v_callVNi (ci := 2) (rest := []) C (c_X2_hasCore hX (by decide) e3) mw_X2_hasCore mi_X2_hasCore ml_RX6_176 hX.symm (zm1 (by decide)) rfl rfl ⟨by decide, Nat.le_of_ble_eq_true rfl⟩ rfl (Nat.le_of_ble_eq_true rfl) dX6_done_14 rfl ?_
      refine v_if_eq C 41 dX6_done_17 rfl hM (fun hM => ?_) (fun hM => ?_)
      · exact at41 v2 g2 hM
      · refine v_aload_n C 0 dX6_done_20 rfl rfl ?_
        refine gf_RX6_37 C hX dX6_done_21 ?_
        refine v_iload_n C 3 dX6_done_24 rfl rfl ?_
        obtain ⟨x4, g5, e6, hM⟩ := zc_elim hM
        refine v_callVNi (ci := 3) (rest := []) C (c_X3_hasDeedsLeft hX (by decide) e6) mw_X3_hasDeedsLeft mi_X3_hasDeedsLeft ml_RX6_222 hX.symm (zm3 (by decide)) rfl rfl ⟨by decide, Nat.le_of_ble_eq_true rfl⟩ rfl (Nat.le_of_ble_eq_true rfl) dX6_done_25 rfl ?_
        refine v_if_ne C 41 dX6_done_28 rfl hM (fun hM => ?_) (fun hM => ?_)
        · exact at41 v2 g5 hM
        · refine v_iload_n C 2 dX6_done_31 rfl rfl ?_
          refine v_iload_n C 1 dX6_done_32 rfl rfl ?_
          refine v_icmp_ne C 38 dX6_done_33 rfl hM (fun hM => ?_) (fun hM => ?_)
          · refine v_iinc (L' := [some (.inr (.inl (0, 0))), some (.inl v1), some (.inl (v2 + nI 1)), some (.inl v3)]) C 2 (nI 1) dX6_done_38 zk_1 (by decide) rfl rfl ?_
            exact at41 (v2 + nI 1) g5 hM
          · refine v_iload_n C 3 dX6_done_36 rfl rfl ?_
            cases hM
            intro H locs ls hP hS h
            refine W.widen (k := 1) (n := 6) (by decide) (by decide) ?_
            exact vx_ret (W.iret C.1 C.2.1 hr (fun t ht hW => ⟨fun z => by rw [z] at hlt; exact absurd hlt (by decide), rfl, by rw [ht]; exact hP, hS.F ht⟩) hS.2.2 dX6_done_37 C.2.2.2.2.2.2.1)
    · rw [if_neg hlt] at hM
      refine v_geY C 47 dX6_done_6 rfl hlt ?_
      cases hM
      intro H locs ls hP hS h
      refine vx_throw0 (own := RX6) (cls := nse) (names := nsN) (ik := 290) (ic := 292) (mc := 1) (ms := 6) (A := zF X) C.1 C.2.1 hl C.2.2.2.1 (by decide) (by decide) (C.2.2.2.2.1 _ wT_link) (C.2.2.2.2.1 _ wT_init) (fun w hw => yhat hw C.2.2.2.2.1 hY) wT_ot hY.2.2.2.2.1 hY.2.2.2.2.2 hS (by rw [C.2.2.1]; exact h.1) dX6_done_47 dX6_done_50 dX6_done_51 dX6_done_54 (fun x hx => (htab x hx).elim) (by decide) (Nat.le_of_ble_eq_true rfl) (by decide) (by decide) C.2.2.2.2.2.2.1 (fun t hA hz hq => ⟨rfl, rfl, hP.kept (fun k q hk => hq q.1 ((hP k q hk).lt)), Nat.le_trans hS.1 hz, fun q h1 h2 => (hq q (Nat.lt_of_lt_of_le h1 hS.1)).trans (hS.2.1 q h1 h2)⟩) hS.2.2 (by decide) (by decide)
end DV
/-- TriedLines.done: it answers rr, or (rr is 1000) throws -/
theorem c_X6_done {X : zX} (hX : zfl X = false) {v1 rr : Int32} {g gr : zG} (hM : X6_done v1 g = some (rr, gr)) (l : Launch) (hl : l.stackTraces = false) : vx_Met l yX6_done (zws yX6_done cX6_done 4 (some .int)) dR (va_Pc ([.inr (.inl (0, 0)), .inl v1].map (zM X)) (eR X g)) (dQ X rr gr) (dX X rr gr) 1 6 (zF X) := by
  refine vx_ofW (cc := cX6_done) (maxL := 4) (ret := some .int) (by decide) rfl ?_
  intro p e s m args below meth c s₁ B hml htab hv
  obtain ⟨rfl, ⟨hP, hSt⟩, hY⟩ := hv
  have hts := atoms_spec (ws := zws yX6_done cX6_done 4 (some .int)) B.pre
  have hown : s.vm.findClass RX6 = some m.cls := findClass_of_methodNamed B.named
  have C : Cx X p dR s m ([.inr (.inl (0, 0)), .inl v1].map (zM X)).toArray meth c cX6_done 4 RX6 0 0 := ⟨B.exec, B.bytes, hml, hown, fun w hw => hts w (List.mem_cons_of_mem _ hw), hSt, B.notSynchronized, Nat.zero_le _, Nat.zero_le _⟩
  have hlv := lv_entry ([.inr (.inl (0, 0)), .inl v1].map (zM X)) (n := 4) (Nat.le_of_ble_eq_true rfl)
  rw [lg_entry_eq]
  rw [← zE_args X [.inr (.inl (0, 0)), .inl v1] 0 2 (znl_of _ trivial)] at hlv
  have hb : V X p l e dR s m ([.inr (.inl (0, 0)), .inl v1].map (zM X)).toArray below meth c 4 0 0 (vx_MQ below (dQ X rr gr) (dX X rr gr) ([.inr (.inl (0, 0)), .inl v1].map (zM X)).toArray s 1 6 (zF X)) g 0 [some (.inr (.inl (0, 0))), some (.inl v1), none, none] [] := by
    unfold X6_done at hM
    refine v_iconst C (nI 0) dX6_done_0 zk_0 ?_
    refine v_istore_n (L' := [some (.inr (.inl (0, 0))), some (.inl v1), some (.inl (nI 0)), none]) C 2 dX6_done_1 rfl (by decide) rfl ?_
    refine v_iconst C (nI 0) dX6_done_2 zk_0 ?_
    refine v_istore_n (L' := [some (.inr (.inl (0, 0))), some (.inl v1), some (.inl (nI 0)), some (.inl (nI 0))]) C 3 dX6_done_3 rfl (by decide) rfl ?_
    exact t_X6_done hl hX C hY B.returns htab zfuel (nI 0) (nI 0) g hM
  exact hb s.heap [] _ hP va_S.rf hlv
