/-! ===== the String constants' methods: length, charAt ===== -/
theorem zchr : ∀ i, i < 19 → ∀ j, j < zslen i → ((zsch i j &&& nI 255).toUInt32 % 65536).toInt32 = zsch i j ∧ narrow .char (.int (zsch i j)) = .int (zsch i j) := by decide +kernel
theorem zslen_lt : ∀ i, i < 19 → zslen i < 2 ^ 31 := by decide +kernel
theorem zM60 (X : zX) (i : Nat) : zM X (.inr (.inl (60, i))) = .ref (X.2.2.2.1 i) := by
  show Value.ref (zA X (60, i)) = _
  unfold zA
  rw [if_pos rfl]
theorem zM61 (X : zX) (i : Nat) : zM X (.inr (.inl (61, i))) = .ref (X.2.2.2.2.1 i) := by
  show Value.ref (zA X (61, i)) = _
  unfold zA
  rw [if_neg (fun h => by cases h), if_pos rfl]
section ZJ
variable {X : zX} {p : Program} {l : Launch} {e : Env} {R : Room} {s : State} {m : MethodId} {args : Array Value} {below : List Frame} {meth : Method} {c : Code} {cc : ByteArray} {nL : Nat} {own : String} {cells slots : Nat} {Q : State → Prop}
variable {g : zG} {pc : Nat} {L L' : List (Option zV)} {st : List zV} {res : Int32 × zG}
theorem v_compact (C : Cx X p R s m args meth c cc nL own cells slots) {index : Nat} (hl : Cond.fieldLink own index "java/lang/String" "COMPACT_STRINGS" "Z" ∈ zall) (hd : decode cc pc = .ok (.getstatic index, 3)) (kk : V X p l e R s m args below meth c nL cells slots Q g (pc + 3) L (.inl 1 :: st)) : V X p l e R s m args below meth c nL cells slots Q g pc L st :=
  fun H locs ls hP hS h => va_gets C.1 C.2.1 C.2.2.2.2.2.1.2.2.2.2.2.1 hS C.2.2.2.1 (C.2.2.2.2.1 _ hl) (fun _ h9 => h9) hd (kk H locs ls hP hS h)
theorem v_scoder (C : Cx X p R s m args meth c cc nL own cells slots) {index i : Nat} (hi : i < 19) (hl : Cond.fieldLink own index "java/lang/String" "coder" "B" ∈ zall) (hd : decode cc pc = .ok (.getfield index, 3)) (kk : V X p l e R s m args below meth c nL cells slots Q g (pc + 3) L (.inl 0 :: st)) : V X p l e R s m args below meth c nL cells slots Q g pc L (.inr (.inl (60, i)) :: st) := by
  intro H locs ls hP hS h
  rw [List.map_cons, zM60]
  exact vk_getf C.1 C.2.1 ((C.2.2.2.2.2.1.2.2.2.1 i hi).1 0 (by decide)).2.1 hS C.2.2.2.1 (C.2.2.2.2.1 _ hl) (fun _ h9 => h9) hd (kk H locs ls hP hS h)
theorem v_svalue (C : Cx X p R s m args meth c cc nL own cells slots) {index i : Nat} (hi : i < 19) (hl : Cond.fieldLink own index "java/lang/String" "value" "[B" ∈ zall) (hd : decode cc pc = .ok (.getfield index, 3)) (kk : V X p l e R s m args below meth c nL cells slots Q g (pc + 3) L (.inr (.inl (61, i)) :: st)) : V X p l e R s m args below meth c nL cells slots Q g pc L (.inr (.inl (60, i)) :: st) := by
  intro H locs ls hP hS h
  have k9 := kk H locs ls hP hS h
  rw [List.map_cons, zM61] at k9
  rw [List.map_cons, zM60]
  exact vk_getf C.1 C.2.1 ((C.2.2.2.2.2.1.2.2.2.1 i hi).1 0 (by decide)).2.2.1 hS C.2.2.2.1 (C.2.2.2.2.1 _ hl) (fun _ h9 => h9) hd k9
theorem v_salen (C : Cx X p R s m args meth c cc nL own cells slots) {i : Nat} (hi : i < 19) (hd : decode cc pc = .ok (.arraylength, 1)) (kk : V X p l e R s m args below meth c nL cells slots Q g (pc + 1) L (.inl (nI (zslen i)) :: st)) : V X p l e R s m args below meth c nL cells slots Q g pc L (.inr (.inl (61, i)) :: st) := by
  intro H locs ls hP hS h
  rw [List.map_cons, zM61]
  exact va_tlen C.1 C.2.1 ((C.2.2.2.2.2.1.2.2.2.1 i hi).1 0 (by decide)).2.2.2 hS rfl hd (kk H locs ls hP hS h)
theorem v_sald (C : Cx X p R s m args meth c cc nL own cells slots) {i : Nat} {j : Int32} (hi : i < 19) (hj : zin j (zslen i) = true) (hd : decode cc pc = .ok (.baload, 1)) (kk : V X p l e R s m args below meth c nL cells slots Q g (pc + 1) L (.inl (zsch i j.toNatClampNeg) :: st)) : V X p l e R s m args below meth c nL cells slots Q g pc L (.inl j :: .inr (.inl (61, i)) :: st) := by
  intro H locs ls hP hS h
  rw [List.map_cons, List.map_cons, zM61]
  exact va_tb C.1 C.2.1 ((C.2.2.2.2.2.1.2.2.2.1 i hi).1 0 (by decide)).2.2.2 hS (zin_vp hj) rfl hd (kk H locs ls hP hS h)
theorem v_i2c (C : Cx X p R s m args meth c cc nL own cells slots) {x v : Int32} (hd : decode cc pc = .ok (.i2c, 1)) (hv : (x.toUInt32 % 65536).toInt32 = v) (kk : V X p l e R s m args below meth c nL cells slots Q g (pc + 1) L (.inl v :: st)) : V X p l e R s m args below meth c nL cells slots Q g pc L (.inl x :: st) :=
  fun H locs ls hP hS h => lv_i2c C.1 C.2.1 hd hv (kk H locs ls hP hS h)
theorem zrecS (C : Cx X p R s m args meth c cc nL own cells slots) {i : Nat} (hi : i < 19) {H : Heap} {locs : List Loc} (hS : va_S (zF X) s.heap H locs) : ∃ cellB : Cell, H[zA X (60, i)]? = some cellB ∧ cellB.vm.isStatics = false ∧ s.vm.findClass RJ0 = some cellB.cls := by
  have h60 : zA X (60, i) = X.2.2.2.1 i := by unfold zA; rw [if_pos rfl]
  rw [h60]
  exact vk_recv (C.2.2.2.2.2.1.2.2.2.1 i hi) (i := 0) (by decide) hS
/-- a call of a String constant's method -/
theorem v_callT (C : Cx X p R s m args meth c cc nL own cells slots) {y : MethodName} {bytes : ByteArray} {maxL n d index i : Nat} {ret : Option FieldType} {as rest : List zV} {rr : Int32} (hi : i < 19) (hyc : y.cls = RJ0) (hM : MC X y bytes maxL ret d (.inr (.inl (60, i)) :: as) (some (.inl rr)) g g) (hw : zMW y bytes maxL ret n) (hin : zMI y) (hl : Cond.methodLink own index y ∈ zall) (hR : d + 1 ≤ R.frames ∧ 8 + (maxL + 11) + 36 * d ≤ R.locals) (hn : as.length = n) (hrest : rest.length ≤ 4) (hd : decode cc pc = .ok (.invokevirtual index, 3)) (hst : st = as.reverse ++ .inr (.inl (60, i)) :: rest) (kk : V X p l e R s m args below meth c nL cells slots Q g (pc + 3) L (.inl rr :: rest)) : V X p l e R s m args below meth c nL cells slots Q g pc L st := by
  subst hst
  intro H locs ls hP hS h
  have hsz : ls.size = nL := h.1
  have hrec := zrecS C hi hS
  rw [← hyc] at hrec
  have hcr := zcat X rest
  refine z_call (v := some (.int rr)) (g' := g) (rest := rest.map (zM X)) (a := ((.inr (.inl (60, i)) :: as).map (zM X)).toArray) ?_ hS (fun H1 locs1 hP1 hS1 => kk H1 locs1 ls hP1 hS1 h)
  refine va_runV (As := as.map (zM X)) (zfix C) (hM l) (⟨callB_of n C.2.2.2.2.1 (zgood hw.1) rfl rfl rfl (C.2.2.2.2.1 _ hw.2.1) (C.2.2.2.2.1 _ hl) hw.2.2 hR, C.2.2.2.2.1 _ hin.1, C.2.2.2.2.1 _ hin.2⟩) ⟨zblind, hrec, zRS C.2.2.2.2.2.1 hP hS⟩ rfl (by rw [List.length_map]; exact hn) hsz ?_ ?_ hd ⟨C.2.2.2.2.2.2.2.1, C.2.2.2.2.2.2.2.2⟩
  · simp [zM]
  · show 2 * 0 + _ ≤ 8
    omega
end ZJ
theorem fl_J0_38 : Cond.fieldLink RJ0 38 "java/lang/String" "COMPACT_STRINGS" "Z" ∈ zall := zall_of (i := 537) (by decide +kernel) rfl
theorem fl_J0_15 : Cond.fieldLink RJ0 15 "java/lang/String" "coder" "B" ∈ zall := zall_of (i := 1675) (by decide +kernel) rfl
theorem fl_J0_9 : Cond.fieldLink RJ0 9 "java/lang/String" "value" "[B" ∈ zall := zall_of (i := 1674) (by decide +kernel) rfl
theorem fl_J0_1053 : Cond.fieldLink RJ0 1053 "jdk/internal/util/Preconditions" "SIOOBE_FORMATTER" "Ljava/util/function/BiFunction;" ∈ zall := zall_of (i := 553) (by decide +kernel) rfl
theorem ml_J0_335 : Cond.methodLink RJ0 335 yJ0_coder_7d493 ∈ zall := zall_of (i := 533) (by decide +kernel) rfl
theorem ml_J0_492 : Cond.methodLink RJ0 492 yJ0_isLatin1_aae02 ∈ zall := zall_of (i := 543) (by decide +kernel) rfl
theorem ml_J0_495 : Cond.methodLink RJ0 495 yJ1_charAt_3b067 ∈ zall := zall_of (i := 547) (by decide +kernel) rfl
theorem ml_J1_9 : Cond.methodLink RJ1 9 yJ0_checkIndex_df160 ∈ zall := zall_of (i := 550) (by decide +kernel) rfl
theorem ml_J0_1059 : Cond.methodLink RJ0 1059 yJ3_checkIndex_8e157 ∈ zall := zall_of (i := 555) (by decide +kernel) rfl
theorem mw_J0_length : zMW yJ0_length_8abf5 cJ0_length_8abf5 1 (some .int) 0 := ⟨zall_of (i := 532) (by decide +kernel) rfl, zall_of (i := 140) (by decide +kernel) rfl, by decide, by decide, by decide +kernel⟩
theorem mi_J0_length : zMI yJ0_length_8abf5 := ⟨zall_of (i := 530) (by decide +kernel) rfl, zall_of (i := 531) (by decide +kernel) rfl⟩
theorem mw_J0_coder : zMW yJ0_coder_7d493 cJ0_coder_7d493 1 (some .byte) 0 := ⟨zall_of (i := 536) (by decide +kernel) rfl, zall_of (i := 140) (by decide +kernel) rfl, by decide, by decide, by decide +kernel⟩
theorem mi_J0_coder : zMI yJ0_coder_7d493 := ⟨zall_of (i := 534) (by decide +kernel) rfl, zall_of (i := 535) (by decide +kernel) rfl⟩
theorem mw_J0_charAt : zMW yJ0_charAt_5068e cJ0_charAt_5068e 2 (some .char) 1 := ⟨zall_of (i := 542) (by decide +kernel) rfl, zall_of (i := 140) (by decide +kernel) rfl, by decide, by decide, by decide +kernel⟩
theorem mi_J0_charAt : zMI yJ0_charAt_5068e := ⟨zall_of (i := 540) (by decide +kernel) rfl, zall_of (i := 541) (by decide +kernel) rfl⟩
theorem mw_J0_isLatin1 : zMW yJ0_isLatin1_aae02 cJ0_isLatin1_aae02 1 (some .boolean) 0 := ⟨zall_of (i := 546) (by decide +kernel) rfl, zall_of (i := 140) (by decide +kernel) rfl, by decide, by decide, by decide +kernel⟩
theorem mi_J0_isLatin1 : zMI yJ0_isLatin1_aae02 := ⟨zall_of (i := 544) (by decide +kernel) rfl, zall_of (i := 545) (by decide +kernel) rfl⟩
theorem mw_J1_charAt : zMW yJ1_charAt_3b067 cJ1_charAt_3b067 2 (some .char) 2 := ⟨zall_of (i := 549) (by decide +kernel) rfl, zall_of (i := 141) (by decide +kernel) rfl, by decide, by decide, by decide +kernel⟩
theorem ms_J1_charAt : Cond.static yJ1_charAt_3b067 ∈ zall := zall_of (i := 548) (by decide +kernel) rfl
theorem mw_J0_checkIndex : zMW yJ0_checkIndex_df160 cJ0_checkIndex_df160 2 none 2 := ⟨zall_of (i := 552) (by decide +kernel) rfl, zall_of (i := 140) (by decide +kernel) rfl, by decide, by decide, by decide +kernel⟩
theorem ms_J0_checkIndex : Cond.static yJ0_checkIndex_df160 ∈ zall := zall_of (i := 551) (by decide +kernel) rfl
theorem mw_J3_checkIndex : zMW yJ3_checkIndex_8e157 cJ3_checkIndex_8e157 3 (some .int) 3 := ⟨zall_of (i := 557) (by decide +kernel) rfl, zall_of (i := 142) (by decide +kernel) rfl, by decide, by decide, by decide +kernel⟩
theorem ms_J3_checkIndex : Cond.static yJ3_checkIndex_8e157 ∈ zall := zall_of (i := 556) (by decide +kernel) rfl
theorem c_coder {X : zX} {i : Nat} (hi : i < 19) (g : zG) : MC X yJ0_coder_7d493 cJ0_coder_7d493 1 (some .byte) 0 [.inr (.inl (60, i))] (some (.inl 0)) g g := by
  refine MC.mk (own := RJ0) (L := [some (.inr (.inl (60, i)))]) (by decide) rfl trivial (Nat.le_of_ble_eq_true rfl) rfl ?_
  intro p l e s m args below meth c C hr
  refine v_compact C fl_J0_38 dJ0_coder_7d493_0 ?_
  have hM : (if (1 : Int32) = 0 then none else some ((0 : Int32), g)) = some (0, g) := rfl
  refine v_if_eq C 13 dJ0_coder_7d493_3 rfl hM (fun h => by cases h) (fun hM => ?_)
  refine v_aload_n C 0 dJ0_coder_7d493_6 rfl rfl ?_
  refine v_scoder C hi fl_J0_15 dJ0_coder_7d493_7 ?_
  refine v_goto C 14 dJ0_coder_7d493_10 rfl ?_
  exact v_zret (res := (0, g)) C hr (by decide) dJ0_coder_7d493_14 rfl
theorem c_isLatin1 {X : zX} {i : Nat} (hi : i < 19) (g : zG) : MC X yJ0_isLatin1_aae02 cJ0_isLatin1_aae02 1 (some .boolean) 0 [.inr (.inl (60, i))] (some (.inl 1)) g g := by
  refine MC.mk (own := RJ0) (L := [some (.inr (.inl (60, i)))]) (by decide) rfl trivial (Nat.le_of_ble_eq_true rfl) rfl ?_
  intro p l e s m args below meth c C hr
  refine v_compact C fl_J0_38 dJ0_isLatin1_aae02_0 ?_
  have hM : (if (1 : Int32) = 0 then none else some ((1 : Int32), g)) = some (1, g) := rfl
  refine v_if_eq C 17 dJ0_isLatin1_aae02_3 rfl hM (fun h => by cases h) (fun hM => ?_)
  refine v_aload_n C 0 dJ0_isLatin1_aae02_6 rfl rfl ?_
  refine v_scoder C hi fl_J0_15 dJ0_isLatin1_aae02_7 ?_
  have hM : (if (0 : Int32) = 0 then some ((1 : Int32), g) else none) = some (1, g) := rfl
  refine v_if_ne C 17 dJ0_isLatin1_aae02_10 rfl hM (fun h => by cases h) (fun hM => ?_)
  refine v_iconst C 1 dJ0_isLatin1_aae02_13 (by decide) ?_
  refine v_goto C 18 dJ0_isLatin1_aae02_14 rfl ?_
  exact v_zret (res := (1, g)) C hr (by decide) dJ0_isLatin1_aae02_18 rfl
theorem c_slength {X : zX} {i : Nat} (hi : i < 19) (g : zG) : MC X yJ0_length_8abf5 cJ0_length_8abf5 1 (some .int) 1 [.inr (.inl (60, i))] (some (.inl (nI (zslen i)))) g g := by
  refine MC.mk (own := RJ0) (L := [some (.inr (.inl (60, i)))]) (by decide) rfl trivial (Nat.le_of_ble_eq_true rfl) rfl ?_
  intro p l e s m args below meth c C hr
  refine v_aload_n C 0 dJ0_length_8abf5_0 rfl rfl ?_
  refine v_svalue C hi fl_J0_9 dJ0_length_8abf5_1 ?_
  refine v_salen C hi dJ0_length_8abf5_4 ?_
  refine v_aload_n C 0 dJ0_length_8abf5_5 rfl rfl ?_
  refine v_callT (rest := [.inl (nI (zslen i))]) C hi rfl (c_coder hi g) mw_J0_coder mi_J0_coder ml_J0_335 ⟨by decide, Nat.le_of_ble_eq_true rfl⟩ rfl (Nat.le_of_ble_eq_true rfl) dJ0_length_8abf5_6 rfl ?_
  refine v_ishr C dJ0_length_8abf5_9 ?_
  have hs : ∀ i, i < 19 → (nI (zslen i) >>> ((0 : Int32) &&& 31)) = nI (zslen i) := by decide +kernel
  rw [hs i hi]
  exact v_iret (res := (nI (zslen i), g)) C hr dJ0_length_8abf5_10 rfl
/-- Preconditions.checkIndex, of a place that is in -/
theorem c_check3 {X : zX} {i n : Int32} {fv : Value} (hf : fv.category = 1) (h0 : ¬ i < 0) (h1 : i < n) (g : zG) (l : Launch) : Met l yJ3_checkIndex_8e157 (zws yJ3_checkIndex_8e157 cJ3_checkIndex_8e157 3 (some .int)) (zrm 0) (va_Pc [.int i, .int n, fv] (zR X g)) (zQ X (some (.int i)) g) 0 0 (zF X) := by
  refine Met.ofW (cc := cJ3_checkIndex_8e157) (maxL := 3) (ret := some .int) (by decide) rfl ?_
  intro p e s m args below meth c s₁ B hml hv
  obtain ⟨rfl, hP, hSt⟩ := hv
  have hx := B.exec
  have hb := B.bytes
  have hr := B.returns
  have hlk := B.notSynchronized
  have hsl : lg_sl [Value.int i, .int n, fv] = [.val (.int i), .val (.int n), .val fv] := by
    have h9 : lg_sl [fv] = [.val fv] := by simp only [lg_sl, List.flatMap_cons, List.flatMap_nil, hf]; rfl
    show [Slot.val (.int i), Slot.val (.int n)] ++ lg_sl [fv] = _
    rw [h9]
    rfl
  have hl := lv_entry [Value.int i, .int n, fv] (n := 3) (by rw [hsl]; exact Nat.le_of_ble_eq_true rfl)
  rw [lg_entry_eq]
  generalize (lg_sl [Value.int i, .int n, fv] ++ List.replicate (3 - (lg_sl [Value.int i, .int n, fv]).length) Slot.unset).toArray = ls at hl ⊢
  have hl : lv_has ls 3 [(0, .int i), (1, .int n), (2, fv)] := hl
  refine lv_iload_n hx hb dJ3_checkIndex_8e157_0 rfl (lv_at hl 0 rfl) ?_
  refine lv_if_lt (tgt := 9) hx hb dJ3_checkIndex_8e157_1 rfl (fun q => absurd q h0) (fun _ => ?_)
  refine lv_iload_n hx hb dJ3_checkIndex_8e157_4 rfl (lv_at hl 0 rfl) ?_
  refine lv_iload_n hx hb dJ3_checkIndex_8e157_5 rfl (lv_at hl 1 rfl) ?_
  refine lv_icmp_lt (tgt := 16) hx hb dJ3_checkIndex_8e157_6 rfl (fun _ => ?_) (fun q => absurd h1 q)
  refine lv_iload_n hx hb dJ3_checkIndex_8e157_16 rfl (lv_at hl 0 rfl) ?_
  exact W.iret hx hb hr (fun t ht hW => ⟨rfl, by rw [ht]; exact hP, (va_S.rf (A := zF X) (H0 := s.heap)).F ht⟩) (fun q hq => by cases hq) dJ3_checkIndex_8e157_17 hlk
theorem c_check2 {X : zX} {i n : Int32} (h0 : ¬ i < 0) (h1 : i < n) (g : zG) : MC X yJ0_checkIndex_df160 cJ0_checkIndex_df160 2 none 1 [.inl i, .inl n] none g g := by
  refine MC.mk (own := RJ0) (L := [some (.inl i), some (.inl n)]) (by decide) rfl trivial (Nat.le_of_ble_eq_true rfl) rfl ?_
  intro p l e s m args below meth c C hr
  refine v_iload_n C 0 dJ0_checkIndex_df160_0 rfl rfl ?_
  refine v_iload_n C 1 dJ0_checkIndex_df160_1 rfl rfl ?_
  have kk : V X p l e (zrm 1) s m args below meth c 2 0 0 (MQ below (zQ X (Option.map (zM X) none) g) args s 0 0 (zF X)) g 8 [some (.inl i), some (.inl n)] [.inl i] := by
    refine v_pop C dJ0_checkIndex_df160_8 ?_
    exact v_vret (x := 0) (res := (0, g)) C hr dJ0_checkIndex_df160_9 rfl
  intro H locs ls hP hS h
  have hsz : ls.size = 2 := h.1
  obtain ⟨fv, hf, hZ⟩ : ∃ fv : Value, fv.category = 1 ∧ va_Z "jdk/internal/util/Preconditions" "SIOOBE_FORMATTER" "Ljava/util/function/BiFunction;" fv (zF X) s s.heap := by
    rcases C.2.2.2.2.2.1.2.2.2.2.2.2 with q | ⟨t, q⟩
    · exact ⟨_, rfl, q⟩
    · exact ⟨_, rfl, q⟩
  refine va_gets C.1 C.2.1 hZ hS C.2.2.2.1 (C.2.2.2.2.1 _ fl_J0_1053) (fun _ h9 => h9) dJ0_checkIndex_df160_2 ?_
  refine z_call (v := some (.int i)) (g' := g) (rest := []) (a := [Value.int i, .int n, fv].toArray) ?_ hS (fun H1 locs1 hP1 hS1 => kk H1 locs1 ls hP1 hS1 h)
  refine va_runS (As := [Value.int i, .int n, fv]) (zfix C) (c_check3 hf h0 h1 g l) ⟨callB_of 3 C.2.2.2.2.1 (zgood mw_J3_checkIndex.1) rfl rfl rfl (C.2.2.2.2.1 _ mw_J3_checkIndex.2.1) (C.2.2.2.2.1 _ ml_J0_1059) mw_J3_checkIndex.2.2 ⟨by decide, Nat.le_of_ble_eq_true rfl⟩, C.2.2.2.2.1 _ ms_J3_checkIndex⟩ ⟨zblind, zRS C.2.2.2.2.2.1 hP hS⟩ rfl rfl hsz rfl (Nat.le_of_ble_eq_true rfl) dJ0_checkIndex_df160_5 ⟨Nat.zero_le _, Nat.zero_le _⟩
theorem zin_split {j : Int32} {n : Nat} (h : zin j n = true) (hn : n < 2 ^ 31) : ¬ j < 0 ∧ j < nI n := by
  simp only [zin, Bool.and_eq_true, decide_eq_true_eq] at h
  refine ⟨h.1, ?_⟩
  obtain ⟨k, hk, rfl⟩ := nI_of h.1
  rw [nI_clamp hk] at h
  exact nI_lt h.2 hn
theorem c_lcharAt {X : zX} {i : Nat} {j : Int32} (hi : i < 19) (hj : zin j (zslen i) = true) (g : zG) : MC X yJ1_charAt_3b067 cJ1_charAt_3b067 2 (some .char) 2 [.inr (.inl (61, i)), .inl j] (some (.inl (zsch i j.toNatClampNeg))) g g := by
  refine MC.mk (own := RJ1) (L := [some (.inr (.inl (61, i))), some (.inl j)]) (by decide) rfl trivial (Nat.le_of_ble_eq_true rfl) rfl ?_
  intro p l e s m args below meth c C hr
  have hz := zchr i hi j.toNatClampNeg (zin_lt hj)
  have hsp := zin_split hj (zslen_lt i hi)
  refine v_iload_n C 1 dJ1_charAt_3b067_0 rfl rfl ?_
  refine v_aload_n C 0 dJ1_charAt_3b067_1 rfl rfl ?_
  refine v_salen C hi dJ1_charAt_3b067_2 ?_
  refine v_callSv (rest := []) C (c_check2 hsp.1 hsp.2 g) mw_J0_checkIndex ms_J0_checkIndex ml_J1_9 ⟨by decide, Nat.le_of_ble_eq_true rfl⟩ rfl (Nat.le_of_ble_eq_true rfl) dJ1_charAt_3b067_3 rfl ?_
  refine v_aload_n C 0 dJ1_charAt_3b067_6 rfl rfl ?_
  refine v_iload_n C 1 dJ1_charAt_3b067_7 rfl rfl ?_
  refine v_sald C hi hj dJ1_charAt_3b067_8 ?_
  refine v_sipush C (nI 255) dJ1_charAt_3b067_9 (by decide) ?_
  refine v_iand C dJ1_charAt_3b067_12 ?_
  refine v_i2c C dJ1_charAt_3b067_13 hz.1 ?_
  exact v_zret (res := (zsch i j.toNatClampNeg, g)) C hr hz.2 dJ1_charAt_3b067_14 rfl
theorem c_scharAt {X : zX} {i : Nat} {j : Int32} (hi : i < 19) (hj : zin j (zslen i) = true) (g : zG) : MC X yJ0_charAt_5068e cJ0_charAt_5068e 2 (some .char) 3 [.inr (.inl (60, i)), .inl j] (some (.inl (zsch i j.toNatClampNeg))) g g := by
  refine MC.mk (own := RJ0) (L := [some (.inr (.inl (60, i))), some (.inl j)]) (by decide) rfl trivial (Nat.le_of_ble_eq_true rfl) rfl ?_
  intro p l e s m args below meth c C hr
  have hz := zchr i hi j.toNatClampNeg (zin_lt hj)
  refine v_aload_n C 0 dJ0_charAt_5068e_0 rfl rfl ?_
  refine v_callT (rest := []) C hi rfl (c_isLatin1 hi g) mw_J0_isLatin1 mi_J0_isLatin1 ml_J0_492 ⟨by decide, Nat.le_of_ble_eq_true rfl⟩ rfl (Nat.le_of_ble_eq_true rfl) dJ0_charAt_5068e_1 rfl ?_
  have hM : (if (1 : Int32) = 0 then none else some ((1 : Int32), g)) = some (1, g) := rfl
  refine v_if_eq C 16 dJ0_charAt_5068e_4 rfl hM (fun h => by cases h) (fun hM => ?_)
  refine v_aload_n C 0 dJ0_charAt_5068e_7 rfl rfl ?_
  refine v_svalue C hi fl_J0_9 dJ0_charAt_5068e_8 ?_
  refine v_iload_n C 1 dJ0_charAt_5068e_11 rfl rfl ?_
  refine v_callSi (rest := []) C (c_lcharAt hi hj g) mw_J1_charAt ms_J1_charAt ml_J0_495 ⟨by decide, Nat.le_of_ble_eq_true rfl⟩ rfl (Nat.le_of_ble_eq_true rfl) dJ0_charAt_5068e_12 rfl ?_
  exact v_zret (res := (zsch i j.toNatClampNeg, g)) C hr hz.2 dJ0_charAt_5068e_15 rfl
section ZJ2
variable {X : zX} {p : Program} {l : Launch} {e : Env} {R : Room} {s : State} {m : MethodId} {args : Array Value} {below : List Frame} {meth : Method} {c : Code} {cc : ByteArray} {nL : Nat} {own : String} {cells slots : Nat} {Q : State → Prop}
variable {g : zG} {pc : Nat} {L L' : List (Option zV)} {st : List zV} {res : Int32 × zG}
theorem v_strlen (C : Cx X p R s m args meth c cc nL own cells slots) {index i : Nat} (hi : i < 19) (hl : Cond.methodLink own index yJ0_length_8abf5 ∈ zall) (hR : 1 + 1 ≤ R.frames ∧ 8 + (1 + 11) + 36 * 1 ≤ R.locals) (hrest : st.length ≤ 4) (hd : decode cc pc = .ok (.invokevirtual index, 3)) (kk : V X p l e R s m args below meth c nL cells slots Q g (pc + 3) L (.inl (nI (zslen i)) :: st)) : V X p l e R s m args below meth c nL cells slots Q g pc L (.inr (.inl (60, i)) :: st) :=
  v_callT (as := []) C hi rfl (c_slength hi g) mw_J0_length mi_J0_length hl hR rfl hrest hd rfl kk
theorem v_strchar (C : Cx X p R s m args meth c cc nL own cells slots) {index i : Nat} {j : Int32} {A : zR0} (hi : i < 19) (hl : Cond.methodLink own index yJ0_charAt_5068e ∈ zall) (hR : 3 + 1 ≤ R.frames ∧ 8 + (2 + 11) + 36 * 3 ≤ R.locals) (hrest : st.length ≤ 4) (hd : decode cc pc = .ok (.invokevirtual index, 3)) (hM : zi j (zslen i) A = some res) (kk : A = some res → V X p l e R s m args below meth c nL cells slots Q g (pc + 3) L (.inl (zsch i j.toNatClampNeg) :: st)) : V X p l e R s m args below meth c nL cells slots Q g pc L (.inl j :: .inr (.inl (60, i)) :: st) := by
  obtain ⟨h1, h2⟩ := zi_elim hM
  exact v_callT (as := [.inl j]) C hi rfl (c_scharAt hi h1 g) mw_J0_charAt mi_J0_charAt hl hR rfl hrest hd rfl (kk h2)
end ZJ2
theorem Met.ofWF {l : Launch} {y : MethodName} {ws ws' : List Cond} {rm : Room} {Pc : Array Value → State → Prop} {Qc : Array Value → State → Outcome → State → Prop} {mc ms : Nat} {free : Addr → Prop} {cc : ByteArray} {maxL : Nat} {ret : Option FieldType}
    (hy : plainFor y = true) (hw : ws = Cond.code y cc maxL ret :: ws')
    (body : ∀ p e s m args below meth c s₁, BodyLoose p l y (headSpec ws rm) cc maxL ret e s m args below meth c s₁ → c.maxLocals = maxL → Pc args s →
      W p l e (headSpec ws rm).room s m args below meth c s.heap [] 0 0 (MQ below Qc args s mc ms free) (entryFrame m args maxL)) : Met l y ws rm Pc Qc mc ms free := by
  refine MetFree.of_bodySF (code := cc) (maxLocals := maxL) (ret := ret) hy ?_ ?_
  · intro args s m h hn
    obtain ⟨meth, c, h1, h2, h3, h4, h5, h6, -, -⟩ := Cond.code_spec hn (atoms_spec (ws := ws) h _ (by rw [hw]; exact List.mem_cons_self))
    exact ⟨meth, c, h1, h2, h3, h4, h5, h6⟩
  · intro p e s m args below meth c s₁ B hml hP _
    have hh0 : s₁.heap = s.heap := by rw [B.state]; rfl
    obtain ⟨t, a1, o, b1, b2, b3⟩ := body p e s m args below meth c s₁ B hml hP s₁ hh0 (Stand.of_body B)
    exact ⟨t, o, a1, b1, b2, ⟨b3.1, b3.2⟩⟩
theorem MC.mkF {X : zX} {y : MethodName} {bytes : ByteArray} {maxL : Nat} {ret : Option FieldType} {d : Nat} {as : List zV} {rv : Option zV} {g g' : zG} {own : String} (hy : plainFor y = true) (hown : y.cls = own) (has' : znl as) (hlen : as.length ≤ maxL) {L : List (Option zV)} (hL : as.map some ++ List.replicate (maxL - as.length) none = L)
    (body : ∀ p l e s m args below meth c, Cx X p (zrm d) s m args meth c bytes maxL own 0 0 → meth.sig.returnType = ret → V X p l e (zrm d) s m args below meth c maxL 0 0 (MQ below (zQ X (rv.map (zM X)) g') args s 0 0 (zF X)) g 0 L []) : MC X y bytes maxL ret d as rv g g' := by
  have has := znl_of as has'
  subst hL
  subst hown
  intro l
  refine Met.ofWF (cc := bytes) (maxL := maxL) (ret := ret) hy rfl ?_
  intro p e s m args below meth c s₁ B hml hv
  obtain ⟨rfl, hP, hSt⟩ := hv
  have hts := atoms_spec (ws := zws y bytes maxL ret) B.pre
  have hown : s.vm.findClass y.cls = some m.cls := findClass_of_methodNamed B.named
  have hb := body p l e s m (as.map (zM X)).toArray below meth c ⟨B.exec, B.bytes, hml, hown, fun w hw => hts w (List.mem_cons_of_mem _ hw), hSt, B.notSynchronized, Nat.zero_le _, Nat.zero_le _⟩ B.returns
  have hl := lv_entry (as.map (zM X)) (n := maxL) (by rw [zsl X as has]; exact hlen)
  rw [lg_entry_eq]
  rw [← zE_args X as 0 (maxL - as.length) has] at hl
  exact hb s.heap [] _ hP va_S.rf hl
