section ZL
variable {X : zX} {p : Program} {l : Launch} {e : Env} {s : State} {m : MethodId} {args : Array Value} {below : List Frame} {meth : Method} {c : Code} {rr : Int32} {gr : zG}
theorem c_X0_dropLine {X : zX} (hX : zfl X = false) {r0 : Nat} {v1 : Int32} {g gr : zG} {rr : Int32} (hb_r0 : r0 < 12) (hM : X0_dropLine r0 v1 g = some (rr, gr)) : MC X yX0_dropLine cX0_dropLine 2 none 0 [.inr (.inl (4, r0)), .inl v1] none g gr := by
  refine MC.mk (own := RX0) (L := [some (.inr (.inl (4, r0))), some (.inl v1)]) (by decide) rfl trivial (Nat.le_of_ble_eq_true rfl) rfl ?_
  intro p l e s m args below meth c C hr
  unfold X0_dropLine at hM
  refine v_iload_n C 1 dX0_dropLine_0 rfl rfl ?_
  refine v_if_lt C 47 dX0_dropLine_1 rfl hM (fun hM => ?_) (fun hM => ?_)
  · exact v_vret2 C hr dX0_dropLine_47 hM
  · refine v_iload_n C 1 dX0_dropLine_4 rfl rfl ?_
    refine v_bipush C (nI 16) dX0_dropLine_5 zkb_16 ?_
    refine v_icmp_ge C 47 dX0_dropLine_7 rfl hM (fun hM => ?_) (fun hM => ?_)
    · exact v_vret2 C hr dX0_dropLine_47 hM
    · refine v_aload_n C 0 dX0_dropLine_10 rfl rfl ?_
      refine gf_RX0_9 C hX hb_r0 dX0_dropLine_11 ?_
      refine v_iload_n C 1 dX0_dropLine_14 rfl rfl ?_
      refine v_bipush C (-2) dX0_dropLine_15 zkb_m2 ?_
      refine is_22 C hX hb_r0 dX0_dropLine_17 hM (fun g1 hM => ?_)
      refine v_aload_n C 0 dX0_dropLine_18 rfl rfl ?_
      refine gf_RX0_15 C hX hb_r0 dX0_dropLine_19 ?_
      refine v_iload_n C 1 dX0_dropLine_22 rfl rfl ?_
      refine v_iconst C (nI 0) dX0_dropLine_23 zk_0 ?_
      refine is_23 C hX hb_r0 dX0_dropLine_24 hM (fun g2 hM => ?_)
      refine v_aload_n C 0 dX0_dropLine_25 rfl rfl ?_
      refine gf_RX0_18 C hX hb_r0 dX0_dropLine_26 ?_
      refine v_iload_n C 1 dX0_dropLine_29 rfl rfl ?_
      refine v_iconst C (nI 0) dX0_dropLine_30 zk_0 ?_
      refine is_24 C hX hb_r0 zvb0 dX0_dropLine_31 hM (fun g3 hM => ?_)
      refine v_aload_n C 0 dX0_dropLine_32 rfl rfl ?_
      refine gf_RX0_22 C hX hb_r0 dX0_dropLine_33 ?_
      refine v_iload_n C 1 dX0_dropLine_36 rfl rfl ?_
      refine v_iconst C (nI 0) dX0_dropLine_37 zk_0 ?_
      refine is_25 C hX hb_r0 zvb0 dX0_dropLine_38 hM (fun g4 hM => ?_)
      refine v_aload_n C 0 dX0_dropLine_39 rfl rfl ?_
      refine gf_RX0_25 C hX hb_r0 dX0_dropLine_40 ?_
      refine v_iload_n C 1 dX0_dropLine_43 rfl rfl ?_
      refine v_bipush C (-2) dX0_dropLine_44 zkb_m2 ?_
      refine is_26 C hX hb_r0 dX0_dropLine_46 hM (fun g5 hM => ?_)
      exact v_vret2 C hr dX0_dropLine_47 hM

theorem t_X0_clear_l2  (hX : zfl X = false) (C : Cx X p (zrm 1) s m args meth c cX0_clear 2 RX0 0 0) (hr : meth.sig.returnType = none)  : ∀ (n : Nat) {r0 : Nat} {v1 : Int32} (g : zG), r0 < 12 → X0_clear_l2  n r0 v1 g = some (rr, gr) → V X p l e (zrm 1) s m args below meth c 2 0 0 (MQ below (zQ X (Option.map (zM X) none) gr) args s 0 0 (zF X)) g 2 [some (.inr (.inl (4, r0))), some (.inl v1)] [] := by
  intro n
  induction n with
  | zero =>
    intro r0 v1 g hb_r0 hM
    exact absurd (show (none : Option (Int32 × zG)) = some (rr, gr) from hM) (by simp)
  | succ n ih =>
    intro r0 v1 g hb_r0 hM
    rw [X0_clear_l2.eq_2] at hM
    refine v_iload_n C 1 dX0_clear_2 rfl rfl ?_
    refine v_bipush C (nI 16) dX0_clear_3 zkb_16 ?_
    refine v_icmp_ge C 19 dX0_clear_5 rfl hM (fun hM => ?_) (fun hM => ?_)
    · exact v_vret2 C hr dX0_clear_19 hM
    · refine v_aload_n C 0 dX0_clear_8 rfl rfl ?_
      refine v_iload_n C 1 dX0_clear_9 rfl rfl ?_
      obtain ⟨x1, g2, e3, hM⟩ := zc_elim hM
      refine v_callVv (ci := 0) (rest := []) C (c_X0_dropLine hX hb_r0 e3) mw_X0_dropLine mi_X0_dropLine ml_RX0_35 hX.symm (zm4 hb_r0) rfl rfl ⟨by decide, Nat.le_of_ble_eq_true rfl⟩ rfl (Nat.le_of_ble_eq_true rfl) dX0_clear_10 rfl ?_
      refine v_iinc (L' := [some (.inr (.inl (4, r0))), some (.inl (v1 + (nI 1)))]) C 1 (nI 1) dX0_clear_13 zk_1 (by decide) rfl rfl ?_
      refine v_goto C 2 dX0_clear_16 rfl ?_
      exact ih g2 hb_r0 hM

theorem c_X0_clear {X : zX} (hX : zfl X = false) {r0 : Nat} {g gr : zG} {rr : Int32} (hb_r0 : r0 < 12) (hM : X0_clear r0 g = some (rr, gr)) : MC X yX0_clear cX0_clear 2 none 1 [.inr (.inl (4, r0))] none g gr := by
  refine MC.mk (own := RX0) (L := [some (.inr (.inl (4, r0))), none]) (by decide) rfl trivial (Nat.le_of_ble_eq_true rfl) rfl ?_
  intro p l e s m args below meth c C hr
  unfold X0_clear at hM
  refine v_iconst C (nI 0) dX0_clear_0 zk_0 ?_
  refine v_istore_n (L' := [some (.inr (.inl (4, r0))), some (.inl (nI 0))]) C 1 dX0_clear_1 rfl (by decide) rfl ?_
  exact t_X0_clear_l2 hX C hr  _ g hb_r0 hM

theorem t_X0_copyFrom_l62  (hX : zfl X = false) (C : Cx X p (zrm 1) s m args meth c cX0_copyFrom 3 RX0 0 0) (hr : meth.sig.returnType = none)  : ∀ (n : Nat) {r0 : Nat} {r1 : Nat} {v2 : Int32} (g : zG), r0 < 12 → r1 < 12 → X0_copyFrom_l62  n r0 r1 v2 g = some (rr, gr) → V X p l e (zrm 1) s m args below meth c 3 0 0 (MQ below (zQ X (Option.map (zM X) none) gr) args s 0 0 (zF X)) g 62 [some (.inr (.inl (4, r0))), some (.inr (.inl (4, r1))), some (.inl v2)] [] := by
  intro n
  induction n with
  | zero =>
    intro r0 r1 v2 g hb_r0 hb_r1 hM
    exact absurd (show (none : Option (Int32 × zG)) = some (rr, gr) from hM) (by simp)
  | succ n ih =>
    intro r0 r1 v2 g hb_r0 hb_r1 hM
    rw [X0_copyFrom_l62.eq_2] at hM
    refine v_iload_n C 2 dX0_copyFrom_62 rfl rfl ?_
    refine v_bipush C (nI 16) dX0_copyFrom_63 zkb_16 ?_
    refine v_icmp_ge C 98 dX0_copyFrom_65 rfl hM (fun hM => ?_) (fun hM => ?_)
    · exact v_vret2 C hr dX0_copyFrom_98 hM
    · refine v_aload_n C 0 dX0_copyFrom_68 rfl rfl ?_
      refine gf_RX0_18 C hX hb_r0 dX0_copyFrom_69 ?_
      refine v_iload_n C 2 dX0_copyFrom_72 rfl rfl ?_
      refine v_aload_n C 1 dX0_copyFrom_73 rfl rfl ?_
      refine gf_RX0_18 C hX hb_r1 dX0_copyFrom_74 ?_
      refine v_iload_n C 2 dX0_copyFrom_77 rfl rfl ?_
      refine ia_24 C hX hb_r1 dX0_copyFrom_78 hM (fun hM _ => ?_)
      refine is_24 C hX hb_r0 rfl dX0_copyFrom_79 hM (fun g1 hM => ?_)
      refine v_aload_n C 0 dX0_copyFrom_80 rfl rfl ?_
      refine gf_RX0_22 C hX hb_r0 dX0_copyFrom_81 ?_
      refine v_iload_n C 2 dX0_copyFrom_84 rfl rfl ?_
      refine v_aload_n C 1 dX0_copyFrom_85 rfl rfl ?_
      refine gf_RX0_22 C hX hb_r1 dX0_copyFrom_86 ?_
      refine v_iload_n C 2 dX0_copyFrom_89 rfl rfl ?_
      refine ia_25 C hX hb_r1 dX0_copyFrom_90 hM (fun hM _ => ?_)
      refine is_25 C hX hb_r0 rfl dX0_copyFrom_91 hM (fun g2 hM => ?_)
      refine v_iinc (L' := [some (.inr (.inl (4, r0))), some (.inr (.inl (4, r1))), some (.inl (v2 + (nI 1)))]) C 2 (nI 1) dX0_copyFrom_92 zk_1 (by decide) rfl rfl ?_
      refine v_goto C 62 dX0_copyFrom_95 rfl ?_
      exact ih g2 hb_r0 hb_r1 hM

theorem c_X0_copyFrom {X : zX} (hX : zfl X = false) {r0 : Nat} {r1 : Nat} {g gr : zG} {rr : Int32} (hb_r0 : r0 < 12) (hb_r1 : r1 < 12) (hM : X0_copyFrom r0 r1 g = some (rr, gr)) : MC X yX0_copyFrom cX0_copyFrom 3 none 1 [.inr (.inl (4, r0)), .inr (.inl (4, r1))] none g gr := by
  refine MC.mk (own := RX0) (L := [some (.inr (.inl (4, r0))), some (.inr (.inl (4, r1))), none]) (by decide) rfl trivial (Nat.le_of_ble_eq_true rfl) rfl ?_
  intro p l e s m args below meth c C hr
  unfold X0_copyFrom at hM
  refine v_aload_n C 1 dX0_copyFrom_0 rfl rfl ?_
  refine gf_RX0_9 C hX hb_r1 dX0_copyFrom_1 ?_
  refine v_iconst C (nI 0) dX0_copyFrom_4 zk_0 ?_
  refine v_aload_n C 0 dX0_copyFrom_5 rfl rfl ?_
  refine gf_RX0_9 C hX hb_r0 dX0_copyFrom_6 ?_
  refine v_iconst C (nI 0) dX0_copyFrom_9 zk_0 ?_
  refine v_bipush C (nI 16) dX0_copyFrom_10 zkb_16 ?_
  refine v_copy0 (n := 16) C hX.symm hX.symm (zm22 hb_r0) rfl (zm22 hb_r1) rfl (by decide) (by decide) (by decide) ml_RX0_39 znat zstt zsys ⟨by decide, Nat.le_of_ble_eq_true rfl⟩ dX0_copyFrom_12 hM (fun g1 hM => ?_)
  refine v_aload_n C 1 dX0_copyFrom_15 rfl rfl ?_
  refine gf_RX0_15 C hX hb_r1 dX0_copyFrom_16 ?_
  refine v_iconst C (nI 0) dX0_copyFrom_19 zk_0 ?_
  refine v_aload_n C 0 dX0_copyFrom_20 rfl rfl ?_
  refine gf_RX0_15 C hX hb_r0 dX0_copyFrom_21 ?_
  refine v_iconst C (nI 0) dX0_copyFrom_24 zk_0 ?_
  refine v_bipush C (nI 16) dX0_copyFrom_25 zkb_16 ?_
  refine v_copy0 (n := 16) C hX.symm hX.symm (zm23 hb_r0) rfl (zm23 hb_r1) rfl (by decide) (by decide) (by decide) ml_RX0_39 znat zstt zsys ⟨by decide, Nat.le_of_ble_eq_true rfl⟩ dX0_copyFrom_27 hM (fun g2 hM => ?_)
  refine v_aload_n C 1 dX0_copyFrom_30 rfl rfl ?_
  refine gf_RX0_25 C hX hb_r1 dX0_copyFrom_31 ?_
  refine v_iconst C (nI 0) dX0_copyFrom_34 zk_0 ?_
  refine v_aload_n C 0 dX0_copyFrom_35 rfl rfl ?_
  refine gf_RX0_25 C hX hb_r0 dX0_copyFrom_36 ?_
  refine v_iconst C (nI 0) dX0_copyFrom_39 zk_0 ?_
  refine v_bipush C (nI 16) dX0_copyFrom_40 zkb_16 ?_
  refine v_copy0 (n := 16) C hX.symm hX.symm (zm26 hb_r0) rfl (zm26 hb_r1) rfl (by decide) (by decide) (by decide) ml_RX0_39 znat zstt zsys ⟨by decide, Nat.le_of_ble_eq_true rfl⟩ dX0_copyFrom_42 hM (fun g3 hM => ?_)
  refine v_aload_n C 1 dX0_copyFrom_45 rfl rfl ?_
  refine gf_RX0_28 C hX hb_r1 dX0_copyFrom_46 ?_
  refine v_iconst C (nI 0) dX0_copyFrom_49 zk_0 ?_
  refine v_aload_n C 0 dX0_copyFrom_50 rfl rfl ?_
  refine gf_RX0_28 C hX hb_r0 dX0_copyFrom_51 ?_
  refine v_iconst C (nI 0) dX0_copyFrom_54 zk_0 ?_
  refine v_bipush C (nI 64) dX0_copyFrom_55 zkb_64 ?_
  refine v_copy0 (n := 64) C hX.symm hX.symm (zm27 hb_r0) rfl (zm27 hb_r1) rfl (by decide) (by decide) (by decide) ml_RX0_39 znat zstt zsys ⟨by decide, Nat.le_of_ble_eq_true rfl⟩ dX0_copyFrom_57 hM (fun g4 hM => ?_)
  refine v_iconst C (nI 0) dX0_copyFrom_60 zk_0 ?_
  refine v_istore_n (L' := [some (.inr (.inl (4, r0))), some (.inr (.inl (4, r1))), some (.inl (nI 0))]) C 2 dX0_copyFrom_61 rfl (by decide) rfl ?_
  exact t_X0_copyFrom_l62 hX C hr  _ g4 hb_r0 hb_r1 hM

theorem t_X0_find_l2  (hX : zfl X = false) (C : Cx X p (zrm 0) s m args meth c cX0_find 3 RX0 0 0) (hr : meth.sig.returnType = (some .int))  : ∀ (n : Nat) {r0 : Nat} {v1 : Int32} {v2 : Int32} (g : zG), r0 < 12 → X0_find_l2  n r0 v1 v2 g = some (rr, gr) → V X p l e (zrm 0) s m args below meth c 3 0 0 (MQ below (zQ X (Option.map (zM X) (some (.inl rr))) gr) args s 0 0 (zF X)) g 2 [some (.inr (.inl (4, r0))), some (.inl v1), some (.inl v2)] [] := by
  intro n
  induction n with
  | zero =>
    intro r0 v1 v2 g hb_r0 hM
    exact absurd (show (none : Option (Int32 × zG)) = some (rr, gr) from hM) (by simp)
  | succ n ih =>
    intro r0 v1 v2 g hb_r0 hM
    rw [X0_find_l2.eq_2] at hM
    refine v_iload_n C 2 dX0_find_2 rfl rfl ?_
    refine v_bipush C (nI 16) dX0_find_3 zkb_16 ?_
    refine v_icmp_ge C 26 dX0_find_5 rfl hM (fun hM => ?_) (fun hM => ?_)
    · refine v_iconst C (-1) dX0_find_26 zk_m1 ?_
      exact v_iret2 C hr dX0_find_27 hM
    · refine v_aload_n C 0 dX0_find_8 rfl rfl ?_
      refine gf_RX0_9 C hX hb_r0 dX0_find_9 ?_
      refine v_iload_n C 2 dX0_find_12 rfl rfl ?_
      refine ia_22 C hX hb_r0 dX0_find_13 hM (fun hM _ => ?_)
      refine v_iload_n C 1 dX0_find_14 rfl rfl ?_
      refine v_icmp_ne C 20 dX0_find_15 rfl hM (fun hM => ?_) (fun hM => ?_)
      · refine v_iinc (L' := [some (.inr (.inl (4, r0))), some (.inl v1), some (.inl (v2 + (nI 1)))]) C 2 (nI 1) dX0_find_20 zk_1 (by decide) rfl rfl ?_
        refine v_goto C 2 dX0_find_23 rfl ?_
        exact ih g hb_r0 hM
      · refine v_iload_n C 2 dX0_find_18 rfl rfl ?_
        exact v_iret2 C hr dX0_find_19 hM

theorem c_X0_find {X : zX} (hX : zfl X = false) {r0 : Nat} {v1 : Int32} {g gr : zG} {rr : Int32} (hb_r0 : r0 < 12) (hM : X0_find r0 v1 g = some (rr, gr)) : MC X yX0_find cX0_find 3 (some .int) 0 [.inr (.inl (4, r0)), .inl v1] (some (.inl rr)) g gr := by
  refine MC.mk (own := RX0) (L := [some (.inr (.inl (4, r0))), some (.inl v1), none]) (by decide) rfl trivial (Nat.le_of_ble_eq_true rfl) rfl ?_
  intro p l e s m args below meth c C hr
  unfold X0_find at hM
  refine v_iconst C (nI 0) dX0_find_0 zk_0 ?_
  refine v_istore_n (L' := [some (.inr (.inl (4, r0))), some (.inl v1), some (.inl (nI 0))]) C 2 dX0_find_1 rfl (by decide) rfl ?_
  exact t_X0_find_l2 hX C hr  _ g hb_r0 hM

theorem c_X2_setOf {X : zX} (hX : zfl X = false) {r0 : Nat} {v1 : Int32} {g gr : zG} {rr : Int32} (hb_r0 : r0 < 2) (hM : X2_setOf r0 v1 g = some (rr, gr)) : MC X yX2_setOf cX2_setOf 2 (some .int) 0 [.inr (.inl (1, r0)), .inl v1] (some (.inl rr)) g gr := by
  refine MC.mk (own := RX2) (L := [some (.inr (.inl (1, r0))), some (.inl v1)]) (by decide) rfl trivial (Nat.le_of_ble_eq_true rfl) rfl ?_
  intro p l e s m args below meth c C hr
  unfold X2_setOf at hM
  refine v_aload_n C 0 dX2_setOf_0 rfl rfl ?_
  refine gf_RX2_28 C hX hb_r0 dX2_setOf_1 ?_
  refine v_if_le C 16 dX2_setOf_4 rfl hM (fun hM => ?_) (fun hM => ?_)
  · refine v_iconst C (nI 0) dX2_setOf_16 zk_0 ?_
    exact v_iret2 C hr dX2_setOf_17 hM
  · refine v_iload_n C 1 dX2_setOf_7 rfl rfl ?_
    refine v_aload_n C 0 dX2_setOf_8 rfl rfl ?_
    refine gf_RX2_28 C hX hb_r0 dX2_setOf_9 ?_
    refine v_irem C dX2_setOf_12 hM (fun hM => ?_)
    refine v_goto C 17 dX2_setOf_13 rfl ?_
    exact v_iret2 C hr dX2_setOf_17 hM

theorem t_X0_findRoom_b110 {r0 : Nat} {v2 : Int32} {v3 : Int32} {v4 : Int32} {k22 : Nat → Int32 → Int32 → Int32 → zG → Option (Int32 × zG)} {g : zG} (hX : zfl X = false) (C : Cx X p (zrm 1) s m args meth c cX0_findRoom 5 RX0 0 0) (hr : meth.sig.returnType = (some .int)) (hb_r0 : r0 < 12) (hk22 : ∀ (r0 : Nat) (v2 : Int32) (v3 : Int32) (v4 : Int32) (g : zG), r0 < 12 →  k22 r0 v2 v3 v4 g = some (rr, gr) → V X p l e (zrm 1) s m args below meth c 5 0 0 (MQ below (zQ X (Option.map (zM X) (some (.inl rr))) gr) args s 0 0 (zF X)) g 22 [some (.inr (.inl (4, r0))), none, some (.inl v2), some (.inl v3), some (.inl v4)] []) (hM : X0_findRoom_b110 k22 r0 v2 v3 v4 g = some (rr, gr)) : V X p l e (zrm 1) s m args below meth c 5 0 0 (MQ below (zQ X (Option.map (zM X) (some (.inl rr))) gr) args s 0 0 (zF X)) g 110 [some (.inr (.inl (4, r0))), none, some (.inl v2), some (.inl v3), some (.inl v4)] [] := by
  unfold X0_findRoom_b110 at hM
  refine v_iinc (L' := [some (.inr (.inl (4, r0))), none, some (.inl v2), some (.inl v3), some (.inl (v4 + (nI 1)))]) C 4 (nI 1) dX0_findRoom_110 zk_1 (by decide) rfl rfl ?_
  refine v_goto C 22 dX0_findRoom_113 rfl ?_
  exact hk22 r0 v2 v3 (v4 + (nI 1)) g hb_r0 hM

theorem t_X0_findRoom_b107 {r0 : Nat} {v2 : Int32} {v4 : Int32} {k22 : Nat → Int32 → Int32 → Int32 → zG → Option (Int32 × zG)} {g : zG} (hX : zfl X = false) (C : Cx X p (zrm 1) s m args meth c cX0_findRoom 5 RX0 0 0) (hr : meth.sig.returnType = (some .int)) (hb_r0 : r0 < 12) (hk22 : ∀ (r0 : Nat) (v2 : Int32) (v3 : Int32) (v4 : Int32) (g : zG), r0 < 12 →  k22 r0 v2 v3 v4 g = some (rr, gr) → V X p l e (zrm 1) s m args below meth c 5 0 0 (MQ below (zQ X (Option.map (zM X) (some (.inl rr))) gr) args s 0 0 (zF X)) g 22 [some (.inr (.inl (4, r0))), none, some (.inl v2), some (.inl v3), some (.inl v4)] []) (hM : X0_findRoom_b107 k22 r0 v2 v4 g = some (rr, gr)) : V X p l e (zrm 1) s m args below meth c 5 0 0 (MQ below (zQ X (Option.map (zM X) (some (.inl rr))) gr) args s 0 0 (zF X)) g 107 [some (.inr (.inl (4, r0))), none, some (.inl v2), none, some (.inl v4)] [] := by
  unfold X0_findRoom_b107 at hM
  refine v_iload C 4 dX0_findRoom_107 rfl ?_
  refine v_istore_n (L' := [some (.inr (.inl (4, r0))), none, some (.inl v2), some (.inl v4), some (.inl v4)]) C 3 dX0_findRoom_109 rfl (by decide) rfl ?_
  exact t_X0_findRoom_b110 hX C hr hb_r0 hk22 hM

theorem t_X0_findRoom_l22  (hX : zfl X = false) (C : Cx X p (zrm 1) s m args meth c cX0_findRoom 5 RX0 0 0) (hr : meth.sig.returnType = (some .int))  : ∀ (n : Nat) {r0 : Nat} {v2 : Int32} {v3 : Int32} {v4 : Int32} (g : zG), r0 < 12 → X0_findRoom_l22  n r0 v2 v3 v4 g = some (rr, gr) → V X p l e (zrm 1) s m args below meth c 5 0 0 (MQ below (zQ X (Option.map (zM X) (some (.inl rr))) gr) args s 0 0 (zF X)) g 22 [some (.inr (.inl (4, r0))), none, some (.inl v2), some (.inl v3), some (.inl v4)] [] := by
  intro n
  induction n with
  | zero =>
    intro r0 v2 v3 v4 g hb_r0 hM
    exact absurd (show (none : Option (Int32 × zG)) = some (rr, gr) from hM) (by simp)
  | succ n ih =>
    intro r0 v2 v3 v4 g hb_r0 hM
    rw [X0_findRoom_l22.eq_2] at hM
    refine v_iload C 4 dX0_findRoom_22 rfl ?_
    refine v_iload_n C 2 dX0_findRoom_24 rfl rfl ?_
    refine v_aload_n C 0 dX0_findRoom_25 rfl rfl ?_
    refine gf_RX0_31 C hX hb_r0 dX0_findRoom_26 ?_
    refine gf_RX0_51 C hX (by decide) dX0_findRoom_29 ?_
    refine v_iadd C dX0_findRoom_32 ?_
    refine v_icmp_ge C 116 dX0_findRoom_33 rfl hM (fun hM => ?_) (fun hM => ?_)
    · refine v_iload_n C 3 dX0_findRoom_116 rfl rfl ?_
      exact v_iret2 C hr dX0_findRoom_117 hM
    · refine v_iload C 4 dX0_findRoom_36 rfl ?_
      refine v_bipush C (nI 16) dX0_findRoom_38 zkb_16 ?_
      refine v_icmp_ge C 116 dX0_findRoom_40 rfl hM (fun hM => ?_) (fun hM => ?_)
      · refine v_iload_n C 3 dX0_findRoom_116 rfl rfl ?_
        exact v_iret2 C hr dX0_findRoom_117 hM
      · refine v_iload C 4 dX0_findRoom_43 rfl ?_
        refine v_if_ge C 51 dX0_findRoom_45 rfl hM (fun hM => ?_) (fun hM => ?_)
        · refine v_aload_n C 0 dX0_findRoom_51 rfl rfl ?_
          refine gf_RX0_9 C hX hb_r0 dX0_findRoom_52 ?_
          refine v_iload C 4 dX0_findRoom_55 rfl ?_
          refine ia_22 C hX hb_r0 dX0_findRoom_57 hM (fun hM _ => ?_)
          refine v_bipush C (-2) dX0_findRoom_58 zkb_m2 ?_
          refine v_icmp_ne C 66 dX0_findRoom_60 rfl hM (fun hM => ?_) (fun hM => ?_)
          · refine v_aload_n C 0 dX0_findRoom_66 rfl rfl ?_
            refine gf_RX0_18 C hX hb_r0 dX0_findRoom_67 ?_
            refine v_iload C 4 dX0_findRoom_70 rfl ?_
            refine ia_24 C hX hb_r0 dX0_findRoom_72 hM (fun hM _ => ?_)
            refine v_if_ne C 110 dX0_findRoom_73 rfl hM (fun hM => ?_) (fun hM => ?_)
            · exact t_X0_findRoom_b110 hX C hr hb_r0 (fun r0 v2 v3 v4 g hb_r0 hM => ih g hb_r0 hM) hM
            · refine v_aload_n C 0 dX0_findRoom_76 rfl rfl ?_
              refine gf_RX0_22 C hX hb_r0 dX0_findRoom_77 ?_
              refine v_iload C 4 dX0_findRoom_80 rfl ?_
              refine ia_25 C hX hb_r0 dX0_findRoom_82 hM (fun hM _ => ?_)
              refine v_if_ne C 110 dX0_findRoom_83 rfl hM (fun hM => ?_) (fun hM => ?_)
              · exact t_X0_findRoom_b110 hX C hr hb_r0 (fun r0 v2 v3 v4 g hb_r0 hM => ih g hb_r0 hM) hM
              · refine v_iload_n C 3 dX0_findRoom_86 rfl rfl ?_
                refine v_iconst C (-1) dX0_findRoom_87 zk_m1 ?_
                refine v_icmp_eq C 107 dX0_findRoom_88 rfl hM (fun hM => ?_) (fun hM => ?_)
                · exact v_weak (t_X0_findRoom_b107 hX C hr hb_r0 (fun r0 v2 v3 v4 g hb_r0 hM => ih g hb_r0 hM) hM) (show zsub [some (.inr (.inl (4, r0))), none, some (.inl v2), none, some (.inl v4)] [some (.inr (.inl (4, r0))), none, some (.inl v2), some (.inl v3), some (.inl v4)] from ⟨rfl, ⟨rfl, ⟨rfl, trivial⟩⟩⟩)
                · refine v_aload_n C 0 dX0_findRoom_91 rfl rfl ?_
                  refine gf_RX0_25 C hX hb_r0 dX0_findRoom_92 ?_
                  refine v_iload C 4 dX0_findRoom_95 rfl ?_
                  refine ia_26 C hX hb_r0 dX0_findRoom_97 hM (fun hM _ => ?_)
                  refine v_aload_n C 0 dX0_findRoom_98 rfl rfl ?_
                  refine gf_RX0_25 C hX hb_r0 dX0_findRoom_99 ?_
                  refine v_iload_n C 3 dX0_findRoom_102 rfl rfl ?_
                  refine ia_26 C hX hb_r0 dX0_findRoom_103 hM (fun hM _ => ?_)
                  refine v_icmp_ge C 110 dX0_findRoom_104 rfl hM (fun hM => ?_) (fun hM => ?_)
                  · exact t_X0_findRoom_b110 hX C hr hb_r0 (fun r0 v2 v3 v4 g hb_r0 hM => ih g hb_r0 hM) hM
                  · exact v_weak (t_X0_findRoom_b107 hX C hr hb_r0 (fun r0 v2 v3 v4 g hb_r0 hM => ih g hb_r0 hM) hM) (show zsub [some (.inr (.inl (4, r0))), none, some (.inl v2), none, some (.inl v4)] [some (.inr (.inl (4, r0))), none, some (.inl v2), some (.inl v3), some (.inl v4)] from ⟨rfl, ⟨rfl, ⟨rfl, trivial⟩⟩⟩)
          · refine v_iload C 4 dX0_findRoom_63 rfl ?_
            exact v_iret2 C hr dX0_findRoom_65 hM
        · refine v_goto C 110 dX0_findRoom_48 rfl ?_
          exact t_X0_findRoom_b110 hX C hr hb_r0 (fun r0 v2 v3 v4 g hb_r0 hM => ih g hb_r0 hM) hM

theorem c_X0_findRoom {X : zX} (hX : zfl X = false) {r0 : Nat} {v1 : Int32} {g gr : zG} {rr : Int32} (hb_r0 : r0 < 12) (hM : X0_findRoom r0 v1 g = some (rr, gr)) : MC X yX0_findRoom cX0_findRoom 5 (some .int) 1 [.inr (.inl (4, r0)), .inl v1] (some (.inl rr)) g gr := by
  refine MC.mk (own := RX0) (L := [some (.inr (.inl (4, r0))), some (.inl v1), none, none, none]) (by decide) rfl trivial (Nat.le_of_ble_eq_true rfl) rfl ?_
  intro p l e s m args below meth c C hr
  unfold X0_findRoom at hM
  refine v_aload_n C 0 dX0_findRoom_0 rfl rfl ?_
  refine gf_RX0_31 C hX hb_r0 dX0_findRoom_1 ?_
  refine v_iload_n C 1 dX0_findRoom_4 rfl rfl ?_
  obtain ⟨x1, g2, e3, hM⟩ := zc_elim hM
  refine v_callVNi (ci := 2) (rest := []) C (c_X2_setOf hX (by decide) e3) mw_X2_setOf mi_X2_setOf ml_RX0_45 hX.symm (zm1 (by decide)) rfl rfl ⟨by decide, Nat.le_of_ble_eq_true rfl⟩ rfl (Nat.le_of_ble_eq_true rfl) dX0_findRoom_5 rfl ?_
  refine v_aload_n C 0 dX0_findRoom_8 rfl rfl ?_
  refine gf_RX0_31 C hX hb_r0 dX0_findRoom_9 ?_
  refine gf_RX0_51 C hX (by decide) dX0_findRoom_12 ?_
  refine v_imul C dX0_findRoom_15 ?_
  refine v_istore_n (L' := [some (.inr (.inl (4, r0))), some (.inl v1), some (.inl (x1 * (g2 2001 0 0))), none, none]) C 2 dX0_findRoom_16 rfl (by decide) rfl ?_
  refine v_iconst C (-1) dX0_findRoom_17 zk_m1 ?_
  refine v_istore_n (L' := [some (.inr (.inl (4, r0))), some (.inl v1), some (.inl (x1 * (g2 2001 0 0))), some (.inl (-1)), none]) C 3 dX0_findRoom_18 rfl (by decide) rfl ?_
  refine v_iload_n C 2 dX0_findRoom_19 rfl rfl ?_
  refine v_istore (L' := [some (.inr (.inl (4, r0))), some (.inl v1), some (.inl (x1 * (g2 2001 0 0))), some (.inl (-1)), some (.inl (x1 * (g2 2001 0 0)))]) C 4 dX0_findRoom_20 (by decide) rfl ?_
  exact v_weak (t_X0_findRoom_l22 hX C hr  _ g2 hb_r0 hM) (show zsub [some (.inr (.inl (4, r0))), none, some (.inl (x1 * (g2 2001 0 0))), some (.inl (-1)), some (.inl (x1 * (g2 2001 0 0)))] [some (.inr (.inl (4, r0))), some (.inl v1), some (.inl (x1 * (g2 2001 0 0))), some (.inl (-1)), some (.inl (x1 * (g2 2001 0 0)))] from ⟨rfl, ⟨rfl, ⟨rfl, ⟨rfl, trivial⟩⟩⟩⟩)

theorem t_X0_markedLines_b55 {r0 : Nat} {v1 : Int32} {v2 : Int32} {v3 : Int32} {k4 : Nat → Int32 → Int32 → Int32 → zG → Option (Int32 × zG)} {g : zG} (hX : zfl X = false) (C : Cx X p (zrm 0) s m args meth c cX0_markedLines 4 RX0 0 0) (hr : meth.sig.returnType = (some .int)) (hb_r0 : r0 < 12) (hk4 : ∀ (r0 : Nat) (v1 : Int32) (v2 : Int32) (v3 : Int32) (g : zG), r0 < 12 →  k4 r0 v1 v2 v3 g = some (rr, gr) → V X p l e (zrm 0) s m args below meth c 4 0 0 (MQ below (zQ X (Option.map (zM X) (some (.inl rr))) gr) args s 0 0 (zF X)) g 4 [some (.inr (.inl (4, r0))), some (.inl v1), some (.inl v2), some (.inl v3)] []) (hM : X0_markedLines_b55 k4 r0 v1 v2 v3 g = some (rr, gr)) : V X p l e (zrm 0) s m args below meth c 4 0 0 (MQ below (zQ X (Option.map (zM X) (some (.inl rr))) gr) args s 0 0 (zF X)) g 55 [some (.inr (.inl (4, r0))), some (.inl v1), some (.inl v2), some (.inl v3)] [] := by
  unfold X0_markedLines_b55 at hM
  refine v_iinc (L' := [some (.inr (.inl (4, r0))), some (.inl v1), some (.inl v2), some (.inl (v3 + (nI 1)))]) C 3 (nI 1) dX0_markedLines_55 zk_1 (by decide) rfl rfl ?_
  refine v_goto C 4 dX0_markedLines_58 rfl ?_
  exact hk4 r0 v1 v2 (v3 + (nI 1)) g hb_r0 hM

theorem t_X0_markedLines_b44 {r0 : Nat} {v1 : Int32} {v2 : Int32} {v3 : Int32} {k4 : Nat → Int32 → Int32 → Int32 → zG → Option (Int32 × zG)} {g : zG} (hX : zfl X = false) (C : Cx X p (zrm 0) s m args meth c cX0_markedLines 4 RX0 0 0) (hr : meth.sig.returnType = (some .int)) (hb_r0 : r0 < 12) (hk4 : ∀ (r0 : Nat) (v1 : Int32) (v2 : Int32) (v3 : Int32) (g : zG), r0 < 12 →  k4 r0 v1 v2 v3 g = some (rr, gr) → V X p l e (zrm 0) s m args below meth c 4 0 0 (MQ below (zQ X (Option.map (zM X) (some (.inl rr))) gr) args s 0 0 (zF X)) g 4 [some (.inr (.inl (4, r0))), some (.inl v1), some (.inl v2), some (.inl v3)] []) (hM : X0_markedLines_b44 k4 r0 v1 v2 v3 g = some (rr, gr)) : V X p l e (zrm 0) s m args below meth c 4 0 0 (MQ below (zQ X (Option.map (zM X) (some (.inl rr))) gr) args s 0 0 (zF X)) g 44 [some (.inr (.inl (4, r0))), some (.inl v1), some (.inl v2), some (.inl v3)] [] := by
  unfold X0_markedLines_b44 at hM
  refine v_iload_n C 2 dX0_markedLines_44 rfl rfl ?_
  refine v_iconst C (nI 1) dX0_markedLines_45 zk_1 ?_
  refine v_aload_n C 0 dX0_markedLines_46 rfl rfl ?_
  refine gf_RX0_9 C hX hb_r0 dX0_markedLines_47 ?_
  refine v_iload_n C 3 dX0_markedLines_50 rfl rfl ?_
  refine ia_22 C hX hb_r0 dX0_markedLines_51 hM (fun hM _ => ?_)
  refine v_ishl C dX0_markedLines_52 ?_
  refine v_ior C dX0_markedLines_53 ?_
  refine v_istore_n (L' := [some (.inr (.inl (4, r0))), some (.inl v1), some (.inl (v2 ||| ((nI 1) <<< ((g 22 r0 v3.toNatClampNeg) &&& 31)))), some (.inl v3)]) C 2 dX0_markedLines_54 rfl (by decide) rfl ?_
  exact t_X0_markedLines_b55 hX C hr hb_r0 hk4 hM

theorem t_X0_markedLines_l4  (hX : zfl X = false) (C : Cx X p (zrm 0) s m args meth c cX0_markedLines 4 RX0 0 0) (hr : meth.sig.returnType = (some .int))  : ∀ (n : Nat) {r0 : Nat} {v1 : Int32} {v2 : Int32} {v3 : Int32} (g : zG), r0 < 12 → X0_markedLines_l4  n r0 v1 v2 v3 g = some (rr, gr) → V X p l e (zrm 0) s m args below meth c 4 0 0 (MQ below (zQ X (Option.map (zM X) (some (.inl rr))) gr) args s 0 0 (zF X)) g 4 [some (.inr (.inl (4, r0))), some (.inl v1), some (.inl v2), some (.inl v3)] [] := by
  intro n
  induction n with
  | zero =>
    intro r0 v1 v2 v3 g hb_r0 hM
    exact absurd (show (none : Option (Int32 × zG)) = some (rr, gr) from hM) (by simp)
  | succ n ih =>
    intro r0 v1 v2 v3 g hb_r0 hM
    rw [X0_markedLines_l4.eq_2] at hM
    refine v_iload_n C 3 dX0_markedLines_4 rfl rfl ?_
    refine v_bipush C (nI 16) dX0_markedLines_5 zkb_16 ?_
    refine v_icmp_ge C 61 dX0_markedLines_7 rfl hM (fun hM => ?_) (fun hM => ?_)
    · refine v_iload_n C 2 dX0_markedLines_61 rfl rfl ?_
      exact v_iret2 C hr dX0_markedLines_62 hM
    · refine v_aload_n C 0 dX0_markedLines_10 rfl rfl ?_
      refine gf_RX0_9 C hX hb_r0 dX0_markedLines_11 ?_
      refine v_iload_n C 3 dX0_markedLines_14 rfl rfl ?_
      refine ia_22 C hX hb_r0 dX0_markedLines_15 hM (fun hM _ => ?_)
      refine v_if_lt C 55 dX0_markedLines_16 rfl hM (fun hM => ?_) (fun hM => ?_)
      · exact t_X0_markedLines_b55 hX C hr hb_r0 (fun r0 v1 v2 v3 g hb_r0 hM => ih g hb_r0 hM) hM
      · refine v_iload_n C 1 dX0_markedLines_19 rfl rfl ?_
        refine v_if_eq C 35 dX0_markedLines_20 rfl hM (fun hM => ?_) (fun hM => ?_)
        · refine v_aload_n C 0 dX0_markedLines_35 rfl rfl ?_
          refine gf_RX0_18 C hX hb_r0 dX0_markedLines_36 ?_
          refine v_iload_n C 3 dX0_markedLines_39 rfl rfl ?_
          refine ia_24 C hX hb_r0 dX0_markedLines_40 hM (fun hM _ => ?_)
          refine v_if_eq C 55 dX0_markedLines_41 rfl hM (fun hM => ?_) (fun hM => ?_)
          · exact t_X0_markedLines_b55 hX C hr hb_r0 (fun r0 v1 v2 v3 g hb_r0 hM => ih g hb_r0 hM) hM
          · exact t_X0_markedLines_b44 hX C hr hb_r0 (fun r0 v1 v2 v3 g hb_r0 hM => ih g hb_r0 hM) hM
        · refine v_aload_n C 0 dX0_markedLines_23 rfl rfl ?_
          refine gf_RX0_22 C hX hb_r0 dX0_markedLines_24 ?_
          refine v_iload_n C 3 dX0_markedLines_27 rfl rfl ?_
          refine ia_25 C hX hb_r0 dX0_markedLines_28 hM (fun hM _ => ?_)
          refine v_if_eq C 55 dX0_markedLines_29 rfl hM (fun hM => ?_) (fun hM => ?_)
          · exact t_X0_markedLines_b55 hX C hr hb_r0 (fun r0 v1 v2 v3 g hb_r0 hM => ih g hb_r0 hM) hM
          · refine v_goto C 44 dX0_markedLines_32 rfl ?_
            exact t_X0_markedLines_b44 hX C hr hb_r0 (fun r0 v1 v2 v3 g hb_r0 hM => ih g hb_r0 hM) hM

theorem c_X0_markedLines {X : zX} (hX : zfl X = false) {r0 : Nat} {v1 : Int32} {g gr : zG} {rr : Int32} (hb_r0 : r0 < 12) (hM : X0_markedLines r0 v1 g = some (rr, gr)) : MC X yX0_markedLines cX0_markedLines 4 (some .int) 0 [.inr (.inl (4, r0)), .inl v1] (some (.inl rr)) g gr := by
  refine MC.mk (own := RX0) (L := [some (.inr (.inl (4, r0))), some (.inl v1), none, none]) (by decide) rfl trivial (Nat.le_of_ble_eq_true rfl) rfl ?_
  intro p l e s m args below meth c C hr
  unfold X0_markedLines at hM
  refine v_iconst C (nI 0) dX0_markedLines_0 zk_0 ?_
  refine v_istore_n (L' := [some (.inr (.inl (4, r0))), some (.inl v1), some (.inl (nI 0)), none]) C 2 dX0_markedLines_1 rfl (by decide) rfl ?_
  refine v_iconst C (nI 0) dX0_markedLines_2 zk_0 ?_
  refine v_istore_n (L' := [some (.inr (.inl (4, r0))), some (.inl v1), some (.inl (nI 0)), some (.inl (nI 0))]) C 3 dX0_markedLines_3 rfl (by decide) rfl ?_
  exact t_X0_markedLines_l4 hX C hr  _ g hb_r0 hM

theorem t_X0_unmark_b44 {r0 : Nat} {v1 : Int32} {v2 : Int32} {k2 : Nat → Int32 → Int32 → zG → Option (Int32 × zG)} {g : zG} (hX : zfl X = false) (C : Cx X p (zrm 0) s m args meth c cX0_unmark 3 RX0 0 0) (hr : meth.sig.returnType = none) (hb_r0 : r0 < 12) (hk2 : ∀ (r0 : Nat) (v1 : Int32) (v2 : Int32) (g : zG), r0 < 12 →  k2 r0 v1 v2 g = some (rr, gr) → V X p l e (zrm 0) s m args below meth c 3 0 0 (MQ below (zQ X (Option.map (zM X) none) gr) args s 0 0 (zF X)) g 2 [some (.inr (.inl (4, r0))), some (.inl v1), some (.inl v2)] []) (hM : X0_unmark_b44 k2 r0 v1 v2 g = some (rr, gr)) : V X p l e (zrm 0) s m args below meth c 3 0 0 (MQ below (zQ X (Option.map (zM X) none) gr) args s 0 0 (zF X)) g 44 [some (.inr (.inl (4, r0))), some (.inl v1), some (.inl v2)] [] := by
  unfold X0_unmark_b44 at hM
  refine v_aload_n C 0 dX0_unmark_44 rfl rfl ?_
  refine gf_RX0_18 C hX hb_r0 dX0_unmark_45 ?_
  refine v_iload_n C 2 dX0_unmark_48 rfl rfl ?_
  refine v_iconst C (nI 0) dX0_unmark_49 zk_0 ?_
  refine is_24 C hX hb_r0 zvb0 dX0_unmark_50 hM (fun g1 hM => ?_)
  refine v_aload_n C 0 dX0_unmark_51 rfl rfl ?_
  refine gf_RX0_22 C hX hb_r0 dX0_unmark_52 ?_
  refine v_iload_n C 2 dX0_unmark_55 rfl rfl ?_
  refine v_iconst C (nI 0) dX0_unmark_56 zk_0 ?_
  refine is_25 C hX hb_r0 zvb0 dX0_unmark_57 hM (fun g2 hM => ?_)
  refine v_iinc (L' := [some (.inr (.inl (4, r0))), some (.inl v1), some (.inl (v2 + (nI 1)))]) C 2 (nI 1) dX0_unmark_58 zk_1 (by decide) rfl rfl ?_
  refine v_goto C 2 dX0_unmark_61 rfl ?_
  exact hk2 r0 v1 (v2 + (nI 1)) g2 hb_r0 hM

theorem t_X0_unmark_l2  (hX : zfl X = false) (C : Cx X p (zrm 0) s m args meth c cX0_unmark 3 RX0 0 0) (hr : meth.sig.returnType = none)  : ∀ (n : Nat) {r0 : Nat} {v1 : Int32} {v2 : Int32} (g : zG), r0 < 12 → X0_unmark_l2  n r0 v1 v2 g = some (rr, gr) → V X p l e (zrm 0) s m args below meth c 3 0 0 (MQ below (zQ X (Option.map (zM X) none) gr) args s 0 0 (zF X)) g 2 [some (.inr (.inl (4, r0))), some (.inl v1), some (.inl v2)] [] := by
  intro n
  induction n with
  | zero =>
    intro r0 v1 v2 g hb_r0 hM
    exact absurd (show (none : Option (Int32 × zG)) = some (rr, gr) from hM) (by simp)
  | succ n ih =>
    intro r0 v1 v2 g hb_r0 hM
    rw [X0_unmark_l2.eq_2] at hM
    refine v_iload_n C 2 dX0_unmark_2 rfl rfl ?_
    refine v_bipush C (nI 16) dX0_unmark_3 zkb_16 ?_
    refine v_icmp_ge C 64 dX0_unmark_5 rfl hM (fun hM => ?_) (fun hM => ?_)
    · exact v_vret2 C hr dX0_unmark_64 hM
    · refine v_iload_n C 1 dX0_unmark_8 rfl rfl ?_
      refine v_if_eq C 44 dX0_unmark_9 rfl hM (fun hM => ?_) (fun hM => ?_)
      · exact t_X0_unmark_b44 hX C hr hb_r0 (fun r0 v1 v2 g hb_r0 hM => ih g hb_r0 hM) hM
      · refine v_aload_n C 0 dX0_unmark_12 rfl rfl ?_
        refine gf_RX0_22 C hX hb_r0 dX0_unmark_13 ?_
        refine v_iload_n C 2 dX0_unmark_16 rfl rfl ?_
        refine ia_25 C hX hb_r0 dX0_unmark_17 hM (fun hM _ => ?_)
        refine v_if_eq C 44 dX0_unmark_18 rfl hM (fun hM => ?_) (fun hM => ?_)
        · exact t_X0_unmark_b44 hX C hr hb_r0 (fun r0 v1 v2 g hb_r0 hM => ih g hb_r0 hM) hM
        · refine v_aload_n C 0 dX0_unmark_21 rfl rfl ?_
          refine gf_RX0_9 C hX hb_r0 dX0_unmark_22 ?_
          refine v_iload_n C 2 dX0_unmark_25 rfl rfl ?_
          refine v_bipush C (-2) dX0_unmark_26 zkb_m2 ?_
          refine is_22 C hX hb_r0 dX0_unmark_28 hM (fun g1 hM => ?_)
          refine v_aload_n C 0 dX0_unmark_29 rfl rfl ?_
          refine gf_RX0_15 C hX hb_r0 dX0_unmark_30 ?_
          refine v_iload_n C 2 dX0_unmark_33 rfl rfl ?_
          refine v_iconst C (nI 0) dX0_unmark_34 zk_0 ?_
          refine is_23 C hX hb_r0 dX0_unmark_35 hM (fun g2 hM => ?_)
          refine v_aload_n C 0 dX0_unmark_36 rfl rfl ?_
          refine gf_RX0_25 C hX hb_r0 dX0_unmark_37 ?_
          refine v_iload_n C 2 dX0_unmark_40 rfl rfl ?_
          refine v_bipush C (-2) dX0_unmark_41 zkb_m2 ?_
          refine is_26 C hX hb_r0 dX0_unmark_43 hM (fun g3 hM => ?_)
          exact t_X0_unmark_b44 hX C hr hb_r0 (fun r0 v1 v2 g hb_r0 hM => ih g hb_r0 hM) hM

theorem c_X0_unmark {X : zX} (hX : zfl X = false) {r0 : Nat} {v1 : Int32} {g gr : zG} {rr : Int32} (hb_r0 : r0 < 12) (hM : X0_unmark r0 v1 g = some (rr, gr)) : MC X yX0_unmark cX0_unmark 3 none 0 [.inr (.inl (4, r0)), .inl v1] none g gr := by
  refine MC.mk (own := RX0) (L := [some (.inr (.inl (4, r0))), some (.inl v1), none]) (by decide) rfl trivial (Nat.le_of_ble_eq_true rfl) rfl ?_
  intro p l e s m args below meth c C hr
  unfold X0_unmark at hM
  refine v_iconst C (nI 0) dX0_unmark_0 zk_0 ?_
  refine v_istore_n (L' := [some (.inr (.inl (4, r0))), some (.inl v1), some (.inl (nI 0))]) C 2 dX0_unmark_1 rfl (by decide) rfl ?_
  exact t_X0_unmark_l2 hX C hr  _ g hb_r0 hM

theorem c_X0_wordIn {X : zX} (hX : zfl X = false) {r0 : Nat} {v1 : Int32} {v2 : Int32} {g gr : zG} {rr : Int32} (hb_r0 : r0 < 12) (hM : X0_wordIn r0 v1 v2 g = some (rr, gr)) : MC X yX0_wordIn cX0_wordIn 4 (some .int) 0 [.inr (.inl (4, r0)), .inl v1, .inl v2] (some (.inl rr)) g gr := by
  refine MC.mk (own := RX0) (L := [some (.inr (.inl (4, r0))), some (.inl v1), some (.inl v2), none]) (by decide) rfl trivial (Nat.le_of_ble_eq_true rfl) rfl ?_
  intro p l e s m args below meth c C hr
  unfold X0_wordIn at hM
  refine v_iload_n C 1 dX0_wordIn_0 rfl rfl ?_
  refine v_iconst C (nI 4) dX0_wordIn_1 zk_4 ?_
  refine v_imul C dX0_wordIn_2 ?_
  refine v_iload_n C 2 dX0_wordIn_3 rfl rfl ?_
  refine v_iadd C dX0_wordIn_4 ?_
  refine v_istore_n (L' := [some (.inr (.inl (4, r0))), some (.inl v1), some (.inl v2), some (.inl ((v1 * (nI 4)) + v2))]) C 3 dX0_wordIn_5 rfl (by decide) rfl ?_
  refine v_iload_n C 3 dX0_wordIn_6 rfl rfl ?_
  refine v_if_lt C 28 dX0_wordIn_7 rfl hM (fun hM => ?_) (fun hM => ?_)
  · refine v_iconst C (nI 0) dX0_wordIn_28 zk_0 ?_
    exact v_iret2 C hr dX0_wordIn_29 hM
  · refine v_iload_n C 3 dX0_wordIn_10 rfl rfl ?_
    refine v_aload_n C 0 dX0_wordIn_11 rfl rfl ?_
    refine gf_RX0_28 C hX hb_r0 dX0_wordIn_12 ?_
    refine v_alen C hX.symm (zm27 hb_r0) rfl (by decide) dX0_wordIn_15 (nI 64) rfl ?_
    refine v_icmp_ge C 28 dX0_wordIn_16 rfl hM (fun hM => ?_) (fun hM => ?_)
    · refine v_iconst C (nI 0) dX0_wordIn_28 zk_0 ?_
      exact v_iret2 C hr dX0_wordIn_29 hM
    · refine v_aload_n C 0 dX0_wordIn_19 rfl rfl ?_
      refine gf_RX0_28 C hX hb_r0 dX0_wordIn_20 ?_
      refine v_iload_n C 3 dX0_wordIn_23 rfl rfl ?_
      refine ia_27 C hX hb_r0 dX0_wordIn_24 hM (fun hM _ => ?_)
      refine v_goto C 29 dX0_wordIn_25 rfl ?_
      exact v_iret2 C hr dX0_wordIn_29 hM

theorem c_X0_setWord {X : zX} (hX : zfl X = false) {r0 : Nat} {v1 : Int32} {v2 : Int32} {v3 : Int32} {g gr : zG} {rr : Int32} (hb_r0 : r0 < 12) (hM : X0_setWord r0 v1 v2 v3 g = some (rr, gr)) : MC X yX0_setWord cX0_setWord 5 none 0 [.inr (.inl (4, r0)), .inl v1, .inl v2, .inl v3] none g gr := by
  refine MC.mk (own := RX0) (L := [some (.inr (.inl (4, r0))), some (.inl v1), some (.inl v2), some (.inl v3), none]) (by decide) rfl trivial (Nat.le_of_ble_eq_true rfl) rfl ?_
  intro p l e s m args below meth c C hr
  unfold X0_setWord at hM
  refine v_iload_n C 1 dX0_setWord_0 rfl rfl ?_
  refine v_iconst C (nI 4) dX0_setWord_1 zk_4 ?_
  refine v_imul C dX0_setWord_2 ?_
  refine v_iload_n C 2 dX0_setWord_3 rfl rfl ?_
  refine v_iadd C dX0_setWord_4 ?_
  refine v_istore (L' := [some (.inr (.inl (4, r0))), some (.inl v1), some (.inl v2), some (.inl v3), some (.inl ((v1 * (nI 4)) + v2))]) C 4 dX0_setWord_5 (by decide) rfl ?_
  refine v_iload C 4 dX0_setWord_7 rfl ?_
  refine v_if_lt C 30 dX0_setWord_9 rfl hM (fun hM => ?_) (fun hM => ?_)
  · exact v_vret2 C hr dX0_setWord_30 hM
  · refine v_iload C 4 dX0_setWord_12 rfl ?_
    refine v_aload_n C 0 dX0_setWord_14 rfl rfl ?_
    refine gf_RX0_28 C hX hb_r0 dX0_setWord_15 ?_
    refine v_alen C hX.symm (zm27 hb_r0) rfl (by decide) dX0_setWord_18 (nI 64) rfl ?_
    refine v_icmp_ge C 30 dX0_setWord_19 rfl hM (fun hM => ?_) (fun hM => ?_)
    · exact v_vret2 C hr dX0_setWord_30 hM
    · refine v_aload_n C 0 dX0_setWord_22 rfl rfl ?_
      refine gf_RX0_28 C hX hb_r0 dX0_setWord_23 ?_
      refine v_iload C 4 dX0_setWord_26 rfl ?_
      refine v_iload_n C 3 dX0_setWord_28 rfl rfl ?_
      refine is_27 C hX hb_r0 dX0_setWord_29 hM (fun g1 hM => ?_)
      exact v_vret2 C hr dX0_setWord_30 hM

theorem t_X1_clear_l38  (hX : zfl X = false) (C : Cx X p (zrm 0) s m args meth c cX1_clear 2 RX1 0 0) (hr : meth.sig.returnType = none)  : ∀ (n : Nat) {r0 : Nat} {v1 : Int32} (g : zG), r0 < 12 → X1_clear_l38  n r0 v1 g = some (rr, gr) → V X p l e (zrm 0) s m args below meth c 2 0 0 (MQ below (zQ X (Option.map (zM X) none) gr) args s 0 0 (zF X)) g 38 [some (.inr (.inl (5, r0))), some (.inl v1)] [] := by
  intro n
  induction n with
  | zero =>
    intro r0 v1 g hb_r0 hM
    exact absurd (show (none : Option (Int32 × zG)) = some (rr, gr) from hM) (by simp)
  | succ n ih =>
    intro r0 v1 g hb_r0 hM
    rw [X1_clear_l38.eq_2] at hM
    refine v_iload_n C 1 dX1_clear_38 rfl rfl ?_
    refine v_bipush C (nI 7) dX1_clear_39 zkb_7 ?_
    refine v_icmp_ge C 57 dX1_clear_41 rfl hM (fun hM => ?_) (fun hM => ?_)
    · exact v_vret2 C hr dX1_clear_57 hM
    · refine v_aload_n C 0 dX1_clear_44 rfl rfl ?_
      refine gf_RX1_9 C hX hb_r0 dX1_clear_45 ?_
      refine v_iload_n C 1 dX1_clear_48 rfl rfl ?_
      refine v_iconst C (nI 0) dX1_clear_49 zk_0 ?_
      refine is_28 C hX hb_r0 dX1_clear_50 hM (fun g1 hM => ?_)
      refine v_iinc (L' := [some (.inr (.inl (5, r0))), some (.inl (v1 + (nI 1)))]) C 1 (nI 1) dX1_clear_51 zk_1 (by decide) rfl rfl ?_
      refine v_goto C 38 dX1_clear_54 rfl ?_
      exact ih g1 hb_r0 hM

theorem c_X1_clear {X : zX} (hX : zfl X = false) {r0 : Nat} {g gr : zG} {rr : Int32} (hb_r0 : r0 < 12) (hM : X1_clear r0 g = some (rr, gr)) : MC X yX1_clear cX1_clear 2 none 0 [.inr (.inl (5, r0))] none g gr := by
  refine MC.mk (own := RX1) (L := [some (.inr (.inl (5, r0))), none]) (by decide) rfl trivial (Nat.le_of_ble_eq_true rfl) rfl ?_
  intro p l e s m args below meth c C hr
  unfold X1_clear at hM
  refine v_aload_n C 0 dX1_clear_0 rfl rfl ?_
  refine v_iconst C (nI 0) dX1_clear_1 zk_0 ?_
  refine pf_RX1_15 C hX hb_r0 dX1_clear_2 hM (fun g1 hM => ?_)
  refine v_aload_n C 0 dX1_clear_5 rfl rfl ?_
  refine v_iconst C (nI 0) dX1_clear_6 zk_0 ?_
  refine pf_RX1_19 C hX hb_r0 dX1_clear_7 hM (fun g2 hM => ?_)
  refine v_aload_n C 0 dX1_clear_10 rfl rfl ?_
  refine v_iconst C (nI 0) dX1_clear_11 zk_0 ?_
  refine pf_RX1_22 C hX hb_r0 dX1_clear_12 hM (fun g3 hM => ?_)
  refine v_aload_n C 0 dX1_clear_15 rfl rfl ?_
  refine v_iconst C (nI 0) dX1_clear_16 zk_0 ?_
  refine pf_RX1_25 C hX hb_r0 dX1_clear_17 hM (fun g4 hM => ?_)
  refine v_aload_n C 0 dX1_clear_20 rfl rfl ?_
  refine v_iconst C (nI 0) dX1_clear_21 zk_0 ?_
  refine pf_RX1_28 C hX hb_r0 dX1_clear_22 hM (fun g5 hM => ?_)
  refine v_aload_n C 0 dX1_clear_25 rfl rfl ?_
  refine v_iconst C (nI 0) dX1_clear_26 zk_0 ?_
  refine pf_RX1_31 C hX hb_r0 dX1_clear_27 hM (fun g6 hM => ?_)
  refine v_aload_n C 0 dX1_clear_30 rfl rfl ?_
  refine v_bipush C (-2) dX1_clear_31 zkb_m2 ?_
  refine pf_RX1_34 C hX hb_r0 dX1_clear_33 hM (fun g7 hM => ?_)
  refine v_iconst C (nI 0) dX1_clear_36 zk_0 ?_
  refine v_istore_n (L' := [some (.inr (.inl (5, r0))), some (.inl (nI 0))]) C 1 dX1_clear_37 rfl (by decide) rfl ?_
  exact t_X1_clear_l38 hX C hr  _ g7 hb_r0 hM

theorem c_X1_copyFrom {X : zX} (hX : zfl X = false) {r0 : Nat} {r1 : Nat} {g gr : zG} {rr : Int32} (hb_r0 : r0 < 12) (hb_r1 : r1 < 12) (hM : X1_copyFrom r0 r1 g = some (rr, gr)) : MC X yX1_copyFrom cX1_copyFrom 2 none 1 [.inr (.inl (5, r0)), .inr (.inl (5, r1))] none g gr := by
  refine MC.mk (own := RX1) (L := [some (.inr (.inl (5, r0))), some (.inr (.inl (5, r1)))]) (by decide) rfl trivial (Nat.le_of_ble_eq_true rfl) rfl ?_
  intro p l e s m args below meth c C hr
  unfold X1_copyFrom at hM
  refine v_aload_n C 0 dX1_copyFrom_0 rfl rfl ?_
  refine v_aload_n C 1 dX1_copyFrom_1 rfl rfl ?_
  refine gf_RX1_15 C hX hb_r1 dX1_copyFrom_2 ?_
  refine pf_RX1_15 C hX hb_r0 dX1_copyFrom_5 hM (fun g1 hM => ?_)
  refine v_aload_n C 0 dX1_copyFrom_8 rfl rfl ?_
  refine v_aload_n C 1 dX1_copyFrom_9 rfl rfl ?_
  refine gf_RX1_19 C hX hb_r1 dX1_copyFrom_10 ?_
  refine pf_RX1_19 C hX hb_r0 dX1_copyFrom_13 hM (fun g2 hM => ?_)
  refine v_aload_n C 0 dX1_copyFrom_16 rfl rfl ?_
  refine v_aload_n C 1 dX1_copyFrom_17 rfl rfl ?_
  refine gf_RX1_22 C hX hb_r1 dX1_copyFrom_18 ?_
  refine pf_RX1_22 C hX hb_r0 dX1_copyFrom_21 hM (fun g3 hM => ?_)
  refine v_aload_n C 0 dX1_copyFrom_24 rfl rfl ?_
  refine v_aload_n C 1 dX1_copyFrom_25 rfl rfl ?_
  refine gf_RX1_25 C hX hb_r1 dX1_copyFrom_26 ?_
  refine pf_RX1_25 C hX hb_r0 dX1_copyFrom_29 hM (fun g4 hM => ?_)
  refine v_aload_n C 0 dX1_copyFrom_32 rfl rfl ?_
  refine v_aload_n C 1 dX1_copyFrom_33 rfl rfl ?_
  refine gf_RX1_28 C hX hb_r1 dX1_copyFrom_34 ?_
  refine pf_RX1_28 C hX hb_r0 dX1_copyFrom_37 hM (fun g5 hM => ?_)
  refine v_aload_n C 0 dX1_copyFrom_40 rfl rfl ?_
  refine v_aload_n C 1 dX1_copyFrom_41 rfl rfl ?_
  refine gf_RX1_31 C hX hb_r1 dX1_copyFrom_42 ?_
  refine pf_RX1_31 C hX hb_r0 dX1_copyFrom_45 hM (fun g6 hM => ?_)
  refine v_aload_n C 0 dX1_copyFrom_48 rfl rfl ?_
  refine v_aload_n C 1 dX1_copyFrom_49 rfl rfl ?_
  refine gf_RX1_34 C hX hb_r1 dX1_copyFrom_50 ?_
  refine pf_RX1_34 C hX hb_r0 dX1_copyFrom_53 hM (fun g7 hM => ?_)
  refine v_aload_n C 1 dX1_copyFrom_56 rfl rfl ?_
  refine gf_RX1_9 C hX hb_r1 dX1_copyFrom_57 ?_
  refine v_iconst C (nI 0) dX1_copyFrom_60 zk_0 ?_
  refine v_aload_n C 0 dX1_copyFrom_61 rfl rfl ?_
  refine gf_RX1_9 C hX hb_r0 dX1_copyFrom_62 ?_
  refine v_iconst C (nI 0) dX1_copyFrom_65 zk_0 ?_
  refine v_bipush C (nI 7) dX1_copyFrom_66 zkb_7 ?_
  refine v_copy0 (n := 7) C hX.symm hX.symm (zm28 hb_r0) rfl (zm28 hb_r1) rfl (by decide) (by decide) (by decide) ml_RX1_37 znat zstt zsys ⟨by decide, Nat.le_of_ble_eq_true rfl⟩ dX1_copyFrom_68 hM (fun g8 hM => ?_)
  exact v_vret2 C hr dX1_copyFrom_71 hM

theorem t_X2_clear_l37 {k57 : Nat → Int32 → zG → Option (Int32 × zG)} (hX : zfl X = false) (C : Cx X p (zrm 0) s m args meth c cX2_clear 2 RX2 0 0) (hr : meth.sig.returnType = none) (hk57 : ∀ (r0 : Nat) (v1 : Int32) (g : zG), r0 < 2 →  k57 r0 v1 g = some (rr, gr) → V X p l e (zrm 0) s m args below meth c 2 0 0 (MQ below (zQ X (Option.map (zM X) none) gr) args s 0 0 (zF X)) g 57 [some (.inr (.inl (1, r0))), some (.inl v1)] []) : ∀ (n : Nat) {r0 : Nat} {v1 : Int32} (g : zG), r0 < 2 → X2_clear_l37 k57 n r0 v1 g = some (rr, gr) → V X p l e (zrm 0) s m args below meth c 2 0 0 (MQ below (zQ X (Option.map (zM X) none) gr) args s 0 0 (zF X)) g 37 [some (.inr (.inl (1, r0))), some (.inl v1)] [] := by
  intro n
  induction n with
  | zero =>
    intro r0 v1 g hb_r0 hM
    exact absurd (show (none : Option (Int32 × zG)) = some (rr, gr) from hM) (by simp)
  | succ n ih =>
    intro r0 v1 g hb_r0 hM
    rw [X2_clear_l37.eq_2] at hM
    refine v_iload_n C 1 dX2_clear_37 rfl rfl ?_
    refine v_iconst C (nI 4) dX2_clear_38 zk_4 ?_
    refine v_icmp_ge C 55 dX2_clear_39 rfl hM (fun hM => ?_) (fun hM => ?_)
    · refine v_iconst C (nI 0) dX2_clear_55 zk_0 ?_
      refine v_istore_n (L' := [some (.inr (.inl (1, r0))), some (.inl (nI 0))]) C 1 dX2_clear_56 rfl (by decide) rfl ?_
      exact hk57 r0 (nI 0) g hb_r0 hM
    · refine v_aload_n C 0 dX2_clear_42 rfl rfl ?_
      refine gf_RX2_9 C hX hb_r0 dX2_clear_43 ?_
      refine v_iload_n C 1 dX2_clear_46 rfl rfl ?_
      refine v_iconst C (nI 0) dX2_clear_47 zk_0 ?_
      refine is_11 C hX hb_r0 dX2_clear_48 hM (fun g1 hM => ?_)
      refine v_iinc (L' := [some (.inr (.inl (1, r0))), some (.inl (v1 + (nI 1)))]) C 1 (nI 1) dX2_clear_49 zk_1 (by decide) rfl rfl ?_
      refine v_goto C 37 dX2_clear_52 rfl ?_
      exact ih g1 hb_r0 hM

theorem t_X2_clear_l57  (hX : zfl X = false) (C : Cx X p (zrm 0) s m args meth c cX2_clear 2 RX2 0 0) (hr : meth.sig.returnType = none)  : ∀ (n : Nat) {r0 : Nat} {v1 : Int32} (g : zG), r0 < 2 → X2_clear_l57  n r0 v1 g = some (rr, gr) → V X p l e (zrm 0) s m args below meth c 2 0 0 (MQ below (zQ X (Option.map (zM X) none) gr) args s 0 0 (zF X)) g 57 [some (.inr (.inl (1, r0))), some (.inl v1)] [] := by
  intro n
  induction n with
  | zero =>
    intro r0 v1 g hb_r0 hM
    exact absurd (show (none : Option (Int32 × zG)) = some (rr, gr) from hM) (by simp)
  | succ n ih =>
    intro r0 v1 g hb_r0 hM
    rw [X2_clear_l57.eq_2] at hM
    refine v_iload_n C 1 dX2_clear_57 rfl rfl ?_
    refine v_bipush C (nI 64) dX2_clear_58 zkb_64 ?_
    refine v_icmp_ge C 76 dX2_clear_60 rfl hM (fun hM => ?_) (fun hM => ?_)
    · exact v_vret2 C hr dX2_clear_76 hM
    · refine v_aload_n C 0 dX2_clear_63 rfl rfl ?_
      refine gf_RX2_25 C hX hb_r0 dX2_clear_64 ?_
      refine v_iload_n C 1 dX2_clear_67 rfl rfl ?_
      refine v_iconst C (nI 0) dX2_clear_68 zk_0 ?_
      refine is_15 C hX hb_r0 dX2_clear_69 hM (fun g1 hM => ?_)
      refine v_iinc (L' := [some (.inr (.inl (1, r0))), some (.inl (v1 + (nI 1)))]) C 1 (nI 1) dX2_clear_70 zk_1 (by decide) rfl rfl ?_
      refine v_goto C 57 dX2_clear_73 rfl ?_
      exact ih g1 hb_r0 hM

theorem c_X2_clear {X : zX} (hX : zfl X = false) {r0 : Nat} {g gr : zG} {rr : Int32} (hb_r0 : r0 < 2) (hM : X2_clear r0 g = some (rr, gr)) : MC X yX2_clear cX2_clear 2 none 0 [.inr (.inl (1, r0))] none g gr := by
  refine MC.mk (own := RX2) (L := [some (.inr (.inl (1, r0))), none]) (by decide) rfl trivial (Nat.le_of_ble_eq_true rfl) rfl ?_
  intro p l e s m args below meth c C hr
  unfold X2_clear at hM
  refine v_aload_n C 0 dX2_clear_0 rfl rfl ?_
  refine v_iconst C (nI 0) dX2_clear_1 zk_0 ?_
  refine pf_RX2_28 C hX hb_r0 dX2_clear_2 hM (fun g1 hM => ?_)
  refine v_aload_n C 0 dX2_clear_5 rfl rfl ?_
  refine v_iconst C (nI 0) dX2_clear_6 zk_0 ?_
  refine pf_RX2_32 C hX hb_r0 dX2_clear_7 hM (fun g2 hM => ?_)
  refine v_aload_n C 0 dX2_clear_10 rfl rfl ?_
  refine v_iconst C (nI 0) dX2_clear_11 zk_0 ?_
  refine pf_RX2_35 C hX hb_r0 dX2_clear_12 hM (fun g3 hM => ?_)
  refine v_aload_n C 0 dX2_clear_15 rfl rfl ?_
  refine v_iconst C (nI 0) dX2_clear_16 zk_0 ?_
  refine pf_RX2_38 C hX hb_r0 dX2_clear_17 hM (fun g4 hM => ?_)
  refine v_aload_n C 0 dX2_clear_20 rfl rfl ?_
  refine v_iconst C (nI 0) dX2_clear_21 zk_0 ?_
  refine pf_RX2_41 C hX hb_r0 dX2_clear_22 hM (fun g5 hM => ?_)
  refine v_aload_n C 0 dX2_clear_25 rfl rfl ?_
  refine v_iconst C (nI 0) dX2_clear_26 zk_0 ?_
  refine pf_RX2_44 C hX hb_r0 dX2_clear_27 hM (fun g6 hM => ?_)
  refine v_aload_n C 0 dX2_clear_30 rfl rfl ?_
  refine v_iconst C (nI 0) dX2_clear_31 zk_0 ?_
  refine pf_RX2_47 C hX hb_r0 dX2_clear_32 hM (fun g7 hM => ?_)
  refine v_iconst C (nI 0) dX2_clear_35 zk_0 ?_
  refine v_istore_n (L' := [some (.inr (.inl (1, r0))), some (.inl (nI 0))]) C 1 dX2_clear_36 rfl (by decide) rfl ?_
  exact t_X2_clear_l37 hX C hr (by intro r0 v1 g hb_r0 hM; exact t_X2_clear_l57 hX C hr  _ g hb_r0 hM) _ g7 hb_r0 hM

theorem t_X2_copyFrom_l117  (hX : zfl X = false) (C : Cx X p (zrm 1) s m args meth c cX2_copyFrom 3 RX2 0 0) (hr : meth.sig.returnType = none)  : ∀ (n : Nat) {r0 : Nat} {r1 : Nat} {v2 : Int32} (g : zG), r0 < 2 → r1 < 2 → X2_copyFrom_l117  n r0 r1 v2 g = some (rr, gr) → V X p l e (zrm 1) s m args below meth c 3 0 0 (MQ below (zQ X (Option.map (zM X) none) gr) args s 0 0 (zF X)) g 117 [some (.inr (.inl (1, r0))), some (.inr (.inl (1, r1))), some (.inl v2)] [] := by
  intro n
  induction n with
  | zero =>
    intro r0 r1 v2 g hb_r0 hb_r1 hM
    exact absurd (show (none : Option (Int32 × zG)) = some (rr, gr) from hM) (by simp)
  | succ n ih =>
    intro r0 r1 v2 g hb_r0 hb_r1 hM
    rw [X2_copyFrom_l117.eq_2] at hM
    refine v_iload_n C 2 dX2_copyFrom_117 rfl rfl ?_
    refine v_bipush C (nI 96) dX2_copyFrom_118 zkb_96 ?_
    refine v_icmp_ge C 141 dX2_copyFrom_120 rfl hM (fun hM => ?_) (fun hM => ?_)
    · exact v_vret2 C hr dX2_copyFrom_141 hM
    · refine v_aload_n C 0 dX2_copyFrom_123 rfl rfl ?_
      refine gf_RX2_21 C hX hb_r0 dX2_copyFrom_124 ?_
      refine v_iload_n C 2 dX2_copyFrom_127 rfl rfl ?_
      refine v_aload_n C 1 dX2_copyFrom_128 rfl rfl ?_
      refine gf_RX2_21 C hX hb_r1 dX2_copyFrom_129 ?_
      refine v_iload_n C 2 dX2_copyFrom_132 rfl rfl ?_
      refine ia_14 C hX hb_r1 dX2_copyFrom_133 hM (fun hM _ => ?_)
      refine is_14 C hX hb_r0 rfl dX2_copyFrom_134 hM (fun g1 hM => ?_)
      refine v_iinc (L' := [some (.inr (.inl (1, r0))), some (.inr (.inl (1, r1))), some (.inl (v2 + (nI 1)))]) C 2 (nI 1) dX2_copyFrom_135 zk_1 (by decide) rfl rfl ?_
      refine v_goto C 117 dX2_copyFrom_138 rfl ?_
      exact ih g1 hb_r0 hb_r1 hM

theorem c_X2_copyFrom {X : zX} (hX : zfl X = false) {r0 : Nat} {r1 : Nat} {g gr : zG} {rr : Int32} (hb_r0 : r0 < 2) (hb_r1 : r1 < 2) (hM : X2_copyFrom r0 r1 g = some (rr, gr)) : MC X yX2_copyFrom cX2_copyFrom 3 none 1 [.inr (.inl (1, r0)), .inr (.inl (1, r1))] none g gr := by
  refine MC.mk (own := RX2) (L := [some (.inr (.inl (1, r0))), some (.inr (.inl (1, r1))), none]) (by decide) rfl trivial (Nat.le_of_ble_eq_true rfl) rfl ?_
  intro p l e s m args below meth c C hr
  unfold X2_copyFrom at hM
  refine v_aload_n C 0 dX2_copyFrom_0 rfl rfl ?_
  refine v_aload_n C 1 dX2_copyFrom_1 rfl rfl ?_
  refine gf_RX2_28 C hX hb_r1 dX2_copyFrom_2 ?_
  refine pf_RX2_28 C hX hb_r0 dX2_copyFrom_5 hM (fun g1 hM => ?_)
  refine v_aload_n C 0 dX2_copyFrom_8 rfl rfl ?_
  refine v_aload_n C 1 dX2_copyFrom_9 rfl rfl ?_
  refine gf_RX2_32 C hX hb_r1 dX2_copyFrom_10 ?_
  refine pf_RX2_32 C hX hb_r0 dX2_copyFrom_13 hM (fun g2 hM => ?_)
  refine v_aload_n C 0 dX2_copyFrom_16 rfl rfl ?_
  refine v_aload_n C 1 dX2_copyFrom_17 rfl rfl ?_
  refine gf_RX2_35 C hX hb_r1 dX2_copyFrom_18 ?_
  refine pf_RX2_35 C hX hb_r0 dX2_copyFrom_21 hM (fun g3 hM => ?_)
  refine v_aload_n C 0 dX2_copyFrom_24 rfl rfl ?_
  refine v_aload_n C 1 dX2_copyFrom_25 rfl rfl ?_
  refine gf_RX2_38 C hX hb_r1 dX2_copyFrom_26 ?_
  refine pf_RX2_38 C hX hb_r0 dX2_copyFrom_29 hM (fun g4 hM => ?_)
  refine v_aload_n C 0 dX2_copyFrom_32 rfl rfl ?_
  refine v_aload_n C 1 dX2_copyFrom_33 rfl rfl ?_
  refine gf_RX2_41 C hX hb_r1 dX2_copyFrom_34 ?_
  refine pf_RX2_41 C hX hb_r0 dX2_copyFrom_37 hM (fun g5 hM => ?_)
  refine v_aload_n C 0 dX2_copyFrom_40 rfl rfl ?_
  refine v_aload_n C 1 dX2_copyFrom_41 rfl rfl ?_
  refine gf_RX2_44 C hX hb_r1 dX2_copyFrom_42 ?_
  refine pf_RX2_44 C hX hb_r0 dX2_copyFrom_45 hM (fun g6 hM => ?_)
  refine v_aload_n C 0 dX2_copyFrom_48 rfl rfl ?_
  refine v_aload_n C 1 dX2_copyFrom_49 rfl rfl ?_
  refine gf_RX2_47 C hX hb_r1 dX2_copyFrom_50 ?_
  refine pf_RX2_47 C hX hb_r0 dX2_copyFrom_53 hM (fun g7 hM => ?_)
  refine v_aload_n C 1 dX2_copyFrom_56 rfl rfl ?_
  refine gf_RX2_9 C hX hb_r1 dX2_copyFrom_57 ?_
  refine v_iconst C (nI 0) dX2_copyFrom_60 zk_0 ?_
  refine v_aload_n C 0 dX2_copyFrom_61 rfl rfl ?_
  refine gf_RX2_9 C hX hb_r0 dX2_copyFrom_62 ?_
  refine v_iconst C (nI 0) dX2_copyFrom_65 zk_0 ?_
  refine v_iconst C (nI 4) dX2_copyFrom_66 zk_4 ?_
  refine v_copy0 (n := 4) C hX.symm hX.symm (zm11 hb_r0) rfl (zm11 hb_r1) rfl (by decide) (by decide) (by decide) ml_RX2_50 znat zstt zsys ⟨by decide, Nat.le_of_ble_eq_true rfl⟩ dX2_copyFrom_67 hM (fun g8 hM => ?_)
  refine v_aload_n C 1 dX2_copyFrom_70 rfl rfl ?_
  refine gf_RX2_15 C hX hb_r1 dX2_copyFrom_71 ?_
  refine v_iconst C (nI 0) dX2_copyFrom_74 zk_0 ?_
  refine v_aload_n C 0 dX2_copyFrom_75 rfl rfl ?_
  refine gf_RX2_15 C hX hb_r0 dX2_copyFrom_76 ?_
  refine v_iconst C (nI 0) dX2_copyFrom_79 zk_0 ?_
  refine v_bipush C (nI 96) dX2_copyFrom_80 zkb_96 ?_
  refine v_copy0 (n := 96) C hX.symm hX.symm (zm12 hb_r0) rfl (zm12 hb_r1) rfl (by decide) (by decide) (by decide) ml_RX2_50 znat zstt zsys ⟨by decide, Nat.le_of_ble_eq_true rfl⟩ dX2_copyFrom_82 hM (fun g9 hM => ?_)
  refine v_aload_n C 1 dX2_copyFrom_85 rfl rfl ?_
  refine gf_RX2_18 C hX hb_r1 dX2_copyFrom_86 ?_
  refine v_iconst C (nI 0) dX2_copyFrom_89 zk_0 ?_
  refine v_aload_n C 0 dX2_copyFrom_90 rfl rfl ?_
  refine gf_RX2_18 C hX hb_r0 dX2_copyFrom_91 ?_
  refine v_iconst C (nI 0) dX2_copyFrom_94 zk_0 ?_
  refine v_bipush C (nI 96) dX2_copyFrom_95 zkb_96 ?_
  refine v_copy0 (n := 96) C hX.symm hX.symm (zm13 hb_r0) rfl (zm13 hb_r1) rfl (by decide) (by decide) (by decide) ml_RX2_50 znat zstt zsys ⟨by decide, Nat.le_of_ble_eq_true rfl⟩ dX2_copyFrom_97 hM (fun g10 hM => ?_)
  refine v_aload_n C 1 dX2_copyFrom_100 rfl rfl ?_
  refine gf_RX2_25 C hX hb_r1 dX2_copyFrom_101 ?_
  refine v_iconst C (nI 0) dX2_copyFrom_104 zk_0 ?_
  refine v_aload_n C 0 dX2_copyFrom_105 rfl rfl ?_
  refine gf_RX2_25 C hX hb_r0 dX2_copyFrom_106 ?_
  refine v_iconst C (nI 0) dX2_copyFrom_109 zk_0 ?_
  refine v_bipush C (nI 64) dX2_copyFrom_110 zkb_64 ?_
  refine v_copy0 (n := 64) C hX.symm hX.symm (zm15 hb_r0) rfl (zm15 hb_r1) rfl (by decide) (by decide) (by decide) ml_RX2_50 znat zstt zsys ⟨by decide, Nat.le_of_ble_eq_true rfl⟩ dX2_copyFrom_112 hM (fun g11 hM => ?_)
  refine v_iconst C (nI 0) dX2_copyFrom_115 zk_0 ?_
  refine v_istore_n (L' := [some (.inr (.inl (1, r0))), some (.inr (.inl (1, r1))), some (.inl (nI 0))]) C 2 dX2_copyFrom_116 rfl (by decide) rfl ?_
  exact t_X2_copyFrom_l117 hX C hr  _ g11 hb_r0 hb_r1 hM

theorem c_X2_addresses {X : zX} (hX : zfl X = false) {r0 : Nat} {g gr : zG} {rr : Int32} (hb_r0 : r0 < 2) (hM : X2_addresses r0 g = some (rr, gr)) : MC X yX2_addresses cX2_addresses 1 (some .int) 0 [.inr (.inl (1, r0))] (some (.inl rr)) g gr := by
  refine MC.mk (own := RX2) (L := [some (.inr (.inl (1, r0)))]) (by decide) rfl trivial (Nat.le_of_ble_eq_true rfl) rfl ?_
  intro p l e s m args below meth c C hr
  unfold X2_addresses at hM
  refine v_bipush C (nI 16) dX2_addresses_0 zkb_16 ?_
  refine v_aload_n C 0 dX2_addresses_2 rfl rfl ?_
  refine gf_RX2_35 C hX hb_r0 dX2_addresses_3 ?_
  refine v_imul C dX2_addresses_6 ?_
  exact v_iret2 C hr dX2_addresses_7 hM

theorem c_X2_hasCore {X : zX} (hX : zfl X = false) {r0 : Nat} {v1 : Int32} {g gr : zG} {rr : Int32} (hb_r0 : r0 < 2) (hM : X2_hasCore r0 v1 g = some (rr, gr)) : MC X yX2_hasCore cX2_hasCore 2 (some .boolean) 0 [.inr (.inl (1, r0)), .inl v1] (some (.inl rr)) g gr := by
  refine MC.mk (own := RX2) (L := [some (.inr (.inl (1, r0))), some (.inl v1)]) (by decide) rfl trivial (Nat.le_of_ble_eq_true rfl) rfl ?_
  intro p l e s m args below meth c C hr
  unfold X2_hasCore at hM
  refine v_iload_n C 1 dX2_hasCore_0 rfl rfl ?_
  refine v_if_lt C 21 dX2_hasCore_1 rfl hM (fun hM => ?_) (fun hM => ?_)
  · refine v_iconst C (nI 0) dX2_hasCore_21 zk_0 ?_
    exact v_zret2 C hr (zbo_n (Or.inl rfl)) dX2_hasCore_22 hM
  · refine v_iload_n C 1 dX2_hasCore_4 rfl rfl ?_
    refine v_aload_n C 0 dX2_hasCore_5 rfl rfl ?_
    refine gf_RX2_44 C hX hb_r0 dX2_hasCore_6 ?_
    refine v_icmp_ge C 21 dX2_hasCore_9 rfl hM (fun hM => ?_) (fun hM => ?_)
    · refine v_iconst C (nI 0) dX2_hasCore_21 zk_0 ?_
      exact v_zret2 C hr (zbo_n (Or.inl rfl)) dX2_hasCore_22 hM
    · refine v_iload_n C 1 dX2_hasCore_12 rfl rfl ?_
      refine v_iconst C (nI 4) dX2_hasCore_13 zk_4 ?_
      refine v_icmp_ge C 21 dX2_hasCore_14 rfl hM (fun hM => ?_) (fun hM => ?_)
      · refine v_iconst C (nI 0) dX2_hasCore_21 zk_0 ?_
        exact v_zret2 C hr (zbo_n (Or.inl rfl)) dX2_hasCore_22 hM
      · refine v_iconst C (nI 1) dX2_hasCore_17 zk_1 ?_
        refine v_goto C 22 dX2_hasCore_18 rfl ?_
        exact v_zret2 C hr (zbo_n (Or.inr rfl)) dX2_hasCore_22 hM

theorem c_X2_hasAddress {X : zX} (hX : zfl X = false) {r0 : Nat} {v1 : Int32} {g gr : zG} {rr : Int32} (hb_r0 : r0 < 2) (hM : X2_hasAddress r0 v1 g = some (rr, gr)) : MC X yX2_hasAddress cX2_hasAddress 2 (some .boolean) 1 [.inr (.inl (1, r0)), .inl v1] (some (.inl rr)) g gr := by
  refine MC.mk (own := RX2) (L := [some (.inr (.inl (1, r0))), some (.inl v1)]) (by decide) rfl trivial (Nat.le_of_ble_eq_true rfl) rfl ?_
  intro p l e s m args below meth c C hr
  unfold X2_hasAddress at hM
  refine v_iload_n C 1 dX2_hasAddress_0 rfl rfl ?_
  refine v_if_lt C 22 dX2_hasAddress_1 rfl hM (fun hM => ?_) (fun hM => ?_)
  · refine v_iconst C (nI 0) dX2_hasAddress_22 zk_0 ?_
    exact v_zret2 C hr (zbo_n (Or.inl rfl)) dX2_hasAddress_23 hM
  · refine v_iload_n C 1 dX2_hasAddress_4 rfl rfl ?_
    refine v_aload_n C 0 dX2_hasAddress_5 rfl rfl ?_
    obtain ⟨x1, g2, e3, hM⟩ := zc_elim hM
    refine v_callVi (ci := 2) (rest := [(.inl v1)]) C (c_X2_addresses hX hb_r0 e3) mw_X2_addresses mi_X2_addresses ml_RX2_56 hX.symm (zm1 hb_r0) rfl rfl ⟨by decide, Nat.le_of_ble_eq_true rfl⟩ rfl (Nat.le_of_ble_eq_true rfl) dX2_hasAddress_6 rfl ?_
    refine v_icmp_ge C 22 dX2_hasAddress_9 rfl hM (fun hM => ?_) (fun hM => ?_)
    · refine v_iconst C (nI 0) dX2_hasAddress_22 zk_0 ?_
      exact v_zret2 C hr (zbo_n (Or.inl rfl)) dX2_hasAddress_23 hM
    · refine v_iload_n C 1 dX2_hasAddress_12 rfl rfl ?_
      refine v_bipush C (nI 64) dX2_hasAddress_13 zkb_64 ?_
      refine v_icmp_ge C 22 dX2_hasAddress_15 rfl hM (fun hM => ?_) (fun hM => ?_)
      · refine v_iconst C (nI 0) dX2_hasAddress_22 zk_0 ?_
        exact v_zret2 C hr (zbo_n (Or.inl rfl)) dX2_hasAddress_23 hM
      · refine v_iconst C (nI 1) dX2_hasAddress_18 zk_1 ?_
        refine v_goto C 23 dX2_hasAddress_19 rfl ?_
        exact v_zret2 C hr (zbo_n (Or.inr rfl)) dX2_hasAddress_23 hM

theorem c_X2_hasDeed {X : zX} (hX : zfl X = false) {r0 : Nat} {v1 : Int32} {v2 : Int32} {g gr : zG} {rr : Int32} (hb_r0 : r0 < 2) (hM : X2_hasDeed r0 v1 v2 g = some (rr, gr)) : MC X yX2_hasDeed cX2_hasDeed 3 (some .boolean) 0 [.inr (.inl (1, r0)), .inl v1, .inl v2] (some (.inl rr)) g gr := by
  refine MC.mk (own := RX2) (L := [some (.inr (.inl (1, r0))), some (.inl v1), some (.inl v2)]) (by decide) rfl trivial (Nat.le_of_ble_eq_true rfl) rfl ?_
  intro p l e s m args below meth c C hr
  unfold X2_hasDeed at hM
  refine v_iload_n C 1 dX2_hasDeed_0 rfl rfl ?_
  refine v_if_lt C 41 dX2_hasDeed_1 rfl hM (fun hM => ?_) (fun hM => ?_)
  · refine v_iconst C (nI 0) dX2_hasDeed_41 zk_0 ?_
    exact v_zret2 C hr (zbo_n (Or.inl rfl)) dX2_hasDeed_42 hM
  · refine v_iload_n C 1 dX2_hasDeed_4 rfl rfl ?_
    refine v_aload_n C 0 dX2_hasDeed_5 rfl rfl ?_
    refine gf_RX2_44 C hX hb_r0 dX2_hasDeed_6 ?_
    refine v_icmp_ge C 41 dX2_hasDeed_9 rfl hM (fun hM => ?_) (fun hM => ?_)
    · refine v_iconst C (nI 0) dX2_hasDeed_41 zk_0 ?_
      exact v_zret2 C hr (zbo_n (Or.inl rfl)) dX2_hasDeed_42 hM
    · refine v_iload_n C 1 dX2_hasDeed_12 rfl rfl ?_
      refine v_iconst C (nI 4) dX2_hasDeed_13 zk_4 ?_
      refine v_icmp_ge C 41 dX2_hasDeed_14 rfl hM (fun hM => ?_) (fun hM => ?_)
      · refine v_iconst C (nI 0) dX2_hasDeed_41 zk_0 ?_
        exact v_zret2 C hr (zbo_n (Or.inl rfl)) dX2_hasDeed_42 hM
      · refine v_iload_n C 2 dX2_hasDeed_17 rfl rfl ?_
        refine v_if_lt C 41 dX2_hasDeed_18 rfl hM (fun hM => ?_) (fun hM => ?_)
        · refine v_iconst C (nI 0) dX2_hasDeed_41 zk_0 ?_
          exact v_zret2 C hr (zbo_n (Or.inl rfl)) dX2_hasDeed_42 hM
        · refine v_iload_n C 2 dX2_hasDeed_21 rfl rfl ?_
          refine v_aload_n C 0 dX2_hasDeed_22 rfl rfl ?_
          refine gf_RX2_9 C hX hb_r0 dX2_hasDeed_23 ?_
          refine v_iload_n C 1 dX2_hasDeed_26 rfl rfl ?_
          refine ia_11 C hX hb_r0 dX2_hasDeed_27 hM (fun hM _ => ?_)
          refine v_icmp_ge C 41 dX2_hasDeed_28 rfl hM (fun hM => ?_) (fun hM => ?_)
          · refine v_iconst C (nI 0) dX2_hasDeed_41 zk_0 ?_
            exact v_zret2 C hr (zbo_n (Or.inl rfl)) dX2_hasDeed_42 hM
          · refine v_iload_n C 2 dX2_hasDeed_31 rfl rfl ?_
            refine v_bipush C (nI 24) dX2_hasDeed_32 zkb_24 ?_
            refine v_icmp_ge C 41 dX2_hasDeed_34 rfl hM (fun hM => ?_) (fun hM => ?_)
            · refine v_iconst C (nI 0) dX2_hasDeed_41 zk_0 ?_
              exact v_zret2 C hr (zbo_n (Or.inl rfl)) dX2_hasDeed_42 hM
            · refine v_iconst C (nI 1) dX2_hasDeed_37 zk_1 ?_
              refine v_goto C 42 dX2_hasDeed_38 rfl ?_
              exact v_zret2 C hr (zbo_n (Or.inr rfl)) dX2_hasDeed_42 hM

theorem c_X2_sortOf {X : zX} (hX : zfl X = false) {r0 : Nat} {v1 : Int32} {v2 : Int32} {g gr : zG} {rr : Int32} (hb_r0 : r0 < 2) (hM : X2_sortOf r0 v1 v2 g = some (rr, gr)) : MC X yX2_sortOf cX2_sortOf 3 (some .int) 1 [.inr (.inl (1, r0)), .inl v1, .inl v2] (some (.inl rr)) g gr := by
  refine MC.mk (own := RX2) (L := [some (.inr (.inl (1, r0))), some (.inl v1), some (.inl v2)]) (by decide) rfl trivial (Nat.le_of_ble_eq_true rfl) rfl ?_
  intro p l e s m args below meth c C hr
  unfold X2_sortOf at hM
  refine v_aload_n C 0 dX2_sortOf_0 rfl rfl ?_
  refine v_iload_n C 1 dX2_sortOf_1 rfl rfl ?_
  refine v_iload_n C 2 dX2_sortOf_2 rfl rfl ?_
  obtain ⟨x1, g2, e3, hM⟩ := zc_elim hM
  refine v_callVi (ci := 2) (rest := []) C (c_X2_hasDeed hX hb_r0 e3) mw_X2_hasDeed mi_X2_hasDeed ml_RX2_60 hX.symm (zm1 hb_r0) rfl rfl ⟨by decide, Nat.le_of_ble_eq_true rfl⟩ rfl (Nat.le_of_ble_eq_true rfl) dX2_sortOf_3 rfl ?_
  refine v_if_eq C 23 dX2_sortOf_6 rfl hM (fun hM => ?_) (fun hM => ?_)
  · refine v_iconst C (-1) dX2_sortOf_23 zk_m1 ?_
    exact v_iret2 C hr dX2_sortOf_24 hM
  · refine v_aload_n C 0 dX2_sortOf_9 rfl rfl ?_
    refine gf_RX2_15 C hX hb_r0 dX2_sortOf_10 ?_
    refine v_iload_n C 1 dX2_sortOf_13 rfl rfl ?_
    refine v_bipush C (nI 24) dX2_sortOf_14 zkb_24 ?_
    refine v_imul C dX2_sortOf_16 ?_
    refine v_iload_n C 2 dX2_sortOf_17 rfl rfl ?_
    refine v_iadd C dX2_sortOf_18 ?_
    refine ia_12 C hX hb_r0 dX2_sortOf_19 hM (fun hM _ => ?_)
    refine v_goto C 24 dX2_sortOf_20 rfl ?_
    exact v_iret2 C hr dX2_sortOf_24 hM

theorem c_X2_wholeOf {X : zX} (hX : zfl X = false) {r0 : Nat} {v1 : Int32} {v2 : Int32} {g gr : zG} {rr : Int32} (hb_r0 : r0 < 2) (hM : X2_wholeOf r0 v1 v2 g = some (rr, gr)) : MC X yX2_wholeOf cX2_wholeOf 3 (some .int) 1 [.inr (.inl (1, r0)), .inl v1, .inl v2] (some (.inl rr)) g gr := by
  refine MC.mk (own := RX2) (L := [some (.inr (.inl (1, r0))), some (.inl v1), some (.inl v2)]) (by decide) rfl trivial (Nat.le_of_ble_eq_true rfl) rfl ?_
  intro p l e s m args below meth c C hr
  unfold X2_wholeOf at hM
  refine v_aload_n C 0 dX2_wholeOf_0 rfl rfl ?_
  refine v_iload_n C 1 dX2_wholeOf_1 rfl rfl ?_
  refine v_iload_n C 2 dX2_wholeOf_2 rfl rfl ?_
  obtain ⟨x1, g2, e3, hM⟩ := zc_elim hM
  refine v_callVi (ci := 2) (rest := []) C (c_X2_hasDeed hX hb_r0 e3) mw_X2_hasDeed mi_X2_hasDeed ml_RX2_60 hX.symm (zm1 hb_r0) rfl rfl ⟨by decide, Nat.le_of_ble_eq_true rfl⟩ rfl (Nat.le_of_ble_eq_true rfl) dX2_wholeOf_3 rfl ?_
  refine v_if_eq C 23 dX2_wholeOf_6 rfl hM (fun hM => ?_) (fun hM => ?_)
  · refine v_bipush C (-2) dX2_wholeOf_23 zkb_m2 ?_
    exact v_iret2 C hr dX2_wholeOf_25 hM
  · refine v_aload_n C 0 dX2_wholeOf_9 rfl rfl ?_
    refine gf_RX2_18 C hX hb_r0 dX2_wholeOf_10 ?_
    refine v_iload_n C 1 dX2_wholeOf_13 rfl rfl ?_
    refine v_bipush C (nI 24) dX2_wholeOf_14 zkb_24 ?_
    refine v_imul C dX2_wholeOf_16 ?_
    refine v_iload_n C 2 dX2_wholeOf_17 rfl rfl ?_
    refine v_iadd C dX2_wholeOf_18 ?_
    refine ia_13 C hX hb_r0 dX2_wholeOf_19 hM (fun hM _ => ?_)
    refine v_goto C 25 dX2_wholeOf_20 rfl ?_
    exact v_iret2 C hr dX2_wholeOf_25 hM

theorem c_X2_isIndexed {X : zX} (hX : zfl X = false) {r0 : Nat} {v1 : Int32} {v2 : Int32} {g gr : zG} {rr : Int32} (hb_r0 : r0 < 2) (hM : X2_isIndexed r0 v1 v2 g = some (rr, gr)) : MC X yX2_isIndexed cX2_isIndexed 3 (some .boolean) 1 [.inr (.inl (1, r0)), .inl v1, .inl v2] (some (.inl rr)) g gr := by
  refine MC.mk (own := RX2) (L := [some (.inr (.inl (1, r0))), some (.inl v1), some (.inl v2)]) (by decide) rfl trivial (Nat.le_of_ble_eq_true rfl) rfl ?_
  intro p l e s m args below meth c C hr
  unfold X2_isIndexed at hM
  refine v_aload_n C 0 dX2_isIndexed_0 rfl rfl ?_
  refine v_iload_n C 1 dX2_isIndexed_1 rfl rfl ?_
  refine v_iload_n C 2 dX2_isIndexed_2 rfl rfl ?_
  obtain ⟨x1, g2, e3, hM⟩ := zc_elim hM
  refine v_callVi (ci := 2) (rest := []) C (c_X2_hasDeed hX hb_r0 e3) mw_X2_hasDeed mi_X2_hasDeed ml_RX2_60 hX.symm (zm1 hb_r0) rfl rfl ⟨by decide, Nat.le_of_ble_eq_true rfl⟩ rfl (Nat.le_of_ble_eq_true rfl) dX2_isIndexed_3 rfl ?_
  refine v_if_eq C 27 dX2_isIndexed_6 rfl hM (fun hM => ?_) (fun hM => ?_)
  · refine v_iconst C (nI 0) dX2_isIndexed_27 zk_0 ?_
    exact v_zret2 C hr (zbo_n (Or.inl rfl)) dX2_isIndexed_28 hM
  · refine v_aload_n C 0 dX2_isIndexed_9 rfl rfl ?_
    refine gf_RX2_21 C hX hb_r0 dX2_isIndexed_10 ?_
    refine v_iload_n C 1 dX2_isIndexed_13 rfl rfl ?_
    refine v_bipush C (nI 24) dX2_isIndexed_14 zkb_24 ?_
    refine v_imul C dX2_isIndexed_16 ?_
    refine v_iload_n C 2 dX2_isIndexed_17 rfl rfl ?_
    refine v_iadd C dX2_isIndexed_18 ?_
    refine ia_14 C hX hb_r0 dX2_isIndexed_19 hM (fun hM _ => ?_)
    refine v_if_eq C 27 dX2_isIndexed_20 rfl hM (fun hM => ?_) (fun hM => ?_)
    · refine v_iconst C (nI 0) dX2_isIndexed_27 zk_0 ?_
      exact v_zret2 C hr (zbo_n (Or.inl rfl)) dX2_isIndexed_28 hM
    · refine v_iconst C (nI 1) dX2_isIndexed_23 zk_1 ?_
      refine v_goto C 28 dX2_isIndexed_24 rfl ?_
      exact v_zret2 C hr (zbo_n (Or.inr rfl)) dX2_isIndexed_28 hM

theorem t_X2_deedsInAll_l4  (hX : zfl X = false) (C : Cx X p (zrm 0) s m args meth c cX2_deedsInAll 3 RX2 0 0) (hr : meth.sig.returnType = (some .int))  : ∀ (n : Nat) {r0 : Nat} {v1 : Int32} {v2 : Int32} (g : zG), r0 < 2 → X2_deedsInAll_l4  n r0 v1 v2 g = some (rr, gr) → V X p l e (zrm 0) s m args below meth c 3 0 0 (MQ below (zQ X (Option.map (zM X) (some (.inl rr))) gr) args s 0 0 (zF X)) g 4 [some (.inr (.inl (1, r0))), some (.inl v1), some (.inl v2)] [] := by
  intro n
  induction n with
  | zero =>
    intro r0 v1 v2 g hb_r0 hM
    exact absurd (show (none : Option (Int32 × zG)) = some (rr, gr) from hM) (by simp)
  | succ n ih =>
    intro r0 v1 v2 g hb_r0 hM
    rw [X2_deedsInAll_l4.eq_2] at hM
    refine v_iload_n C 2 dX2_deedsInAll_4 rfl rfl ?_
    refine v_iconst C (nI 4) dX2_deedsInAll_5 zk_4 ?_
    refine v_icmp_ge C 24 dX2_deedsInAll_6 rfl hM (fun hM => ?_) (fun hM => ?_)
    · refine v_iload_n C 1 dX2_deedsInAll_24 rfl rfl ?_
      exact v_iret2 C hr dX2_deedsInAll_25 hM
    · refine v_iload_n C 1 dX2_deedsInAll_9 rfl rfl ?_
      refine v_aload_n C 0 dX2_deedsInAll_10 rfl rfl ?_
      refine gf_RX2_9 C hX hb_r0 dX2_deedsInAll_11 ?_
      refine v_iload_n C 2 dX2_deedsInAll_14 rfl rfl ?_
      refine ia_11 C hX hb_r0 dX2_deedsInAll_15 hM (fun hM _ => ?_)
      refine v_iadd C dX2_deedsInAll_16 ?_
      refine v_istore_n (L' := [some (.inr (.inl (1, r0))), some (.inl (v1 + (g 11 r0 v2.toNatClampNeg))), some (.inl v2)]) C 1 dX2_deedsInAll_17 rfl (by decide) rfl ?_
      refine v_iinc (L' := [some (.inr (.inl (1, r0))), some (.inl (v1 + (g 11 r0 v2.toNatClampNeg))), some (.inl (v2 + (nI 1)))]) C 2 (nI 1) dX2_deedsInAll_18 zk_1 (by decide) rfl rfl ?_
      refine v_goto C 4 dX2_deedsInAll_21 rfl ?_
      exact ih g hb_r0 hM

theorem c_X2_deedsInAll {X : zX} (hX : zfl X = false) {r0 : Nat} {g gr : zG} {rr : Int32} (hb_r0 : r0 < 2) (hM : X2_deedsInAll r0 g = some (rr, gr)) : MC X yX2_deedsInAll cX2_deedsInAll 3 (some .int) 0 [.inr (.inl (1, r0))] (some (.inl rr)) g gr := by
  refine MC.mk (own := RX2) (L := [some (.inr (.inl (1, r0))), none, none]) (by decide) rfl trivial (Nat.le_of_ble_eq_true rfl) rfl ?_
  intro p l e s m args below meth c C hr
  unfold X2_deedsInAll at hM
  refine v_iconst C (nI 0) dX2_deedsInAll_0 zk_0 ?_
  refine v_istore_n (L' := [some (.inr (.inl (1, r0))), some (.inl (nI 0)), none]) C 1 dX2_deedsInAll_1 rfl (by decide) rfl ?_
  refine v_iconst C (nI 0) dX2_deedsInAll_2 zk_0 ?_
  refine v_istore_n (L' := [some (.inr (.inl (1, r0))), some (.inl (nI 0)), some (.inl (nI 0))]) C 2 dX2_deedsInAll_3 rfl (by decide) rfl ?_
  exact t_X2_deedsInAll_l4 hX C hr  _ g hb_r0 hM

theorem c_J9_floorMod_7cf53 {X : zX} (hX : zfl X = false) {v0 : Int32} {v1 : Int32} {g gr : zG} {rr : Int32}  (hM : J9_floorMod_7cf53 v0 v1 g = some (rr, gr)) : MC X yJ9_floorMod_7cf53 cJ9_floorMod_7cf53 3 (some .int) 0 [.inl v0, .inl v1] (some (.inl rr)) g gr := by
  refine MC.mkF (own := RJ9) (L := [some (.inl v0), some (.inl v1), none]) (by decide +kernel) rfl trivial (Nat.le_of_ble_eq_true rfl) rfl ?_
  intro p l e s m args below meth c C hr
  unfold J9_floorMod_7cf53 at hM
  refine v_iload_n C 0 dJ9_floorMod_7cf53_0 rfl rfl ?_
  refine v_iload_n C 1 dJ9_floorMod_7cf53_1 rfl rfl ?_
  refine v_irem C dJ9_floorMod_7cf53_2 hM (fun hM => ?_)
  refine v_istore_n (L' := [some (.inl v0), some (.inl v1), some (.inl (v0 - v0 / v1 * v1))]) C 2 dJ9_floorMod_7cf53_3 rfl (by decide) rfl ?_
  refine v_iload_n C 0 dJ9_floorMod_7cf53_4 rfl rfl ?_
  refine v_iload_n C 1 dJ9_floorMod_7cf53_5 rfl rfl ?_
  refine v_ixor C dJ9_floorMod_7cf53_6 ?_
  refine v_if_ge C 18 dJ9_floorMod_7cf53_7 rfl hM (fun hM => ?_) (fun hM => ?_)
  · refine v_iload_n C 2 dJ9_floorMod_7cf53_18 rfl rfl ?_
    exact v_iret2 C hr dJ9_floorMod_7cf53_19 hM
  · refine v_iload_n C 2 dJ9_floorMod_7cf53_10 rfl rfl ?_
    refine v_if_eq C 18 dJ9_floorMod_7cf53_11 rfl hM (fun hM => ?_) (fun hM => ?_)
    · refine v_iload_n C 2 dJ9_floorMod_7cf53_18 rfl rfl ?_
      exact v_iret2 C hr dJ9_floorMod_7cf53_19 hM
    · refine v_iload_n C 2 dJ9_floorMod_7cf53_14 rfl rfl ?_
      refine v_iload_n C 1 dJ9_floorMod_7cf53_15 rfl rfl ?_
      refine v_iadd C dJ9_floorMod_7cf53_16 ?_
      exact v_iret2 C hr dJ9_floorMod_7cf53_17 hM

theorem t_X2_addressOf_b39 {r0 : Nat} {v4 : Int32}  {g : zG} (hX : zfl X = false) (C : Cx X p (zrm 2) s m args meth c cX2_addressOf 6 RX2 0 0) (hr : meth.sig.returnType = (some .int)) (hb_r0 : r0 < 2)  (hM : X2_addressOf_b39  r0 v4 g = some (rr, gr)) : V X p l e (zrm 2) s m args below meth c 6 0 0 (MQ below (zQ X (Option.map (zM X) (some (.inl rr))) gr) args s 0 0 (zF X)) g 39 [some (.inr (.inl (1, r0))), none, none, none, some (.inl v4), none] [] := by
  unfold X2_addressOf_b39 at hM
  refine v_aload_n C 0 dX2_addressOf_39 rfl rfl ?_
  refine v_iload C 4 dX2_addressOf_40 rfl ?_
  obtain ⟨x1, g2, e3, hM⟩ := zc_elim hM
  refine v_callVi (ci := 2) (rest := []) C (c_X2_hasAddress hX hb_r0 e3) mw_X2_hasAddress mi_X2_hasAddress ml_RX2_76 hX.symm (zm1 hb_r0) rfl rfl ⟨by decide, Nat.le_of_ble_eq_true rfl⟩ rfl (Nat.le_of_ble_eq_true rfl) dX2_addressOf_42 rfl ?_
  refine v_if_eq C 53 dX2_addressOf_45 rfl hM (fun hM => ?_) (fun hM => ?_)
  · refine v_iconst C (nI 0) dX2_addressOf_53 zk_0 ?_
    exact v_iret2 C hr dX2_addressOf_54 hM
  · refine v_iload C 4 dX2_addressOf_48 rfl ?_
    refine v_goto C 54 dX2_addressOf_50 rfl ?_
    exact v_iret2 C hr dX2_addressOf_54 hM

theorem c_X2_addressOf {X : zX} (hX : zfl X = false) {r0 : Nat} {v1 : Int32} {v2 : Int32} {v3 : Int32} {g gr : zG} {rr : Int32} (hb_r0 : r0 < 2) (hM : X2_addressOf r0 v1 v2 v3 g = some (rr, gr)) : MC X yX2_addressOf cX2_addressOf 6 (some .int) 2 [.inr (.inl (1, r0)), .inl v1, .inl v2, .inl v3] (some (.inl rr)) g gr := by
  refine MC.mk (own := RX2) (L := [some (.inr (.inl (1, r0))), some (.inl v1), some (.inl v2), some (.inl v3), none, none]) (by decide) rfl trivial (Nat.le_of_ble_eq_true rfl) rfl ?_
  intro p l e s m args below meth c C hr
  unfold X2_addressOf at hM
  refine v_aload_n C 0 dX2_addressOf_0 rfl rfl ?_
  refine v_iload_n C 1 dX2_addressOf_1 rfl rfl ?_
  refine v_iload_n C 2 dX2_addressOf_2 rfl rfl ?_
  obtain ⟨x1, g2, e3, hM⟩ := zc_elim hM
  refine v_callVi (ci := 2) (rest := []) C (c_X2_wholeOf hX hb_r0 e3) mw_X2_wholeOf mi_X2_wholeOf ml_RX2_64 hX.symm (zm1 hb_r0) rfl rfl ⟨by decide, Nat.le_of_ble_eq_true rfl⟩ rfl (Nat.le_of_ble_eq_true rfl) dX2_addressOf_3 rfl ?_
  refine v_istore (L' := [some (.inr (.inl (1, r0))), some (.inl v1), some (.inl v2), some (.inl v3), some (.inl x1), none]) C 4 dX2_addressOf_6 (by decide) rfl ?_
  refine v_aload_n C 0 dX2_addressOf_8 rfl rfl ?_
  obtain ⟨x4, g5, e6, hM⟩ := zc_elim hM
  refine v_callVi (ci := 2) (rest := []) C (c_X2_addresses hX hb_r0 e6) mw_X2_addresses mi_X2_addresses ml_RX2_56 hX.symm (zm1 hb_r0) rfl rfl ⟨by decide, Nat.le_of_ble_eq_true rfl⟩ rfl (Nat.le_of_ble_eq_true rfl) dX2_addressOf_9 rfl ?_
  refine v_istore (L' := [some (.inr (.inl (1, r0))), some (.inl v1), some (.inl v2), some (.inl v3), some (.inl x1), some (.inl x4)]) C 5 dX2_addressOf_12 (by decide) rfl ?_
  refine v_aload_n C 0 dX2_addressOf_14 rfl rfl ?_
  refine v_iload_n C 1 dX2_addressOf_15 rfl rfl ?_
  refine v_iload_n C 2 dX2_addressOf_16 rfl rfl ?_
  obtain ⟨x7, g8, e9, hM⟩ := zc_elim hM
  refine v_callVi (ci := 2) (rest := []) C (c_X2_isIndexed hX hb_r0 e9) mw_X2_isIndexed mi_X2_isIndexed ml_RX2_68 hX.symm (zm1 hb_r0) rfl rfl ⟨by decide, Nat.le_of_ble_eq_true rfl⟩ rfl (Nat.le_of_ble_eq_true rfl) dX2_addressOf_17 rfl ?_
  refine v_if_eq C 39 dX2_addressOf_20 rfl hM (fun hM => ?_) (fun hM => ?_)
  · exact v_weak (t_X2_addressOf_b39 hX C hr hb_r0  hM) (show zsub [some (.inr (.inl (1, r0))), none, none, none, some (.inl x1), none] [some (.inr (.inl (1, r0))), some (.inl v1), some (.inl v2), some (.inl v3), some (.inl x1), some (.inl x4)] from ⟨rfl, ⟨rfl, trivial⟩⟩)
  · refine v_iload C 5 dX2_addressOf_23 rfl ?_
    refine v_if_le C 39 dX2_addressOf_25 rfl hM (fun hM => ?_) (fun hM => ?_)
    · exact v_weak (t_X2_addressOf_b39 hX C hr hb_r0  hM) (show zsub [some (.inr (.inl (1, r0))), none, none, none, some (.inl x1), none] [some (.inr (.inl (1, r0))), some (.inl v1), some (.inl v2), some (.inl v3), some (.inl x1), some (.inl x4)] from ⟨rfl, ⟨rfl, trivial⟩⟩)
    · refine v_iload C 4 dX2_addressOf_28 rfl ?_
      refine v_iload_n C 3 dX2_addressOf_30 rfl rfl ?_
      refine v_iadd C dX2_addressOf_31 ?_
      refine v_iload C 5 dX2_addressOf_32 rfl ?_
      obtain ⟨x10, g11, e12, hM⟩ := zc_elim hM
      refine v_callSi (rest := []) C (c_J9_floorMod_7cf53 hX  e12) mw_J9_floorMod_7cf53 ms_J9_floorMod_7cf53 ml_RX2_71 ⟨by decide, Nat.le_of_ble_eq_true rfl⟩ rfl (Nat.le_of_ble_eq_true rfl) dX2_addressOf_34 rfl ?_
      refine v_istore (L' := [some (.inr (.inl (1, r0))), some (.inl v1), some (.inl v2), some (.inl v3), some (.inl x10), some (.inl x4)]) C 4 dX2_addressOf_37 (by decide) rfl ?_
      exact v_weak (t_X2_addressOf_b39 hX C hr hb_r0  hM) (show zsub [some (.inr (.inl (1, r0))), none, none, none, some (.inl x10), none] [some (.inr (.inl (1, r0))), some (.inl v1), some (.inl v2), some (.inl v3), some (.inl x10), some (.inl x4)] from ⟨rfl, ⟨rfl, trivial⟩⟩)

theorem c_X2_lineOf {X : zX} (hX : zfl X = false) {r0 : Nat} {v1 : Int32} {g gr : zG} {rr : Int32} (hb_r0 : r0 < 2) (hM : X2_lineOf r0 v1 g = some (rr, gr)) : MC X yX2_lineOf cX2_lineOf 2 (some .int) 0 [.inr (.inl (1, r0)), .inl v1] (some (.inl rr)) g gr := by
  refine MC.mk (own := RX2) (L := [some (.inr (.inl (1, r0))), some (.inl v1)]) (by decide) rfl trivial (Nat.le_of_ble_eq_true rfl) rfl ?_
  intro p l e s m args below meth c C hr
  unfold X2_lineOf at hM
  refine v_aload_n C 0 dX2_lineOf_0 rfl rfl ?_
  refine gf_RX2_35 C hX hb_r0 dX2_lineOf_1 ?_
  refine v_if_le C 16 dX2_lineOf_4 rfl hM (fun hM => ?_) (fun hM => ?_)
  · refine v_iconst C (nI 0) dX2_lineOf_16 zk_0 ?_
    exact v_iret2 C hr dX2_lineOf_17 hM
  · refine v_iload_n C 1 dX2_lineOf_7 rfl rfl ?_
    refine v_aload_n C 0 dX2_lineOf_8 rfl rfl ?_
    refine gf_RX2_35 C hX hb_r0 dX2_lineOf_9 ?_
    refine v_idiv C dX2_lineOf_12 hM (fun hM => ?_)
    refine v_goto C 17 dX2_lineOf_13 rfl ?_
    exact v_iret2 C hr dX2_lineOf_17 hM

theorem c_X2_offsetOf {X : zX} (hX : zfl X = false) {r0 : Nat} {v1 : Int32} {g gr : zG} {rr : Int32} (hb_r0 : r0 < 2) (hM : X2_offsetOf r0 v1 g = some (rr, gr)) : MC X yX2_offsetOf cX2_offsetOf 2 (some .int) 0 [.inr (.inl (1, r0)), .inl v1] (some (.inl rr)) g gr := by
  refine MC.mk (own := RX2) (L := [some (.inr (.inl (1, r0))), some (.inl v1)]) (by decide) rfl trivial (Nat.le_of_ble_eq_true rfl) rfl ?_
  intro p l e s m args below meth c C hr
  unfold X2_offsetOf at hM
  refine v_aload_n C 0 dX2_offsetOf_0 rfl rfl ?_
  refine gf_RX2_35 C hX hb_r0 dX2_offsetOf_1 ?_
  refine v_if_le C 16 dX2_offsetOf_4 rfl hM (fun hM => ?_) (fun hM => ?_)
  · refine v_iconst C (nI 0) dX2_offsetOf_16 zk_0 ?_
    exact v_iret2 C hr dX2_offsetOf_17 hM
  · refine v_iload_n C 1 dX2_offsetOf_7 rfl rfl ?_
    refine v_aload_n C 0 dX2_offsetOf_8 rfl rfl ?_
    refine gf_RX2_35 C hX hb_r0 dX2_offsetOf_9 ?_
    refine v_irem C dX2_offsetOf_12 hM (fun hM => ?_)
    refine v_goto C 17 dX2_offsetOf_13 rfl ?_
    exact v_iret2 C hr dX2_offsetOf_17 hM

theorem c_X2_addWord {X : zX} (hX : zfl X = false) {r0 : Nat} {v1 : Int32} {v2 : Int32} {g gr : zG} {rr : Int32} (hb_r0 : r0 < 2) (hM : X2_addWord r0 v1 v2 g = some (rr, gr)) : MC X yX2_addWord cX2_addWord 3 none 2 [.inr (.inl (1, r0)), .inl v1, .inl v2] none g gr := by
  refine MC.mk (own := RX2) (L := [some (.inr (.inl (1, r0))), some (.inl v1), some (.inl v2)]) (by decide) rfl trivial (Nat.le_of_ble_eq_true rfl) rfl ?_
  intro p l e s m args below meth c C hr
  unfold X2_addWord at hM
  refine v_aload_n C 0 dX2_addWord_0 rfl rfl ?_
  refine v_iload_n C 1 dX2_addWord_1 rfl rfl ?_
  obtain ⟨x1, g2, e3, hM⟩ := zc_elim hM
  refine v_callVi (ci := 2) (rest := []) C (c_X2_hasAddress hX hb_r0 e3) mw_X2_hasAddress mi_X2_hasAddress ml_RX2_76 hX.symm (zm1 hb_r0) rfl rfl ⟨by decide, Nat.le_of_ble_eq_true rfl⟩ rfl (Nat.le_of_ble_eq_true rfl) dX2_addWord_2 rfl ?_
  refine v_if_eq C 25 dX2_addWord_5 rfl hM (fun hM => ?_) (fun hM => ?_)
  · exact v_vret2 C hr dX2_addWord_25 hM
  · refine v_aload_n C 0 dX2_addWord_8 rfl rfl ?_
    refine gf_RX2_25 C hX hb_r0 dX2_addWord_9 ?_
    refine v_iload_n C 1 dX2_addWord_12 rfl rfl ?_
    refine v_iload_n C 2 dX2_addWord_13 rfl rfl ?_
    refine is_15 C hX hb_r0 dX2_addWord_14 hM (fun g4 hM => ?_)
    refine v_aload_n C 0 dX2_addWord_15 rfl rfl ?_
    refine v_dup_a C dX2_addWord_16 ?_
    refine gf_RX2_47 C hX hb_r0 dX2_addWord_17 ?_
    refine v_iconst C (nI 1) dX2_addWord_20 zk_1 ?_
    refine v_iadd C dX2_addWord_21 ?_
    refine pf_RX2_47 C hX hb_r0 dX2_addWord_22 hM (fun g5 hM => ?_)
    exact v_vret2 C hr dX2_addWord_25 hM

theorem c_X2_addDeed {X : zX} (hX : zfl X = false) {r0 : Nat} {v1 : Int32} {v2 : Int32} {v3 : Int32} {g gr : zG} {rr : Int32} (hb_r0 : r0 < 2) (hM : X2_addDeed r0 v1 v2 v3 g = some (rr, gr)) : MC X yX2_addDeed cX2_addDeed 6 none 1 [.inr (.inl (1, r0)), .inl v1, .inl v2, .inl v3] none g gr := by
  refine MC.mk (own := RX2) (L := [some (.inr (.inl (1, r0))), some (.inl v1), some (.inl v2), some (.inl v3), none, none]) (by decide) rfl trivial (Nat.le_of_ble_eq_true rfl) rfl ?_
  intro p l e s m args below meth c C hr
  unfold X2_addDeed at hM
  refine v_aload_n C 0 dX2_addDeed_0 rfl rfl ?_
  refine gf_RX2_44 C hX hb_r0 dX2_addDeed_1 ?_
  refine v_iconst C (nI 1) dX2_addDeed_4 zk_1 ?_
  refine v_isub C dX2_addDeed_5 ?_
  refine v_istore (L' := [some (.inr (.inl (1, r0))), some (.inl v1), some (.inl v2), some (.inl v3), some (.inl ((g 6001 r0 0) - (nI 1))), none]) C 4 dX2_addDeed_6 (by decide) rfl ?_
  refine v_aload_n C 0 dX2_addDeed_8 rfl rfl ?_
  refine v_iload C 4 dX2_addDeed_9 rfl ?_
  obtain ⟨x1, g2, e3, hM⟩ := zc_elim hM
  refine v_callVi (ci := 2) (rest := []) C (c_X2_hasCore hX hb_r0 e3) mw_X2_hasCore mi_X2_hasCore ml_RX2_80 hX.symm (zm1 hb_r0) rfl rfl ⟨by decide, Nat.le_of_ble_eq_true rfl⟩ rfl (Nat.le_of_ble_eq_true rfl) dX2_addDeed_11 rfl ?_
  refine v_if_eq C 79 dX2_addDeed_14 rfl hM (fun hM => ?_) (fun hM => ?_)
  · exact v_vret2 C hr dX2_addDeed_79 hM
  · refine v_aload_n C 0 dX2_addDeed_17 rfl rfl ?_
    refine gf_RX2_9 C hX hb_r0 dX2_addDeed_18 ?_
    refine v_iload C 4 dX2_addDeed_21 rfl ?_
    refine ia_11 C hX hb_r0 dX2_addDeed_23 hM (fun hM _ => ?_)
    refine v_bipush C (nI 24) dX2_addDeed_24 zkb_24 ?_
    refine v_icmp_ge C 79 dX2_addDeed_26 rfl hM (fun hM => ?_) (fun hM => ?_)
    · exact v_vret2 C hr dX2_addDeed_79 hM
    · refine v_iload C 4 dX2_addDeed_29 rfl ?_
      refine v_bipush C (nI 24) dX2_addDeed_31 zkb_24 ?_
      refine v_imul C dX2_addDeed_33 ?_
      refine v_aload_n C 0 dX2_addDeed_34 rfl rfl ?_
      refine gf_RX2_9 C hX hb_r0 dX2_addDeed_35 ?_
      refine v_iload C 4 dX2_addDeed_38 rfl ?_
      refine ia_11 C hX hb_r0 dX2_addDeed_40 hM (fun hM _ => ?_)
      refine v_iadd C dX2_addDeed_41 ?_
      refine v_istore (L' := [some (.inr (.inl (1, r0))), some (.inl v1), some (.inl v2), some (.inl v3), some (.inl ((g 6001 r0 0) - (nI 1))), some (.inl ((((g 6001 r0 0) - (nI 1)) * (nI 24)) + (g2 11 r0 ((g 6001 r0 0) - (nI 1)).toNatClampNeg)))]) C 5 dX2_addDeed_42 (by decide) rfl ?_
      refine v_aload_n C 0 dX2_addDeed_44 rfl rfl ?_
      refine gf_RX2_15 C hX hb_r0 dX2_addDeed_45 ?_
      refine v_iload C 5 dX2_addDeed_48 rfl ?_
      refine v_iload_n C 1 dX2_addDeed_50 rfl rfl ?_
      refine is_12 C hX hb_r0 dX2_addDeed_51 hM (fun g4 hM => ?_)
      refine v_aload_n C 0 dX2_addDeed_52 rfl rfl ?_
      refine gf_RX2_18 C hX hb_r0 dX2_addDeed_53 ?_
      refine v_iload C 5 dX2_addDeed_56 rfl ?_
      refine v_iload_n C 2 dX2_addDeed_58 rfl rfl ?_
      refine is_13 C hX hb_r0 dX2_addDeed_59 hM (fun g5 hM => ?_)
      refine v_aload_n C 0 dX2_addDeed_60 rfl rfl ?_
      refine gf_RX2_21 C hX hb_r0 dX2_addDeed_61 ?_
      refine v_iload C 5 dX2_addDeed_64 rfl ?_
      refine v_iload_n C 3 dX2_addDeed_66 rfl rfl ?_
      refine is_14 C hX hb_r0 rfl dX2_addDeed_67 hM (fun g6 hM => ?_)
      refine v_aload_n C 0 dX2_addDeed_68 rfl rfl ?_
      refine gf_RX2_9 C hX hb_r0 dX2_addDeed_69 ?_
      refine v_iload C 4 dX2_addDeed_72 rfl ?_
      refine v_dup2 C dX2_addDeed_74 ?_
      refine ia_11 C hX hb_r0 dX2_addDeed_75 hM (fun hM _ => ?_)
      refine v_iconst C (nI 1) dX2_addDeed_76 zk_1 ?_
      refine v_iadd C dX2_addDeed_77 ?_
      refine is_11 C hX hb_r0 dX2_addDeed_78 hM (fun g7 hM => ?_)
      exact v_vret2 C hr dX2_addDeed_79 hM

theorem t_X3_startOver_b63 {r0 : Nat} {v3 : Int32} {q0 : Nat} {s1 : Int32} {s2 : Int32} {k33 : Nat → Int32 → zG → Option (Int32 × zG)} {g : zG} (hX : zfl X = false) (C : Cx X p (zrm 2) s m args meth c cX3_startOver 4 RX3 0 0) (hr : meth.sig.returnType = none) (hb_r0 : r0 < 3) (hb_q0 : q0 < 3) (hk33 : ∀ (r0 : Nat) (v3 : Int32) (g : zG), r0 < 3 →  k33 r0 v3 g = some (rr, gr) → V X p l e (zrm 2) s m args below meth c 4 0 0 (MQ below (zQ X (Option.map (zM X) none) gr) args s 0 0 (zF X)) g 33 [some (.inr (.inl (3, r0))), none, none, some (.inl v3)] []) (hM : X3_startOver_b63 k33 r0 v3 q0 s1 s2 g = some (rr, gr)) : V X p l e (zrm 2) s m args below meth c 4 0 0 (MQ below (zQ X (Option.map (zM X) none) gr) args s 0 0 (zF X)) g 63 [some (.inr (.inl (3, r0))), none, none, some (.inl v3)] [(.inl s2), (.inl s1), (.inr (.inl (17, q0)))] := by
  unfold X3_startOver_b63 at hM
  refine is_17 C hX hb_q0 dX3_startOver_63 hM (fun g1 hM => ?_)
  refine v_iinc (L' := [some (.inr (.inl (3, r0))), none, none, some (.inl (v3 + (nI 1)))]) C 3 (nI 1) dX3_startOver_64 zk_1 (by decide) rfl rfl ?_
  refine v_goto C 33 dX3_startOver_67 rfl ?_
  exact hk33 r0 (v3 + (nI 1)) g1 hb_r0 hM

theorem t_X3_startOver_l33 {k72 : Nat → Int32 → zG → Option (Int32 × zG)} (hX : zfl X = false) (C : Cx X p (zrm 2) s m args meth c cX3_startOver 4 RX3 0 0) (hr : meth.sig.returnType = none) (hk72 : ∀ (r0 : Nat) (v3 : Int32) (g : zG), r0 < 3 →  k72 r0 v3 g = some (rr, gr) → V X p l e (zrm 2) s m args below meth c 4 0 0 (MQ below (zQ X (Option.map (zM X) none) gr) args s 0 0 (zF X)) g 72 [some (.inr (.inl (3, r0))), none, none, some (.inl v3)] []) : ∀ (n : Nat) {r0 : Nat} {v3 : Int32} (g : zG), r0 < 3 → X3_startOver_l33 k72 n r0 v3 g = some (rr, gr) → V X p l e (zrm 2) s m args below meth c 4 0 0 (MQ below (zQ X (Option.map (zM X) none) gr) args s 0 0 (zF X)) g 33 [some (.inr (.inl (3, r0))), none, none, some (.inl v3)] [] := by
  intro n
  induction n with
  | zero =>
    intro r0 v3 g hb_r0 hM
    exact absurd (show (none : Option (Int32 × zG)) = some (rr, gr) from hM) (by simp)
  | succ n ih =>
    intro r0 v3 g hb_r0 hM
    rw [X3_startOver_l33.eq_2] at hM
    refine v_iload_n C 3 dX3_startOver_33 rfl rfl ?_
    refine v_bipush C (nI 68) dX3_startOver_34 zkb_68 ?_
    refine v_icmp_ge C 70 dX3_startOver_36 rfl hM (fun hM => ?_) (fun hM => ?_)
    · refine v_iconst C (nI 0) dX3_startOver_70 zk_0 ?_
      refine v_istore_n (L' := [some (.inr (.inl (3, r0))), none, none, some (.inl (nI 0))]) C 3 dX3_startOver_71 rfl (by decide) rfl ?_
      exact hk72 r0 (nI 0) g hb_r0 hM
    · refine v_aload_n C 0 dX3_startOver_39 rfl rfl ?_
      refine gf_RX3_9 C hX hb_r0 dX3_startOver_40 ?_
      refine v_iload_n C 3 dX3_startOver_43 rfl rfl ?_
      refine v_iload_n C 3 dX3_startOver_44 rfl rfl ?_
      refine v_bipush C (nI 64) dX3_startOver_45 zkb_64 ?_
      refine v_icmp_ge C 62 dX3_startOver_47 rfl hM (fun hM => ?_) (fun hM => ?_)
      · refine v_iconst C (nI 0) dX3_startOver_62 zk_0 ?_
        exact t_X3_startOver_b63 hX C hr hb_r0 hb_r0 (fun r0 v3 g hb_r0 hM => ih g hb_r0 hM) hM
      · refine v_aload_n C 0 dX3_startOver_50 rfl rfl ?_
        refine gf_RX3_33 C hX hb_r0 dX3_startOver_51 ?_
        refine gf_RX3_60 C hX (by decide) dX3_startOver_54 ?_
        refine v_iload_n C 3 dX3_startOver_57 rfl rfl ?_
        refine ia_15 C hX (by decide) dX3_startOver_58 hM (fun hM _ => ?_)
        refine v_goto C 63 dX3_startOver_59 rfl ?_
        exact t_X3_startOver_b63 hX C hr hb_r0 hb_r0 (fun r0 v3 g hb_r0 hM => ih g hb_r0 hM) hM

theorem t_X3_startOver_l72 {k92 : Nat → Int32 → zG → Option (Int32 × zG)} (hX : zfl X = false) (C : Cx X p (zrm 2) s m args meth c cX3_startOver 4 RX3 0 0) (hr : meth.sig.returnType = none) (hk92 : ∀ (r0 : Nat) (v3 : Int32) (g : zG), r0 < 3 →  k92 r0 v3 g = some (rr, gr) → V X p l e (zrm 2) s m args below meth c 4 0 0 (MQ below (zQ X (Option.map (zM X) none) gr) args s 0 0 (zF X)) g 92 [some (.inr (.inl (3, r0))), none, none, some (.inl v3)] []) : ∀ (n : Nat) {r0 : Nat} {v3 : Int32} (g : zG), r0 < 3 → X3_startOver_l72 k92 n r0 v3 g = some (rr, gr) → V X p l e (zrm 2) s m args below meth c 4 0 0 (MQ below (zQ X (Option.map (zM X) none) gr) args s 0 0 (zF X)) g 72 [some (.inr (.inl (3, r0))), none, none, some (.inl v3)] [] := by
  intro n
  induction n with
  | zero =>
    intro r0 v3 g hb_r0 hM
    exact absurd (show (none : Option (Int32 × zG)) = some (rr, gr) from hM) (by simp)
  | succ n ih =>
    intro r0 v3 g hb_r0 hM
    rw [X3_startOver_l72.eq_2] at hM
    refine v_iload_n C 3 dX3_startOver_72 rfl rfl ?_
    refine v_iconst C (nI 3) dX3_startOver_73 zk_3 ?_
    refine v_icmp_ge C 90 dX3_startOver_74 rfl hM (fun hM => ?_) (fun hM => ?_)
    · refine v_iconst C (nI 0) dX3_startOver_90 zk_0 ?_
      refine v_istore_n (L' := [some (.inr (.inl (3, r0))), none, none, some (.inl (nI 0))]) C 3 dX3_startOver_91 rfl (by decide) rfl ?_
      exact hk92 r0 (nI 0) g hb_r0 hM
    · refine v_aload_n C 0 dX3_startOver_77 rfl rfl ?_
      refine gf_RX3_27 C hX hb_r0 dX3_startOver_78 ?_
      refine v_iload_n C 3 dX3_startOver_81 rfl rfl ?_
      refine v_iconst C (nI 0) dX3_startOver_82 zk_0 ?_
      refine is_20 C hX hb_r0 dX3_startOver_83 hM (fun g1 hM => ?_)
      refine v_iinc (L' := [some (.inr (.inl (3, r0))), none, none, some (.inl (v3 + (nI 1)))]) C 3 (nI 1) dX3_startOver_84 zk_1 (by decide) rfl rfl ?_
      refine v_goto C 72 dX3_startOver_87 rfl ?_
      exact ih g1 hb_r0 hM

theorem t_X3_startOver_l92  (hX : zfl X = false) (C : Cx X p (zrm 2) s m args meth c cX3_startOver 4 RX3 0 0) (hr : meth.sig.returnType = none)  : ∀ (n : Nat) {r0 : Nat} {v3 : Int32} (g : zG), r0 < 3 → X3_startOver_l92  n r0 v3 g = some (rr, gr) → V X p l e (zrm 2) s m args below meth c 4 0 0 (MQ below (zQ X (Option.map (zM X) none) gr) args s 0 0 (zF X)) g 92 [some (.inr (.inl (3, r0))), none, none, some (.inl v3)] [] := by
  intro n
  induction n with
  | zero =>
    intro r0 v3 g hb_r0 hM
    exact absurd (show (none : Option (Int32 × zG)) = some (rr, gr) from hM) (by simp)
  | succ n ih =>
    intro r0 v3 g hb_r0 hM
    rw [X3_startOver_l92.eq_2] at hM
    refine v_iload_n C 3 dX3_startOver_92 rfl rfl ?_
    refine v_iconst C (nI 4) dX3_startOver_93 zk_4 ?_
    refine v_icmp_ge C 121 dX3_startOver_94 rfl hM (fun hM => ?_) (fun hM => ?_)
    · exact v_vret2 C hr dX3_startOver_121 hM
    · refine v_aload_n C 0 dX3_startOver_97 rfl rfl ?_
      refine gf_RX3_17 C hX hb_r0 dX3_startOver_98 ?_
      refine v_iload_n C 3 dX3_startOver_101 rfl rfl ?_
      refine aa_18 C hX hb_r0 dX3_startOver_102 hM (fun hM hj1 => ?_)
      have hb2 : (4 * r0 + v3.toNatClampNeg) < 12 := zix hb_r0 hj1
      obtain ⟨x3, g4, e5, hM⟩ := zc_elim hM
      refine v_callVNv (ci := 0) (rest := []) C (c_X0_clear hX hb2 e5) mw_X0_clear mi_X0_clear ml_RX3_65 hX.symm (zm4 hb2) rfl rfl ⟨by decide, Nat.le_of_ble_eq_true rfl⟩ rfl (Nat.le_of_ble_eq_true rfl) dX3_startOver_103 rfl ?_
      refine v_aload_n C 0 dX3_startOver_106 rfl rfl ?_
      refine gf_RX3_23 C hX hb_r0 dX3_startOver_107 ?_
      refine v_iload_n C 3 dX3_startOver_110 rfl rfl ?_
      refine aa_19 C hX hb_r0 dX3_startOver_111 hM (fun hM hj6 => ?_)
      have hb7 : (4 * r0 + v3.toNatClampNeg) < 12 := zix hb_r0 hj6
      obtain ⟨x8, g9, e10, hM⟩ := zc_elim hM
      refine v_callVNv (ci := 1) (rest := []) C (c_X1_clear hX hb7 e10) mw_X1_clear mi_X1_clear ml_RX3_68 hX.symm (zm5 hb7) rfl rfl ⟨by decide, Nat.le_of_ble_eq_true rfl⟩ rfl (Nat.le_of_ble_eq_true rfl) dX3_startOver_112 rfl ?_
      refine v_iinc (L' := [some (.inr (.inl (3, r0))), none, none, some (.inl (v3 + (nI 1)))]) C 3 (nI 1) dX3_startOver_115 zk_1 (by decide) rfl rfl ?_
      refine v_goto C 92 dX3_startOver_118 rfl ?_
      exact ih g9 hb_r0 hM

theorem c_X3_startOver {X : zX} (hX : zfl X = false) {r0 : Nat} {v1 : Int32} {v2 : Int32} {g gr : zG} {rr : Int32} (hb_r0 : r0 < 3) (hM : X3_startOver r0 v1 v2 g = some (rr, gr)) : MC X yX3_startOver cX3_startOver 4 none 2 [.inr (.inl (3, r0)), .inl v1, .inl v2] none g gr := by
  refine MC.mk (own := RX3) (L := [some (.inr (.inl (3, r0))), some (.inl v1), some (.inl v2), none]) (by decide) rfl trivial (Nat.le_of_ble_eq_true rfl) rfl ?_
  intro p l e s m args below meth c C hr
  unfold X3_startOver at hM
  refine v_aload_n C 0 dX3_startOver_0 rfl rfl ?_
  refine v_iload_n C 1 dX3_startOver_1 rfl rfl ?_
  refine pf_RX3_41 C hX hb_r0 dX3_startOver_2 hM (fun g1 hM => ?_)
  refine v_aload_n C 0 dX3_startOver_5 rfl rfl ?_
  refine v_iload_n C 2 dX3_startOver_6 rfl rfl ?_
  refine pf_RX3_45 C hX hb_r0 dX3_startOver_7 hM (fun g2 hM => ?_)
  refine v_aload_n C 0 dX3_startOver_10 rfl rfl ?_
  refine v_iconst C (nI 0) dX3_startOver_11 zk_0 ?_
  refine pf_RX3_48 C hX hb_r0 dX3_startOver_12 hM (fun g3 hM => ?_)
  refine v_aload_n C 0 dX3_startOver_15 rfl rfl ?_
  refine v_iconst C (nI 0) dX3_startOver_16 zk_0 ?_
  refine pf_RX3_51 C hX hb_r0 dX3_startOver_17 hM (fun g4 hM => ?_)
  refine v_aload_n C 0 dX3_startOver_20 rfl rfl ?_
  refine v_bipush C (-2) dX3_startOver_21 zkb_m2 ?_
  refine pf_RX3_54 C hX hb_r0 dX3_startOver_23 hM (fun g5 hM => ?_)
  refine v_aload_n C 0 dX3_startOver_26 rfl rfl ?_
  refine v_iconst C (nI 0) dX3_startOver_27 zk_0 ?_
  refine pf_RX3_57 C hX hb_r0 dX3_startOver_28 hM (fun g6 hM => ?_)
  refine v_iconst C (nI 0) dX3_startOver_31 zk_0 ?_
  refine v_istore_n (L' := [some (.inr (.inl (3, r0))), some (.inl v1), some (.inl v2), some (.inl (nI 0))]) C 3 dX3_startOver_32 rfl (by decide) rfl ?_
  exact v_weak (t_X3_startOver_l33 hX C hr (by intro r0 v3 g hb_r0 hM; exact t_X3_startOver_l72 hX C hr (by intro r0 v3 g hb_r0 hM; exact t_X3_startOver_l92 hX C hr  _ g hb_r0 hM) _ g hb_r0 hM) _ g6 hb_r0 hM) (show zsub [some (.inr (.inl (3, r0))), none, none, some (.inl (nI 0))] [some (.inr (.inl (3, r0))), some (.inl v1), some (.inl v2), some (.inl (nI 0))] from ⟨rfl, ⟨rfl, trivial⟩⟩)

theorem t_X3_copyFrom_l95  (hX : zfl X = false) (C : Cx X p (zrm 2) s m args meth c cX3_copyFrom 3 RX3 0 0) (hr : meth.sig.returnType = none)  : ∀ (n : Nat) {r0 : Nat} {r1 : Nat} {v2 : Int32} (g : zG), r0 < 3 → r1 < 3 → X3_copyFrom_l95  n r0 r1 v2 g = some (rr, gr) → V X p l e (zrm 2) s m args below meth c 3 0 0 (MQ below (zQ X (Option.map (zM X) none) gr) args s 0 0 (zF X)) g 95 [some (.inr (.inl (3, r0))), some (.inr (.inl (3, r1))), some (.inl v2)] [] := by
  intro n
  induction n with
  | zero =>
    intro r0 r1 v2 g hb_r0 hb_r1 hM
    exact absurd (show (none : Option (Int32 × zG)) = some (rr, gr) from hM) (by simp)
  | succ n ih =>
    intro r0 r1 v2 g hb_r0 hb_r1 hM
    rw [X3_copyFrom_l95.eq_2] at hM
    refine v_iload_n C 2 dX3_copyFrom_95 rfl rfl ?_
    refine v_iconst C (nI 4) dX3_copyFrom_96 zk_4 ?_
    refine v_icmp_ge C 136 dX3_copyFrom_97 rfl hM (fun hM => ?_) (fun hM => ?_)
    · exact v_vret2 C hr dX3_copyFrom_136 hM
    · refine v_aload_n C 0 dX3_copyFrom_100 rfl rfl ?_
      refine gf_RX3_17 C hX hb_r0 dX3_copyFrom_101 ?_
      refine v_iload_n C 2 dX3_copyFrom_104 rfl rfl ?_
      refine aa_18 C hX hb_r0 dX3_copyFrom_105 hM (fun hM hj1 => ?_)
      have hb2 : (4 * r0 + v2.toNatClampNeg) < 12 := zix hb_r0 hj1
      refine v_aload_n C 1 dX3_copyFrom_106 rfl rfl ?_
      refine gf_RX3_17 C hX hb_r1 dX3_copyFrom_107 ?_
      refine v_iload_n C 2 dX3_copyFrom_110 rfl rfl ?_
      refine aa_18 C hX hb_r1 dX3_copyFrom_111 hM (fun hM hj3 => ?_)
      have hb4 : (4 * r1 + v2.toNatClampNeg) < 12 := zix hb_r1 hj3
      obtain ⟨x5, g6, e7, hM⟩ := zc_elim hM
      refine v_callVNv (ci := 0) (rest := []) C (c_X0_copyFrom hX hb2 hb4 e7) mw_X0_copyFrom mi_X0_copyFrom ml_RX3_75 hX.symm (zm4 hb2) rfl rfl ⟨by decide, Nat.le_of_ble_eq_true rfl⟩ rfl (Nat.le_of_ble_eq_true rfl) dX3_copyFrom_112 rfl ?_
      refine v_aload_n C 0 dX3_copyFrom_115 rfl rfl ?_
      refine gf_RX3_23 C hX hb_r0 dX3_copyFrom_116 ?_
      refine v_iload_n C 2 dX3_copyFrom_119 rfl rfl ?_
      refine aa_19 C hX hb_r0 dX3_copyFrom_120 hM (fun hM hj8 => ?_)
      have hb9 : (4 * r0 + v2.toNatClampNeg) < 12 := zix hb_r0 hj8
      refine v_aload_n C 1 dX3_copyFrom_121 rfl rfl ?_
      refine gf_RX3_23 C hX hb_r1 dX3_copyFrom_122 ?_
      refine v_iload_n C 2 dX3_copyFrom_125 rfl rfl ?_
      refine aa_19 C hX hb_r1 dX3_copyFrom_126 hM (fun hM hj10 => ?_)
      have hb11 : (4 * r1 + v2.toNatClampNeg) < 12 := zix hb_r1 hj10
      obtain ⟨x12, g13, e14, hM⟩ := zc_elim hM
      refine v_callVNv (ci := 1) (rest := []) C (c_X1_copyFrom hX hb9 hb11 e14) mw_X1_copyFrom mi_X1_copyFrom ml_RX3_79 hX.symm (zm5 hb9) rfl rfl ⟨by decide, Nat.le_of_ble_eq_true rfl⟩ rfl (Nat.le_of_ble_eq_true rfl) dX3_copyFrom_127 rfl ?_
      refine v_iinc (L' := [some (.inr (.inl (3, r0))), some (.inr (.inl (3, r1))), some (.inl (v2 + (nI 1)))]) C 2 (nI 1) dX3_copyFrom_130 zk_1 (by decide) rfl rfl ?_
      refine v_goto C 95 dX3_copyFrom_133 rfl ?_
      exact ih g13 hb_r0 hb_r1 hM

theorem c_X3_copyFrom {X : zX} (hX : zfl X = false) {r0 : Nat} {r1 : Nat} {g gr : zG} {rr : Int32} (hb_r0 : r0 < 3) (hb_r1 : r1 < 3) (hM : X3_copyFrom r0 r1 g = some (rr, gr)) : MC X yX3_copyFrom cX3_copyFrom 3 none 2 [.inr (.inl (3, r0)), .inr (.inl (3, r1))] none g gr := by
  refine MC.mk (own := RX3) (L := [some (.inr (.inl (3, r0))), some (.inr (.inl (3, r1))), none]) (by decide) rfl trivial (Nat.le_of_ble_eq_true rfl) rfl ?_
  intro p l e s m args below meth c C hr
  unfold X3_copyFrom at hM
  refine v_aload_n C 0 dX3_copyFrom_0 rfl rfl ?_
  refine v_aload_n C 1 dX3_copyFrom_1 rfl rfl ?_
  refine gf_RX3_41 C hX hb_r1 dX3_copyFrom_2 ?_
  refine pf_RX3_41 C hX hb_r0 dX3_copyFrom_5 hM (fun g1 hM => ?_)
  refine v_aload_n C 0 dX3_copyFrom_8 rfl rfl ?_
  refine v_aload_n C 1 dX3_copyFrom_9 rfl rfl ?_
  refine gf_RX3_45 C hX hb_r1 dX3_copyFrom_10 ?_
  refine pf_RX3_45 C hX hb_r0 dX3_copyFrom_13 hM (fun g2 hM => ?_)
  refine v_aload_n C 0 dX3_copyFrom_16 rfl rfl ?_
  refine v_aload_n C 1 dX3_copyFrom_17 rfl rfl ?_
  refine gf_RX3_48 C hX hb_r1 dX3_copyFrom_18 ?_
  refine pf_RX3_48 C hX hb_r0 dX3_copyFrom_21 hM (fun g3 hM => ?_)
  refine v_aload_n C 0 dX3_copyFrom_24 rfl rfl ?_
  refine v_aload_n C 1 dX3_copyFrom_25 rfl rfl ?_
  refine gf_RX3_51 C hX hb_r1 dX3_copyFrom_26 ?_
  refine pf_RX3_51 C hX hb_r0 dX3_copyFrom_29 hM (fun g4 hM => ?_)
  refine v_aload_n C 0 dX3_copyFrom_32 rfl rfl ?_
  refine v_aload_n C 1 dX3_copyFrom_33 rfl rfl ?_
  refine gf_RX3_54 C hX hb_r1 dX3_copyFrom_34 ?_
  refine pf_RX3_54 C hX hb_r0 dX3_copyFrom_37 hM (fun g5 hM => ?_)
  refine v_aload_n C 0 dX3_copyFrom_40 rfl rfl ?_
  refine v_aload_n C 1 dX3_copyFrom_41 rfl rfl ?_
  refine gf_RX3_57 C hX hb_r1 dX3_copyFrom_42 ?_
  refine pf_RX3_57 C hX hb_r0 dX3_copyFrom_45 hM (fun g6 hM => ?_)
  refine v_aload_n C 1 dX3_copyFrom_48 rfl rfl ?_
  refine gf_RX3_9 C hX hb_r1 dX3_copyFrom_49 ?_
  refine v_iconst C (nI 0) dX3_copyFrom_52 zk_0 ?_
  refine v_aload_n C 0 dX3_copyFrom_53 rfl rfl ?_
  refine gf_RX3_9 C hX hb_r0 dX3_copyFrom_54 ?_
  refine v_iconst C (nI 0) dX3_copyFrom_57 zk_0 ?_
  refine v_bipush C (nI 68) dX3_copyFrom_58 zkb_68 ?_
  refine v_copy0 (n := 68) C hX.symm hX.symm (zm17 hb_r0) rfl (zm17 hb_r1) rfl (by decide) (by decide) (by decide) ml_RX3_69 znat zstt zsys ⟨by decide, Nat.le_of_ble_eq_true rfl⟩ dX3_copyFrom_60 hM (fun g7 hM => ?_)
  refine v_aload_n C 1 dX3_copyFrom_63 rfl rfl ?_
  refine gf_RX3_27 C hX hb_r1 dX3_copyFrom_64 ?_
  refine v_iconst C (nI 0) dX3_copyFrom_67 zk_0 ?_
  refine v_aload_n C 0 dX3_copyFrom_68 rfl rfl ?_
  refine gf_RX3_27 C hX hb_r0 dX3_copyFrom_69 ?_
  refine v_iconst C (nI 0) dX3_copyFrom_72 zk_0 ?_
  refine v_iconst C (nI 3) dX3_copyFrom_73 zk_3 ?_
  refine v_copy0 (n := 3) C hX.symm hX.symm (zm20 hb_r0) rfl (zm20 hb_r1) rfl (by decide) (by decide) (by decide) ml_RX3_69 znat zstt zsys ⟨by decide, Nat.le_of_ble_eq_true rfl⟩ dX3_copyFrom_74 hM (fun g8 hM => ?_)
  refine v_aload_n C 1 dX3_copyFrom_77 rfl rfl ?_
  refine gf_RX3_30 C hX hb_r1 dX3_copyFrom_78 ?_
  refine v_iconst C (nI 0) dX3_copyFrom_81 zk_0 ?_
  refine v_aload_n C 0 dX3_copyFrom_82 rfl rfl ?_
  refine gf_RX3_30 C hX hb_r0 dX3_copyFrom_83 ?_
  refine v_iconst C (nI 0) dX3_copyFrom_86 zk_0 ?_
  refine v_sipush C (nI 192) dX3_copyFrom_87 zks_192 ?_
  refine v_copy0 (n := 192) C hX.symm hX.symm (zm21 hb_r0) rfl (zm21 hb_r1) rfl (by decide) (by decide) (by decide) ml_RX3_69 znat zstt zsys ⟨by decide, Nat.le_of_ble_eq_true rfl⟩ dX3_copyFrom_90 hM (fun g9 hM => ?_)
  refine v_iconst C (nI 0) dX3_copyFrom_93 zk_0 ?_
  refine v_istore_n (L' := [some (.inr (.inl (3, r0))), some (.inr (.inl (3, r1))), some (.inl (nI 0))]) C 2 dX3_copyFrom_94 rfl (by decide) rfl ?_
  exact t_X3_copyFrom_l95 hX C hr  _ g9 hb_r0 hb_r1 hM

theorem c_X3_hasDeedsLeft {X : zX} (hX : zfl X = false) {r0 : Nat} {v1 : Int32} {g gr : zG} {rr : Int32} (hb_r0 : r0 < 3) (hM : X3_hasDeedsLeft r0 v1 g = some (rr, gr)) : MC X yX3_hasDeedsLeft cX3_hasDeedsLeft 2 (some .boolean) 1 [.inr (.inl (3, r0)), .inl v1] (some (.inl rr)) g gr := by
  refine MC.mk (own := RX3) (L := [some (.inr (.inl (3, r0))), some (.inl v1)]) (by decide) rfl trivial (Nat.le_of_ble_eq_true rfl) rfl ?_
  intro p l e s m args below meth c C hr
  unfold X3_hasDeedsLeft at hM
  refine v_aload_n C 0 dX3_hasDeedsLeft_0 rfl rfl ?_
  refine gf_RX3_33 C hX hb_r0 dX3_hasDeedsLeft_1 ?_
  refine v_iload_n C 1 dX3_hasDeedsLeft_4 rfl rfl ?_
  obtain ⟨x1, g2, e3, hM⟩ := zc_elim hM
  refine v_callVNi (ci := 2) (rest := []) C (c_X2_hasCore hX (by decide) e3) mw_X2_hasCore mi_X2_hasCore ml_RX3_82 hX.symm (zm1 (by decide)) rfl rfl ⟨by decide, Nat.le_of_ble_eq_true rfl⟩ rfl (Nat.le_of_ble_eq_true rfl) dX3_hasDeedsLeft_5 rfl ?_
  refine v_if_eq C 36 dX3_hasDeedsLeft_8 rfl hM (fun hM => ?_) (fun hM => ?_)
  · refine v_iconst C (nI 0) dX3_hasDeedsLeft_36 zk_0 ?_
    exact v_zret2 C hr (zbo_n (Or.inl rfl)) dX3_hasDeedsLeft_37 hM
  · refine v_aload_n C 0 dX3_hasDeedsLeft_11 rfl rfl ?_
    refine gf_RX3_23 C hX hb_r0 dX3_hasDeedsLeft_12 ?_
    refine v_iload_n C 1 dX3_hasDeedsLeft_15 rfl rfl ?_
    refine aa_19 C hX hb_r0 dX3_hasDeedsLeft_16 hM (fun hM hj4 => ?_)
    have hb5 : (4 * r0 + v1.toNatClampNeg) < 12 := zix hb_r0 hj4
    refine gf_RX3_86 C hX hb5 dX3_hasDeedsLeft_17 ?_
    refine v_aload_n C 0 dX3_hasDeedsLeft_20 rfl rfl ?_
    refine gf_RX3_33 C hX hb_r0 dX3_hasDeedsLeft_21 ?_
    refine gf_RX3_89 C hX (by decide) dX3_hasDeedsLeft_24 ?_
    refine v_iload_n C 1 dX3_hasDeedsLeft_27 rfl rfl ?_
    refine ia_11 C hX (by decide) dX3_hasDeedsLeft_28 hM (fun hM _ => ?_)
    refine v_icmp_ge C 36 dX3_hasDeedsLeft_29 rfl hM (fun hM => ?_) (fun hM => ?_)
    · refine v_iconst C (nI 0) dX3_hasDeedsLeft_36 zk_0 ?_
      exact v_zret2 C hr (zbo_n (Or.inl rfl)) dX3_hasDeedsLeft_37 hM
    · refine v_iconst C (nI 1) dX3_hasDeedsLeft_32 zk_1 ?_
      refine v_goto C 37 dX3_hasDeedsLeft_33 rfl ?_
      exact v_zret2 C hr (zbo_n (Or.inr rfl)) dX3_hasDeedsLeft_37 hM

theorem t_X3_isAllDone_l2  (hX : zfl X = false) (C : Cx X p (zrm 2) s m args meth c cX3_isAllDone 2 RX3 0 0) (hr : meth.sig.returnType = (some .boolean))  : ∀ (n : Nat) {r0 : Nat} {v1 : Int32} (g : zG), r0 < 3 → X3_isAllDone_l2  n r0 v1 g = some (rr, gr) → V X p l e (zrm 2) s m args below meth c 2 0 0 (MQ below (zQ X (Option.map (zM X) (some (.inl rr))) gr) args s 0 0 (zF X)) g 2 [some (.inr (.inl (3, r0))), some (.inl v1)] [] := by
  intro n
  induction n with
  | zero =>
    intro r0 v1 g hb_r0 hM
    exact absurd (show (none : Option (Int32 × zG)) = some (rr, gr) from hM) (by simp)
  | succ n ih =>
    intro r0 v1 g hb_r0 hM
    rw [X3_isAllDone_l2.eq_2] at hM
    refine v_iload_n C 1 dX3_isAllDone_2 rfl rfl ?_
    refine v_iconst C (nI 4) dX3_isAllDone_3 zk_4 ?_
    refine v_icmp_ge C 23 dX3_isAllDone_4 rfl hM (fun hM => ?_) (fun hM => ?_)
    · refine v_iconst C (nI 1) dX3_isAllDone_23 zk_1 ?_
      exact v_zret2 C hr (zbo_n (Or.inr rfl)) dX3_isAllDone_24 hM
    · refine v_aload_n C 0 dX3_isAllDone_7 rfl rfl ?_
      refine v_iload_n C 1 dX3_isAllDone_8 rfl rfl ?_
      obtain ⟨x1, g2, e3, hM⟩ := zc_elim hM
      refine v_callVi (ci := 3) (rest := []) C (c_X3_hasDeedsLeft hX hb_r0 e3) mw_X3_hasDeedsLeft mi_X3_hasDeedsLeft ml_RX3_92 hX.symm (zm3 hb_r0) rfl rfl ⟨by decide, Nat.le_of_ble_eq_true rfl⟩ rfl (Nat.le_of_ble_eq_true rfl) dX3_isAllDone_9 rfl ?_
      refine v_if_eq C 17 dX3_isAllDone_12 rfl hM (fun hM => ?_) (fun hM => ?_)
      · refine v_iinc (L' := [some (.inr (.inl (3, r0))), some (.inl (v1 + (nI 1)))]) C 1 (nI 1) dX3_isAllDone_17 zk_1 (by decide) rfl rfl ?_
        refine v_goto C 2 dX3_isAllDone_20 rfl ?_
        exact ih g2 hb_r0 hM
      · refine v_iconst C (nI 0) dX3_isAllDone_15 zk_0 ?_
        exact v_zret2 C hr (zbo_n (Or.inl rfl)) dX3_isAllDone_16 hM

theorem c_X3_isAllDone {X : zX} (hX : zfl X = false) {r0 : Nat} {g gr : zG} {rr : Int32} (hb_r0 : r0 < 3) (hM : X3_isAllDone r0 g = some (rr, gr)) : MC X yX3_isAllDone cX3_isAllDone 2 (some .boolean) 2 [.inr (.inl (3, r0))] (some (.inl rr)) g gr := by
  refine MC.mk (own := RX3) (L := [some (.inr (.inl (3, r0))), none]) (by decide) rfl trivial (Nat.le_of_ble_eq_true rfl) rfl ?_
  intro p l e s m args below meth c C hr
  unfold X3_isAllDone at hM
  refine v_iconst C (nI 0) dX3_isAllDone_0 zk_0 ?_
  refine v_istore_n (L' := [some (.inr (.inl (3, r0))), some (.inl (nI 0))]) C 1 dX3_isAllDone_1 rfl (by decide) rfl ?_
  exact t_X3_isAllDone_l2 hX C hr  _ g hb_r0 hM

theorem t_X3_marking_b86 {r0 : Nat} {v1 : Int32} {v2 : Int32} {v3 : Int32} {v4 : Int32} {v5 : Int32} {k6 : Nat → Int32 → Int32 → Int32 → Int32 → Int32 → zG → Option (Int32 × zG)} {g : zG} (hX : zfl X = false) (C : Cx X p (zrm 1) s m args meth c cX3_marking 7 RX3 0 0) (hr : meth.sig.returnType = (some .int)) (hb_r0 : r0 < 3) (hk6 : ∀ (r0 : Nat) (v1 : Int32) (v2 : Int32) (v3 : Int32) (v4 : Int32) (v5 : Int32) (g : zG), r0 < 3 →  k6 r0 v1 v2 v3 v4 v5 g = some (rr, gr) → V X p l e (zrm 1) s m args below meth c 7 0 0 (MQ below (zQ X (Option.map (zM X) (some (.inl rr))) gr) args s 0 0 (zF X)) g 6 [some (.inr (.inl (3, r0))), some (.inl v1), some (.inl v2), some (.inl v3), some (.inl v4), some (.inl v5), none] []) (hM : X3_marking_b86 k6 r0 v1 v2 v3 v4 v5 g = some (rr, gr)) : V X p l e (zrm 1) s m args below meth c 7 0 0 (MQ below (zQ X (Option.map (zM X) (some (.inl rr))) gr) args s 0 0 (zF X)) g 86 [some (.inr (.inl (3, r0))), some (.inl v1), some (.inl v2), some (.inl v3), some (.inl v4), some (.inl v5), none] [] := by
  unfold X3_marking_b86 at hM
  refine v_iinc (L' := [some (.inr (.inl (3, r0))), some (.inl v1), some (.inl v2), some (.inl v3), some (.inl v4), some (.inl (v5 + (nI 1))), none]) C 5 (nI 1) dX3_marking_86 zk_1 (by decide) rfl rfl ?_
  refine v_goto C 6 dX3_marking_89 rfl ?_
  exact hk6 r0 v1 v2 v3 v4 (v5 + (nI 1)) g hb_r0 hM

theorem t_X3_marking_b77 {r0 : Nat} {v1 : Int32} {v2 : Int32} {v3 : Int32} {v4 : Int32} {v5 : Int32} {k6 : Nat → Int32 → Int32 → Int32 → Int32 → Int32 → zG → Option (Int32 × zG)} {g : zG} (hX : zfl X = false) (C : Cx X p (zrm 1) s m args meth c cX3_marking 7 RX3 0 0) (hr : meth.sig.returnType = (some .int)) (hb_r0 : r0 < 3) (hk6 : ∀ (r0 : Nat) (v1 : Int32) (v2 : Int32) (v3 : Int32) (v4 : Int32) (v5 : Int32) (g : zG), r0 < 3 →  k6 r0 v1 v2 v3 v4 v5 g = some (rr, gr) → V X p l e (zrm 1) s m args below meth c 7 0 0 (MQ below (zQ X (Option.map (zM X) (some (.inl rr))) gr) args s 0 0 (zF X)) g 6 [some (.inr (.inl (3, r0))), some (.inl v1), some (.inl v2), some (.inl v3), some (.inl v4), some (.inl v5), none] []) (hM : X3_marking_b77 k6 r0 v1 v2 v3 v4 v5 g = some (rr, gr)) : V X p l e (zrm 1) s m args below meth c 7 0 0 (MQ below (zQ X (Option.map (zM X) (some (.inl rr))) gr) args s 0 0 (zF X)) g 77 [some (.inr (.inl (3, r0))), some (.inl v1), some (.inl v2), some (.inl v3), some (.inl v4), some (.inl v5), none] [] := by
  unfold X3_marking_b77 at hM
  refine v_iload C 4 dX3_marking_77 rfl ?_
  refine v_iconst C (nI 1) dX3_marking_79 zk_1 ?_
  refine v_iload C 5 dX3_marking_80 rfl ?_
  refine v_ishl C dX3_marking_82 ?_
  refine v_ior C dX3_marking_83 ?_
  refine v_istore (L' := [some (.inr (.inl (3, r0))), some (.inl v1), some (.inl v2), some (.inl v3), some (.inl (v4 ||| ((nI 1) <<< (v5 &&& 31)))), some (.inl v5), none]) C 4 dX3_marking_84 (by decide) rfl ?_
  exact t_X3_marking_b86 hX C hr hb_r0 hk6 hM

theorem t_X3_marking_b33 {r0 : Nat} {v1 : Int32} {v2 : Int32} {v3 : Int32} {v4 : Int32} {v5 : Int32} {s0 : Int32} {k6 : Nat → Int32 → Int32 → Int32 → Int32 → Int32 → zG → Option (Int32 × zG)} {g : zG} (hX : zfl X = false) (C : Cx X p (zrm 1) s m args meth c cX3_marking 7 RX3 0 0) (hr : meth.sig.returnType = (some .int)) (hb_r0 : r0 < 3) (hk6 : ∀ (r0 : Nat) (v1 : Int32) (v2 : Int32) (v3 : Int32) (v4 : Int32) (v5 : Int32) (g : zG), r0 < 3 →  k6 r0 v1 v2 v3 v4 v5 g = some (rr, gr) → V X p l e (zrm 1) s m args below meth c 7 0 0 (MQ below (zQ X (Option.map (zM X) (some (.inl rr))) gr) args s 0 0 (zF X)) g 6 [some (.inr (.inl (3, r0))), some (.inl v1), some (.inl v2), some (.inl v3), some (.inl v4), some (.inl v5), none] []) (hM : X3_marking_b33 k6 r0 v1 v2 v3 v4 v5 s0 g = some (rr, gr)) : V X p l e (zrm 1) s m args below meth c 7 0 0 (MQ below (zQ X (Option.map (zM X) (some (.inl rr))) gr) args s 0 0 (zF X)) g 33 [some (.inr (.inl (3, r0))), some (.inl v1), some (.inl v2), some (.inl v3), some (.inl v4), some (.inl v5), none] [(.inl s0)] := by
  unfold X3_marking_b33 at hM
  refine v_istore (L' := [some (.inr (.inl (3, r0))), some (.inl v1), some (.inl v2), some (.inl v3), some (.inl v4), some (.inl v5), some (.inl s0)]) C 6 dX3_marking_33 (by decide) rfl ?_
  refine v_iload C 6 dX3_marking_35 rfl ?_
  refine v_iconst C (-1) dX3_marking_37 zk_m1 ?_
  refine v_icmp_eq C 86 dX3_marking_38 rfl hM (fun hM => ?_) (fun hM => ?_)
  · exact v_weak (t_X3_marking_b86 hX C hr hb_r0 hk6 hM) (show zsub [some (.inr (.inl (3, r0))), some (.inl v1), some (.inl v2), some (.inl v3), some (.inl v4), some (.inl v5), none] [some (.inr (.inl (3, r0))), some (.inl v1), some (.inl v2), some (.inl v3), some (.inl v4), some (.inl v5), some (.inl s0)] from ⟨rfl, ⟨rfl, ⟨rfl, ⟨rfl, ⟨rfl, ⟨rfl, trivial⟩⟩⟩⟩⟩⟩)
  · refine v_aload_n C 0 dX3_marking_41 rfl rfl ?_
    refine gf_RX3_17 C hX hb_r0 dX3_marking_42 ?_
    refine v_iload C 5 dX3_marking_45 rfl ?_
    refine aa_18 C hX hb_r0 dX3_marking_47 hM (fun hM hj1 => ?_)
    have hb2 : (4 * r0 + v5.toNatClampNeg) < 12 := zix hb_r0 hj1
    refine gf_RX3_177 C hX hb2 dX3_marking_48 ?_
    refine v_iload C 6 dX3_marking_51 rfl ?_
    refine ia_25 C hX hb2 dX3_marking_53 hM (fun hM _ => ?_)
    refine v_if_ne C 77 dX3_marking_54 rfl hM (fun hM => ?_) (fun hM => ?_)
    · exact v_weak (t_X3_marking_b77 hX C hr hb_r0 hk6 hM) (show zsub [some (.inr (.inl (3, r0))), some (.inl v1), some (.inl v2), some (.inl v3), some (.inl v4), some (.inl v5), none] [some (.inr (.inl (3, r0))), some (.inl v1), some (.inl v2), some (.inl v3), some (.inl v4), some (.inl v5), some (.inl s0)] from ⟨rfl, ⟨rfl, ⟨rfl, ⟨rfl, ⟨rfl, ⟨rfl, trivial⟩⟩⟩⟩⟩⟩)
    · refine v_iload_n C 3 dX3_marking_57 rfl rfl ?_
      refine v_if_ne C 86 dX3_marking_58 rfl hM (fun hM => ?_) (fun hM => ?_)
      · exact v_weak (t_X3_marking_b86 hX C hr hb_r0 hk6 hM) (show zsub [some (.inr (.inl (3, r0))), some (.inl v1), some (.inl v2), some (.inl v3), some (.inl v4), some (.inl v5), none] [some (.inr (.inl (3, r0))), some (.inl v1), some (.inl v2), some (.inl v3), some (.inl v4), some (.inl v5), some (.inl s0)] from ⟨rfl, ⟨rfl, ⟨rfl, ⟨rfl, ⟨rfl, ⟨rfl, trivial⟩⟩⟩⟩⟩⟩)
      · refine v_aload_n C 0 dX3_marking_61 rfl rfl ?_
        refine gf_RX3_17 C hX hb_r0 dX3_marking_62 ?_
        refine v_iload C 5 dX3_marking_65 rfl ?_
        refine aa_18 C hX hb_r0 dX3_marking_67 hM (fun hM hj3 => ?_)
        have hb4 : (4 * r0 + v5.toNatClampNeg) < 12 := zix hb_r0 hj3
        refine gf_RX3_214 C hX hb4 dX3_marking_68 ?_
        refine v_iload C 6 dX3_marking_71 rfl ?_
        refine ia_24 C hX hb4 dX3_marking_73 hM (fun hM _ => ?_)
        refine v_if_eq C 86 dX3_marking_74 rfl hM (fun hM => ?_) (fun hM => ?_)
        · exact v_weak (t_X3_marking_b86 hX C hr hb_r0 hk6 hM) (show zsub [some (.inr (.inl (3, r0))), some (.inl v1), some (.inl v2), some (.inl v3), some (.inl v4), some (.inl v5), none] [some (.inr (.inl (3, r0))), some (.inl v1), some (.inl v2), some (.inl v3), some (.inl v4), some (.inl v5), some (.inl s0)] from ⟨rfl, ⟨rfl, ⟨rfl, ⟨rfl, ⟨rfl, ⟨rfl, trivial⟩⟩⟩⟩⟩⟩)
        · exact v_weak (t_X3_marking_b77 hX C hr hb_r0 hk6 hM) (show zsub [some (.inr (.inl (3, r0))), some (.inl v1), some (.inl v2), some (.inl v3), some (.inl v4), some (.inl v5), none] [some (.inr (.inl (3, r0))), some (.inl v1), some (.inl v2), some (.inl v3), some (.inl v4), some (.inl v5), some (.inl s0)] from ⟨rfl, ⟨rfl, ⟨rfl, ⟨rfl, ⟨rfl, ⟨rfl, trivial⟩⟩⟩⟩⟩⟩)

theorem t_X3_marking_l6  (hX : zfl X = false) (C : Cx X p (zrm 1) s m args meth c cX3_marking 7 RX3 0 0) (hr : meth.sig.returnType = (some .int))  : ∀ (n : Nat) {r0 : Nat} {v1 : Int32} {v2 : Int32} {v3 : Int32} {v4 : Int32} {v5 : Int32} (g : zG), r0 < 3 → X3_marking_l6  n r0 v1 v2 v3 v4 v5 g = some (rr, gr) → V X p l e (zrm 1) s m args below meth c 7 0 0 (MQ below (zQ X (Option.map (zM X) (some (.inl rr))) gr) args s 0 0 (zF X)) g 6 [some (.inr (.inl (3, r0))), some (.inl v1), some (.inl v2), some (.inl v3), some (.inl v4), some (.inl v5), none] [] := by
  intro n
  induction n with
  | zero =>
    intro r0 v1 v2 v3 v4 v5 g hb_r0 hM
    exact absurd (show (none : Option (Int32 × zG)) = some (rr, gr) from hM) (by simp)
  | succ n ih =>
    intro r0 v1 v2 v3 v4 v5 g hb_r0 hM
    rw [X3_marking_l6.eq_2] at hM
    refine v_iload C 5 dX3_marking_6 rfl ?_
    refine v_iconst C (nI 4) dX3_marking_8 zk_4 ?_
    refine v_icmp_ge C 92 dX3_marking_9 rfl hM (fun hM => ?_) (fun hM => ?_)
    · refine v_iload C 4 dX3_marking_92 rfl ?_
      exact v_iret2 C hr dX3_marking_94 hM
    · refine v_iload C 5 dX3_marking_12 rfl ?_
      refine v_iload_n C 1 dX3_marking_14 rfl rfl ?_
      refine v_icmp_ne C 22 dX3_marking_15 rfl hM (fun hM => ?_) (fun hM => ?_)
      · refine v_aload_n C 0 dX3_marking_22 rfl rfl ?_
        refine gf_RX3_17 C hX hb_r0 dX3_marking_23 ?_
        refine v_iload C 5 dX3_marking_26 rfl ?_
        refine aa_18 C hX hb_r0 dX3_marking_28 hM (fun hM hj1 => ?_)
        have hb2 : (4 * r0 + v5.toNatClampNeg) < 12 := zix hb_r0 hj1
        refine v_iload_n C 2 dX3_marking_29 rfl rfl ?_
        obtain ⟨x3, g4, e5, hM⟩ := zc_elim hM
        refine v_callVNi (ci := 0) (rest := []) C (c_X0_find hX hb2 e5) mw_X0_find mi_X0_find ml_RX3_165 hX.symm (zm4 hb2) rfl rfl ⟨by decide, Nat.le_of_ble_eq_true rfl⟩ rfl (Nat.le_of_ble_eq_true rfl) dX3_marking_30 rfl ?_
        exact t_X3_marking_b33 hX C hr hb_r0 (fun r0 v1 v2 v3 v4 v5 g hb_r0 hM => ih g hb_r0 hM) hM
      · refine v_iconst C (-1) dX3_marking_18 zk_m1 ?_
        refine v_goto C 33 dX3_marking_19 rfl ?_
        exact t_X3_marking_b33 hX C hr hb_r0 (fun r0 v1 v2 v3 v4 v5 g hb_r0 hM => ih g hb_r0 hM) hM

theorem c_X3_marking {X : zX} (hX : zfl X = false) {r0 : Nat} {v1 : Int32} {v2 : Int32} {v3 : Int32} {g gr : zG} {rr : Int32} (hb_r0 : r0 < 3) (hM : X3_marking r0 v1 v2 v3 g = some (rr, gr)) : MC X yX3_marking cX3_marking 7 (some .int) 1 [.inr (.inl (3, r0)), .inl v1, .inl v2, .inl v3] (some (.inl rr)) g gr := by
  refine MC.mk (own := RX3) (L := [some (.inr (.inl (3, r0))), some (.inl v1), some (.inl v2), some (.inl v3), none, none, none]) (by decide) rfl trivial (Nat.le_of_ble_eq_true rfl) rfl ?_
  intro p l e s m args below meth c C hr
  unfold X3_marking at hM
  refine v_iconst C (nI 0) dX3_marking_0 zk_0 ?_
  refine v_istore (L' := [some (.inr (.inl (3, r0))), some (.inl v1), some (.inl v2), some (.inl v3), some (.inl (nI 0)), none, none]) C 4 dX3_marking_1 (by decide) rfl ?_
  refine v_iconst C (nI 0) dX3_marking_3 zk_0 ?_
  refine v_istore (L' := [some (.inr (.inl (3, r0))), some (.inl v1), some (.inl v2), some (.inl v3), some (.inl (nI 0)), some (.inl (nI 0)), none]) C 5 dX3_marking_4 (by decide) rfl ?_
  exact t_X3_marking_l6 hX C hr  _ g hb_r0 hM

theorem c_X3_lostAfter {X : zX} (hX : zfl X = false) {r0 : Nat} {v1 : Int32} {v2 : Int32} {g gr : zG} {rr : Int32} (hb_r0 : r0 < 3) (hM : X3_lostAfter r0 v1 v2 g = some (rr, gr)) : MC X yX3_lostAfter cX3_lostAfter 3 (some .int) 0 [.inr (.inl (3, r0)), .inl v1, .inl v2] (some (.inl rr)) g gr := by
  refine MC.mk (own := RX3) (L := [some (.inr (.inl (3, r0))), some (.inl v1), some (.inl v2)]) (by decide) rfl trivial (Nat.le_of_ble_eq_true rfl) rfl ?_
  intro p l e s m args below meth c C hr
  unfold X3_lostAfter at hM
  refine v_iload_n C 2 dX3_lostAfter_0 rfl rfl ?_
  refine v_iconst C (nI 1) dX3_lostAfter_1 zk_1 ?_
  refine v_icmp_ne C 10 dX3_lostAfter_2 rfl hM (fun hM => ?_) (fun hM => ?_)
  · refine v_iload_n C 2 dX3_lostAfter_10 rfl rfl ?_
    refine v_if_ne C 28 dX3_lostAfter_11 rfl hM (fun hM => ?_) (fun hM => ?_)
    · refine v_aload_n C 0 dX3_lostAfter_28 rfl rfl ?_
      refine gf_RX3_23 C hX hb_r0 dX3_lostAfter_29 ?_
      refine v_iload_n C 1 dX3_lostAfter_32 rfl rfl ?_
      refine aa_19 C hX hb_r0 dX3_lostAfter_33 hM (fun hM hj1 => ?_)
      have hb2 : (4 * r0 + v1.toNatClampNeg) < 12 := zix hb_r0 hj1
      refine gf_RX3_130 C hX hb2 dX3_lostAfter_34 ?_
      exact v_iret2 C hr dX3_lostAfter_37 hM
    · refine v_aload_n C 0 dX3_lostAfter_14 rfl rfl ?_
      refine gf_RX3_23 C hX hb_r0 dX3_lostAfter_15 ?_
      refine v_iload_n C 1 dX3_lostAfter_18 rfl rfl ?_
      refine aa_19 C hX hb_r0 dX3_lostAfter_19 hM (fun hM hj3 => ?_)
      have hb4 : (4 * r0 + v1.toNatClampNeg) < 12 := zix hb_r0 hj3
      refine gf_RX3_130 C hX hb4 dX3_lostAfter_20 ?_
      refine v_iconst C (nI 1) dX3_lostAfter_23 zk_1 ?_
      refine v_iadd C dX3_lostAfter_24 ?_
      refine v_goto C 37 dX3_lostAfter_25 rfl ?_
      exact v_iret2 C hr dX3_lostAfter_37 hM
  · refine v_aload_n C 0 dX3_lostAfter_5 rfl rfl ?_
    refine gf_RX3_45 C hX hb_r0 dX3_lostAfter_6 ?_
    exact v_iret2 C hr dX3_lostAfter_9 hM

theorem t_X3_endTries_b84 {r0 : Nat} {v1 : Int32} {v2 : Int32} {v3 : Int32} {k2 : Nat → Int32 → Int32 → Int32 → zG → Option (Int32 × zG)} {g : zG} (hX : zfl X = false) (C : Cx X p (zrm 1) s m args meth c cX3_endTries 5 RX3 0 0) (hr : meth.sig.returnType = none) (hb_r0 : r0 < 3) (hk2 : ∀ (r0 : Nat) (v1 : Int32) (v2 : Int32) (v3 : Int32) (g : zG), r0 < 3 →  k2 r0 v1 v2 v3 g = some (rr, gr) → V X p l e (zrm 1) s m args below meth c 5 0 0 (MQ below (zQ X (Option.map (zM X) none) gr) args s 0 0 (zF X)) g 2 [some (.inr (.inl (3, r0))), some (.inl v1), some (.inl v2), some (.inl v3), none] []) (hM : X3_endTries_b84 k2 r0 v1 v2 v3 g = some (rr, gr)) : V X p l e (zrm 1) s m args below meth c 5 0 0 (MQ below (zQ X (Option.map (zM X) none) gr) args s 0 0 (zF X)) g 84 [some (.inr (.inl (3, r0))), some (.inl v1), some (.inl v2), some (.inl v3), none] [] := by
  unfold X3_endTries_b84 at hM
  refine v_iinc (L' := [some (.inr (.inl (3, r0))), some (.inl v1), some (.inl v2), some (.inl (v3 + (nI 1))), none]) C 3 (nI 1) dX3_endTries_84 zk_1 (by decide) rfl rfl ?_
  refine v_goto C 2 dX3_endTries_87 rfl ?_
  exact hk2 r0 v1 v2 (v3 + (nI 1)) g hb_r0 hM

theorem t_X3_endTries_l2  (hX : zfl X = false) (C : Cx X p (zrm 1) s m args meth c cX3_endTries 5 RX3 0 0) (hr : meth.sig.returnType = none)  : ∀ (n : Nat) {r0 : Nat} {v1 : Int32} {v2 : Int32} {v3 : Int32} (g : zG), r0 < 3 → X3_endTries_l2  n r0 v1 v2 v3 g = some (rr, gr) → V X p l e (zrm 1) s m args below meth c 5 0 0 (MQ below (zQ X (Option.map (zM X) none) gr) args s 0 0 (zF X)) g 2 [some (.inr (.inl (3, r0))), some (.inl v1), some (.inl v2), some (.inl v3), none] [] := by
  intro n
  induction n with
  | zero =>
    intro r0 v1 v2 v3 g hb_r0 hM
    exact absurd (show (none : Option (Int32 × zG)) = some (rr, gr) from hM) (by simp)
  | succ n ih =>
    intro r0 v1 v2 v3 g hb_r0 hM
    rw [X3_endTries_l2.eq_2] at hM
    refine v_iload_n C 3 dX3_endTries_2 rfl rfl ?_
    refine v_iconst C (nI 4) dX3_endTries_3 zk_4 ?_
    refine v_icmp_ge C 90 dX3_endTries_4 rfl hM (fun hM => ?_) (fun hM => ?_)
    · refine v_aload_n C 0 dX3_endTries_90 rfl rfl ?_
      refine v_dup_a C dX3_endTries_91 ?_
      refine gf_RX3_57 C hX hb_r0 dX3_endTries_92 ?_
      refine v_iload_n C 1 dX3_endTries_95 rfl rfl ?_
      refine v_ior C dX3_endTries_96 ?_
      refine pf_RX3_57 C hX hb_r0 dX3_endTries_97 hM (fun g1 hM => ?_)
      exact v_vret2 C hr dX3_endTries_100 hM
    · refine v_iload_n C 1 dX3_endTries_7 rfl rfl ?_
      refine v_iload_n C 3 dX3_endTries_8 rfl rfl ?_
      refine v_ishr C dX3_endTries_9 ?_
      refine v_iconst C (nI 1) dX3_endTries_10 zk_1 ?_
      refine v_iand C dX3_endTries_11 ?_
      refine v_iconst C (nI 1) dX3_endTries_12 zk_1 ?_
      refine v_icmp_ne C 84 dX3_endTries_13 rfl hM (fun hM => ?_) (fun hM => ?_)
      · exact t_X3_endTries_b84 hX C hr hb_r0 (fun r0 v1 v2 v3 g hb_r0 hM => ih g hb_r0 hM) hM
      · refine v_aload_n C 0 dX3_endTries_16 rfl rfl ?_
        refine gf_RX3_23 C hX hb_r0 dX3_endTries_17 ?_
        refine v_iload_n C 3 dX3_endTries_20 rfl rfl ?_
        refine aa_19 C hX hb_r0 dX3_endTries_21 hM (fun hM hj2 => ?_)
        have hb3 : (4 * r0 + v3.toNatClampNeg) < 12 := zix hb_r0 hj2
        refine v_astore (L' := [some (.inr (.inl (3, r0))), some (.inl v1), some (.inl v2), some (.inl v3), some (.inr (.inl (5, (4 * r0 + v3.toNatClampNeg))))]) C 4 dX3_endTries_22 (by decide) rfl ?_
        refine v_aload_n C 0 dX3_endTries_24 rfl rfl ?_
        refine gf_RX3_17 C hX hb_r0 dX3_endTries_25 ?_
        refine v_iload_n C 3 dX3_endTries_28 rfl rfl ?_
        refine aa_18 C hX hb_r0 dX3_endTries_29 hM (fun hM hj4 => ?_)
        have hb5 : (4 * r0 + v3.toNatClampNeg) < 12 := zix hb_r0 hj4
        refine v_iconst C (nI 1) dX3_endTries_30 zk_1 ?_
        obtain ⟨x6, g7, e8, hM⟩ := zc_elim hM
        refine v_callVNv (ci := 0) (rest := []) C (c_X0_unmark hX hb5 e8) mw_X0_unmark mi_X0_unmark ml_RX3_189 hX.symm (zm4 hb5) rfl rfl ⟨by decide, Nat.le_of_ble_eq_true rfl⟩ rfl (Nat.le_of_ble_eq_true rfl) dX3_endTries_31 rfl ?_
        refine v_aload C 4 dX3_endTries_34 rfl ?_
        refine v_iconst C (nI 0) dX3_endTries_36 zk_0 ?_
        refine pf_RX3_110 C hX hb3 dX3_endTries_37 hM (fun g9 hM => ?_)
        refine v_aload C 4 dX3_endTries_40 rfl ?_
        refine v_iconst C (nI 0) dX3_endTries_42 zk_0 ?_
        refine pf_RX3_113 C hX hb3 dX3_endTries_43 hM (fun g10 hM => ?_)
        refine v_aload C 4 dX3_endTries_46 rfl ?_
        refine v_aload C 4 dX3_endTries_48 rfl ?_
        refine gf_RX3_151 C hX hb3 dX3_endTries_50 ?_
        refine pf_RX3_86 C hX hb3 dX3_endTries_53 hM (fun g11 hM => ?_)
        refine v_aload C 4 dX3_endTries_56 rfl ?_
        refine v_iconst C (nI 0) dX3_endTries_58 zk_0 ?_
        refine pf_RX3_141 C hX hb3 dX3_endTries_59 hM (fun g12 hM => ?_)
        refine v_aload C 4 dX3_endTries_62 rfl ?_
        refine v_aload_n C 0 dX3_endTries_64 rfl rfl ?_
        refine v_iload_n C 3 dX3_endTries_65 rfl rfl ?_
        refine v_iload_n C 2 dX3_endTries_66 rfl rfl ?_
        obtain ⟨x13, g14, e15, hM⟩ := zc_elim hM
        refine v_callVi (ci := 3) (rest := [(.inr (.inl (5, (4 * r0 + v3.toNatClampNeg))))]) C (c_X3_lostAfter hX hb_r0 e15) mw_X3_lostAfter mi_X3_lostAfter ml_RX3_223 hX.symm (zm3 hb_r0) rfl rfl ⟨by decide, Nat.le_of_ble_eq_true rfl⟩ rfl (Nat.le_of_ble_eq_true rfl) dX3_endTries_67 rfl ?_
        refine pf_RX3_130 C hX hb3 dX3_endTries_70 hM (fun g16 hM => ?_)
        refine v_aload C 4 dX3_endTries_73 rfl ?_
        refine gf_RX3_127 C hX hb3 dX3_endTries_75 ?_
        refine v_iload_n C 2 dX3_endTries_78 rfl rfl ?_
        refine v_dup2 C dX3_endTries_79 ?_
        refine ia_28 C hX hb3 dX3_endTries_80 hM (fun hM _ => ?_)
        refine v_iconst C (nI 1) dX3_endTries_81 zk_1 ?_
        refine v_iadd C dX3_endTries_82 ?_
        refine is_28 C hX hb3 dX3_endTries_83 hM (fun g17 hM => ?_)
        exact v_weak (t_X3_endTries_b84 hX C hr hb_r0 (fun r0 v1 v2 v3 g hb_r0 hM => ih g hb_r0 hM) hM) (show zsub [some (.inr (.inl (3, r0))), some (.inl v1), some (.inl v2), some (.inl v3), none] [some (.inr (.inl (3, r0))), some (.inl v1), some (.inl v2), some (.inl v3), some (.inr (.inl (5, (4 * r0 + v3.toNatClampNeg))))] from ⟨rfl, ⟨rfl, ⟨rfl, ⟨rfl, trivial⟩⟩⟩⟩)

theorem c_X3_endTries {X : zX} (hX : zfl X = false) {r0 : Nat} {v1 : Int32} {v2 : Int32} {g gr : zG} {rr : Int32} (hb_r0 : r0 < 3) (hM : X3_endTries r0 v1 v2 g = some (rr, gr)) : MC X yX3_endTries cX3_endTries 5 none 1 [.inr (.inl (3, r0)), .inl v1, .inl v2] none g gr := by
  refine MC.mk (own := RX3) (L := [some (.inr (.inl (3, r0))), some (.inl v1), some (.inl v2), none, none]) (by decide) rfl trivial (Nat.le_of_ble_eq_true rfl) rfl ?_
  intro p l e s m args below meth c C hr
  unfold X3_endTries at hM
  refine v_iconst C (nI 0) dX3_endTries_0 zk_0 ?_
  refine v_istore_n (L' := [some (.inr (.inl (3, r0))), some (.inl v1), some (.inl v2), some (.inl (nI 0)), none]) C 3 dX3_endTries_1 rfl (by decide) rfl ?_
  exact t_X3_endTries_l2 hX C hr  _ g hb_r0 hM

theorem t_X3_ask_b100 {r0 : Nat} {v4 : Int32}  {g : zG} (hX : zfl X = false) (C : Cx X p (zrm 2) s m args meth c cX3_ask 6 RX3 0 0) (hr : meth.sig.returnType = (some .int)) (hb_r0 : r0 < 3)  (hM : X3_ask_b100  r0 v4 g = some (rr, gr)) : V X p l e (zrm 2) s m args below meth c 6 0 0 (MQ below (zQ X (Option.map (zM X) (some (.inl rr))) gr) args s 0 0 (zF X)) g 100 [some (.inr (.inl (3, r0))), none, none, none, some (.inl v4), none] [] := by
  unfold X3_ask_b100 at hM
  refine v_aload_n C 0 dX3_ask_100 rfl rfl ?_
  refine v_iload C 4 dX3_ask_101 rfl ?_
  refine v_iconst C (nI 0) dX3_ask_103 zk_0 ?_
  obtain ⟨x1, g2, e3, hM⟩ := zc_elim hM
  refine v_callVv (ci := 3) (rest := []) C (c_X3_endTries hX hb_r0 e3) mw_X3_endTries mi_X3_endTries ml_RX3_147 hX.symm (zm3 hb_r0) rfl rfl ⟨by decide, Nat.le_of_ble_eq_true rfl⟩ rfl (Nat.le_of_ble_eq_true rfl) dX3_ask_104 rfl ?_
  refine v_iconst C (nI 1) dX3_ask_107 zk_1 ?_
  exact v_iret2 C hr dX3_ask_108 hM

theorem t_X3_ask_b94 {r0 : Nat} {v1 : Int32} {v4 : Int32} {v5 : Int32} {k53 : Nat → Int32 → Int32 → Int32 → zG → Option (Int32 × zG)} {g : zG} (hX : zfl X = false) (C : Cx X p (zrm 2) s m args meth c cX3_ask 6 RX3 0 0) (hr : meth.sig.returnType = (some .int)) (hb_r0 : r0 < 3) (hk53 : ∀ (r0 : Nat) (v1 : Int32) (v4 : Int32) (v5 : Int32) (g : zG), r0 < 3 →  k53 r0 v1 v4 v5 g = some (rr, gr) → V X p l e (zrm 2) s m args below meth c 6 0 0 (MQ below (zQ X (Option.map (zM X) (some (.inl rr))) gr) args s 0 0 (zF X)) g 53 [some (.inr (.inl (3, r0))), some (.inl v1), none, none, some (.inl v4), some (.inl v5)] []) (hM : X3_ask_b94 k53 r0 v1 v4 v5 g = some (rr, gr)) : V X p l e (zrm 2) s m args below meth c 6 0 0 (MQ below (zQ X (Option.map (zM X) (some (.inl rr))) gr) args s 0 0 (zF X)) g 94 [some (.inr (.inl (3, r0))), some (.inl v1), none, none, some (.inl v4), some (.inl v5)] [] := by
  unfold X3_ask_b94 at hM
  refine v_iinc (L' := [some (.inr (.inl (3, r0))), some (.inl v1), none, none, some (.inl v4), some (.inl (v5 + (nI 1)))]) C 5 (nI 1) dX3_ask_94 zk_1 (by decide) rfl rfl ?_
  refine v_goto C 53 dX3_ask_97 rfl ?_
  exact hk53 r0 v1 v4 (v5 + (nI 1)) g hb_r0 hM

theorem t_X3_ask_l53 {k100 : Nat → Int32 → zG → Option (Int32 × zG)} (hX : zfl X = false) (C : Cx X p (zrm 2) s m args meth c cX3_ask 6 RX3 0 0) (hr : meth.sig.returnType = (some .int)) (hk100 : ∀ (r0 : Nat) (v4 : Int32) (g : zG), r0 < 3 →  k100 r0 v4 g = some (rr, gr) → V X p l e (zrm 2) s m args below meth c 6 0 0 (MQ below (zQ X (Option.map (zM X) (some (.inl rr))) gr) args s 0 0 (zF X)) g 100 [some (.inr (.inl (3, r0))), none, none, none, some (.inl v4), none] []) : ∀ (n : Nat) {r0 : Nat} {v1 : Int32} {v4 : Int32} {v5 : Int32} (g : zG), r0 < 3 → X3_ask_l53 k100 n r0 v1 v4 v5 g = some (rr, gr) → V X p l e (zrm 2) s m args below meth c 6 0 0 (MQ below (zQ X (Option.map (zM X) (some (.inl rr))) gr) args s 0 0 (zF X)) g 53 [some (.inr (.inl (3, r0))), some (.inl v1), none, none, some (.inl v4), some (.inl v5)] [] := by
  intro n
  induction n with
  | zero =>
    intro r0 v1 v4 v5 g hb_r0 hM
    exact absurd (show (none : Option (Int32 × zG)) = some (rr, gr) from hM) (by simp)
  | succ n ih =>
    intro r0 v1 v4 v5 g hb_r0 hM
    rw [X3_ask_l53.eq_2] at hM
    refine v_iload C 5 dX3_ask_53 rfl ?_
    refine v_iconst C (nI 4) dX3_ask_55 zk_4 ?_
    refine v_icmp_ge C 100 dX3_ask_56 rfl hM (fun hM => ?_) (fun hM => ?_)
    · exact v_weak (hk100 r0 v4 g hb_r0 hM) (show zsub [some (.inr (.inl (3, r0))), none, none, none, some (.inl v4), none] [some (.inr (.inl (3, r0))), some (.inl v1), none, none, some (.inl v4), some (.inl v5)] from ⟨rfl, ⟨rfl, trivial⟩⟩)
    · refine v_iload C 4 dX3_ask_59 rfl ?_
      refine v_iload C 5 dX3_ask_61 rfl ?_
      refine v_ishr C dX3_ask_63 ?_
      refine v_iconst C (nI 1) dX3_ask_64 zk_1 ?_
      refine v_iand C dX3_ask_65 ?_
      refine v_iconst C (nI 1) dX3_ask_66 zk_1 ?_
      refine v_icmp_ne C 94 dX3_ask_67 rfl hM (fun hM => ?_) (fun hM => ?_)
      · exact t_X3_ask_b94 hX C hr hb_r0 (fun r0 v1 v4 v5 g hb_r0 hM => ih g hb_r0 hM) hM
      · refine v_aload_n C 0 dX3_ask_70 rfl rfl ?_
        refine gf_RX3_23 C hX hb_r0 dX3_ask_71 ?_
        refine v_iload C 5 dX3_ask_74 rfl ?_
        refine aa_19 C hX hb_r0 dX3_ask_76 hM (fun hM hj1 => ?_)
        have hb2 : (4 * r0 + v5.toNatClampNeg) < 12 := zix hb_r0 hj1
        refine gf_RX3_154 C hX hb2 dX3_ask_77 ?_
        refine v_aload_n C 0 dX3_ask_80 rfl rfl ?_
        refine gf_RX3_23 C hX hb_r0 dX3_ask_81 ?_
        refine v_iload_n C 1 dX3_ask_84 rfl rfl ?_
        refine aa_19 C hX hb_r0 dX3_ask_85 hM (fun hM hj3 => ?_)
        have hb4 : (4 * r0 + v1.toNatClampNeg) < 12 := zix hb_r0 hj3
        refine gf_RX3_154 C hX hb4 dX3_ask_86 ?_
        refine v_icmp_gt C 94 dX3_ask_89 rfl hM (fun hM => ?_) (fun hM => ?_)
        · exact t_X3_ask_b94 hX C hr hb_r0 (fun r0 v1 v4 v5 g hb_r0 hM => ih g hb_r0 hM) hM
        · refine v_iconst C (nI 2) dX3_ask_92 zk_2 ?_
          exact v_iret2 C hr dX3_ask_93 hM

theorem t_X3_ask_b12 {r0 : Nat} {v1 : Int32} {q0 : Nat} {s1 : Int32} {s2 : Int32} {s3 : Int32}  {g : zG} (hX : zfl X = false) (C : Cx X p (zrm 2) s m args meth c cX3_ask 6 RX3 0 0) (hr : meth.sig.returnType = (some .int)) (hb_r0 : r0 < 3) (hb_q0 : q0 < 3)  (hM : X3_ask_b12  r0 v1 q0 s1 s2 s3 g = some (rr, gr)) : V X p l e (zrm 2) s m args below meth c 6 0 0 (MQ below (zQ X (Option.map (zM X) (some (.inl rr))) gr) args s 0 0 (zF X)) g 12 [some (.inr (.inl (3, r0))), some (.inl v1), none, none, none, none] [(.inl s3), (.inl s2), (.inl s1), (.inr (.inl (3, q0)))] := by
  unfold X3_ask_b12 at hM
  obtain ⟨x1, g2, e3, hM⟩ := zc_elim hM
  refine v_callVi (ci := 3) (rest := []) C (c_X3_marking hX hb_q0 e3) mw_X3_marking mi_X3_marking ml_RX3_144 hX.symm (zm3 hb_q0) rfl rfl ⟨by decide, Nat.le_of_ble_eq_true rfl⟩ rfl (Nat.le_of_ble_eq_true rfl) dX3_ask_12 rfl ?_
  refine v_istore (L' := [some (.inr (.inl (3, r0))), some (.inl v1), none, none, some (.inl x1), none]) C 4 dX3_ask_15 (by decide) rfl ?_
  refine v_iload C 4 dX3_ask_17 rfl ?_
  refine v_if_ne C 24 dX3_ask_19 rfl hM (fun hM => ?_) (fun hM => ?_)
  · refine v_aload_n C 0 dX3_ask_24 rfl rfl ?_
    refine gf_RX3_41 C hX hb_r0 dX3_ask_25 ?_
    refine v_iconst C (nI 2) dX3_ask_28 zk_2 ?_
    refine v_icmp_ne C 42 dX3_ask_29 rfl hM (fun hM => ?_) (fun hM => ?_)
    · refine v_aload_n C 0 dX3_ask_42 rfl rfl ?_
      refine gf_RX3_41 C hX hb_r0 dX3_ask_43 ?_
      refine v_iconst C (nI 1) dX3_ask_46 zk_1 ?_
      refine v_icmp_ne C 100 dX3_ask_47 rfl hM (fun hM => ?_) (fun hM => ?_)
      · exact v_weak (t_X3_ask_b100 hX C hr hb_r0  hM) (show zsub [some (.inr (.inl (3, r0))), none, none, none, some (.inl x1), none] [some (.inr (.inl (3, r0))), some (.inl v1), none, none, some (.inl x1), none] from ⟨rfl, ⟨rfl, trivial⟩⟩)
      · refine v_iconst C (nI 0) dX3_ask_50 zk_0 ?_
        refine v_istore (L' := [some (.inr (.inl (3, r0))), some (.inl v1), none, none, some (.inl x1), some (.inl (nI 0))]) C 5 dX3_ask_51 (by decide) rfl ?_
        exact t_X3_ask_l53 hX C hr (by intro r0 v4 g hb_r0 hM; exact t_X3_ask_b100 hX C hr hb_r0  hM) _ g2 hb_r0 hM
    · refine v_aload_n C 0 dX3_ask_32 rfl rfl ?_
      refine v_iconst C (nI 1) dX3_ask_33 zk_1 ?_
      refine v_iload_n C 1 dX3_ask_34 rfl rfl ?_
      refine v_ishl C dX3_ask_35 ?_
      refine v_iconst C (nI 0) dX3_ask_36 zk_0 ?_
      obtain ⟨x4, g5, e6, hM⟩ := zc_elim hM
      refine v_callVv (ci := 3) (rest := []) C (c_X3_endTries hX hb_r0 e6) mw_X3_endTries mi_X3_endTries ml_RX3_147 hX.symm (zm3 hb_r0) rfl rfl ⟨by decide, Nat.le_of_ble_eq_true rfl⟩ rfl (Nat.le_of_ble_eq_true rfl) dX3_ask_37 rfl ?_
      refine v_iconst C (nI 3) dX3_ask_40 zk_3 ?_
      exact v_iret2 C hr dX3_ask_41 hM
  · refine v_iconst C (nI 1) dX3_ask_22 zk_1 ?_
    exact v_iret2 C hr dX3_ask_23 hM

theorem c_X3_ask {X : zX} (hX : zfl X = false) {r0 : Nat} {v1 : Int32} {v2 : Int32} {v3 : Int32} {g gr : zG} {rr : Int32} (hb_r0 : r0 < 3) (hM : X3_ask r0 v1 v2 v3 g = some (rr, gr)) : MC X yX3_ask cX3_ask 6 (some .int) 2 [.inr (.inl (3, r0)), .inl v1, .inl v2, .inl v3] (some (.inl rr)) g gr := by
  refine MC.mk (own := RX3) (L := [some (.inr (.inl (3, r0))), some (.inl v1), some (.inl v2), some (.inl v3), none, none]) (by decide) rfl trivial (Nat.le_of_ble_eq_true rfl) rfl ?_
  intro p l e s m args below meth c C hr
  unfold X3_ask at hM
  refine v_aload_n C 0 dX3_ask_0 rfl rfl ?_
  refine v_iload_n C 1 dX3_ask_1 rfl rfl ?_
  refine v_iload_n C 2 dX3_ask_2 rfl rfl ?_
  refine v_iload_n C 3 dX3_ask_3 rfl rfl ?_
  refine v_if_ne C 11 dX3_ask_4 rfl hM (fun hM => ?_) (fun hM => ?_)
  · refine v_iconst C (nI 0) dX3_ask_11 zk_0 ?_
    exact v_weak (t_X3_ask_b12 hX C hr hb_r0 hb_r0  hM) (show zsub [some (.inr (.inl (3, r0))), some (.inl v1), none, none, none, none] [some (.inr (.inl (3, r0))), some (.inl v1), some (.inl v2), some (.inl v3), none, none] from ⟨rfl, ⟨rfl, trivial⟩⟩)
  · refine v_iconst C (nI 1) dX3_ask_7 zk_1 ?_
    refine v_goto C 12 dX3_ask_8 rfl ?_
    exact v_weak (t_X3_ask_b12 hX C hr hb_r0 hb_r0  hM) (show zsub [some (.inr (.inl (3, r0))), some (.inl v1), none, none, none, none] [some (.inr (.inl (3, r0))), some (.inl v1), some (.inl v2), some (.inl v3), none, none] from ⟨rfl, ⟨rfl, trivial⟩⟩)

theorem t_X3_writeBack_b67 {r0 : Nat} {r1 : Nat} {v2 : Int32} {v3 : Int32} {k13 : Nat → Nat → Int32 → Int32 → zG → Option (Int32 × zG)} {g : zG} (hX : zfl X = false) (C : Cx X p (zrm 1) s m args meth c cX3_writeBack 5 RX3 0 0) (hr : meth.sig.returnType = none) (hb_r0 : r0 < 3) (hb_r1 : r1 < 12) (hk13 : ∀ (r0 : Nat) (r1 : Nat) (v2 : Int32) (v3 : Int32) (g : zG), r0 < 3 → r1 < 12 →  k13 r0 r1 v2 v3 g = some (rr, gr) → V X p l e (zrm 1) s m args below meth c 5 0 0 (MQ below (zQ X (Option.map (zM X) none) gr) args s 0 0 (zF X)) g 13 [some (.inr (.inl (3, r0))), some (.inr (.inl (4, r1))), some (.inl v2), some (.inl v3), none] []) (hM : X3_writeBack_b67 k13 r0 r1 v2 v3 g = some (rr, gr)) : V X p l e (zrm 1) s m args below meth c 5 0 0 (MQ below (zQ X (Option.map (zM X) none) gr) args s 0 0 (zF X)) g 67 [some (.inr (.inl (3, r0))), some (.inr (.inl (4, r1))), some (.inl v2), some (.inl v3), none] [] := by
  unfold X3_writeBack_b67 at hM
  refine v_iinc (L' := [some (.inr (.inl (3, r0))), some (.inr (.inl (4, r1))), some (.inl v2), some (.inl (v3 + (nI 1))), none]) C 3 (nI 1) dX3_writeBack_67 zk_1 (by decide) rfl rfl ?_
  refine v_goto C 13 dX3_writeBack_70 rfl ?_
  exact hk13 r0 r1 v2 (v3 + (nI 1)) g hb_r0 hb_r1 hM

theorem t_X3_writeBack_l13  (hX : zfl X = false) (C : Cx X p (zrm 1) s m args meth c cX3_writeBack 5 RX3 0 0) (hr : meth.sig.returnType = none)  : ∀ (n : Nat) {r0 : Nat} {r1 : Nat} {v2 : Int32} {v3 : Int32} (g : zG), r0 < 3 → r1 < 12 → X3_writeBack_l13  n r0 r1 v2 v3 g = some (rr, gr) → V X p l e (zrm 1) s m args below meth c 5 0 0 (MQ below (zQ X (Option.map (zM X) none) gr) args s 0 0 (zF X)) g 13 [some (.inr (.inl (3, r0))), some (.inr (.inl (4, r1))), some (.inl v2), some (.inl v3), none] [] := by
  intro n
  induction n with
  | zero =>
    intro r0 r1 v2 v3 g hb_r0 hb_r1 hM
    exact absurd (show (none : Option (Int32 × zG)) = some (rr, gr) from hM) (by simp)
  | succ n ih =>
    intro r0 r1 v2 v3 g hb_r0 hb_r1 hM
    rw [X3_writeBack_l13.eq_2] at hM
    refine v_iload_n C 3 dX3_writeBack_13 rfl rfl ?_
    refine v_aload_n C 0 dX3_writeBack_14 rfl rfl ?_
    refine gf_RX3_33 C hX hb_r0 dX3_writeBack_15 ?_
    refine gf_RX3_220 C hX (by decide) dX3_writeBack_18 ?_
    refine v_icmp_ge C 73 dX3_writeBack_21 rfl hM (fun hM => ?_) (fun hM => ?_)
    · refine v_aload_n C 0 dX3_writeBack_73 rfl rfl ?_
      refine gf_RX3_27 C hX hb_r0 dX3_writeBack_74 ?_
      refine v_iconst C (nI 1) dX3_writeBack_77 zk_1 ?_
      refine v_dup2 C dX3_writeBack_78 ?_
      refine ia_20 C hX hb_r0 dX3_writeBack_79 hM (fun hM _ => ?_)
      refine v_iconst C (nI 1) dX3_writeBack_80 zk_1 ?_
      refine v_iadd C dX3_writeBack_81 ?_
      refine is_20 C hX hb_r0 dX3_writeBack_82 hM (fun g1 hM => ?_)
      exact v_vret2 C hr dX3_writeBack_83 hM
    · refine v_aload_n C 1 dX3_writeBack_24 rfl rfl ?_
      refine gf_RX3_217 C hX hb_r1 dX3_writeBack_25 ?_
      refine v_iload_n C 2 dX3_writeBack_28 rfl rfl ?_
      refine ia_22 C hX hb_r1 dX3_writeBack_29 hM (fun hM _ => ?_)
      refine v_aload_n C 0 dX3_writeBack_30 rfl rfl ?_
      refine gf_RX3_33 C hX hb_r0 dX3_writeBack_31 ?_
      refine gf_RX3_220 C hX (by decide) dX3_writeBack_34 ?_
      refine v_imul C dX3_writeBack_37 ?_
      refine v_iload_n C 3 dX3_writeBack_38 rfl rfl ?_
      refine v_iadd C dX3_writeBack_39 ?_
      refine v_istore (L' := [some (.inr (.inl (3, r0))), some (.inr (.inl (4, r1))), some (.inl v2), some (.inl v3), some (.inl (((g 22 r1 v2.toNatClampNeg) * (g 3001 0 0)) + v3))]) C 4 dX3_writeBack_40 (by decide) rfl ?_
      refine v_iload C 4 dX3_writeBack_42 rfl ?_
      refine v_if_lt C 67 dX3_writeBack_44 rfl hM (fun hM => ?_) (fun hM => ?_)
      · exact v_weak (t_X3_writeBack_b67 hX C hr hb_r0 hb_r1 (fun r0 r1 v2 v3 g hb_r0 hb_r1 hM => ih g hb_r0 hb_r1 hM) hM) (show zsub [some (.inr (.inl (3, r0))), some (.inr (.inl (4, r1))), some (.inl v2), some (.inl v3), none] [some (.inr (.inl (3, r0))), some (.inr (.inl (4, r1))), some (.inl v2), some (.inl v3), some (.inl (((g 22 r1 v2.toNatClampNeg) * (g 3001 0 0)) + v3))] from ⟨rfl, ⟨rfl, ⟨rfl, ⟨rfl, trivial⟩⟩⟩⟩)
      · refine v_iload C 4 dX3_writeBack_47 rfl ?_
        refine v_bipush C (nI 68) dX3_writeBack_49 zkb_68 ?_
        refine v_icmp_ge C 67 dX3_writeBack_51 rfl hM (fun hM => ?_) (fun hM => ?_)
        · exact v_weak (t_X3_writeBack_b67 hX C hr hb_r0 hb_r1 (fun r0 r1 v2 v3 g hb_r0 hb_r1 hM => ih g hb_r0 hb_r1 hM) hM) (show zsub [some (.inr (.inl (3, r0))), some (.inr (.inl (4, r1))), some (.inl v2), some (.inl v3), none] [some (.inr (.inl (3, r0))), some (.inr (.inl (4, r1))), some (.inl v2), some (.inl v3), some (.inl (((g 22 r1 v2.toNatClampNeg) * (g 3001 0 0)) + v3))] from ⟨rfl, ⟨rfl, ⟨rfl, ⟨rfl, trivial⟩⟩⟩⟩)
        · refine v_aload_n C 0 dX3_writeBack_54 rfl rfl ?_
          refine gf_RX3_9 C hX hb_r0 dX3_writeBack_55 ?_
          refine v_iload C 4 dX3_writeBack_58 rfl ?_
          refine v_aload_n C 1 dX3_writeBack_60 rfl rfl ?_
          refine v_iload_n C 2 dX3_writeBack_61 rfl rfl ?_
          refine v_iload_n C 3 dX3_writeBack_62 rfl rfl ?_
          obtain ⟨x2, g3, e4, hM⟩ := zc_elim hM
          refine v_callVNi (ci := 0) (rest := [(.inl (((g 22 r1 v2.toNatClampNeg) * (g 3001 0 0)) + v3)), (.inr (.inl (17, r0)))]) C (c_X0_wordIn hX hb_r1 e4) mw_X0_wordIn mi_X0_wordIn ml_RX3_171 hX.symm (zm4 hb_r1) rfl rfl ⟨by decide, Nat.le_of_ble_eq_true rfl⟩ rfl (Nat.le_of_ble_eq_true rfl) dX3_writeBack_63 rfl ?_
          refine is_17 C hX hb_r0 dX3_writeBack_66 hM (fun g5 hM => ?_)
          exact v_weak (t_X3_writeBack_b67 hX C hr hb_r0 hb_r1 (fun r0 r1 v2 v3 g hb_r0 hb_r1 hM => ih g hb_r0 hb_r1 hM) hM) (show zsub [some (.inr (.inl (3, r0))), some (.inr (.inl (4, r1))), some (.inl v2), some (.inl v3), none] [some (.inr (.inl (3, r0))), some (.inr (.inl (4, r1))), some (.inl v2), some (.inl v3), some (.inl (((g 22 r1 v2.toNatClampNeg) * (g 3001 0 0)) + v3))] from ⟨rfl, ⟨rfl, ⟨rfl, ⟨rfl, trivial⟩⟩⟩⟩)

theorem c_X3_writeBack {X : zX} (hX : zfl X = false) {r0 : Nat} {r1 : Nat} {v2 : Int32} {g gr : zG} {rr : Int32} (hb_r0 : r0 < 3) (hb_r1 : r1 < 12) (hM : X3_writeBack r0 r1 v2 g = some (rr, gr)) : MC X yX3_writeBack cX3_writeBack 5 none 1 [.inr (.inl (3, r0)), .inr (.inl (4, r1)), .inl v2] none g gr := by
  refine MC.mk (own := RX3) (L := [some (.inr (.inl (3, r0))), some (.inr (.inl (4, r1))), some (.inl v2), none, none]) (by decide) rfl trivial (Nat.le_of_ble_eq_true rfl) rfl ?_
  intro p l e s m args below meth c C hr
  unfold X3_writeBack at hM
  refine v_iload_n C 2 dX3_writeBack_0 rfl rfl ?_
  refine v_if_lt C 10 dX3_writeBack_1 rfl hM (fun hM => ?_) (fun hM => ?_)
  · exact v_vret2 C hr dX3_writeBack_10 hM
  · refine v_iload_n C 2 dX3_writeBack_4 rfl rfl ?_
    refine v_bipush C (nI 16) dX3_writeBack_5 zkb_16 ?_
    refine v_icmp_lt C 11 dX3_writeBack_7 rfl hM (fun hM => ?_) (fun hM => ?_)
    · refine v_iconst C (nI 0) dX3_writeBack_11 zk_0 ?_
      refine v_istore_n (L' := [some (.inr (.inl (3, r0))), some (.inr (.inl (4, r1))), some (.inl v2), some (.inl (nI 0)), none]) C 3 dX3_writeBack_12 rfl (by decide) rfl ?_
      exact t_X3_writeBack_l13 hX C hr  _ g hb_r0 hb_r1 hM
    · exact v_vret2 C hr dX3_writeBack_10 hM

theorem t_X3_changeOthers_b120 {r0 : Nat} {v1 : Int32} {v2 : Int32} {v3 : Int32} {v4 : Int32} {v5 : Int32} {k6 : Nat → Int32 → Int32 → Int32 → Int32 → Int32 → zG → Option (Int32 × zG)} {g : zG} (hX : zfl X = false) (C : Cx X p (zrm 2) s m args meth c cX3_changeOthers 7 RX3 0 0) (hr : meth.sig.returnType = (some .boolean)) (hb_r0 : r0 < 3) (hk6 : ∀ (r0 : Nat) (v1 : Int32) (v2 : Int32) (v3 : Int32) (v4 : Int32) (v5 : Int32) (g : zG), r0 < 3 →  k6 r0 v1 v2 v3 v4 v5 g = some (rr, gr) → V X p l e (zrm 2) s m args below meth c 7 0 0 (MQ below (zQ X (Option.map (zM X) (some (.inl rr))) gr) args s 0 0 (zF X)) g 6 [some (.inr (.inl (3, r0))), some (.inl v1), some (.inl v2), some (.inl v3), some (.inl v4), some (.inl v5), none] []) (hM : X3_changeOthers_b120 k6 r0 v1 v2 v3 v4 v5 g = some (rr, gr)) : V X p l e (zrm 2) s m args below meth c 7 0 0 (MQ below (zQ X (Option.map (zM X) (some (.inl rr))) gr) args s 0 0 (zF X)) g 120 [some (.inr (.inl (3, r0))), some (.inl v1), some (.inl v2), some (.inl v3), some (.inl v4), some (.inl v5), none] [] := by
  unfold X3_changeOthers_b120 at hM
  refine v_iinc (L' := [some (.inr (.inl (3, r0))), some (.inl v1), some (.inl v2), some (.inl v3), some (.inl v4), some (.inl (v5 + (nI 1))), none]) C 5 (nI 1) dX3_changeOthers_120 zk_1 (by decide) rfl rfl ?_
  refine v_goto C 6 dX3_changeOthers_123 rfl ?_
  exact hk6 r0 v1 v2 v3 v4 (v5 + (nI 1)) g hb_r0 hM

theorem t_X3_changeOthers_b74 {r0 : Nat} {v1 : Int32} {v2 : Int32} {v3 : Int32} {v4 : Int32} {v5 : Int32} {v6 : Int32} {k6 : Nat → Int32 → Int32 → Int32 → Int32 → Int32 → zG → Option (Int32 × zG)} {g : zG} (hX : zfl X = false) (C : Cx X p (zrm 2) s m args meth c cX3_changeOthers 7 RX3 0 0) (hr : meth.sig.returnType = (some .boolean)) (hb_r0 : r0 < 3) (hk6 : ∀ (r0 : Nat) (v1 : Int32) (v2 : Int32) (v3 : Int32) (v4 : Int32) (v5 : Int32) (g : zG), r0 < 3 →  k6 r0 v1 v2 v3 v4 v5 g = some (rr, gr) → V X p l e (zrm 2) s m args below meth c 7 0 0 (MQ below (zQ X (Option.map (zM X) (some (.inl rr))) gr) args s 0 0 (zF X)) g 6 [some (.inr (.inl (3, r0))), some (.inl v1), some (.inl v2), some (.inl v3), some (.inl v4), some (.inl v5), none] []) (hM : X3_changeOthers_b74 k6 r0 v1 v2 v3 v4 v5 v6 g = some (rr, gr)) : V X p l e (zrm 2) s m args below meth c 7 0 0 (MQ below (zQ X (Option.map (zM X) (some (.inl rr))) gr) args s 0 0 (zF X)) g 74 [some (.inr (.inl (3, r0))), some (.inl v1), some (.inl v2), some (.inl v3), some (.inl v4), some (.inl v5), some (.inl v6)] [] := by
  unfold X3_changeOthers_b74 at hM
  refine v_iload_n C 3 dX3_changeOthers_74 rfl rfl ?_
  refine v_if_eq C 103 dX3_changeOthers_75 rfl hM (fun hM => ?_) (fun hM => ?_)
  · refine v_aload_n C 0 dX3_changeOthers_103 rfl rfl ?_
    refine gf_RX3_17 C hX hb_r0 dX3_changeOthers_104 ?_
    refine v_iload C 5 dX3_changeOthers_107 rfl ?_
    refine aa_18 C hX hb_r0 dX3_changeOthers_109 hM (fun hM hj1 => ?_)
    have hb2 : (4 * r0 + v5.toNatClampNeg) < 12 := zix hb_r0 hj1
    refine gf_RX3_174 C hX hb2 dX3_changeOthers_110 ?_
    refine v_iload C 6 dX3_changeOthers_113 rfl ?_
    refine v_iconst C (nI 1) dX3_changeOthers_115 zk_1 ?_
    refine is_23 C hX hb2 dX3_changeOthers_116 hM (fun g3 hM => ?_)
    refine v_iconst C (nI 1) dX3_changeOthers_117 zk_1 ?_
    refine v_istore (L' := [some (.inr (.inl (3, r0))), some (.inl v1), some (.inl v2), some (.inl v3), some (.inl (nI 1)), some (.inl v5), some (.inl v6)]) C 4 dX3_changeOthers_118 (by decide) rfl ?_
    exact v_weak (t_X3_changeOthers_b120 hX C hr hb_r0 hk6 hM) (show zsub [some (.inr (.inl (3, r0))), some (.inl v1), some (.inl v2), some (.inl v3), some (.inl (nI 1)), some (.inl v5), none] [some (.inr (.inl (3, r0))), some (.inl v1), some (.inl v2), some (.inl v3), some (.inl (nI 1)), some (.inl v5), some (.inl v6)] from ⟨rfl, ⟨rfl, ⟨rfl, ⟨rfl, ⟨rfl, ⟨rfl, trivial⟩⟩⟩⟩⟩⟩)
  · refine v_aload_n C 0 dX3_changeOthers_78 rfl rfl ?_
    refine gf_RX3_17 C hX hb_r0 dX3_changeOthers_79 ?_
    refine v_iload C 5 dX3_changeOthers_82 rfl ?_
    refine aa_18 C hX hb_r0 dX3_changeOthers_84 hM (fun hM hj4 => ?_)
    have hb5 : (4 * r0 + v5.toNatClampNeg) < 12 := zix hb_r0 hj4
    refine v_iload C 6 dX3_changeOthers_85 rfl ?_
    obtain ⟨x6, g7, e8, hM⟩ := zc_elim hM
    refine v_callVNv (ci := 0) (rest := []) C (c_X0_dropLine hX hb5 e8) mw_X0_dropLine mi_X0_dropLine ml_RX3_199 hX.symm (zm4 hb5) rfl rfl ⟨by decide, Nat.le_of_ble_eq_true rfl⟩ rfl (Nat.le_of_ble_eq_true rfl) dX3_changeOthers_87 rfl ?_
    refine v_aload_n C 0 dX3_changeOthers_90 rfl rfl ?_
    refine gf_RX3_27 C hX hb_r0 dX3_changeOthers_91 ?_
    refine v_iconst C (nI 2) dX3_changeOthers_94 zk_2 ?_
    refine v_dup2 C dX3_changeOthers_95 ?_
    refine ia_20 C hX hb_r0 dX3_changeOthers_96 hM (fun hM _ => ?_)
    refine v_iconst C (nI 1) dX3_changeOthers_97 zk_1 ?_
    refine v_iadd C dX3_changeOthers_98 ?_
    refine is_20 C hX hb_r0 dX3_changeOthers_99 hM (fun g9 hM => ?_)
    refine v_goto C 120 dX3_changeOthers_100 rfl ?_
    exact v_weak (t_X3_changeOthers_b120 hX C hr hb_r0 hk6 hM) (show zsub [some (.inr (.inl (3, r0))), some (.inl v1), some (.inl v2), some (.inl v3), some (.inl v4), some (.inl v5), none] [some (.inr (.inl (3, r0))), some (.inl v1), some (.inl v2), some (.inl v3), some (.inl v4), some (.inl v5), some (.inl v6)] from ⟨rfl, ⟨rfl, ⟨rfl, ⟨rfl, ⟨rfl, ⟨rfl, trivial⟩⟩⟩⟩⟩⟩)

theorem t_X3_changeOthers_b33 {r0 : Nat} {v1 : Int32} {v2 : Int32} {v3 : Int32} {v4 : Int32} {v5 : Int32} {s0 : Int32} {k6 : Nat → Int32 → Int32 → Int32 → Int32 → Int32 → zG → Option (Int32 × zG)} {g : zG} (hX : zfl X = false) (C : Cx X p (zrm 2) s m args meth c cX3_changeOthers 7 RX3 0 0) (hr : meth.sig.returnType = (some .boolean)) (hb_r0 : r0 < 3) (hk6 : ∀ (r0 : Nat) (v1 : Int32) (v2 : Int32) (v3 : Int32) (v4 : Int32) (v5 : Int32) (g : zG), r0 < 3 →  k6 r0 v1 v2 v3 v4 v5 g = some (rr, gr) → V X p l e (zrm 2) s m args below meth c 7 0 0 (MQ below (zQ X (Option.map (zM X) (some (.inl rr))) gr) args s 0 0 (zF X)) g 6 [some (.inr (.inl (3, r0))), some (.inl v1), some (.inl v2), some (.inl v3), some (.inl v4), some (.inl v5), none] []) (hM : X3_changeOthers_b33 k6 r0 v1 v2 v3 v4 v5 s0 g = some (rr, gr)) : V X p l e (zrm 2) s m args below meth c 7 0 0 (MQ below (zQ X (Option.map (zM X) (some (.inl rr))) gr) args s 0 0 (zF X)) g 33 [some (.inr (.inl (3, r0))), some (.inl v1), some (.inl v2), some (.inl v3), some (.inl v4), some (.inl v5), none] [(.inl s0)] := by
  unfold X3_changeOthers_b33 at hM
  refine v_istore (L' := [some (.inr (.inl (3, r0))), some (.inl v1), some (.inl v2), some (.inl v3), some (.inl v4), some (.inl v5), some (.inl s0)]) C 6 dX3_changeOthers_33 (by decide) rfl ?_
  refine v_iload C 6 dX3_changeOthers_35 rfl ?_
  refine v_iconst C (-1) dX3_changeOthers_37 zk_m1 ?_
  refine v_icmp_ne C 44 dX3_changeOthers_38 rfl hM (fun hM => ?_) (fun hM => ?_)
  · refine v_aload_n C 0 dX3_changeOthers_44 rfl rfl ?_
    refine gf_RX3_17 C hX hb_r0 dX3_changeOthers_45 ?_
    refine v_iload C 5 dX3_changeOthers_48 rfl ?_
    refine aa_18 C hX hb_r0 dX3_changeOthers_50 hM (fun hM hj1 => ?_)
    have hb2 : (4 * r0 + v5.toNatClampNeg) < 12 := zix hb_r0 hj1
    refine gf_RX3_174 C hX hb2 dX3_changeOthers_51 ?_
    refine v_iload C 6 dX3_changeOthers_54 rfl ?_
    refine ia_23 C hX hb2 dX3_changeOthers_56 hM (fun hM _ => ?_)
    refine v_iconst C (nI 3) dX3_changeOthers_57 zk_3 ?_
    refine v_icmp_ne C 74 dX3_changeOthers_58 rfl hM (fun hM => ?_) (fun hM => ?_)
    · exact t_X3_changeOthers_b74 hX C hr hb_r0 hk6 hM
    · refine v_aload_n C 0 dX3_changeOthers_61 rfl rfl ?_
      refine v_aload_n C 0 dX3_changeOthers_62 rfl rfl ?_
      refine gf_RX3_17 C hX hb_r0 dX3_changeOthers_63 ?_
      refine v_iload C 5 dX3_changeOthers_66 rfl ?_
      refine aa_18 C hX hb_r0 dX3_changeOthers_68 hM (fun hM hj3 => ?_)
      have hb4 : (4 * r0 + v5.toNatClampNeg) < 12 := zix hb_r0 hj3
      refine v_iload C 6 dX3_changeOthers_69 rfl ?_
      obtain ⟨x5, g6, e7, hM⟩ := zc_elim hM
      refine v_callVv (ci := 3) (rest := []) C (c_X3_writeBack hX hb_r0 hb4 e7) mw_X3_writeBack mi_X3_writeBack ml_RX3_181 hX.symm (zm3 hb_r0) rfl rfl ⟨by decide, Nat.le_of_ble_eq_true rfl⟩ rfl (Nat.le_of_ble_eq_true rfl) dX3_changeOthers_71 rfl ?_
      exact t_X3_changeOthers_b74 hX C hr hb_r0 hk6 hM
  · refine v_goto C 120 dX3_changeOthers_41 rfl ?_
    exact v_weak (t_X3_changeOthers_b120 hX C hr hb_r0 hk6 hM) (show zsub [some (.inr (.inl (3, r0))), some (.inl v1), some (.inl v2), some (.inl v3), some (.inl v4), some (.inl v5), none] [some (.inr (.inl (3, r0))), some (.inl v1), some (.inl v2), some (.inl v3), some (.inl v4), some (.inl v5), some (.inl s0)] from ⟨rfl, ⟨rfl, ⟨rfl, ⟨rfl, ⟨rfl, ⟨rfl, trivial⟩⟩⟩⟩⟩⟩)

theorem t_X3_changeOthers_l6  (hX : zfl X = false) (C : Cx X p (zrm 2) s m args meth c cX3_changeOthers 7 RX3 0 0) (hr : meth.sig.returnType = (some .boolean))  : ∀ (n : Nat) {r0 : Nat} {v1 : Int32} {v2 : Int32} {v3 : Int32} {v4 : Int32} {v5 : Int32} (g : zG), r0 < 3 → X3_changeOthers_l6  n r0 v1 v2 v3 v4 v5 g = some (rr, gr) → V X p l e (zrm 2) s m args below meth c 7 0 0 (MQ below (zQ X (Option.map (zM X) (some (.inl rr))) gr) args s 0 0 (zF X)) g 6 [some (.inr (.inl (3, r0))), some (.inl v1), some (.inl v2), some (.inl v3), some (.inl v4), some (.inl v5), none] [] := by
  intro n
  induction n with
  | zero =>
    intro r0 v1 v2 v3 v4 v5 g hb_r0 hM
    exact absurd (show (none : Option (Int32 × zG)) = some (rr, gr) from hM) (by simp)
  | succ n ih =>
    intro r0 v1 v2 v3 v4 v5 g hb_r0 hM
    rw [X3_changeOthers_l6.eq_2] at hM
    refine v_iload C 5 dX3_changeOthers_6 rfl ?_
    refine v_iconst C (nI 4) dX3_changeOthers_8 zk_4 ?_
    refine v_icmp_ge C 126 dX3_changeOthers_9 rfl hM (fun hM => ?_) (fun hM => ?_)
    · refine v_iload C 4 dX3_changeOthers_126 rfl ?_
      obtain ⟨hz, hM⟩ := zbo_elim hM
      exact v_zret2 C hr (zbo_n hz) dX3_changeOthers_128 hM
    · refine v_iload C 5 dX3_changeOthers_12 rfl ?_
      refine v_iload_n C 1 dX3_changeOthers_14 rfl rfl ?_
      refine v_icmp_ne C 22 dX3_changeOthers_15 rfl hM (fun hM => ?_) (fun hM => ?_)
      · refine v_aload_n C 0 dX3_changeOthers_22 rfl rfl ?_
        refine gf_RX3_17 C hX hb_r0 dX3_changeOthers_23 ?_
        refine v_iload C 5 dX3_changeOthers_26 rfl ?_
        refine aa_18 C hX hb_r0 dX3_changeOthers_28 hM (fun hM hj1 => ?_)
        have hb2 : (4 * r0 + v5.toNatClampNeg) < 12 := zix hb_r0 hj1
        refine v_iload_n C 2 dX3_changeOthers_29 rfl rfl ?_
        obtain ⟨x3, g4, e5, hM⟩ := zc_elim hM
        refine v_callVNi (ci := 0) (rest := []) C (c_X0_find hX hb2 e5) mw_X0_find mi_X0_find ml_RX3_165 hX.symm (zm4 hb2) rfl rfl ⟨by decide, Nat.le_of_ble_eq_true rfl⟩ rfl (Nat.le_of_ble_eq_true rfl) dX3_changeOthers_30 rfl ?_
        exact t_X3_changeOthers_b33 hX C hr hb_r0 (fun r0 v1 v2 v3 v4 v5 g hb_r0 hM => ih g hb_r0 hM) hM
      · refine v_iconst C (-1) dX3_changeOthers_18 zk_m1 ?_
        refine v_goto C 33 dX3_changeOthers_19 rfl ?_
        exact t_X3_changeOthers_b33 hX C hr hb_r0 (fun r0 v1 v2 v3 v4 v5 g hb_r0 hM => ih g hb_r0 hM) hM

theorem c_X3_changeOthers {X : zX} (hX : zfl X = false) {r0 : Nat} {v1 : Int32} {v2 : Int32} {v3 : Int32} {g gr : zG} {rr : Int32} (hb_r0 : r0 < 3) (hM : X3_changeOthers r0 v1 v2 v3 g = some (rr, gr)) : MC X yX3_changeOthers cX3_changeOthers 7 (some .boolean) 2 [.inr (.inl (3, r0)), .inl v1, .inl v2, .inl v3] (some (.inl rr)) g gr := by
  refine MC.mk (own := RX3) (L := [some (.inr (.inl (3, r0))), some (.inl v1), some (.inl v2), some (.inl v3), none, none, none]) (by decide) rfl trivial (Nat.le_of_ble_eq_true rfl) rfl ?_
  intro p l e s m args below meth c C hr
  unfold X3_changeOthers at hM
  refine v_iconst C (nI 0) dX3_changeOthers_0 zk_0 ?_
  refine v_istore (L' := [some (.inr (.inl (3, r0))), some (.inl v1), some (.inl v2), some (.inl v3), some (.inl (nI 0)), none, none]) C 4 dX3_changeOthers_1 (by decide) rfl ?_
  refine v_iconst C (nI 0) dX3_changeOthers_3 zk_0 ?_
  refine v_istore (L' := [some (.inr (.inl (3, r0))), some (.inl v1), some (.inl v2), some (.inl v3), some (.inl (nI 0)), some (.inl (nI 0)), none]) C 5 dX3_changeOthers_4 (by decide) rfl ?_
  exact t_X3_changeOthers_l6 hX C hr  _ g hb_r0 hM

theorem t_X3_bringLine_b63 {r0 : Nat} {r1 : Nat} {v2 : Int32} {v3 : Int32} {v4 : Int32} {q0 : Nat} {s1 : Int32} {s2 : Int32} {s3 : Int32} {k10 : Nat → Nat → Int32 → Int32 → Int32 → zG → Option (Int32 × zG)} {g : zG} (hX : zfl X = false) (C : Cx X p (zrm 1) s m args meth c cX3_bringLine 6 RX3 0 0) (hr : meth.sig.returnType = none) (hb_r0 : r0 < 3) (hb_r1 : r1 < 12) (hb_q0 : q0 < 12) (hk10 : ∀ (r0 : Nat) (r1 : Nat) (v2 : Int32) (v3 : Int32) (v4 : Int32) (g : zG), r0 < 3 → r1 < 12 →  k10 r0 r1 v2 v3 v4 g = some (rr, gr) → V X p l e (zrm 1) s m args below meth c 6 0 0 (MQ below (zQ X (Option.map (zM X) none) gr) args s 0 0 (zF X)) g 10 [some (.inr (.inl (3, r0))), some (.inr (.inl (4, r1))), some (.inl v2), some (.inl v3), some (.inl v4), none] []) (hM : X3_bringLine_b63 k10 r0 r1 v2 v3 v4 q0 s1 s2 s3 g = some (rr, gr)) : V X p l e (zrm 1) s m args below meth c 6 0 0 (MQ below (zQ X (Option.map (zM X) none) gr) args s 0 0 (zF X)) g 63 [some (.inr (.inl (3, r0))), some (.inr (.inl (4, r1))), some (.inl v2), some (.inl v3), some (.inl v4), none] [(.inl s3), (.inl s2), (.inl s1), (.inr (.inl (4, q0)))] := by
  unfold X3_bringLine_b63 at hM
  obtain ⟨x1, g2, e3, hM⟩ := zc_elim hM
  refine v_callVNv (ci := 0) (rest := []) C (c_X0_setWord hX hb_q0 e3) mw_X0_setWord mi_X0_setWord ml_RX3_185 hX.symm (zm4 hb_q0) rfl rfl ⟨by decide, Nat.le_of_ble_eq_true rfl⟩ rfl (Nat.le_of_ble_eq_true rfl) dX3_bringLine_63 rfl ?_
  refine v_iinc (L' := [some (.inr (.inl (3, r0))), some (.inr (.inl (4, r1))), some (.inl v2), some (.inl v3), some (.inl (v4 + (nI 1))), none]) C 4 (nI 1) dX3_bringLine_66 zk_1 (by decide) rfl rfl ?_
  refine v_goto C 10 dX3_bringLine_69 rfl ?_
  exact hk10 r0 r1 v2 v3 (v4 + (nI 1)) g2 hb_r0 hb_r1 hM

theorem t_X3_bringLine_b62 {r0 : Nat} {r1 : Nat} {v2 : Int32} {v3 : Int32} {v4 : Int32} {q0 : Nat} {s1 : Int32} {s2 : Int32} {k10 : Nat → Nat → Int32 → Int32 → Int32 → zG → Option (Int32 × zG)} {g : zG} (hX : zfl X = false) (C : Cx X p (zrm 1) s m args meth c cX3_bringLine 6 RX3 0 0) (hr : meth.sig.returnType = none) (hb_r0 : r0 < 3) (hb_r1 : r1 < 12) (hb_q0 : q0 < 12) (hk10 : ∀ (r0 : Nat) (r1 : Nat) (v2 : Int32) (v3 : Int32) (v4 : Int32) (g : zG), r0 < 3 → r1 < 12 →  k10 r0 r1 v2 v3 v4 g = some (rr, gr) → V X p l e (zrm 1) s m args below meth c 6 0 0 (MQ below (zQ X (Option.map (zM X) none) gr) args s 0 0 (zF X)) g 10 [some (.inr (.inl (3, r0))), some (.inr (.inl (4, r1))), some (.inl v2), some (.inl v3), some (.inl v4), none] []) (hM : X3_bringLine_b62 k10 r0 r1 v2 v3 v4 q0 s1 s2 g = some (rr, gr)) : V X p l e (zrm 1) s m args below meth c 6 0 0 (MQ below (zQ X (Option.map (zM X) none) gr) args s 0 0 (zF X)) g 62 [some (.inr (.inl (3, r0))), some (.inr (.inl (4, r1))), some (.inl v2), some (.inl v3), some (.inl v4), none] [(.inl s2), (.inl s1), (.inr (.inl (4, q0)))] := by
  unfold X3_bringLine_b62 at hM
  refine v_iconst C (nI 0) dX3_bringLine_62 zk_0 ?_
  exact t_X3_bringLine_b63 hX C hr hb_r0 hb_r1 hb_q0 hk10 hM

theorem t_X3_bringLine_l10  (hX : zfl X = false) (C : Cx X p (zrm 1) s m args meth c cX3_bringLine 6 RX3 0 0) (hr : meth.sig.returnType = none)  : ∀ (n : Nat) {r0 : Nat} {r1 : Nat} {v2 : Int32} {v3 : Int32} {v4 : Int32} (g : zG), r0 < 3 → r1 < 12 → X3_bringLine_l10  n r0 r1 v2 v3 v4 g = some (rr, gr) → V X p l e (zrm 1) s m args below meth c 6 0 0 (MQ below (zQ X (Option.map (zM X) none) gr) args s 0 0 (zF X)) g 10 [some (.inr (.inl (3, r0))), some (.inr (.inl (4, r1))), some (.inl v2), some (.inl v3), some (.inl v4), none] [] := by
  intro n
  induction n with
  | zero =>
    intro r0 r1 v2 v3 v4 g hb_r0 hb_r1 hM
    exact absurd (show (none : Option (Int32 × zG)) = some (rr, gr) from hM) (by simp)
  | succ n ih =>
    intro r0 r1 v2 v3 v4 g hb_r0 hb_r1 hM
    rw [X3_bringLine_l10.eq_2] at hM
    refine v_iload C 4 dX3_bringLine_10 rfl ?_
    refine v_aload_n C 0 dX3_bringLine_12 rfl rfl ?_
    refine gf_RX3_33 C hX hb_r0 dX3_bringLine_13 ?_
    refine gf_RX3_220 C hX (by decide) dX3_bringLine_16 ?_
    refine v_icmp_ge C 72 dX3_bringLine_19 rfl hM (fun hM => ?_) (fun hM => ?_)
    · refine v_aload_n C 0 dX3_bringLine_72 rfl rfl ?_
      refine gf_RX3_27 C hX hb_r0 dX3_bringLine_73 ?_
      refine v_iconst C (nI 0) dX3_bringLine_76 zk_0 ?_
      refine v_dup2 C dX3_bringLine_77 ?_
      refine ia_20 C hX hb_r0 dX3_bringLine_78 hM (fun hM _ => ?_)
      refine v_iconst C (nI 1) dX3_bringLine_79 zk_1 ?_
      refine v_iadd C dX3_bringLine_80 ?_
      refine is_20 C hX hb_r0 dX3_bringLine_81 hM (fun g1 hM => ?_)
      exact v_vret2 C hr dX3_bringLine_82 hM
    · refine v_iload_n C 3 dX3_bringLine_22 rfl rfl ?_
      refine v_aload_n C 0 dX3_bringLine_23 rfl rfl ?_
      refine gf_RX3_33 C hX hb_r0 dX3_bringLine_24 ?_
      refine gf_RX3_220 C hX (by decide) dX3_bringLine_27 ?_
      refine v_imul C dX3_bringLine_30 ?_
      refine v_iload C 4 dX3_bringLine_31 rfl ?_
      refine v_iadd C dX3_bringLine_33 ?_
      refine v_istore (L' := [some (.inr (.inl (3, r0))), some (.inr (.inl (4, r1))), some (.inl v2), some (.inl v3), some (.inl v4), some (.inl ((v3 * (g 3001 0 0)) + v4))]) C 5 dX3_bringLine_34 (by decide) rfl ?_
      refine v_aload_n C 1 dX3_bringLine_36 rfl rfl ?_
      refine v_iload_n C 2 dX3_bringLine_37 rfl rfl ?_
      refine v_iload C 4 dX3_bringLine_38 rfl ?_
      refine v_iload C 5 dX3_bringLine_40 rfl ?_
      refine v_if_lt C 62 dX3_bringLine_42 rfl hM (fun hM => ?_) (fun hM => ?_)
      · exact v_weak (t_X3_bringLine_b62 hX C hr hb_r0 hb_r1 hb_r1 (fun r0 r1 v2 v3 v4 g hb_r0 hb_r1 hM => ih g hb_r0 hb_r1 hM) hM) (show zsub [some (.inr (.inl (3, r0))), some (.inr (.inl (4, r1))), some (.inl v2), some (.inl v3), some (.inl v4), none] [some (.inr (.inl (3, r0))), some (.inr (.inl (4, r1))), some (.inl v2), some (.inl v3), some (.inl v4), some (.inl ((v3 * (g 3001 0 0)) + v4))] from ⟨rfl, ⟨rfl, ⟨rfl, ⟨rfl, ⟨rfl, trivial⟩⟩⟩⟩⟩)
      · refine v_iload C 5 dX3_bringLine_45 rfl ?_
        refine v_bipush C (nI 68) dX3_bringLine_47 zkb_68 ?_
        refine v_icmp_ge C 62 dX3_bringLine_49 rfl hM (fun hM => ?_) (fun hM => ?_)
        · exact v_weak (t_X3_bringLine_b62 hX C hr hb_r0 hb_r1 hb_r1 (fun r0 r1 v2 v3 v4 g hb_r0 hb_r1 hM => ih g hb_r0 hb_r1 hM) hM) (show zsub [some (.inr (.inl (3, r0))), some (.inr (.inl (4, r1))), some (.inl v2), some (.inl v3), some (.inl v4), none] [some (.inr (.inl (3, r0))), some (.inr (.inl (4, r1))), some (.inl v2), some (.inl v3), some (.inl v4), some (.inl ((v3 * (g 3001 0 0)) + v4))] from ⟨rfl, ⟨rfl, ⟨rfl, ⟨rfl, ⟨rfl, trivial⟩⟩⟩⟩⟩)
        · refine v_aload_n C 0 dX3_bringLine_52 rfl rfl ?_
          refine gf_RX3_9 C hX hb_r0 dX3_bringLine_53 ?_
          refine v_iload C 5 dX3_bringLine_56 rfl ?_
          refine ia_17 C hX hb_r0 dX3_bringLine_58 hM (fun hM _ => ?_)
          refine v_goto C 63 dX3_bringLine_59 rfl ?_
          exact v_weak (t_X3_bringLine_b63 hX C hr hb_r0 hb_r1 hb_r1 (fun r0 r1 v2 v3 v4 g hb_r0 hb_r1 hM => ih g hb_r0 hb_r1 hM) hM) (show zsub [some (.inr (.inl (3, r0))), some (.inr (.inl (4, r1))), some (.inl v2), some (.inl v3), some (.inl v4), none] [some (.inr (.inl (3, r0))), some (.inr (.inl (4, r1))), some (.inl v2), some (.inl v3), some (.inl v4), some (.inl ((v3 * (g 3001 0 0)) + v4))] from ⟨rfl, ⟨rfl, ⟨rfl, ⟨rfl, ⟨rfl, trivial⟩⟩⟩⟩⟩)

theorem c_X3_bringLine {X : zX} (hX : zfl X = false) {r0 : Nat} {r1 : Nat} {v2 : Int32} {v3 : Int32} {g gr : zG} {rr : Int32} (hb_r0 : r0 < 3) (hb_r1 : r1 < 12) (hM : X3_bringLine r0 r1 v2 v3 g = some (rr, gr)) : MC X yX3_bringLine cX3_bringLine 6 none 1 [.inr (.inl (3, r0)), .inr (.inl (4, r1)), .inl v2, .inl v3] none g gr := by
  refine MC.mk (own := RX3) (L := [some (.inr (.inl (3, r0))), some (.inr (.inl (4, r1))), some (.inl v2), some (.inl v3), none, none]) (by decide) rfl trivial (Nat.le_of_ble_eq_true rfl) rfl ?_
  intro p l e s m args below meth c C hr
  unfold X3_bringLine at hM
  refine v_aload_n C 1 dX3_bringLine_0 rfl rfl ?_
  refine gf_RX3_217 C hX hb_r1 dX3_bringLine_1 ?_
  refine v_iload_n C 2 dX3_bringLine_4 rfl rfl ?_
  refine v_iload_n C 3 dX3_bringLine_5 rfl rfl ?_
  refine is_22 C hX hb_r1 dX3_bringLine_6 hM (fun g1 hM => ?_)
  refine v_iconst C (nI 0) dX3_bringLine_7 zk_0 ?_
  refine v_istore (L' := [some (.inr (.inl (3, r0))), some (.inr (.inl (4, r1))), some (.inl v2), some (.inl v3), some (.inl (nI 0)), none]) C 4 dX3_bringLine_8 (by decide) rfl ?_
  exact t_X3_bringLine_l10 hX C hr  _ g1 hb_r0 hb_r1 hM

theorem t_X3_reach_b157 {r0 : Nat} {r5 : Nat} {v6 : Int32}  {g : zG} (hX : zfl X = false) (C : Cx X p (zrm 3) s m args meth c cX3_reach 9 RX3 0 0) (hr : meth.sig.returnType = (some .int)) (hb_r0 : r0 < 3) (hb_r5 : r5 < 12)  (hM : X3_reach_b157  r0 r5 v6 g = some (rr, gr)) : V X p l e (zrm 3) s m args below meth c 9 0 0 (MQ below (zQ X (Option.map (zM X) (some (.inl rr))) gr) args s 0 0 (zF X)) g 157 [some (.inr (.inl (3, r0))), none, none, none, none, some (.inr (.inl (4, r5))), some (.inl v6), none, none] [] := by
  unfold X3_reach_b157 at hM
  refine v_aload C 5 dX3_reach_157 rfl ?_
  refine gf_RX3_211 C hX hb_r5 dX3_reach_159 ?_
  refine v_iload C 6 dX3_reach_162 rfl ?_
  refine v_aload_n C 0 dX3_reach_164 rfl rfl ?_
  refine gf_RX3_51 C hX hb_r0 dX3_reach_165 ?_
  refine is_26 C hX hb_r5 dX3_reach_168 hM (fun g1 hM => ?_)
  refine v_iconst C (nI 1) dX3_reach_169 zk_1 ?_
  exact v_iret2 C hr dX3_reach_170 hM

theorem t_X3_reach_b144 {r0 : Nat} {v3 : Int32} {r5 : Nat} {v6 : Int32}  {g : zG} (hX : zfl X = false) (C : Cx X p (zrm 3) s m args meth c cX3_reach 9 RX3 0 0) (hr : meth.sig.returnType = (some .int)) (hb_r0 : r0 < 3) (hb_r5 : r5 < 12)  (hM : X3_reach_b144  r0 v3 r5 v6 g = some (rr, gr)) : V X p l e (zrm 3) s m args below meth c 9 0 0 (MQ below (zQ X (Option.map (zM X) (some (.inl rr))) gr) args s 0 0 (zF X)) g 144 [some (.inr (.inl (3, r0))), none, none, some (.inl v3), none, some (.inr (.inl (4, r5))), some (.inl v6), none, none] [] := by
  unfold X3_reach_b144 at hM
  refine v_iload_n C 3 dX3_reach_144 rfl rfl ?_
  refine v_if_eq C 157 dX3_reach_145 rfl hM (fun hM => ?_) (fun hM => ?_)
  · exact v_weak (t_X3_reach_b157 hX C hr hb_r0 hb_r5  hM) (show zsub [some (.inr (.inl (3, r0))), none, none, none, none, some (.inr (.inl (4, r5))), some (.inl v6), none, none] [some (.inr (.inl (3, r0))), none, none, some (.inl v3), none, some (.inr (.inl (4, r5))), some (.inl v6), none, none] from ⟨rfl, ⟨rfl, ⟨rfl, trivial⟩⟩⟩)
  · refine v_aload C 5 dX3_reach_148 rfl ?_
    refine gf_RX3_174 C hX hb_r5 dX3_reach_150 ?_
    refine v_iload C 6 dX3_reach_153 rfl ?_
    refine v_iconst C (nI 3) dX3_reach_155 zk_3 ?_
    refine is_23 C hX hb_r5 dX3_reach_156 hM (fun g1 hM => ?_)
    exact v_weak (t_X3_reach_b157 hX C hr hb_r0 hb_r5  hM) (show zsub [some (.inr (.inl (3, r0))), none, none, none, none, some (.inr (.inl (4, r5))), some (.inl v6), none, none] [some (.inr (.inl (3, r0))), none, none, some (.inl v3), none, some (.inr (.inl (4, r5))), some (.inl v6), none, none] from ⟨rfl, ⟨rfl, ⟨rfl, trivial⟩⟩⟩)

theorem t_X3_reach_b143 {r0 : Nat} {v3 : Int32} {r5 : Nat} {v6 : Int32} {q0 : Nat} {s1 : Int32} {s2 : Int32}  {g : zG} (hX : zfl X = false) (C : Cx X p (zrm 3) s m args meth c cX3_reach 9 RX3 0 0) (hr : meth.sig.returnType = (some .int)) (hb_r0 : r0 < 3) (hb_r5 : r5 < 12) (hb_q0 : q0 < 12)  (hM : X3_reach_b143  r0 v3 r5 v6 q0 s1 s2 g = some (rr, gr)) : V X p l e (zrm 3) s m args below meth c 9 0 0 (MQ below (zQ X (Option.map (zM X) (some (.inl rr))) gr) args s 0 0 (zF X)) g 143 [some (.inr (.inl (3, r0))), none, none, some (.inl v3), none, some (.inr (.inl (4, r5))), some (.inl v6), none, none] [(.inl s2), (.inl s1), (.inr (.inl (23, q0)))] := by
  unfold X3_reach_b143 at hM
  refine is_23 C hX hb_q0 dX3_reach_143 hM (fun g1 hM => ?_)
  exact t_X3_reach_b144 hX C hr hb_r0 hb_r5  hM

theorem t_X3_reach_b103 {r0 : Nat} {v1 : Int32} {v2 : Int32} {v3 : Int32} {r5 : Nat} {v6 : Int32} {v7 : Int32}  {g : zG} (hX : zfl X = false) (C : Cx X p (zrm 3) s m args meth c cX3_reach 9 RX3 0 0) (hr : meth.sig.returnType = (some .int)) (hb_r0 : r0 < 3) (hb_r5 : r5 < 12)  (hM : X3_reach_b103  r0 v1 v2 v3 r5 v6 v7 g = some (rr, gr)) : V X p l e (zrm 3) s m args below meth c 9 0 0 (MQ below (zQ X (Option.map (zM X) (some (.inl rr))) gr) args s 0 0 (zF X)) g 103 [some (.inr (.inl (3, r0))), some (.inl v1), some (.inl v2), some (.inl v3), none, some (.inr (.inl (4, r5))), some (.inl v6), some (.inl v7), none] [] := by
  unfold X3_reach_b103 at hM
  refine v_aload_n C 0 dX3_reach_103 rfl rfl ?_
  refine v_iload_n C 1 dX3_reach_104 rfl rfl ?_
  refine v_iload_n C 2 dX3_reach_105 rfl rfl ?_
  refine v_iload_n C 3 dX3_reach_106 rfl rfl ?_
  obtain ⟨x1, g2, e3, hM⟩ := zc_elim hM
  refine v_callVi (ci := 3) (rest := []) C (c_X3_changeOthers hX hb_r0 e3) mw_X3_changeOthers mi_X3_changeOthers ml_RX3_203 hX.symm (zm3 hb_r0) rfl rfl ⟨by decide, Nat.le_of_ble_eq_true rfl⟩ rfl (Nat.le_of_ble_eq_true rfl) dX3_reach_107 rfl ?_
  refine v_istore (L' := [some (.inr (.inl (3, r0))), some (.inl v1), some (.inl v2), some (.inl v3), none, some (.inr (.inl (4, r5))), some (.inl v6), some (.inl v7), some (.inl x1)]) C 8 dX3_reach_110 (by decide) rfl ?_
  refine v_iload C 7 dX3_reach_112 rfl ?_
  refine v_if_eq C 144 dX3_reach_114 rfl hM (fun hM => ?_) (fun hM => ?_)
  · exact v_weak (t_X3_reach_b144 hX C hr hb_r0 hb_r5  hM) (show zsub [some (.inr (.inl (3, r0))), none, none, some (.inl v3), none, some (.inr (.inl (4, r5))), some (.inl v6), none, none] [some (.inr (.inl (3, r0))), some (.inl v1), some (.inl v2), some (.inl v3), none, some (.inr (.inl (4, r5))), some (.inl v6), some (.inl v7), some (.inl x1)] from ⟨rfl, ⟨rfl, ⟨rfl, ⟨rfl, trivial⟩⟩⟩⟩)
  · refine v_aload_n C 0 dX3_reach_117 rfl rfl ?_
    refine v_aload C 5 dX3_reach_118 rfl ?_
    refine v_iload C 6 dX3_reach_120 rfl ?_
    refine v_iload_n C 2 dX3_reach_122 rfl rfl ?_
    obtain ⟨x4, g5, e6, hM⟩ := zc_elim hM
    refine v_callVv (ci := 3) (rest := []) C (c_X3_bringLine hX hb_r0 hb_r5 e6) mw_X3_bringLine mi_X3_bringLine ml_RX3_207 hX.symm (zm3 hb_r0) rfl rfl ⟨by decide, Nat.le_of_ble_eq_true rfl⟩ rfl (Nat.le_of_ble_eq_true rfl) dX3_reach_123 rfl ?_
    refine v_aload C 5 dX3_reach_126 rfl ?_
    refine gf_RX3_174 C hX hb_r5 dX3_reach_128 ?_
    refine v_iload C 6 dX3_reach_131 rfl ?_
    refine v_iload C 8 dX3_reach_133 rfl ?_
    refine v_if_eq C 142 dX3_reach_135 rfl hM (fun hM => ?_) (fun hM => ?_)
    · refine v_iconst C (nI 2) dX3_reach_142 zk_2 ?_
      exact v_weak (t_X3_reach_b143 hX C hr hb_r0 hb_r5 hb_r5  hM) (show zsub [some (.inr (.inl (3, r0))), none, none, some (.inl v3), none, some (.inr (.inl (4, r5))), some (.inl v6), none, none] [some (.inr (.inl (3, r0))), some (.inl v1), some (.inl v2), some (.inl v3), none, some (.inr (.inl (4, r5))), some (.inl v6), some (.inl v7), some (.inl x1)] from ⟨rfl, ⟨rfl, ⟨rfl, ⟨rfl, trivial⟩⟩⟩⟩)
    · refine v_iconst C (nI 1) dX3_reach_138 zk_1 ?_
      refine v_goto C 143 dX3_reach_139 rfl ?_
      exact v_weak (t_X3_reach_b143 hX C hr hb_r0 hb_r5 hb_r5  hM) (show zsub [some (.inr (.inl (3, r0))), none, none, some (.inl v3), none, some (.inr (.inl (4, r5))), some (.inl v6), none, none] [some (.inr (.inl (3, r0))), some (.inl v1), some (.inl v2), some (.inl v3), none, some (.inr (.inl (4, r5))), some (.inl v6), some (.inl v7), some (.inl x1)] from ⟨rfl, ⟨rfl, ⟨rfl, ⟨rfl, trivial⟩⟩⟩⟩)

theorem t_X3_reach_b96 {r0 : Nat} {v1 : Int32} {v2 : Int32} {v3 : Int32} {r5 : Nat} {v6 : Int32} {v7 : Int32}  {g : zG} (hX : zfl X = false) (C : Cx X p (zrm 3) s m args meth c cX3_reach 9 RX3 0 0) (hr : meth.sig.returnType = (some .int)) (hb_r0 : r0 < 3) (hb_r5 : r5 < 12)  (hM : X3_reach_b96  r0 v1 v2 v3 r5 v6 v7 g = some (rr, gr)) : V X p l e (zrm 3) s m args below meth c 9 0 0 (MQ below (zQ X (Option.map (zM X) (some (.inl rr))) gr) args s 0 0 (zF X)) g 96 [some (.inr (.inl (3, r0))), some (.inl v1), some (.inl v2), some (.inl v3), none, some (.inr (.inl (4, r5))), some (.inl v6), some (.inl v7), none] [] := by
  unfold X3_reach_b96 at hM
  refine v_aload C 5 dX3_reach_96 rfl ?_
  refine v_iload C 6 dX3_reach_98 rfl ?_
  obtain ⟨x1, g2, e3, hM⟩ := zc_elim hM
  refine v_callVNv (ci := 0) (rest := []) C (c_X0_dropLine hX hb_r5 e3) mw_X0_dropLine mi_X0_dropLine ml_RX3_199 hX.symm (zm4 hb_r5) rfl rfl ⟨by decide, Nat.le_of_ble_eq_true rfl⟩ rfl (Nat.le_of_ble_eq_true rfl) dX3_reach_100 rfl ?_
  exact t_X3_reach_b103 hX C hr hb_r0 hb_r5  hM

theorem t_X3_reach_b45 {r0 : Nat} {v1 : Int32} {v2 : Int32} {v3 : Int32} {r5 : Nat} {v6 : Int32} {s0 : Int32}  {g : zG} (hX : zfl X = false) (C : Cx X p (zrm 3) s m args meth c cX3_reach 9 RX3 0 0) (hr : meth.sig.returnType = (some .int)) (hb_r0 : r0 < 3) (hb_r5 : r5 < 12)  (hM : X3_reach_b45  r0 v1 v2 v3 r5 v6 s0 g = some (rr, gr)) : V X p l e (zrm 3) s m args below meth c 9 0 0 (MQ below (zQ X (Option.map (zM X) (some (.inl rr))) gr) args s 0 0 (zF X)) g 45 [some (.inr (.inl (3, r0))), some (.inl v1), some (.inl v2), some (.inl v3), none, some (.inr (.inl (4, r5))), some (.inl v6), none, none] [(.inl s0)] := by
  unfold X3_reach_b45 at hM
  refine v_istore (L' := [some (.inr (.inl (3, r0))), some (.inl v1), some (.inl v2), some (.inl v3), none, some (.inr (.inl (4, r5))), some (.inl v6), some (.inl s0), none]) C 7 dX3_reach_45 (by decide) rfl ?_
  refine v_iload C 7 dX3_reach_47 rfl ?_
  refine v_if_eq C 103 dX3_reach_49 rfl hM (fun hM => ?_) (fun hM => ?_)
  · exact t_X3_reach_b103 hX C hr hb_r0 hb_r5  hM
  · refine v_aload C 5 dX3_reach_52 rfl ?_
    refine v_iload_n C 2 dX3_reach_54 rfl rfl ?_
    obtain ⟨x1, g2, e3, hM⟩ := zc_elim hM
    refine v_callVNi (ci := 0) (rest := []) C (c_X0_findRoom hX hb_r5 e3) mw_X0_findRoom mi_X0_findRoom ml_RX3_196 hX.symm (zm4 hb_r5) rfl rfl ⟨by decide, Nat.le_of_ble_eq_true rfl⟩ rfl (Nat.le_of_ble_eq_true rfl) dX3_reach_55 rfl ?_
    refine v_istore (L' := [some (.inr (.inl (3, r0))), some (.inl v1), some (.inl v2), some (.inl v3), none, some (.inr (.inl (4, r5))), some (.inl x1), some (.inl s0), none]) C 6 dX3_reach_58 (by decide) rfl ?_
    refine v_iload C 6 dX3_reach_60 rfl ?_
    refine v_iconst C (-1) dX3_reach_62 zk_m1 ?_
    refine v_icmp_ne C 76 dX3_reach_63 rfl hM (fun hM => ?_) (fun hM => ?_)
    · refine v_aload C 5 dX3_reach_76 rfl ?_
      refine gf_RX3_174 C hX hb_r5 dX3_reach_78 ?_
      refine v_iload C 6 dX3_reach_81 rfl ?_
      refine ia_23 C hX hb_r5 dX3_reach_83 hM (fun hM _ => ?_)
      refine v_iconst C (nI 3) dX3_reach_84 zk_3 ?_
      refine v_icmp_ne C 96 dX3_reach_85 rfl hM (fun hM => ?_) (fun hM => ?_)
      · exact t_X3_reach_b96 hX C hr hb_r0 hb_r5  hM
      · refine v_aload_n C 0 dX3_reach_88 rfl rfl ?_
        refine v_aload C 5 dX3_reach_89 rfl ?_
        refine v_iload C 6 dX3_reach_91 rfl ?_
        obtain ⟨x4, g5, e6, hM⟩ := zc_elim hM
        refine v_callVv (ci := 3) (rest := []) C (c_X3_writeBack hX hb_r0 hb_r5 e6) mw_X3_writeBack mi_X3_writeBack ml_RX3_181 hX.symm (zm3 hb_r0) rfl rfl ⟨by decide, Nat.le_of_ble_eq_true rfl⟩ rfl (Nat.le_of_ble_eq_true rfl) dX3_reach_93 rfl ?_
        exact t_X3_reach_b96 hX C hr hb_r0 hb_r5  hM
    · refine v_aload_n C 0 dX3_reach_66 rfl rfl ?_
      refine v_iconst C (nI 1) dX3_reach_67 zk_1 ?_
      refine v_iload_n C 1 dX3_reach_68 rfl rfl ?_
      refine v_ishl C dX3_reach_69 ?_
      refine v_iconst C (nI 1) dX3_reach_70 zk_1 ?_
      obtain ⟨x7, g8, e9, hM⟩ := zc_elim hM
      refine v_callVv (ci := 3) (rest := []) C (c_X3_endTries hX hb_r0 e9) mw_X3_endTries mi_X3_endTries ml_RX3_147 hX.symm (zm3 hb_r0) rfl rfl ⟨by decide, Nat.le_of_ble_eq_true rfl⟩ rfl (Nat.le_of_ble_eq_true rfl) dX3_reach_71 rfl ?_
      refine v_iconst C (nI 3) dX3_reach_74 zk_3 ?_
      exact v_iret2 C hr dX3_reach_75 hM

theorem c_X3_reach {X : zX} (hX : zfl X = false) {r0 : Nat} {v1 : Int32} {v2 : Int32} {v3 : Int32} {g gr : zG} {rr : Int32} (hb_r0 : r0 < 3) (hM : X3_reach r0 v1 v2 v3 g = some (rr, gr)) : MC X yX3_reach cX3_reach 9 (some .int) 3 [.inr (.inl (3, r0)), .inl v1, .inl v2, .inl v3] (some (.inl rr)) g gr := by
  refine MC.mk (own := RX3) (L := [some (.inr (.inl (3, r0))), some (.inl v1), some (.inl v2), some (.inl v3), none, none, none, none, none]) (by decide) rfl trivial (Nat.le_of_ble_eq_true rfl) rfl ?_
  intro p l e s m args below meth c C hr
  unfold X3_reach at hM
  refine v_aload_n C 0 dX3_reach_0 rfl rfl ?_
  refine v_iload_n C 1 dX3_reach_1 rfl rfl ?_
  refine v_iload_n C 2 dX3_reach_2 rfl rfl ?_
  refine v_iload_n C 3 dX3_reach_3 rfl rfl ?_
  obtain ⟨x1, g2, e3, hM⟩ := zc_elim hM
  refine v_callVi (ci := 3) (rest := []) C (c_X3_ask hX hb_r0 e3) mw_X3_ask mi_X3_ask ml_RX3_193 hX.symm (zm3 hb_r0) rfl rfl ⟨by decide, Nat.le_of_ble_eq_true rfl⟩ rfl (Nat.le_of_ble_eq_true rfl) dX3_reach_4 rfl ?_
  refine v_istore (L' := [some (.inr (.inl (3, r0))), some (.inl v1), some (.inl v2), some (.inl v3), some (.inl x1), none, none, none, none]) C 4 dX3_reach_7 (by decide) rfl ?_
  refine v_iload C 4 dX3_reach_9 rfl ?_
  refine v_iconst C (nI 1) dX3_reach_11 zk_1 ?_
  refine v_icmp_eq C 18 dX3_reach_12 rfl hM (fun hM => ?_) (fun hM => ?_)
  · refine v_aload_n C 0 dX3_reach_18 rfl rfl ?_
    refine gf_RX3_17 C hX hb_r0 dX3_reach_19 ?_
    refine v_iload_n C 1 dX3_reach_22 rfl rfl ?_
    refine aa_18 C hX hb_r0 dX3_reach_23 hM (fun hM hj4 => ?_)
    have hb5 : (4 * r0 + v1.toNatClampNeg) < 12 := zix hb_r0 hj4
    refine v_astore (L' := [some (.inr (.inl (3, r0))), some (.inl v1), some (.inl v2), some (.inl v3), some (.inl x1), some (.inr (.inl (4, (4 * r0 + v1.toNatClampNeg)))), none, none, none]) C 5 dX3_reach_24 (by decide) rfl ?_
    refine v_aload C 5 dX3_reach_26 rfl ?_
    refine v_iload_n C 2 dX3_reach_28 rfl rfl ?_
    obtain ⟨x6, g7, e8, hM⟩ := zc_elim hM
    refine v_callVNi (ci := 0) (rest := []) C (c_X0_find hX hb5 e8) mw_X0_find mi_X0_find ml_RX3_165 hX.symm (zm4 hb5) rfl rfl ⟨by decide, Nat.le_of_ble_eq_true rfl⟩ rfl (Nat.le_of_ble_eq_true rfl) dX3_reach_29 rfl ?_
    refine v_istore (L' := [some (.inr (.inl (3, r0))), some (.inl v1), some (.inl v2), some (.inl v3), some (.inl x1), some (.inr (.inl (4, (4 * r0 + v1.toNatClampNeg)))), some (.inl x6), none, none]) C 6 dX3_reach_32 (by decide) rfl ?_
    refine v_iload C 6 dX3_reach_34 rfl ?_
    refine v_iconst C (-1) dX3_reach_36 zk_m1 ?_
    refine v_icmp_ne C 44 dX3_reach_37 rfl hM (fun hM => ?_) (fun hM => ?_)
    · refine v_iconst C (nI 0) dX3_reach_44 zk_0 ?_
      exact v_weak (t_X3_reach_b45 hX C hr hb_r0 hb5  hM) (show zsub [some (.inr (.inl (3, r0))), some (.inl v1), some (.inl v2), some (.inl v3), none, some (.inr (.inl (4, (4 * r0 + v1.toNatClampNeg)))), some (.inl x6), none, none] [some (.inr (.inl (3, r0))), some (.inl v1), some (.inl v2), some (.inl v3), some (.inl x1), some (.inr (.inl (4, (4 * r0 + v1.toNatClampNeg)))), some (.inl x6), none, none] from ⟨rfl, ⟨rfl, ⟨rfl, ⟨rfl, ⟨rfl, ⟨rfl, trivial⟩⟩⟩⟩⟩⟩)
    · refine v_iconst C (nI 1) dX3_reach_40 zk_1 ?_
      refine v_goto C 45 dX3_reach_41 rfl ?_
      exact v_weak (t_X3_reach_b45 hX C hr hb_r0 hb5  hM) (show zsub [some (.inr (.inl (3, r0))), some (.inl v1), some (.inl v2), some (.inl v3), none, some (.inr (.inl (4, (4 * r0 + v1.toNatClampNeg)))), some (.inl x6), none, none] [some (.inr (.inl (3, r0))), some (.inl v1), some (.inl v2), some (.inl v3), some (.inl x1), some (.inr (.inl (4, (4 * r0 + v1.toNatClampNeg)))), some (.inl x6), none, none] from ⟨rfl, ⟨rfl, ⟨rfl, ⟨rfl, ⟨rfl, ⟨rfl, trivial⟩⟩⟩⟩⟩⟩)
  · refine v_iload C 4 dX3_reach_15 rfl ?_
    exact v_iret2 C hr dX3_reach_17 hM

end ZL
