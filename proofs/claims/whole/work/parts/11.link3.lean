section ZL
variable {X : zX} {p : Program} {l : Launch} {e : Env} {s : State} {m : MethodId} {args : Array Value} {below : List Frame} {meth : Method} {c : Code} {rr : Int32} {gr : zG}
theorem c_X6_triedWord {X : zX} (hX : zfl X = false) {v1 : Int32} {v2 : Int32} {v3 : Int32} {v4 : Int32} {g gr : zG} {rr : Int32}  (hM : X6_triedWord v1 v2 v3 v4 g = some (rr, gr)) : MC X yX6_triedWord cX6_triedWord 5 (some .int) 7 [.inr (.inl (0, 0)), .inl v1, .inl v2, .inl v3, .inl v4] (some (.inl rr)) g gr := by
  refine MC.mk (own := RX6) (L := [some (.inr (.inl (0, 0))), some (.inl v1), some (.inl v2), some (.inl v3), some (.inl v4)]) (by decide) rfl trivial (Nat.le_of_ble_eq_true rfl) rfl ?_
  intro p l e s m args below meth c C hr
  unfold X6_triedWord at hM
  refine v_aload_n C 0 dX6_triedWord_0 rfl rfl ?_
  refine gf_RX6_16 C hX dX6_triedWord_1 ?_
  refine v_iload C 4 dX6_triedWord_4 rfl ?_
  obtain ⟨x1, g2, e3, hM⟩ := zc_elim hM
  refine v_callVNi (ci := 2) (rest := []) C (c_X2_hasAddress hX (by decide) e3) mw_X2_hasAddress mi_X2_hasAddress ml_RX6_149 hX.symm (zm1 (by decide)) rfl rfl ⟨by decide, Nat.le_of_ble_eq_true rfl⟩ rfl (Nat.le_of_ble_eq_true rfl) dX6_triedWord_6 rfl ?_
  refine v_if_ne C 18 dX6_triedWord_9 rfl hM (fun hM => ?_) (fun hM => ?_)
  · refine v_iload_n C 1 dX6_triedWord_18 rfl rfl ?_
    refine v_iload_n C 2 dX6_triedWord_19 rfl rfl ?_
    refine v_iload_n C 3 dX6_triedWord_20 rfl rfl ?_
    obtain ⟨x4, g5, e6, hM⟩ := zc_elim hM
    refine v_callSi (rest := []) C (c_X6_isTrial hX  e6) mw_X6_isTrial ms_X6_isTrial ml_RX6_277 ⟨by decide, Nat.le_of_ble_eq_true rfl⟩ rfl (Nat.le_of_ble_eq_true rfl) dX6_triedWord_21 rfl ?_
    refine v_if_ne C 33 dX6_triedWord_24 rfl hM (fun hM => ?_) (fun hM => ?_)
    · refine v_aload_n C 0 dX6_triedWord_33 rfl rfl ?_
      refine gf_RX6_44 C hX dX6_triedWord_34 ?_
      refine v_iload_n C 1 dX6_triedWord_37 rfl rfl ?_
      refine v_iload_n C 2 dX6_triedWord_38 rfl rfl ?_
      obtain ⟨x7, g8, e9, hM⟩ := zc_elim hM
      refine v_callVNv (ci := 3) (rest := []) C (c_X3_startOver hX (by decide) e9) mw_X3_startOver mi_X3_startOver ml_RX6_92 hX.symm (zm3 (by decide)) rfl rfl ⟨by decide, Nat.le_of_ble_eq_true rfl⟩ rfl (Nat.le_of_ble_eq_true rfl) dX6_triedWord_39 rfl ?_
      refine v_aload_n C 0 dX6_triedWord_42 rfl rfl ?_
      refine gf_RX6_44 C hX dX6_triedWord_43 ?_
      refine v_sipush C (nI 2000) dX6_triedWord_46 zks_2000 ?_
      refine v_iload_n C 3 dX6_triedWord_49 rfl rfl ?_
      obtain ⟨x10, g11, e12, hM⟩ := zc_elim hM
      refine v_callVNi (ci := 3) (rest := []) C (c_X3_takeDraws hX (by decide) e12) mw_X3_takeDraws mi_X3_takeDraws ml_RX6_270 hX.symm (zm3 (by decide)) rfl rfl ⟨by decide, Nat.le_of_ble_eq_true rfl⟩ rfl (Nat.le_of_ble_eq_true rfl) dX6_triedWord_50 rfl ?_
      refine v_pop C dX6_triedWord_53 ?_
      refine v_aload_n C 0 dX6_triedWord_54 rfl rfl ?_
      refine v_aload_n C 0 dX6_triedWord_55 rfl rfl ?_
      refine gf_RX6_44 C hX dX6_triedWord_56 ?_
      refine v_iload C 4 dX6_triedWord_59 rfl ?_
      obtain ⟨x13, g14, e15, hM⟩ := zc_elim hM
      refine v_callVNi (ci := 3) (rest := [(.inr (.inl (0, 0)))]) C (c_X3_wordAt hX (by decide) e15) mw_X3_wordAt mi_X3_wordAt ml_RX6_152 hX.symm (zm3 (by decide)) rfl rfl ⟨by decide, Nat.le_of_ble_eq_true rfl⟩ rfl (Nat.le_of_ble_eq_true rfl) dX6_triedWord_61 rfl ?_
      obtain ⟨x16, g17, e18, hM⟩ := zc_elim hM
      refine v_callVi (ci := 6) (rest := []) C (c_X6_answer hX  e18) mw_X6_answer mi_X6_answer ml_RX6_106 hX.symm zm0 rfl rfl ⟨by decide, Nat.le_of_ble_eq_true rfl⟩ rfl (Nat.le_of_ble_eq_true rfl) dX6_triedWord_64 rfl ?_
      exact v_iret2 C hr dX6_triedWord_67 hM
    · refine v_aload_n C 0 dX6_triedWord_27 rfl rfl ?_
      refine v_iconst C (nI 2) dX6_triedWord_28 zk_2 ?_
      obtain ⟨x19, g20, e21, hM⟩ := zc_elim hM
      refine v_callVi (ci := 6) (rest := []) C (c_X6_refuse hX  e21) mw_X6_refuse mi_X6_refuse ml_RX6_69 hX.symm zm0 rfl rfl ⟨by decide, Nat.le_of_ble_eq_true rfl⟩ rfl (Nat.le_of_ble_eq_true rfl) dX6_triedWord_29 rfl ?_
      exact v_iret2 C hr dX6_triedWord_32 hM
  · refine v_aload_n C 0 dX6_triedWord_12 rfl rfl ?_
    refine v_iconst C (nI 1) dX6_triedWord_13 zk_1 ?_
    obtain ⟨x22, g23, e24, hM⟩ := zc_elim hM
    refine v_callVi (ci := 6) (rest := []) C (c_X6_refuse hX  e24) mw_X6_refuse mi_X6_refuse ml_RX6_69 hX.symm zm0 rfl rfl ⟨by decide, Nat.le_of_ble_eq_true rfl⟩ rfl (Nat.le_of_ble_eq_true rfl) dX6_triedWord_14 rfl ?_
    exact v_iret2 C hr dX6_triedWord_17 hM

theorem t_X6_best_b106 {v1 : Int32} {v2 : Int32} {v3 : Int32} {v4 : Int32} {k34 : Int32 → Int32 → Int32 → Int32 → zG → Option (Int32 × zG)} {g : zG} (hX : zfl X = false) (C : Cx X p (zrm 7) s m args meth c cX6_best 5 RX6 0 0) (hr : meth.sig.returnType = (some .int))  (hk34 : ∀ (v1 : Int32) (v2 : Int32) (v3 : Int32) (v4 : Int32) (g : zG),  k34 v1 v2 v3 v4 g = some (rr, gr) → V X p l e (zrm 7) s m args below meth c 5 0 0 (MQ below (zQ X (Option.map (zM X) (some (.inl rr))) gr) args s 0 0 (zF X)) g 34 [some (.inr (.inl (0, 0))), some (.inl v1), some (.inl v2), some (.inl v3), some (.inl v4)] []) (hM : X6_best_b106 k34 v1 v2 v3 v4 g = some (rr, gr)) : V X p l e (zrm 7) s m args below meth c 5 0 0 (MQ below (zQ X (Option.map (zM X) (some (.inl rr))) gr) args s 0 0 (zF X)) g 106 [some (.inr (.inl (0, 0))), some (.inl v1), some (.inl v2), some (.inl v3), some (.inl v4)] [] := by
  unfold X6_best_b106 at hM
  refine v_iinc (L' := [some (.inr (.inl (0, 0))), some (.inl v1), some (.inl v2), some (.inl v3), some (.inl (v4 + (nI 1)))]) C 4 (nI 1) dX6_best_106 zk_1 (by decide) rfl rfl ?_
  refine v_goto C 34 dX6_best_109 rfl ?_
  exact hk34 v1 v2 v3 (v4 + (nI 1)) g  hM

theorem t_X6_best_b95 {v1 : Int32} {v4 : Int32} {k34 : Int32 → Int32 → Int32 → Int32 → zG → Option (Int32 × zG)} {g : zG} (hX : zfl X = false) (C : Cx X p (zrm 7) s m args meth c cX6_best 5 RX6 0 0) (hr : meth.sig.returnType = (some .int))  (hk34 : ∀ (v1 : Int32) (v2 : Int32) (v3 : Int32) (v4 : Int32) (g : zG),  k34 v1 v2 v3 v4 g = some (rr, gr) → V X p l e (zrm 7) s m args below meth c 5 0 0 (MQ below (zQ X (Option.map (zM X) (some (.inl rr))) gr) args s 0 0 (zF X)) g 34 [some (.inr (.inl (0, 0))), some (.inl v1), some (.inl v2), some (.inl v3), some (.inl v4)] []) (hM : X6_best_b95 k34 v1 v4 g = some (rr, gr)) : V X p l e (zrm 7) s m args below meth c 5 0 0 (MQ below (zQ X (Option.map (zM X) (some (.inl rr))) gr) args s 0 0 (zF X)) g 95 [some (.inr (.inl (0, 0))), some (.inl v1), none, none, some (.inl v4)] [] := by
  unfold X6_best_b95 at hM
  refine v_iload C 4 dX6_best_95 rfl ?_
  refine v_istore_n (L' := [some (.inr (.inl (0, 0))), some (.inl v1), some (.inl v4), none, some (.inl v4)]) C 2 dX6_best_97 rfl (by decide) rfl ?_
  refine v_aload_n C 0 dX6_best_98 rfl rfl ?_
  refine gf_RX6_44 C hX dX6_best_99 ?_
  refine gf_RX6_125 C hX (by decide) dX6_best_102 ?_
  refine v_istore_n (L' := [some (.inr (.inl (0, 0))), some (.inl v1), some (.inl v4), some (.inl (g 10003 2 0)), some (.inl v4)]) C 3 dX6_best_105 rfl (by decide) rfl ?_
  exact t_X6_best_b106 hX C hr  hk34 hM

theorem t_X6_best_l34  (hX : zfl X = false) (C : Cx X p (zrm 7) s m args meth c cX6_best 5 RX6 0 0) (hr : meth.sig.returnType = (some .int))  : ∀ (n : Nat) {v1 : Int32} {v2 : Int32} {v3 : Int32} {v4 : Int32} (g : zG), X6_best_l34  n v1 v2 v3 v4 g = some (rr, gr) → V X p l e (zrm 7) s m args below meth c 5 0 0 (MQ below (zQ X (Option.map (zM X) (some (.inl rr))) gr) args s 0 0 (zF X)) g 34 [some (.inr (.inl (0, 0))), some (.inl v1), some (.inl v2), some (.inl v3), some (.inl v4)] [] := by
  intro n
  induction n with
  | zero =>
    intro v1 v2 v3 v4 g  hM
    exact absurd (show (none : Option (Int32 × zG)) = some (rr, gr) from hM) (by simp)
  | succ n ih =>
    intro v1 v2 v3 v4 g  hM
    rw [X6_best_l34.eq_2] at hM
    refine v_iload C 4 dX6_best_34 rfl ?_
    refine v_iconst C (nI 2) dX6_best_36 zk_2 ?_
    refine v_icmp_gt C 112 dX6_best_37 rfl hM (fun hM => ?_) (fun hM => ?_)
    · refine v_aload_n C 0 dX6_best_112 rfl rfl ?_
      refine v_iload_n C 2 dX6_best_113 rfl rfl ?_
      obtain ⟨x1, g2, e3, hM⟩ := zc_elim hM
      refine v_callVi (ci := 6) (rest := []) C (c_X6_answer hX  e3) mw_X6_answer mi_X6_answer ml_RX6_106 hX.symm zm0 rfl rfl ⟨by decide, Nat.le_of_ble_eq_true rfl⟩ rfl (Nat.le_of_ble_eq_true rfl) dX6_best_114 rfl ?_
      exact v_iret2 C hr dX6_best_117 hM
    · refine v_aload_n C 0 dX6_best_40 rfl rfl ?_
      refine gf_RX6_44 C hX dX6_best_41 ?_
      refine v_iload C 4 dX6_best_44 rfl ?_
      refine v_aload_n C 0 dX6_best_46 rfl rfl ?_
      refine gf_RX6_16 C hX dX6_best_47 ?_
      refine gf_RX6_89 C hX (by decide) dX6_best_50 ?_
      obtain ⟨x4, g5, e6, hM⟩ := zc_elim hM
      refine v_callVNv (ci := 3) (rest := []) C (c_X3_startOver hX (by decide) e6) mw_X3_startOver mi_X3_startOver ml_RX6_92 hX.symm (zm3 (by decide)) rfl rfl ⟨by decide, Nat.le_of_ble_eq_true rfl⟩ rfl (Nat.le_of_ble_eq_true rfl) dX6_best_53 rfl ?_
      refine v_aload_n C 0 dX6_best_56 rfl rfl ?_
      refine gf_RX6_44 C hX dX6_best_57 ?_
      refine v_sipush C (nI 2000) dX6_best_60 zks_2000 ?_
      refine v_iload_n C 1 dX6_best_63 rfl rfl ?_
      obtain ⟨x7, g8, e9, hM⟩ := zc_elim hM
      refine v_callVNi (ci := 3) (rest := []) C (c_X3_takeDraws hX (by decide) e9) mw_X3_takeDraws mi_X3_takeDraws ml_RX6_270 hX.symm (zm3 (by decide)) rfl rfl ⟨by decide, Nat.le_of_ble_eq_true rfl⟩ rfl (Nat.le_of_ble_eq_true rfl) dX6_best_64 rfl ?_
      refine v_pop C dX6_best_67 ?_
      refine v_aload_n C 0 dX6_best_68 rfl rfl ?_
      refine gf_RX6_44 C hX dX6_best_69 ?_
      obtain ⟨x10, g11, e12, hM⟩ := zc_elim hM
      refine v_callVNi (ci := 3) (rest := []) C (c_X3_isAllDone hX (by decide) e12) mw_X3_isAllDone mi_X3_isAllDone ml_RX6_280 hX.symm (zm3 (by decide)) rfl rfl ⟨by decide, Nat.le_of_ble_eq_true rfl⟩ rfl (Nat.le_of_ble_eq_true rfl) dX6_best_72 rfl ?_
      refine v_if_eq C 106 dX6_best_75 rfl hM (fun hM => ?_) (fun hM => ?_)
      · exact t_X6_best_b106 hX C hr  (fun v1 v2 v3 v4 g  hM => ih g  hM) hM
      · refine v_iload_n C 2 dX6_best_78 rfl rfl ?_
        refine v_bipush C (-2) dX6_best_79 zkb_m2 ?_
        refine v_icmp_eq C 95 dX6_best_81 rfl hM (fun hM => ?_) (fun hM => ?_)
        · exact v_weak (t_X6_best_b95 hX C hr  (fun v1 v2 v3 v4 g  hM => ih g  hM) hM) (show zsub [some (.inr (.inl (0, 0))), some (.inl v1), none, none, some (.inl v4)] [some (.inr (.inl (0, 0))), some (.inl v1), some (.inl v2), some (.inl v3), some (.inl v4)] from ⟨rfl, ⟨rfl, ⟨rfl, trivial⟩⟩⟩)
        · refine v_aload_n C 0 dX6_best_84 rfl rfl ?_
          refine gf_RX6_44 C hX dX6_best_85 ?_
          refine gf_RX6_125 C hX (by decide) dX6_best_88 ?_
          refine v_iload_n C 3 dX6_best_91 rfl rfl ?_
          refine v_icmp_ge C 106 dX6_best_92 rfl hM (fun hM => ?_) (fun hM => ?_)
          · exact t_X6_best_b106 hX C hr  (fun v1 v2 v3 v4 g  hM => ih g  hM) hM
          · exact v_weak (t_X6_best_b95 hX C hr  (fun v1 v2 v3 v4 g  hM => ih g  hM) hM) (show zsub [some (.inr (.inl (0, 0))), some (.inl v1), none, none, some (.inl v4)] [some (.inr (.inl (0, 0))), some (.inl v1), some (.inl v2), some (.inl v3), some (.inl v4)] from ⟨rfl, ⟨rfl, ⟨rfl, trivial⟩⟩⟩)

theorem c_X6_best {X : zX} (hX : zfl X = false) {v1 : Int32} {g gr : zG} {rr : Int32}  (hM : X6_best v1 g = some (rr, gr)) : MC X yX6_best cX6_best 5 (some .int) 7 [.inr (.inl (0, 0)), .inl v1] (some (.inl rr)) g gr := by
  refine MC.mk (own := RX6) (L := [some (.inr (.inl (0, 0))), some (.inl v1), none, none, none]) (by decide) rfl trivial (Nat.le_of_ble_eq_true rfl) rfl ?_
  intro p l e s m args below meth c C hr
  unfold X6_best at hM
  refine v_aload_n C 0 dX6_best_0 rfl rfl ?_
  refine gf_RX6_96 C hX dX6_best_1 ?_
  refine v_if_ne C 13 dX6_best_4 rfl hM (fun hM => ?_) (fun hM => ?_)
  · refine v_iload_n C 1 dX6_best_13 rfl rfl ?_
    obtain ⟨x1, g2, e3, hM⟩ := zc_elim hM
    refine v_callSi (rest := []) C (c_X6_isSeed hX  e3) mw_X6_isSeed ms_X6_isSeed ml_RX6_267 ⟨by decide, Nat.le_of_ble_eq_true rfl⟩ rfl (Nat.le_of_ble_eq_true rfl) dX6_best_14 rfl ?_
    refine v_if_ne C 26 dX6_best_17 rfl hM (fun hM => ?_) (fun hM => ?_)
    · refine v_bipush C (-2) dX6_best_26 zkb_m2 ?_
      refine v_istore_n (L' := [some (.inr (.inl (0, 0))), some (.inl v1), some (.inl (-2)), none, none]) C 2 dX6_best_28 rfl (by decide) rfl ?_
      refine v_iconst C (nI 0) dX6_best_29 zk_0 ?_
      refine v_istore_n (L' := [some (.inr (.inl (0, 0))), some (.inl v1), some (.inl (-2)), some (.inl (nI 0)), none]) C 3 dX6_best_30 rfl (by decide) rfl ?_
      refine v_iconst C (nI 0) dX6_best_31 zk_0 ?_
      refine v_istore (L' := [some (.inr (.inl (0, 0))), some (.inl v1), some (.inl (-2)), some (.inl (nI 0)), some (.inl (nI 0))]) C 4 dX6_best_32 (by decide) rfl ?_
      exact t_X6_best_l34 hX C hr  _ g2  hM
    · refine v_aload_n C 0 dX6_best_20 rfl rfl ?_
      refine v_iconst C (nI 2) dX6_best_21 zk_2 ?_
      obtain ⟨x4, g5, e6, hM⟩ := zc_elim hM
      refine v_callVi (ci := 6) (rest := []) C (c_X6_refuse hX  e6) mw_X6_refuse mi_X6_refuse ml_RX6_69 hX.symm zm0 rfl rfl ⟨by decide, Nat.le_of_ble_eq_true rfl⟩ rfl (Nat.le_of_ble_eq_true rfl) dX6_best_22 rfl ?_
      exact v_iret2 C hr dX6_best_25 hM
  · refine v_aload_n C 0 dX6_best_7 rfl rfl ?_
    refine v_iconst C (nI 1) dX6_best_8 zk_1 ?_
    obtain ⟨x7, g8, e9, hM⟩ := zc_elim hM
    refine v_callVi (ci := 6) (rest := []) C (c_X6_refuse hX  e9) mw_X6_refuse mi_X6_refuse ml_RX6_69 hX.symm zm0 rfl rfl ⟨by decide, Nat.le_of_ble_eq_true rfl⟩ rfl (Nat.le_of_ble_eq_true rfl) dX6_best_9 rfl ?_
    exact v_iret2 C hr dX6_best_12 hM

theorem c_X6_waysFor {X : zX} (hX : zfl X = false) {v1 : Int32} {g gr : zG} {rr : Int32}  (hM : X6_waysFor v1 g = some (rr, gr)) : MC X yX6_waysFor cX6_waysFor 2 (some .int) 6 [.inr (.inl (0, 0)), .inl v1] (some (.inl rr)) g gr := by
  refine MC.mk (own := RX6) (L := [some (.inr (.inl (0, 0))), some (.inl v1)]) (by decide) rfl trivial (Nat.le_of_ble_eq_true rfl) rfl ?_
  intro p l e s m args below meth c C hr
  unfold X6_waysFor at hM
  refine v_aload_n C 0 dX6_waysFor_0 rfl rfl ?_
  refine gf_RX6_16 C hX dX6_waysFor_1 ?_
  refine v_iload_n C 1 dX6_waysFor_4 rfl rfl ?_
  obtain ⟨x1, g2, e3, hM⟩ := zc_elim hM
  refine v_callVNi (ci := 2) (rest := []) C (c_X2_hasCore hX (by decide) e3) mw_X2_hasCore mi_X2_hasCore ml_RX6_176 hX.symm (zm1 (by decide)) rfl rfl ⟨by decide, Nat.le_of_ble_eq_true rfl⟩ rfl (Nat.le_of_ble_eq_true rfl) dX6_waysFor_5 rfl ?_
  refine v_if_ne C 17 dX6_waysFor_8 rfl hM (fun hM => ?_) (fun hM => ?_)
  · refine v_aload_n C 0 dX6_waysFor_17 rfl rfl ?_
    refine gf_RX6_50 C hX dX6_waysFor_18 ?_
    obtain ⟨x4, g5, e6, hM⟩ := zc_elim hM
    refine v_callVNv (ci := 4) (rest := []) C (c_X4_startOver hX  e6) mw_X4_startOver mi_X4_startOver ml_RX6_164 hX.symm zm6 rfl rfl ⟨by decide, Nat.le_of_ble_eq_true rfl⟩ rfl (Nat.le_of_ble_eq_true rfl) dX6_waysFor_21 rfl ?_
    refine v_aload_n C 0 dX6_waysFor_24 rfl rfl ?_
    refine gf_RX6_50 C hX dX6_waysFor_25 ?_
    refine v_iload_n C 1 dX6_waysFor_28 rfl rfl ?_
    refine v_iconst C (nI 0) dX6_waysFor_29 zk_0 ?_
    refine v_iconst C (nI 0) dX6_waysFor_30 zk_0 ?_
    obtain ⟨x7, g8, e9, hM⟩ := zc_elim hM
    refine v_callVNv (ci := 4) (rest := []) C (c_X4_play hX  e9) mw_X4_play mi_X4_play ml_RX6_169 hX.symm zm6 rfl rfl ⟨by decide, Nat.le_of_ble_eq_true rfl⟩ rfl (Nat.le_of_ble_eq_true rfl) dX6_waysFor_31 rfl ?_
    refine v_aload_n C 0 dX6_waysFor_34 rfl rfl ?_
    refine v_aload_n C 0 dX6_waysFor_35 rfl rfl ?_
    refine gf_RX6_50 C hX dX6_waysFor_36 ?_
    refine gf_RX6_287 C hX dX6_waysFor_39 ?_
    obtain ⟨x10, g11, e12, hM⟩ := zc_elim hM
    refine v_callVi (ci := 6) (rest := []) C (c_X6_answer hX  e12) mw_X6_answer mi_X6_answer ml_RX6_106 hX.symm zm0 rfl rfl ⟨by decide, Nat.le_of_ble_eq_true rfl⟩ rfl (Nat.le_of_ble_eq_true rfl) dX6_waysFor_42 rfl ?_
    exact v_iret2 C hr dX6_waysFor_45 hM
  · refine v_aload_n C 0 dX6_waysFor_11 rfl rfl ?_
    refine v_iconst C (nI 1) dX6_waysFor_12 zk_1 ?_
    obtain ⟨x13, g14, e15, hM⟩ := zc_elim hM
    refine v_callVi (ci := 6) (rest := []) C (c_X6_refuse hX  e15) mw_X6_refuse mi_X6_refuse ml_RX6_69 hX.symm zm0 rfl rfl ⟨by decide, Nat.le_of_ble_eq_true rfl⟩ rfl (Nat.le_of_ble_eq_true rfl) dX6_waysFor_13 rfl ?_
    exact v_iret2 C hr dX6_waysFor_16 hM

theorem c_X6_keep {X : zX} (hX : zfl X = false)  {g gr : zG} {rr : Int32}  (hM : X6_keep  g = some (rr, gr)) : MC X yX6_keep cX6_keep 1 (some .boolean) 3 [.inr (.inl (0, 0))] (some (.inl rr)) g gr := by
  refine MC.mk (own := RX6) (L := [some (.inr (.inl (0, 0)))]) (by decide) rfl trivial (Nat.le_of_ble_eq_true rfl) rfl ?_
  intro p l e s m args below meth c C hr
  unfold X6_keep at hM
  refine v_aload_n C 0 dX6_keep_0 rfl rfl ?_
  refine gf_RX6_96 C hX dX6_keep_1 ?_
  refine v_if_ne C 15 dX6_keep_4 rfl hM (fun hM => ?_) (fun hM => ?_)
  · refine v_aload_n C 0 dX6_keep_15 rfl rfl ?_
    refine gf_RX6_41 C hX dX6_keep_16 ?_
    refine v_aload_n C 0 dX6_keep_19 rfl rfl ?_
    refine gf_RX6_37 C hX dX6_keep_20 ?_
    obtain ⟨x1, g2, e3, hM⟩ := zc_elim hM
    refine v_callVNv (ci := 3) (rest := []) C (c_X3_copyFrom hX (by decide) (by decide) e3) mw_X3_copyFrom mi_X3_copyFrom ml_RX6_255 hX.symm (zm3 (by decide)) rfl rfl ⟨by decide, Nat.le_of_ble_eq_true rfl⟩ rfl (Nat.le_of_ble_eq_true rfl) dX6_keep_23 rfl ?_
    refine v_aload_n C 0 dX6_keep_26 rfl rfl ?_
    refine v_iconst C (nI 1) dX6_keep_27 zk_1 ?_
    refine pf_RX6_100 C hX dX6_keep_28 (Or.inr rfl) hM (fun g4 hM => ?_)
    refine v_aload_n C 0 dX6_keep_31 rfl rfl ?_
    refine v_iconst C (nI 0) dX6_keep_32 zk_0 ?_
    obtain ⟨x5, g6, e7, hM⟩ := zc_elim hM
    refine v_callVi (ci := 6) (rest := []) C (c_X6_answer hX  e7) mw_X6_answer mi_X6_answer ml_RX6_106 hX.symm zm0 rfl rfl ⟨by decide, Nat.le_of_ble_eq_true rfl⟩ rfl (Nat.le_of_ble_eq_true rfl) dX6_keep_33 rfl ?_
    refine v_pop C dX6_keep_36 ?_
    refine v_iconst C (nI 1) dX6_keep_37 zk_1 ?_
    exact v_zret2 C hr (zbo_n (Or.inr rfl)) dX6_keep_38 hM
  · refine v_aload_n C 0 dX6_keep_7 rfl rfl ?_
    refine v_iconst C (nI 1) dX6_keep_8 zk_1 ?_
    obtain ⟨x8, g9, e10, hM⟩ := zc_elim hM
    refine v_callVi (ci := 6) (rest := []) C (c_X6_refuse hX  e10) mw_X6_refuse mi_X6_refuse ml_RX6_69 hX.symm zm0 rfl rfl ⟨by decide, Nat.le_of_ble_eq_true rfl⟩ rfl (Nat.le_of_ble_eq_true rfl) dX6_keep_9 rfl ?_
    refine v_pop C dX6_keep_12 ?_
    refine v_iconst C (nI 0) dX6_keep_13 zk_0 ?_
    exact v_zret2 C hr (zbo_n (Or.inl rfl)) dX6_keep_14 hM

theorem c_X6_back {X : zX} (hX : zfl X = false)  {g gr : zG} {rr : Int32}  (hM : X6_back  g = some (rr, gr)) : MC X yX6_back cX6_back 1 (some .boolean) 3 [.inr (.inl (0, 0))] (some (.inl rr)) g gr := by
  refine MC.mk (own := RX6) (L := [some (.inr (.inl (0, 0)))]) (by decide) rfl trivial (Nat.le_of_ble_eq_true rfl) rfl ?_
  intro p l e s m args below meth c C hr
  unfold X6_back at hM
  refine v_aload_n C 0 dX6_back_0 rfl rfl ?_
  refine gf_RX6_100 C hX dX6_back_1 ?_
  refine v_if_ne C 15 dX6_back_4 rfl hM (fun hM => ?_) (fun hM => ?_)
  · refine v_aload_n C 0 dX6_back_15 rfl rfl ?_
    refine gf_RX6_37 C hX dX6_back_16 ?_
    refine v_aload_n C 0 dX6_back_19 rfl rfl ?_
    refine gf_RX6_41 C hX dX6_back_20 ?_
    obtain ⟨x1, g2, e3, hM⟩ := zc_elim hM
    refine v_callVNv (ci := 3) (rest := []) C (c_X3_copyFrom hX (by decide) (by decide) e3) mw_X3_copyFrom mi_X3_copyFrom ml_RX6_255 hX.symm (zm3 (by decide)) rfl rfl ⟨by decide, Nat.le_of_ble_eq_true rfl⟩ rfl (Nat.le_of_ble_eq_true rfl) dX6_back_23 rfl ?_
    refine v_aload_n C 0 dX6_back_26 rfl rfl ?_
    refine v_iconst C (nI 0) dX6_back_27 zk_0 ?_
    obtain ⟨x4, g5, e6, hM⟩ := zc_elim hM
    refine v_callVi (ci := 6) (rest := []) C (c_X6_answer hX  e6) mw_X6_answer mi_X6_answer ml_RX6_106 hX.symm zm0 rfl rfl ⟨by decide, Nat.le_of_ble_eq_true rfl⟩ rfl (Nat.le_of_ble_eq_true rfl) dX6_back_28 rfl ?_
    refine v_pop C dX6_back_31 ?_
    refine v_iconst C (nI 1) dX6_back_32 zk_1 ?_
    exact v_zret2 C hr (zbo_n (Or.inr rfl)) dX6_back_33 hM
  · refine v_aload_n C 0 dX6_back_7 rfl rfl ?_
    refine v_iconst C (nI 1) dX6_back_8 zk_1 ?_
    obtain ⟨x7, g8, e9, hM⟩ := zc_elim hM
    refine v_callVi (ci := 6) (rest := []) C (c_X6_refuse hX  e9) mw_X6_refuse mi_X6_refuse ml_RX6_69 hX.symm zm0 rfl rfl ⟨by decide, Nat.le_of_ble_eq_true rfl⟩ rfl (Nat.le_of_ble_eq_true rfl) dX6_back_9 rfl ?_
    refine v_pop C dX6_back_12 ?_
    refine v_iconst C (nI 0) dX6_back_13 zk_0 ?_
    exact v_zret2 C hr (zbo_n (Or.inl rfl)) dX6_back_14 hM

theorem c_X6_size {X : zX} (hX : zfl X = false) {v1 : Int32} {g gr : zG} {rr : Int32}  (hM : X6_size v1 g = some (rr, gr)) : MC X yX6_size cX6_size 2 (some .int) 1 [.inr (.inl (0, 0)), .inl v1] (some (.inl rr)) g gr := by
  refine MC.mk (own := RX6) (L := [some (.inr (.inl (0, 0))), some (.inl v1)]) (by decide) rfl trivial (Nat.le_of_ble_eq_true rfl) rfl ?_
  intro p l e s m args below meth c C hr
  unfold X6_size at hM
  refine v_iload_n C 1 dX6_size_0 rfl rfl ?_
  by_cases hx0 : v1 = (nI 0)
  · rw [if_pos hx0] at hM
    refine v_tblIn C 32 0 dX6_size_1 (by rw [hx0]; rfl) (by decide) (by decide) rfl rfl ?_
    refine v_aload_n C 0 dX6_size_32 rfl rfl ?_
    refine gf_RX6_58 C hX dX6_size_33 ?_
    exact v_iret2 C hr dX6_size_36 hM
  rw [if_neg hx0] at hM
  by_cases hx1 : v1 = (nI 1)
  · rw [if_pos hx1] at hM
    refine v_tblIn C 37 1 dX6_size_1 (by rw [hx1]; rfl) (by decide) (by decide) rfl rfl ?_
    refine v_aload_n C 0 dX6_size_37 rfl rfl ?_
    refine gf_RX6_16 C hX dX6_size_38 ?_
    refine gf_RX6_293 C hX (by decide) dX6_size_41 ?_
    exact v_iret2 C hr dX6_size_44 hM
  rw [if_neg hx1] at hM
  by_cases hx2 : v1 = (nI 2)
  · rw [if_pos hx2] at hM
    refine v_tblIn C 45 2 dX6_size_1 (by rw [hx2]; rfl) (by decide) (by decide) rfl rfl ?_
    refine v_aload_n C 0 dX6_size_45 rfl rfl ?_
    refine gf_RX6_16 C hX dX6_size_46 ?_
    obtain ⟨x1, g2, e3, hM⟩ := zc_elim hM
    refine v_callVNi (ci := 2) (rest := []) C (c_X2_deedsInAll hX (by decide) e3) mw_X2_deedsInAll mi_X2_deedsInAll ml_RX6_296 hX.symm (zm1 (by decide)) rfl rfl ⟨by decide, Nat.le_of_ble_eq_true rfl⟩ rfl (Nat.le_of_ble_eq_true rfl) dX6_size_49 rfl ?_
    exact v_iret2 C hr dX6_size_52 hM
  rw [if_neg hx2] at hM
  by_cases hx3 : v1 = (nI 3)
  · rw [if_pos hx3] at hM
    refine v_tblIn C 53 3 dX6_size_1 (by rw [hx3]; rfl) (by decide) (by decide) rfl rfl ?_
    refine v_aload_n C 0 dX6_size_53 rfl rfl ?_
    refine gf_RX6_100 C hX dX6_size_54 ?_
    obtain ⟨x4, g5, e6, hM⟩ := zc_elim hM
    refine v_callSi (rest := []) C (c_X6_asBit hX  e6) mw_X6_asBit ms_X6_asBit ml_RX6_145 ⟨by decide, Nat.le_of_ble_eq_true rfl⟩ rfl (Nat.le_of_ble_eq_true rfl) dX6_size_57 rfl ?_
    exact v_iret2 C hr dX6_size_60 hM
  rw [if_neg hx3] at hM
  refine v_tblOut C 61 dX6_size_1 (ztbl 4 rfl (by intro k hk; match k, hk with | 0, _ => exact hx0 | 1, _ => exact hx1 | 2, _ => exact hx2 | 3, _ => exact hx3 | k + 4, hk => omega)) rfl ?_
  refine v_iconst C (-1) dX6_size_61 zk_m1 ?_
  exact v_iret2 C hr dX6_size_62 hM

theorem c_X6_trouble {X : zX} (hX : zfl X = false)  {g gr : zG} {rr : Int32}  (hM : X6_trouble  g = some (rr, gr)) : MC X yX6_trouble cX6_trouble 1 (some .int) 0 [.inr (.inl (0, 0))] (some (.inl rr)) g gr := by
  refine MC.mk (own := RX6) (L := [some (.inr (.inl (0, 0)))]) (by decide) rfl trivial (Nat.le_of_ble_eq_true rfl) rfl ?_
  intro p l e s m args below meth c C hr
  unfold X6_trouble at hM
  refine v_aload_n C 0 dX6_trouble_0 rfl rfl ?_
  refine gf_RX6_54 C hX dX6_trouble_1 ?_
  exact v_iret2 C hr dX6_trouble_4 hM

theorem c_X7_thrown {X : zX} (hX : zfl X = true)  {g gr : zG} {rr : Int32}  (hM : X7_thrown  g = some (rr, gr)) : MC X yX7_thrown cX7_thrown 1 (some .int) 0 [.inr (.inl (7, 0))] (some (.inl rr)) g gr := by
  refine MC.mk (own := RX7) (L := [some (.inr (.inl (7, 0)))]) (by decide) rfl trivial (Nat.le_of_ble_eq_true rfl) rfl ?_
  intro p l e s m args below meth c C hr
  unfold X7_thrown at hM
  refine v_aload_n C 0 dX7_thrown_0 rfl rfl ?_
  refine gf_RX7_65 C hX dX7_thrown_1 ?_
  exact v_iret2 C hr dX7_thrown_4 hM

theorem c_X7_in {X : zX} (hX : zfl X = true) {v0 : Int32} {v1 : Int32} {v2 : Int32} {g gr : zG} {rr : Int32}  (hM : X7_in v0 v1 v2 g = some (rr, gr)) : MC X yX7_in cX7_in 3 (some .boolean) 0 [.inl v0, .inl v1, .inl v2] (some (.inl rr)) g gr := by
  refine MC.mk (own := RX7) (L := [some (.inl v0), some (.inl v1), some (.inl v2)]) (by decide) rfl trivial (Nat.le_of_ble_eq_true rfl) rfl ?_
  intro p l e s m args below meth c C hr
  unfold X7_in at hM
  refine v_iload_n C 0 dX7_in_0 rfl rfl ?_
  refine v_iload_n C 1 dX7_in_1 rfl rfl ?_
  refine v_icmp_lt C 14 dX7_in_2 rfl hM (fun hM => ?_) (fun hM => ?_)
  · refine v_iconst C (nI 0) dX7_in_14 zk_0 ?_
    exact v_zret2 C hr (zbo_n (Or.inl rfl)) dX7_in_15 hM
  · refine v_iload_n C 0 dX7_in_5 rfl rfl ?_
    refine v_iload_n C 2 dX7_in_6 rfl rfl ?_
    refine v_icmp_gt C 14 dX7_in_7 rfl hM (fun hM => ?_) (fun hM => ?_)
    · refine v_iconst C (nI 0) dX7_in_14 zk_0 ?_
      exact v_zret2 C hr (zbo_n (Or.inl rfl)) dX7_in_15 hM
    · refine v_iconst C (nI 1) dX7_in_10 zk_1 ?_
      refine v_goto C 15 dX7_in_11 rfl ?_
      exact v_zret2 C hr (zbo_n (Or.inr rfl)) dX7_in_15 hM

theorem c_X7_anew {X : zX} (hX : zfl X = true)  {g gr : zG} {rr : Int32}  (hM : X7_anew  g = some (rr, gr)) : MC X yX7_anew cX7_anew 1 none 0 [.inr (.inl (7, 0))] none g gr := by
  refine MC.mk (own := RX7) (L := [some (.inr (.inl (7, 0)))]) (by decide) rfl trivial (Nat.le_of_ble_eq_true rfl) rfl ?_
  intro p l e s m args below meth c C hr
  unfold X7_anew at hM
  refine v_aload_n C 0 dX7_anew_0 rfl rfl ?_
  refine v_iconst C (nI 0) dX7_anew_1 zk_0 ?_
  refine pf_RX7_65 C hX dX7_anew_2 hM (fun g1 hM => ?_)
  refine v_aload_n C 0 dX7_anew_5 rfl rfl ?_
  refine v_iconst C (nI 0) dX7_anew_6 zk_0 ?_
  refine pf_RX7_68 C hX dX7_anew_7 hM (fun g2 hM => ?_)
  refine v_aload_n C 0 dX7_anew_10 rfl rfl ?_
  refine v_iconst C (-1) dX7_anew_11 zk_m1 ?_
  refine pf_RX7_9 C hX dX7_anew_12 hM (fun g3 hM => ?_)
  exact v_vret2 C hr dX7_anew_15 hM

theorem c_X7_no {X : zX} (hX : zfl X = true) {v1 : Int32} {g gr : zG} {rr : Int32}  (hM : X7_no v1 g = some (rr, gr)) : MC X yX7_no cX7_no 2 (some .int) 0 [.inr (.inl (7, 0)), .inl v1] (some (.inl rr)) g gr := by
  refine MC.mk (own := RX7) (L := [some (.inr (.inl (7, 0))), some (.inl v1)]) (by decide) rfl trivial (Nat.le_of_ble_eq_true rfl) rfl ?_
  intro p l e s m args below meth c C hr
  unfold X7_no at hM
  refine v_aload_n C 0 dX7_no_0 rfl rfl ?_
  refine v_iload_n C 1 dX7_no_1 rfl rfl ?_
  refine pf_RX7_68 C hX dX7_no_2 hM (fun g1 hM => ?_)
  refine v_iconst C (-1) dX7_no_5 zk_m1 ?_
  exact v_iret2 C hr dX7_no_6 hM

theorem t_X7_lays_l2  (hX : zfl X = true) (C : Cx X p (zrm 0) s m args meth c cX7_lays 3 RX7 0 0) (hr : meth.sig.returnType = none)  : ∀ (n : Nat) {v1 : Int32} {v2 : Int32} (g : zG), X7_lays_l2  n v1 v2 g = some (rr, gr) → V X p l e (zrm 0) s m args below meth c 3 0 0 (MQ below (zQ X (Option.map (zM X) none) gr) args s 0 0 (zF X)) g 2 [some (.inr (.inl (7, 0))), some (.inl v1), some (.inl v2)] [] := by
  intro n
  induction n with
  | zero =>
    intro v1 v2 g  hM
    exact absurd (show (none : Option (Int32 × zG)) = some (rr, gr) from hM) (by simp)
  | succ n ih =>
    intro v1 v2 g  hM
    rw [X7_lays_l2.eq_2] at hM
    refine v_iload_n C 2 dX7_lays_2 rfl rfl ?_
    refine v_iconst C (nI 4) dX7_lays_3 zk_4 ?_
    refine v_icmp_ge C 37 dX7_lays_4 rfl hM (fun hM => ?_) (fun hM => ?_)
    · refine v_aload_n C 0 dX7_lays_37 rfl rfl ?_
      refine v_dup_a C dX7_lays_38 ?_
      refine gf_RX7_71 C hX dX7_lays_39 ?_
      refine v_iconst C (nI 4) dX7_lays_42 zk_4 ?_
      refine v_iadd C dX7_lays_43 ?_
      refine pf_RX7_71 C hX dX7_lays_44 hM (fun g1 hM => ?_)
      exact v_vret2 C hr dX7_lays_47 hM
    · refine v_aload_n C 0 dX7_lays_7 rfl rfl ?_
      refine gf_RX7_13 C hX dX7_lays_8 ?_
      refine v_aload_n C 0 dX7_lays_11 rfl rfl ?_
      refine gf_RX7_71 C hX dX7_lays_12 ?_
      refine v_iload_n C 2 dX7_lays_15 rfl rfl ?_
      refine v_iadd C dX7_lays_16 ?_
      refine v_iload_n C 1 dX7_lays_17 rfl rfl ?_
      refine v_bipush C (nI 24) dX7_lays_18 zkb_24 ?_
      refine v_bipush C (nI 8) dX7_lays_20 zkb_8 ?_
      refine v_iload_n C 2 dX7_lays_22 rfl rfl ?_
      refine v_imul C dX7_lays_23 ?_
      refine v_isub C dX7_lays_24 ?_
      refine v_ishr C dX7_lays_25 ?_
      refine v_sipush C (nI 255) dX7_lays_26 zks_255 ?_
      refine v_iand C dX7_lays_29 ?_
      refine is_30 C hX dX7_lays_30 hM (fun g2 hM => ?_)
      refine v_iinc (L' := [some (.inr (.inl (7, 0))), some (.inl v1), some (.inl (v2 + (nI 1)))]) C 2 (nI 1) dX7_lays_31 zk_1 (by decide) rfl rfl ?_
      refine v_goto C 2 dX7_lays_34 rfl ?_
      exact ih g2  hM

theorem c_X7_lays {X : zX} (hX : zfl X = true) {v1 : Int32} {g gr : zG} {rr : Int32}  (hM : X7_lays v1 g = some (rr, gr)) : MC X yX7_lays cX7_lays 3 none 0 [.inr (.inl (7, 0)), .inl v1] none g gr := by
  refine MC.mk (own := RX7) (L := [some (.inr (.inl (7, 0))), some (.inl v1), none]) (by decide) rfl trivial (Nat.le_of_ble_eq_true rfl) rfl ?_
  intro p l e s m args below meth c C hr
  unfold X7_lays at hM
  refine v_iconst C (nI 0) dX7_lays_0 zk_0 ?_
  refine v_istore_n (L' := [some (.inr (.inl (7, 0))), some (.inl v1), some (.inl (nI 0))]) C 2 dX7_lays_1 rfl (by decide) rfl ?_
  exact t_X7_lays_l2 hX C hr  _ g  hM

theorem c_X7_feed {X : zX} (hX : zfl X = true) {v1 : Int32} {v2 : Int32} {v3 : Int32} {v4 : Int32} {v5 : Int32} {g gr : zG} {rr : Int32}  (hM : X7_feed v1 v2 v3 v4 v5 g = some (rr, gr)) : MC X yX7_feed cX7_feed 6 (some .int) 1 [.inr (.inl (7, 0)), .inl v1, .inl v2, .inl v3, .inl v4, .inl v5] (some (.inl rr)) g gr := by
  refine MC.mk (own := RX7) (L := [some (.inr (.inl (7, 0))), some (.inl v1), some (.inl v2), some (.inl v3), some (.inl v4), some (.inl v5)]) (by decide) rfl trivial (Nat.le_of_ble_eq_true rfl) rfl ?_
  intro p l e s m args below meth c C hr
  unfold X7_feed at hM
  refine v_aload_n C 0 dX7_feed_0 rfl rfl ?_
  refine v_iconst C (nI 0) dX7_feed_1 zk_0 ?_
  refine pf_RX7_65 C hX dX7_feed_2 hM (fun g1 hM => ?_)
  refine v_aload_n C 0 dX7_feed_5 rfl rfl ?_
  refine gf_RX7_71 C hX dX7_feed_6 ?_
  refine v_sipush C (nI 880) dX7_feed_9 zks_880 ?_
  refine v_icmp_le C 17 dX7_feed_12 rfl hM (fun hM => ?_) (fun hM => ?_)
  · refine v_aload_n C 0 dX7_feed_17 rfl rfl ?_
    refine v_iload_n C 1 dX7_feed_18 rfl rfl ?_
    obtain ⟨x2, g3, e4, hM⟩ := zc_elim hM
    refine v_callVv (ci := 7) (rest := []) C (c_X7_lays hX  e4) mw_X7_lays mi_X7_lays ml_RX7_74 hX.symm zm7 rfl rfl ⟨by decide, Nat.le_of_ble_eq_true rfl⟩ rfl (Nat.le_of_ble_eq_true rfl) dX7_feed_19 rfl ?_
    refine v_aload_n C 0 dX7_feed_22 rfl rfl ?_
    refine v_iload_n C 2 dX7_feed_23 rfl rfl ?_
    obtain ⟨x5, g6, e7, hM⟩ := zc_elim hM
    refine v_callVv (ci := 7) (rest := []) C (c_X7_lays hX  e7) mw_X7_lays mi_X7_lays ml_RX7_74 hX.symm zm7 rfl rfl ⟨by decide, Nat.le_of_ble_eq_true rfl⟩ rfl (Nat.le_of_ble_eq_true rfl) dX7_feed_24 rfl ?_
    refine v_aload_n C 0 dX7_feed_27 rfl rfl ?_
    refine v_iload_n C 3 dX7_feed_28 rfl rfl ?_
    obtain ⟨x8, g9, e10, hM⟩ := zc_elim hM
    refine v_callVv (ci := 7) (rest := []) C (c_X7_lays hX  e10) mw_X7_lays mi_X7_lays ml_RX7_74 hX.symm zm7 rfl rfl ⟨by decide, Nat.le_of_ble_eq_true rfl⟩ rfl (Nat.le_of_ble_eq_true rfl) dX7_feed_29 rfl ?_
    refine v_aload_n C 0 dX7_feed_32 rfl rfl ?_
    refine v_iload C 4 dX7_feed_33 rfl ?_
    obtain ⟨x11, g12, e13, hM⟩ := zc_elim hM
    refine v_callVv (ci := 7) (rest := []) C (c_X7_lays hX  e13) mw_X7_lays mi_X7_lays ml_RX7_74 hX.symm zm7 rfl rfl ⟨by decide, Nat.le_of_ble_eq_true rfl⟩ rfl (Nat.le_of_ble_eq_true rfl) dX7_feed_35 rfl ?_
    refine v_aload_n C 0 dX7_feed_38 rfl rfl ?_
    refine v_iload C 5 dX7_feed_39 rfl ?_
    obtain ⟨x14, g15, e16, hM⟩ := zc_elim hM
    refine v_callVv (ci := 7) (rest := []) C (c_X7_lays hX  e16) mw_X7_lays mi_X7_lays ml_RX7_74 hX.symm zm7 rfl rfl ⟨by decide, Nat.le_of_ble_eq_true rfl⟩ rfl (Nat.le_of_ble_eq_true rfl) dX7_feed_41 rfl ?_
    refine v_aload_n C 0 dX7_feed_44 rfl rfl ?_
    refine gf_RX7_71 C hX dX7_feed_45 ?_
    exact v_iret2 C hr dX7_feed_48 hM
  · refine v_iconst C (-1) dX7_feed_15 zk_m1 ?_
    exact v_iret2 C hr dX7_feed_16 hM

theorem c_X7_see {X : zX} (hX : zfl X = true) {v1 : Int32} {g gr : zG} {rr : Int32}  (hM : X7_see v1 g = some (rr, gr)) : MC X yX7_see cX7_see 2 (some .int) 0 [.inr (.inl (7, 0)), .inl v1] (some (.inl rr)) g gr := by
  refine MC.mk (own := RX7) (L := [some (.inr (.inl (7, 0))), some (.inl v1)]) (by decide) rfl trivial (Nat.le_of_ble_eq_true rfl) rfl ?_
  intro p l e s m args below meth c C hr
  unfold X7_see at hM
  refine v_iload_n C 1 dX7_see_0 rfl rfl ?_
  refine v_aload_n C 0 dX7_see_1 rfl rfl ?_
  refine gf_RX7_78 C hX dX7_see_2 ?_
  refine v_icmp_ge C 17 dX7_see_5 rfl hM (fun hM => ?_) (fun hM => ?_)
  · refine v_iconst C (-1) dX7_see_17 zk_m1 ?_
    exact v_iret2 C hr dX7_see_18 hM
  · refine v_aload_n C 0 dX7_see_8 rfl rfl ?_
    refine gf_RX7_13 C hX dX7_see_9 ?_
    refine v_iload_n C 1 dX7_see_12 rfl rfl ?_
    refine ia_30 C hX dX7_see_13 hM (fun hM _ => ?_)
    refine v_goto C 18 dX7_see_14 rfl ?_
    exact v_iret2 C hr dX7_see_18 hM

theorem t_X7_nextToken_l0 {k65 : zG → Option (Int32 × zG)} {k136 : zG → Option (Int32 × zG)} {k255 : Int32 → zG → Option (Int32 × zG)} (hX : zfl X = true) (C : Cx X p (zrm 1) s m args meth c cX7_nextToken 2 RX7 0 0) (hr : meth.sig.returnType = none) (hk65 : ∀  (g : zG),  k65  g = some (rr, gr) → V X p l e (zrm 1) s m args below meth c 2 0 0 (MQ below (zQ X (Option.map (zM X) none) gr) args s 0 0 (zF X)) g 65 [some (.inr (.inl (7, 0))), none] []) (hk136 : ∀  (g : zG),  k136  g = some (rr, gr) → V X p l e (zrm 1) s m args below meth c 2 0 0 (MQ below (zQ X (Option.map (zM X) none) gr) args s 0 0 (zF X)) g 136 [some (.inr (.inl (7, 0))), none] []) (hk255 : ∀ (s1 : Int32) (g : zG),  k255 s1 g = some (rr, gr) → V X p l e (zrm 1) s m args below meth c 2 0 0 (MQ below (zQ X (Option.map (zM X) none) gr) args s 0 0 (zF X)) g 255 [none, none] [(.inl s1), (.inr (.inl (7, 0)))]) : ∀ (n : Nat)  (g : zG), X7_nextToken_l0 k65 k136 k255 n  g = some (rr, gr) → V X p l e (zrm 1) s m args below meth c 2 0 0 (MQ below (zQ X (Option.map (zM X) none) gr) args s 0 0 (zF X)) g 0 [some (.inr (.inl (7, 0))), none] [] := by
  intro n
  induction n with
  | zero =>
    intro  g  hM
    exact absurd (show (none : Option (Int32 × zG)) = some (rr, gr) from hM) (by simp)
  | succ n ih =>
    intro  g  hM
    rw [X7_nextToken_l0.eq_2] at hM
    refine v_aload_n C 0 dX7_nextToken_0 rfl rfl ?_
    refine v_aload_n C 0 dX7_nextToken_1 rfl rfl ?_
    refine gf_RX7_81 C hX dX7_nextToken_2 ?_
    obtain ⟨x1, g2, e3, hM⟩ := zc_elim hM
    refine v_callVi (ci := 7) (rest := []) C (c_X7_see hX  e3) mw_X7_see mi_X7_see ml_RX7_84 hX.symm zm7 rfl rfl ⟨by decide, Nat.le_of_ble_eq_true rfl⟩ rfl (Nat.le_of_ble_eq_true rfl) dX7_nextToken_5 rfl ?_
    refine v_bipush C (nI 32) dX7_nextToken_8 zkb_32 ?_
    refine v_icmp_ne C 26 dX7_nextToken_10 rfl hM (fun hM => ?_) (fun hM => ?_)
    · refine v_aload_n C 0 dX7_nextToken_26 rfl rfl ?_
      refine v_aload_n C 0 dX7_nextToken_27 rfl rfl ?_
      refine gf_RX7_81 C hX dX7_nextToken_28 ?_
      refine pf_RX7_88 C hX dX7_nextToken_31 hM (fun g4 hM => ?_)
      refine v_aload_n C 0 dX7_nextToken_34 rfl rfl ?_
      refine v_aload_n C 0 dX7_nextToken_35 rfl rfl ?_
      refine gf_RX7_81 C hX dX7_nextToken_36 ?_
      obtain ⟨x5, g6, e7, hM⟩ := zc_elim hM
      refine v_callVi (ci := 7) (rest := []) C (c_X7_see hX  e7) mw_X7_see mi_X7_see ml_RX7_84 hX.symm zm7 rfl rfl ⟨by decide, Nat.le_of_ble_eq_true rfl⟩ rfl (Nat.le_of_ble_eq_true rfl) dX7_nextToken_39 rfl ?_
      refine v_istore_n (L' := [some (.inr (.inl (7, 0))), some (.inl x5)]) C 1 dX7_nextToken_42 rfl (by decide) rfl ?_
      refine v_iload_n C 1 dX7_nextToken_43 rfl rfl ?_
      refine v_iconst C (-1) dX7_nextToken_44 zk_m1 ?_
      refine v_icmp_ne C 54 dX7_nextToken_45 rfl hM (fun hM => ?_) (fun hM => ?_)
      · refine v_iload_n C 1 dX7_nextToken_54 rfl rfl ?_
        refine v_bipush C (nI 97) dX7_nextToken_55 zkb_97 ?_
        refine v_bipush C (nI 122) dX7_nextToken_57 zkb_122 ?_
        obtain ⟨x8, g9, e10, hM⟩ := zc_elim hM
        refine v_callSi (rest := []) C (c_X7_in hX  e10) mw_X7_in ms_X7_in ml_RX7_94 ⟨by decide, Nat.le_of_ble_eq_true rfl⟩ rfl (Nat.le_of_ble_eq_true rfl) dX7_nextToken_59 rfl ?_
        refine v_if_eq C 120 dX7_nextToken_62 rfl hM (fun hM => ?_) (fun hM => ?_)
        · refine v_iload_n C 1 dX7_nextToken_120 rfl rfl ?_
          refine v_bipush C (nI 48) dX7_nextToken_121 zkb_48 ?_
          refine v_bipush C (nI 57) dX7_nextToken_123 zkb_57 ?_
          obtain ⟨x11, g12, e13, hM⟩ := zc_elim hM
          refine v_callSi (rest := []) C (c_X7_in hX  e13) mw_X7_in ms_X7_in ml_RX7_94 ⟨by decide, Nat.le_of_ble_eq_true rfl⟩ rfl (Nat.le_of_ble_eq_true rfl) dX7_nextToken_125 rfl ?_
          refine v_if_eq C 233 dX7_nextToken_128 rfl hM (fun hM => ?_) (fun hM => ?_)
          · refine v_aload_n C 0 dX7_nextToken_233 rfl rfl ?_
            refine v_dup_a C dX7_nextToken_234 ?_
            refine gf_RX7_81 C hX dX7_nextToken_235 ?_
            refine v_iconst C (nI 1) dX7_nextToken_238 zk_1 ?_
            refine v_iadd C dX7_nextToken_239 ?_
            refine pf_RX7_81 C hX dX7_nextToken_240 hM (fun g14 hM => ?_)
            refine v_aload_n C 0 dX7_nextToken_243 rfl rfl ?_
            refine v_iload_n C 1 dX7_nextToken_244 rfl rfl ?_
            refine v_bipush C (nI 59) dX7_nextToken_245 zkb_59 ?_
            refine v_icmp_ne C 254 dX7_nextToken_247 rfl hM (fun hM => ?_) (fun hM => ?_)
            · refine v_iconst C (nI 1) dX7_nextToken_254 zk_1 ?_
              exact v_weak (hk255 (nI 1) g14  hM) (show zsub [none, none] [some (.inr (.inl (7, 0))), some (.inl x5)] from trivial)
            · refine v_iload_n C 1 dX7_nextToken_250 rfl rfl ?_
              refine v_goto C 255 dX7_nextToken_251 rfl ?_
              exact v_weak (hk255 x5 g14  hM) (show zsub [none, none] [some (.inr (.inl (7, 0))), some (.inl x5)] from trivial)
          · refine v_aload_n C 0 dX7_nextToken_131 rfl rfl ?_
            refine v_iconst C (nI 0) dX7_nextToken_132 zk_0 ?_
            refine pf_RX7_98 C hX dX7_nextToken_133 hM (fun g15 hM => ?_)
            exact v_weak (hk136  g15  hM) (show zsub [some (.inr (.inl (7, 0))), none] [some (.inr (.inl (7, 0))), some (.inl x5)] from ⟨rfl, trivial⟩)
        · exact v_weak (hk65  g9  hM) (show zsub [some (.inr (.inl (7, 0))), none] [some (.inr (.inl (7, 0))), some (.inl x5)] from ⟨rfl, trivial⟩)
      · refine v_aload_n C 0 dX7_nextToken_48 rfl rfl ?_
        refine v_iconst C (nI 0) dX7_nextToken_49 zk_0 ?_
        refine pf_RX7_91 C hX dX7_nextToken_50 hM (fun g16 hM => ?_)
        exact v_vret2 C hr dX7_nextToken_53 hM
    · refine v_aload_n C 0 dX7_nextToken_13 rfl rfl ?_
      refine v_dup_a C dX7_nextToken_14 ?_
      refine gf_RX7_81 C hX dX7_nextToken_15 ?_
      refine v_iconst C (nI 1) dX7_nextToken_18 zk_1 ?_
      refine v_iadd C dX7_nextToken_19 ?_
      refine pf_RX7_81 C hX dX7_nextToken_20 hM (fun g17 hM => ?_)
      refine v_goto C 0 dX7_nextToken_23 rfl ?_
      exact ih g17  hM

theorem t_X7_nextToken_l65 {k116 : Int32 → zG → Option (Int32 × zG)} (hX : zfl X = true) (C : Cx X p (zrm 1) s m args meth c cX7_nextToken 2 RX7 0 0) (hr : meth.sig.returnType = none) (hk116 : ∀ (s1 : Int32) (g : zG),  k116 s1 g = some (rr, gr) → V X p l e (zrm 1) s m args below meth c 2 0 0 (MQ below (zQ X (Option.map (zM X) none) gr) args s 0 0 (zF X)) g 116 [none, none] [(.inl s1), (.inr (.inl (7, 0)))]) : ∀ (n : Nat)  (g : zG), X7_nextToken_l65 k116 n  g = some (rr, gr) → V X p l e (zrm 1) s m args below meth c 2 0 0 (MQ below (zQ X (Option.map (zM X) none) gr) args s 0 0 (zF X)) g 65 [some (.inr (.inl (7, 0))), none] [] := by
  intro n
  induction n with
  | zero =>
    intro  g  hM
    exact absurd (show (none : Option (Int32 × zG)) = some (rr, gr) from hM) (by simp)
  | succ n ih =>
    intro  g  hM
    rw [X7_nextToken_l65.eq_2] at hM
    refine v_aload_n C 0 dX7_nextToken_65 rfl rfl ?_
    refine v_aload_n C 0 dX7_nextToken_66 rfl rfl ?_
    refine gf_RX7_81 C hX dX7_nextToken_67 ?_
    obtain ⟨x1, g2, e3, hM⟩ := zc_elim hM
    refine v_callVi (ci := 7) (rest := []) C (c_X7_see hX  e3) mw_X7_see mi_X7_see ml_RX7_84 hX.symm zm7 rfl rfl ⟨by decide, Nat.le_of_ble_eq_true rfl⟩ rfl (Nat.le_of_ble_eq_true rfl) dX7_nextToken_70 rfl ?_
    refine v_bipush C (nI 97) dX7_nextToken_73 zkb_97 ?_
    refine v_bipush C (nI 122) dX7_nextToken_75 zkb_122 ?_
    obtain ⟨x4, g5, e6, hM⟩ := zc_elim hM
    refine v_callSi (rest := []) C (c_X7_in hX  e6) mw_X7_in ms_X7_in ml_RX7_94 ⟨by decide, Nat.le_of_ble_eq_true rfl⟩ rfl (Nat.le_of_ble_eq_true rfl) dX7_nextToken_77 rfl ?_
    refine v_if_eq C 96 dX7_nextToken_80 rfl hM (fun hM => ?_) (fun hM => ?_)
    · refine v_aload_n C 0 dX7_nextToken_96 rfl rfl ?_
      refine v_aload_n C 0 dX7_nextToken_97 rfl rfl ?_
      refine gf_RX7_81 C hX dX7_nextToken_98 ?_
      refine v_aload_n C 0 dX7_nextToken_101 rfl rfl ?_
      refine gf_RX7_88 C hX dX7_nextToken_102 ?_
      refine v_isub C dX7_nextToken_105 ?_
      refine v_bipush C (nI 7) dX7_nextToken_106 zkb_7 ?_
      refine v_icmp_le C 115 dX7_nextToken_108 rfl hM (fun hM => ?_) (fun hM => ?_)
      · refine v_iconst C (nI 2) dX7_nextToken_115 zk_2 ?_
        exact v_weak (hk116 (nI 2) g5  hM) (show zsub [none, none] [some (.inr (.inl (7, 0))), none] from trivial)
      · refine v_iconst C (nI 1) dX7_nextToken_111 zk_1 ?_
        refine v_goto C 116 dX7_nextToken_112 rfl ?_
        exact v_weak (hk116 (nI 1) g5  hM) (show zsub [none, none] [some (.inr (.inl (7, 0))), none] from trivial)
    · refine v_aload_n C 0 dX7_nextToken_83 rfl rfl ?_
      refine v_dup_a C dX7_nextToken_84 ?_
      refine gf_RX7_81 C hX dX7_nextToken_85 ?_
      refine v_iconst C (nI 1) dX7_nextToken_88 zk_1 ?_
      refine v_iadd C dX7_nextToken_89 ?_
      refine pf_RX7_81 C hX dX7_nextToken_90 hM (fun g7 hM => ?_)
      refine v_goto C 65 dX7_nextToken_93 rfl ?_
      exact ih g7  hM

theorem t_X7_nextToken_b116 {s1 : Int32}  {g : zG} (hX : zfl X = true) (C : Cx X p (zrm 1) s m args meth c cX7_nextToken 2 RX7 0 0) (hr : meth.sig.returnType = none)   (hM : X7_nextToken_b116  s1 g = some (rr, gr)) : V X p l e (zrm 1) s m args below meth c 2 0 0 (MQ below (zQ X (Option.map (zM X) none) gr) args s 0 0 (zF X)) g 116 [none, none] [(.inl s1), (.inr (.inl (7, 0)))] := by
  unfold X7_nextToken_b116 at hM
  refine pf_RX7_91 C hX dX7_nextToken_116 hM (fun g1 hM => ?_)
  exact v_vret2 C hr dX7_nextToken_119 hM

theorem t_X7_nextToken_b194 {s1 : Int32} {k136 : zG → Option (Int32 × zG)} {g : zG} (hX : zfl X = true) (C : Cx X p (zrm 1) s m args meth c cX7_nextToken 2 RX7 0 0) (hr : meth.sig.returnType = none)  (hk136 : ∀  (g : zG),  k136  g = some (rr, gr) → V X p l e (zrm 1) s m args below meth c 2 0 0 (MQ below (zQ X (Option.map (zM X) none) gr) args s 0 0 (zF X)) g 136 [some (.inr (.inl (7, 0))), none] []) (hM : X7_nextToken_b194 k136 s1 g = some (rr, gr)) : V X p l e (zrm 1) s m args below meth c 2 0 0 (MQ below (zQ X (Option.map (zM X) none) gr) args s 0 0 (zF X)) g 194 [some (.inr (.inl (7, 0))), none] [(.inl s1), (.inr (.inl (7, 0)))] := by
  unfold X7_nextToken_b194 at hM
  refine pf_RX7_98 C hX dX7_nextToken_194 hM (fun g1 hM => ?_)
  refine v_aload_n C 0 dX7_nextToken_197 rfl rfl ?_
  refine v_dup_a C dX7_nextToken_198 ?_
  refine gf_RX7_81 C hX dX7_nextToken_199 ?_
  refine v_iconst C (nI 1) dX7_nextToken_202 zk_1 ?_
  refine v_iadd C dX7_nextToken_203 ?_
  refine pf_RX7_81 C hX dX7_nextToken_204 hM (fun g2 hM => ?_)
  refine v_goto C 136 dX7_nextToken_207 rfl ?_
  exact hk136  g2  hM

theorem t_X7_nextToken_l136 {k229 : Int32 → zG → Option (Int32 × zG)} (hX : zfl X = true) (C : Cx X p (zrm 1) s m args meth c cX7_nextToken 2 RX7 0 0) (hr : meth.sig.returnType = none) (hk229 : ∀ (s1 : Int32) (g : zG),  k229 s1 g = some (rr, gr) → V X p l e (zrm 1) s m args below meth c 2 0 0 (MQ below (zQ X (Option.map (zM X) none) gr) args s 0 0 (zF X)) g 229 [none, none] [(.inl s1), (.inr (.inl (7, 0)))]) : ∀ (n : Nat)  (g : zG), X7_nextToken_l136 k229 n  g = some (rr, gr) → V X p l e (zrm 1) s m args below meth c 2 0 0 (MQ below (zQ X (Option.map (zM X) none) gr) args s 0 0 (zF X)) g 136 [some (.inr (.inl (7, 0))), none] [] := by
  intro n
  induction n with
  | zero =>
    intro  g  hM
    exact absurd (show (none : Option (Int32 × zG)) = some (rr, gr) from hM) (by simp)
  | succ n ih =>
    intro  g  hM
    rw [X7_nextToken_l136.eq_2] at hM
    refine v_aload_n C 0 dX7_nextToken_136 rfl rfl ?_
    refine v_aload_n C 0 dX7_nextToken_137 rfl rfl ?_
    refine gf_RX7_81 C hX dX7_nextToken_138 ?_
    obtain ⟨x1, g2, e3, hM⟩ := zc_elim hM
    refine v_callVi (ci := 7) (rest := []) C (c_X7_see hX  e3) mw_X7_see mi_X7_see ml_RX7_84 hX.symm zm7 rfl rfl ⟨by decide, Nat.le_of_ble_eq_true rfl⟩ rfl (Nat.le_of_ble_eq_true rfl) dX7_nextToken_141 rfl ?_
    refine v_bipush C (nI 48) dX7_nextToken_144 zkb_48 ?_
    refine v_bipush C (nI 57) dX7_nextToken_146 zkb_57 ?_
    obtain ⟨x4, g5, e6, hM⟩ := zc_elim hM
    refine v_callSi (rest := []) C (c_X7_in hX  e6) mw_X7_in ms_X7_in ml_RX7_94 ⟨by decide, Nat.le_of_ble_eq_true rfl⟩ rfl (Nat.le_of_ble_eq_true rfl) dX7_nextToken_148 rfl ?_
    refine v_if_eq C 210 dX7_nextToken_151 rfl hM (fun hM => ?_) (fun hM => ?_)
    · refine v_aload_n C 0 dX7_nextToken_210 rfl rfl ?_
      refine v_aload_n C 0 dX7_nextToken_211 rfl rfl ?_
      refine gf_RX7_81 C hX dX7_nextToken_212 ?_
      refine v_aload_n C 0 dX7_nextToken_215 rfl rfl ?_
      refine gf_RX7_88 C hX dX7_nextToken_216 ?_
      refine v_isub C dX7_nextToken_219 ?_
      refine v_iconst C (nI 3) dX7_nextToken_220 zk_3 ?_
      refine v_icmp_le C 228 dX7_nextToken_221 rfl hM (fun hM => ?_) (fun hM => ?_)
      · refine v_iconst C (nI 3) dX7_nextToken_228 zk_3 ?_
        exact v_weak (hk229 (nI 3) g5  hM) (show zsub [none, none] [some (.inr (.inl (7, 0))), none] from trivial)
      · refine v_iconst C (nI 1) dX7_nextToken_224 zk_1 ?_
        refine v_goto C 229 dX7_nextToken_225 rfl ?_
        exact v_weak (hk229 (nI 1) g5  hM) (show zsub [none, none] [some (.inr (.inl (7, 0))), none] from trivial)
    · refine v_aload_n C 0 dX7_nextToken_154 rfl rfl ?_
      refine v_aload_n C 0 dX7_nextToken_155 rfl rfl ?_
      refine gf_RX7_81 C hX dX7_nextToken_156 ?_
      refine v_aload_n C 0 dX7_nextToken_159 rfl rfl ?_
      refine gf_RX7_88 C hX dX7_nextToken_160 ?_
      refine v_isub C dX7_nextToken_163 ?_
      refine v_iconst C (nI 3) dX7_nextToken_164 zk_3 ?_
      refine v_icmp_ge C 190 dX7_nextToken_165 rfl hM (fun hM => ?_) (fun hM => ?_)
      · refine v_aload_n C 0 dX7_nextToken_190 rfl rfl ?_
        refine gf_RX7_98 C hX dX7_nextToken_191 ?_
        exact t_X7_nextToken_b194 hX C hr  (fun  g  hM => ih g  hM) hM
      · refine v_bipush C (nI 10) dX7_nextToken_168 zkb_10 ?_
        refine v_aload_n C 0 dX7_nextToken_170 rfl rfl ?_
        refine gf_RX7_98 C hX dX7_nextToken_171 ?_
        refine v_imul C dX7_nextToken_174 ?_
        refine v_aload_n C 0 dX7_nextToken_175 rfl rfl ?_
        refine v_aload_n C 0 dX7_nextToken_176 rfl rfl ?_
        refine gf_RX7_81 C hX dX7_nextToken_177 ?_
        obtain ⟨x7, g8, e9, hM⟩ := zc_elim hM
        refine v_callVi (ci := 7) (rest := [(.inl ((nI 10) * (g5 26007 0 0))), (.inr (.inl (7, 0)))]) C (c_X7_see hX  e9) mw_X7_see mi_X7_see ml_RX7_84 hX.symm zm7 rfl rfl ⟨by decide, Nat.le_of_ble_eq_true rfl⟩ rfl (Nat.le_of_ble_eq_true rfl) dX7_nextToken_180 rfl ?_
        refine v_iadd C dX7_nextToken_183 ?_
        refine v_bipush C (nI 48) dX7_nextToken_184 zkb_48 ?_
        refine v_isub C dX7_nextToken_186 ?_
        refine v_goto C 194 dX7_nextToken_187 rfl ?_
        exact t_X7_nextToken_b194 hX C hr  (fun  g  hM => ih g  hM) hM

theorem t_X7_nextToken_b229 {s1 : Int32}  {g : zG} (hX : zfl X = true) (C : Cx X p (zrm 1) s m args meth c cX7_nextToken 2 RX7 0 0) (hr : meth.sig.returnType = none)   (hM : X7_nextToken_b229  s1 g = some (rr, gr)) : V X p l e (zrm 1) s m args below meth c 2 0 0 (MQ below (zQ X (Option.map (zM X) none) gr) args s 0 0 (zF X)) g 229 [none, none] [(.inl s1), (.inr (.inl (7, 0)))] := by
  unfold X7_nextToken_b229 at hM
  refine pf_RX7_91 C hX dX7_nextToken_229 hM (fun g1 hM => ?_)
  exact v_vret2 C hr dX7_nextToken_232 hM

theorem t_X7_nextToken_b255 {s1 : Int32}  {g : zG} (hX : zfl X = true) (C : Cx X p (zrm 1) s m args meth c cX7_nextToken 2 RX7 0 0) (hr : meth.sig.returnType = none)   (hM : X7_nextToken_b255  s1 g = some (rr, gr)) : V X p l e (zrm 1) s m args below meth c 2 0 0 (MQ below (zQ X (Option.map (zM X) none) gr) args s 0 0 (zF X)) g 255 [none, none] [(.inl s1), (.inr (.inl (7, 0)))] := by
  unfold X7_nextToken_b255 at hM
  refine pf_RX7_91 C hX dX7_nextToken_255 hM (fun g1 hM => ?_)
  exact v_vret2 C hr dX7_nextToken_258 hM

theorem c_X7_nextToken {X : zX} (hX : zfl X = true)  {g gr : zG} {rr : Int32}  (hM : X7_nextToken  g = some (rr, gr)) : MC X yX7_nextToken cX7_nextToken 2 none 1 [.inr (.inl (7, 0))] none g gr := by
  refine MC.mk (own := RX7) (L := [some (.inr (.inl (7, 0))), none]) (by decide) rfl trivial (Nat.le_of_ble_eq_true rfl) rfl ?_
  intro p l e s m args below meth c C hr
  unfold X7_nextToken at hM
  exact t_X7_nextToken_l0 hX C hr (by intro  g  hM; exact t_X7_nextToken_l65 hX C hr (by intro s1 g  hM; exact t_X7_nextToken_b116 hX C hr   hM) _ g  hM) (by intro  g  hM; exact t_X7_nextToken_l136 hX C hr (by intro s1 g  hM; exact t_X7_nextToken_b229 hX C hr   hM) _ g  hM) (by intro s1 g  hM; exact t_X7_nextToken_b255 hX C hr   hM) _ g  hM

theorem t_X7_isWord_l28  (hX : zfl X = true) (C : Cx X p (zrm 4) s m args meth c cX7_isWord 3 RX7 0 0) (hr : meth.sig.returnType = (some .boolean))  : ∀ (n : Nat) {v1 : Nat} {v2 : Int32} (g : zG), v1 < 19 → X7_isWord_l28  n v1 v2 g = some (rr, gr) → V X p l e (zrm 4) s m args below meth c 3 0 0 (MQ below (zQ X (Option.map (zM X) (some (.inl rr))) gr) args s 0 0 (zF X)) g 28 [some (.inr (.inl (7, 0))), some (.inr (.inl (60, v1))), some (.inl v2)] [] := by
  intro n
  induction n with
  | zero =>
    intro v1 v2 g hb_v1 hM
    exact absurd (show (none : Option (Int32 × zG)) = some (rr, gr) from hM) (by simp)
  | succ n ih =>
    intro v1 v2 g hb_v1 hM
    rw [X7_isWord_l28.eq_2] at hM
    refine v_iload_n C 2 dX7_isWord_28 rfl rfl ?_
    refine v_aload_n C 1 dX7_isWord_29 rfl rfl ?_
    refine v_strlen C hb_v1 ml_RX7_101 ⟨by decide, Nat.le_of_ble_eq_true rfl⟩ (Nat.le_of_ble_eq_true rfl) dX7_isWord_30 ?_
    refine v_icmp_ge C 63 dX7_isWord_33 rfl hM (fun hM => ?_) (fun hM => ?_)
    · refine v_iconst C (nI 1) dX7_isWord_63 zk_1 ?_
      exact v_zret2 C hr (zbo_n (Or.inr rfl)) dX7_isWord_64 hM
    · refine v_aload_n C 0 dX7_isWord_36 rfl rfl ?_
      refine gf_RX7_13 C hX dX7_isWord_37 ?_
      refine v_aload_n C 0 dX7_isWord_40 rfl rfl ?_
      refine gf_RX7_88 C hX dX7_isWord_41 ?_
      refine v_iload_n C 2 dX7_isWord_44 rfl rfl ?_
      refine v_iadd C dX7_isWord_45 ?_
      refine ia_30 C hX dX7_isWord_46 hM (fun hM _ => ?_)
      refine v_aload_n C 1 dX7_isWord_47 rfl rfl ?_
      refine v_iload_n C 2 dX7_isWord_48 rfl rfl ?_
      refine v_strchar C hb_v1 ml_RX7_107 ⟨by decide, Nat.le_of_ble_eq_true rfl⟩ (Nat.le_of_ble_eq_true rfl) dX7_isWord_49 hM (fun hM => ?_)
      refine v_icmp_eq C 57 dX7_isWord_52 rfl hM (fun hM => ?_) (fun hM => ?_)
      · refine v_iinc (L' := [some (.inr (.inl (7, 0))), some (.inr (.inl (60, v1))), some (.inl (v2 + (nI 1)))]) C 2 (nI 1) dX7_isWord_57 zk_1 (by decide) rfl rfl ?_
        refine v_goto C 28 dX7_isWord_60 rfl ?_
        exact ih g hb_v1 hM
      · refine v_iconst C (nI 0) dX7_isWord_55 zk_0 ?_
        exact v_zret2 C hr (zbo_n (Or.inl rfl)) dX7_isWord_56 hM

theorem c_X7_isWord {X : zX} (hX : zfl X = true) {v1 : Nat} {g gr : zG} {rr : Int32} (hb_v1 : v1 < 19) (hM : X7_isWord v1 g = some (rr, gr)) : MC X yX7_isWord cX7_isWord 3 (some .boolean) 4 [.inr (.inl (7, 0)), .inr (.inl (60, v1))] (some (.inl rr)) g gr := by
  refine MC.mk (own := RX7) (L := [some (.inr (.inl (7, 0))), some (.inr (.inl (60, v1))), none]) (by decide) rfl trivial (Nat.le_of_ble_eq_true rfl) rfl ?_
  intro p l e s m args below meth c C hr
  unfold X7_isWord at hM
  refine v_aload_n C 0 dX7_isWord_0 rfl rfl ?_
  refine gf_RX7_91 C hX dX7_isWord_1 ?_
  refine v_iconst C (nI 2) dX7_isWord_4 zk_2 ?_
  refine v_icmp_ne C 24 dX7_isWord_5 rfl hM (fun hM => ?_) (fun hM => ?_)
  · refine v_iconst C (nI 0) dX7_isWord_24 zk_0 ?_
    exact v_zret2 C hr (zbo_n (Or.inl rfl)) dX7_isWord_25 hM
  · refine v_aload_n C 0 dX7_isWord_8 rfl rfl ?_
    refine gf_RX7_81 C hX dX7_isWord_9 ?_
    refine v_aload_n C 0 dX7_isWord_12 rfl rfl ?_
    refine gf_RX7_88 C hX dX7_isWord_13 ?_
    refine v_isub C dX7_isWord_16 ?_
    refine v_aload_n C 1 dX7_isWord_17 rfl rfl ?_
    refine v_strlen C hb_v1 ml_RX7_101 ⟨by decide, Nat.le_of_ble_eq_true rfl⟩ (Nat.le_of_ble_eq_true rfl) dX7_isWord_18 ?_
    refine v_icmp_eq C 26 dX7_isWord_21 rfl hM (fun hM => ?_) (fun hM => ?_)
    · refine v_iconst C (nI 0) dX7_isWord_26 zk_0 ?_
      refine v_istore_n (L' := [some (.inr (.inl (7, 0))), some (.inr (.inl (60, v1))), some (.inl (nI 0))]) C 2 dX7_isWord_27 rfl (by decide) rfl ?_
      exact t_X7_isWord_l28 hX C hr  _ g hb_v1 hM
    · refine v_iconst C (nI 0) dX7_isWord_24 zk_0 ?_
      exact v_zret2 C hr (zbo_n (Or.inl rfl)) dX7_isWord_25 hM

theorem c_X7_errs {X : zX} (hX : zfl X = true) {v1 : Int32} {g gr : zG} {rr : Int32}  (hM : X7_errs v1 g = some (rr, gr)) : MC X yX7_errs cX7_errs 2 (some .int) 0 [.inr (.inl (7, 0)), .inl v1] (some (.inl rr)) g gr := by
  refine MC.mk (own := RX7) (L := [some (.inr (.inl (7, 0))), some (.inl v1)]) (by decide) rfl trivial (Nat.le_of_ble_eq_true rfl) rfl ?_
  intro p l e s m args below meth c C hr
  unfold X7_errs at hM
  refine v_aload_n C 0 dX7_errs_0 rfl rfl ?_
  refine v_iload_n C 1 dX7_errs_1 rfl rfl ?_
  refine pf_RX7_111 C hX dX7_errs_2 hM (fun g1 hM => ?_)
  refine v_aload_n C 0 dX7_errs_5 rfl rfl ?_
  refine v_aload_n C 0 dX7_errs_6 rfl rfl ?_
  refine gf_RX7_88 C hX dX7_errs_7 ?_
  refine pf_RX7_114 C hX dX7_errs_10 hM (fun g2 hM => ?_)
  refine v_iconst C (-1) dX7_errs_13 zk_m1 ?_
  exact v_iret2 C hr dX7_errs_14 hM

theorem c_X7_wholeHere {X : zX} (hX : zfl X = true) {v1 : Int32} {v2 : Int32} {g gr : zG} {rr : Int32}  (hM : X7_wholeHere v1 v2 g = some (rr, gr)) : MC X yX7_wholeHere cX7_wholeHere 3 (some .int) 1 [.inr (.inl (7, 0)), .inl v1, .inl v2] (some (.inl rr)) g gr := by
  refine MC.mk (own := RX7) (L := [some (.inr (.inl (7, 0))), some (.inl v1), some (.inl v2)]) (by decide) rfl trivial (Nat.le_of_ble_eq_true rfl) rfl ?_
  intro p l e s m args below meth c C hr
  unfold X7_wholeHere at hM
  refine v_aload_n C 0 dX7_wholeHere_0 rfl rfl ?_
  refine gf_RX7_91 C hX dX7_wholeHere_1 ?_
  refine v_iconst C (nI 3) dX7_wholeHere_4 zk_3 ?_
  refine v_icmp_eq C 14 dX7_wholeHere_5 rfl hM (fun hM => ?_) (fun hM => ?_)
  · refine v_aload_n C 0 dX7_wholeHere_14 rfl rfl ?_
    refine gf_RX7_98 C hX dX7_wholeHere_15 ?_
    refine v_iload_n C 1 dX7_wholeHere_18 rfl rfl ?_
    refine v_iload_n C 2 dX7_wholeHere_19 rfl rfl ?_
    obtain ⟨x1, g2, e3, hM⟩ := zc_elim hM
    refine v_callSi (rest := []) C (c_X7_in hX  e3) mw_X7_in ms_X7_in ml_RX7_94 ⟨by decide, Nat.le_of_ble_eq_true rfl⟩ rfl (Nat.le_of_ble_eq_true rfl) dX7_wholeHere_20 rfl ?_
    refine v_if_eq C 33 dX7_wholeHere_23 rfl hM (fun hM => ?_) (fun hM => ?_)
    · refine v_aload_n C 0 dX7_wholeHere_33 rfl rfl ?_
      refine v_iconst C (nI 2) dX7_wholeHere_34 zk_2 ?_
      obtain ⟨x4, g5, e6, hM⟩ := zc_elim hM
      refine v_callVi (ci := 7) (rest := []) C (c_X7_errs hX  e6) mw_X7_errs mi_X7_errs ml_RX7_117 hX.symm zm7 rfl rfl ⟨by decide, Nat.le_of_ble_eq_true rfl⟩ rfl (Nat.le_of_ble_eq_true rfl) dX7_wholeHere_35 rfl ?_
      exact v_iret2 C hr dX7_wholeHere_38 hM
    · refine v_aload_n C 0 dX7_wholeHere_26 rfl rfl ?_
      refine gf_RX7_98 C hX dX7_wholeHere_27 ?_
      refine v_goto C 38 dX7_wholeHere_30 rfl ?_
      exact v_iret2 C hr dX7_wholeHere_38 hM
  · refine v_aload_n C 0 dX7_wholeHere_8 rfl rfl ?_
    refine v_iconst C (nI 1) dX7_wholeHere_9 zk_1 ?_
    obtain ⟨x7, g8, e9, hM⟩ := zc_elim hM
    refine v_callVi (ci := 7) (rest := []) C (c_X7_errs hX  e9) mw_X7_errs mi_X7_errs ml_RX7_117 hX.symm zm7 rfl rfl ⟨by decide, Nat.le_of_ble_eq_true rfl⟩ rfl (Nat.le_of_ble_eq_true rfl) dX7_wholeHere_10 rfl ?_
    exact v_iret2 C hr dX7_wholeHere_13 hM

theorem c_X7_passes {X : zX} (hX : zfl X = true) {v1 : Int32} {v2 : Int32} {g gr : zG} {rr : Int32}  (hM : X7_passes v1 v2 g = some (rr, gr)) : MC X yX7_passes cX7_passes 4 (some .int) 2 [.inr (.inl (7, 0)), .inl v1, .inl v2] (some (.inl rr)) g gr := by
  refine MC.mk (own := RX7) (L := [some (.inr (.inl (7, 0))), some (.inl v1), some (.inl v2), none]) (by decide) rfl trivial (Nat.le_of_ble_eq_true rfl) rfl ?_
  intro p l e s m args below meth c C hr
  unfold X7_passes at hM
  refine v_aload_n C 0 dX7_passes_0 rfl rfl ?_
  refine v_iload_n C 1 dX7_passes_1 rfl rfl ?_
  refine v_iload_n C 2 dX7_passes_2 rfl rfl ?_
  obtain ⟨x1, g2, e3, hM⟩ := zc_elim hM
  refine v_callVi (ci := 7) (rest := []) C (c_X7_wholeHere hX  e3) mw_X7_wholeHere mi_X7_wholeHere ml_RX7_120 hX.symm zm7 rfl rfl ⟨by decide, Nat.le_of_ble_eq_true rfl⟩ rfl (Nat.le_of_ble_eq_true rfl) dX7_passes_3 rfl ?_
  refine v_istore_n (L' := [some (.inr (.inl (7, 0))), some (.inl v1), some (.inl v2), some (.inl x1)]) C 3 dX7_passes_6 rfl (by decide) rfl ?_
  refine v_iload_n C 3 dX7_passes_7 rfl rfl ?_
  refine v_iconst C (-1) dX7_passes_8 zk_m1 ?_
  refine v_icmp_eq C 16 dX7_passes_9 rfl hM (fun hM => ?_) (fun hM => ?_)
  · refine v_iload_n C 3 dX7_passes_16 rfl rfl ?_
    exact v_iret2 C hr dX7_passes_17 hM
  · refine v_aload_n C 0 dX7_passes_12 rfl rfl ?_
    obtain ⟨x4, g5, e6, hM⟩ := zc_elim hM
    refine v_callVv (ci := 7) (rest := []) C (c_X7_nextToken hX  e6) mw_X7_nextToken mi_X7_nextToken ml_RX7_124 hX.symm zm7 rfl rfl ⟨by decide, Nat.le_of_ble_eq_true rfl⟩ rfl (Nat.le_of_ble_eq_true rfl) dX7_passes_13 rfl ?_
    refine v_iload_n C 3 dX7_passes_16 rfl rfl ?_
    exact v_iret2 C hr dX7_passes_17 hM

theorem c_X7_after {X : zX} (hX : zfl X = true) {v1 : Nat} {v2 : Int32} {v3 : Int32} {g gr : zG} {rr : Int32} (hb_v1 : v1 < 19) (hM : X7_after v1 v2 v3 g = some (rr, gr)) : MC X yX7_after cX7_after 4 (some .int) 5 [.inr (.inl (7, 0)), .inr (.inl (60, v1)), .inl v2, .inl v3] (some (.inl rr)) g gr := by
  refine MC.mk (own := RX7) (L := [some (.inr (.inl (7, 0))), some (.inr (.inl (60, v1))), some (.inl v2), some (.inl v3)]) (by decide) rfl trivial (Nat.le_of_ble_eq_true rfl) rfl ?_
  intro p l e s m args below meth c C hr
  unfold X7_after at hM
  refine v_aload_n C 0 dX7_after_0 rfl rfl ?_
  refine v_aload_n C 1 dX7_after_1 rfl rfl ?_
  obtain ⟨x1, g2, e3, hM⟩ := zc_elim hM
  refine v_callVi (ci := 7) (rest := []) C (c_X7_isWord hX hb_v1 e3) mw_X7_isWord mi_X7_isWord ml_RX7_127 hX.symm zm7 rfl rfl ⟨by decide, Nat.le_of_ble_eq_true rfl⟩ rfl (Nat.le_of_ble_eq_true rfl) dX7_after_2 rfl ?_
  refine v_if_ne C 14 dX7_after_5 rfl hM (fun hM => ?_) (fun hM => ?_)
  · refine v_aload_n C 0 dX7_after_14 rfl rfl ?_
    obtain ⟨x4, g5, e6, hM⟩ := zc_elim hM
    refine v_callVv (ci := 7) (rest := []) C (c_X7_nextToken hX  e6) mw_X7_nextToken mi_X7_nextToken ml_RX7_124 hX.symm zm7 rfl rfl ⟨by decide, Nat.le_of_ble_eq_true rfl⟩ rfl (Nat.le_of_ble_eq_true rfl) dX7_after_15 rfl ?_
    refine v_aload_n C 0 dX7_after_18 rfl rfl ?_
    refine v_iload_n C 2 dX7_after_19 rfl rfl ?_
    refine v_iload_n C 3 dX7_after_20 rfl rfl ?_
    obtain ⟨x7, g8, e9, hM⟩ := zc_elim hM
    refine v_callVi (ci := 7) (rest := []) C (c_X7_passes hX  e9) mw_X7_passes mi_X7_passes ml_RX7_131 hX.symm zm7 rfl rfl ⟨by decide, Nat.le_of_ble_eq_true rfl⟩ rfl (Nat.le_of_ble_eq_true rfl) dX7_after_21 rfl ?_
    exact v_iret2 C hr dX7_after_24 hM
  · refine v_aload_n C 0 dX7_after_8 rfl rfl ?_
    refine v_iconst C (nI 1) dX7_after_9 zk_1 ?_
    obtain ⟨x10, g11, e12, hM⟩ := zc_elim hM
    refine v_callVi (ci := 7) (rest := []) C (c_X7_errs hX  e12) mw_X7_errs mi_X7_errs ml_RX7_117 hX.symm zm7 rfl rfl ⟨by decide, Nat.le_of_ble_eq_true rfl⟩ rfl (Nat.le_of_ble_eq_true rfl) dX7_after_10 rfl ?_
    exact v_iret2 C hr dX7_after_13 hM

theorem c_X7_power {X : zX} (hX : zfl X = true) {v1 : Nat} {g gr : zG} {rr : Int32} (hb_v1 : v1 < 19) (hM : X7_power v1 g = some (rr, gr)) : MC X yX7_power cX7_power 2 (some .int) 5 [.inr (.inl (7, 0)), .inr (.inl (60, v1))] (some (.inl rr)) g gr := by
  refine MC.mk (own := RX7) (L := [some (.inr (.inl (7, 0))), some (.inr (.inl (60, v1)))]) (by decide) rfl trivial (Nat.le_of_ble_eq_true rfl) rfl ?_
  intro p l e s m args below meth c C hr
  unfold X7_power at hM
  refine v_aload_n C 0 dX7_power_0 rfl rfl ?_
  refine v_aload_n C 1 dX7_power_1 rfl rfl ?_
  obtain ⟨x1, g2, e3, hM⟩ := zc_elim hM
  refine v_callVi (ci := 7) (rest := []) C (c_X7_isWord hX hb_v1 e3) mw_X7_isWord mi_X7_isWord ml_RX7_127 hX.symm zm7 rfl rfl ⟨by decide, Nat.le_of_ble_eq_true rfl⟩ rfl (Nat.le_of_ble_eq_true rfl) dX7_power_2 rfl ?_
  refine v_if_ne C 14 dX7_power_5 rfl hM (fun hM => ?_) (fun hM => ?_)
  · refine v_aload_n C 0 dX7_power_14 rfl rfl ?_
    obtain ⟨x4, g5, e6, hM⟩ := zc_elim hM
    refine v_callVv (ci := 7) (rest := []) C (c_X7_nextToken hX  e6) mw_X7_nextToken mi_X7_nextToken ml_RX7_124 hX.symm zm7 rfl rfl ⟨by decide, Nat.le_of_ble_eq_true rfl⟩ rfl (Nat.le_of_ble_eq_true rfl) dX7_power_15 rfl ?_
    refine v_aload_n C 0 dX7_power_18 rfl rfl ?_
    refine v_iconst C (nI 1) dX7_power_19 zk_1 ?_
    refine v_iconst C (nI 4) dX7_power_20 zk_4 ?_
    obtain ⟨x7, g8, e9, hM⟩ := zc_elim hM
    refine v_callVi (ci := 7) (rest := []) C (c_X7_wholeHere hX  e9) mw_X7_wholeHere mi_X7_wholeHere ml_RX7_120 hX.symm zm7 rfl rfl ⟨by decide, Nat.le_of_ble_eq_true rfl⟩ rfl (Nat.le_of_ble_eq_true rfl) dX7_power_21 rfl ?_
    refine v_iconst C (-1) dX7_power_24 zk_m1 ?_
    refine v_icmp_ne C 30 dX7_power_25 rfl hM (fun hM => ?_) (fun hM => ?_)
    · refine v_aload_n C 0 dX7_power_30 rfl rfl ?_
      refine gf_RX7_98 C hX dX7_power_31 ?_
      refine v_iconst C (nI 3) dX7_power_34 zk_3 ?_
      refine v_icmp_ne C 46 dX7_power_35 rfl hM (fun hM => ?_) (fun hM => ?_)
      · refine v_aload_n C 0 dX7_power_46 rfl rfl ?_
        refine v_iconst C (nI 1) dX7_power_47 zk_1 ?_
        refine v_iconst C (nI 4) dX7_power_48 zk_4 ?_
        obtain ⟨x10, g11, e12, hM⟩ := zc_elim hM
        refine v_callVi (ci := 7) (rest := []) C (c_X7_passes hX  e12) mw_X7_passes mi_X7_passes ml_RX7_131 hX.symm zm7 rfl rfl ⟨by decide, Nat.le_of_ble_eq_true rfl⟩ rfl (Nat.le_of_ble_eq_true rfl) dX7_power_49 rfl ?_
        exact v_iret2 C hr dX7_power_52 hM
      · refine v_aload_n C 0 dX7_power_38 rfl rfl ?_
        refine v_iconst C (nI 2) dX7_power_39 zk_2 ?_
        obtain ⟨x13, g14, e15, hM⟩ := zc_elim hM
        refine v_callVi (ci := 7) (rest := []) C (c_X7_errs hX  e15) mw_X7_errs mi_X7_errs ml_RX7_117 hX.symm zm7 rfl rfl ⟨by decide, Nat.le_of_ble_eq_true rfl⟩ rfl (Nat.le_of_ble_eq_true rfl) dX7_power_40 rfl ?_
        refine v_goto C 52 dX7_power_43 rfl ?_
        exact v_iret2 C hr dX7_power_52 hM
    · refine v_iconst C (-1) dX7_power_28 zk_m1 ?_
      exact v_iret2 C hr dX7_power_29 hM
  · refine v_aload_n C 0 dX7_power_8 rfl rfl ?_
    refine v_iconst C (nI 1) dX7_power_9 zk_1 ?_
    obtain ⟨x16, g17, e18, hM⟩ := zc_elim hM
    refine v_callVi (ci := 7) (rest := []) C (c_X7_errs hX  e18) mw_X7_errs mi_X7_errs ml_RX7_117 hX.symm zm7 rfl rfl ⟨by decide, Nat.le_of_ble_eq_true rfl⟩ rfl (Nat.le_of_ble_eq_true rfl) dX7_power_10 rfl ?_
    exact v_iret2 C hr dX7_power_13 hM

theorem t_X7_readMachine_b207 {s1 : Int32}  {g : zG} (hX : zfl X = true) (C : Cx X p (zrm 6) s m args meth c cX7_readMachine 1 RX7 0 0) (hr : meth.sig.returnType = (some .int))   (hM : X7_readMachine_b207  s1 g = some (rr, gr)) : V X p l e (zrm 6) s m args below meth c 1 0 0 (MQ below (zQ X (Option.map (zM X) (some (.inl rr))) gr) args s 0 0 (zF X)) g 207 [some (.inr (.inl (7, 0)))] [(.inl s1), (.inr (.inl (7, 0)))] := by
  unfold X7_readMachine_b207 at hM
  obtain ⟨hz, hM⟩ := zbo_elim hM
  refine pf_RX7_134 C hX dX7_readMachine_207 hz hM (fun g1 hM => ?_)
  refine v_aload_n C 0 dX7_readMachine_210 rfl rfl ?_
  refine gf_RX7_20 C hX dX7_readMachine_211 ?_
  refine v_iconst C (nI 4) dX7_readMachine_214 zk_4 ?_
  refine ia_32 C hX dX7_readMachine_215 hM (fun hM _ => ?_)
  exact v_iret2 C hr dX7_readMachine_216 hM

theorem t_X7_readMachine_b155 {s1 : Int32} {s2 : Int32}  {g : zG} (hX : zfl X = true) (C : Cx X p (zrm 6) s m args meth c cX7_readMachine 1 RX7 0 0) (hr : meth.sig.returnType = (some .int))   (hM : X7_readMachine_b155  s1 s2 g = some (rr, gr)) : V X p l e (zrm 6) s m args below meth c 1 0 0 (MQ below (zQ X (Option.map (zM X) (some (.inl rr))) gr) args s 0 0 (zF X)) g 155 [some (.inr (.inl (7, 0)))] [(.inl s2), (.inl s1), (.inr (.inl (32, 0)))] := by
  unfold X7_readMachine_b155 at hM
  refine is_32 C hX dX7_readMachine_155 hM (fun g1 hM => ?_)
  refine v_aload_n C 0 dX7_readMachine_156 rfl rfl ?_
  refine gf_RX7_20 C hX dX7_readMachine_157 ?_
  refine v_iconst C (nI 3) dX7_readMachine_160 zk_3 ?_
  refine ia_32 C hX dX7_readMachine_161 hM (fun hM _ => ?_)
  refine v_iconst C (-1) dX7_readMachine_162 zk_m1 ?_
  refine v_icmp_ne C 172 dX7_readMachine_163 rfl hM (fun hM => ?_) (fun hM => ?_)
  · refine v_aload_n C 0 dX7_readMachine_172 rfl rfl ?_
    obtain ⟨x2, g3, e4, hM⟩ := zc_elim hM
    refine v_callVv (ci := 7) (rest := []) C (c_X7_nextToken hX  e4) mw_X7_nextToken mi_X7_nextToken ml_RX7_124 hX.symm zm7 rfl rfl ⟨by decide, Nat.le_of_ble_eq_true rfl⟩ rfl (Nat.le_of_ble_eq_true rfl) dX7_readMachine_173 rfl ?_
    refine v_aload_n C 0 dX7_readMachine_176 rfl rfl ?_
    refine gf_RX7_20 C hX dX7_readMachine_177 ?_
    refine v_iconst C (nI 4) dX7_readMachine_180 zk_4 ?_
    refine v_aload_n C 0 dX7_readMachine_181 rfl rfl ?_
    refine v_ldcs C dX7_readMachine_182 ks_RX7_160 ?_
    refine v_iconst C (nI 1) dX7_readMachine_184 zk_1 ?_
    refine v_bipush C (nI 9) dX7_readMachine_185 zkb_9 ?_
    obtain ⟨x5, g6, e7, hM⟩ := zc_elim hM
    refine v_callVi (ci := 7) (rest := [(.inl (nI 4)), (.inr (.inl (32, 0)))]) C (c_X7_after hX (by decide) e7) mw_X7_after mi_X7_after ml_RX7_146 hX.symm zm7 rfl rfl ⟨by decide, Nat.le_of_ble_eq_true rfl⟩ rfl (Nat.le_of_ble_eq_true rfl) dX7_readMachine_187 rfl ?_
    refine is_32 C hX dX7_readMachine_190 hM (fun g8 hM => ?_)
    refine v_aload_n C 0 dX7_readMachine_191 rfl rfl ?_
    refine v_aload_n C 0 dX7_readMachine_192 rfl rfl ?_
    refine gf_RX7_20 C hX dX7_readMachine_193 ?_
    refine v_iconst C (nI 4) dX7_readMachine_196 zk_4 ?_
    refine ia_32 C hX dX7_readMachine_197 hM (fun hM _ => ?_)
    refine v_iconst C (-1) dX7_readMachine_198 zk_m1 ?_
    refine v_icmp_eq C 206 dX7_readMachine_199 rfl hM (fun hM => ?_) (fun hM => ?_)
    · refine v_iconst C (nI 0) dX7_readMachine_206 zk_0 ?_
      exact t_X7_readMachine_b207 hX C hr   hM
    · refine v_iconst C (nI 1) dX7_readMachine_202 zk_1 ?_
      refine v_goto C 207 dX7_readMachine_203 rfl ?_
      exact t_X7_readMachine_b207 hX C hr   hM
  · refine v_aload_n C 0 dX7_readMachine_166 rfl rfl ?_
    refine v_iconst C (nI 1) dX7_readMachine_167 zk_1 ?_
    obtain ⟨x9, g10, e11, hM⟩ := zc_elim hM
    refine v_callVi (ci := 7) (rest := []) C (c_X7_errs hX  e11) mw_X7_errs mi_X7_errs ml_RX7_117 hX.symm zm7 rfl rfl ⟨by decide, Nat.le_of_ble_eq_true rfl⟩ rfl (Nat.le_of_ble_eq_true rfl) dX7_readMachine_168 rfl ?_
    exact v_iret2 C hr dX7_readMachine_171 hM

theorem c_X7_readMachine {X : zX} (hX : zfl X = true)  {g gr : zG} {rr : Int32}  (hM : X7_readMachine  g = some (rr, gr)) : MC X yX7_readMachine cX7_readMachine 1 (some .int) 6 [.inr (.inl (7, 0))] (some (.inl rr)) g gr := by
  refine MC.mk (own := RX7) (L := [some (.inr (.inl (7, 0)))]) (by decide) rfl trivial (Nat.le_of_ble_eq_true rfl) rfl ?_
  intro p l e s m args below meth c C hr
  unfold X7_readMachine at hM
  refine v_aload_n C 0 dX7_readMachine_0 rfl rfl ?_
  refine gf_RX7_134 C hX dX7_readMachine_1 ?_
  refine v_if_eq C 13 dX7_readMachine_4 rfl hM (fun hM => ?_) (fun hM => ?_)
  · refine v_aload_n C 0 dX7_readMachine_13 rfl rfl ?_
    obtain ⟨x1, g2, e3, hM⟩ := zc_elim hM
    refine v_callVv (ci := 7) (rest := []) C (c_X7_nextToken hX  e3) mw_X7_nextToken mi_X7_nextToken ml_RX7_124 hX.symm zm7 rfl rfl ⟨by decide, Nat.le_of_ble_eq_true rfl⟩ rfl (Nat.le_of_ble_eq_true rfl) dX7_readMachine_14 rfl ?_
    refine v_aload_n C 0 dX7_readMachine_17 rfl rfl ?_
    refine gf_RX7_20 C hX dX7_readMachine_18 ?_
    refine v_iconst C (nI 0) dX7_readMachine_21 zk_0 ?_
    refine v_aload_n C 0 dX7_readMachine_22 rfl rfl ?_
    refine v_ldcs C dX7_readMachine_23 ks_RX7_138 ?_
    obtain ⟨x4, g5, e6, hM⟩ := zc_elim hM
    refine v_callVi (ci := 7) (rest := [(.inl (nI 0)), (.inr (.inl (32, 0)))]) C (c_X7_power hX (by decide) e6) mw_X7_power mi_X7_power ml_RX7_140 hX.symm zm7 rfl rfl ⟨by decide, Nat.le_of_ble_eq_true rfl⟩ rfl (Nat.le_of_ble_eq_true rfl) dX7_readMachine_25 rfl ?_
    refine is_32 C hX dX7_readMachine_28 hM (fun g7 hM => ?_)
    refine v_aload_n C 0 dX7_readMachine_29 rfl rfl ?_
    refine gf_RX7_20 C hX dX7_readMachine_30 ?_
    refine v_iconst C (nI 0) dX7_readMachine_33 zk_0 ?_
    refine ia_32 C hX dX7_readMachine_34 hM (fun hM _ => ?_)
    refine v_iconst C (-1) dX7_readMachine_35 zk_m1 ?_
    refine v_icmp_ne C 41 dX7_readMachine_36 rfl hM (fun hM => ?_) (fun hM => ?_)
    · refine v_aload_n C 0 dX7_readMachine_41 rfl rfl ?_
      refine gf_RX7_20 C hX dX7_readMachine_42 ?_
      refine v_iconst C (nI 1) dX7_readMachine_45 zk_1 ?_
      refine v_aload_n C 0 dX7_readMachine_46 rfl rfl ?_
      refine v_ldcs C dX7_readMachine_47 ks_RX7_144 ?_
      refine v_iconst C (nI 1) dX7_readMachine_49 zk_1 ?_
      refine v_iconst C (nI 4) dX7_readMachine_50 zk_4 ?_
      obtain ⟨x8, g9, e10, hM⟩ := zc_elim hM
      refine v_callVi (ci := 7) (rest := [(.inl (nI 1)), (.inr (.inl (32, 0)))]) C (c_X7_after hX (by decide) e10) mw_X7_after mi_X7_after ml_RX7_146 hX.symm zm7 rfl rfl ⟨by decide, Nat.le_of_ble_eq_true rfl⟩ rfl (Nat.le_of_ble_eq_true rfl) dX7_readMachine_51 rfl ?_
      refine is_32 C hX dX7_readMachine_54 hM (fun g11 hM => ?_)
      refine v_aload_n C 0 dX7_readMachine_55 rfl rfl ?_
      refine gf_RX7_20 C hX dX7_readMachine_56 ?_
      refine v_iconst C (nI 1) dX7_readMachine_59 zk_1 ?_
      refine ia_32 C hX dX7_readMachine_60 hM (fun hM _ => ?_)
      refine v_iconst C (-1) dX7_readMachine_61 zk_m1 ?_
      refine v_icmp_ne C 67 dX7_readMachine_62 rfl hM (fun hM => ?_) (fun hM => ?_)
      · refine v_aload_n C 0 dX7_readMachine_67 rfl rfl ?_
        refine gf_RX7_20 C hX dX7_readMachine_68 ?_
        refine v_iconst C (nI 2) dX7_readMachine_71 zk_2 ?_
        refine v_aload_n C 0 dX7_readMachine_72 rfl rfl ?_
        refine v_ldcs C dX7_readMachine_73 ks_RX7_150 ?_
        obtain ⟨x12, g13, e14, hM⟩ := zc_elim hM
        refine v_callVi (ci := 7) (rest := [(.inl (nI 2)), (.inr (.inl (32, 0)))]) C (c_X7_power hX (by decide) e14) mw_X7_power mi_X7_power ml_RX7_140 hX.symm zm7 rfl rfl ⟨by decide, Nat.le_of_ble_eq_true rfl⟩ rfl (Nat.le_of_ble_eq_true rfl) dX7_readMachine_75 rfl ?_
        refine is_32 C hX dX7_readMachine_78 hM (fun g15 hM => ?_)
        refine v_aload_n C 0 dX7_readMachine_79 rfl rfl ?_
        refine gf_RX7_20 C hX dX7_readMachine_80 ?_
        refine v_iconst C (nI 2) dX7_readMachine_83 zk_2 ?_
        refine ia_32 C hX dX7_readMachine_84 hM (fun hM _ => ?_)
        refine v_iconst C (-1) dX7_readMachine_85 zk_m1 ?_
        refine v_icmp_ne C 91 dX7_readMachine_86 rfl hM (fun hM => ?_) (fun hM => ?_)
        · refine v_aload_n C 0 dX7_readMachine_91 rfl rfl ?_
          refine v_ldcs C dX7_readMachine_92 ks_RX7_152 ?_
          obtain ⟨x16, g17, e18, hM⟩ := zc_elim hM
          refine v_callVi (ci := 7) (rest := []) C (c_X7_isWord hX (by decide) e18) mw_X7_isWord mi_X7_isWord ml_RX7_127 hX.symm zm7 rfl rfl ⟨by decide, Nat.le_of_ble_eq_true rfl⟩ rfl (Nat.le_of_ble_eq_true rfl) dX7_readMachine_94 rfl ?_
          refine v_if_ne C 106 dX7_readMachine_97 rfl hM (fun hM => ?_) (fun hM => ?_)
          · refine v_aload_n C 0 dX7_readMachine_106 rfl rfl ?_
            obtain ⟨x19, g20, e21, hM⟩ := zc_elim hM
            refine v_callVv (ci := 7) (rest := []) C (c_X7_nextToken hX  e21) mw_X7_nextToken mi_X7_nextToken ml_RX7_124 hX.symm zm7 rfl rfl ⟨by decide, Nat.le_of_ble_eq_true rfl⟩ rfl (Nat.le_of_ble_eq_true rfl) dX7_readMachine_107 rfl ?_
            refine v_aload_n C 0 dX7_readMachine_110 rfl rfl ?_
            refine gf_RX7_20 C hX dX7_readMachine_111 ?_
            refine v_iconst C (nI 3) dX7_readMachine_114 zk_3 ?_
            refine v_aload_n C 0 dX7_readMachine_115 rfl rfl ?_
            refine v_ldcs C dX7_readMachine_116 ks_RX7_154 ?_
            obtain ⟨x22, g23, e24, hM⟩ := zc_elim hM
            refine v_callVi (ci := 7) (rest := [(.inl (nI 3)), (.inr (.inl (32, 0)))]) C (c_X7_isWord hX (by decide) e24) mw_X7_isWord mi_X7_isWord ml_RX7_127 hX.symm zm7 rfl rfl ⟨by decide, Nat.le_of_ble_eq_true rfl⟩ rfl (Nat.le_of_ble_eq_true rfl) dX7_readMachine_118 rfl ?_
            refine v_if_eq C 128 dX7_readMachine_121 rfl hM (fun hM => ?_) (fun hM => ?_)
            · refine v_aload_n C 0 dX7_readMachine_128 rfl rfl ?_
              refine v_ldcs C dX7_readMachine_129 ks_RX7_156 ?_
              obtain ⟨x25, g26, e27, hM⟩ := zc_elim hM
              refine v_callVi (ci := 7) (rest := [(.inl (nI 3)), (.inr (.inl (32, 0)))]) C (c_X7_isWord hX (by decide) e27) mw_X7_isWord mi_X7_isWord ml_RX7_127 hX.symm zm7 rfl rfl ⟨by decide, Nat.le_of_ble_eq_true rfl⟩ rfl (Nat.le_of_ble_eq_true rfl) dX7_readMachine_131 rfl ?_
              refine v_if_eq C 141 dX7_readMachine_134 rfl hM (fun hM => ?_) (fun hM => ?_)
              · refine v_aload_n C 0 dX7_readMachine_141 rfl rfl ?_
                refine v_ldcs C dX7_readMachine_142 ks_RX7_158 ?_
                obtain ⟨x28, g29, e30, hM⟩ := zc_elim hM
                refine v_callVi (ci := 7) (rest := [(.inl (nI 3)), (.inr (.inl (32, 0)))]) C (c_X7_isWord hX (by decide) e30) mw_X7_isWord mi_X7_isWord ml_RX7_127 hX.symm zm7 rfl rfl ⟨by decide, Nat.le_of_ble_eq_true rfl⟩ rfl (Nat.le_of_ble_eq_true rfl) dX7_readMachine_144 rfl ?_
                refine v_if_eq C 154 dX7_readMachine_147 rfl hM (fun hM => ?_) (fun hM => ?_)
                · refine v_iconst C (-1) dX7_readMachine_154 zk_m1 ?_
                  exact t_X7_readMachine_b155 hX C hr   hM
                · refine v_iconst C (nI 2) dX7_readMachine_150 zk_2 ?_
                  refine v_goto C 155 dX7_readMachine_151 rfl ?_
                  exact t_X7_readMachine_b155 hX C hr   hM
              · refine v_iconst C (nI 1) dX7_readMachine_137 zk_1 ?_
                refine v_goto C 155 dX7_readMachine_138 rfl ?_
                exact t_X7_readMachine_b155 hX C hr   hM
            · refine v_iconst C (nI 0) dX7_readMachine_124 zk_0 ?_
              refine v_goto C 155 dX7_readMachine_125 rfl ?_
              exact t_X7_readMachine_b155 hX C hr   hM
          · refine v_aload_n C 0 dX7_readMachine_100 rfl rfl ?_
            refine v_iconst C (nI 1) dX7_readMachine_101 zk_1 ?_
            obtain ⟨x31, g32, e33, hM⟩ := zc_elim hM
            refine v_callVi (ci := 7) (rest := []) C (c_X7_errs hX  e33) mw_X7_errs mi_X7_errs ml_RX7_117 hX.symm zm7 rfl rfl ⟨by decide, Nat.le_of_ble_eq_true rfl⟩ rfl (Nat.le_of_ble_eq_true rfl) dX7_readMachine_102 rfl ?_
            exact v_iret2 C hr dX7_readMachine_105 hM
        · refine v_iconst C (-1) dX7_readMachine_89 zk_m1 ?_
          exact v_iret2 C hr dX7_readMachine_90 hM
      · refine v_iconst C (-1) dX7_readMachine_65 zk_m1 ?_
        exact v_iret2 C hr dX7_readMachine_66 hM
    · refine v_iconst C (-1) dX7_readMachine_39 zk_m1 ?_
      exact v_iret2 C hr dX7_readMachine_40 hM
  · refine v_aload_n C 0 dX7_readMachine_7 rfl rfl ?_
    refine v_iconst C (nI 3) dX7_readMachine_8 zk_3 ?_
    obtain ⟨x34, g35, e36, hM⟩ := zc_elim hM
    refine v_callVi (ci := 7) (rest := []) C (c_X7_errs hX  e36) mw_X7_errs mi_X7_errs ml_RX7_117 hX.symm zm7 rfl rfl ⟨by decide, Nat.le_of_ble_eq_true rfl⟩ rfl (Nat.le_of_ble_eq_true rfl) dX7_readMachine_9 rfl ?_
    exact v_iret2 C hr dX7_readMachine_12 hM

theorem c_X7_addresses {X : zX} (hX : zfl X = true) {v1 : Int32} {g gr : zG} {rr : Int32}  (hM : X7_addresses v1 g = some (rr, gr)) : MC X yX7_addresses cX7_addresses 2 (some .int) 0 [.inr (.inl (7, 0)), .inl v1] (some (.inl rr)) g gr := by
  refine MC.mk (own := RX7) (L := [some (.inr (.inl (7, 0))), some (.inl v1)]) (by decide) rfl trivial (Nat.le_of_ble_eq_true rfl) rfl ?_
  intro p l e s m args below meth c C hr
  unfold X7_addresses at hM
  refine v_bipush C (nI 16) dX7_addresses_0 zkb_16 ?_
  refine v_iload_n C 1 dX7_addresses_2 rfl rfl ?_
  refine v_imul C dX7_addresses_3 ?_
  exact v_iret2 C hr dX7_addresses_4 hM

theorem c_X7_readToldWord {X : zX} (hX : zfl X = true)  {g gr : zG} {rr : Int32}  (hM : X7_readToldWord  g = some (rr, gr)) : MC X yX7_readToldWord cX7_readToldWord 3 (some .int) 3 [.inr (.inl (7, 0))] (some (.inl rr)) g gr := by
  refine MC.mk (own := RX7) (L := [some (.inr (.inl (7, 0))), none, none]) (by decide) rfl trivial (Nat.le_of_ble_eq_true rfl) rfl ?_
  intro p l e s m args below meth c C hr
  unfold X7_readToldWord at hM
  refine v_aload_n C 0 dX7_readToldWord_0 rfl rfl ?_
  refine gf_RX7_162 C hX dX7_readToldWord_1 ?_
  refine v_bipush C (nI 12) dX7_readToldWord_4 zkb_12 ?_
  refine v_icmp_ne C 15 dX7_readToldWord_6 rfl hM (fun hM => ?_) (fun hM => ?_)
  · refine v_aload_n C 0 dX7_readToldWord_15 rfl rfl ?_
    refine gf_RX7_134 C hX dX7_readToldWord_16 ?_
    refine v_if_ne C 28 dX7_readToldWord_19 rfl hM (fun hM => ?_) (fun hM => ?_)
    · refine v_aload_n C 0 dX7_readToldWord_28 rfl rfl ?_
      obtain ⟨x1, g2, e3, hM⟩ := zc_elim hM
      refine v_callVv (ci := 7) (rest := []) C (c_X7_nextToken hX  e3) mw_X7_nextToken mi_X7_nextToken ml_RX7_124 hX.symm zm7 rfl rfl ⟨by decide, Nat.le_of_ble_eq_true rfl⟩ rfl (Nat.le_of_ble_eq_true rfl) dX7_readToldWord_29 rfl ?_
      refine v_aload_n C 0 dX7_readToldWord_32 rfl rfl ?_
      refine v_iconst C (nI 0) dX7_readToldWord_33 zk_0 ?_
      refine v_aload_n C 0 dX7_readToldWord_34 rfl rfl ?_
      refine v_aload_n C 0 dX7_readToldWord_35 rfl rfl ?_
      refine gf_RX7_20 C hX dX7_readToldWord_36 ?_
      refine v_iconst C (nI 2) dX7_readToldWord_39 zk_2 ?_
      refine ia_32 C hX dX7_readToldWord_40 hM (fun hM _ => ?_)
      obtain ⟨x4, g5, e6, hM⟩ := zc_elim hM
      refine v_callVi (ci := 7) (rest := [(.inl (nI 0)), (.inr (.inl (7, 0)))]) C (c_X7_addresses hX  e6) mw_X7_addresses mi_X7_addresses ml_RX7_165 hX.symm zm7 rfl rfl ⟨by decide, Nat.le_of_ble_eq_true rfl⟩ rfl (Nat.le_of_ble_eq_true rfl) dX7_readToldWord_41 rfl ?_
      refine v_iconst C (nI 1) dX7_readToldWord_44 zk_1 ?_
      refine v_isub C dX7_readToldWord_45 ?_
      obtain ⟨x7, g8, e9, hM⟩ := zc_elim hM
      refine v_callVi (ci := 7) (rest := []) C (c_X7_wholeHere hX  e9) mw_X7_wholeHere mi_X7_wholeHere ml_RX7_120 hX.symm zm7 rfl rfl ⟨by decide, Nat.le_of_ble_eq_true rfl⟩ rfl (Nat.le_of_ble_eq_true rfl) dX7_readToldWord_46 rfl ?_
      refine v_istore_n (L' := [some (.inr (.inl (7, 0))), some (.inl x7), none]) C 1 dX7_readToldWord_49 rfl (by decide) rfl ?_
      refine v_iload_n C 1 dX7_readToldWord_50 rfl rfl ?_
      refine v_iconst C (-1) dX7_readToldWord_51 zk_m1 ?_
      refine v_icmp_ne C 57 dX7_readToldWord_52 rfl hM (fun hM => ?_) (fun hM => ?_)
      · refine v_aload_n C 0 dX7_readToldWord_57 rfl rfl ?_
        refine gf_RX7_26 C hX dX7_readToldWord_58 ?_
        refine v_iload_n C 1 dX7_readToldWord_61 rfl rfl ?_
        refine ia_34 C hX dX7_readToldWord_62 hM (fun hM _ => ?_)
        refine v_iconst C (-1) dX7_readToldWord_63 zk_m1 ?_
        refine v_icmp_eq C 73 dX7_readToldWord_64 rfl hM (fun hM => ?_) (fun hM => ?_)
        · refine v_aload_n C 0 dX7_readToldWord_73 rfl rfl ?_
          obtain ⟨x10, g11, e12, hM⟩ := zc_elim hM
          refine v_callVv (ci := 7) (rest := []) C (c_X7_nextToken hX  e12) mw_X7_nextToken mi_X7_nextToken ml_RX7_124 hX.symm zm7 rfl rfl ⟨by decide, Nat.le_of_ble_eq_true rfl⟩ rfl (Nat.le_of_ble_eq_true rfl) dX7_readToldWord_74 rfl ?_
          refine v_aload_n C 0 dX7_readToldWord_77 rfl rfl ?_
          refine v_iconst C (nI 0) dX7_readToldWord_78 zk_0 ?_
          refine v_sipush C (nI 999) dX7_readToldWord_79 zks_999 ?_
          obtain ⟨x13, g14, e15, hM⟩ := zc_elim hM
          refine v_callVi (ci := 7) (rest := []) C (c_X7_passes hX  e15) mw_X7_passes mi_X7_passes ml_RX7_131 hX.symm zm7 rfl rfl ⟨by decide, Nat.le_of_ble_eq_true rfl⟩ rfl (Nat.le_of_ble_eq_true rfl) dX7_readToldWord_82 rfl ?_
          refine v_istore_n (L' := [some (.inr (.inl (7, 0))), some (.inl x7), some (.inl x13)]) C 2 dX7_readToldWord_85 rfl (by decide) rfl ?_
          refine v_iload_n C 2 dX7_readToldWord_86 rfl rfl ?_
          refine v_iconst C (-1) dX7_readToldWord_87 zk_m1 ?_
          refine v_icmp_ne C 93 dX7_readToldWord_88 rfl hM (fun hM => ?_) (fun hM => ?_)
          · refine v_aload_n C 0 dX7_readToldWord_93 rfl rfl ?_
            refine gf_RX7_26 C hX dX7_readToldWord_94 ?_
            refine v_iload_n C 1 dX7_readToldWord_97 rfl rfl ?_
            refine v_iload_n C 2 dX7_readToldWord_98 rfl rfl ?_
            refine is_34 C hX dX7_readToldWord_99 hM (fun g16 hM => ?_)
            refine v_aload_n C 0 dX7_readToldWord_100 rfl rfl ?_
            refine v_dup_a C dX7_readToldWord_101 ?_
            refine gf_RX7_162 C hX dX7_readToldWord_102 ?_
            refine v_iconst C (nI 1) dX7_readToldWord_105 zk_1 ?_
            refine v_iadd C dX7_readToldWord_106 ?_
            refine pf_RX7_162 C hX dX7_readToldWord_107 hM (fun g17 hM => ?_)
            refine v_iconst C (nI 0) dX7_readToldWord_110 zk_0 ?_
            exact v_iret2 C hr dX7_readToldWord_111 hM
          · refine v_iconst C (-1) dX7_readToldWord_91 zk_m1 ?_
            exact v_iret2 C hr dX7_readToldWord_92 hM
        · refine v_aload_n C 0 dX7_readToldWord_67 rfl rfl ?_
          refine v_iconst C (nI 3) dX7_readToldWord_68 zk_3 ?_
          obtain ⟨x18, g19, e20, hM⟩ := zc_elim hM
          refine v_callVi (ci := 7) (rest := []) C (c_X7_errs hX  e20) mw_X7_errs mi_X7_errs ml_RX7_117 hX.symm zm7 rfl rfl ⟨by decide, Nat.le_of_ble_eq_true rfl⟩ rfl (Nat.le_of_ble_eq_true rfl) dX7_readToldWord_69 rfl ?_
          exact v_iret2 C hr dX7_readToldWord_72 hM
      · refine v_iconst C (-1) dX7_readToldWord_55 zk_m1 ?_
        exact v_iret2 C hr dX7_readToldWord_56 hM
    · refine v_aload_n C 0 dX7_readToldWord_22 rfl rfl ?_
      refine v_iconst C (nI 5) dX7_readToldWord_23 zk_5 ?_
      obtain ⟨x21, g22, e23, hM⟩ := zc_elim hM
      refine v_callVi (ci := 7) (rest := []) C (c_X7_errs hX  e23) mw_X7_errs mi_X7_errs ml_RX7_117 hX.symm zm7 rfl rfl ⟨by decide, Nat.le_of_ble_eq_true rfl⟩ rfl (Nat.le_of_ble_eq_true rfl) dX7_readToldWord_24 rfl ?_
      exact v_iret2 C hr dX7_readToldWord_27 hM
  · refine v_aload_n C 0 dX7_readToldWord_9 rfl rfl ?_
    refine v_iconst C (nI 4) dX7_readToldWord_10 zk_4 ?_
    obtain ⟨x24, g25, e26, hM⟩ := zc_elim hM
    refine v_callVi (ci := 7) (rest := []) C (c_X7_errs hX  e26) mw_X7_errs mi_X7_errs ml_RX7_117 hX.symm zm7 rfl rfl ⟨by decide, Nat.le_of_ble_eq_true rfl⟩ rfl (Nat.le_of_ble_eq_true rfl) dX7_readToldWord_11 rfl ?_
    exact v_iret2 C hr dX7_readToldWord_14 hM

theorem c_X7_readCore {X : zX} (hX : zfl X = true)  {g gr : zG} {rr : Int32}  (hM : X7_readCore  g = some (rr, gr)) : MC X yX7_readCore cX7_readCore 1 (some .int) 2 [.inr (.inl (7, 0))] (some (.inl rr)) g gr := by
  refine MC.mk (own := RX7) (L := [some (.inr (.inl (7, 0)))]) (by decide) rfl trivial (Nat.le_of_ble_eq_true rfl) rfl ?_
  intro p l e s m args below meth c C hr
  unfold X7_readCore at hM
  refine v_aload_n C 0 dX7_readCore_0 rfl rfl ?_
  refine gf_RX7_20 C hX dX7_readCore_1 ?_
  refine v_iconst C (nI 5) dX7_readCore_4 zk_5 ?_
  refine ia_32 C hX dX7_readCore_5 hM (fun hM _ => ?_)
  refine v_iconst C (nI 4) dX7_readCore_6 zk_4 ?_
  refine v_icmp_ne C 16 dX7_readCore_7 rfl hM (fun hM => ?_) (fun hM => ?_)
  · refine v_aload_n C 0 dX7_readCore_16 rfl rfl ?_
    refine gf_RX7_134 C hX dX7_readCore_17 ?_
    refine v_if_ne C 29 dX7_readCore_20 rfl hM (fun hM => ?_) (fun hM => ?_)
    · refine v_aload_n C 0 dX7_readCore_29 rfl rfl ?_
      refine gf_RX7_168 C hX dX7_readCore_30 ?_
      refine v_if_eq C 43 dX7_readCore_33 rfl hM (fun hM => ?_) (fun hM => ?_)
      · refine v_aload_n C 0 dX7_readCore_43 rfl rfl ?_
        refine gf_RX7_32 C hX dX7_readCore_44 ?_
        refine v_aload_n C 0 dX7_readCore_47 rfl rfl ?_
        refine gf_RX7_20 C hX dX7_readCore_48 ?_
        refine v_iconst C (nI 5) dX7_readCore_51 zk_5 ?_
        refine ia_32 C hX dX7_readCore_52 hM (fun hM _ => ?_)
        refine v_iconst C (nI 0) dX7_readCore_53 zk_0 ?_
        refine is_36 C hX dX7_readCore_54 hM (fun g1 hM => ?_)
        refine v_aload_n C 0 dX7_readCore_55 rfl rfl ?_
        refine gf_RX7_20 C hX dX7_readCore_56 ?_
        refine v_iconst C (nI 5) dX7_readCore_59 zk_5 ?_
        refine v_dup2 C dX7_readCore_60 ?_
        refine ia_32 C hX dX7_readCore_61 hM (fun hM _ => ?_)
        refine v_iconst C (nI 1) dX7_readCore_62 zk_1 ?_
        refine v_iadd C dX7_readCore_63 ?_
        refine is_32 C hX dX7_readCore_64 hM (fun g2 hM => ?_)
        refine v_aload_n C 0 dX7_readCore_65 rfl rfl ?_
        obtain ⟨x3, g4, e5, hM⟩ := zc_elim hM
        refine v_callVv (ci := 7) (rest := []) C (c_X7_nextToken hX  e5) mw_X7_nextToken mi_X7_nextToken ml_RX7_124 hX.symm zm7 rfl rfl ⟨by decide, Nat.le_of_ble_eq_true rfl⟩ rfl (Nat.le_of_ble_eq_true rfl) dX7_readCore_66 rfl ?_
        refine v_iconst C (nI 0) dX7_readCore_69 zk_0 ?_
        exact v_iret2 C hr dX7_readCore_70 hM
      · refine v_aload_n C 0 dX7_readCore_36 rfl rfl ?_
        refine v_bipush C (nI 6) dX7_readCore_37 zkb_6 ?_
        obtain ⟨x6, g7, e8, hM⟩ := zc_elim hM
        refine v_callVi (ci := 7) (rest := []) C (c_X7_errs hX  e8) mw_X7_errs mi_X7_errs ml_RX7_117 hX.symm zm7 rfl rfl ⟨by decide, Nat.le_of_ble_eq_true rfl⟩ rfl (Nat.le_of_ble_eq_true rfl) dX7_readCore_39 rfl ?_
        exact v_iret2 C hr dX7_readCore_42 hM
    · refine v_aload_n C 0 dX7_readCore_23 rfl rfl ?_
      refine v_iconst C (nI 5) dX7_readCore_24 zk_5 ?_
      obtain ⟨x9, g10, e11, hM⟩ := zc_elim hM
      refine v_callVi (ci := 7) (rest := []) C (c_X7_errs hX  e11) mw_X7_errs mi_X7_errs ml_RX7_117 hX.symm zm7 rfl rfl ⟨by decide, Nat.le_of_ble_eq_true rfl⟩ rfl (Nat.le_of_ble_eq_true rfl) dX7_readCore_25 rfl ?_
      exact v_iret2 C hr dX7_readCore_28 hM
  · refine v_aload_n C 0 dX7_readCore_10 rfl rfl ?_
    refine v_iconst C (nI 4) dX7_readCore_11 zk_4 ?_
    obtain ⟨x12, g13, e14, hM⟩ := zc_elim hM
    refine v_callVi (ci := 7) (rest := []) C (c_X7_errs hX  e14) mw_X7_errs mi_X7_errs ml_RX7_117 hX.symm zm7 rfl rfl ⟨by decide, Nat.le_of_ble_eq_true rfl⟩ rfl (Nat.le_of_ble_eq_true rfl) dX7_readCore_12 rfl ?_
    exact v_iret2 C hr dX7_readCore_15 hM

theorem c_X7_sortHere {X : zX} (hX : zfl X = true)  {g gr : zG} {rr : Int32}  (hM : X7_sortHere  g = some (rr, gr)) : MC X yX7_sortHere cX7_sortHere 1 (some .int) 5 [.inr (.inl (7, 0))] (some (.inl rr)) g gr := by
  refine MC.mk (own := RX7) (L := [some (.inr (.inl (7, 0)))]) (by decide) rfl trivial (Nat.le_of_ble_eq_true rfl) rfl ?_
  intro p l e s m args below meth c C hr
  unfold X7_sortHere at hM
  refine v_aload_n C 0 dX7_sortHere_0 rfl rfl ?_
  refine v_ldcs C dX7_sortHere_1 ks_RX7_171 ?_
  obtain ⟨x1, g2, e3, hM⟩ := zc_elim hM
  refine v_callVi (ci := 7) (rest := []) C (c_X7_isWord hX (by decide) e3) mw_X7_isWord mi_X7_isWord ml_RX7_127 hX.symm zm7 rfl rfl ⟨by decide, Nat.le_of_ble_eq_true rfl⟩ rfl (Nat.le_of_ble_eq_true rfl) dX7_sortHere_3 rfl ?_
  refine v_if_eq C 11 dX7_sortHere_6 rfl hM (fun hM => ?_) (fun hM => ?_)
  · refine v_aload_n C 0 dX7_sortHere_11 rfl rfl ?_
    refine v_ldcs C dX7_sortHere_12 ks_RX7_173 ?_
    obtain ⟨x4, g5, e6, hM⟩ := zc_elim hM
    refine v_callVi (ci := 7) (rest := []) C (c_X7_isWord hX (by decide) e6) mw_X7_isWord mi_X7_isWord ml_RX7_127 hX.symm zm7 rfl rfl ⟨by decide, Nat.le_of_ble_eq_true rfl⟩ rfl (Nat.le_of_ble_eq_true rfl) dX7_sortHere_14 rfl ?_
    refine v_if_eq C 22 dX7_sortHere_17 rfl hM (fun hM => ?_) (fun hM => ?_)
    · refine v_aload_n C 0 dX7_sortHere_22 rfl rfl ?_
      refine v_ldcs C dX7_sortHere_23 ks_RX7_175 ?_
      obtain ⟨x7, g8, e9, hM⟩ := zc_elim hM
      refine v_callVi (ci := 7) (rest := []) C (c_X7_isWord hX (by decide) e9) mw_X7_isWord mi_X7_isWord ml_RX7_127 hX.symm zm7 rfl rfl ⟨by decide, Nat.le_of_ble_eq_true rfl⟩ rfl (Nat.le_of_ble_eq_true rfl) dX7_sortHere_25 rfl ?_
      refine v_if_eq C 33 dX7_sortHere_28 rfl hM (fun hM => ?_) (fun hM => ?_)
      · refine v_aload_n C 0 dX7_sortHere_33 rfl rfl ?_
        refine v_ldcs C dX7_sortHere_34 ks_RX7_177 ?_
        obtain ⟨x10, g11, e12, hM⟩ := zc_elim hM
        refine v_callVi (ci := 7) (rest := []) C (c_X7_isWord hX (by decide) e12) mw_X7_isWord mi_X7_isWord ml_RX7_127 hX.symm zm7 rfl rfl ⟨by decide, Nat.le_of_ble_eq_true rfl⟩ rfl (Nat.le_of_ble_eq_true rfl) dX7_sortHere_36 rfl ?_
        refine v_if_eq C 44 dX7_sortHere_39 rfl hM (fun hM => ?_) (fun hM => ?_)
        · refine v_aload_n C 0 dX7_sortHere_44 rfl rfl ?_
          refine v_ldcs C dX7_sortHere_45 ks_RX7_179 ?_
          obtain ⟨x13, g14, e15, hM⟩ := zc_elim hM
          refine v_callVi (ci := 7) (rest := []) C (c_X7_isWord hX (by decide) e15) mw_X7_isWord mi_X7_isWord ml_RX7_127 hX.symm zm7 rfl rfl ⟨by decide, Nat.le_of_ble_eq_true rfl⟩ rfl (Nat.le_of_ble_eq_true rfl) dX7_sortHere_47 rfl ?_
          refine v_if_eq C 55 dX7_sortHere_50 rfl hM (fun hM => ?_) (fun hM => ?_)
          · refine v_aload_n C 0 dX7_sortHere_55 rfl rfl ?_
            refine v_ldcs C dX7_sortHere_56 ks_RX7_181 ?_
            obtain ⟨x16, g17, e18, hM⟩ := zc_elim hM
            refine v_callVi (ci := 7) (rest := []) C (c_X7_isWord hX (by decide) e18) mw_X7_isWord mi_X7_isWord ml_RX7_127 hX.symm zm7 rfl rfl ⟨by decide, Nat.le_of_ble_eq_true rfl⟩ rfl (Nat.le_of_ble_eq_true rfl) dX7_sortHere_58 rfl ?_
            refine v_if_eq C 68 dX7_sortHere_61 rfl hM (fun hM => ?_) (fun hM => ?_)
            · refine v_aload_n C 0 dX7_sortHere_68 rfl rfl ?_
              refine v_ldcs C dX7_sortHere_69 ks_RX7_183 ?_
              obtain ⟨x19, g20, e21, hM⟩ := zc_elim hM
              refine v_callVi (ci := 7) (rest := []) C (c_X7_isWord hX (by decide) e21) mw_X7_isWord mi_X7_isWord ml_RX7_127 hX.symm zm7 rfl rfl ⟨by decide, Nat.le_of_ble_eq_true rfl⟩ rfl (Nat.le_of_ble_eq_true rfl) dX7_sortHere_71 rfl ?_
              refine v_if_eq C 82 dX7_sortHere_74 rfl hM (fun hM => ?_) (fun hM => ?_)
              · refine v_iconst C (-1) dX7_sortHere_82 zk_m1 ?_
                exact v_iret2 C hr dX7_sortHere_83 hM
              · refine v_bipush C (nI 6) dX7_sortHere_77 zkb_6 ?_
                refine v_goto C 83 dX7_sortHere_79 rfl ?_
                exact v_iret2 C hr dX7_sortHere_83 hM
            · refine v_iconst C (nI 5) dX7_sortHere_64 zk_5 ?_
              refine v_goto C 83 dX7_sortHere_65 rfl ?_
              exact v_iret2 C hr dX7_sortHere_83 hM
          · refine v_iconst C (nI 4) dX7_sortHere_53 zk_4 ?_
            exact v_iret2 C hr dX7_sortHere_54 hM
        · refine v_iconst C (nI 3) dX7_sortHere_42 zk_3 ?_
          exact v_iret2 C hr dX7_sortHere_43 hM
      · refine v_iconst C (nI 2) dX7_sortHere_31 zk_2 ?_
        exact v_iret2 C hr dX7_sortHere_32 hM
    · refine v_iconst C (nI 1) dX7_sortHere_20 zk_1 ?_
      exact v_iret2 C hr dX7_sortHere_21 hM
  · refine v_iconst C (nI 0) dX7_sortHere_9 zk_0 ?_
    exact v_iret2 C hr dX7_sortHere_10 hM

theorem t_X7_readDeed_b41   {g : zG} (hX : zfl X = true) (C : Cx X p (zrm 5) s m args meth c cX7_readDeed 4 RX7 0 0) (hr : meth.sig.returnType = (some .int))   (hM : X7_readDeed_b41   g = some (rr, gr)) : V X p l e (zrm 5) s m args below meth c 4 0 0 (MQ below (zQ X (Option.map (zM X) (some (.inl rr))) gr) args s 0 0 (zF X)) g 41 [some (.inr (.inl (7, 0))), none, none, none] [] := by
  unfold X7_readDeed_b41 at hM
  refine v_aload_n C 0 dX7_readDeed_41 rfl rfl ?_
  refine v_iconst C (nI 5) dX7_readDeed_42 zk_5 ?_
  obtain ⟨x1, g2, e3, hM⟩ := zc_elim hM
  refine v_callVi (ci := 7) (rest := []) C (c_X7_errs hX  e3) mw_X7_errs mi_X7_errs ml_RX7_117 hX.symm zm7 rfl rfl ⟨by decide, Nat.le_of_ble_eq_true rfl⟩ rfl (Nat.le_of_ble_eq_true rfl) dX7_readDeed_43 rfl ?_
  exact v_iret2 C hr dX7_readDeed_46 hM

theorem t_X7_readDeed_b223 {v2 : Int32} {s1 : Int32}  {g : zG} (hX : zfl X = true) (C : Cx X p (zrm 5) s m args meth c cX7_readDeed 4 RX7 0 0) (hr : meth.sig.returnType = (some .int))   (hM : X7_readDeed_b223  v2 s1 g = some (rr, gr)) : V X p l e (zrm 5) s m args below meth c 4 0 0 (MQ below (zQ X (Option.map (zM X) (some (.inl rr))) gr) args s 0 0 (zF X)) g 223 [some (.inr (.inl (7, 0))), none, some (.inl v2), none] [(.inl s1), (.inr (.inl (7, 0)))] := by
  unfold X7_readDeed_b223 at hM
  obtain ⟨hz, hM⟩ := zbo_elim hM
  refine pf_RX7_168 C hX dX7_readDeed_223 hz hM (fun g1 hM => ?_)
  refine v_aload_n C 0 dX7_readDeed_226 rfl rfl ?_
  refine gf_RX7_32 C hX dX7_readDeed_227 ?_
  refine v_iload_n C 2 dX7_readDeed_230 rfl rfl ?_
  refine v_dup2 C dX7_readDeed_231 ?_
  refine ia_36 C hX dX7_readDeed_232 hM (fun hM _ => ?_)
  refine v_iconst C (nI 1) dX7_readDeed_233 zk_1 ?_
  refine v_iadd C dX7_readDeed_234 ?_
  refine is_36 C hX dX7_readDeed_235 hM (fun g2 hM => ?_)
  refine v_iconst C (nI 0) dX7_readDeed_236 zk_0 ?_
  exact v_iret2 C hr dX7_readDeed_237 hM

theorem t_X7_readDeed_b218 {v2 : Int32}  {g : zG} (hX : zfl X = true) (C : Cx X p (zrm 5) s m args meth c cX7_readDeed 4 RX7 0 0) (hr : meth.sig.returnType = (some .int))   (hM : X7_readDeed_b218  v2 g = some (rr, gr)) : V X p l e (zrm 5) s m args below meth c 4 0 0 (MQ below (zQ X (Option.map (zM X) (some (.inl rr))) gr) args s 0 0 (zF X)) g 218 [some (.inr (.inl (7, 0))), none, some (.inl v2), none] [(.inr (.inl (7, 0)))] := by
  unfold X7_readDeed_b218 at hM
  refine v_iconst C (nI 1) dX7_readDeed_218 zk_1 ?_
  refine v_goto C 223 dX7_readDeed_219 rfl ?_
  exact t_X7_readDeed_b223 hX C hr   hM

theorem t_X7_readDeed_b222 {v2 : Int32}  {g : zG} (hX : zfl X = true) (C : Cx X p (zrm 5) s m args meth c cX7_readDeed 4 RX7 0 0) (hr : meth.sig.returnType = (some .int))   (hM : X7_readDeed_b222  v2 g = some (rr, gr)) : V X p l e (zrm 5) s m args below meth c 4 0 0 (MQ below (zQ X (Option.map (zM X) (some (.inl rr))) gr) args s 0 0 (zF X)) g 222 [some (.inr (.inl (7, 0))), none, some (.inl v2), none] [(.inr (.inl (7, 0)))] := by
  unfold X7_readDeed_b222 at hM
  refine v_iconst C (nI 0) dX7_readDeed_222 zk_0 ?_
  exact t_X7_readDeed_b223 hX C hr   hM

theorem t_X7_readDeed_b201 {v1 : Int32} {v2 : Int32}  {g : zG} (hX : zfl X = true) (C : Cx X p (zrm 5) s m args meth c cX7_readDeed 4 RX7 0 0) (hr : meth.sig.returnType = (some .int))   (hM : X7_readDeed_b201  v1 v2 g = some (rr, gr)) : V X p l e (zrm 5) s m args below meth c 4 0 0 (MQ below (zQ X (Option.map (zM X) (some (.inl rr))) gr) args s 0 0 (zF X)) g 201 [some (.inr (.inl (7, 0))), some (.inl v1), some (.inl v2), none] [] := by
  unfold X7_readDeed_b201 at hM
  refine v_aload_n C 0 dX7_readDeed_201 rfl rfl ?_
  refine v_iload_n C 1 dX7_readDeed_202 rfl rfl ?_
  refine v_if_eq C 218 dX7_readDeed_203 rfl hM (fun hM => ?_) (fun hM => ?_)
  · exact v_weak (t_X7_readDeed_b218 hX C hr   hM) (show zsub [some (.inr (.inl (7, 0))), none, some (.inl v2), none] [some (.inr (.inl (7, 0))), some (.inl v1), some (.inl v2), none] from ⟨rfl, ⟨rfl, trivial⟩⟩)
  · refine v_iload_n C 1 dX7_readDeed_206 rfl rfl ?_
    refine v_iconst C (nI 1) dX7_readDeed_207 zk_1 ?_
    refine v_icmp_eq C 222 dX7_readDeed_208 rfl hM (fun hM => ?_) (fun hM => ?_)
    · exact v_weak (t_X7_readDeed_b222 hX C hr   hM) (show zsub [some (.inr (.inl (7, 0))), none, some (.inl v2), none] [some (.inr (.inl (7, 0))), some (.inl v1), some (.inl v2), none] from ⟨rfl, ⟨rfl, trivial⟩⟩)
    · refine v_aload_n C 0 dX7_readDeed_211 rfl rfl ?_
      refine gf_RX7_168 C hX dX7_readDeed_212 ?_
      refine v_if_eq C 222 dX7_readDeed_215 rfl hM (fun hM => ?_) (fun hM => ?_)
      · exact v_weak (t_X7_readDeed_b222 hX C hr   hM) (show zsub [some (.inr (.inl (7, 0))), none, some (.inl v2), none] [some (.inr (.inl (7, 0))), some (.inl v1), some (.inl v2), none] from ⟨rfl, ⟨rfl, trivial⟩⟩)
      · exact v_weak (t_X7_readDeed_b218 hX C hr   hM) (show zsub [some (.inr (.inl (7, 0))), none, some (.inl v2), none] [some (.inr (.inl (7, 0))), some (.inl v1), some (.inl v2), none] from ⟨rfl, ⟨rfl, trivial⟩⟩)

theorem t_X7_readDeed_b160 {v1 : Int32} {v2 : Int32} {v3 : Int32} {s1 : Int32} {s3 : Int32} {s4 : Int32}  {g : zG} (hX : zfl X = true) (C : Cx X p (zrm 5) s m args meth c cX7_readDeed 4 RX7 0 0) (hr : meth.sig.returnType = (some .int))   (hM : X7_readDeed_b160  v1 v2 v3 s1 s3 s4 g = some (rr, gr)) : V X p l e (zrm 5) s m args below meth c 4 0 0 (MQ below (zQ X (Option.map (zM X) (some (.inl rr))) gr) args s 0 0 (zF X)) g 160 [some (.inr (.inl (7, 0))), some (.inl v1), some (.inl v2), some (.inl v3)] [(.inl s4), (.inl s3), (.inr (.inl (7, 0))), (.inl s1), (.inr (.inl (40, 0)))] := by
  unfold X7_readDeed_b160 at hM
  obtain ⟨x1, g2, e3, hM⟩ := zc_elim hM
  refine v_callVi (ci := 7) (rest := [(.inl s1), (.inr (.inl (40, 0)))]) C (c_X7_passes hX  e3) mw_X7_passes mi_X7_passes ml_RX7_131 hX.symm zm7 rfl rfl ⟨by decide, Nat.le_of_ble_eq_true rfl⟩ rfl (Nat.le_of_ble_eq_true rfl) dX7_readDeed_160 rfl ?_
  refine is_40 C hX dX7_readDeed_163 hM (fun g4 hM => ?_)
  refine v_aload_n C 0 dX7_readDeed_164 rfl rfl ?_
  refine gf_RX7_44 C hX dX7_readDeed_165 ?_
  refine v_iload_n C 3 dX7_readDeed_168 rfl rfl ?_
  refine ia_40 C hX dX7_readDeed_169 hM (fun hM _ => ?_)
  refine v_iconst C (-1) dX7_readDeed_170 zk_m1 ?_
  refine v_icmp_ne C 176 dX7_readDeed_171 rfl hM (fun hM => ?_) (fun hM => ?_)
  · refine v_iload_n C 1 dX7_readDeed_176 rfl rfl ?_
    refine v_iconst C (nI 5) dX7_readDeed_177 zk_5 ?_
    refine v_icmp_ge C 201 dX7_readDeed_178 rfl hM (fun hM => ?_) (fun hM => ?_)
    · exact v_weak (t_X7_readDeed_b201 hX C hr   hM) (show zsub [some (.inr (.inl (7, 0))), some (.inl v1), some (.inl v2), none] [some (.inr (.inl (7, 0))), some (.inl v1), some (.inl v2), some (.inl v3)] from ⟨rfl, ⟨rfl, ⟨rfl, trivial⟩⟩⟩)
    · refine v_aload_n C 0 dX7_readDeed_181 rfl rfl ?_
      refine v_ldcs C dX7_readDeed_182 ks_RX7_185 ?_
      obtain ⟨x5, g6, e7, hM⟩ := zc_elim hM
      refine v_callVi (ci := 7) (rest := []) C (c_X7_isWord hX (by decide) e7) mw_X7_isWord mi_X7_isWord ml_RX7_127 hX.symm zm7 rfl rfl ⟨by decide, Nat.le_of_ble_eq_true rfl⟩ rfl (Nat.le_of_ble_eq_true rfl) dX7_readDeed_184 rfl ?_
      refine v_if_eq C 201 dX7_readDeed_187 rfl hM (fun hM => ?_) (fun hM => ?_)
      · exact v_weak (t_X7_readDeed_b201 hX C hr   hM) (show zsub [some (.inr (.inl (7, 0))), some (.inl v1), some (.inl v2), none] [some (.inr (.inl (7, 0))), some (.inl v1), some (.inl v2), some (.inl v3)] from ⟨rfl, ⟨rfl, ⟨rfl, trivial⟩⟩⟩)
      · refine v_aload_n C 0 dX7_readDeed_190 rfl rfl ?_
        refine gf_RX7_50 C hX dX7_readDeed_191 ?_
        refine v_iload_n C 3 dX7_readDeed_194 rfl rfl ?_
        refine v_iconst C (nI 1) dX7_readDeed_195 zk_1 ?_
        refine is_42 C hX dX7_readDeed_196 hM (fun g8 hM => ?_)
        refine v_aload_n C 0 dX7_readDeed_197 rfl rfl ?_
        obtain ⟨x9, g10, e11, hM⟩ := zc_elim hM
        refine v_callVv (ci := 7) (rest := []) C (c_X7_nextToken hX  e11) mw_X7_nextToken mi_X7_nextToken ml_RX7_124 hX.symm zm7 rfl rfl ⟨by decide, Nat.le_of_ble_eq_true rfl⟩ rfl (Nat.le_of_ble_eq_true rfl) dX7_readDeed_198 rfl ?_
        exact v_weak (t_X7_readDeed_b201 hX C hr   hM) (show zsub [some (.inr (.inl (7, 0))), some (.inl v1), some (.inl v2), none] [some (.inr (.inl (7, 0))), some (.inl v1), some (.inl v2), some (.inl v3)] from ⟨rfl, ⟨rfl, ⟨rfl, trivial⟩⟩⟩)
  · refine v_iconst C (-1) dX7_readDeed_174 zk_m1 ?_
    exact v_iret2 C hr dX7_readDeed_175 hM

theorem t_X7_readDeed_b87 {v1 : Int32} {v2 : Int32}  {g : zG} (hX : zfl X = true) (C : Cx X p (zrm 5) s m args meth c cX7_readDeed 4 RX7 0 0) (hr : meth.sig.returnType = (some .int))   (hM : X7_readDeed_b87  v1 v2 g = some (rr, gr)) : V X p l e (zrm 5) s m args below meth c 4 0 0 (MQ below (zQ X (Option.map (zM X) (some (.inl rr))) gr) args s 0 0 (zF X)) g 87 [some (.inr (.inl (7, 0))), some (.inl v1), some (.inl v2), none] [] := by
  unfold X7_readDeed_b87 at hM
  refine v_aload_n C 0 dX7_readDeed_87 rfl rfl ?_
  obtain ⟨x1, g2, e3, hM⟩ := zc_elim hM
  refine v_callVv (ci := 7) (rest := []) C (c_X7_nextToken hX  e3) mw_X7_nextToken mi_X7_nextToken ml_RX7_124 hX.symm zm7 rfl rfl ⟨by decide, Nat.le_of_ble_eq_true rfl⟩ rfl (Nat.le_of_ble_eq_true rfl) dX7_readDeed_88 rfl ?_
  refine v_bipush C (nI 24) dX7_readDeed_91 zkb_24 ?_
  refine v_iload_n C 2 dX7_readDeed_93 rfl rfl ?_
  refine v_imul C dX7_readDeed_94 ?_
  refine v_aload_n C 0 dX7_readDeed_95 rfl rfl ?_
  refine gf_RX7_32 C hX dX7_readDeed_96 ?_
  refine v_iload_n C 2 dX7_readDeed_99 rfl rfl ?_
  refine ia_36 C hX dX7_readDeed_100 hM (fun hM _ => ?_)
  refine v_iadd C dX7_readDeed_101 ?_
  refine v_istore_n (L' := [some (.inr (.inl (7, 0))), some (.inl v1), some (.inl v2), some (.inl (((nI 24) * v2) + (g2 36 0 v2.toNatClampNeg)))]) C 3 dX7_readDeed_102 rfl (by decide) rfl ?_
  refine v_aload_n C 0 dX7_readDeed_103 rfl rfl ?_
  refine gf_RX7_38 C hX dX7_readDeed_104 ?_
  refine v_iload_n C 3 dX7_readDeed_107 rfl rfl ?_
  refine v_iload_n C 1 dX7_readDeed_108 rfl rfl ?_
  refine is_38 C hX dX7_readDeed_109 hM (fun g4 hM => ?_)
  refine v_aload_n C 0 dX7_readDeed_110 rfl rfl ?_
  refine gf_RX7_44 C hX dX7_readDeed_111 ?_
  refine v_iload_n C 3 dX7_readDeed_114 rfl rfl ?_
  refine v_bipush C (-2) dX7_readDeed_115 zkb_m2 ?_
  refine is_40 C hX dX7_readDeed_117 hM (fun g5 hM => ?_)
  refine v_aload_n C 0 dX7_readDeed_118 rfl rfl ?_
  refine gf_RX7_50 C hX dX7_readDeed_119 ?_
  refine v_iload_n C 3 dX7_readDeed_122 rfl rfl ?_
  refine v_iconst C (nI 0) dX7_readDeed_123 zk_0 ?_
  refine is_42 C hX dX7_readDeed_124 hM (fun g6 hM => ?_)
  refine v_iload_n C 1 dX7_readDeed_125 rfl rfl ?_
  refine v_iconst C (nI 3) dX7_readDeed_126 zk_3 ?_
  refine v_icmp_lt C 201 dX7_readDeed_127 rfl hM (fun hM => ?_) (fun hM => ?_)
  · exact v_weak (t_X7_readDeed_b201 hX C hr   hM) (show zsub [some (.inr (.inl (7, 0))), some (.inl v1), some (.inl v2), none] [some (.inr (.inl (7, 0))), some (.inl v1), some (.inl v2), some (.inl (((nI 24) * v2) + (g2 36 0 v2.toNatClampNeg)))] from ⟨rfl, ⟨rfl, ⟨rfl, trivial⟩⟩⟩)
  · refine v_aload_n C 0 dX7_readDeed_130 rfl rfl ?_
    refine gf_RX7_44 C hX dX7_readDeed_131 ?_
    refine v_iload_n C 3 dX7_readDeed_134 rfl rfl ?_
    refine v_aload_n C 0 dX7_readDeed_135 rfl rfl ?_
    refine v_iconst C (nI 0) dX7_readDeed_136 zk_0 ?_
    refine v_iload_n C 1 dX7_readDeed_137 rfl rfl ?_
    refine v_iconst C (nI 5) dX7_readDeed_138 zk_5 ?_
    refine v_icmp_ge C 157 dX7_readDeed_139 rfl hM (fun hM => ?_) (fun hM => ?_)
    · refine v_sipush C (nI 999) dX7_readDeed_157 zks_999 ?_
      exact t_X7_readDeed_b160 hX C hr   hM
    · refine v_aload_n C 0 dX7_readDeed_142 rfl rfl ?_
      refine v_aload_n C 0 dX7_readDeed_143 rfl rfl ?_
      refine gf_RX7_20 C hX dX7_readDeed_144 ?_
      refine v_iconst C (nI 2) dX7_readDeed_147 zk_2 ?_
      refine ia_32 C hX dX7_readDeed_148 hM (fun hM _ => ?_)
      obtain ⟨x7, g8, e9, hM⟩ := zc_elim hM
      refine v_callVi (ci := 7) (rest := [(.inl (nI 0)), (.inr (.inl (7, 0))), (.inl (((nI 24) * v2) + (g2 36 0 v2.toNatClampNeg))), (.inr (.inl (40, 0)))]) C (c_X7_addresses hX  e9) mw_X7_addresses mi_X7_addresses ml_RX7_165 hX.symm zm7 rfl rfl ⟨by decide, Nat.le_of_ble_eq_true rfl⟩ rfl (Nat.le_of_ble_eq_true rfl) dX7_readDeed_149 rfl ?_
      refine v_iconst C (nI 1) dX7_readDeed_152 zk_1 ?_
      refine v_isub C dX7_readDeed_153 ?_
      refine v_goto C 160 dX7_readDeed_154 rfl ?_
      exact t_X7_readDeed_b160 hX C hr   hM

theorem t_X7_readDeed_b80   {g : zG} (hX : zfl X = true) (C : Cx X p (zrm 5) s m args meth c cX7_readDeed 4 RX7 0 0) (hr : meth.sig.returnType = (some .int))   (hM : X7_readDeed_b80   g = some (rr, gr)) : V X p l e (zrm 5) s m args below meth c 4 0 0 (MQ below (zQ X (Option.map (zM X) (some (.inl rr))) gr) args s 0 0 (zF X)) g 80 [some (.inr (.inl (7, 0))), none, none, none] [] := by
  unfold X7_readDeed_b80 at hM
  refine v_aload_n C 0 dX7_readDeed_80 rfl rfl ?_
  refine v_bipush C (nI 6) dX7_readDeed_81 zkb_6 ?_
  obtain ⟨x1, g2, e3, hM⟩ := zc_elim hM
  refine v_callVi (ci := 7) (rest := []) C (c_X7_errs hX  e3) mw_X7_errs mi_X7_errs ml_RX7_117 hX.symm zm7 rfl rfl ⟨by decide, Nat.le_of_ble_eq_true rfl⟩ rfl (Nat.le_of_ble_eq_true rfl) dX7_readDeed_83 rfl ?_
  exact v_iret2 C hr dX7_readDeed_86 hM

theorem t_X7_readDeed_b73 {v1 : Int32} {v2 : Int32}  {g : zG} (hX : zfl X = true) (C : Cx X p (zrm 5) s m args meth c cX7_readDeed 4 RX7 0 0) (hr : meth.sig.returnType = (some .int))   (hM : X7_readDeed_b73  v1 v2 g = some (rr, gr)) : V X p l e (zrm 5) s m args below meth c 4 0 0 (MQ below (zQ X (Option.map (zM X) (some (.inl rr))) gr) args s 0 0 (zF X)) g 73 [some (.inr (.inl (7, 0))), some (.inl v1), some (.inl v2), none] [] := by
  unfold X7_readDeed_b73 at hM
  refine v_aload_n C 0 dX7_readDeed_73 rfl rfl ?_
  refine gf_RX7_168 C hX dX7_readDeed_74 ?_
  refine v_if_ne C 87 dX7_readDeed_77 rfl hM (fun hM => ?_) (fun hM => ?_)
  · exact t_X7_readDeed_b87 hX C hr   hM
  · exact v_weak (t_X7_readDeed_b80 hX C hr   hM) (show zsub [some (.inr (.inl (7, 0))), none, none, none] [some (.inr (.inl (7, 0))), some (.inl v1), some (.inl v2), none] from ⟨rfl, trivial⟩)

theorem t_X7_readDeed_b58 {v1 : Int32} {v2 : Int32}  {g : zG} (hX : zfl X = true) (C : Cx X p (zrm 5) s m args meth c cX7_readDeed 4 RX7 0 0) (hr : meth.sig.returnType = (some .int))   (hM : X7_readDeed_b58  v1 v2 g = some (rr, gr)) : V X p l e (zrm 5) s m args below meth c 4 0 0 (MQ below (zQ X (Option.map (zM X) (some (.inl rr))) gr) args s 0 0 (zF X)) g 58 [some (.inr (.inl (7, 0))), some (.inl v1), some (.inl v2), none] [] := by
  unfold X7_readDeed_b58 at hM
  refine v_iload_n C 1 dX7_readDeed_58 rfl rfl ?_
  refine v_iconst C (nI 1) dX7_readDeed_59 zk_1 ?_
  refine v_icmp_eq C 73 dX7_readDeed_60 rfl hM (fun hM => ?_) (fun hM => ?_)
  · exact t_X7_readDeed_b73 hX C hr   hM
  · refine v_iload_n C 1 dX7_readDeed_63 rfl rfl ?_
    refine v_iconst C (nI 3) dX7_readDeed_64 zk_3 ?_
    refine v_icmp_eq C 73 dX7_readDeed_65 rfl hM (fun hM => ?_) (fun hM => ?_)
    · exact t_X7_readDeed_b73 hX C hr   hM
    · refine v_iload_n C 1 dX7_readDeed_68 rfl rfl ?_
      refine v_iconst C (nI 4) dX7_readDeed_69 zk_4 ?_
      refine v_icmp_ne C 87 dX7_readDeed_70 rfl hM (fun hM => ?_) (fun hM => ?_)
      · exact t_X7_readDeed_b87 hX C hr   hM
      · exact t_X7_readDeed_b73 hX C hr   hM

theorem t_X7_readDeed_b30 {v1 : Int32} {v2 : Int32}  {g : zG} (hX : zfl X = true) (C : Cx X p (zrm 5) s m args meth c cX7_readDeed 4 RX7 0 0) (hr : meth.sig.returnType = (some .int))   (hM : X7_readDeed_b30  v1 v2 g = some (rr, gr)) : V X p l e (zrm 5) s m args below meth c 4 0 0 (MQ below (zQ X (Option.map (zM X) (some (.inl rr))) gr) args s 0 0 (zF X)) g 30 [some (.inr (.inl (7, 0))), some (.inl v1), some (.inl v2), none] [] := by
  unfold X7_readDeed_b30 at hM
  refine v_aload_n C 0 dX7_readDeed_30 rfl rfl ?_
  refine gf_RX7_134 C hX dX7_readDeed_31 ?_
  refine v_if_eq C 41 dX7_readDeed_34 rfl hM (fun hM => ?_) (fun hM => ?_)
  · exact v_weak (t_X7_readDeed_b41 hX C hr   hM) (show zsub [some (.inr (.inl (7, 0))), none, none, none] [some (.inr (.inl (7, 0))), some (.inl v1), some (.inl v2), none] from ⟨rfl, trivial⟩)
  · refine v_iload_n C 2 dX7_readDeed_37 rfl rfl ?_
    refine v_if_ge C 47 dX7_readDeed_38 rfl hM (fun hM => ?_) (fun hM => ?_)
    · refine v_iload_n C 1 dX7_readDeed_47 rfl rfl ?_
      refine v_if_ne C 58 dX7_readDeed_48 rfl hM (fun hM => ?_) (fun hM => ?_)
      · exact t_X7_readDeed_b58 hX C hr   hM
      · refine v_aload_n C 0 dX7_readDeed_51 rfl rfl ?_
        refine gf_RX7_168 C hX dX7_readDeed_52 ?_
        refine v_if_ne C 80 dX7_readDeed_55 rfl hM (fun hM => ?_) (fun hM => ?_)
        · exact v_weak (t_X7_readDeed_b80 hX C hr   hM) (show zsub [some (.inr (.inl (7, 0))), none, none, none] [some (.inr (.inl (7, 0))), some (.inl v1), some (.inl v2), none] from ⟨rfl, trivial⟩)
        · exact t_X7_readDeed_b58 hX C hr   hM
    · exact v_weak (t_X7_readDeed_b41 hX C hr   hM) (show zsub [some (.inr (.inl (7, 0))), none, none, none] [some (.inr (.inl (7, 0))), some (.inl v1), some (.inl v2), none] from ⟨rfl, trivial⟩)

theorem c_X7_readDeed {X : zX} (hX : zfl X = true) {v1 : Int32} {g gr : zG} {rr : Int32}  (hM : X7_readDeed v1 g = some (rr, gr)) : MC X yX7_readDeed cX7_readDeed 4 (some .int) 5 [.inr (.inl (7, 0)), .inl v1] (some (.inl rr)) g gr := by
  refine MC.mk (own := RX7) (L := [some (.inr (.inl (7, 0))), some (.inl v1), none, none]) (by decide) rfl trivial (Nat.le_of_ble_eq_true rfl) rfl ?_
  intro p l e s m args below meth c C hr
  unfold X7_readDeed at hM
  refine v_aload_n C 0 dX7_readDeed_0 rfl rfl ?_
  refine gf_RX7_20 C hX dX7_readDeed_1 ?_
  refine v_iconst C (nI 5) dX7_readDeed_4 zk_5 ?_
  refine ia_32 C hX dX7_readDeed_5 hM (fun hM _ => ?_)
  refine v_iconst C (nI 1) dX7_readDeed_6 zk_1 ?_
  refine v_isub C dX7_readDeed_7 ?_
  refine v_istore_n (L' := [some (.inr (.inl (7, 0))), some (.inl v1), some (.inl ((g 32 0 (nI 5).toNatClampNeg) - (nI 1))), none]) C 2 dX7_readDeed_8 rfl (by decide) rfl ?_
  refine v_iload_n C 2 dX7_readDeed_9 rfl rfl ?_
  refine v_if_lt C 30 dX7_readDeed_10 rfl hM (fun hM => ?_) (fun hM => ?_)
  · exact t_X7_readDeed_b30 hX C hr   hM
  · refine v_aload_n C 0 dX7_readDeed_13 rfl rfl ?_
    refine gf_RX7_32 C hX dX7_readDeed_14 ?_
    refine v_iload_n C 2 dX7_readDeed_17 rfl rfl ?_
    refine ia_36 C hX dX7_readDeed_18 hM (fun hM _ => ?_)
    refine v_bipush C (nI 24) dX7_readDeed_19 zkb_24 ?_
    refine v_icmp_ne C 30 dX7_readDeed_21 rfl hM (fun hM => ?_) (fun hM => ?_)
    · exact t_X7_readDeed_b30 hX C hr   hM
    · refine v_aload_n C 0 dX7_readDeed_24 rfl rfl ?_
      refine v_iconst C (nI 4) dX7_readDeed_25 zk_4 ?_
      obtain ⟨x1, g2, e3, hM⟩ := zc_elim hM
      refine v_callVi (ci := 7) (rest := []) C (c_X7_errs hX  e3) mw_X7_errs mi_X7_errs ml_RX7_117 hX.symm zm7 rfl rfl ⟨by decide, Nat.le_of_ble_eq_true rfl⟩ rfl (Nat.le_of_ble_eq_true rfl) dX7_readDeed_26 rfl ?_
      exact v_iret2 C hr dX7_readDeed_29 hM

theorem c_X7_readLine {X : zX} (hX : zfl X = true)  {g gr : zG} {rr : Int32}  (hM : X7_readLine  g = some (rr, gr)) : MC X yX7_readLine cX7_readLine 2 (some .int) 7 [.inr (.inl (7, 0))] (some (.inl rr)) g gr := by
  refine MC.mk (own := RX7) (L := [some (.inr (.inl (7, 0))), none]) (by decide) rfl trivial (Nat.le_of_ble_eq_true rfl) rfl ?_
  intro p l e s m args below meth c C hr
  unfold X7_readLine at hM
  refine v_aload_n C 0 dX7_readLine_0 rfl rfl ?_
  refine v_ldcs C dX7_readLine_1 ks_RX7_187 ?_
  obtain ⟨x1, g2, e3, hM⟩ := zc_elim hM
  refine v_callVi (ci := 7) (rest := []) C (c_X7_isWord hX (by decide) e3) mw_X7_isWord mi_X7_isWord ml_RX7_127 hX.symm zm7 rfl rfl ⟨by decide, Nat.le_of_ble_eq_true rfl⟩ rfl (Nat.le_of_ble_eq_true rfl) dX7_readLine_3 rfl ?_
  refine v_if_eq C 14 dX7_readLine_6 rfl hM (fun hM => ?_) (fun hM => ?_)
  · refine v_aload_n C 0 dX7_readLine_14 rfl rfl ?_
    refine v_ldcs C dX7_readLine_15 ks_RX7_192 ?_
    obtain ⟨x4, g5, e6, hM⟩ := zc_elim hM
    refine v_callVi (ci := 7) (rest := []) C (c_X7_isWord hX (by decide) e6) mw_X7_isWord mi_X7_isWord ml_RX7_127 hX.symm zm7 rfl rfl ⟨by decide, Nat.le_of_ble_eq_true rfl⟩ rfl (Nat.le_of_ble_eq_true rfl) dX7_readLine_17 rfl ?_
    refine v_if_eq C 28 dX7_readLine_20 rfl hM (fun hM => ?_) (fun hM => ?_)
    · refine v_aload_n C 0 dX7_readLine_28 rfl rfl ?_
      refine v_ldcs C dX7_readLine_29 ks_RX7_197 ?_
      obtain ⟨x7, g8, e9, hM⟩ := zc_elim hM
      refine v_callVi (ci := 7) (rest := []) C (c_X7_isWord hX (by decide) e9) mw_X7_isWord mi_X7_isWord ml_RX7_127 hX.symm zm7 rfl rfl ⟨by decide, Nat.le_of_ble_eq_true rfl⟩ rfl (Nat.le_of_ble_eq_true rfl) dX7_readLine_31 rfl ?_
      refine v_if_eq C 42 dX7_readLine_34 rfl hM (fun hM => ?_) (fun hM => ?_)
      · refine v_aload_n C 0 dX7_readLine_42 rfl rfl ?_
        obtain ⟨x10, g11, e12, hM⟩ := zc_elim hM
        refine v_callVi (ci := 7) (rest := []) C (c_X7_sortHere hX  e12) mw_X7_sortHere mi_X7_sortHere ml_RX7_202 hX.symm zm7 rfl rfl ⟨by decide, Nat.le_of_ble_eq_true rfl⟩ rfl (Nat.le_of_ble_eq_true rfl) dX7_readLine_43 rfl ?_
        refine v_istore_n (L' := [some (.inr (.inl (7, 0))), some (.inl x10)]) C 1 dX7_readLine_46 rfl (by decide) rfl ?_
        refine v_iload_n C 1 dX7_readLine_47 rfl rfl ?_
        refine v_iconst C (-1) dX7_readLine_48 zk_m1 ?_
        refine v_icmp_ne C 60 dX7_readLine_49 rfl hM (fun hM => ?_) (fun hM => ?_)
        · refine v_aload_n C 0 dX7_readLine_60 rfl rfl ?_
          refine v_iload_n C 1 dX7_readLine_61 rfl rfl ?_
          obtain ⟨x13, g14, e15, hM⟩ := zc_elim hM
          refine v_callVi (ci := 7) (rest := []) C (c_X7_readDeed hX  e15) mw_X7_readDeed mi_X7_readDeed ml_RX7_205 hX.symm zm7 rfl rfl ⟨by decide, Nat.le_of_ble_eq_true rfl⟩ rfl (Nat.le_of_ble_eq_true rfl) dX7_readLine_62 rfl ?_
          exact v_iret2 C hr dX7_readLine_65 hM
        · refine v_aload_n C 0 dX7_readLine_52 rfl rfl ?_
          refine v_iconst C (nI 1) dX7_readLine_53 zk_1 ?_
          obtain ⟨x16, g17, e18, hM⟩ := zc_elim hM
          refine v_callVi (ci := 7) (rest := []) C (c_X7_errs hX  e18) mw_X7_errs mi_X7_errs ml_RX7_117 hX.symm zm7 rfl rfl ⟨by decide, Nat.le_of_ble_eq_true rfl⟩ rfl (Nat.le_of_ble_eq_true rfl) dX7_readLine_54 rfl ?_
          refine v_goto C 65 dX7_readLine_57 rfl ?_
          exact v_iret2 C hr dX7_readLine_65 hM
      · refine v_aload_n C 0 dX7_readLine_37 rfl rfl ?_
        obtain ⟨x19, g20, e21, hM⟩ := zc_elim hM
        refine v_callVi (ci := 7) (rest := []) C (c_X7_readCore hX  e21) mw_X7_readCore mi_X7_readCore ml_RX7_199 hX.symm zm7 rfl rfl ⟨by decide, Nat.le_of_ble_eq_true rfl⟩ rfl (Nat.le_of_ble_eq_true rfl) dX7_readLine_38 rfl ?_
        exact v_iret2 C hr dX7_readLine_41 hM
    · refine v_aload_n C 0 dX7_readLine_23 rfl rfl ?_
      obtain ⟨x22, g23, e24, hM⟩ := zc_elim hM
      refine v_callVi (ci := 7) (rest := []) C (c_X7_readToldWord hX  e24) mw_X7_readToldWord mi_X7_readToldWord ml_RX7_194 hX.symm zm7 rfl rfl ⟨by decide, Nat.le_of_ble_eq_true rfl⟩ rfl (Nat.le_of_ble_eq_true rfl) dX7_readLine_24 rfl ?_
      exact v_iret2 C hr dX7_readLine_27 hM
  · refine v_aload_n C 0 dX7_readLine_9 rfl rfl ?_
    obtain ⟨x25, g26, e27, hM⟩ := zc_elim hM
    refine v_callVi (ci := 7) (rest := []) C (c_X7_readMachine hX  e27) mw_X7_readMachine mi_X7_readMachine ml_RX7_189 hX.symm zm7 rfl rfl ⟨by decide, Nat.le_of_ble_eq_true rfl⟩ rfl (Nat.le_of_ble_eq_true rfl) dX7_readLine_10 rfl ?_
    exact v_iret2 C hr dX7_readLine_13 hM

theorem t_X7_readText_l34 {k67 : zG → Option (Int32 × zG)} (hX : zfl X = true) (C : Cx X p (zrm 8) s m args meth c cX7_readText 3 RX7 0 0) (hr : meth.sig.returnType = (some .int)) (hk67 : ∀  (g : zG),  k67  g = some (rr, gr) → V X p l e (zrm 8) s m args below meth c 3 0 0 (MQ below (zQ X (Option.map (zM X) (some (.inl rr))) gr) args s 0 0 (zF X)) g 67 [some (.inr (.inl (7, 0))), none, none] []) : ∀ (n : Nat) {v2 : Int32} (g : zG), X7_readText_l34 k67 n v2 g = some (rr, gr) → V X p l e (zrm 8) s m args below meth c 3 0 0 (MQ below (zQ X (Option.map (zM X) (some (.inl rr))) gr) args s 0 0 (zF X)) g 34 [some (.inr (.inl (7, 0))), none, some (.inl v2)] [] := by
  intro n
  induction n with
  | zero =>
    intro v2 g  hM
    exact absurd (show (none : Option (Int32 × zG)) = some (rr, gr) from hM) (by simp)
  | succ n ih =>
    intro v2 g  hM
    rw [X7_readText_l34.eq_2] at hM
    refine v_iload_n C 2 dX7_readText_34 rfl rfl ?_
    refine v_bipush C (nI 64) dX7_readText_35 zkb_64 ?_
    refine v_icmp_ge C 53 dX7_readText_37 rfl hM (fun hM => ?_) (fun hM => ?_)
    · refine v_aload_n C 0 dX7_readText_53 rfl rfl ?_
      obtain ⟨x1, g2, e3, hM⟩ := zc_elim hM
      refine v_callVv (ci := 7) (rest := []) C (c_X7_nextToken hX  e3) mw_X7_nextToken mi_X7_nextToken ml_RX7_124 hX.symm zm7 rfl rfl ⟨by decide, Nat.le_of_ble_eq_true rfl⟩ rfl (Nat.le_of_ble_eq_true rfl) dX7_readText_54 rfl ?_
      refine v_aload_n C 0 dX7_readText_57 rfl rfl ?_
      obtain ⟨x4, g5, e6, hM⟩ := zc_elim hM
      refine v_callVi (ci := 7) (rest := []) C (c_X7_readLine hX  e6) mw_X7_readLine mi_X7_readLine ml_RX7_208 hX.symm zm7 rfl rfl ⟨by decide, Nat.le_of_ble_eq_true rfl⟩ rfl (Nat.le_of_ble_eq_true rfl) dX7_readText_58 rfl ?_
      refine v_iconst C (-1) dX7_readText_61 zk_m1 ?_
      refine v_icmp_ne C 67 dX7_readText_62 rfl hM (fun hM => ?_) (fun hM => ?_)
      · exact v_weak (hk67  g5  hM) (show zsub [some (.inr (.inl (7, 0))), none, none] [some (.inr (.inl (7, 0))), none, some (.inl v2)] from ⟨rfl, trivial⟩)
      · refine v_iconst C (-1) dX7_readText_65 zk_m1 ?_
        exact v_iret2 C hr dX7_readText_66 hM
    · refine v_aload_n C 0 dX7_readText_40 rfl rfl ?_
      refine gf_RX7_26 C hX dX7_readText_41 ?_
      refine v_iload_n C 2 dX7_readText_44 rfl rfl ?_
      refine v_iconst C (-1) dX7_readText_45 zk_m1 ?_
      refine is_34 C hX dX7_readText_46 hM (fun g7 hM => ?_)
      refine v_iinc (L' := [some (.inr (.inl (7, 0))), none, some (.inl (v2 + (nI 1)))]) C 2 (nI 1) dX7_readText_47 zk_1 (by decide) rfl rfl ?_
      refine v_goto C 34 dX7_readText_50 rfl ?_
      exact ih g7  hM

theorem t_X7_readText_l67  (hX : zfl X = true) (C : Cx X p (zrm 8) s m args meth c cX7_readText 3 RX7 0 0) (hr : meth.sig.returnType = (some .int))  : ∀ (n : Nat)  (g : zG), X7_readText_l67  n  g = some (rr, gr) → V X p l e (zrm 8) s m args below meth c 3 0 0 (MQ below (zQ X (Option.map (zM X) (some (.inl rr))) gr) args s 0 0 (zF X)) g 67 [some (.inr (.inl (7, 0))), none, none] [] := by
  intro n
  induction n with
  | zero =>
    intro  g  hM
    exact absurd (show (none : Option (Int32 × zG)) = some (rr, gr) from hM) (by simp)
  | succ n ih =>
    intro  g  hM
    rw [X7_readText_l67.eq_2] at hM
    refine v_aload_n C 0 dX7_readText_67 rfl rfl ?_
    refine gf_RX7_91 C hX dX7_readText_68 ?_
    refine v_bipush C (nI 59) dX7_readText_71 zkb_59 ?_
    refine v_icmp_ne C 90 dX7_readText_73 rfl hM (fun hM => ?_) (fun hM => ?_)
    · refine v_aload_n C 0 dX7_readText_90 rfl rfl ?_
      refine gf_RX7_91 C hX dX7_readText_91 ?_
      refine v_if_eq C 103 dX7_readText_94 rfl hM (fun hM => ?_) (fun hM => ?_)
      · refine v_aload_n C 0 dX7_readText_103 rfl rfl ?_
        refine gf_RX7_20 C hX dX7_readText_104 ?_
        refine v_iconst C (nI 5) dX7_readText_107 zk_5 ?_
        refine ia_32 C hX dX7_readText_108 hM (fun hM _ => ?_)
        refine v_if_ne C 118 dX7_readText_109 rfl hM (fun hM => ?_) (fun hM => ?_)
        · refine v_aload_n C 0 dX7_readText_118 rfl rfl ?_
          refine gf_RX7_168 C hX dX7_readText_119 ?_
          refine v_if_eq C 134 dX7_readText_122 rfl hM (fun hM => ?_) (fun hM => ?_)
          · refine v_aload_n C 0 dX7_readText_134 rfl rfl ?_
            refine gf_RX7_20 C hX dX7_readText_135 ?_
            refine v_iconst C (nI 5) dX7_readText_138 zk_5 ?_
            refine ia_32 C hX dX7_readText_139 hM (fun hM _ => ?_)
            exact v_iret2 C hr dX7_readText_140 hM
          · refine v_aload_n C 0 dX7_readText_125 rfl rfl ?_
            refine v_bipush C (nI 6) dX7_readText_126 zkb_6 ?_
            obtain ⟨x1, g2, e3, hM⟩ := zc_elim hM
            refine v_callVi (ci := 7) (rest := []) C (c_X7_errs hX  e3) mw_X7_errs mi_X7_errs ml_RX7_117 hX.symm zm7 rfl rfl ⟨by decide, Nat.le_of_ble_eq_true rfl⟩ rfl (Nat.le_of_ble_eq_true rfl) dX7_readText_128 rfl ?_
            refine v_goto C 140 dX7_readText_131 rfl ?_
            exact v_iret2 C hr dX7_readText_140 hM
        · refine v_aload_n C 0 dX7_readText_112 rfl rfl ?_
          refine v_iconst C (nI 5) dX7_readText_113 zk_5 ?_
          obtain ⟨x4, g5, e6, hM⟩ := zc_elim hM
          refine v_callVi (ci := 7) (rest := []) C (c_X7_errs hX  e6) mw_X7_errs mi_X7_errs ml_RX7_117 hX.symm zm7 rfl rfl ⟨by decide, Nat.le_of_ble_eq_true rfl⟩ rfl (Nat.le_of_ble_eq_true rfl) dX7_readText_114 rfl ?_
          exact v_iret2 C hr dX7_readText_117 hM
      · refine v_aload_n C 0 dX7_readText_97 rfl rfl ?_
        refine v_iconst C (nI 1) dX7_readText_98 zk_1 ?_
        obtain ⟨x7, g8, e9, hM⟩ := zc_elim hM
        refine v_callVi (ci := 7) (rest := []) C (c_X7_errs hX  e9) mw_X7_errs mi_X7_errs ml_RX7_117 hX.symm zm7 rfl rfl ⟨by decide, Nat.le_of_ble_eq_true rfl⟩ rfl (Nat.le_of_ble_eq_true rfl) dX7_readText_99 rfl ?_
        exact v_iret2 C hr dX7_readText_102 hM
    · refine v_aload_n C 0 dX7_readText_76 rfl rfl ?_
      obtain ⟨x10, g11, e12, hM⟩ := zc_elim hM
      refine v_callVv (ci := 7) (rest := []) C (c_X7_nextToken hX  e12) mw_X7_nextToken mi_X7_nextToken ml_RX7_124 hX.symm zm7 rfl rfl ⟨by decide, Nat.le_of_ble_eq_true rfl⟩ rfl (Nat.le_of_ble_eq_true rfl) dX7_readText_77 rfl ?_
      refine v_aload_n C 0 dX7_readText_80 rfl rfl ?_
      obtain ⟨x13, g14, e15, hM⟩ := zc_elim hM
      refine v_callVi (ci := 7) (rest := []) C (c_X7_readLine hX  e15) mw_X7_readLine mi_X7_readLine ml_RX7_208 hX.symm zm7 rfl rfl ⟨by decide, Nat.le_of_ble_eq_true rfl⟩ rfl (Nat.le_of_ble_eq_true rfl) dX7_readText_81 rfl ?_
      refine v_iconst C (-1) dX7_readText_84 zk_m1 ?_
      refine v_icmp_ne C 67 dX7_readText_85 rfl hM (fun hM => ?_) (fun hM => ?_)
      · exact ih g14  hM
      · refine v_iconst C (-1) dX7_readText_88 zk_m1 ?_
        exact v_iret2 C hr dX7_readText_89 hM

theorem c_X7_readText {X : zX} (hX : zfl X = true) {v1 : Int32} {g gr : zG} {rr : Int32}  (hM : X7_readText v1 g = some (rr, gr)) : MC X yX7_readText cX7_readText 3 (some .int) 8 [.inr (.inl (7, 0)), .inl v1] (some (.inl rr)) g gr := by
  refine MC.mk (own := RX7) (L := [some (.inr (.inl (7, 0))), some (.inl v1), none]) (by decide) rfl trivial (Nat.le_of_ble_eq_true rfl) rfl ?_
  intro p l e s m args below meth c C hr
  unfold X7_readText at hM
  refine v_aload_n C 0 dX7_readText_0 rfl rfl ?_
  refine v_iload_n C 1 dX7_readText_1 rfl rfl ?_
  refine pf_RX7_78 C hX dX7_readText_2 hM (fun g1 hM => ?_)
  refine v_aload_n C 0 dX7_readText_5 rfl rfl ?_
  refine v_iconst C (nI 0) dX7_readText_6 zk_0 ?_
  refine pf_RX7_81 C hX dX7_readText_7 hM (fun g2 hM => ?_)
  refine v_aload_n C 0 dX7_readText_10 rfl rfl ?_
  refine v_iconst C (nI 0) dX7_readText_11 zk_0 ?_
  refine pf_RX7_134 C hX dX7_readText_12 (Or.inl rfl) hM (fun g3 hM => ?_)
  refine v_aload_n C 0 dX7_readText_15 rfl rfl ?_
  refine v_iconst C (nI 0) dX7_readText_16 zk_0 ?_
  refine pf_RX7_168 C hX dX7_readText_17 (Or.inl rfl) hM (fun g4 hM => ?_)
  refine v_aload_n C 0 dX7_readText_20 rfl rfl ?_
  refine v_iconst C (nI 0) dX7_readText_21 zk_0 ?_
  refine pf_RX7_162 C hX dX7_readText_22 hM (fun g5 hM => ?_)
  refine v_aload_n C 0 dX7_readText_25 rfl rfl ?_
  refine gf_RX7_20 C hX dX7_readText_26 ?_
  refine v_iconst C (nI 5) dX7_readText_29 zk_5 ?_
  refine v_iconst C (nI 0) dX7_readText_30 zk_0 ?_
  refine is_32 C hX dX7_readText_31 hM (fun g6 hM => ?_)
  refine v_iconst C (nI 0) dX7_readText_32 zk_0 ?_
  refine v_istore_n (L' := [some (.inr (.inl (7, 0))), some (.inl v1), some (.inl (nI 0))]) C 2 dX7_readText_33 rfl (by decide) rfl ?_
  exact v_weak (t_X7_readText_l34 hX C hr (by intro  g  hM; exact t_X7_readText_l67 hX C hr  _ g  hM) _ g6  hM) (show zsub [some (.inr (.inl (7, 0))), none, some (.inl (nI 0))] [some (.inr (.inl (7, 0))), some (.inl v1), some (.inl (nI 0))] from ⟨rfl, ⟨rfl, trivial⟩⟩)

theorem c_X7_asTold {X : zX} (hX : zfl X = true)  {g gr : zG} {rr : Int32}  (hM : X7_asTold  g = some (rr, gr)) : MC X yX7_asTold cX7_asTold 1 none 0 [.inr (.inl (7, 0))] none g gr := by
  refine MC.mk (own := RX7) (L := [some (.inr (.inl (7, 0)))]) (by decide) rfl trivial (Nat.le_of_ble_eq_true rfl) rfl ?_
  intro p l e s m args below meth c C hr
  unfold X7_asTold at hM
  refine v_aload_n C 0 dX7_asTold_0 rfl rfl ?_
  refine v_aload_n C 0 dX7_asTold_1 rfl rfl ?_
  refine gf_RX7_17 C hX dX7_asTold_2 ?_
  refine v_iconst C (nI 3) dX7_asTold_5 zk_3 ?_
  refine ia_31 C hX dX7_asTold_6 hM (fun hM _ => ?_)
  refine pf_RX7_238 C hX dX7_asTold_7 hM (fun g1 hM => ?_)
  refine v_aload_n C 0 dX7_asTold_10 rfl rfl ?_
  refine v_aload_n C 0 dX7_asTold_11 rfl rfl ?_
  refine gf_RX7_17 C hX dX7_asTold_12 ?_
  refine v_iconst C (nI 4) dX7_asTold_15 zk_4 ?_
  refine ia_31 C hX dX7_asTold_16 hM (fun hM _ => ?_)
  refine pf_RX7_240 C hX dX7_asTold_17 hM (fun g2 hM => ?_)
  refine v_aload_n C 0 dX7_asTold_20 rfl rfl ?_
  refine v_aload_n C 0 dX7_asTold_21 rfl rfl ?_
  refine gf_RX7_17 C hX dX7_asTold_22 ?_
  refine v_iconst C (nI 1) dX7_asTold_25 zk_1 ?_
  refine ia_31 C hX dX7_asTold_26 hM (fun hM _ => ?_)
  refine pf_RX7_242 C hX dX7_asTold_27 hM (fun g3 hM => ?_)
  exact v_vret2 C hr dX7_asTold_30 hM

theorem c_X7_coreAt {X : zX} (hX : zfl X = true) {v0 : Int32} {v1 : Int32} {g gr : zG} {rr : Int32}  (hM : X7_coreAt v0 v1 g = some (rr, gr)) : MC X yX7_coreAt cX7_coreAt 2 (some .int) 0 [.inl v0, .inl v1] (some (.inl rr)) g gr := by
  refine MC.mk (own := RX7) (L := [some (.inl v0), some (.inl v1)]) (by decide) rfl trivial (Nat.le_of_ble_eq_true rfl) rfl ?_
  intro p l e s m args below meth c C hr
  unfold X7_coreAt at hM
  refine v_bipush C (nI 6) dX7_coreAt_0 zkb_6 ?_
  refine v_bipush C (nI 14) dX7_coreAt_2 zkb_14 ?_
  refine v_iload_n C 0 dX7_coreAt_4 rfl rfl ?_
  refine v_imul C dX7_coreAt_5 ?_
  refine v_iadd C dX7_coreAt_6 ?_
  refine v_iload_n C 1 dX7_coreAt_7 rfl rfl ?_
  refine v_iadd C dX7_coreAt_8 ?_
  exact v_iret2 C hr dX7_coreAt_9 hM

theorem t_X7_begins_l2 {k32 : Int32 → zG → Option (Int32 × zG)} (hX : zfl X = true) (C : Cx X p (zrm 1) s m args meth c cX7_begins 2 RX7 0 0) (hr : meth.sig.returnType = none) (hk32 : ∀ (v1 : Int32) (g : zG),  k32 v1 g = some (rr, gr) → V X p l e (zrm 1) s m args below meth c 2 0 0 (MQ below (zQ X (Option.map (zM X) none) gr) args s 0 0 (zF X)) g 32 [some (.inr (.inl (7, 0))), some (.inl v1)] []) : ∀ (n : Nat) {v1 : Int32} (g : zG), X7_begins_l2 k32 n v1 g = some (rr, gr) → V X p l e (zrm 1) s m args below meth c 2 0 0 (MQ below (zQ X (Option.map (zM X) none) gr) args s 0 0 (zF X)) g 2 [some (.inr (.inl (7, 0))), some (.inl v1)] [] := by
  intro n
  induction n with
  | zero =>
    intro v1 g  hM
    exact absurd (show (none : Option (Int32 × zG)) = some (rr, gr) from hM) (by simp)
  | succ n ih =>
    intro v1 g  hM
    rw [X7_begins_l2.eq_2] at hM
    refine v_iload_n C 1 dX7_begins_2 rfl rfl ?_
    refine v_sipush C (nI 2766) dX7_begins_3 zks_2766 ?_
    refine v_icmp_ge C 22 dX7_begins_6 rfl hM (fun hM => ?_) (fun hM => ?_)
    · refine v_aload_n C 0 dX7_begins_22 rfl rfl ?_
      refine gf_RX7_53 C hX dX7_begins_23 ?_
      refine v_iconst C (nI 5) dX7_begins_26 zk_5 ?_
      refine v_bipush C (-2) dX7_begins_27 zkb_m2 ?_
      refine is_43 C hX dX7_begins_29 hM (fun g1 hM => ?_)
      refine v_iconst C (nI 0) dX7_begins_30 zk_0 ?_
      refine v_istore_n (L' := [some (.inr (.inl (7, 0))), some (.inl (nI 0))]) C 1 dX7_begins_31 rfl (by decide) rfl ?_
      exact hk32 (nI 0) g1  hM
    · refine v_aload_n C 0 dX7_begins_9 rfl rfl ?_
      refine gf_RX7_53 C hX dX7_begins_10 ?_
      refine v_iload_n C 1 dX7_begins_13 rfl rfl ?_
      refine v_iconst C (nI 0) dX7_begins_14 zk_0 ?_
      refine is_43 C hX dX7_begins_15 hM (fun g2 hM => ?_)
      refine v_iinc (L' := [some (.inr (.inl (7, 0))), some (.inl (v1 + (nI 1)))]) C 1 (nI 1) dX7_begins_16 zk_1 (by decide) rfl rfl ?_
      refine v_goto C 2 dX7_begins_19 rfl ?_
      exact ih g2  hM

theorem t_X7_begins_l32 {k57 : Int32 → zG → Option (Int32 × zG)} (hX : zfl X = true) (C : Cx X p (zrm 1) s m args meth c cX7_begins 2 RX7 0 0) (hr : meth.sig.returnType = none) (hk57 : ∀ (v1 : Int32) (g : zG),  k57 v1 g = some (rr, gr) → V X p l e (zrm 1) s m args below meth c 2 0 0 (MQ below (zQ X (Option.map (zM X) none) gr) args s 0 0 (zF X)) g 57 [some (.inr (.inl (7, 0))), some (.inl v1)] []) : ∀ (n : Nat) {v1 : Int32} (g : zG), X7_begins_l32 k57 n v1 g = some (rr, gr) → V X p l e (zrm 1) s m args below meth c 2 0 0 (MQ below (zQ X (Option.map (zM X) none) gr) args s 0 0 (zF X)) g 32 [some (.inr (.inl (7, 0))), some (.inl v1)] [] := by
  intro n
  induction n with
  | zero =>
    intro v1 g  hM
    exact absurd (show (none : Option (Int32 × zG)) = some (rr, gr) from hM) (by simp)
  | succ n ih =>
    intro v1 g  hM
    rw [X7_begins_l32.eq_2] at hM
    refine v_iload_n C 1 dX7_begins_32 rfl rfl ?_
    refine v_iconst C (nI 4) dX7_begins_33 zk_4 ?_
    refine v_icmp_ge C 55 dX7_begins_34 rfl hM (fun hM => ?_) (fun hM => ?_)
    · refine v_iconst C (nI 0) dX7_begins_55 zk_0 ?_
      refine v_istore_n (L' := [some (.inr (.inl (7, 0))), some (.inl (nI 0))]) C 1 dX7_begins_56 rfl (by decide) rfl ?_
      exact hk57 (nI 0) g  hM
    · refine v_aload_n C 0 dX7_begins_37 rfl rfl ?_
      refine gf_RX7_53 C hX dX7_begins_38 ?_
      refine v_iload_n C 1 dX7_begins_41 rfl rfl ?_
      refine v_iconst C (nI 5) dX7_begins_42 zk_5 ?_
      obtain ⟨x1, g2, e3, hM⟩ := zc_elim hM
      refine v_callSi (rest := [(.inr (.inl (43, 0)))]) C (c_X7_coreAt hX  e3) mw_X7_coreAt ms_X7_coreAt ml_RX7_244 ⟨by decide, Nat.le_of_ble_eq_true rfl⟩ rfl (Nat.le_of_ble_eq_true rfl) dX7_begins_43 rfl ?_
      refine v_bipush C (-2) dX7_begins_46 zkb_m2 ?_
      refine is_43 C hX dX7_begins_48 hM (fun g4 hM => ?_)
      refine v_iinc (L' := [some (.inr (.inl (7, 0))), some (.inl (v1 + (nI 1)))]) C 1 (nI 1) dX7_begins_49 zk_1 (by decide) rfl rfl ?_
      refine v_goto C 32 dX7_begins_52 rfl ?_
      exact ih g4  hM

theorem t_X7_begins_l57 {k89 : Int32 → zG → Option (Int32 × zG)} (hX : zfl X = true) (C : Cx X p (zrm 1) s m args meth c cX7_begins 2 RX7 0 0) (hr : meth.sig.returnType = none) (hk89 : ∀ (v1 : Int32) (g : zG),  k89 v1 g = some (rr, gr) → V X p l e (zrm 1) s m args below meth c 2 0 0 (MQ below (zQ X (Option.map (zM X) none) gr) args s 0 0 (zF X)) g 89 [some (.inr (.inl (7, 0))), some (.inl v1)] []) : ∀ (n : Nat) {v1 : Int32} (g : zG), X7_begins_l57 k89 n v1 g = some (rr, gr) → V X p l e (zrm 1) s m args below meth c 2 0 0 (MQ below (zQ X (Option.map (zM X) none) gr) args s 0 0 (zF X)) g 57 [some (.inr (.inl (7, 0))), some (.inl v1)] [] := by
  intro n
  induction n with
  | zero =>
    intro v1 g  hM
    exact absurd (show (none : Option (Int32 × zG)) = some (rr, gr) from hM) (by simp)
  | succ n ih =>
    intro v1 g  hM
    rw [X7_begins_l57.eq_2] at hM
    refine v_iload_n C 1 dX7_begins_57 rfl rfl ?_
    refine v_bipush C (nI 64) dX7_begins_58 zkb_64 ?_
    refine v_icmp_ge C 85 dX7_begins_60 rfl hM (fun hM => ?_) (fun hM => ?_)
    · refine v_sipush C (nI 318) dX7_begins_85 zks_318 ?_
      refine v_istore_n (L' := [some (.inr (.inl (7, 0))), some (.inl (nI 318))]) C 1 dX7_begins_88 rfl (by decide) rfl ?_
      exact hk89 (nI 318) g  hM
    · refine v_aload_n C 0 dX7_begins_63 rfl rfl ?_
      refine gf_RX7_53 C hX dX7_begins_64 ?_
      refine v_sipush C (nI 254) dX7_begins_67 zks_254 ?_
      refine v_iload_n C 1 dX7_begins_70 rfl rfl ?_
      refine v_iadd C dX7_begins_71 ?_
      refine v_aload_n C 0 dX7_begins_72 rfl rfl ?_
      refine gf_RX7_23 C hX dX7_begins_73 ?_
      refine v_iload_n C 1 dX7_begins_76 rfl rfl ?_
      refine ia_33 C hX dX7_begins_77 hM (fun hM _ => ?_)
      refine is_43 C hX dX7_begins_78 hM (fun g1 hM => ?_)
      refine v_iinc (L' := [some (.inr (.inl (7, 0))), some (.inl (v1 + (nI 1)))]) C 1 (nI 1) dX7_begins_79 zk_1 (by decide) rfl rfl ?_
      refine v_goto C 57 dX7_begins_82 rfl ?_
      exact ih g1  hM

theorem t_X7_begins_l89  (hX : zfl X = true) (C : Cx X p (zrm 1) s m args meth c cX7_begins 2 RX7 0 0) (hr : meth.sig.returnType = none)  : ∀ (n : Nat) {v1 : Int32} (g : zG), X7_begins_l89  n v1 g = some (rr, gr) → V X p l e (zrm 1) s m args below meth c 2 0 0 (MQ below (zQ X (Option.map (zM X) none) gr) args s 0 0 (zF X)) g 89 [some (.inr (.inl (7, 0))), some (.inl v1)] [] := by
  intro n
  induction n with
  | zero =>
    intro v1 g  hM
    exact absurd (show (none : Option (Int32 × zG)) = some (rr, gr) from hM) (by simp)
  | succ n ih =>
    intro v1 g  hM
    rw [X7_begins_l89.eq_2] at hM
    refine v_iload_n C 1 dX7_begins_89 rfl rfl ?_
    refine v_sipush C (nI 2766) dX7_begins_90 zks_2766 ?_
    refine v_icmp_ge C 112 dX7_begins_93 rfl hM (fun hM => ?_) (fun hM => ?_)
    · exact v_vret2 C hr dX7_begins_112 hM
    · refine v_aload_n C 0 dX7_begins_96 rfl rfl ?_
      refine gf_RX7_53 C hX dX7_begins_97 ?_
      refine v_iload_n C 1 dX7_begins_100 rfl rfl ?_
      refine v_iconst C (nI 0) dX7_begins_101 zk_0 ?_
      refine v_iadd C dX7_begins_102 ?_
      refine v_bipush C (-2) dX7_begins_103 zkb_m2 ?_
      refine is_43 C hX dX7_begins_105 hM (fun g1 hM => ?_)
      refine v_iinc (L' := [some (.inr (.inl (7, 0))), some (.inl (v1 + (nI 9)))]) C 1 (nI 9) dX7_begins_106 zk_9 (by decide) rfl rfl ?_
      refine v_goto C 89 dX7_begins_109 rfl ?_
      exact ih g1  hM

theorem c_X7_begins {X : zX} (hX : zfl X = true)  {g gr : zG} {rr : Int32}  (hM : X7_begins  g = some (rr, gr)) : MC X yX7_begins cX7_begins 2 none 1 [.inr (.inl (7, 0))] none g gr := by
  refine MC.mk (own := RX7) (L := [some (.inr (.inl (7, 0))), none]) (by decide) rfl trivial (Nat.le_of_ble_eq_true rfl) rfl ?_
  intro p l e s m args below meth c C hr
  unfold X7_begins at hM
  refine v_iconst C (nI 0) dX7_begins_0 zk_0 ?_
  refine v_istore_n (L' := [some (.inr (.inl (7, 0))), some (.inl (nI 0))]) C 1 dX7_begins_1 rfl (by decide) rfl ?_
  exact t_X7_begins_l2 hX C hr (by intro v1 g  hM; exact t_X7_begins_l32 hX C hr (by intro v1 g  hM; exact t_X7_begins_l57 hX C hr (by intro v1 g  hM; exact t_X7_begins_l89 hX C hr  _ g  hM) _ g  hM) _ g  hM) _ g  hM

theorem t_X7_machine_l65 {k99 : Int32 → zG → Option (Int32 × zG)} (hX : zfl X = true) (C : Cx X p (zrm 9) s m args meth c cX7_machine 3 RX7 0 0) (hr : meth.sig.returnType = (some .int)) (hk99 : ∀ (v2 : Int32) (g : zG),  k99 v2 g = some (rr, gr) → V X p l e (zrm 9) s m args below meth c 3 0 0 (MQ below (zQ X (Option.map (zM X) (some (.inl rr))) gr) args s 0 0 (zF X)) g 99 [some (.inr (.inl (7, 0))), none, some (.inl v2)] []) : ∀ (n : Nat) {v2 : Int32} (g : zG), X7_machine_l65 k99 n v2 g = some (rr, gr) → V X p l e (zrm 9) s m args below meth c 3 0 0 (MQ below (zQ X (Option.map (zM X) (some (.inl rr))) gr) args s 0 0 (zF X)) g 65 [some (.inr (.inl (7, 0))), none, some (.inl v2)] [] := by
  intro n
  induction n with
  | zero =>
    intro v2 g  hM
    exact absurd (show (none : Option (Int32 × zG)) = some (rr, gr) from hM) (by simp)
  | succ n ih =>
    intro v2 g  hM
    rw [X7_machine_l65.eq_2] at hM
    refine v_iload_n C 2 dX7_machine_65 rfl rfl ?_
    refine v_bipush C (nI 6) dX7_machine_66 zkb_6 ?_
    refine v_icmp_ge C 89 dX7_machine_68 rfl hM (fun hM => ?_) (fun hM => ?_)
    · refine v_aload_n C 0 dX7_machine_89 rfl rfl ?_
      refine v_aload_n C 0 dX7_machine_90 rfl rfl ?_
      refine gf_RX7_162 C hX dX7_machine_91 ?_
      refine pf_RX7_223 C hX dX7_machine_94 hM (fun g1 hM => ?_)
      refine v_iconst C (nI 0) dX7_machine_97 zk_0 ?_
      refine v_istore_n (L' := [some (.inr (.inl (7, 0))), none, some (.inl (nI 0))]) C 2 dX7_machine_98 rfl (by decide) rfl ?_
      exact hk99 (nI 0) g1  hM
    · refine v_aload_n C 0 dX7_machine_71 rfl rfl ?_
      refine gf_RX7_17 C hX dX7_machine_72 ?_
      refine v_iload_n C 2 dX7_machine_75 rfl rfl ?_
      refine v_aload_n C 0 dX7_machine_76 rfl rfl ?_
      refine gf_RX7_20 C hX dX7_machine_77 ?_
      refine v_iload_n C 2 dX7_machine_80 rfl rfl ?_
      refine ia_32 C hX dX7_machine_81 hM (fun hM _ => ?_)
      refine is_31 C hX dX7_machine_82 hM (fun g2 hM => ?_)
      refine v_iinc (L' := [some (.inr (.inl (7, 0))), none, some (.inl (v2 + (nI 1)))]) C 2 (nI 1) dX7_machine_83 zk_1 (by decide) rfl rfl ?_
      refine v_goto C 65 dX7_machine_86 rfl ?_
      exact ih g2  hM

theorem t_X7_machine_b130 {v2 : Int32} {s1 : Int32} {s2 : Int32} {k99 : Int32 → zG → Option (Int32 × zG)} {g : zG} (hX : zfl X = true) (C : Cx X p (zrm 9) s m args meth c cX7_machine 3 RX7 0 0) (hr : meth.sig.returnType = (some .int))  (hk99 : ∀ (v2 : Int32) (g : zG),  k99 v2 g = some (rr, gr) → V X p l e (zrm 9) s m args below meth c 3 0 0 (MQ below (zQ X (Option.map (zM X) (some (.inl rr))) gr) args s 0 0 (zF X)) g 99 [some (.inr (.inl (7, 0))), none, some (.inl v2)] []) (hM : X7_machine_b130 k99 v2 s1 s2 g = some (rr, gr)) : V X p l e (zrm 9) s m args below meth c 3 0 0 (MQ below (zQ X (Option.map (zM X) (some (.inl rr))) gr) args s 0 0 (zF X)) g 130 [some (.inr (.inl (7, 0))), none, some (.inl v2)] [(.inl s2), (.inl s1), (.inr (.inl (33, 0)))] := by
  unfold X7_machine_b130 at hM
  refine is_33 C hX dX7_machine_130 hM (fun g1 hM => ?_)
  refine v_iinc (L' := [some (.inr (.inl (7, 0))), none, some (.inl (v2 + (nI 1)))]) C 2 (nI 1) dX7_machine_131 zk_1 (by decide) rfl rfl ?_
  refine v_goto C 99 dX7_machine_134 rfl ?_
  exact hk99 (v2 + (nI 1)) g1  hM

theorem t_X7_machine_l99 {k139 : Int32 → zG → Option (Int32 × zG)} (hX : zfl X = true) (C : Cx X p (zrm 9) s m args meth c cX7_machine 3 RX7 0 0) (hr : meth.sig.returnType = (some .int)) (hk139 : ∀ (v2 : Int32) (g : zG),  k139 v2 g = some (rr, gr) → V X p l e (zrm 9) s m args below meth c 3 0 0 (MQ below (zQ X (Option.map (zM X) (some (.inl rr))) gr) args s 0 0 (zF X)) g 139 [some (.inr (.inl (7, 0))), none, some (.inl v2)] []) : ∀ (n : Nat) {v2 : Int32} (g : zG), X7_machine_l99 k139 n v2 g = some (rr, gr) → V X p l e (zrm 9) s m args below meth c 3 0 0 (MQ below (zQ X (Option.map (zM X) (some (.inl rr))) gr) args s 0 0 (zF X)) g 99 [some (.inr (.inl (7, 0))), none, some (.inl v2)] [] := by
  intro n
  induction n with
  | zero =>
    intro v2 g  hM
    exact absurd (show (none : Option (Int32 × zG)) = some (rr, gr) from hM) (by simp)
  | succ n ih =>
    intro v2 g  hM
    rw [X7_machine_l99.eq_2] at hM
    refine v_iload_n C 2 dX7_machine_99 rfl rfl ?_
    refine v_bipush C (nI 64) dX7_machine_100 zkb_64 ?_
    refine v_icmp_ge C 137 dX7_machine_102 rfl hM (fun hM => ?_) (fun hM => ?_)
    · refine v_iconst C (nI 0) dX7_machine_137 zk_0 ?_
      refine v_istore_n (L' := [some (.inr (.inl (7, 0))), none, some (.inl (nI 0))]) C 2 dX7_machine_138 rfl (by decide) rfl ?_
      exact hk139 (nI 0) g  hM
    · refine v_aload_n C 0 dX7_machine_105 rfl rfl ?_
      refine gf_RX7_23 C hX dX7_machine_106 ?_
      refine v_iload_n C 2 dX7_machine_109 rfl rfl ?_
      refine v_aload_n C 0 dX7_machine_110 rfl rfl ?_
      refine gf_RX7_26 C hX dX7_machine_111 ?_
      refine v_iload_n C 2 dX7_machine_114 rfl rfl ?_
      refine ia_34 C hX dX7_machine_115 hM (fun hM _ => ?_)
      refine v_iconst C (-1) dX7_machine_116 zk_m1 ?_
      refine v_icmp_ne C 124 dX7_machine_117 rfl hM (fun hM => ?_) (fun hM => ?_)
      · refine v_aload_n C 0 dX7_machine_124 rfl rfl ?_
        refine gf_RX7_26 C hX dX7_machine_125 ?_
        refine v_iload_n C 2 dX7_machine_128 rfl rfl ?_
        refine ia_34 C hX dX7_machine_129 hM (fun hM _ => ?_)
        exact t_X7_machine_b130 hX C hr  (fun v2 g  hM => ih g  hM) hM
      · refine v_iconst C (nI 0) dX7_machine_120 zk_0 ?_
        refine v_goto C 130 dX7_machine_121 rfl ?_
        exact t_X7_machine_b130 hX C hr  (fun v2 g  hM => ih g  hM) hM

theorem t_X7_machine_b169 {v2 : Int32} {s1 : Int32} {s2 : Int32} {k139 : Int32 → zG → Option (Int32 × zG)} {g : zG} (hX : zfl X = true) (C : Cx X p (zrm 9) s m args meth c cX7_machine 3 RX7 0 0) (hr : meth.sig.returnType = (some .int))  (hk139 : ∀ (v2 : Int32) (g : zG),  k139 v2 g = some (rr, gr) → V X p l e (zrm 9) s m args below meth c 3 0 0 (MQ below (zQ X (Option.map (zM X) (some (.inl rr))) gr) args s 0 0 (zF X)) g 139 [some (.inr (.inl (7, 0))), none, some (.inl v2)] []) (hM : X7_machine_b169 k139 v2 s1 s2 g = some (rr, gr)) : V X p l e (zrm 9) s m args below meth c 3 0 0 (MQ below (zQ X (Option.map (zM X) (some (.inl rr))) gr) args s 0 0 (zF X)) g 169 [some (.inr (.inl (7, 0))), none, some (.inl v2)] [(.inl s2), (.inl s1), (.inr (.inl (35, 0)))] := by
  unfold X7_machine_b169 at hM
  refine is_35 C hX dX7_machine_169 hM (fun g1 hM => ?_)
  refine v_iinc (L' := [some (.inr (.inl (7, 0))), none, some (.inl (v2 + (nI 1)))]) C 2 (nI 1) dX7_machine_170 zk_1 (by decide) rfl rfl ?_
  refine v_goto C 139 dX7_machine_173 rfl ?_
  exact hk139 (v2 + (nI 1)) g1  hM

theorem t_X7_machine_l139 {k178 : Int32 → zG → Option (Int32 × zG)} (hX : zfl X = true) (C : Cx X p (zrm 9) s m args meth c cX7_machine 3 RX7 0 0) (hr : meth.sig.returnType = (some .int)) (hk178 : ∀ (v2 : Int32) (g : zG),  k178 v2 g = some (rr, gr) → V X p l e (zrm 9) s m args below meth c 3 0 0 (MQ below (zQ X (Option.map (zM X) (some (.inl rr))) gr) args s 0 0 (zF X)) g 178 [some (.inr (.inl (7, 0))), none, some (.inl v2)] []) : ∀ (n : Nat) {v2 : Int32} (g : zG), X7_machine_l139 k178 n v2 g = some (rr, gr) → V X p l e (zrm 9) s m args below meth c 3 0 0 (MQ below (zQ X (Option.map (zM X) (some (.inl rr))) gr) args s 0 0 (zF X)) g 139 [some (.inr (.inl (7, 0))), none, some (.inl v2)] [] := by
  intro n
  induction n with
  | zero =>
    intro v2 g  hM
    exact absurd (show (none : Option (Int32 × zG)) = some (rr, gr) from hM) (by simp)
  | succ n ih =>
    intro v2 g  hM
    rw [X7_machine_l139.eq_2] at hM
    refine v_iload_n C 2 dX7_machine_139 rfl rfl ?_
    refine v_iconst C (nI 4) dX7_machine_140 zk_4 ?_
    refine v_icmp_ge C 176 dX7_machine_141 rfl hM (fun hM => ?_) (fun hM => ?_)
    · refine v_iconst C (nI 0) dX7_machine_176 zk_0 ?_
      refine v_istore_n (L' := [some (.inr (.inl (7, 0))), none, some (.inl (nI 0))]) C 2 dX7_machine_177 rfl (by decide) rfl ?_
      exact hk178 (nI 0) g  hM
    · refine v_aload_n C 0 dX7_machine_144 rfl rfl ?_
      refine gf_RX7_29 C hX dX7_machine_145 ?_
      refine v_iload_n C 2 dX7_machine_148 rfl rfl ?_
      refine v_iload_n C 2 dX7_machine_149 rfl rfl ?_
      refine v_aload_n C 0 dX7_machine_150 rfl rfl ?_
      refine gf_RX7_17 C hX dX7_machine_151 ?_
      refine v_iconst C (nI 5) dX7_machine_154 zk_5 ?_
      refine ia_31 C hX dX7_machine_155 hM (fun hM _ => ?_)
      refine v_icmp_ge C 168 dX7_machine_156 rfl hM (fun hM => ?_) (fun hM => ?_)
      · refine v_iconst C (nI 0) dX7_machine_168 zk_0 ?_
        exact t_X7_machine_b169 hX C hr  (fun v2 g  hM => ih g  hM) hM
      · refine v_aload_n C 0 dX7_machine_159 rfl rfl ?_
        refine gf_RX7_32 C hX dX7_machine_160 ?_
        refine v_iload_n C 2 dX7_machine_163 rfl rfl ?_
        refine ia_36 C hX dX7_machine_164 hM (fun hM _ => ?_)
        refine v_goto C 169 dX7_machine_165 rfl ?_
        exact t_X7_machine_b169 hX C hr  (fun v2 g  hM => ih g  hM) hM

theorem t_X7_machine_l178  (hX : zfl X = true) (C : Cx X p (zrm 9) s m args meth c cX7_machine 3 RX7 0 0) (hr : meth.sig.returnType = (some .int))  : ∀ (n : Nat) {v2 : Int32} (g : zG), X7_machine_l178  n v2 g = some (rr, gr) → V X p l e (zrm 9) s m args below meth c 3 0 0 (MQ below (zQ X (Option.map (zM X) (some (.inl rr))) gr) args s 0 0 (zF X)) g 178 [some (.inr (.inl (7, 0))), none, some (.inl v2)] [] := by
  intro n
  induction n with
  | zero =>
    intro v2 g  hM
    exact absurd (show (none : Option (Int32 × zG)) = some (rr, gr) from hM) (by simp)
  | succ n ih =>
    intro v2 g  hM
    rw [X7_machine_l178.eq_2] at hM
    refine v_iload_n C 2 dX7_machine_178 rfl rfl ?_
    refine v_bipush C (nI 96) dX7_machine_179 zkb_96 ?_
    refine v_icmp_ge C 226 dX7_machine_181 rfl hM (fun hM => ?_) (fun hM => ?_)
    · refine v_aload_n C 0 dX7_machine_226 rfl rfl ?_
      refine v_iconst C (nI 1) dX7_machine_227 zk_1 ?_
      refine pf_RX7_226 C hX dX7_machine_228 (Or.inr rfl) hM (fun g1 hM => ?_)
      refine v_aload_n C 0 dX7_machine_231 rfl rfl ?_
      refine v_iconst C (nI 0) dX7_machine_232 zk_0 ?_
      refine pf_RX7_229 C hX dX7_machine_233 (Or.inl rfl) hM (fun g2 hM => ?_)
      refine v_aload_n C 0 dX7_machine_236 rfl rfl ?_
      obtain ⟨x3, g4, e5, hM⟩ := zc_elim hM
      refine v_callVv (ci := 7) (rest := []) C (c_X7_asTold hX  e5) mw_X7_asTold mi_X7_asTold ml_RX7_232 hX.symm zm7 rfl rfl ⟨by decide, Nat.le_of_ble_eq_true rfl⟩ rfl (Nat.le_of_ble_eq_true rfl) dX7_machine_237 rfl ?_
      refine v_aload_n C 0 dX7_machine_240 rfl rfl ?_
      obtain ⟨x6, g7, e8, hM⟩ := zc_elim hM
      refine v_callVv (ci := 7) (rest := []) C (c_X7_begins hX  e8) mw_X7_begins mi_X7_begins ml_RX7_235 hX.symm zm7 rfl rfl ⟨by decide, Nat.le_of_ble_eq_true rfl⟩ rfl (Nat.le_of_ble_eq_true rfl) dX7_machine_241 rfl ?_
      refine v_aload_n C 0 dX7_machine_244 rfl rfl ?_
      refine gf_RX7_17 C hX dX7_machine_245 ?_
      refine v_iconst C (nI 5) dX7_machine_248 zk_5 ?_
      refine ia_31 C hX dX7_machine_249 hM (fun hM _ => ?_)
      exact v_iret2 C hr dX7_machine_250 hM
    · refine v_aload_n C 0 dX7_machine_184 rfl rfl ?_
      refine gf_RX7_35 C hX dX7_machine_185 ?_
      refine v_iload_n C 2 dX7_machine_188 rfl rfl ?_
      refine v_aload_n C 0 dX7_machine_189 rfl rfl ?_
      refine gf_RX7_38 C hX dX7_machine_190 ?_
      refine v_iload_n C 2 dX7_machine_193 rfl rfl ?_
      refine ia_38 C hX dX7_machine_194 hM (fun hM _ => ?_)
      refine is_37 C hX dX7_machine_195 hM (fun g9 hM => ?_)
      refine v_aload_n C 0 dX7_machine_196 rfl rfl ?_
      refine gf_RX7_41 C hX dX7_machine_197 ?_
      refine v_iload_n C 2 dX7_machine_200 rfl rfl ?_
      refine v_aload_n C 0 dX7_machine_201 rfl rfl ?_
      refine gf_RX7_44 C hX dX7_machine_202 ?_
      refine v_iload_n C 2 dX7_machine_205 rfl rfl ?_
      refine ia_40 C hX dX7_machine_206 hM (fun hM _ => ?_)
      refine is_39 C hX dX7_machine_207 hM (fun g10 hM => ?_)
      refine v_aload_n C 0 dX7_machine_208 rfl rfl ?_
      refine gf_RX7_47 C hX dX7_machine_209 ?_
      refine v_iload_n C 2 dX7_machine_212 rfl rfl ?_
      refine v_aload_n C 0 dX7_machine_213 rfl rfl ?_
      refine gf_RX7_50 C hX dX7_machine_214 ?_
      refine v_iload_n C 2 dX7_machine_217 rfl rfl ?_
      refine ia_42 C hX dX7_machine_218 hM (fun hM _ => ?_)
      refine is_41 C hX dX7_machine_219 hM (fun g11 hM => ?_)
      refine v_iinc (L' := [some (.inr (.inl (7, 0))), none, some (.inl (v2 + (nI 1)))]) C 2 (nI 1) dX7_machine_220 zk_1 (by decide) rfl rfl ?_
      refine v_goto C 178 dX7_machine_223 rfl ?_
      exact ih g11  hM

theorem c_X7_machine {X : zX} (hX : zfl X = true) {v1 : Int32} {g gr : zG} {rr : Int32}  (hM : X7_machine v1 g = some (rr, gr)) : MC X yX7_machine cX7_machine 3 (some .int) 9 [.inr (.inl (7, 0)), .inl v1] (some (.inl rr)) g gr := by
  refine MC.mk (own := RX7) (L := [some (.inr (.inl (7, 0))), some (.inl v1), none]) (by decide) rfl trivial (Nat.le_of_ble_eq_true rfl) rfl ?_
  intro p l e s m args below meth c C hr
  unfold X7_machine at hM
  refine v_aload_n C 0 dX7_machine_0 rfl rfl ?_
  obtain ⟨x1, g2, e3, hM⟩ := zc_elim hM
  refine v_callVv (ci := 7) (rest := []) C (c_X7_anew hX  e3) mw_X7_anew mi_X7_anew ml_RX7_211 hX.symm zm7 rfl rfl ⟨by decide, Nat.le_of_ble_eq_true rfl⟩ rfl (Nat.le_of_ble_eq_true rfl) dX7_machine_1 rfl ?_
  refine v_iload_n C 1 dX7_machine_4 rfl rfl ?_
  refine v_iconst C (nI 0) dX7_machine_5 zk_0 ?_
  refine v_aload_n C 0 dX7_machine_6 rfl rfl ?_
  refine gf_RX7_71 C hX dX7_machine_7 ?_
  obtain ⟨x4, g5, e6, hM⟩ := zc_elim hM
  refine v_callSi (rest := []) C (c_X7_in hX  e6) mw_X7_in ms_X7_in ml_RX7_94 ⟨by decide, Nat.le_of_ble_eq_true rfl⟩ rfl (Nat.le_of_ble_eq_true rfl) dX7_machine_10 rfl ?_
  refine v_if_ne C 22 dX7_machine_13 rfl hM (fun hM => ?_) (fun hM => ?_)
  · refine v_aload_n C 0 dX7_machine_22 rfl rfl ?_
    refine v_iconst C (nI 0) dX7_machine_23 zk_0 ?_
    refine pf_RX7_71 C hX dX7_machine_24 hM (fun g7 hM => ?_)
    refine v_aload_n C 0 dX7_machine_27 rfl rfl ?_
    refine v_iconst C (nI 0) dX7_machine_28 zk_0 ?_
    refine pf_RX7_217 C hX dX7_machine_29 hM (fun g8 hM => ?_)
    refine v_aload_n C 0 dX7_machine_32 rfl rfl ?_
    refine v_iload_n C 1 dX7_machine_33 rfl rfl ?_
    obtain ⟨x9, g10, e11, hM⟩ := zc_elim hM
    refine v_callVi (ci := 7) (rest := []) C (c_X7_readText hX  e11) mw_X7_readText mi_X7_readText ml_RX7_220 hX.symm zm7 rfl rfl ⟨by decide, Nat.le_of_ble_eq_true rfl⟩ rfl (Nat.le_of_ble_eq_true rfl) dX7_machine_34 rfl ?_
    refine v_iconst C (-1) dX7_machine_37 zk_m1 ?_
    refine v_icmp_ne C 63 dX7_machine_38 rfl hM (fun hM => ?_) (fun hM => ?_)
    · refine v_iconst C (nI 0) dX7_machine_63 zk_0 ?_
      refine v_istore_n (L' := [some (.inr (.inl (7, 0))), some (.inl v1), some (.inl (nI 0))]) C 2 dX7_machine_64 rfl (by decide) rfl ?_
      exact v_weak (t_X7_machine_l65 hX C hr (by intro v2 g  hM; exact t_X7_machine_l99 hX C hr (by intro v2 g  hM; exact t_X7_machine_l139 hX C hr (by intro v2 g  hM; exact t_X7_machine_l178 hX C hr  _ g  hM) _ g  hM) _ g  hM) _ g10  hM) (show zsub [some (.inr (.inl (7, 0))), none, some (.inl (nI 0))] [some (.inr (.inl (7, 0))), some (.inl v1), some (.inl (nI 0))] from ⟨rfl, ⟨rfl, trivial⟩⟩)
    · refine v_aload_n C 0 dX7_machine_41 rfl rfl ?_
      refine v_aload_n C 0 dX7_machine_42 rfl rfl ?_
      refine gf_RX7_111 C hX dX7_machine_43 ?_
      refine pf_RX7_217 C hX dX7_machine_46 hM (fun g12 hM => ?_)
      refine v_aload_n C 0 dX7_machine_49 rfl rfl ?_
      refine v_aload_n C 0 dX7_machine_50 rfl rfl ?_
      refine gf_RX7_114 C hX dX7_machine_51 ?_
      refine pf_RX7_9 C hX dX7_machine_54 hM (fun g13 hM => ?_)
      refine v_aload_n C 0 dX7_machine_57 rfl rfl ?_
      refine v_iconst C (nI 4) dX7_machine_58 zk_4 ?_
      obtain ⟨x14, g15, e16, hM⟩ := zc_elim hM
      refine v_callVi (ci := 7) (rest := []) C (c_X7_no hX  e16) mw_X7_no mi_X7_no ml_RX7_214 hX.symm zm7 rfl rfl ⟨by decide, Nat.le_of_ble_eq_true rfl⟩ rfl (Nat.le_of_ble_eq_true rfl) dX7_machine_59 rfl ?_
      exact v_iret2 C hr dX7_machine_62 hM
  · refine v_aload_n C 0 dX7_machine_16 rfl rfl ?_
    refine v_iconst C (nI 2) dX7_machine_17 zk_2 ?_
    obtain ⟨x17, g18, e19, hM⟩ := zc_elim hM
    refine v_callVi (ci := 7) (rest := []) C (c_X7_no hX  e19) mw_X7_no mi_X7_no ml_RX7_214 hX.symm zm7 rfl rfl ⟨by decide, Nat.le_of_ble_eq_true rfl⟩ rfl (Nat.le_of_ble_eq_true rfl) dX7_machine_18 rfl ?_
    exact v_iret2 C hr dX7_machine_21 hM

theorem c_X7_fault {X : zX} (hX : zfl X = true)  {g gr : zG} {rr : Int32}  (hM : X7_fault  g = some (rr, gr)) : MC X yX7_fault cX7_fault 1 (some .int) 0 [.inr (.inl (7, 0))] (some (.inl rr)) g gr := by
  refine MC.mk (own := RX7) (L := [some (.inr (.inl (7, 0)))]) (by decide) rfl trivial (Nat.le_of_ble_eq_true rfl) rfl ?_
  intro p l e s m args below meth c C hr
  unfold X7_fault at hM
  refine v_aload_n C 0 dX7_fault_0 rfl rfl ?_
  refine v_iconst C (nI 0) dX7_fault_1 zk_0 ?_
  refine pf_RX7_65 C hX dX7_fault_2 hM (fun g1 hM => ?_)
  refine v_aload_n C 0 dX7_fault_5 rfl rfl ?_
  refine gf_RX7_217 C hX dX7_fault_6 ?_
  exact v_iret2 C hr dX7_fault_9 hM

theorem c_X7_where {X : zX} (hX : zfl X = true)  {g gr : zG} {rr : Int32}  (hM : X7_where  g = some (rr, gr)) : MC X yX7_where cX7_where 1 (some .int) 0 [.inr (.inl (7, 0))] (some (.inl rr)) g gr := by
  refine MC.mk (own := RX7) (L := [some (.inr (.inl (7, 0)))]) (by decide) rfl trivial (Nat.le_of_ble_eq_true rfl) rfl ?_
  intro p l e s m args below meth c C hr
  unfold X7_where at hM
  refine v_aload_n C 0 dX7_where_0 rfl rfl ?_
  refine v_iconst C (nI 0) dX7_where_1 zk_0 ?_
  refine pf_RX7_65 C hX dX7_where_2 hM (fun g1 hM => ?_)
  refine v_aload_n C 0 dX7_where_5 rfl rfl ?_
  refine gf_RX7_68 C hX dX7_where_6 ?_
  refine v_iconst C (nI 4) dX7_where_9 zk_4 ?_
  refine v_icmp_ne C 20 dX7_where_10 rfl hM (fun hM => ?_) (fun hM => ?_)
  · refine v_iconst C (-1) dX7_where_20 zk_m1 ?_
    exact v_iret2 C hr dX7_where_21 hM
  · refine v_aload_n C 0 dX7_where_13 rfl rfl ?_
    refine gf_RX7_9 C hX dX7_where_14 ?_
    refine v_goto C 21 dX7_where_17 rfl ?_
    exact v_iret2 C hr dX7_where_21 hM

theorem c_X7_placeAt {X : zX} (hX : zfl X = true) {v0 : Int32} {v1 : Int32} {v2 : Int32} {g gr : zG} {rr : Int32}  (hM : X7_placeAt v0 v1 v2 g = some (rr, gr)) : MC X yX7_placeAt cX7_placeAt 3 (some .int) 0 [.inl v0, .inl v1, .inl v2] (some (.inl rr)) g gr := by
  refine MC.mk (own := RX7) (L := [some (.inl v0), some (.inl v1), some (.inl v2)]) (by decide) rfl trivial (Nat.le_of_ble_eq_true rfl) rfl ?_
  intro p l e s m args below meth c C hr
  unfold X7_placeAt at hM
  refine v_sipush C (nI 318) dX7_placeAt_0 zks_318 ?_
  refine v_bipush C (nI 9) dX7_placeAt_3 zkb_9 ?_
  refine v_bipush C (nI 68) dX7_placeAt_5 zkb_68 ?_
  refine v_iload_n C 0 dX7_placeAt_7 rfl rfl ?_
  refine v_imul C dX7_placeAt_8 ?_
  refine v_bipush C (nI 17) dX7_placeAt_9 zkb_17 ?_
  refine v_iload_n C 1 dX7_placeAt_11 rfl rfl ?_
  refine v_imul C dX7_placeAt_12 ?_
  refine v_iadd C dX7_placeAt_13 ?_
  refine v_iload_n C 2 dX7_placeAt_14 rfl rfl ?_
  refine v_iadd C dX7_placeAt_15 ?_
  refine v_imul C dX7_placeAt_16 ?_
  refine v_iadd C dX7_placeAt_17 ?_
  exact v_iret2 C hr dX7_placeAt_18 hM

theorem t_X7_laysAside_l2  (hX : zfl X = true) (C : Cx X p (zrm 0) s m args meth c cX7_laysAside 2 RX7 0 0) (hr : meth.sig.returnType = none)  : ∀ (n : Nat) {v1 : Int32} (g : zG), X7_laysAside_l2  n v1 g = some (rr, gr) → V X p l e (zrm 0) s m args below meth c 2 0 0 (MQ below (zQ X (Option.map (zM X) none) gr) args s 0 0 (zF X)) g 2 [some (.inr (.inl (7, 0))), some (.inl v1)] [] := by
  intro n
  induction n with
  | zero =>
    intro v1 g  hM
    exact absurd (show (none : Option (Int32 × zG)) = some (rr, gr) from hM) (by simp)
  | succ n ih =>
    intro v1 g  hM
    rw [X7_laysAside_l2.eq_2] at hM
    refine v_iload_n C 1 dX7_laysAside_2 rfl rfl ?_
    refine v_sipush C (nI 2766) dX7_laysAside_3 zks_2766 ?_
    refine v_icmp_ge C 27 dX7_laysAside_6 rfl hM (fun hM => ?_) (fun hM => ?_)
    · exact v_vret2 C hr dX7_laysAside_27 hM
    · refine v_aload_n C 0 dX7_laysAside_9 rfl rfl ?_
      refine gf_RX7_56 C hX dX7_laysAside_10 ?_
      refine v_iload_n C 1 dX7_laysAside_13 rfl rfl ?_
      refine v_aload_n C 0 dX7_laysAside_14 rfl rfl ?_
      refine gf_RX7_53 C hX dX7_laysAside_15 ?_
      refine v_iload_n C 1 dX7_laysAside_18 rfl rfl ?_
      refine ia_43 C hX dX7_laysAside_19 hM (fun hM _ => ?_)
      refine is_44 C hX dX7_laysAside_20 hM (fun g1 hM => ?_)
      refine v_iinc (L' := [some (.inr (.inl (7, 0))), some (.inl (v1 + (nI 1)))]) C 1 (nI 1) dX7_laysAside_21 zk_1 (by decide) rfl rfl ?_
      refine v_goto C 2 dX7_laysAside_24 rfl ?_
      exact ih g1  hM

theorem c_X7_laysAside {X : zX} (hX : zfl X = true)  {g gr : zG} {rr : Int32}  (hM : X7_laysAside  g = some (rr, gr)) : MC X yX7_laysAside cX7_laysAside 2 none 0 [.inr (.inl (7, 0))] none g gr := by
  refine MC.mk (own := RX7) (L := [some (.inr (.inl (7, 0))), none]) (by decide) rfl trivial (Nat.le_of_ble_eq_true rfl) rfl ?_
  intro p l e s m args below meth c C hr
  unfold X7_laysAside at hM
  refine v_iconst C (nI 0) dX7_laysAside_0 zk_0 ?_
  refine v_istore_n (L' := [some (.inr (.inl (7, 0))), some (.inl (nI 0))]) C 1 dX7_laysAside_1 rfl (by decide) rfl ?_
  exact t_X7_laysAside_l2 hX C hr  _ g  hM

theorem t_X7_takesBack_l2  (hX : zfl X = true) (C : Cx X p (zrm 1) s m args meth c cX7_takesBack 2 RX7 0 0) (hr : meth.sig.returnType = none)  : ∀ (n : Nat) {v1 : Int32} (g : zG), X7_takesBack_l2  n v1 g = some (rr, gr) → V X p l e (zrm 1) s m args below meth c 2 0 0 (MQ below (zQ X (Option.map (zM X) none) gr) args s 0 0 (zF X)) g 2 [some (.inr (.inl (7, 0))), some (.inl v1)] [] := by
  intro n
  induction n with
  | zero =>
    intro v1 g  hM
    exact absurd (show (none : Option (Int32 × zG)) = some (rr, gr) from hM) (by simp)
  | succ n ih =>
    intro v1 g  hM
    rw [X7_takesBack_l2.eq_2] at hM
    refine v_iload_n C 1 dX7_takesBack_2 rfl rfl ?_
    refine v_sipush C (nI 2766) dX7_takesBack_3 zks_2766 ?_
    refine v_icmp_ge C 27 dX7_takesBack_6 rfl hM (fun hM => ?_) (fun hM => ?_)
    · refine v_aload_n C 0 dX7_takesBack_27 rfl rfl ?_
      obtain ⟨x1, g2, e3, hM⟩ := zc_elim hM
      refine v_callVv (ci := 7) (rest := []) C (c_X7_asTold hX  e3) mw_X7_asTold mi_X7_asTold ml_RX7_232 hX.symm zm7 rfl rfl ⟨by decide, Nat.le_of_ble_eq_true rfl⟩ rfl (Nat.le_of_ble_eq_true rfl) dX7_takesBack_28 rfl ?_
      exact v_vret2 C hr dX7_takesBack_31 hM
    · refine v_aload_n C 0 dX7_takesBack_9 rfl rfl ?_
      refine gf_RX7_53 C hX dX7_takesBack_10 ?_
      refine v_iload_n C 1 dX7_takesBack_13 rfl rfl ?_
      refine v_aload_n C 0 dX7_takesBack_14 rfl rfl ?_
      refine gf_RX7_56 C hX dX7_takesBack_15 ?_
      refine v_iload_n C 1 dX7_takesBack_18 rfl rfl ?_
      refine ia_44 C hX dX7_takesBack_19 hM (fun hM _ => ?_)
      refine is_43 C hX dX7_takesBack_20 hM (fun g4 hM => ?_)
      refine v_iinc (L' := [some (.inr (.inl (7, 0))), some (.inl (v1 + (nI 1)))]) C 1 (nI 1) dX7_takesBack_21 zk_1 (by decide) rfl rfl ?_
      refine v_goto C 2 dX7_takesBack_24 rfl ?_
      exact ih g4  hM

theorem c_X7_takesBack {X : zX} (hX : zfl X = true)  {g gr : zG} {rr : Int32}  (hM : X7_takesBack  g = some (rr, gr)) : MC X yX7_takesBack cX7_takesBack 2 none 1 [.inr (.inl (7, 0))] none g gr := by
  refine MC.mk (own := RX7) (L := [some (.inr (.inl (7, 0))), none]) (by decide) rfl trivial (Nat.le_of_ble_eq_true rfl) rfl ?_
  intro p l e s m args below meth c C hr
  unfold X7_takesBack at hM
  refine v_iconst C (nI 0) dX7_takesBack_0 zk_0 ?_
  refine v_istore_n (L' := [some (.inr (.inl (7, 0))), some (.inl (nI 0))]) C 1 dX7_takesBack_1 rfl (by decide) rfl ?_
  exact t_X7_takesBack_l2 hX C hr  _ g  hM

theorem t_X7_find_l2  (hX : zfl X = true) (C : Cx X p (zrm 1) s m args meth c cX7_find 5 RX7 0 0) (hr : meth.sig.returnType = (some .int))  : ∀ (n : Nat) {v1 : Int32} {v2 : Int32} {v3 : Int32} (g : zG), X7_find_l2  n v1 v2 v3 g = some (rr, gr) → V X p l e (zrm 1) s m args below meth c 5 0 0 (MQ below (zQ X (Option.map (zM X) (some (.inl rr))) gr) args s 0 0 (zF X)) g 2 [some (.inr (.inl (7, 0))), some (.inl v1), some (.inl v2), some (.inl v3), none] [] := by
  intro n
  induction n with
  | zero =>
    intro v1 v2 v3 g  hM
    exact absurd (show (none : Option (Int32 × zG)) = some (rr, gr) from hM) (by simp)
  | succ n ih =>
    intro v1 v2 v3 g  hM
    rw [X7_find_l2.eq_2] at hM
    refine v_iload_n C 3 dX7_find_2 rfl rfl ?_
    refine v_aload_n C 0 dX7_find_3 rfl rfl ?_
    refine gf_RX7_242 C hX dX7_find_4 ?_
    refine v_icmp_ge C 47 dX7_find_7 rfl hM (fun hM => ?_) (fun hM => ?_)
    · refine v_iconst C (-1) dX7_find_47 zk_m1 ?_
      exact v_iret2 C hr dX7_find_48 hM
    · refine v_iload_n C 1 dX7_find_10 rfl rfl ?_
      refine v_iload_n C 2 dX7_find_11 rfl rfl ?_
      refine v_aload_n C 0 dX7_find_12 rfl rfl ?_
      refine gf_RX7_17 C hX dX7_find_13 ?_
      refine v_iconst C (nI 0) dX7_find_16 zk_0 ?_
      refine ia_31 C hX dX7_find_17 hM (fun hM _ => ?_)
      refine v_irem C dX7_find_18 hM (fun hM => ?_)
      refine v_iload_n C 3 dX7_find_19 rfl rfl ?_
      obtain ⟨x1, g2, e3, hM⟩ := zc_elim hM
      refine v_callSi (rest := []) C (c_X7_placeAt hX  e3) mw_X7_placeAt ms_X7_placeAt ml_RX7_247 ⟨by decide, Nat.le_of_ble_eq_true rfl⟩ rfl (Nat.le_of_ble_eq_true rfl) dX7_find_20 rfl ?_
      refine v_istore (L' := [some (.inr (.inl (7, 0))), some (.inl v1), some (.inl v2), some (.inl v3), some (.inl x1)]) C 4 dX7_find_23 (by decide) rfl ?_
      refine v_aload_n C 0 dX7_find_25 rfl rfl ?_
      refine gf_RX7_53 C hX dX7_find_26 ?_
      refine v_iload C 4 dX7_find_29 rfl ?_
      refine v_iconst C (nI 0) dX7_find_31 zk_0 ?_
      refine v_iadd C dX7_find_32 ?_
      refine ia_43 C hX dX7_find_33 hM (fun hM _ => ?_)
      refine v_iload_n C 2 dX7_find_34 rfl rfl ?_
      refine v_icmp_ne C 41 dX7_find_35 rfl hM (fun hM => ?_) (fun hM => ?_)
      · refine v_iinc (L' := [some (.inr (.inl (7, 0))), some (.inl v1), some (.inl v2), some (.inl (v3 + (nI 1))), some (.inl x1)]) C 3 (nI 1) dX7_find_41 zk_1 (by decide) rfl rfl ?_
        refine v_goto C 2 dX7_find_44 rfl ?_
        exact v_weak (ih g2  hM) (show zsub [some (.inr (.inl (7, 0))), some (.inl v1), some (.inl v2), some (.inl (v3 + (nI 1))), none] [some (.inr (.inl (7, 0))), some (.inl v1), some (.inl v2), some (.inl (v3 + (nI 1))), some (.inl x1)] from ⟨rfl, ⟨rfl, ⟨rfl, ⟨rfl, trivial⟩⟩⟩⟩)
      · refine v_iload C 4 dX7_find_38 rfl ?_
        exact v_iret2 C hr dX7_find_40 hM

theorem c_X7_find {X : zX} (hX : zfl X = true) {v1 : Int32} {v2 : Int32} {g gr : zG} {rr : Int32}  (hM : X7_find v1 v2 g = some (rr, gr)) : MC X yX7_find cX7_find 5 (some .int) 1 [.inr (.inl (7, 0)), .inl v1, .inl v2] (some (.inl rr)) g gr := by
  refine MC.mk (own := RX7) (L := [some (.inr (.inl (7, 0))), some (.inl v1), some (.inl v2), none, none]) (by decide) rfl trivial (Nat.le_of_ble_eq_true rfl) rfl ?_
  intro p l e s m args below meth c C hr
  unfold X7_find at hM
  refine v_iconst C (nI 0) dX7_find_0 zk_0 ?_
  refine v_istore_n (L' := [some (.inr (.inl (7, 0))), some (.inl v1), some (.inl v2), some (.inl (nI 0)), none]) C 3 dX7_find_1 rfl (by decide) rfl ?_
  exact t_X7_find_l2 hX C hr  _ g  hM

theorem c_X7_empties {X : zX} (hX : zfl X = true) {v1 : Int32} {g gr : zG} {rr : Int32}  (hM : X7_empties v1 g = some (rr, gr)) : MC X yX7_empties cX7_empties 2 none 0 [.inr (.inl (7, 0)), .inl v1] none g gr := by
  refine MC.mk (own := RX7) (L := [some (.inr (.inl (7, 0))), some (.inl v1)]) (by decide) rfl trivial (Nat.le_of_ble_eq_true rfl) rfl ?_
  intro p l e s m args below meth c C hr
  unfold X7_empties at hM
  refine v_aload_n C 0 dX7_empties_0 rfl rfl ?_
  refine gf_RX7_53 C hX dX7_empties_1 ?_
  refine v_iload_n C 1 dX7_empties_4 rfl rfl ?_
  refine v_iconst C (nI 0) dX7_empties_5 zk_0 ?_
  refine v_iadd C dX7_empties_6 ?_
  refine v_bipush C (-2) dX7_empties_7 zkb_m2 ?_
  refine is_43 C hX dX7_empties_9 hM (fun g1 hM => ?_)
  refine v_aload_n C 0 dX7_empties_10 rfl rfl ?_
  refine gf_RX7_53 C hX dX7_empties_11 ?_
  refine v_iload_n C 1 dX7_empties_14 rfl rfl ?_
  refine v_iconst C (nI 1) dX7_empties_15 zk_1 ?_
  refine v_iadd C dX7_empties_16 ?_
  refine v_iconst C (nI 0) dX7_empties_17 zk_0 ?_
  refine is_43 C hX dX7_empties_18 hM (fun g2 hM => ?_)
  refine v_aload_n C 0 dX7_empties_19 rfl rfl ?_
  refine gf_RX7_53 C hX dX7_empties_20 ?_
  refine v_iload_n C 1 dX7_empties_23 rfl rfl ?_
  refine v_iconst C (nI 2) dX7_empties_24 zk_2 ?_
  refine v_iadd C dX7_empties_25 ?_
  refine v_iconst C (nI 0) dX7_empties_26 zk_0 ?_
  refine is_43 C hX dX7_empties_27 hM (fun g3 hM => ?_)
  refine v_aload_n C 0 dX7_empties_28 rfl rfl ?_
  refine gf_RX7_53 C hX dX7_empties_29 ?_
  refine v_iload_n C 1 dX7_empties_32 rfl rfl ?_
  refine v_iconst C (nI 3) dX7_empties_33 zk_3 ?_
  refine v_iadd C dX7_empties_34 ?_
  refine v_iconst C (nI 0) dX7_empties_35 zk_0 ?_
  refine is_43 C hX dX7_empties_36 hM (fun g4 hM => ?_)
  refine v_aload_n C 0 dX7_empties_37 rfl rfl ?_
  refine gf_RX7_53 C hX dX7_empties_38 ?_
  refine v_iload_n C 1 dX7_empties_41 rfl rfl ?_
  refine v_iconst C (nI 4) dX7_empties_42 zk_4 ?_
  refine v_iadd C dX7_empties_43 ?_
  refine v_iconst C (nI 0) dX7_empties_44 zk_0 ?_
  refine is_43 C hX dX7_empties_45 hM (fun g5 hM => ?_)
  exact v_vret2 C hr dX7_empties_46 hM

theorem t_X7_writesBack_l26  (hX : zfl X = true) (C : Cx X p (zrm 0) s m args meth c cX7_writesBack 3 RX7 0 0) (hr : meth.sig.returnType = none)  : ∀ (n : Nat) {v1 : Int32} {v2 : Int32} (g : zG), X7_writesBack_l26  n v1 v2 g = some (rr, gr) → V X p l e (zrm 0) s m args below meth c 3 0 0 (MQ below (zQ X (Option.map (zM X) none) gr) args s 0 0 (zF X)) g 26 [some (.inr (.inl (7, 0))), some (.inl v1), some (.inl v2)] [] := by
  intro n
  induction n with
  | zero =>
    intro v1 v2 g  hM
    exact absurd (show (none : Option (Int32 × zG)) = some (rr, gr) from hM) (by simp)
  | succ n ih =>
    intro v1 v2 g  hM
    rw [X7_writesBack_l26.eq_2] at hM
    refine v_iload_n C 2 dX7_writesBack_26 rfl rfl ?_
    refine v_aload_n C 0 dX7_writesBack_27 rfl rfl ?_
    refine gf_RX7_17 C hX dX7_writesBack_28 ?_
    refine v_iconst C (nI 2) dX7_writesBack_31 zk_2 ?_
    refine ia_31 C hX dX7_writesBack_32 hM (fun hM _ => ?_)
    refine v_icmp_ge C 78 dX7_writesBack_33 rfl hM (fun hM => ?_) (fun hM => ?_)
    · exact v_vret2 C hr dX7_writesBack_78 hM
    · refine v_aload_n C 0 dX7_writesBack_36 rfl rfl ?_
      refine gf_RX7_53 C hX dX7_writesBack_37 ?_
      refine v_sipush C (nI 254) dX7_writesBack_40 zks_254 ?_
      refine v_aload_n C 0 dX7_writesBack_43 rfl rfl ?_
      refine gf_RX7_17 C hX dX7_writesBack_44 ?_
      refine v_iconst C (nI 2) dX7_writesBack_47 zk_2 ?_
      refine ia_31 C hX dX7_writesBack_48 hM (fun hM _ => ?_)
      refine v_aload_n C 0 dX7_writesBack_49 rfl rfl ?_
      refine gf_RX7_53 C hX dX7_writesBack_50 ?_
      refine v_iload_n C 1 dX7_writesBack_53 rfl rfl ?_
      refine v_iconst C (nI 0) dX7_writesBack_54 zk_0 ?_
      refine v_iadd C dX7_writesBack_55 ?_
      refine ia_43 C hX dX7_writesBack_56 hM (fun hM _ => ?_)
      refine v_imul C dX7_writesBack_57 ?_
      refine v_iadd C dX7_writesBack_58 ?_
      refine v_iload_n C 2 dX7_writesBack_59 rfl rfl ?_
      refine v_iadd C dX7_writesBack_60 ?_
      refine v_aload_n C 0 dX7_writesBack_61 rfl rfl ?_
      refine gf_RX7_53 C hX dX7_writesBack_62 ?_
      refine v_iload_n C 1 dX7_writesBack_65 rfl rfl ?_
      refine v_iconst C (nI 5) dX7_writesBack_66 zk_5 ?_
      refine v_iadd C dX7_writesBack_67 ?_
      refine v_iload_n C 2 dX7_writesBack_68 rfl rfl ?_
      refine v_iadd C dX7_writesBack_69 ?_
      refine ia_43 C hX dX7_writesBack_70 hM (fun hM _ => ?_)
      refine is_43 C hX dX7_writesBack_71 hM (fun g1 hM => ?_)
      refine v_iinc (L' := [some (.inr (.inl (7, 0))), some (.inl v1), some (.inl (v2 + (nI 1)))]) C 2 (nI 1) dX7_writesBack_72 zk_1 (by decide) rfl rfl ?_
      refine v_goto C 26 dX7_writesBack_75 rfl ?_
      exact ih g1  hM

theorem c_X7_writesBack {X : zX} (hX : zfl X = true) {v1 : Int32} {g gr : zG} {rr : Int32}  (hM : X7_writesBack v1 g = some (rr, gr)) : MC X yX7_writesBack cX7_writesBack 3 none 0 [.inr (.inl (7, 0)), .inl v1] none g gr := by
  refine MC.mk (own := RX7) (L := [some (.inr (.inl (7, 0))), some (.inl v1), none]) (by decide) rfl trivial (Nat.le_of_ble_eq_true rfl) rfl ?_
  intro p l e s m args below meth c C hr
  unfold X7_writesBack at hM
  refine v_aload_n C 0 dX7_writesBack_0 rfl rfl ?_
  refine gf_RX7_53 C hX dX7_writesBack_1 ?_
  refine v_iconst C (nI 2) dX7_writesBack_4 zk_2 ?_
  refine v_dup2 C dX7_writesBack_5 ?_
  refine ia_43 C hX dX7_writesBack_6 hM (fun hM _ => ?_)
  refine v_iconst C (nI 1) dX7_writesBack_7 zk_1 ?_
  refine v_iadd C dX7_writesBack_8 ?_
  refine is_43 C hX dX7_writesBack_9 hM (fun g1 hM => ?_)
  refine v_aload_n C 0 dX7_writesBack_10 rfl rfl ?_
  refine gf_RX7_53 C hX dX7_writesBack_11 ?_
  refine v_iload_n C 1 dX7_writesBack_14 rfl rfl ?_
  refine v_iconst C (nI 0) dX7_writesBack_15 zk_0 ?_
  refine v_iadd C dX7_writesBack_16 ?_
  refine ia_43 C hX dX7_writesBack_17 hM (fun hM _ => ?_)
  refine v_bipush C (nI 16) dX7_writesBack_18 zkb_16 ?_
  refine v_icmp_ne C 24 dX7_writesBack_20 rfl hM (fun hM => ?_) (fun hM => ?_)
  · refine v_iconst C (nI 0) dX7_writesBack_24 zk_0 ?_
    refine v_istore_n (L' := [some (.inr (.inl (7, 0))), some (.inl v1), some (.inl (nI 0))]) C 2 dX7_writesBack_25 rfl (by decide) rfl ?_
    exact t_X7_writesBack_l26 hX C hr  _ g1  hM
  · exact v_vret2 C hr dX7_writesBack_23 hM

theorem t_X7_ends_b52 {v1 : Int32} {v2 : Int32} {v3 : Int32} {v4 : Int32} {v5 : Int32} {k15 : Int32 → Int32 → Int32 → Int32 → zG → Option (Int32 × zG)} {g : zG} (hX : zfl X = true) (C : Cx X p (zrm 1) s m args meth c cX7_ends 6 RX7 0 0) (hr : meth.sig.returnType = none)  (hk15 : ∀ (v1 : Int32) (v2 : Int32) (v3 : Int32) (v4 : Int32) (g : zG),  k15 v1 v2 v3 v4 g = some (rr, gr) → V X p l e (zrm 1) s m args below meth c 6 0 0 (MQ below (zQ X (Option.map (zM X) none) gr) args s 0 0 (zF X)) g 15 [some (.inr (.inl (7, 0))), some (.inl v1), some (.inl v2), some (.inl v3), some (.inl v4), none] []) (hM : X7_ends_b52 k15 v1 v2 v3 v4 v5 g = some (rr, gr)) : V X p l e (zrm 1) s m args below meth c 6 0 0 (MQ below (zQ X (Option.map (zM X) none) gr) args s 0 0 (zF X)) g 52 [some (.inr (.inl (7, 0))), some (.inl v1), some (.inl v2), some (.inl v3), some (.inl v4), some (.inl v5)] [] := by
  unfold X7_ends_b52 at hM
  refine v_aload_n C 0 dX7_ends_52 rfl rfl ?_
  refine gf_RX7_53 C hX dX7_ends_53 ?_
  refine v_iload C 5 dX7_ends_56 rfl ?_
  refine v_iconst C (nI 2) dX7_ends_58 zk_2 ?_
  refine v_iadd C dX7_ends_59 ?_
  refine v_iconst C (nI 0) dX7_ends_60 zk_0 ?_
  refine is_43 C hX dX7_ends_61 hM (fun g1 hM => ?_)
  refine v_iinc (L' := [some (.inr (.inl (7, 0))), some (.inl v1), some (.inl v2), some (.inl v3), some (.inl (v4 + (nI 1))), some (.inl v5)]) C 4 (nI 1) dX7_ends_62 zk_1 (by decide) rfl rfl ?_
  refine v_goto C 15 dX7_ends_65 rfl ?_
  exact v_weak (hk15 v1 v2 v3 (v4 + (nI 1)) g1  hM) (show zsub [some (.inr (.inl (7, 0))), some (.inl v1), some (.inl v2), some (.inl v3), some (.inl (v4 + (nI 1))), none] [some (.inr (.inl (7, 0))), some (.inl v1), some (.inl v2), some (.inl v3), some (.inl (v4 + (nI 1))), some (.inl v5)] from ⟨rfl, ⟨rfl, ⟨rfl, ⟨rfl, ⟨rfl, trivial⟩⟩⟩⟩⟩)

theorem t_X7_ends_l15 {k2 : Int32 → Int32 → Int32 → zG → Option (Int32 × zG)} (hX : zfl X = true) (C : Cx X p (zrm 1) s m args meth c cX7_ends 6 RX7 0 0) (hr : meth.sig.returnType = none) (hk2 : ∀ (v1 : Int32) (v2 : Int32) (v3 : Int32) (g : zG),  k2 v1 v2 v3 g = some (rr, gr) → V X p l e (zrm 1) s m args below meth c 6 0 0 (MQ below (zQ X (Option.map (zM X) none) gr) args s 0 0 (zF X)) g 2 [some (.inr (.inl (7, 0))), some (.inl v1), some (.inl v2), some (.inl v3), none, none] []) : ∀ (n : Nat) {v1 : Int32} {v2 : Int32} {v3 : Int32} {v4 : Int32} (g : zG), X7_ends_l15 k2 n v1 v2 v3 v4 g = some (rr, gr) → V X p l e (zrm 1) s m args below meth c 6 0 0 (MQ below (zQ X (Option.map (zM X) none) gr) args s 0 0 (zF X)) g 15 [some (.inr (.inl (7, 0))), some (.inl v1), some (.inl v2), some (.inl v3), some (.inl v4), none] [] := by
  intro n
  induction n with
  | zero =>
    intro v1 v2 v3 v4 g  hM
    exact absurd (show (none : Option (Int32 × zG)) = some (rr, gr) from hM) (by simp)
  | succ n ih =>
    intro v1 v2 v3 v4 g  hM
    rw [X7_ends_l15.eq_2] at hM
    refine v_iload C 4 dX7_ends_15 rfl ?_
    refine v_aload_n C 0 dX7_ends_17 rfl rfl ?_
    refine gf_RX7_242 C hX dX7_ends_18 ?_
    refine v_icmp_ge C 68 dX7_ends_21 rfl hM (fun hM => ?_) (fun hM => ?_)
    · refine v_iinc (L' := [some (.inr (.inl (7, 0))), some (.inl v1), some (.inl v2), some (.inl (v3 + (nI 1))), some (.inl v4), none]) C 3 (nI 1) dX7_ends_68 zk_1 (by decide) rfl rfl ?_
      refine v_goto C 2 dX7_ends_71 rfl ?_
      exact v_weak (hk2 v1 v2 (v3 + (nI 1)) g  hM) (show zsub [some (.inr (.inl (7, 0))), some (.inl v1), some (.inl v2), some (.inl (v3 + (nI 1))), none, none] [some (.inr (.inl (7, 0))), some (.inl v1), some (.inl v2), some (.inl (v3 + (nI 1))), some (.inl v4), none] from ⟨rfl, ⟨rfl, ⟨rfl, ⟨rfl, trivial⟩⟩⟩⟩)
    · refine v_iload_n C 1 dX7_ends_24 rfl rfl ?_
      refine v_iload_n C 3 dX7_ends_25 rfl rfl ?_
      refine v_iload C 4 dX7_ends_26 rfl ?_
      obtain ⟨x1, g2, e3, hM⟩ := zc_elim hM
      refine v_callSi (rest := []) C (c_X7_placeAt hX  e3) mw_X7_placeAt ms_X7_placeAt ml_RX7_247 ⟨by decide, Nat.le_of_ble_eq_true rfl⟩ rfl (Nat.le_of_ble_eq_true rfl) dX7_ends_28 rfl ?_
      refine v_istore (L' := [some (.inr (.inl (7, 0))), some (.inl v1), some (.inl v2), some (.inl v3), some (.inl v4), some (.inl x1)]) C 5 dX7_ends_31 (by decide) rfl ?_
      refine v_aload_n C 0 dX7_ends_33 rfl rfl ?_
      refine gf_RX7_53 C hX dX7_ends_34 ?_
      refine v_iload C 5 dX7_ends_37 rfl ?_
      refine v_iconst C (nI 3) dX7_ends_39 zk_3 ?_
      refine v_iadd C dX7_ends_40 ?_
      refine ia_43 C hX dX7_ends_41 hM (fun hM _ => ?_)
      refine v_iconst C (nI 1) dX7_ends_42 zk_1 ?_
      refine v_icmp_ne C 52 dX7_ends_43 rfl hM (fun hM => ?_) (fun hM => ?_)
      · exact t_X7_ends_b52 hX C hr  (fun v1 v2 v3 v4 g  hM => ih g  hM) hM
      · refine v_aload_n C 0 dX7_ends_46 rfl rfl ?_
        refine v_iload C 5 dX7_ends_47 rfl ?_
        obtain ⟨x4, g5, e6, hM⟩ := zc_elim hM
        refine v_callVv (ci := 7) (rest := []) C (c_X7_empties hX  e6) mw_X7_empties mi_X7_empties ml_RX7_251 hX.symm zm7 rfl rfl ⟨by decide, Nat.le_of_ble_eq_true rfl⟩ rfl (Nat.le_of_ble_eq_true rfl) dX7_ends_49 rfl ?_
        exact t_X7_ends_b52 hX C hr  (fun v1 v2 v3 v4 g  hM => ih g  hM) hM

theorem t_X7_ends_l2 {k163 : Int32 → Int32 → zG → Option (Int32 × zG)} (hX : zfl X = true) (C : Cx X p (zrm 1) s m args meth c cX7_ends 6 RX7 0 0) (hr : meth.sig.returnType = none) (hk163 : ∀ (v1 : Int32) (v2 : Int32) (g : zG),  k163 v1 v2 g = some (rr, gr) → V X p l e (zrm 1) s m args below meth c 6 0 0 (MQ below (zQ X (Option.map (zM X) none) gr) args s 0 0 (zF X)) g 163 [some (.inr (.inl (7, 0))), some (.inl v1), some (.inl v2), none, none, none] []) : ∀ (n : Nat) {v1 : Int32} {v2 : Int32} {v3 : Int32} (g : zG), X7_ends_l2 k163 n v1 v2 v3 g = some (rr, gr) → V X p l e (zrm 1) s m args below meth c 6 0 0 (MQ below (zQ X (Option.map (zM X) none) gr) args s 0 0 (zF X)) g 2 [some (.inr (.inl (7, 0))), some (.inl v1), some (.inl v2), some (.inl v3), none, none] [] := by
  intro n
  induction n with
  | zero =>
    intro v1 v2 v3 g  hM
    exact absurd (show (none : Option (Int32 × zG)) = some (rr, gr) from hM) (by simp)
  | succ n ih =>
    intro v1 v2 v3 g  hM
    rw [X7_ends_l2.eq_2] at hM
    refine v_iload_n C 3 dX7_ends_2 rfl rfl ?_
    refine v_aload_n C 0 dX7_ends_3 rfl rfl ?_
    refine gf_RX7_17 C hX dX7_ends_4 ?_
    refine v_iconst C (nI 0) dX7_ends_7 zk_0 ?_
    refine ia_31 C hX dX7_ends_8 hM (fun hM _ => ?_)
    refine v_icmp_ge C 74 dX7_ends_9 rfl hM (fun hM => ?_) (fun hM => ?_)
    · refine v_aload_n C 0 dX7_ends_74 rfl rfl ?_
      refine gf_RX7_53 C hX dX7_ends_75 ?_
      refine v_iload_n C 1 dX7_ends_78 rfl rfl ?_
      refine v_iconst C (nI 1) dX7_ends_79 zk_1 ?_
      obtain ⟨x1, g2, e3, hM⟩ := zc_elim hM
      refine v_callSi (rest := [(.inr (.inl (43, 0)))]) C (c_X7_coreAt hX  e3) mw_X7_coreAt ms_X7_coreAt ml_RX7_244 ⟨by decide, Nat.le_of_ble_eq_true rfl⟩ rfl (Nat.le_of_ble_eq_true rfl) dX7_ends_80 rfl ?_
      refine v_iconst C (nI 0) dX7_ends_83 zk_0 ?_
      refine is_43 C hX dX7_ends_84 hM (fun g4 hM => ?_)
      refine v_aload_n C 0 dX7_ends_85 rfl rfl ?_
      refine gf_RX7_53 C hX dX7_ends_86 ?_
      refine v_iload_n C 1 dX7_ends_89 rfl rfl ?_
      refine v_iconst C (nI 2) dX7_ends_90 zk_2 ?_
      obtain ⟨x5, g6, e7, hM⟩ := zc_elim hM
      refine v_callSi (rest := [(.inr (.inl (43, 0)))]) C (c_X7_coreAt hX  e7) mw_X7_coreAt ms_X7_coreAt ml_RX7_244 ⟨by decide, Nat.le_of_ble_eq_true rfl⟩ rfl (Nat.le_of_ble_eq_true rfl) dX7_ends_91 rfl ?_
      refine v_iconst C (nI 0) dX7_ends_94 zk_0 ?_
      refine is_43 C hX dX7_ends_95 hM (fun g8 hM => ?_)
      refine v_aload_n C 0 dX7_ends_96 rfl rfl ?_
      refine gf_RX7_53 C hX dX7_ends_97 ?_
      refine v_iload_n C 1 dX7_ends_100 rfl rfl ?_
      refine v_iconst C (nI 0) dX7_ends_101 zk_0 ?_
      obtain ⟨x9, g10, e11, hM⟩ := zc_elim hM
      refine v_callSi (rest := [(.inr (.inl (43, 0)))]) C (c_X7_coreAt hX  e11) mw_X7_coreAt ms_X7_coreAt ml_RX7_244 ⟨by decide, Nat.le_of_ble_eq_true rfl⟩ rfl (Nat.le_of_ble_eq_true rfl) dX7_ends_102 rfl ?_
      refine v_aload_n C 0 dX7_ends_105 rfl rfl ?_
      refine gf_RX7_53 C hX dX7_ends_106 ?_
      refine v_iload_n C 1 dX7_ends_109 rfl rfl ?_
      refine v_bipush C (nI 6) dX7_ends_110 zkb_6 ?_
      obtain ⟨x12, g13, e14, hM⟩ := zc_elim hM
      refine v_callSi (rest := [(.inr (.inl (43, 0))), (.inl x9), (.inr (.inl (43, 0)))]) C (c_X7_coreAt hX  e14) mw_X7_coreAt ms_X7_coreAt ml_RX7_244 ⟨by decide, Nat.le_of_ble_eq_true rfl⟩ rfl (Nat.le_of_ble_eq_true rfl) dX7_ends_112 rfl ?_
      refine ia_43 C hX dX7_ends_115 hM (fun hM _ => ?_)
      refine is_43 C hX dX7_ends_116 hM (fun g15 hM => ?_)
      refine v_aload_n C 0 dX7_ends_117 rfl rfl ?_
      refine gf_RX7_53 C hX dX7_ends_118 ?_
      refine v_iload_n C 1 dX7_ends_121 rfl rfl ?_
      refine v_iconst C (nI 3) dX7_ends_122 zk_3 ?_
      obtain ⟨x16, g17, e18, hM⟩ := zc_elim hM
      refine v_callSi (rest := [(.inr (.inl (43, 0)))]) C (c_X7_coreAt hX  e18) mw_X7_coreAt ms_X7_coreAt ml_RX7_244 ⟨by decide, Nat.le_of_ble_eq_true rfl⟩ rfl (Nat.le_of_ble_eq_true rfl) dX7_ends_123 rfl ?_
      refine v_iconst C (nI 0) dX7_ends_126 zk_0 ?_
      refine is_43 C hX dX7_ends_127 hM (fun g19 hM => ?_)
      refine v_aload_n C 0 dX7_ends_128 rfl rfl ?_
      refine gf_RX7_53 C hX dX7_ends_129 ?_
      refine v_iload_n C 1 dX7_ends_132 rfl rfl ?_
      refine v_bipush C (nI 7) dX7_ends_133 zkb_7 ?_
      refine v_iload_n C 2 dX7_ends_135 rfl rfl ?_
      refine v_iadd C dX7_ends_136 ?_
      obtain ⟨x20, g21, e22, hM⟩ := zc_elim hM
      refine v_callSi (rest := [(.inr (.inl (43, 0)))]) C (c_X7_coreAt hX  e22) mw_X7_coreAt ms_X7_coreAt ml_RX7_244 ⟨by decide, Nat.le_of_ble_eq_true rfl⟩ rfl (Nat.le_of_ble_eq_true rfl) dX7_ends_137 rfl ?_
      refine v_dup2 C dX7_ends_140 ?_
      refine ia_43 C hX dX7_ends_141 hM (fun hM _ => ?_)
      refine v_iconst C (nI 1) dX7_ends_142 zk_1 ?_
      refine v_iadd C dX7_ends_143 ?_
      refine is_43 C hX dX7_ends_144 hM (fun g23 hM => ?_)
      refine v_iload_n C 2 dX7_ends_145 rfl rfl ?_
      refine v_if_ne C 163 dX7_ends_146 rfl hM (fun hM => ?_) (fun hM => ?_)
      · exact v_weak (hk163 v1 v2 g23  hM) (show zsub [some (.inr (.inl (7, 0))), some (.inl v1), some (.inl v2), none, none, none] [some (.inr (.inl (7, 0))), some (.inl v1), some (.inl v2), some (.inl v3), none, none] from ⟨rfl, ⟨rfl, ⟨rfl, trivial⟩⟩⟩)
      · refine v_aload_n C 0 dX7_ends_149 rfl rfl ?_
        refine gf_RX7_53 C hX dX7_ends_150 ?_
        refine v_iload_n C 1 dX7_ends_153 rfl rfl ?_
        refine v_iconst C (nI 4) dX7_ends_154 zk_4 ?_
        obtain ⟨x24, g25, e26, hM⟩ := zc_elim hM
        refine v_callSi (rest := [(.inr (.inl (43, 0)))]) C (c_X7_coreAt hX  e26) mw_X7_coreAt ms_X7_coreAt ml_RX7_244 ⟨by decide, Nat.le_of_ble_eq_true rfl⟩ rfl (Nat.le_of_ble_eq_true rfl) dX7_ends_155 rfl ?_
        refine v_dup2 C dX7_ends_158 ?_
        refine ia_43 C hX dX7_ends_159 hM (fun hM _ => ?_)
        refine v_iconst C (nI 1) dX7_ends_160 zk_1 ?_
        refine v_iadd C dX7_ends_161 ?_
        refine is_43 C hX dX7_ends_162 hM (fun g27 hM => ?_)
        exact v_weak (hk163 v1 v2 g27  hM) (show zsub [some (.inr (.inl (7, 0))), some (.inl v1), some (.inl v2), none, none, none] [some (.inr (.inl (7, 0))), some (.inl v1), some (.inl v2), some (.inl v3), none, none] from ⟨rfl, ⟨rfl, ⟨rfl, trivial⟩⟩⟩)
    · refine v_iconst C (nI 0) dX7_ends_12 zk_0 ?_
      refine v_istore (L' := [some (.inr (.inl (7, 0))), some (.inl v1), some (.inl v2), some (.inl v3), some (.inl (nI 0)), none]) C 4 dX7_ends_13 (by decide) rfl ?_
      exact t_X7_ends_l15 hX C hr (fun v1 v2 v3 g  hM => ih g  hM) _ g  hM

theorem t_X7_ends_b182 {v1 : Int32}  {g : zG} (hX : zfl X = true) (C : Cx X p (zrm 1) s m args meth c cX7_ends 6 RX7 0 0) (hr : meth.sig.returnType = none)   (hM : X7_ends_b182  v1 g = some (rr, gr)) : V X p l e (zrm 1) s m args below meth c 6 0 0 (MQ below (zQ X (Option.map (zM X) none) gr) args s 0 0 (zF X)) g 182 [some (.inr (.inl (7, 0))), some (.inl v1), none, none, none, none] [] := by
  unfold X7_ends_b182 at hM
  refine v_aload_n C 0 dX7_ends_182 rfl rfl ?_
  refine v_dup_a C dX7_ends_183 ?_
  refine gf_RX7_254 C hX dX7_ends_184 ?_
  refine v_iconst C (nI 1) dX7_ends_187 zk_1 ?_
  refine v_iload_n C 1 dX7_ends_188 rfl rfl ?_
  refine v_ishl C dX7_ends_189 ?_
  refine v_ior C dX7_ends_190 ?_
  refine pf_RX7_254 C hX dX7_ends_191 hM (fun g1 hM => ?_)
  exact v_vret2 C hr dX7_ends_194 hM

theorem t_X7_ends_b163 {v1 : Int32} {v2 : Int32}  {g : zG} (hX : zfl X = true) (C : Cx X p (zrm 1) s m args meth c cX7_ends 6 RX7 0 0) (hr : meth.sig.returnType = none)   (hM : X7_ends_b163  v1 v2 g = some (rr, gr)) : V X p l e (zrm 1) s m args below meth c 6 0 0 (MQ below (zQ X (Option.map (zM X) none) gr) args s 0 0 (zF X)) g 163 [some (.inr (.inl (7, 0))), some (.inl v1), some (.inl v2), none, none, none] [] := by
  unfold X7_ends_b163 at hM
  refine v_iload_n C 2 dX7_ends_163 rfl rfl ?_
  refine v_iconst C (nI 1) dX7_ends_164 zk_1 ?_
  refine v_icmp_ne C 182 dX7_ends_165 rfl hM (fun hM => ?_) (fun hM => ?_)
  · exact v_weak (t_X7_ends_b182 hX C hr   hM) (show zsub [some (.inr (.inl (7, 0))), some (.inl v1), none, none, none, none] [some (.inr (.inl (7, 0))), some (.inl v1), some (.inl v2), none, none, none] from ⟨rfl, ⟨rfl, trivial⟩⟩)
  · refine v_aload_n C 0 dX7_ends_168 rfl rfl ?_
    refine gf_RX7_53 C hX dX7_ends_169 ?_
    refine v_iload_n C 1 dX7_ends_172 rfl rfl ?_
    refine v_iconst C (nI 4) dX7_ends_173 zk_4 ?_
    obtain ⟨x1, g2, e3, hM⟩ := zc_elim hM
    refine v_callSi (rest := [(.inr (.inl (43, 0)))]) C (c_X7_coreAt hX  e3) mw_X7_coreAt ms_X7_coreAt ml_RX7_244 ⟨by decide, Nat.le_of_ble_eq_true rfl⟩ rfl (Nat.le_of_ble_eq_true rfl) dX7_ends_174 rfl ?_
    refine v_aload_n C 0 dX7_ends_177 rfl rfl ?_
    refine gf_RX7_240 C hX dX7_ends_178 ?_
    refine is_43 C hX dX7_ends_181 hM (fun g4 hM => ?_)
    exact v_weak (t_X7_ends_b182 hX C hr   hM) (show zsub [some (.inr (.inl (7, 0))), some (.inl v1), none, none, none, none] [some (.inr (.inl (7, 0))), some (.inl v1), some (.inl v2), none, none, none] from ⟨rfl, ⟨rfl, trivial⟩⟩)

theorem c_X7_ends {X : zX} (hX : zfl X = true) {v1 : Int32} {v2 : Int32} {g gr : zG} {rr : Int32}  (hM : X7_ends v1 v2 g = some (rr, gr)) : MC X yX7_ends cX7_ends 6 none 1 [.inr (.inl (7, 0)), .inl v1, .inl v2] none g gr := by
  refine MC.mk (own := RX7) (L := [some (.inr (.inl (7, 0))), some (.inl v1), some (.inl v2), none, none, none]) (by decide) rfl trivial (Nat.le_of_ble_eq_true rfl) rfl ?_
  intro p l e s m args below meth c C hr
  unfold X7_ends at hM
  refine v_iconst C (nI 0) dX7_ends_0 zk_0 ?_
  refine v_istore_n (L' := [some (.inr (.inl (7, 0))), some (.inl v1), some (.inl v2), some (.inl (nI 0)), none, none]) C 3 dX7_ends_1 rfl (by decide) rfl ?_
  exact t_X7_ends_l2 hX C hr (by intro v1 v2 g  hM; exact t_X7_ends_b163 hX C hr   hM) _ g  hM

end ZL
