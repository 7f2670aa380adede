section ZL
variable {X : zX} {p : Program} {l : Launch} {e : Env} {s : State} {m : MethodId} {args : Array Value} {below : List Frame} {meth : Method} {c : Code} {rr : Int32} {gr : zG}
theorem c_X7_serial {X : zX} (hX : zfl X = true) {v1 : Int32} {g gr : zG} {rr : Int32}  (hM : X7_serial v1 g = some (rr, gr)) : MC X yX7_serial cX7_serial 2 (some .int) 3 [.inr (.inl (7, 0)), .inl v1] (some (.inl rr)) g gr := by
  refine MC.mk (own := RX7) (L := [some (.inr (.inl (7, 0))), some (.inl v1)]) (by decide) rfl trivial (Nat.le_of_ble_eq_true rfl) rfl ?_
  intro p l e s m args below meth c C hr
  unfold X7_serial at hM
  refine v_aload_n C 0 dX7_serial_0 rfl rfl ?_
  obtain ⟨x1, g2, e3, hM⟩ := zc_elim hM
  refine v_callVv (ci := 7) (rest := []) C (c_X7_anew hX  e3) mw_X7_anew mi_X7_anew ml_RX7_211 hX.symm zm7 rfl rfl ⟨by decide, Nat.le_of_ble_eq_true rfl⟩ rfl (Nat.le_of_ble_eq_true rfl) dX7_serial_1 rfl ?_
  refine v_aload_n C 0 dX7_serial_4 rfl rfl ?_
  refine v_iload_n C 1 dX7_serial_5 rfl rfl ?_
  obtain ⟨x4, g5, e6, hM⟩ := zc_elim hM
  refine v_callVi (ci := 7) (rest := []) C (c_X7_isAddress hX  e6) mw_X7_isAddress mi_X7_isAddress ml_RX7_311 hX.symm zm7 rfl rfl ⟨by decide, Nat.le_of_ble_eq_true rfl⟩ rfl (Nat.le_of_ble_eq_true rfl) dX7_serial_6 rfl ?_
  refine v_if_ne C 18 dX7_serial_9 rfl hM (fun hM => ?_) (fun hM => ?_)
  · refine v_aload_n C 0 dX7_serial_18 rfl rfl ?_
    obtain ⟨x7, g8, e9, hM⟩ := zc_elim hM
    refine v_callVv (ci := 7) (rest := []) C (c_X7_serially hX  e9) mw_X7_serially mi_X7_serially ml_RX7_329 hX.symm zm7 rfl rfl ⟨by decide, Nat.le_of_ble_eq_true rfl⟩ rfl (Nat.le_of_ble_eq_true rfl) dX7_serial_19 rfl ?_
    refine v_aload_n C 0 dX7_serial_22 rfl rfl ?_
    refine gf_RX7_62 C hX dX7_serial_23 ?_
    refine v_iload_n C 1 dX7_serial_26 rfl rfl ?_
    refine ia_46 C hX dX7_serial_27 hM (fun hM _ => ?_)
    exact v_iret2 C hr dX7_serial_28 hM
  · refine v_aload_n C 0 dX7_serial_12 rfl rfl ?_
    refine v_iconst C (nI 1) dX7_serial_13 zk_1 ?_
    obtain ⟨x10, g11, e12, hM⟩ := zc_elim hM
    refine v_callVi (ci := 7) (rest := []) C (c_X7_no hX  e12) mw_X7_no mi_X7_no ml_RX7_214 hX.symm zm7 rfl rfl ⟨by decide, Nat.le_of_ble_eq_true rfl⟩ rfl (Nat.le_of_ble_eq_true rfl) dX7_serial_14 rfl ?_
    exact v_iret2 C hr dX7_serial_17 hM

theorem t_X7_agrees_l23  (hX : zfl X = true) (C : Cx X p (zrm 3) s m args meth c cX7_agrees 2 RX7 0 0) (hr : meth.sig.returnType = (some .int))  : ∀ (n : Nat) {v1 : Int32} (g : zG), X7_agrees_l23  n v1 g = some (rr, gr) → V X p l e (zrm 3) s m args below meth c 2 0 0 (MQ below (zQ X (Option.map (zM X) (some (.inl rr))) gr) args s 0 0 (zF X)) g 23 [some (.inr (.inl (7, 0))), some (.inl v1)] [] := by
  intro n
  induction n with
  | zero =>
    intro v1 g  hM
    exact absurd (show (none : Option (Int32 × zG)) = some (rr, gr) from hM) (by simp)
  | succ n ih =>
    intro v1 g  hM
    rw [X7_agrees_l23.eq_2] at hM
    refine v_iload_n C 1 dX7_agrees_23 rfl rfl ?_
    refine v_aload_n C 0 dX7_agrees_24 rfl rfl ?_
    refine v_aload_n C 0 dX7_agrees_25 rfl rfl ?_
    refine gf_RX7_17 C hX dX7_agrees_26 ?_
    refine v_iconst C (nI 2) dX7_agrees_29 zk_2 ?_
    refine ia_31 C hX dX7_agrees_30 hM (fun hM _ => ?_)
    obtain ⟨x1, g2, e3, hM⟩ := zc_elim hM
    refine v_callVi (ci := 7) (rest := [(.inl v1)]) C (c_X7_addresses hX  e3) mw_X7_addresses mi_X7_addresses ml_RX7_165 hX.symm zm7 rfl rfl ⟨by decide, Nat.le_of_ble_eq_true rfl⟩ rfl (Nat.le_of_ble_eq_true rfl) dX7_agrees_31 rfl ?_
    refine v_icmp_ge C 59 dX7_agrees_34 rfl hM (fun hM => ?_) (fun hM => ?_)
    · refine v_iconst C (nI 1) dX7_agrees_59 zk_1 ?_
      exact v_iret2 C hr dX7_agrees_60 hM
    · refine v_aload_n C 0 dX7_agrees_37 rfl rfl ?_
      refine gf_RX7_62 C hX dX7_agrees_38 ?_
      refine v_iload_n C 1 dX7_agrees_41 rfl rfl ?_
      refine ia_46 C hX dX7_agrees_42 hM (fun hM _ => ?_)
      refine v_aload_n C 0 dX7_agrees_43 rfl rfl ?_
      refine v_iload_n C 1 dX7_agrees_44 rfl rfl ?_
      obtain ⟨x4, g5, e6, hM⟩ := zc_elim hM
      refine v_callVi (ci := 7) (rest := [(.inl (g2 46 0 v1.toNatClampNeg))]) C (c_X7_wordNow hX  e6) mw_X7_wordNow mi_X7_wordNow ml_RX7_314 hX.symm zm7 rfl rfl ⟨by decide, Nat.le_of_ble_eq_true rfl⟩ rfl (Nat.le_of_ble_eq_true rfl) dX7_agrees_45 rfl ?_
      refine v_icmp_eq C 53 dX7_agrees_48 rfl hM (fun hM => ?_) (fun hM => ?_)
      · refine v_iinc (L' := [some (.inr (.inl (7, 0))), some (.inl (v1 + (nI 1)))]) C 1 (nI 1) dX7_agrees_53 zk_1 (by decide) rfl rfl ?_
        refine v_goto C 23 dX7_agrees_56 rfl ?_
        exact ih g5  hM
      · refine v_iconst C (nI 0) dX7_agrees_51 zk_0 ?_
        exact v_iret2 C hr dX7_agrees_52 hM

theorem c_X7_agrees {X : zX} (hX : zfl X = true)  {g gr : zG} {rr : Int32}  (hM : X7_agrees  g = some (rr, gr)) : MC X yX7_agrees cX7_agrees 2 (some .int) 3 [.inr (.inl (7, 0))] (some (.inl rr)) g gr := by
  refine MC.mk (own := RX7) (L := [some (.inr (.inl (7, 0))), none]) (by decide) rfl trivial (Nat.le_of_ble_eq_true rfl) rfl ?_
  intro p l e s m args below meth c C hr
  unfold X7_agrees at hM
  refine v_aload_n C 0 dX7_agrees_0 rfl rfl ?_
  obtain ⟨x1, g2, e3, hM⟩ := zc_elim hM
  refine v_callVv (ci := 7) (rest := []) C (c_X7_anew hX  e3) mw_X7_anew mi_X7_anew ml_RX7_211 hX.symm zm7 rfl rfl ⟨by decide, Nat.le_of_ble_eq_true rfl⟩ rfl (Nat.le_of_ble_eq_true rfl) dX7_agrees_1 rfl ?_
  refine v_aload_n C 0 dX7_agrees_4 rfl rfl ?_
  refine gf_RX7_226 C hX dX7_agrees_5 ?_
  refine v_if_ne C 17 dX7_agrees_8 rfl hM (fun hM => ?_) (fun hM => ?_)
  · refine v_aload_n C 0 dX7_agrees_17 rfl rfl ?_
    obtain ⟨x4, g5, e6, hM⟩ := zc_elim hM
    refine v_callVv (ci := 7) (rest := []) C (c_X7_serially hX  e6) mw_X7_serially mi_X7_serially ml_RX7_329 hX.symm zm7 rfl rfl ⟨by decide, Nat.le_of_ble_eq_true rfl⟩ rfl (Nat.le_of_ble_eq_true rfl) dX7_agrees_18 rfl ?_
    refine v_iconst C (nI 0) dX7_agrees_21 zk_0 ?_
    refine v_istore_n (L' := [some (.inr (.inl (7, 0))), some (.inl (nI 0))]) C 1 dX7_agrees_22 rfl (by decide) rfl ?_
    exact t_X7_agrees_l23 hX C hr  _ g5  hM
  · refine v_aload_n C 0 dX7_agrees_11 rfl rfl ?_
    refine v_iconst C (nI 1) dX7_agrees_12 zk_1 ?_
    obtain ⟨x7, g8, e9, hM⟩ := zc_elim hM
    refine v_callVi (ci := 7) (rest := []) C (c_X7_no hX  e9) mw_X7_no mi_X7_no ml_RX7_214 hX.symm zm7 rfl rfl ⟨by decide, Nat.le_of_ble_eq_true rfl⟩ rfl (Nat.le_of_ble_eq_true rfl) dX7_agrees_13 rfl ?_
    exact v_iret2 C hr dX7_agrees_16 hM

theorem c_X7_lock {X : zX} (hX : zfl X = true)  {g gr : zG} {rr : Int32}  (hM : X7_lock  g = some (rr, gr)) : MC X yX7_lock cX7_lock 1 (some .int) 1 [.inr (.inl (7, 0))] (some (.inl rr)) g gr := by
  refine MC.mk (own := RX7) (L := [some (.inr (.inl (7, 0)))]) (by decide) rfl trivial (Nat.le_of_ble_eq_true rfl) rfl ?_
  intro p l e s m args below meth c C hr
  unfold X7_lock at hM
  refine v_aload_n C 0 dX7_lock_0 rfl rfl ?_
  obtain ⟨x1, g2, e3, hM⟩ := zc_elim hM
  refine v_callVv (ci := 7) (rest := []) C (c_X7_anew hX  e3) mw_X7_anew mi_X7_anew ml_RX7_211 hX.symm zm7 rfl rfl ⟨by decide, Nat.le_of_ble_eq_true rfl⟩ rfl (Nat.le_of_ble_eq_true rfl) dX7_lock_1 rfl ?_
  refine v_aload_n C 0 dX7_lock_4 rfl rfl ?_
  refine gf_RX7_226 C hX dX7_lock_5 ?_
  refine v_if_eq C 20 dX7_lock_8 rfl hM (fun hM => ?_) (fun hM => ?_)
  · refine v_aload_n C 0 dX7_lock_20 rfl rfl ?_
    refine v_iconst C (nI 1) dX7_lock_21 zk_1 ?_
    obtain ⟨x4, g5, e6, hM⟩ := zc_elim hM
    refine v_callVi (ci := 7) (rest := []) C (c_X7_no hX  e6) mw_X7_no mi_X7_no ml_RX7_214 hX.symm zm7 rfl rfl ⟨by decide, Nat.le_of_ble_eq_true rfl⟩ rfl (Nat.le_of_ble_eq_true rfl) dX7_lock_22 rfl ?_
    exact v_iret2 C hr dX7_lock_25 hM
  · refine v_aload_n C 0 dX7_lock_11 rfl rfl ?_
    refine gf_RX7_53 C hX dX7_lock_12 ?_
    refine v_iconst C (nI 5) dX7_lock_15 zk_5 ?_
    refine ia_43 C hX dX7_lock_16 hM (fun hM _ => ?_)
    refine v_goto C 25 dX7_lock_17 rfl ?_
    exact v_iret2 C hr dX7_lock_25 hM

theorem t_X7_alone_b20   {g : zG} (hX : zfl X = true) (C : Cx X p (zrm 2) s m args meth c cX7_alone 6 RX7 0 0) (hr : meth.sig.returnType = (some .int))   (hM : X7_alone_b20   g = some (rr, gr)) : V X p l e (zrm 2) s m args below meth c 6 0 0 (MQ below (zQ X (Option.map (zM X) (some (.inl rr))) gr) args s 0 0 (zF X)) g 20 [some (.inr (.inl (7, 0))), none, none, none, none, none] [] := by
  unfold X7_alone_b20 at hM
  refine v_aload_n C 0 dX7_alone_20 rfl rfl ?_
  refine v_iconst C (nI 1) dX7_alone_21 zk_1 ?_
  obtain ⟨x1, g2, e3, hM⟩ := zc_elim hM
  refine v_callVi (ci := 7) (rest := []) C (c_X7_no hX  e3) mw_X7_no mi_X7_no ml_RX7_214 hX.symm zm7 rfl rfl ⟨by decide, Nat.le_of_ble_eq_true rfl⟩ rfl (Nat.le_of_ble_eq_true rfl) dX7_alone_22 rfl ?_
  exact v_iret2 C hr dX7_alone_25 hM

theorem t_X7_alone_l67 {k32 : Int32 → Int32 → Int32 → zG → Option (Int32 × zG)} (hX : zfl X = true) (C : Cx X p (zrm 2) s m args meth c cX7_alone 6 RX7 0 0) (hr : meth.sig.returnType = (some .int)) (hk32 : ∀ (v1 : Int32) (v2 : Int32) (v3 : Int32) (g : zG),  k32 v1 v2 v3 g = some (rr, gr) → V X p l e (zrm 2) s m args below meth c 6 0 0 (MQ below (zQ X (Option.map (zM X) (some (.inl rr))) gr) args s 0 0 (zF X)) g 32 [some (.inr (.inl (7, 0))), some (.inl v1), some (.inl v2), some (.inl v3), none, none] []) : ∀ (n : Nat) {v1 : Int32} {v2 : Int32} {v3 : Int32} {v4 : Int32} {v5 : Int32} (g : zG), X7_alone_l67 k32 n v1 v2 v3 v4 v5 g = some (rr, gr) → V X p l e (zrm 2) s m args below meth c 6 0 0 (MQ below (zQ X (Option.map (zM X) (some (.inl rr))) gr) args s 0 0 (zF X)) g 67 [some (.inr (.inl (7, 0))), some (.inl v1), some (.inl v2), some (.inl v3), some (.inl v4), some (.inl v5)] [] := by
  intro n
  induction n with
  | zero =>
    intro v1 v2 v3 v4 v5 g  hM
    exact absurd (show (none : Option (Int32 × zG)) = some (rr, gr) from hM) (by simp)
  | succ n ih =>
    intro v1 v2 v3 v4 v5 g  hM
    rw [X7_alone_l67.eq_2] at hM
    refine v_iload C 5 dX7_alone_67 rfl ?_
    refine v_aload_n C 0 dX7_alone_69 rfl rfl ?_
    refine gf_RX7_29 C hX dX7_alone_70 ?_
    refine v_iload C 4 dX7_alone_73 rfl ?_
    refine ia_35 C hX dX7_alone_75 hM (fun hM _ => ?_)
    refine v_icmp_ge C 97 dX7_alone_76 rfl hM (fun hM => ?_) (fun hM => ?_)
    · refine v_iinc (L' := [some (.inr (.inl (7, 0))), some (.inl v1), some (.inl v2), some (.inl (v3 + (nI 1))), some (.inl v4), some (.inl v5)]) C 3 (nI 1) dX7_alone_97 zk_1 (by decide) rfl rfl ?_
      refine v_goto C 32 dX7_alone_100 rfl ?_
      exact v_weak (hk32 v1 v2 (v3 + (nI 1)) g  hM) (show zsub [some (.inr (.inl (7, 0))), some (.inl v1), some (.inl v2), some (.inl (v3 + (nI 1))), none, none] [some (.inr (.inl (7, 0))), some (.inl v1), some (.inl v2), some (.inl (v3 + (nI 1))), some (.inl v4), some (.inl v5)] from ⟨rfl, ⟨rfl, ⟨rfl, ⟨rfl, trivial⟩⟩⟩⟩)
    · refine v_aload_n C 0 dX7_alone_79 rfl rfl ?_
      refine v_bipush C (nI 24) dX7_alone_80 zkb_24 ?_
      refine v_iload C 4 dX7_alone_82 rfl ?_
      refine v_imul C dX7_alone_84 ?_
      refine v_iload C 5 dX7_alone_85 rfl ?_
      refine v_iadd C dX7_alone_87 ?_
      obtain ⟨x1, g2, e3, hM⟩ := zc_elim hM
      refine v_callVv (ci := 7) (rest := []) C (c_X7_plainly hX  e3) mw_X7_plainly mi_X7_plainly ml_RX7_326 hX.symm zm7 rfl rfl ⟨by decide, Nat.le_of_ble_eq_true rfl⟩ rfl (Nat.le_of_ble_eq_true rfl) dX7_alone_88 rfl ?_
      refine v_iinc (L' := [some (.inr (.inl (7, 0))), some (.inl v1), some (.inl v2), some (.inl v3), some (.inl v4), some (.inl (v5 + (nI 1)))]) C 5 (nI 1) dX7_alone_91 zk_1 (by decide) rfl rfl ?_
      refine v_goto C 67 dX7_alone_94 rfl ?_
      exact ih g2  hM

theorem t_X7_alone_l32  (hX : zfl X = true) (C : Cx X p (zrm 2) s m args meth c cX7_alone 6 RX7 0 0) (hr : meth.sig.returnType = (some .int))  : ∀ (n : Nat) {v1 : Int32} {v2 : Int32} {v3 : Int32} (g : zG), X7_alone_l32  n v1 v2 v3 g = some (rr, gr) → V X p l e (zrm 2) s m args below meth c 6 0 0 (MQ below (zQ X (Option.map (zM X) (some (.inl rr))) gr) args s 0 0 (zF X)) g 32 [some (.inr (.inl (7, 0))), some (.inl v1), some (.inl v2), some (.inl v3), none, none] [] := by
  intro n
  induction n with
  | zero =>
    intro v1 v2 v3 g  hM
    exact absurd (show (none : Option (Int32 × zG)) = some (rr, gr) from hM) (by simp)
  | succ n ih =>
    intro v1 v2 v3 g  hM
    rw [X7_alone_l32.eq_2] at hM
    refine v_iload_n C 3 dX7_alone_32 rfl rfl ?_
    refine v_aload_n C 0 dX7_alone_33 rfl rfl ?_
    refine gf_RX7_17 C hX dX7_alone_34 ?_
    refine v_iconst C (nI 5) dX7_alone_37 zk_5 ?_
    refine ia_31 C hX dX7_alone_38 hM (fun hM _ => ?_)
    refine v_icmp_ge C 103 dX7_alone_39 rfl hM (fun hM => ?_) (fun hM => ?_)
    · refine v_aload_n C 0 dX7_alone_103 rfl rfl ?_
      refine gf_RX7_62 C hX dX7_alone_104 ?_
      refine v_iload_n C 2 dX7_alone_107 rfl rfl ?_
      refine ia_46 C hX dX7_alone_108 hM (fun hM _ => ?_)
      exact v_iret2 C hr dX7_alone_109 hM
    · refine v_iload_n C 1 dX7_alone_42 rfl rfl ?_
      refine v_iload_n C 3 dX7_alone_43 rfl rfl ?_
      refine v_iadd C dX7_alone_44 ?_
      refine v_aload_n C 0 dX7_alone_45 rfl rfl ?_
      refine gf_RX7_17 C hX dX7_alone_46 ?_
      refine v_iconst C (nI 5) dX7_alone_49 zk_5 ?_
      refine ia_31 C hX dX7_alone_50 hM (fun hM _ => ?_)
      refine v_irem C dX7_alone_51 hM (fun hM => ?_)
      refine v_istore (L' := [some (.inr (.inl (7, 0))), some (.inl v1), some (.inl v2), some (.inl v3), some (.inl ((v1 + v3) - (v1 + v3) / (g 31 0 (nI 5).toNatClampNeg) * (g 31 0 (nI 5).toNatClampNeg))), none]) C 4 dX7_alone_52 (by decide) rfl ?_
      refine v_aload_n C 0 dX7_alone_54 rfl rfl ?_
      refine v_iconst C (nI 0) dX7_alone_55 zk_0 ?_
      refine pf_RX7_320 C hX dX7_alone_56 hM (fun g1 hM => ?_)
      refine v_aload_n C 0 dX7_alone_59 rfl rfl ?_
      refine v_iconst C (nI 0) dX7_alone_60 zk_0 ?_
      refine pf_RX7_317 C hX dX7_alone_61 hM (fun g2 hM => ?_)
      refine v_iconst C (nI 0) dX7_alone_64 zk_0 ?_
      refine v_istore (L' := [some (.inr (.inl (7, 0))), some (.inl v1), some (.inl v2), some (.inl v3), some (.inl ((v1 + v3) - (v1 + v3) / (g 31 0 (nI 5).toNatClampNeg) * (g 31 0 (nI 5).toNatClampNeg))), some (.inl (nI 0))]) C 5 dX7_alone_65 (by decide) rfl ?_
      exact t_X7_alone_l67 hX C hr (fun v1 v2 v3 g  hM => ih g  hM) _ g2  hM

theorem c_X7_alone {X : zX} (hX : zfl X = true) {v1 : Int32} {v2 : Int32} {g gr : zG} {rr : Int32}  (hM : X7_alone v1 v2 g = some (rr, gr)) : MC X yX7_alone cX7_alone 6 (some .int) 2 [.inr (.inl (7, 0)), .inl v1, .inl v2] (some (.inl rr)) g gr := by
  refine MC.mk (own := RX7) (L := [some (.inr (.inl (7, 0))), some (.inl v1), some (.inl v2), none, none, none]) (by decide) rfl trivial (Nat.le_of_ble_eq_true rfl) rfl ?_
  intro p l e s m args below meth c C hr
  unfold X7_alone at hM
  refine v_aload_n C 0 dX7_alone_0 rfl rfl ?_
  obtain ⟨x1, g2, e3, hM⟩ := zc_elim hM
  refine v_callVv (ci := 7) (rest := []) C (c_X7_anew hX  e3) mw_X7_anew mi_X7_anew ml_RX7_211 hX.symm zm7 rfl rfl ⟨by decide, Nat.le_of_ble_eq_true rfl⟩ rfl (Nat.le_of_ble_eq_true rfl) dX7_alone_1 rfl ?_
  refine v_aload_n C 0 dX7_alone_4 rfl rfl ?_
  refine v_iload_n C 1 dX7_alone_5 rfl rfl ?_
  obtain ⟨x4, g5, e6, hM⟩ := zc_elim hM
  refine v_callVi (ci := 7) (rest := []) C (c_X7_isCore hX  e6) mw_X7_isCore mi_X7_isCore ml_RX7_308 hX.symm zm7 rfl rfl ⟨by decide, Nat.le_of_ble_eq_true rfl⟩ rfl (Nat.le_of_ble_eq_true rfl) dX7_alone_6 rfl ?_
  refine v_if_eq C 20 dX7_alone_9 rfl hM (fun hM => ?_) (fun hM => ?_)
  · exact v_weak (t_X7_alone_b20 hX C hr   hM) (show zsub [some (.inr (.inl (7, 0))), none, none, none, none, none] [some (.inr (.inl (7, 0))), some (.inl v1), some (.inl v2), none, none, none] from ⟨rfl, trivial⟩)
  · refine v_aload_n C 0 dX7_alone_12 rfl rfl ?_
    refine v_iload_n C 2 dX7_alone_13 rfl rfl ?_
    obtain ⟨x7, g8, e9, hM⟩ := zc_elim hM
    refine v_callVi (ci := 7) (rest := []) C (c_X7_isAddress hX  e9) mw_X7_isAddress mi_X7_isAddress ml_RX7_311 hX.symm zm7 rfl rfl ⟨by decide, Nat.le_of_ble_eq_true rfl⟩ rfl (Nat.le_of_ble_eq_true rfl) dX7_alone_14 rfl ?_
    refine v_if_ne C 26 dX7_alone_17 rfl hM (fun hM => ?_) (fun hM => ?_)
    · refine v_aload_n C 0 dX7_alone_26 rfl rfl ?_
      obtain ⟨x10, g11, e12, hM⟩ := zc_elim hM
      refine v_callVv (ci := 7) (rest := []) C (c_X7_plainBegins hX  e12) mw_X7_plainBegins mi_X7_plainBegins ml_RX7_323 hX.symm zm7 rfl rfl ⟨by decide, Nat.le_of_ble_eq_true rfl⟩ rfl (Nat.le_of_ble_eq_true rfl) dX7_alone_27 rfl ?_
      refine v_iconst C (nI 0) dX7_alone_30 zk_0 ?_
      refine v_istore_n (L' := [some (.inr (.inl (7, 0))), some (.inl v1), some (.inl v2), some (.inl (nI 0)), none, none]) C 3 dX7_alone_31 rfl (by decide) rfl ?_
      exact t_X7_alone_l32 hX C hr  _ g11  hM
    · exact v_weak (t_X7_alone_b20 hX C hr   hM) (show zsub [some (.inr (.inl (7, 0))), none, none, none, none, none] [some (.inr (.inl (7, 0))), some (.inl v1), some (.inl v2), none, none, none] from ⟨rfl, trivial⟩)

theorem t_X7_place_b54   {g : zG} (hX : zfl X = true) (C : Cx X p (zrm 2) s m args meth c cX7_place 6 RX7 0 0) (hr : meth.sig.returnType = (some .int))   (hM : X7_place_b54   g = some (rr, gr)) : V X p l e (zrm 2) s m args below meth c 6 0 0 (MQ below (zQ X (Option.map (zM X) (some (.inl rr))) gr) args s 0 0 (zF X)) g 54 [some (.inr (.inl (7, 0))), none, none, none, none, none] [] := by
  unfold X7_place_b54 at hM
  refine v_aload_n C 0 dX7_place_54 rfl rfl ?_
  refine v_iconst C (nI 1) dX7_place_55 zk_1 ?_
  obtain ⟨x1, g2, e3, hM⟩ := zc_elim hM
  refine v_callVi (ci := 7) (rest := []) C (c_X7_no hX  e3) mw_X7_no mi_X7_no ml_RX7_214 hX.symm zm7 rfl rfl ⟨by decide, Nat.le_of_ble_eq_true rfl⟩ rfl (Nat.le_of_ble_eq_true rfl) dX7_place_56 rfl ?_
  exact v_iret2 C hr dX7_place_59 hM

theorem t_X7_place_b93 {v4 : Int32} {v5 : Int32}  {g : zG} (hX : zfl X = true) (C : Cx X p (zrm 2) s m args meth c cX7_place 6 RX7 0 0) (hr : meth.sig.returnType = (some .int))   (hM : X7_place_b93  v4 v5 g = some (rr, gr)) : V X p l e (zrm 2) s m args below meth c 6 0 0 (MQ below (zQ X (Option.map (zM X) (some (.inl rr))) gr) args s 0 0 (zF X)) g 93 [some (.inr (.inl (7, 0))), none, none, none, some (.inl v4), some (.inl v5)] [] := by
  unfold X7_place_b93 at hM
  refine v_aload_n C 0 dX7_place_93 rfl rfl ?_
  refine gf_RX7_53 C hX dX7_place_94 ?_
  refine v_iload C 5 dX7_place_97 rfl ?_
  refine v_iload C 4 dX7_place_99 rfl ?_
  refine v_iadd C dX7_place_101 ?_
  refine ia_43 C hX dX7_place_102 hM (fun hM _ => ?_)
  exact v_iret2 C hr dX7_place_103 hM

theorem c_X7_place {X : zX} (hX : zfl X = true) {v1 : Int32} {v2 : Int32} {v3 : Int32} {v4 : Int32} {g gr : zG} {rr : Int32}  (hM : X7_place v1 v2 v3 v4 g = some (rr, gr)) : MC X yX7_place cX7_place 6 (some .int) 2 [.inr (.inl (7, 0)), .inl v1, .inl v2, .inl v3, .inl v4] (some (.inl rr)) g gr := by
  refine MC.mk (own := RX7) (L := [some (.inr (.inl (7, 0))), some (.inl v1), some (.inl v2), some (.inl v3), some (.inl v4), none]) (by decide) rfl trivial (Nat.le_of_ble_eq_true rfl) rfl ?_
  intro p l e s m args below meth c C hr
  unfold X7_place at hM
  refine v_aload_n C 0 dX7_place_0 rfl rfl ?_
  obtain ⟨x1, g2, e3, hM⟩ := zc_elim hM
  refine v_callVv (ci := 7) (rest := []) C (c_X7_anew hX  e3) mw_X7_anew mi_X7_anew ml_RX7_211 hX.symm zm7 rfl rfl ⟨by decide, Nat.le_of_ble_eq_true rfl⟩ rfl (Nat.le_of_ble_eq_true rfl) dX7_place_1 rfl ?_
  refine v_aload_n C 0 dX7_place_4 rfl rfl ?_
  refine v_iload_n C 1 dX7_place_5 rfl rfl ?_
  obtain ⟨x4, g5, e6, hM⟩ := zc_elim hM
  refine v_callVi (ci := 7) (rest := []) C (c_X7_isCore hX  e6) mw_X7_isCore mi_X7_isCore ml_RX7_308 hX.symm zm7 rfl rfl ⟨by decide, Nat.le_of_ble_eq_true rfl⟩ rfl (Nat.le_of_ble_eq_true rfl) dX7_place_6 rfl ?_
  refine v_if_eq C 54 dX7_place_9 rfl hM (fun hM => ?_) (fun hM => ?_)
  · exact v_weak (t_X7_place_b54 hX C hr   hM) (show zsub [some (.inr (.inl (7, 0))), none, none, none, none, none] [some (.inr (.inl (7, 0))), some (.inl v1), some (.inl v2), some (.inl v3), some (.inl v4), none] from ⟨rfl, trivial⟩)
  · refine v_iload_n C 2 dX7_place_12 rfl rfl ?_
    refine v_iconst C (nI 0) dX7_place_13 zk_0 ?_
    refine v_aload_n C 0 dX7_place_14 rfl rfl ?_
    refine gf_RX7_17 C hX dX7_place_15 ?_
    refine v_iconst C (nI 0) dX7_place_18 zk_0 ?_
    refine ia_31 C hX dX7_place_19 hM (fun hM _ => ?_)
    refine v_iconst C (nI 1) dX7_place_20 zk_1 ?_
    refine v_isub C dX7_place_21 ?_
    obtain ⟨x7, g8, e9, hM⟩ := zc_elim hM
    refine v_callSi (rest := []) C (c_X7_in hX  e9) mw_X7_in ms_X7_in ml_RX7_94 ⟨by decide, Nat.le_of_ble_eq_true rfl⟩ rfl (Nat.le_of_ble_eq_true rfl) dX7_place_22 rfl ?_
    refine v_if_eq C 54 dX7_place_25 rfl hM (fun hM => ?_) (fun hM => ?_)
    · exact v_weak (t_X7_place_b54 hX C hr   hM) (show zsub [some (.inr (.inl (7, 0))), none, none, none, none, none] [some (.inr (.inl (7, 0))), some (.inl v1), some (.inl v2), some (.inl v3), some (.inl v4), none] from ⟨rfl, trivial⟩)
    · refine v_iload_n C 3 dX7_place_28 rfl rfl ?_
      refine v_iconst C (nI 0) dX7_place_29 zk_0 ?_
      refine v_aload_n C 0 dX7_place_30 rfl rfl ?_
      refine gf_RX7_17 C hX dX7_place_31 ?_
      refine v_iconst C (nI 1) dX7_place_34 zk_1 ?_
      refine ia_31 C hX dX7_place_35 hM (fun hM _ => ?_)
      refine v_iconst C (nI 1) dX7_place_36 zk_1 ?_
      refine v_isub C dX7_place_37 ?_
      obtain ⟨x10, g11, e12, hM⟩ := zc_elim hM
      refine v_callSi (rest := []) C (c_X7_in hX  e12) mw_X7_in ms_X7_in ml_RX7_94 ⟨by decide, Nat.le_of_ble_eq_true rfl⟩ rfl (Nat.le_of_ble_eq_true rfl) dX7_place_38 rfl ?_
      refine v_if_eq C 54 dX7_place_41 rfl hM (fun hM => ?_) (fun hM => ?_)
      · exact v_weak (t_X7_place_b54 hX C hr   hM) (show zsub [some (.inr (.inl (7, 0))), none, none, none, none, none] [some (.inr (.inl (7, 0))), some (.inl v1), some (.inl v2), some (.inl v3), some (.inl v4), none] from ⟨rfl, trivial⟩)
      · refine v_iload C 4 dX7_place_44 rfl ?_
        refine v_iconst C (nI 0) dX7_place_46 zk_0 ?_
        refine v_iconst C (nI 4) dX7_place_47 zk_4 ?_
        obtain ⟨x13, g14, e15, hM⟩ := zc_elim hM
        refine v_callSi (rest := []) C (c_X7_in hX  e15) mw_X7_in ms_X7_in ml_RX7_94 ⟨by decide, Nat.le_of_ble_eq_true rfl⟩ rfl (Nat.le_of_ble_eq_true rfl) dX7_place_48 rfl ?_
        refine v_if_ne C 60 dX7_place_51 rfl hM (fun hM => ?_) (fun hM => ?_)
        · refine v_iload_n C 1 dX7_place_60 rfl rfl ?_
          refine v_iload_n C 2 dX7_place_61 rfl rfl ?_
          refine v_iload_n C 3 dX7_place_62 rfl rfl ?_
          obtain ⟨x16, g17, e18, hM⟩ := zc_elim hM
          refine v_callSi (rest := []) C (c_X7_placeAt hX  e18) mw_X7_placeAt ms_X7_placeAt ml_RX7_247 ⟨by decide, Nat.le_of_ble_eq_true rfl⟩ rfl (Nat.le_of_ble_eq_true rfl) dX7_place_63 rfl ?_
          refine v_istore (L' := [some (.inr (.inl (7, 0))), some (.inl v1), some (.inl v2), some (.inl v3), some (.inl v4), some (.inl x16)]) C 5 dX7_place_66 (by decide) rfl ?_
          refine v_iload C 4 dX7_place_68 rfl ?_
          refine v_iconst C (nI 4) dX7_place_70 zk_4 ?_
          refine v_icmp_ne C 93 dX7_place_71 rfl hM (fun hM => ?_) (fun hM => ?_)
          · exact v_weak (t_X7_place_b93 hX C hr   hM) (show zsub [some (.inr (.inl (7, 0))), none, none, none, some (.inl v4), some (.inl x16)] [some (.inr (.inl (7, 0))), some (.inl v1), some (.inl v2), some (.inl v3), some (.inl v4), some (.inl x16)] from ⟨rfl, ⟨rfl, ⟨rfl, trivial⟩⟩⟩)
          · refine v_aload_n C 0 dX7_place_74 rfl rfl ?_
            refine gf_RX7_53 C hX dX7_place_75 ?_
            refine v_iload C 5 dX7_place_78 rfl ?_
            refine v_iconst C (nI 0) dX7_place_80 zk_0 ?_
            refine v_iadd C dX7_place_81 ?_
            refine ia_43 C hX dX7_place_82 hM (fun hM _ => ?_)
            refine v_bipush C (-2) dX7_place_83 zkb_m2 ?_
            refine v_icmp_ne C 93 dX7_place_85 rfl hM (fun hM => ?_) (fun hM => ?_)
            · exact v_weak (t_X7_place_b93 hX C hr   hM) (show zsub [some (.inr (.inl (7, 0))), none, none, none, some (.inl v4), some (.inl x16)] [some (.inr (.inl (7, 0))), some (.inl v1), some (.inl v2), some (.inl v3), some (.inl v4), some (.inl x16)] from ⟨rfl, ⟨rfl, ⟨rfl, trivial⟩⟩⟩)
            · refine v_bipush C (-2) dX7_place_88 zkb_m2 ?_
              refine v_goto C 103 dX7_place_90 rfl ?_
              exact v_iret2 C hr dX7_place_103 hM
        · exact v_weak (t_X7_place_b54 hX C hr   hM) (show zsub [some (.inr (.inl (7, 0))), none, none, none, none, none] [some (.inr (.inl (7, 0))), some (.inl v1), some (.inl v2), some (.inl v3), some (.inl v4), none] from ⟨rfl, trivial⟩)

theorem t_X7_cached_b20   {g : zG} (hX : zfl X = true) (C : Cx X p (zrm 2) s m args meth c cX7_cached 4 RX7 0 0) (hr : meth.sig.returnType = (some .int))   (hM : X7_cached_b20   g = some (rr, gr)) : V X p l e (zrm 2) s m args below meth c 4 0 0 (MQ below (zQ X (Option.map (zM X) (some (.inl rr))) gr) args s 0 0 (zF X)) g 20 [some (.inr (.inl (7, 0))), none, none, none] [] := by
  unfold X7_cached_b20 at hM
  refine v_aload_n C 0 dX7_cached_20 rfl rfl ?_
  refine v_iconst C (nI 1) dX7_cached_21 zk_1 ?_
  obtain ⟨x1, g2, e3, hM⟩ := zc_elim hM
  refine v_callVi (ci := 7) (rest := []) C (c_X7_no hX  e3) mw_X7_no mi_X7_no ml_RX7_214 hX.symm zm7 rfl rfl ⟨by decide, Nat.le_of_ble_eq_true rfl⟩ rfl (Nat.le_of_ble_eq_true rfl) dX7_cached_22 rfl ?_
  exact v_iret2 C hr dX7_cached_25 hM

theorem c_X7_cached {X : zX} (hX : zfl X = true) {v1 : Int32} {v2 : Int32} {g gr : zG} {rr : Int32}  (hM : X7_cached v1 v2 g = some (rr, gr)) : MC X yX7_cached cX7_cached 4 (some .int) 2 [.inr (.inl (7, 0)), .inl v1, .inl v2] (some (.inl rr)) g gr := by
  refine MC.mk (own := RX7) (L := [some (.inr (.inl (7, 0))), some (.inl v1), some (.inl v2), none]) (by decide) rfl trivial (Nat.le_of_ble_eq_true rfl) rfl ?_
  intro p l e s m args below meth c C hr
  unfold X7_cached at hM
  refine v_aload_n C 0 dX7_cached_0 rfl rfl ?_
  obtain ⟨x1, g2, e3, hM⟩ := zc_elim hM
  refine v_callVv (ci := 7) (rest := []) C (c_X7_anew hX  e3) mw_X7_anew mi_X7_anew ml_RX7_211 hX.symm zm7 rfl rfl ⟨by decide, Nat.le_of_ble_eq_true rfl⟩ rfl (Nat.le_of_ble_eq_true rfl) dX7_cached_1 rfl ?_
  refine v_aload_n C 0 dX7_cached_4 rfl rfl ?_
  refine v_iload_n C 1 dX7_cached_5 rfl rfl ?_
  obtain ⟨x4, g5, e6, hM⟩ := zc_elim hM
  refine v_callVi (ci := 7) (rest := []) C (c_X7_isCore hX  e6) mw_X7_isCore mi_X7_isCore ml_RX7_308 hX.symm zm7 rfl rfl ⟨by decide, Nat.le_of_ble_eq_true rfl⟩ rfl (Nat.le_of_ble_eq_true rfl) dX7_cached_6 rfl ?_
  refine v_if_eq C 20 dX7_cached_9 rfl hM (fun hM => ?_) (fun hM => ?_)
  · exact v_weak (t_X7_cached_b20 hX C hr   hM) (show zsub [some (.inr (.inl (7, 0))), none, none, none] [some (.inr (.inl (7, 0))), some (.inl v1), some (.inl v2), none] from ⟨rfl, trivial⟩)
  · refine v_aload_n C 0 dX7_cached_12 rfl rfl ?_
    refine v_iload_n C 2 dX7_cached_13 rfl rfl ?_
    obtain ⟨x7, g8, e9, hM⟩ := zc_elim hM
    refine v_callVi (ci := 7) (rest := []) C (c_X7_isAddress hX  e9) mw_X7_isAddress mi_X7_isAddress ml_RX7_311 hX.symm zm7 rfl rfl ⟨by decide, Nat.le_of_ble_eq_true rfl⟩ rfl (Nat.le_of_ble_eq_true rfl) dX7_cached_14 rfl ?_
    refine v_if_ne C 26 dX7_cached_17 rfl hM (fun hM => ?_) (fun hM => ?_)
    · refine v_aload_n C 0 dX7_cached_26 rfl rfl ?_
      refine v_iload_n C 1 dX7_cached_27 rfl rfl ?_
      refine v_iload_n C 2 dX7_cached_28 rfl rfl ?_
      refine v_aload_n C 0 dX7_cached_29 rfl rfl ?_
      refine gf_RX7_17 C hX dX7_cached_30 ?_
      refine v_iconst C (nI 2) dX7_cached_33 zk_2 ?_
      refine ia_31 C hX dX7_cached_34 hM (fun hM _ => ?_)
      refine v_idiv C dX7_cached_35 hM (fun hM => ?_)
      obtain ⟨x10, g11, e12, hM⟩ := zc_elim hM
      refine v_callVi (ci := 7) (rest := []) C (c_X7_find hX  e12) mw_X7_find mi_X7_find ml_RX7_257 hX.symm zm7 rfl rfl ⟨by decide, Nat.le_of_ble_eq_true rfl⟩ rfl (Nat.le_of_ble_eq_true rfl) dX7_cached_36 rfl ?_
      refine v_istore_n (L' := [some (.inr (.inl (7, 0))), some (.inl v1), some (.inl v2), some (.inl x10)]) C 3 dX7_cached_39 rfl (by decide) rfl ?_
      refine v_iload_n C 3 dX7_cached_40 rfl rfl ?_
      refine v_iconst C (-1) dX7_cached_41 zk_m1 ?_
      refine v_icmp_ne C 50 dX7_cached_42 rfl hM (fun hM => ?_) (fun hM => ?_)
      · refine v_aload_n C 0 dX7_cached_50 rfl rfl ?_
        refine gf_RX7_53 C hX dX7_cached_51 ?_
        refine v_iload_n C 3 dX7_cached_54 rfl rfl ?_
        refine v_iconst C (nI 5) dX7_cached_55 zk_5 ?_
        refine v_iadd C dX7_cached_56 ?_
        refine v_iload_n C 2 dX7_cached_57 rfl rfl ?_
        refine v_aload_n C 0 dX7_cached_58 rfl rfl ?_
        refine gf_RX7_17 C hX dX7_cached_59 ?_
        refine v_iconst C (nI 2) dX7_cached_62 zk_2 ?_
        refine ia_31 C hX dX7_cached_63 hM (fun hM _ => ?_)
        refine v_irem C dX7_cached_64 hM (fun hM => ?_)
        refine v_iadd C dX7_cached_65 ?_
        refine ia_43 C hX dX7_cached_66 hM (fun hM _ => ?_)
        exact v_iret2 C hr dX7_cached_67 hM
      · refine v_bipush C (-2) dX7_cached_45 zkb_m2 ?_
        refine v_goto C 67 dX7_cached_47 rfl ?_
        exact v_iret2 C hr dX7_cached_67 hM
    · exact v_weak (t_X7_cached_b20 hX C hr   hM) (show zsub [some (.inr (.inl (7, 0))), none, none, none] [some (.inr (.inl (7, 0))), some (.inl v1), some (.inl v2), none] from ⟨rfl, trivial⟩)

theorem t_X7_sharers_b21   {g : zG} (hX : zfl X = true) (C : Cx X p (zrm 2) s m args meth c cX7_sharers 4 RX7 0 0) (hr : meth.sig.returnType = (some .int))   (hM : X7_sharers_b21   g = some (rr, gr)) : V X p l e (zrm 2) s m args below meth c 4 0 0 (MQ below (zQ X (Option.map (zM X) (some (.inl rr))) gr) args s 0 0 (zF X)) g 21 [some (.inr (.inl (7, 0))), none, none, none] [] := by
  unfold X7_sharers_b21 at hM
  refine v_aload_n C 0 dX7_sharers_21 rfl rfl ?_
  refine v_iconst C (nI 1) dX7_sharers_22 zk_1 ?_
  obtain ⟨x1, g2, e3, hM⟩ := zc_elim hM
  refine v_callVi (ci := 7) (rest := []) C (c_X7_no hX  e3) mw_X7_no mi_X7_no ml_RX7_214 hX.symm zm7 rfl rfl ⟨by decide, Nat.le_of_ble_eq_true rfl⟩ rfl (Nat.le_of_ble_eq_true rfl) dX7_sharers_23 rfl ?_
  exact v_iret2 C hr dX7_sharers_26 hM

theorem t_X7_sharers_b59 {v1 : Int32} {v3 : Int32} {s0 : Int32} {s1 : Int32} {k31 : Int32 → Int32 → Int32 → zG → Option (Int32 × zG)} {g : zG} (hX : zfl X = true) (C : Cx X p (zrm 2) s m args meth c cX7_sharers 4 RX7 0 0) (hr : meth.sig.returnType = (some .int))  (hk31 : ∀ (v1 : Int32) (v2 : Int32) (v3 : Int32) (g : zG),  k31 v1 v2 v3 g = some (rr, gr) → V X p l e (zrm 2) s m args below meth c 4 0 0 (MQ below (zQ X (Option.map (zM X) (some (.inl rr))) gr) args s 0 0 (zF X)) g 31 [some (.inr (.inl (7, 0))), some (.inl v1), some (.inl v2), some (.inl v3)] []) (hM : X7_sharers_b59 k31 v1 v3 s0 s1 g = some (rr, gr)) : V X p l e (zrm 2) s m args below meth c 4 0 0 (MQ below (zQ X (Option.map (zM X) (some (.inl rr))) gr) args s 0 0 (zF X)) g 59 [some (.inr (.inl (7, 0))), some (.inl v1), none, some (.inl v3)] [(.inl s1), (.inl s0)] := by
  unfold X7_sharers_b59 at hM
  refine v_ior C dX7_sharers_59 ?_
  refine v_istore_n (L' := [some (.inr (.inl (7, 0))), some (.inl v1), some (.inl (s0 ||| s1)), some (.inl v3)]) C 2 dX7_sharers_60 rfl (by decide) rfl ?_
  refine v_iinc (L' := [some (.inr (.inl (7, 0))), some (.inl v1), some (.inl (s0 ||| s1)), some (.inl (v3 + (nI 1)))]) C 3 (nI 1) dX7_sharers_61 zk_1 (by decide) rfl rfl ?_
  refine v_goto C 31 dX7_sharers_64 rfl ?_
  exact hk31 v1 (s0 ||| s1) (v3 + (nI 1)) g  hM

theorem t_X7_sharers_l31  (hX : zfl X = true) (C : Cx X p (zrm 2) s m args meth c cX7_sharers 4 RX7 0 0) (hr : meth.sig.returnType = (some .int))  : ∀ (n : Nat) {v1 : Int32} {v2 : Int32} {v3 : Int32} (g : zG), X7_sharers_l31  n v1 v2 v3 g = some (rr, gr) → V X p l e (zrm 2) s m args below meth c 4 0 0 (MQ below (zQ X (Option.map (zM X) (some (.inl rr))) gr) args s 0 0 (zF X)) g 31 [some (.inr (.inl (7, 0))), some (.inl v1), some (.inl v2), some (.inl v3)] [] := by
  intro n
  induction n with
  | zero =>
    intro v1 v2 v3 g  hM
    exact absurd (show (none : Option (Int32 × zG)) = some (rr, gr) from hM) (by simp)
  | succ n ih =>
    intro v1 v2 v3 g  hM
    rw [X7_sharers_l31.eq_2] at hM
    refine v_iload_n C 3 dX7_sharers_31 rfl rfl ?_
    refine v_aload_n C 0 dX7_sharers_32 rfl rfl ?_
    refine gf_RX7_17 C hX dX7_sharers_33 ?_
    refine v_iconst C (nI 5) dX7_sharers_36 zk_5 ?_
    refine ia_31 C hX dX7_sharers_37 hM (fun hM _ => ?_)
    refine v_icmp_ge C 67 dX7_sharers_38 rfl hM (fun hM => ?_) (fun hM => ?_)
    · refine v_iload_n C 2 dX7_sharers_67 rfl rfl ?_
      exact v_iret2 C hr dX7_sharers_68 hM
    · refine v_iload_n C 2 dX7_sharers_41 rfl rfl ?_
      refine v_aload_n C 0 dX7_sharers_42 rfl rfl ?_
      refine v_iload_n C 3 dX7_sharers_43 rfl rfl ?_
      refine v_iload_n C 1 dX7_sharers_44 rfl rfl ?_
      obtain ⟨x1, g2, e3, hM⟩ := zc_elim hM
      refine v_callVi (ci := 7) (rest := [(.inl v2)]) C (c_X7_find hX  e3) mw_X7_find mi_X7_find ml_RX7_257 hX.symm zm7 rfl rfl ⟨by decide, Nat.le_of_ble_eq_true rfl⟩ rfl (Nat.le_of_ble_eq_true rfl) dX7_sharers_45 rfl ?_
      refine v_iconst C (-1) dX7_sharers_48 zk_m1 ?_
      refine v_icmp_ne C 56 dX7_sharers_49 rfl hM (fun hM => ?_) (fun hM => ?_)
      · refine v_iconst C (nI 1) dX7_sharers_56 zk_1 ?_
        refine v_iload_n C 3 dX7_sharers_57 rfl rfl ?_
        refine v_ishl C dX7_sharers_58 ?_
        exact v_weak (t_X7_sharers_b59 hX C hr  (fun v1 v2 v3 g  hM => ih g  hM) hM) (show zsub [some (.inr (.inl (7, 0))), some (.inl v1), none, some (.inl v3)] [some (.inr (.inl (7, 0))), some (.inl v1), some (.inl v2), some (.inl v3)] from ⟨rfl, ⟨rfl, ⟨rfl, trivial⟩⟩⟩)
      · refine v_iconst C (nI 0) dX7_sharers_52 zk_0 ?_
        refine v_goto C 59 dX7_sharers_53 rfl ?_
        exact v_weak (t_X7_sharers_b59 hX C hr  (fun v1 v2 v3 g  hM => ih g  hM) hM) (show zsub [some (.inr (.inl (7, 0))), some (.inl v1), none, some (.inl v3)] [some (.inr (.inl (7, 0))), some (.inl v1), some (.inl v2), some (.inl v3)] from ⟨rfl, ⟨rfl, ⟨rfl, trivial⟩⟩⟩)

theorem c_X7_sharers {X : zX} (hX : zfl X = true) {v1 : Int32} {g gr : zG} {rr : Int32}  (hM : X7_sharers v1 g = some (rr, gr)) : MC X yX7_sharers cX7_sharers 4 (some .int) 2 [.inr (.inl (7, 0)), .inl v1] (some (.inl rr)) g gr := by
  refine MC.mk (own := RX7) (L := [some (.inr (.inl (7, 0))), some (.inl v1), none, none]) (by decide) rfl trivial (Nat.le_of_ble_eq_true rfl) rfl ?_
  intro p l e s m args below meth c C hr
  unfold X7_sharers at hM
  refine v_aload_n C 0 dX7_sharers_0 rfl rfl ?_
  obtain ⟨x1, g2, e3, hM⟩ := zc_elim hM
  refine v_callVv (ci := 7) (rest := []) C (c_X7_anew hX  e3) mw_X7_anew mi_X7_anew ml_RX7_211 hX.symm zm7 rfl rfl ⟨by decide, Nat.le_of_ble_eq_true rfl⟩ rfl (Nat.le_of_ble_eq_true rfl) dX7_sharers_1 rfl ?_
  refine v_aload_n C 0 dX7_sharers_4 rfl rfl ?_
  refine gf_RX7_226 C hX dX7_sharers_5 ?_
  refine v_if_eq C 21 dX7_sharers_8 rfl hM (fun hM => ?_) (fun hM => ?_)
  · exact v_weak (t_X7_sharers_b21 hX C hr   hM) (show zsub [some (.inr (.inl (7, 0))), none, none, none] [some (.inr (.inl (7, 0))), some (.inl v1), none, none] from ⟨rfl, trivial⟩)
  · refine v_iload_n C 1 dX7_sharers_11 rfl rfl ?_
    refine v_iconst C (nI 0) dX7_sharers_12 zk_0 ?_
    refine v_bipush C (nI 16) dX7_sharers_13 zkb_16 ?_
    obtain ⟨x4, g5, e6, hM⟩ := zc_elim hM
    refine v_callSi (rest := []) C (c_X7_in hX  e6) mw_X7_in ms_X7_in ml_RX7_94 ⟨by decide, Nat.le_of_ble_eq_true rfl⟩ rfl (Nat.le_of_ble_eq_true rfl) dX7_sharers_15 rfl ?_
    refine v_if_ne C 27 dX7_sharers_18 rfl hM (fun hM => ?_) (fun hM => ?_)
    · refine v_iconst C (nI 0) dX7_sharers_27 zk_0 ?_
      refine v_istore_n (L' := [some (.inr (.inl (7, 0))), some (.inl v1), some (.inl (nI 0)), none]) C 2 dX7_sharers_28 rfl (by decide) rfl ?_
      refine v_iconst C (nI 0) dX7_sharers_29 zk_0 ?_
      refine v_istore_n (L' := [some (.inr (.inl (7, 0))), some (.inl v1), some (.inl (nI 0)), some (.inl (nI 0))]) C 3 dX7_sharers_30 rfl (by decide) rfl ?_
      exact t_X7_sharers_l31 hX C hr  _ g5  hM
    · exact v_weak (t_X7_sharers_b21 hX C hr   hM) (show zsub [some (.inr (.inl (7, 0))), none, none, none] [some (.inr (.inl (7, 0))), some (.inl v1), none, none] from ⟨rfl, trivial⟩)

theorem t_X7_marked_b49 {v1 : Int32} {v2 : Int32} {v4 : Int32} {s0 : Int32} {s1 : Int32} {k5 : Int32 → Int32 → Int32 → Int32 → zG → Option (Int32 × zG)} {g : zG} (hX : zfl X = true) (C : Cx X p (zrm 2) s m args meth c cX7_marked 6 RX7 0 0) (hr : meth.sig.returnType = (some .int))  (hk5 : ∀ (v1 : Int32) (v2 : Int32) (v3 : Int32) (v4 : Int32) (g : zG),  k5 v1 v2 v3 v4 g = some (rr, gr) → V X p l e (zrm 2) s m args below meth c 6 0 0 (MQ below (zQ X (Option.map (zM X) (some (.inl rr))) gr) args s 0 0 (zF X)) g 5 [some (.inr (.inl (7, 0))), some (.inl v1), some (.inl v2), some (.inl v3), some (.inl v4), none] []) (hM : X7_marked_b49 k5 v1 v2 v4 s0 s1 g = some (rr, gr)) : V X p l e (zrm 2) s m args below meth c 6 0 0 (MQ below (zQ X (Option.map (zM X) (some (.inl rr))) gr) args s 0 0 (zF X)) g 49 [some (.inr (.inl (7, 0))), some (.inl v1), some (.inl v2), none, some (.inl v4), none] [(.inl s1), (.inl s0)] := by
  unfold X7_marked_b49 at hM
  refine v_ior C dX7_marked_49 ?_
  refine v_istore_n (L' := [some (.inr (.inl (7, 0))), some (.inl v1), some (.inl v2), some (.inl (s0 ||| s1)), some (.inl v4), none]) C 3 dX7_marked_50 rfl (by decide) rfl ?_
  refine v_iinc (L' := [some (.inr (.inl (7, 0))), some (.inl v1), some (.inl v2), some (.inl (s0 ||| s1)), some (.inl (v4 + (nI 1))), none]) C 4 (nI 1) dX7_marked_51 zk_1 (by decide) rfl rfl ?_
  refine v_goto C 5 dX7_marked_54 rfl ?_
  exact hk5 v1 v2 (s0 ||| s1) (v4 + (nI 1)) g  hM

theorem t_X7_marked_b48 {v1 : Int32} {v2 : Int32} {v4 : Int32} {s0 : Int32} {k5 : Int32 → Int32 → Int32 → Int32 → zG → Option (Int32 × zG)} {g : zG} (hX : zfl X = true) (C : Cx X p (zrm 2) s m args meth c cX7_marked 6 RX7 0 0) (hr : meth.sig.returnType = (some .int))  (hk5 : ∀ (v1 : Int32) (v2 : Int32) (v3 : Int32) (v4 : Int32) (g : zG),  k5 v1 v2 v3 v4 g = some (rr, gr) → V X p l e (zrm 2) s m args below meth c 6 0 0 (MQ below (zQ X (Option.map (zM X) (some (.inl rr))) gr) args s 0 0 (zF X)) g 5 [some (.inr (.inl (7, 0))), some (.inl v1), some (.inl v2), some (.inl v3), some (.inl v4), none] []) (hM : X7_marked_b48 k5 v1 v2 v4 s0 g = some (rr, gr)) : V X p l e (zrm 2) s m args below meth c 6 0 0 (MQ below (zQ X (Option.map (zM X) (some (.inl rr))) gr) args s 0 0 (zF X)) g 48 [some (.inr (.inl (7, 0))), some (.inl v1), some (.inl v2), none, some (.inl v4), none] [(.inl s0)] := by
  unfold X7_marked_b48 at hM
  refine v_iconst C (nI 0) dX7_marked_48 zk_0 ?_
  exact t_X7_marked_b49 hX C hr  hk5 hM

theorem t_X7_marked_l5  (hX : zfl X = true) (C : Cx X p (zrm 2) s m args meth c cX7_marked 6 RX7 0 0) (hr : meth.sig.returnType = (some .int))  : ∀ (n : Nat) {v1 : Int32} {v2 : Int32} {v3 : Int32} {v4 : Int32} (g : zG), X7_marked_l5  n v1 v2 v3 v4 g = some (rr, gr) → V X p l e (zrm 2) s m args below meth c 6 0 0 (MQ below (zQ X (Option.map (zM X) (some (.inl rr))) gr) args s 0 0 (zF X)) g 5 [some (.inr (.inl (7, 0))), some (.inl v1), some (.inl v2), some (.inl v3), some (.inl v4), none] [] := by
  intro n
  induction n with
  | zero =>
    intro v1 v2 v3 v4 g  hM
    exact absurd (show (none : Option (Int32 × zG)) = some (rr, gr) from hM) (by simp)
  | succ n ih =>
    intro v1 v2 v3 v4 g  hM
    rw [X7_marked_l5.eq_2] at hM
    refine v_iload C 4 dX7_marked_5 rfl ?_
    refine v_bipush C (nI 16) dX7_marked_7 zkb_16 ?_
    refine v_icmp_gt C 57 dX7_marked_9 rfl hM (fun hM => ?_) (fun hM => ?_)
    · refine v_iload_n C 3 dX7_marked_57 rfl rfl ?_
      exact v_iret2 C hr dX7_marked_58 hM
    · refine v_aload_n C 0 dX7_marked_12 rfl rfl ?_
      refine v_iload_n C 1 dX7_marked_13 rfl rfl ?_
      refine v_iload C 4 dX7_marked_14 rfl ?_
      obtain ⟨x1, g2, e3, hM⟩ := zc_elim hM
      refine v_callVi (ci := 7) (rest := []) C (c_X7_find hX  e3) mw_X7_find mi_X7_find ml_RX7_257 hX.symm zm7 rfl rfl ⟨by decide, Nat.le_of_ble_eq_true rfl⟩ rfl (Nat.le_of_ble_eq_true rfl) dX7_marked_16 rfl ?_
      refine v_istore (L' := [some (.inr (.inl (7, 0))), some (.inl v1), some (.inl v2), some (.inl v3), some (.inl v4), some (.inl x1)]) C 5 dX7_marked_19 (by decide) rfl ?_
      refine v_iload_n C 3 dX7_marked_21 rfl rfl ?_
      refine v_iload C 5 dX7_marked_22 rfl ?_
      refine v_iconst C (-1) dX7_marked_24 zk_m1 ?_
      refine v_icmp_eq C 48 dX7_marked_25 rfl hM (fun hM => ?_) (fun hM => ?_)
      · exact v_weak (t_X7_marked_b48 hX C hr  (fun v1 v2 v3 v4 g  hM => ih g  hM) hM) (show zsub [some (.inr (.inl (7, 0))), some (.inl v1), some (.inl v2), none, some (.inl v4), none] [some (.inr (.inl (7, 0))), some (.inl v1), some (.inl v2), some (.inl v3), some (.inl v4), some (.inl x1)] from ⟨rfl, ⟨rfl, ⟨rfl, ⟨rfl, trivial⟩⟩⟩⟩)
      · refine v_aload_n C 0 dX7_marked_28 rfl rfl ?_
        refine gf_RX7_53 C hX dX7_marked_29 ?_
        refine v_iload C 5 dX7_marked_32 rfl ?_
        refine v_iload_n C 2 dX7_marked_34 rfl rfl ?_
        refine v_iadd C dX7_marked_35 ?_
        refine ia_43 C hX dX7_marked_36 hM (fun hM _ => ?_)
        refine v_iconst C (nI 1) dX7_marked_37 zk_1 ?_
        refine v_icmp_ne C 48 dX7_marked_38 rfl hM (fun hM => ?_) (fun hM => ?_)
        · exact v_weak (t_X7_marked_b48 hX C hr  (fun v1 v2 v3 v4 g  hM => ih g  hM) hM) (show zsub [some (.inr (.inl (7, 0))), some (.inl v1), some (.inl v2), none, some (.inl v4), none] [some (.inr (.inl (7, 0))), some (.inl v1), some (.inl v2), some (.inl v3), some (.inl v4), some (.inl x1)] from ⟨rfl, ⟨rfl, ⟨rfl, ⟨rfl, trivial⟩⟩⟩⟩)
        · refine v_iconst C (nI 1) dX7_marked_41 zk_1 ?_
          refine v_iload C 4 dX7_marked_42 rfl ?_
          refine v_ishl C dX7_marked_44 ?_
          refine v_goto C 49 dX7_marked_45 rfl ?_
          exact v_weak (t_X7_marked_b49 hX C hr  (fun v1 v2 v3 v4 g  hM => ih g  hM) hM) (show zsub [some (.inr (.inl (7, 0))), some (.inl v1), some (.inl v2), none, some (.inl v4), none] [some (.inr (.inl (7, 0))), some (.inl v1), some (.inl v2), some (.inl v3), some (.inl v4), some (.inl x1)] from ⟨rfl, ⟨rfl, ⟨rfl, ⟨rfl, trivial⟩⟩⟩⟩)

theorem c_X7_marked {X : zX} (hX : zfl X = true) {v1 : Int32} {v2 : Int32} {g gr : zG} {rr : Int32}  (hM : X7_marked v1 v2 g = some (rr, gr)) : MC X yX7_marked cX7_marked 6 (some .int) 2 [.inr (.inl (7, 0)), .inl v1, .inl v2] (some (.inl rr)) g gr := by
  refine MC.mk (own := RX7) (L := [some (.inr (.inl (7, 0))), some (.inl v1), some (.inl v2), none, none, none]) (by decide) rfl trivial (Nat.le_of_ble_eq_true rfl) rfl ?_
  intro p l e s m args below meth c C hr
  unfold X7_marked at hM
  refine v_iconst C (nI 0) dX7_marked_0 zk_0 ?_
  refine v_istore_n (L' := [some (.inr (.inl (7, 0))), some (.inl v1), some (.inl v2), some (.inl (nI 0)), none, none]) C 3 dX7_marked_1 rfl (by decide) rfl ?_
  refine v_iconst C (nI 0) dX7_marked_2 zk_0 ?_
  refine v_istore (L' := [some (.inr (.inl (7, 0))), some (.inl v1), some (.inl v2), some (.inl (nI 0)), some (.inl (nI 0)), none]) C 4 dX7_marked_3 (by decide) rfl ?_
  exact t_X7_marked_l5 hX C hr  _ g  hM

theorem c_X7_reads {X : zX} (hX : zfl X = true) {v1 : Int32} {g gr : zG} {rr : Int32}  (hM : X7_reads v1 g = some (rr, gr)) : MC X yX7_reads cX7_reads 2 (some .int) 3 [.inr (.inl (7, 0)), .inl v1] (some (.inl rr)) g gr := by
  refine MC.mk (own := RX7) (L := [some (.inr (.inl (7, 0))), some (.inl v1)]) (by decide) rfl trivial (Nat.le_of_ble_eq_true rfl) rfl ?_
  intro p l e s m args below meth c C hr
  unfold X7_reads at hM
  refine v_aload_n C 0 dX7_reads_0 rfl rfl ?_
  obtain ⟨x1, g2, e3, hM⟩ := zc_elim hM
  refine v_callVv (ci := 7) (rest := []) C (c_X7_anew hX  e3) mw_X7_anew mi_X7_anew ml_RX7_211 hX.symm zm7 rfl rfl ⟨by decide, Nat.le_of_ble_eq_true rfl⟩ rfl (Nat.le_of_ble_eq_true rfl) dX7_reads_1 rfl ?_
  refine v_aload_n C 0 dX7_reads_4 rfl rfl ?_
  refine v_iload_n C 1 dX7_reads_5 rfl rfl ?_
  obtain ⟨x4, g5, e6, hM⟩ := zc_elim hM
  refine v_callVi (ci := 7) (rest := []) C (c_X7_isCore hX  e6) mw_X7_isCore mi_X7_isCore ml_RX7_308 hX.symm zm7 rfl rfl ⟨by decide, Nat.le_of_ble_eq_true rfl⟩ rfl (Nat.le_of_ble_eq_true rfl) dX7_reads_6 rfl ?_
  refine v_if_eq C 21 dX7_reads_9 rfl hM (fun hM => ?_) (fun hM => ?_)
  · refine v_aload_n C 0 dX7_reads_21 rfl rfl ?_
    refine v_iconst C (nI 1) dX7_reads_22 zk_1 ?_
    obtain ⟨x7, g8, e9, hM⟩ := zc_elim hM
    refine v_callVi (ci := 7) (rest := []) C (c_X7_no hX  e9) mw_X7_no mi_X7_no ml_RX7_214 hX.symm zm7 rfl rfl ⟨by decide, Nat.le_of_ble_eq_true rfl⟩ rfl (Nat.le_of_ble_eq_true rfl) dX7_reads_23 rfl ?_
    exact v_iret2 C hr dX7_reads_26 hM
  · refine v_aload_n C 0 dX7_reads_12 rfl rfl ?_
    refine v_iload_n C 1 dX7_reads_13 rfl rfl ?_
    refine v_iconst C (nI 2) dX7_reads_14 zk_2 ?_
    obtain ⟨x10, g11, e12, hM⟩ := zc_elim hM
    refine v_callVi (ci := 7) (rest := []) C (c_X7_marked hX  e12) mw_X7_marked mi_X7_marked ml_RX7_332 hX.symm zm7 rfl rfl ⟨by decide, Nat.le_of_ble_eq_true rfl⟩ rfl (Nat.le_of_ble_eq_true rfl) dX7_reads_15 rfl ?_
    refine v_goto C 26 dX7_reads_18 rfl ?_
    exact v_iret2 C hr dX7_reads_26 hM

theorem c_X7_writes {X : zX} (hX : zfl X = true) {v1 : Int32} {g gr : zG} {rr : Int32}  (hM : X7_writes v1 g = some (rr, gr)) : MC X yX7_writes cX7_writes 2 (some .int) 3 [.inr (.inl (7, 0)), .inl v1] (some (.inl rr)) g gr := by
  refine MC.mk (own := RX7) (L := [some (.inr (.inl (7, 0))), some (.inl v1)]) (by decide) rfl trivial (Nat.le_of_ble_eq_true rfl) rfl ?_
  intro p l e s m args below meth c C hr
  unfold X7_writes at hM
  refine v_aload_n C 0 dX7_writes_0 rfl rfl ?_
  obtain ⟨x1, g2, e3, hM⟩ := zc_elim hM
  refine v_callVv (ci := 7) (rest := []) C (c_X7_anew hX  e3) mw_X7_anew mi_X7_anew ml_RX7_211 hX.symm zm7 rfl rfl ⟨by decide, Nat.le_of_ble_eq_true rfl⟩ rfl (Nat.le_of_ble_eq_true rfl) dX7_writes_1 rfl ?_
  refine v_aload_n C 0 dX7_writes_4 rfl rfl ?_
  refine v_iload_n C 1 dX7_writes_5 rfl rfl ?_
  obtain ⟨x4, g5, e6, hM⟩ := zc_elim hM
  refine v_callVi (ci := 7) (rest := []) C (c_X7_isCore hX  e6) mw_X7_isCore mi_X7_isCore ml_RX7_308 hX.symm zm7 rfl rfl ⟨by decide, Nat.le_of_ble_eq_true rfl⟩ rfl (Nat.le_of_ble_eq_true rfl) dX7_writes_6 rfl ?_
  refine v_if_eq C 21 dX7_writes_9 rfl hM (fun hM => ?_) (fun hM => ?_)
  · refine v_aload_n C 0 dX7_writes_21 rfl rfl ?_
    refine v_iconst C (nI 1) dX7_writes_22 zk_1 ?_
    obtain ⟨x7, g8, e9, hM⟩ := zc_elim hM
    refine v_callVi (ci := 7) (rest := []) C (c_X7_no hX  e9) mw_X7_no mi_X7_no ml_RX7_214 hX.symm zm7 rfl rfl ⟨by decide, Nat.le_of_ble_eq_true rfl⟩ rfl (Nat.le_of_ble_eq_true rfl) dX7_writes_23 rfl ?_
    exact v_iret2 C hr dX7_writes_26 hM
  · refine v_aload_n C 0 dX7_writes_12 rfl rfl ?_
    refine v_iload_n C 1 dX7_writes_13 rfl rfl ?_
    refine v_iconst C (nI 3) dX7_writes_14 zk_3 ?_
    obtain ⟨x10, g11, e12, hM⟩ := zc_elim hM
    refine v_callVi (ci := 7) (rest := []) C (c_X7_marked hX  e12) mw_X7_marked mi_X7_marked ml_RX7_332 hX.symm zm7 rfl rfl ⟨by decide, Nat.le_of_ble_eq_true rfl⟩ rfl (Nat.le_of_ble_eq_true rfl) dX7_writes_15 rfl ?_
    refine v_goto C 26 dX7_writes_18 rfl ?_
    exact v_iret2 C hr dX7_writes_26 hM

theorem t_X7_traffic_b31   {g : zG} (hX : zfl X = true) (C : Cx X p (zrm 1) s m args meth c cX7_traffic 2 RX7 0 0) (hr : meth.sig.returnType = (some .int))   (hM : X7_traffic_b31   g = some (rr, gr)) : V X p l e (zrm 1) s m args below meth c 2 0 0 (MQ below (zQ X (Option.map (zM X) (some (.inl rr))) gr) args s 0 0 (zF X)) g 31 [some (.inr (.inl (7, 0))), none] [] := by
  unfold X7_traffic_b31 at hM
  refine v_aload_n C 0 dX7_traffic_31 rfl rfl ?_
  refine v_iconst C (nI 1) dX7_traffic_32 zk_1 ?_
  obtain ⟨x1, g2, e3, hM⟩ := zc_elim hM
  refine v_callVi (ci := 7) (rest := []) C (c_X7_no hX  e3) mw_X7_no mi_X7_no ml_RX7_214 hX.symm zm7 rfl rfl ⟨by decide, Nat.le_of_ble_eq_true rfl⟩ rfl (Nat.le_of_ble_eq_true rfl) dX7_traffic_33 rfl ?_
  exact v_iret2 C hr dX7_traffic_36 hM

theorem c_X7_traffic {X : zX} (hX : zfl X = true) {v1 : Int32} {g gr : zG} {rr : Int32}  (hM : X7_traffic v1 g = some (rr, gr)) : MC X yX7_traffic cX7_traffic 2 (some .int) 1 [.inr (.inl (7, 0)), .inl v1] (some (.inl rr)) g gr := by
  refine MC.mk (own := RX7) (L := [some (.inr (.inl (7, 0))), some (.inl v1)]) (by decide) rfl trivial (Nat.le_of_ble_eq_true rfl) rfl ?_
  intro p l e s m args below meth c C hr
  unfold X7_traffic at hM
  refine v_aload_n C 0 dX7_traffic_0 rfl rfl ?_
  obtain ⟨x1, g2, e3, hM⟩ := zc_elim hM
  refine v_callVv (ci := 7) (rest := []) C (c_X7_anew hX  e3) mw_X7_anew mi_X7_anew ml_RX7_211 hX.symm zm7 rfl rfl ⟨by decide, Nat.le_of_ble_eq_true rfl⟩ rfl (Nat.le_of_ble_eq_true rfl) dX7_traffic_1 rfl ?_
  refine v_aload_n C 0 dX7_traffic_4 rfl rfl ?_
  refine gf_RX7_226 C hX dX7_traffic_5 ?_
  refine v_if_eq C 31 dX7_traffic_8 rfl hM (fun hM => ?_) (fun hM => ?_)
  · exact v_weak (t_X7_traffic_b31 hX C hr   hM) (show zsub [some (.inr (.inl (7, 0))), none] [some (.inr (.inl (7, 0))), some (.inl v1)] from ⟨rfl, trivial⟩)
  · refine v_iload_n C 1 dX7_traffic_11 rfl rfl ?_
    refine v_iconst C (nI 0) dX7_traffic_12 zk_0 ?_
    refine v_iconst C (nI 2) dX7_traffic_13 zk_2 ?_
    obtain ⟨x4, g5, e6, hM⟩ := zc_elim hM
    refine v_callSi (rest := []) C (c_X7_in hX  e6) mw_X7_in ms_X7_in ml_RX7_94 ⟨by decide, Nat.le_of_ble_eq_true rfl⟩ rfl (Nat.le_of_ble_eq_true rfl) dX7_traffic_14 rfl ?_
    refine v_if_eq C 31 dX7_traffic_17 rfl hM (fun hM => ?_) (fun hM => ?_)
    · exact v_weak (t_X7_traffic_b31 hX C hr   hM) (show zsub [some (.inr (.inl (7, 0))), none] [some (.inr (.inl (7, 0))), some (.inl v1)] from ⟨rfl, trivial⟩)
    · refine v_aload_n C 0 dX7_traffic_20 rfl rfl ?_
      refine gf_RX7_53 C hX dX7_traffic_21 ?_
      refine v_iconst C (nI 1) dX7_traffic_24 zk_1 ?_
      refine v_iload_n C 1 dX7_traffic_25 rfl rfl ?_
      refine v_iadd C dX7_traffic_26 ?_
      refine ia_43 C hX dX7_traffic_27 hM (fun hM _ => ?_)
      refine v_goto C 36 dX7_traffic_28 rfl ?_
      exact v_iret2 C hr dX7_traffic_36 hM

theorem c_X7_core {X : zX} (hX : zfl X = true) {v1 : Int32} {v2 : Int32} {g gr : zG} {rr : Int32}  (hM : X7_core v1 v2 g = some (rr, gr)) : MC X yX7_core cX7_core 3 (some .int) 2 [.inr (.inl (7, 0)), .inl v1, .inl v2] (some (.inl rr)) g gr := by
  refine MC.mk (own := RX7) (L := [some (.inr (.inl (7, 0))), some (.inl v1), some (.inl v2)]) (by decide) rfl trivial (Nat.le_of_ble_eq_true rfl) rfl ?_
  intro p l e s m args below meth c C hr
  unfold X7_core at hM
  refine v_aload_n C 0 dX7_core_0 rfl rfl ?_
  obtain ⟨x1, g2, e3, hM⟩ := zc_elim hM
  refine v_callVv (ci := 7) (rest := []) C (c_X7_anew hX  e3) mw_X7_anew mi_X7_anew ml_RX7_211 hX.symm zm7 rfl rfl ⟨by decide, Nat.le_of_ble_eq_true rfl⟩ rfl (Nat.le_of_ble_eq_true rfl) dX7_core_1 rfl ?_
  refine v_aload_n C 0 dX7_core_4 rfl rfl ?_
  refine v_iload_n C 1 dX7_core_5 rfl rfl ?_
  obtain ⟨x4, g5, e6, hM⟩ := zc_elim hM
  refine v_callVi (ci := 7) (rest := []) C (c_X7_isCore hX  e6) mw_X7_isCore mi_X7_isCore ml_RX7_308 hX.symm zm7 rfl rfl ⟨by decide, Nat.le_of_ble_eq_true rfl⟩ rfl (Nat.le_of_ble_eq_true rfl) dX7_core_6 rfl ?_
  refine v_if_ne C 18 dX7_core_9 rfl hM (fun hM => ?_) (fun hM => ?_)
  · refine v_iload_n C 2 dX7_core_18 rfl rfl ?_
    by_cases hx0 : v2 = (nI 0)
    · rw [if_pos hx0] at hM
      refine v_tblIn C 60 0 dX7_core_19 (by rw [hx0]; rfl) (by decide) (by decide) rfl rfl ?_
      refine v_aload_n C 0 dX7_core_60 rfl rfl ?_
      refine v_iload_n C 1 dX7_core_61 rfl rfl ?_
      obtain ⟨x7, g8, e9, hM⟩ := zc_elim hM
      refine v_callVi (ci := 7) (rest := []) C (c_X7_hasLeft hX  e9) mw_X7_hasLeft mi_X7_hasLeft ml_RX7_301 hX.symm zm7 rfl rfl ⟨by decide, Nat.le_of_ble_eq_true rfl⟩ rfl (Nat.le_of_ble_eq_true rfl) dX7_core_62 rfl ?_
      refine v_if_eq C 81 dX7_core_65 rfl hM (fun hM => ?_) (fun hM => ?_)
      · refine v_bipush C (-2) dX7_core_81 zkb_m2 ?_
        exact v_iret2 C hr dX7_core_83 hM
      · refine v_aload_n C 0 dX7_core_68 rfl rfl ?_
        refine gf_RX7_53 C hX dX7_core_69 ?_
        refine v_iload_n C 1 dX7_core_72 rfl rfl ?_
        refine v_iconst C (nI 0) dX7_core_73 zk_0 ?_
        obtain ⟨x10, g11, e12, hM⟩ := zc_elim hM
        refine v_callSi (rest := [(.inr (.inl (43, 0)))]) C (c_X7_coreAt hX  e12) mw_X7_coreAt ms_X7_coreAt ml_RX7_244 ⟨by decide, Nat.le_of_ble_eq_true rfl⟩ rfl (Nat.le_of_ble_eq_true rfl) dX7_core_74 rfl ?_
        refine ia_43 C hX dX7_core_77 hM (fun hM _ => ?_)
        refine v_goto C 83 dX7_core_78 rfl ?_
        exact v_iret2 C hr dX7_core_83 hM
    rw [if_neg hx0] at hM
    by_cases hx1 : v2 = (nI 1)
    · rw [if_pos hx1] at hM
      refine v_tblIn C 84 1 dX7_core_19 (by rw [hx1]; rfl) (by decide) (by decide) rfl rfl ?_
      refine v_aload_n C 0 dX7_core_84 rfl rfl ?_
      refine gf_RX7_53 C hX dX7_core_85 ?_
      refine v_iload_n C 1 dX7_core_88 rfl rfl ?_
      refine v_iconst C (nI 1) dX7_core_89 zk_1 ?_
      obtain ⟨x13, g14, e15, hM⟩ := zc_elim hM
      refine v_callSi (rest := [(.inr (.inl (43, 0)))]) C (c_X7_coreAt hX  e15) mw_X7_coreAt ms_X7_coreAt ml_RX7_244 ⟨by decide, Nat.le_of_ble_eq_true rfl⟩ rfl (Nat.le_of_ble_eq_true rfl) dX7_core_90 rfl ?_
      refine ia_43 C hX dX7_core_93 hM (fun hM _ => ?_)
      exact v_iret2 C hr dX7_core_94 hM
    rw [if_neg hx1] at hM
    by_cases hx2 : v2 = (nI 2)
    · rw [if_pos hx2] at hM
      refine v_tblIn C 95 2 dX7_core_19 (by rw [hx2]; rfl) (by decide) (by decide) rfl rfl ?_
      refine v_aload_n C 0 dX7_core_95 rfl rfl ?_
      refine gf_RX7_53 C hX dX7_core_96 ?_
      refine v_iload_n C 1 dX7_core_99 rfl rfl ?_
      refine v_iconst C (nI 2) dX7_core_100 zk_2 ?_
      obtain ⟨x16, g17, e18, hM⟩ := zc_elim hM
      refine v_callSi (rest := [(.inr (.inl (43, 0)))]) C (c_X7_coreAt hX  e18) mw_X7_coreAt ms_X7_coreAt ml_RX7_244 ⟨by decide, Nat.le_of_ble_eq_true rfl⟩ rfl (Nat.le_of_ble_eq_true rfl) dX7_core_101 rfl ?_
      refine ia_43 C hX dX7_core_104 hM (fun hM _ => ?_)
      exact v_iret2 C hr dX7_core_105 hM
    rw [if_neg hx2] at hM
    by_cases hx3 : v2 = (nI 3)
    · rw [if_pos hx3] at hM
      refine v_tblIn C 106 3 dX7_core_19 (by rw [hx3]; rfl) (by decide) (by decide) rfl rfl ?_
      refine v_aload_n C 0 dX7_core_106 rfl rfl ?_
      refine gf_RX7_53 C hX dX7_core_107 ?_
      refine v_iload_n C 1 dX7_core_110 rfl rfl ?_
      refine v_iconst C (nI 3) dX7_core_111 zk_3 ?_
      obtain ⟨x19, g20, e21, hM⟩ := zc_elim hM
      refine v_callSi (rest := [(.inr (.inl (43, 0)))]) C (c_X7_coreAt hX  e21) mw_X7_coreAt ms_X7_coreAt ml_RX7_244 ⟨by decide, Nat.le_of_ble_eq_true rfl⟩ rfl (Nat.le_of_ble_eq_true rfl) dX7_core_112 rfl ?_
      refine ia_43 C hX dX7_core_115 hM (fun hM _ => ?_)
      exact v_iret2 C hr dX7_core_116 hM
    rw [if_neg hx3] at hM
    by_cases hx4 : v2 = (nI 4)
    · rw [if_pos hx4] at hM
      refine v_tblIn C 117 4 dX7_core_19 (by rw [hx4]; rfl) (by decide) (by decide) rfl rfl ?_
      refine v_aload_n C 0 dX7_core_117 rfl rfl ?_
      refine gf_RX7_53 C hX dX7_core_118 ?_
      refine v_iload_n C 1 dX7_core_121 rfl rfl ?_
      refine v_iconst C (nI 4) dX7_core_122 zk_4 ?_
      obtain ⟨x22, g23, e24, hM⟩ := zc_elim hM
      refine v_callSi (rest := [(.inr (.inl (43, 0)))]) C (c_X7_coreAt hX  e24) mw_X7_coreAt ms_X7_coreAt ml_RX7_244 ⟨by decide, Nat.le_of_ble_eq_true rfl⟩ rfl (Nat.le_of_ble_eq_true rfl) dX7_core_123 rfl ?_
      refine ia_43 C hX dX7_core_126 hM (fun hM _ => ?_)
      exact v_iret2 C hr dX7_core_127 hM
    rw [if_neg hx4] at hM
    by_cases hx5 : v2 = (nI 5)
    · rw [if_pos hx5] at hM
      refine v_tblIn C 128 5 dX7_core_19 (by rw [hx5]; rfl) (by decide) (by decide) rfl rfl ?_
      refine v_aload_n C 0 dX7_core_128 rfl rfl ?_
      refine gf_RX7_53 C hX dX7_core_129 ?_
      refine v_iload_n C 1 dX7_core_132 rfl rfl ?_
      refine v_iconst C (nI 5) dX7_core_133 zk_5 ?_
      obtain ⟨x25, g26, e27, hM⟩ := zc_elim hM
      refine v_callSi (rest := [(.inr (.inl (43, 0)))]) C (c_X7_coreAt hX  e27) mw_X7_coreAt ms_X7_coreAt ml_RX7_244 ⟨by decide, Nat.le_of_ble_eq_true rfl⟩ rfl (Nat.le_of_ble_eq_true rfl) dX7_core_134 rfl ?_
      refine ia_43 C hX dX7_core_137 hM (fun hM _ => ?_)
      exact v_iret2 C hr dX7_core_138 hM
    rw [if_neg hx5] at hM
    by_cases hx6 : v2 = (nI 6)
    · rw [if_pos hx6] at hM
      refine v_tblIn C 139 6 dX7_core_19 (by rw [hx6]; rfl) (by decide) (by decide) rfl rfl ?_
      refine v_aload_n C 0 dX7_core_139 rfl rfl ?_
      refine gf_RX7_29 C hX dX7_core_140 ?_
      refine v_iload_n C 1 dX7_core_143 rfl rfl ?_
      refine ia_35 C hX dX7_core_144 hM (fun hM _ => ?_)
      exact v_iret2 C hr dX7_core_145 hM
    rw [if_neg hx6] at hM
    refine v_tblOut C 146 dX7_core_19 (ztbl 7 rfl (by intro k hk; match k, hk with | 0, _ => exact hx0 | 1, _ => exact hx1 | 2, _ => exact hx2 | 3, _ => exact hx3 | 4, _ => exact hx4 | 5, _ => exact hx5 | 6, _ => exact hx6 | k + 7, hk => omega)) rfl ?_
    refine v_aload_n C 0 dX7_core_146 rfl rfl ?_
    refine v_iconst C (nI 1) dX7_core_147 zk_1 ?_
    obtain ⟨x28, g29, e30, hM⟩ := zc_elim hM
    refine v_callVi (ci := 7) (rest := []) C (c_X7_no hX  e30) mw_X7_no mi_X7_no ml_RX7_214 hX.symm zm7 rfl rfl ⟨by decide, Nat.le_of_ble_eq_true rfl⟩ rfl (Nat.le_of_ble_eq_true rfl) dX7_core_148 rfl ?_
    exact v_iret2 C hr dX7_core_151 hM
  · refine v_aload_n C 0 dX7_core_12 rfl rfl ?_
    refine v_iconst C (nI 1) dX7_core_13 zk_1 ?_
    obtain ⟨x31, g32, e33, hM⟩ := zc_elim hM
    refine v_callVi (ci := 7) (rest := []) C (c_X7_no hX  e33) mw_X7_no mi_X7_no ml_RX7_214 hX.symm zm7 rfl rfl ⟨by decide, Nat.le_of_ble_eq_true rfl⟩ rfl (Nat.le_of_ble_eq_true rfl) dX7_core_14 rfl ?_
    exact v_iret2 C hr dX7_core_17 hM

theorem t_X7_count_b38   {g : zG} (hX : zfl X = true) (C : Cx X p (zrm 2) s m args meth c cX7_count 3 RX7 0 0) (hr : meth.sig.returnType = (some .int))   (hM : X7_count_b38   g = some (rr, gr)) : V X p l e (zrm 2) s m args below meth c 3 0 0 (MQ below (zQ X (Option.map (zM X) (some (.inl rr))) gr) args s 0 0 (zF X)) g 38 [some (.inr (.inl (7, 0))), none, none] [] := by
  unfold X7_count_b38 at hM
  refine v_aload_n C 0 dX7_count_38 rfl rfl ?_
  refine v_iconst C (nI 1) dX7_count_39 zk_1 ?_
  obtain ⟨x1, g2, e3, hM⟩ := zc_elim hM
  refine v_callVi (ci := 7) (rest := []) C (c_X7_no hX  e3) mw_X7_no mi_X7_no ml_RX7_214 hX.symm zm7 rfl rfl ⟨by decide, Nat.le_of_ble_eq_true rfl⟩ rfl (Nat.le_of_ble_eq_true rfl) dX7_count_40 rfl ?_
  exact v_iret2 C hr dX7_count_43 hM

theorem c_X7_count {X : zX} (hX : zfl X = true) {v1 : Int32} {v2 : Int32} {g gr : zG} {rr : Int32}  (hM : X7_count v1 v2 g = some (rr, gr)) : MC X yX7_count cX7_count 3 (some .int) 2 [.inr (.inl (7, 0)), .inl v1, .inl v2] (some (.inl rr)) g gr := by
  refine MC.mk (own := RX7) (L := [some (.inr (.inl (7, 0))), some (.inl v1), some (.inl v2)]) (by decide) rfl trivial (Nat.le_of_ble_eq_true rfl) rfl ?_
  intro p l e s m args below meth c C hr
  unfold X7_count at hM
  refine v_aload_n C 0 dX7_count_0 rfl rfl ?_
  obtain ⟨x1, g2, e3, hM⟩ := zc_elim hM
  refine v_callVv (ci := 7) (rest := []) C (c_X7_anew hX  e3) mw_X7_anew mi_X7_anew ml_RX7_211 hX.symm zm7 rfl rfl ⟨by decide, Nat.le_of_ble_eq_true rfl⟩ rfl (Nat.le_of_ble_eq_true rfl) dX7_count_1 rfl ?_
  refine v_aload_n C 0 dX7_count_4 rfl rfl ?_
  refine v_iload_n C 1 dX7_count_5 rfl rfl ?_
  obtain ⟨x4, g5, e6, hM⟩ := zc_elim hM
  refine v_callVi (ci := 7) (rest := []) C (c_X7_isCore hX  e6) mw_X7_isCore mi_X7_isCore ml_RX7_308 hX.symm zm7 rfl rfl ⟨by decide, Nat.le_of_ble_eq_true rfl⟩ rfl (Nat.le_of_ble_eq_true rfl) dX7_count_6 rfl ?_
  refine v_if_eq C 38 dX7_count_9 rfl hM (fun hM => ?_) (fun hM => ?_)
  · exact v_weak (t_X7_count_b38 hX C hr   hM) (show zsub [some (.inr (.inl (7, 0))), none, none] [some (.inr (.inl (7, 0))), some (.inl v1), some (.inl v2)] from ⟨rfl, trivial⟩)
  · refine v_iload_n C 2 dX7_count_12 rfl rfl ?_
    refine v_iconst C (nI 0) dX7_count_13 zk_0 ?_
    refine v_bipush C (nI 6) dX7_count_14 zkb_6 ?_
    obtain ⟨x7, g8, e9, hM⟩ := zc_elim hM
    refine v_callSi (rest := []) C (c_X7_in hX  e9) mw_X7_in ms_X7_in ml_RX7_94 ⟨by decide, Nat.le_of_ble_eq_true rfl⟩ rfl (Nat.le_of_ble_eq_true rfl) dX7_count_16 rfl ?_
    refine v_if_eq C 38 dX7_count_19 rfl hM (fun hM => ?_) (fun hM => ?_)
    · exact v_weak (t_X7_count_b38 hX C hr   hM) (show zsub [some (.inr (.inl (7, 0))), none, none] [some (.inr (.inl (7, 0))), some (.inl v1), some (.inl v2)] from ⟨rfl, trivial⟩)
    · refine v_aload_n C 0 dX7_count_22 rfl rfl ?_
      refine gf_RX7_53 C hX dX7_count_23 ?_
      refine v_iload_n C 1 dX7_count_26 rfl rfl ?_
      refine v_bipush C (nI 7) dX7_count_27 zkb_7 ?_
      refine v_iload_n C 2 dX7_count_29 rfl rfl ?_
      refine v_iadd C dX7_count_30 ?_
      obtain ⟨x10, g11, e12, hM⟩ := zc_elim hM
      refine v_callSi (rest := [(.inr (.inl (43, 0)))]) C (c_X7_coreAt hX  e12) mw_X7_coreAt ms_X7_coreAt ml_RX7_244 ⟨by decide, Nat.le_of_ble_eq_true rfl⟩ rfl (Nat.le_of_ble_eq_true rfl) dX7_count_31 rfl ?_
      refine ia_43 C hX dX7_count_34 hM (fun hM _ => ?_)
      refine v_goto C 43 dX7_count_35 rfl ?_
      exact v_iret2 C hr dX7_count_43 hM

theorem t_X7_advice_b87   {g : zG} (hX : zfl X = true) (C : Cx X p (zrm 2) s m args meth c cX7_advice 4 RX7 0 0) (hr : meth.sig.returnType = (some .int))   (hM : X7_advice_b87   g = some (rr, gr)) : V X p l e (zrm 2) s m args below meth c 4 0 0 (MQ below (zQ X (Option.map (zM X) (some (.inl rr))) gr) args s 0 0 (zF X)) g 87 [none, none, none, none] [] := by
  unfold X7_advice_b87 at hM
  refine v_iconst C (nI 1) dX7_advice_87 zk_1 ?_
  refine v_goto C 92 dX7_advice_88 rfl ?_
  exact v_iret2 C hr dX7_advice_92 hM

theorem t_X7_advice_b72 {v2 : Int32} {s0 : Int32} {s1 : Int32}  {g : zG} (hX : zfl X = true) (C : Cx X p (zrm 2) s m args meth c cX7_advice 4 RX7 0 0) (hr : meth.sig.returnType = (some .int))   (hM : X7_advice_b72  v2 s0 s1 g = some (rr, gr)) : V X p l e (zrm 2) s m args below meth c 4 0 0 (MQ below (zQ X (Option.map (zM X) (some (.inl rr))) gr) args s 0 0 (zF X)) g 72 [some (.inr (.inl (7, 0))), none, some (.inl v2), none] [(.inl s1), (.inl s0)] := by
  unfold X7_advice_b72 at hM
  refine v_iadd C dX7_advice_72 ?_
  refine v_istore_n (L' := [some (.inr (.inl (7, 0))), none, some (.inl v2), some (.inl (s0 + s1))]) C 3 dX7_advice_73 rfl (by decide) rfl ?_
  refine v_iload_n C 2 dX7_advice_74 rfl rfl ?_
  refine v_iconst C (nI 1) dX7_advice_75 zk_1 ?_
  refine v_icmp_eq C 87 dX7_advice_76 rfl hM (fun hM => ?_) (fun hM => ?_)
  · exact v_weak (t_X7_advice_b87 hX C hr   hM) (show zsub [none, none, none, none] [some (.inr (.inl (7, 0))), none, some (.inl v2), some (.inl (s0 + s1))] from trivial)
  · refine v_iload_n C 3 dX7_advice_79 rfl rfl ?_
    refine v_aload_n C 0 dX7_advice_80 rfl rfl ?_
    refine gf_RX7_240 C hX dX7_advice_81 ?_
    refine v_icmp_lt C 91 dX7_advice_84 rfl hM (fun hM => ?_) (fun hM => ?_)
    · refine v_iconst C (nI 0) dX7_advice_91 zk_0 ?_
      exact v_iret2 C hr dX7_advice_92 hM
    · exact v_weak (t_X7_advice_b87 hX C hr   hM) (show zsub [none, none, none, none] [some (.inr (.inl (7, 0))), none, some (.inl v2), some (.inl (s0 + s1))] from trivial)

theorem c_X7_advice {X : zX} (hX : zfl X = true) {v1 : Int32} {v2 : Int32} {g gr : zG} {rr : Int32}  (hM : X7_advice v1 v2 g = some (rr, gr)) : MC X yX7_advice cX7_advice 4 (some .int) 2 [.inr (.inl (7, 0)), .inl v1, .inl v2] (some (.inl rr)) g gr := by
  refine MC.mk (own := RX7) (L := [some (.inr (.inl (7, 0))), some (.inl v1), some (.inl v2), none]) (by decide) rfl trivial (Nat.le_of_ble_eq_true rfl) rfl ?_
  intro p l e s m args below meth c C hr
  unfold X7_advice at hM
  refine v_aload_n C 0 dX7_advice_0 rfl rfl ?_
  obtain ⟨x1, g2, e3, hM⟩ := zc_elim hM
  refine v_callVv (ci := 7) (rest := []) C (c_X7_anew hX  e3) mw_X7_anew mi_X7_anew ml_RX7_211 hX.symm zm7 rfl rfl ⟨by decide, Nat.le_of_ble_eq_true rfl⟩ rfl (Nat.le_of_ble_eq_true rfl) dX7_advice_1 rfl ?_
  refine v_aload_n C 0 dX7_advice_4 rfl rfl ?_
  refine v_iload_n C 1 dX7_advice_5 rfl rfl ?_
  obtain ⟨x4, g5, e6, hM⟩ := zc_elim hM
  refine v_callVi (ci := 7) (rest := []) C (c_X7_isCore hX  e6) mw_X7_isCore mi_X7_isCore ml_RX7_308 hX.symm zm7 rfl rfl ⟨by decide, Nat.le_of_ble_eq_true rfl⟩ rfl (Nat.le_of_ble_eq_true rfl) dX7_advice_6 rfl ?_
  refine v_if_ne C 18 dX7_advice_9 rfl hM (fun hM => ?_) (fun hM => ?_)
  · refine v_iload_n C 2 dX7_advice_18 rfl rfl ?_
    refine v_iconst C (nI 0) dX7_advice_19 zk_0 ?_
    refine v_iconst C (nI 3) dX7_advice_20 zk_3 ?_
    obtain ⟨x7, g8, e9, hM⟩ := zc_elim hM
    refine v_callSi (rest := []) C (c_X7_in hX  e9) mw_X7_in ms_X7_in ml_RX7_94 ⟨by decide, Nat.le_of_ble_eq_true rfl⟩ rfl (Nat.le_of_ble_eq_true rfl) dX7_advice_21 rfl ?_
    refine v_if_ne C 33 dX7_advice_24 rfl hM (fun hM => ?_) (fun hM => ?_)
    · refine v_aload_n C 0 dX7_advice_33 rfl rfl ?_
      refine gf_RX7_53 C hX dX7_advice_34 ?_
      refine v_iload_n C 1 dX7_advice_37 rfl rfl ?_
      refine v_iconst C (nI 3) dX7_advice_38 zk_3 ?_
      obtain ⟨x10, g11, e12, hM⟩ := zc_elim hM
      refine v_callSi (rest := [(.inr (.inl (43, 0)))]) C (c_X7_coreAt hX  e12) mw_X7_coreAt ms_X7_coreAt ml_RX7_244 ⟨by decide, Nat.le_of_ble_eq_true rfl⟩ rfl (Nat.le_of_ble_eq_true rfl) dX7_advice_39 rfl ?_
      refine ia_43 C hX dX7_advice_42 hM (fun hM _ => ?_)
      refine v_iconst C (nI 1) dX7_advice_43 zk_1 ?_
      refine v_icmp_eq C 53 dX7_advice_44 rfl hM (fun hM => ?_) (fun hM => ?_)
      · refine v_aload_n C 0 dX7_advice_53 rfl rfl ?_
        refine gf_RX7_53 C hX dX7_advice_54 ?_
        refine v_iload_n C 1 dX7_advice_57 rfl rfl ?_
        refine v_iconst C (nI 4) dX7_advice_58 zk_4 ?_
        obtain ⟨x13, g14, e15, hM⟩ := zc_elim hM
        refine v_callSi (rest := [(.inr (.inl (43, 0)))]) C (c_X7_coreAt hX  e15) mw_X7_coreAt ms_X7_coreAt ml_RX7_244 ⟨by decide, Nat.le_of_ble_eq_true rfl⟩ rfl (Nat.le_of_ble_eq_true rfl) dX7_advice_59 rfl ?_
        refine ia_43 C hX dX7_advice_62 hM (fun hM _ => ?_)
        refine v_iload_n C 2 dX7_advice_63 rfl rfl ?_
        refine v_if_ne C 71 dX7_advice_64 rfl hM (fun hM => ?_) (fun hM => ?_)
        · refine v_iconst C (nI 0) dX7_advice_71 zk_0 ?_
          exact v_weak (t_X7_advice_b72 hX C hr   hM) (show zsub [some (.inr (.inl (7, 0))), none, some (.inl v2), none] [some (.inr (.inl (7, 0))), some (.inl v1), some (.inl v2), none] from ⟨rfl, ⟨rfl, trivial⟩⟩)
        · refine v_iconst C (nI 1) dX7_advice_67 zk_1 ?_
          refine v_goto C 72 dX7_advice_68 rfl ?_
          exact v_weak (t_X7_advice_b72 hX C hr   hM) (show zsub [some (.inr (.inl (7, 0))), none, some (.inl v2), none] [some (.inr (.inl (7, 0))), some (.inl v1), some (.inl v2), none] from ⟨rfl, ⟨rfl, trivial⟩⟩)
      · refine v_aload_n C 0 dX7_advice_47 rfl rfl ?_
        refine v_iconst C (nI 5) dX7_advice_48 zk_5 ?_
        obtain ⟨x16, g17, e18, hM⟩ := zc_elim hM
        refine v_callVi (ci := 7) (rest := []) C (c_X7_no hX  e18) mw_X7_no mi_X7_no ml_RX7_214 hX.symm zm7 rfl rfl ⟨by decide, Nat.le_of_ble_eq_true rfl⟩ rfl (Nat.le_of_ble_eq_true rfl) dX7_advice_49 rfl ?_
        exact v_iret2 C hr dX7_advice_52 hM
    · refine v_aload_n C 0 dX7_advice_27 rfl rfl ?_
      refine v_iconst C (nI 2) dX7_advice_28 zk_2 ?_
      obtain ⟨x19, g20, e21, hM⟩ := zc_elim hM
      refine v_callVi (ci := 7) (rest := []) C (c_X7_no hX  e21) mw_X7_no mi_X7_no ml_RX7_214 hX.symm zm7 rfl rfl ⟨by decide, Nat.le_of_ble_eq_true rfl⟩ rfl (Nat.le_of_ble_eq_true rfl) dX7_advice_29 rfl ?_
      exact v_iret2 C hr dX7_advice_32 hM
  · refine v_aload_n C 0 dX7_advice_12 rfl rfl ?_
    refine v_iconst C (nI 1) dX7_advice_13 zk_1 ?_
    obtain ⟨x22, g23, e24, hM⟩ := zc_elim hM
    refine v_callVi (ci := 7) (rest := []) C (c_X7_no hX  e24) mw_X7_no mi_X7_no ml_RX7_214 hX.symm zm7 rfl rfl ⟨by decide, Nat.le_of_ble_eq_true rfl⟩ rfl (Nat.le_of_ble_eq_true rfl) dX7_advice_14 rfl ?_
    exact v_iret2 C hr dX7_advice_17 hM

theorem t_X7_commit_b52   {g : zG} (hX : zfl X = true) (C : Cx X p (zrm 1) s m args meth c cX7_commit 3 RX7 0 0) (hr : meth.sig.returnType = (some .int))   (hM : X7_commit_b52   g = some (rr, gr)) : V X p l e (zrm 1) s m args below meth c 3 0 0 (MQ below (zQ X (Option.map (zM X) (some (.inl rr))) gr) args s 0 0 (zF X)) g 52 [some (.inr (.inl (7, 0))), none, none] [] := by
  unfold X7_commit_b52 at hM
  refine v_aload_n C 0 dX7_commit_52 rfl rfl ?_
  refine v_iconst C (nI 1) dX7_commit_53 zk_1 ?_
  obtain ⟨x1, g2, e3, hM⟩ := zc_elim hM
  refine v_callVi (ci := 7) (rest := []) C (c_X7_no hX  e3) mw_X7_no mi_X7_no ml_RX7_214 hX.symm zm7 rfl rfl ⟨by decide, Nat.le_of_ble_eq_true rfl⟩ rfl (Nat.le_of_ble_eq_true rfl) dX7_commit_54 rfl ?_
  exact v_iret2 C hr dX7_commit_57 hM

theorem c_X7_commit {X : zX} (hX : zfl X = true) {v1 : Int32} {v2 : Int32} {g gr : zG} {rr : Int32}  (hM : X7_commit v1 v2 g = some (rr, gr)) : MC X yX7_commit cX7_commit 3 (some .int) 1 [.inr (.inl (7, 0)), .inl v1, .inl v2] (some (.inl rr)) g gr := by
  refine MC.mk (own := RX7) (L := [some (.inr (.inl (7, 0))), some (.inl v1), some (.inl v2)]) (by decide) rfl trivial (Nat.le_of_ble_eq_true rfl) rfl ?_
  intro p l e s m args below meth c C hr
  unfold X7_commit at hM
  refine v_aload_n C 0 dX7_commit_0 rfl rfl ?_
  obtain ⟨x1, g2, e3, hM⟩ := zc_elim hM
  refine v_callVv (ci := 7) (rest := []) C (c_X7_anew hX  e3) mw_X7_anew mi_X7_anew ml_RX7_211 hX.symm zm7 rfl rfl ⟨by decide, Nat.le_of_ble_eq_true rfl⟩ rfl (Nat.le_of_ble_eq_true rfl) dX7_commit_1 rfl ?_
  refine v_aload_n C 0 dX7_commit_4 rfl rfl ?_
  refine gf_RX7_226 C hX dX7_commit_5 ?_
  refine v_if_eq C 52 dX7_commit_8 rfl hM (fun hM => ?_) (fun hM => ?_)
  · exact v_weak (t_X7_commit_b52 hX C hr   hM) (show zsub [some (.inr (.inl (7, 0))), none, none] [some (.inr (.inl (7, 0))), some (.inl v1), some (.inl v2)] from ⟨rfl, trivial⟩)
  · refine v_iload_n C 1 dX7_commit_11 rfl rfl ?_
    refine v_iconst C (nI 0) dX7_commit_12 zk_0 ?_
    refine v_aload_n C 0 dX7_commit_13 rfl rfl ?_
    refine gf_RX7_53 C hX dX7_commit_14 ?_
    refine v_iconst C (nI 4) dX7_commit_17 zk_4 ?_
    refine ia_43 C hX dX7_commit_18 hM (fun hM _ => ?_)
    refine v_iconst C (nI 1) dX7_commit_19 zk_1 ?_
    refine v_isub C dX7_commit_20 ?_
    obtain ⟨x4, g5, e6, hM⟩ := zc_elim hM
    refine v_callSi (rest := []) C (c_X7_in hX  e6) mw_X7_in ms_X7_in ml_RX7_94 ⟨by decide, Nat.le_of_ble_eq_true rfl⟩ rfl (Nat.le_of_ble_eq_true rfl) dX7_commit_21 rfl ?_
    refine v_if_eq C 52 dX7_commit_24 rfl hM (fun hM => ?_) (fun hM => ?_)
    · exact v_weak (t_X7_commit_b52 hX C hr   hM) (show zsub [some (.inr (.inl (7, 0))), none, none] [some (.inr (.inl (7, 0))), some (.inl v1), some (.inl v2)] from ⟨rfl, trivial⟩)
    · refine v_iload_n C 2 dX7_commit_27 rfl rfl ?_
      refine v_iconst C (nI 0) dX7_commit_28 zk_0 ?_
      refine v_iconst C (nI 3) dX7_commit_29 zk_3 ?_
      obtain ⟨x7, g8, e9, hM⟩ := zc_elim hM
      refine v_callSi (rest := []) C (c_X7_in hX  e9) mw_X7_in ms_X7_in ml_RX7_94 ⟨by decide, Nat.le_of_ble_eq_true rfl⟩ rfl (Nat.le_of_ble_eq_true rfl) dX7_commit_30 rfl ?_
      refine v_if_eq C 52 dX7_commit_33 rfl hM (fun hM => ?_) (fun hM => ?_)
      · exact v_weak (t_X7_commit_b52 hX C hr   hM) (show zsub [some (.inr (.inl (7, 0))), none, none] [some (.inr (.inl (7, 0))), some (.inl v1), some (.inl v2)] from ⟨rfl, trivial⟩)
      · refine v_aload_n C 0 dX7_commit_36 rfl rfl ?_
        refine gf_RX7_53 C hX dX7_commit_37 ?_
        refine v_bipush C (nI 62) dX7_commit_40 zkb_62 ?_
        refine v_iconst C (nI 4) dX7_commit_42 zk_4 ?_
        refine v_iload_n C 1 dX7_commit_43 rfl rfl ?_
        refine v_imul C dX7_commit_44 ?_
        refine v_iadd C dX7_commit_45 ?_
        refine v_iload_n C 2 dX7_commit_46 rfl rfl ?_
        refine v_iadd C dX7_commit_47 ?_
        refine ia_43 C hX dX7_commit_48 hM (fun hM _ => ?_)
        refine v_goto C 57 dX7_commit_49 rfl ?_
        exact v_iret2 C hr dX7_commit_57 hM

theorem c_X7_would {X : zX} (hX : zfl X = true) {v1 : Int32} {g gr : zG} {rr : Int32}  (hM : X7_would v1 g = some (rr, gr)) : MC X yX7_would cX7_would 3 (some .int) 8 [.inr (.inl (7, 0)), .inl v1] (some (.inl rr)) g gr := by
  refine MC.mk (own := RX7) (L := [some (.inr (.inl (7, 0))), some (.inl v1), none]) (by decide) rfl trivial (Nat.le_of_ble_eq_true rfl) rfl ?_
  intro p l e s m args below meth c C hr
  unfold X7_would at hM
  refine v_aload_n C 0 dX7_would_0 rfl rfl ?_
  obtain ⟨x1, g2, e3, hM⟩ := zc_elim hM
  refine v_callVv (ci := 7) (rest := []) C (c_X7_anew hX  e3) mw_X7_anew mi_X7_anew ml_RX7_211 hX.symm zm7 rfl rfl ⟨by decide, Nat.le_of_ble_eq_true rfl⟩ rfl (Nat.le_of_ble_eq_true rfl) dX7_would_1 rfl ?_
  refine v_aload_n C 0 dX7_would_4 rfl rfl ?_
  refine v_iload_n C 1 dX7_would_5 rfl rfl ?_
  obtain ⟨x4, g5, e6, hM⟩ := zc_elim hM
  refine v_callVi (ci := 7) (rest := []) C (c_X7_isCore hX  e6) mw_X7_isCore mi_X7_isCore ml_RX7_308 hX.symm zm7 rfl rfl ⟨by decide, Nat.le_of_ble_eq_true rfl⟩ rfl (Nat.le_of_ble_eq_true rfl) dX7_would_6 rfl ?_
  refine v_if_ne C 18 dX7_would_9 rfl hM (fun hM => ?_) (fun hM => ?_)
  · refine v_aload_n C 0 dX7_would_18 rfl rfl ?_
    obtain ⟨x7, g8, e9, hM⟩ := zc_elim hM
    refine v_callVv (ci := 7) (rest := []) C (c_X7_laysAside hX  e9) mw_X7_laysAside mi_X7_laysAside ml_RX7_335 hX.symm zm7 rfl rfl ⟨by decide, Nat.le_of_ble_eq_true rfl⟩ rfl (Nat.le_of_ble_eq_true rfl) dX7_would_19 rfl ?_
    refine v_aload_n C 0 dX7_would_22 rfl rfl ?_
    refine v_iload_n C 1 dX7_would_23 rfl rfl ?_
    obtain ⟨x10, g11, e12, hM⟩ := zc_elim hM
    refine v_callVi (ci := 7) (rest := []) C (c_X7_steps hX  e12) mw_X7_steps mi_X7_steps ml_RX7_338 hX.symm zm7 rfl rfl ⟨by decide, Nat.le_of_ble_eq_true rfl⟩ rfl (Nat.le_of_ble_eq_true rfl) dX7_would_24 rfl ?_
    refine v_istore_n (L' := [some (.inr (.inl (7, 0))), some (.inl v1), some (.inl x10)]) C 2 dX7_would_27 rfl (by decide) rfl ?_
    refine v_aload_n C 0 dX7_would_28 rfl rfl ?_
    obtain ⟨x13, g14, e15, hM⟩ := zc_elim hM
    refine v_callVv (ci := 7) (rest := []) C (c_X7_takesBack hX  e15) mw_X7_takesBack mi_X7_takesBack ml_RX7_341 hX.symm zm7 rfl rfl ⟨by decide, Nat.le_of_ble_eq_true rfl⟩ rfl (Nat.le_of_ble_eq_true rfl) dX7_would_29 rfl ?_
    refine v_iload_n C 2 dX7_would_32 rfl rfl ?_
    exact v_iret2 C hr dX7_would_33 hM
  · refine v_aload_n C 0 dX7_would_12 rfl rfl ?_
    refine v_iconst C (nI 1) dX7_would_13 zk_1 ?_
    obtain ⟨x16, g17, e18, hM⟩ := zc_elim hM
    refine v_callVi (ci := 7) (rest := []) C (c_X7_no hX  e18) mw_X7_no mi_X7_no ml_RX7_214 hX.symm zm7 rfl rfl ⟨by decide, Nat.le_of_ble_eq_true rfl⟩ rfl (Nat.le_of_ble_eq_true rfl) dX7_would_14 rfl ?_
    exact v_iret2 C hr dX7_would_17 hM

theorem c_X7_wouldEnd {X : zX} (hX : zfl X = true) {v1 : Int32} {g gr : zG} {rr : Int32}  (hM : X7_wouldEnd v1 g = some (rr, gr)) : MC X yX7_wouldEnd cX7_wouldEnd 2 (some .int) 8 [.inr (.inl (7, 0)), .inl v1] (some (.inl rr)) g gr := by
  refine MC.mk (own := RX7) (L := [some (.inr (.inl (7, 0))), some (.inl v1)]) (by decide) rfl trivial (Nat.le_of_ble_eq_true rfl) rfl ?_
  intro p l e s m args below meth c C hr
  unfold X7_wouldEnd at hM
  refine v_aload_n C 0 dX7_wouldEnd_0 rfl rfl ?_
  obtain ⟨x1, g2, e3, hM⟩ := zc_elim hM
  refine v_callVv (ci := 7) (rest := []) C (c_X7_anew hX  e3) mw_X7_anew mi_X7_anew ml_RX7_211 hX.symm zm7 rfl rfl ⟨by decide, Nat.le_of_ble_eq_true rfl⟩ rfl (Nat.le_of_ble_eq_true rfl) dX7_wouldEnd_1 rfl ?_
  refine v_aload_n C 0 dX7_wouldEnd_4 rfl rfl ?_
  refine v_iload_n C 1 dX7_wouldEnd_5 rfl rfl ?_
  obtain ⟨x4, g5, e6, hM⟩ := zc_elim hM
  refine v_callVi (ci := 7) (rest := []) C (c_X7_isCore hX  e6) mw_X7_isCore mi_X7_isCore ml_RX7_308 hX.symm zm7 rfl rfl ⟨by decide, Nat.le_of_ble_eq_true rfl⟩ rfl (Nat.le_of_ble_eq_true rfl) dX7_wouldEnd_6 rfl ?_
  refine v_if_ne C 18 dX7_wouldEnd_9 rfl hM (fun hM => ?_) (fun hM => ?_)
  · refine v_aload_n C 0 dX7_wouldEnd_18 rfl rfl ?_
    obtain ⟨x7, g8, e9, hM⟩ := zc_elim hM
    refine v_callVv (ci := 7) (rest := []) C (c_X7_laysAside hX  e9) mw_X7_laysAside mi_X7_laysAside ml_RX7_335 hX.symm zm7 rfl rfl ⟨by decide, Nat.le_of_ble_eq_true rfl⟩ rfl (Nat.le_of_ble_eq_true rfl) dX7_wouldEnd_19 rfl ?_
    refine v_aload_n C 0 dX7_wouldEnd_22 rfl rfl ?_
    refine v_iload_n C 1 dX7_wouldEnd_23 rfl rfl ?_
    obtain ⟨x10, g11, e12, hM⟩ := zc_elim hM
    refine v_callVi (ci := 7) (rest := []) C (c_X7_steps hX  e12) mw_X7_steps mi_X7_steps ml_RX7_338 hX.symm zm7 rfl rfl ⟨by decide, Nat.le_of_ble_eq_true rfl⟩ rfl (Nat.le_of_ble_eq_true rfl) dX7_wouldEnd_24 rfl ?_
    refine v_pop C dX7_wouldEnd_27 ?_
    refine v_aload_n C 0 dX7_wouldEnd_28 rfl rfl ?_
    obtain ⟨x13, g14, e15, hM⟩ := zc_elim hM
    refine v_callVv (ci := 7) (rest := []) C (c_X7_takesBack hX  e15) mw_X7_takesBack mi_X7_takesBack ml_RX7_341 hX.symm zm7 rfl rfl ⟨by decide, Nat.le_of_ble_eq_true rfl⟩ rfl (Nat.le_of_ble_eq_true rfl) dX7_wouldEnd_29 rfl ?_
    refine v_aload_n C 0 dX7_wouldEnd_32 rfl rfl ?_
    refine gf_RX7_254 C hX dX7_wouldEnd_33 ?_
    exact v_iret2 C hr dX7_wouldEnd_36 hM
  · refine v_aload_n C 0 dX7_wouldEnd_12 rfl rfl ?_
    refine v_iconst C (nI 1) dX7_wouldEnd_13 zk_1 ?_
    obtain ⟨x16, g17, e18, hM⟩ := zc_elim hM
    refine v_callVi (ci := 7) (rest := []) C (c_X7_no hX  e18) mw_X7_no mi_X7_no ml_RX7_214 hX.symm zm7 rfl rfl ⟨by decide, Nat.le_of_ble_eq_true rfl⟩ rfl (Nat.le_of_ble_eq_true rfl) dX7_wouldEnd_14 rfl ?_
    exact v_iret2 C hr dX7_wouldEnd_17 hM

theorem c_X7_step {X : zX} (hX : zfl X = true) {v1 : Int32} {g gr : zG} {rr : Int32}  (hM : X7_step v1 g = some (rr, gr)) : MC X yX7_step cX7_step 2 (some .int) 8 [.inr (.inl (7, 0)), .inl v1] (some (.inl rr)) g gr := by
  refine MC.mk (own := RX7) (L := [some (.inr (.inl (7, 0))), some (.inl v1)]) (by decide) rfl trivial (Nat.le_of_ble_eq_true rfl) rfl ?_
  intro p l e s m args below meth c C hr
  unfold X7_step at hM
  refine v_aload_n C 0 dX7_step_0 rfl rfl ?_
  obtain ⟨x1, g2, e3, hM⟩ := zc_elim hM
  refine v_callVv (ci := 7) (rest := []) C (c_X7_anew hX  e3) mw_X7_anew mi_X7_anew ml_RX7_211 hX.symm zm7 rfl rfl ⟨by decide, Nat.le_of_ble_eq_true rfl⟩ rfl (Nat.le_of_ble_eq_true rfl) dX7_step_1 rfl ?_
  refine v_aload_n C 0 dX7_step_4 rfl rfl ?_
  refine v_iload_n C 1 dX7_step_5 rfl rfl ?_
  obtain ⟨x4, g5, e6, hM⟩ := zc_elim hM
  refine v_callVi (ci := 7) (rest := []) C (c_X7_isCore hX  e6) mw_X7_isCore mi_X7_isCore ml_RX7_308 hX.symm zm7 rfl rfl ⟨by decide, Nat.le_of_ble_eq_true rfl⟩ rfl (Nat.le_of_ble_eq_true rfl) dX7_step_6 rfl ?_
  refine v_if_eq C 20 dX7_step_9 rfl hM (fun hM => ?_) (fun hM => ?_)
  · refine v_aload_n C 0 dX7_step_20 rfl rfl ?_
    refine v_iconst C (nI 1) dX7_step_21 zk_1 ?_
    obtain ⟨x7, g8, e9, hM⟩ := zc_elim hM
    refine v_callVi (ci := 7) (rest := []) C (c_X7_no hX  e9) mw_X7_no mi_X7_no ml_RX7_214 hX.symm zm7 rfl rfl ⟨by decide, Nat.le_of_ble_eq_true rfl⟩ rfl (Nat.le_of_ble_eq_true rfl) dX7_step_22 rfl ?_
    exact v_iret2 C hr dX7_step_25 hM
  · refine v_aload_n C 0 dX7_step_12 rfl rfl ?_
    refine v_iload_n C 1 dX7_step_13 rfl rfl ?_
    obtain ⟨x10, g11, e12, hM⟩ := zc_elim hM
    refine v_callVi (ci := 7) (rest := []) C (c_X7_steps hX  e12) mw_X7_steps mi_X7_steps ml_RX7_338 hX.symm zm7 rfl rfl ⟨by decide, Nat.le_of_ble_eq_true rfl⟩ rfl (Nat.le_of_ble_eq_true rfl) dX7_step_14 rfl ?_
    refine v_goto C 25 dX7_step_17 rfl ?_
    exact v_iret2 C hr dX7_step_25 hM

theorem t_X7_rounds_b72 {v1 : Int32} {v3 : Int32} {v4 : Int32} {s0 : Int32} {s1 : Int32} {k46 : Int32 → Int32 → Int32 → Int32 → zG → Option (Int32 × zG)} {g : zG} (hX : zfl X = true) (C : Cx X p (zrm 8) s m args meth c cX7_rounds 5 RX7 0 0) (hr : meth.sig.returnType = (some .int))  (hk46 : ∀ (v1 : Int32) (v2 : Int32) (v3 : Int32) (v4 : Int32) (g : zG),  k46 v1 v2 v3 v4 g = some (rr, gr) → V X p l e (zrm 8) s m args below meth c 5 0 0 (MQ below (zQ X (Option.map (zM X) (some (.inl rr))) gr) args s 0 0 (zF X)) g 46 [some (.inr (.inl (7, 0))), some (.inl v1), some (.inl v2), some (.inl v3), some (.inl v4)] []) (hM : X7_rounds_b72 k46 v1 v3 v4 s0 s1 g = some (rr, gr)) : V X p l e (zrm 8) s m args below meth c 5 0 0 (MQ below (zQ X (Option.map (zM X) (some (.inl rr))) gr) args s 0 0 (zF X)) g 72 [some (.inr (.inl (7, 0))), some (.inl v1), none, some (.inl v3), some (.inl v4)] [(.inl s1), (.inl s0)] := by
  unfold X7_rounds_b72 at hM
  refine v_iadd C dX7_rounds_72 ?_
  refine v_istore_n (L' := [some (.inr (.inl (7, 0))), some (.inl v1), some (.inl (s0 + s1)), some (.inl v3), some (.inl v4)]) C 2 dX7_rounds_73 rfl (by decide) rfl ?_
  refine v_iinc (L' := [some (.inr (.inl (7, 0))), some (.inl v1), some (.inl (s0 + s1)), some (.inl v3), some (.inl (v4 + (nI 1)))]) C 4 (nI 1) dX7_rounds_74 zk_1 (by decide) rfl rfl ?_
  refine v_goto C 46 dX7_rounds_77 rfl ?_
  exact hk46 v1 (s0 + s1) v3 (v4 + (nI 1)) g  hM

theorem t_X7_rounds_l46 {k38 : Int32 → Int32 → Int32 → zG → Option (Int32 × zG)} (hX : zfl X = true) (C : Cx X p (zrm 8) s m args meth c cX7_rounds 5 RX7 0 0) (hr : meth.sig.returnType = (some .int)) (hk38 : ∀ (v1 : Int32) (v2 : Int32) (v3 : Int32) (g : zG),  k38 v1 v2 v3 g = some (rr, gr) → V X p l e (zrm 8) s m args below meth c 5 0 0 (MQ below (zQ X (Option.map (zM X) (some (.inl rr))) gr) args s 0 0 (zF X)) g 38 [some (.inr (.inl (7, 0))), some (.inl v1), some (.inl v2), some (.inl v3), none] []) : ∀ (n : Nat) {v1 : Int32} {v2 : Int32} {v3 : Int32} {v4 : Int32} (g : zG), X7_rounds_l46 k38 n v1 v2 v3 v4 g = some (rr, gr) → V X p l e (zrm 8) s m args below meth c 5 0 0 (MQ below (zQ X (Option.map (zM X) (some (.inl rr))) gr) args s 0 0 (zF X)) g 46 [some (.inr (.inl (7, 0))), some (.inl v1), some (.inl v2), some (.inl v3), some (.inl v4)] [] := by
  intro n
  induction n with
  | zero =>
    intro v1 v2 v3 v4 g  hM
    exact absurd (show (none : Option (Int32 × zG)) = some (rr, gr) from hM) (by simp)
  | succ n ih =>
    intro v1 v2 v3 v4 g  hM
    rw [X7_rounds_l46.eq_2] at hM
    refine v_iload C 4 dX7_rounds_46 rfl ?_
    refine v_aload_n C 0 dX7_rounds_48 rfl rfl ?_
    refine gf_RX7_17 C hX dX7_rounds_49 ?_
    refine v_iconst C (nI 5) dX7_rounds_52 zk_5 ?_
    refine ia_31 C hX dX7_rounds_53 hM (fun hM _ => ?_)
    refine v_icmp_ge C 80 dX7_rounds_54 rfl hM (fun hM => ?_) (fun hM => ?_)
    · refine v_iinc (L' := [some (.inr (.inl (7, 0))), some (.inl v1), some (.inl v2), some (.inl (v3 + (nI 1))), some (.inl v4)]) C 3 (nI 1) dX7_rounds_80 zk_1 (by decide) rfl rfl ?_
      refine v_goto C 38 dX7_rounds_83 rfl ?_
      exact v_weak (hk38 v1 v2 (v3 + (nI 1)) g  hM) (show zsub [some (.inr (.inl (7, 0))), some (.inl v1), some (.inl v2), some (.inl (v3 + (nI 1))), none] [some (.inr (.inl (7, 0))), some (.inl v1), some (.inl v2), some (.inl (v3 + (nI 1))), some (.inl v4)] from ⟨rfl, ⟨rfl, ⟨rfl, ⟨rfl, trivial⟩⟩⟩⟩)
    · refine v_iload_n C 2 dX7_rounds_57 rfl rfl ?_
      refine v_aload_n C 0 dX7_rounds_58 rfl rfl ?_
      refine v_iload C 4 dX7_rounds_59 rfl ?_
      obtain ⟨x1, g2, e3, hM⟩ := zc_elim hM
      refine v_callVi (ci := 7) (rest := [(.inl v2)]) C (c_X7_steps hX  e3) mw_X7_steps mi_X7_steps ml_RX7_338 hX.symm zm7 rfl rfl ⟨by decide, Nat.le_of_ble_eq_true rfl⟩ rfl (Nat.le_of_ble_eq_true rfl) dX7_rounds_61 rfl ?_
      refine v_if_ne C 71 dX7_rounds_64 rfl hM (fun hM => ?_) (fun hM => ?_)
      · refine v_iconst C (nI 1) dX7_rounds_71 zk_1 ?_
        exact v_weak (t_X7_rounds_b72 hX C hr  (fun v1 v2 v3 v4 g  hM => ih g  hM) hM) (show zsub [some (.inr (.inl (7, 0))), some (.inl v1), none, some (.inl v3), some (.inl v4)] [some (.inr (.inl (7, 0))), some (.inl v1), some (.inl v2), some (.inl v3), some (.inl v4)] from ⟨rfl, ⟨rfl, ⟨rfl, ⟨rfl, trivial⟩⟩⟩⟩)
      · refine v_iconst C (nI 0) dX7_rounds_67 zk_0 ?_
        refine v_goto C 72 dX7_rounds_68 rfl ?_
        exact v_weak (t_X7_rounds_b72 hX C hr  (fun v1 v2 v3 v4 g  hM => ih g  hM) hM) (show zsub [some (.inr (.inl (7, 0))), some (.inl v1), none, some (.inl v3), some (.inl v4)] [some (.inr (.inl (7, 0))), some (.inl v1), some (.inl v2), some (.inl v3), some (.inl v4)] from ⟨rfl, ⟨rfl, ⟨rfl, ⟨rfl, trivial⟩⟩⟩⟩)

theorem t_X7_rounds_l38  (hX : zfl X = true) (C : Cx X p (zrm 8) s m args meth c cX7_rounds 5 RX7 0 0) (hr : meth.sig.returnType = (some .int))  : ∀ (n : Nat) {v1 : Int32} {v2 : Int32} {v3 : Int32} (g : zG), X7_rounds_l38  n v1 v2 v3 g = some (rr, gr) → V X p l e (zrm 8) s m args below meth c 5 0 0 (MQ below (zQ X (Option.map (zM X) (some (.inl rr))) gr) args s 0 0 (zF X)) g 38 [some (.inr (.inl (7, 0))), some (.inl v1), some (.inl v2), some (.inl v3), none] [] := by
  intro n
  induction n with
  | zero =>
    intro v1 v2 v3 g  hM
    exact absurd (show (none : Option (Int32 × zG)) = some (rr, gr) from hM) (by simp)
  | succ n ih =>
    intro v1 v2 v3 g  hM
    rw [X7_rounds_l38.eq_2] at hM
    refine v_iload_n C 3 dX7_rounds_38 rfl rfl ?_
    refine v_iload_n C 1 dX7_rounds_39 rfl rfl ?_
    refine v_icmp_ge C 86 dX7_rounds_40 rfl hM (fun hM => ?_) (fun hM => ?_)
    · refine v_iload_n C 2 dX7_rounds_86 rfl rfl ?_
      exact v_iret2 C hr dX7_rounds_87 hM
    · refine v_iconst C (nI 0) dX7_rounds_43 zk_0 ?_
      refine v_istore (L' := [some (.inr (.inl (7, 0))), some (.inl v1), some (.inl v2), some (.inl v3), some (.inl (nI 0))]) C 4 dX7_rounds_44 (by decide) rfl ?_
      exact t_X7_rounds_l46 hX C hr (fun v1 v2 v3 g  hM => ih g  hM) _ g  hM

theorem c_X7_rounds {X : zX} (hX : zfl X = true) {v1 : Int32} {g gr : zG} {rr : Int32}  (hM : X7_rounds v1 g = some (rr, gr)) : MC X yX7_rounds cX7_rounds 5 (some .int) 8 [.inr (.inl (7, 0)), .inl v1] (some (.inl rr)) g gr := by
  refine MC.mk (own := RX7) (L := [some (.inr (.inl (7, 0))), some (.inl v1), none, none, none]) (by decide) rfl trivial (Nat.le_of_ble_eq_true rfl) rfl ?_
  intro p l e s m args below meth c C hr
  unfold X7_rounds at hM
  refine v_aload_n C 0 dX7_rounds_0 rfl rfl ?_
  obtain ⟨x1, g2, e3, hM⟩ := zc_elim hM
  refine v_callVv (ci := 7) (rest := []) C (c_X7_anew hX  e3) mw_X7_anew mi_X7_anew ml_RX7_211 hX.symm zm7 rfl rfl ⟨by decide, Nat.le_of_ble_eq_true rfl⟩ rfl (Nat.le_of_ble_eq_true rfl) dX7_rounds_1 rfl ?_
  refine v_aload_n C 0 dX7_rounds_4 rfl rfl ?_
  refine gf_RX7_226 C hX dX7_rounds_5 ?_
  refine v_if_ne C 17 dX7_rounds_8 rfl hM (fun hM => ?_) (fun hM => ?_)
  · refine v_iload_n C 1 dX7_rounds_17 rfl rfl ?_
    refine v_iconst C (nI 1) dX7_rounds_18 zk_1 ?_
    refine v_sipush C (nI 200) dX7_rounds_19 zks_200 ?_
    obtain ⟨x4, g5, e6, hM⟩ := zc_elim hM
    refine v_callSi (rest := []) C (c_X7_in hX  e6) mw_X7_in ms_X7_in ml_RX7_94 ⟨by decide, Nat.le_of_ble_eq_true rfl⟩ rfl (Nat.le_of_ble_eq_true rfl) dX7_rounds_22 rfl ?_
    refine v_if_ne C 34 dX7_rounds_25 rfl hM (fun hM => ?_) (fun hM => ?_)
    · refine v_iconst C (nI 0) dX7_rounds_34 zk_0 ?_
      refine v_istore_n (L' := [some (.inr (.inl (7, 0))), some (.inl v1), some (.inl (nI 0)), none, none]) C 2 dX7_rounds_35 rfl (by decide) rfl ?_
      refine v_iconst C (nI 0) dX7_rounds_36 zk_0 ?_
      refine v_istore_n (L' := [some (.inr (.inl (7, 0))), some (.inl v1), some (.inl (nI 0)), some (.inl (nI 0)), none]) C 3 dX7_rounds_37 rfl (by decide) rfl ?_
      exact t_X7_rounds_l38 hX C hr  _ g5  hM
    · refine v_aload_n C 0 dX7_rounds_28 rfl rfl ?_
      refine v_iconst C (nI 2) dX7_rounds_29 zk_2 ?_
      obtain ⟨x7, g8, e9, hM⟩ := zc_elim hM
      refine v_callVi (ci := 7) (rest := []) C (c_X7_no hX  e9) mw_X7_no mi_X7_no ml_RX7_214 hX.symm zm7 rfl rfl ⟨by decide, Nat.le_of_ble_eq_true rfl⟩ rfl (Nat.le_of_ble_eq_true rfl) dX7_rounds_30 rfl ?_
      exact v_iret2 C hr dX7_rounds_33 hM
  · refine v_aload_n C 0 dX7_rounds_11 rfl rfl ?_
    refine v_iconst C (nI 1) dX7_rounds_12 zk_1 ?_
    obtain ⟨x10, g11, e12, hM⟩ := zc_elim hM
    refine v_callVi (ci := 7) (rest := []) C (c_X7_no hX  e12) mw_X7_no mi_X7_no ml_RX7_214 hX.symm zm7 rfl rfl ⟨by decide, Nat.le_of_ble_eq_true rfl⟩ rfl (Nat.le_of_ble_eq_true rfl) dX7_rounds_13 rfl ?_
    exact v_iret2 C hr dX7_rounds_16 hM

theorem c_X7_drawn {X : zX} (hX : zfl X = true)  {g gr : zG} {rr : Int32}  (hM : X7_drawn  g = some (rr, gr)) : MC X yX7_drawn cX7_drawn 1 (some .int) 0 [.inr (.inl (7, 0))] (some (.inl rr)) g gr := by
  refine MC.mk (own := RX7) (L := [some (.inr (.inl (7, 0)))]) (by decide) rfl trivial (Nat.le_of_ble_eq_true rfl) rfl ?_
  intro p l e s m args below meth c C hr
  unfold X7_drawn at hM
  refine v_aload_n C 0 dX7_drawn_0 rfl rfl ?_
  refine v_sipush C (nI 25173) dX7_drawn_1 zks_25173 ?_
  refine v_aload_n C 0 dX7_drawn_4 rfl rfl ?_
  refine gf_RX7_344 C hX dX7_drawn_5 ?_
  refine v_imul C dX7_drawn_8 ?_
  refine v_sipush C (nI 13849) dX7_drawn_9 zks_13849 ?_
  refine v_iadd C dX7_drawn_12 ?_
  refine v_ldcw C (nI 65536) dX7_drawn_13 kc_RX7_347 ?_
  refine v_iremk C (nI_ne0 (by decide) (by decide)) dX7_drawn_16 ?_
  refine pf_RX7_344 C hX dX7_drawn_17 hM (fun g1 hM => ?_)
  refine v_aload_n C 0 dX7_drawn_20 rfl rfl ?_
  refine gf_RX7_344 C hX dX7_drawn_21 ?_
  refine v_sipush C (nI 256) dX7_drawn_24 zks_256 ?_
  refine v_idivk C (nI_ne0 (by decide) (by decide)) dX7_drawn_27 ?_
  refine v_aload_n C 0 dX7_drawn_28 rfl rfl ?_
  refine gf_RX7_17 C hX dX7_drawn_29 ?_
  refine v_iconst C (nI 5) dX7_drawn_32 zk_5 ?_
  refine ia_31 C hX dX7_drawn_33 hM (fun hM _ => ?_)
  refine v_irem C dX7_drawn_34 hM (fun hM => ?_)
  exact v_iret2 C hr dX7_drawn_35 hM

theorem c_X7_isSeed {X : zX} (hX : zfl X = true) {v0 : Int32} {g gr : zG} {rr : Int32}  (hM : X7_isSeed v0 g = some (rr, gr)) : MC X yX7_isSeed cX7_isSeed 1 (some .boolean) 1 [.inl v0] (some (.inl rr)) g gr := by
  refine MC.mk (own := RX7) (L := [some (.inl v0)]) (by decide) rfl trivial (Nat.le_of_ble_eq_true rfl) rfl ?_
  intro p l e s m args below meth c C hr
  unfold X7_isSeed at hM
  refine v_iload_n C 0 dX7_isSeed_0 rfl rfl ?_
  refine v_iconst C (nI 0) dX7_isSeed_1 zk_0 ?_
  refine v_ldcw C (nI 65535) dX7_isSeed_2 kc_RX7_348 ?_
  obtain ⟨x1, g2, e3, hM⟩ := zc_elim hM
  refine v_callSi (rest := []) C (c_X7_in hX  e3) mw_X7_in ms_X7_in ml_RX7_94 ⟨by decide, Nat.le_of_ble_eq_true rfl⟩ rfl (Nat.le_of_ble_eq_true rfl) dX7_isSeed_5 rfl ?_
  obtain ⟨hz, hM⟩ := zbo_elim hM
  exact v_zret2 C hr (zbo_n hz) dX7_isSeed_8 hM

theorem t_X7_draws_b35   {g : zG} (hX : zfl X = true) (C : Cx X p (zrm 8) s m args meth c cX7_draws 5 RX7 0 0) (hr : meth.sig.returnType = (some .int))   (hM : X7_draws_b35   g = some (rr, gr)) : V X p l e (zrm 8) s m args below meth c 5 0 0 (MQ below (zQ X (Option.map (zM X) (some (.inl rr))) gr) args s 0 0 (zF X)) g 35 [some (.inr (.inl (7, 0))), none, none, none, none] [] := by
  unfold X7_draws_b35 at hM
  refine v_aload_n C 0 dX7_draws_35 rfl rfl ?_
  refine v_iconst C (nI 2) dX7_draws_36 zk_2 ?_
  obtain ⟨x1, g2, e3, hM⟩ := zc_elim hM
  refine v_callVi (ci := 7) (rest := []) C (c_X7_no hX  e3) mw_X7_no mi_X7_no ml_RX7_214 hX.symm zm7 rfl rfl ⟨by decide, Nat.le_of_ble_eq_true rfl⟩ rfl (Nat.le_of_ble_eq_true rfl) dX7_draws_37 rfl ?_
  exact v_iret2 C hr dX7_draws_40 hM

theorem t_X7_draws_b74 {v1 : Int32} {v4 : Int32} {s0 : Int32} {s1 : Int32} {k51 : Int32 → Int32 → Int32 → zG → Option (Int32 × zG)} {g : zG} (hX : zfl X = true) (C : Cx X p (zrm 8) s m args meth c cX7_draws 5 RX7 0 0) (hr : meth.sig.returnType = (some .int))  (hk51 : ∀ (v1 : Int32) (v3 : Int32) (v4 : Int32) (g : zG),  k51 v1 v3 v4 g = some (rr, gr) → V X p l e (zrm 8) s m args below meth c 5 0 0 (MQ below (zQ X (Option.map (zM X) (some (.inl rr))) gr) args s 0 0 (zF X)) g 51 [some (.inr (.inl (7, 0))), some (.inl v1), none, some (.inl v3), some (.inl v4)] []) (hM : X7_draws_b74 k51 v1 v4 s0 s1 g = some (rr, gr)) : V X p l e (zrm 8) s m args below meth c 5 0 0 (MQ below (zQ X (Option.map (zM X) (some (.inl rr))) gr) args s 0 0 (zF X)) g 74 [some (.inr (.inl (7, 0))), some (.inl v1), none, none, some (.inl v4)] [(.inl s1), (.inl s0)] := by
  unfold X7_draws_b74 at hM
  refine v_iadd C dX7_draws_74 ?_
  refine v_istore_n (L' := [some (.inr (.inl (7, 0))), some (.inl v1), none, some (.inl (s0 + s1)), some (.inl v4)]) C 3 dX7_draws_75 rfl (by decide) rfl ?_
  refine v_iinc (L' := [some (.inr (.inl (7, 0))), some (.inl v1), none, some (.inl (s0 + s1)), some (.inl (v4 + (nI 1)))]) C 4 (nI 1) dX7_draws_76 zk_1 (by decide) rfl rfl ?_
  refine v_goto C 51 dX7_draws_79 rfl ?_
  exact hk51 v1 (s0 + s1) (v4 + (nI 1)) g  hM

theorem t_X7_draws_l51  (hX : zfl X = true) (C : Cx X p (zrm 8) s m args meth c cX7_draws 5 RX7 0 0) (hr : meth.sig.returnType = (some .int))  : ∀ (n : Nat) {v1 : Int32} {v3 : Int32} {v4 : Int32} (g : zG), X7_draws_l51  n v1 v3 v4 g = some (rr, gr) → V X p l e (zrm 8) s m args below meth c 5 0 0 (MQ below (zQ X (Option.map (zM X) (some (.inl rr))) gr) args s 0 0 (zF X)) g 51 [some (.inr (.inl (7, 0))), some (.inl v1), none, some (.inl v3), some (.inl v4)] [] := by
  intro n
  induction n with
  | zero =>
    intro v1 v3 v4 g  hM
    exact absurd (show (none : Option (Int32 × zG)) = some (rr, gr) from hM) (by simp)
  | succ n ih =>
    intro v1 v3 v4 g  hM
    rw [X7_draws_l51.eq_2] at hM
    refine v_iload C 4 dX7_draws_51 rfl ?_
    refine v_iload_n C 1 dX7_draws_53 rfl rfl ?_
    refine v_icmp_ge C 82 dX7_draws_54 rfl hM (fun hM => ?_) (fun hM => ?_)
    · refine v_iload_n C 3 dX7_draws_82 rfl rfl ?_
      exact v_iret2 C hr dX7_draws_83 hM
    · refine v_iload_n C 3 dX7_draws_57 rfl rfl ?_
      refine v_aload_n C 0 dX7_draws_58 rfl rfl ?_
      refine v_aload_n C 0 dX7_draws_59 rfl rfl ?_
      obtain ⟨x1, g2, e3, hM⟩ := zc_elim hM
      refine v_callVi (ci := 7) (rest := [(.inr (.inl (7, 0))), (.inl v3)]) C (c_X7_drawn hX  e3) mw_X7_drawn mi_X7_drawn ml_RX7_352 hX.symm zm7 rfl rfl ⟨by decide, Nat.le_of_ble_eq_true rfl⟩ rfl (Nat.le_of_ble_eq_true rfl) dX7_draws_60 rfl ?_
      obtain ⟨x4, g5, e6, hM⟩ := zc_elim hM
      refine v_callVi (ci := 7) (rest := [(.inl v3)]) C (c_X7_steps hX  e6) mw_X7_steps mi_X7_steps ml_RX7_338 hX.symm zm7 rfl rfl ⟨by decide, Nat.le_of_ble_eq_true rfl⟩ rfl (Nat.le_of_ble_eq_true rfl) dX7_draws_63 rfl ?_
      refine v_if_ne C 73 dX7_draws_66 rfl hM (fun hM => ?_) (fun hM => ?_)
      · refine v_iconst C (nI 1) dX7_draws_73 zk_1 ?_
        exact v_weak (t_X7_draws_b74 hX C hr  (fun v1 v3 v4 g  hM => ih g  hM) hM) (show zsub [some (.inr (.inl (7, 0))), some (.inl v1), none, none, some (.inl v4)] [some (.inr (.inl (7, 0))), some (.inl v1), none, some (.inl v3), some (.inl v4)] from ⟨rfl, ⟨rfl, ⟨rfl, trivial⟩⟩⟩)
      · refine v_iconst C (nI 0) dX7_draws_69 zk_0 ?_
        refine v_goto C 74 dX7_draws_70 rfl ?_
        exact v_weak (t_X7_draws_b74 hX C hr  (fun v1 v3 v4 g  hM => ih g  hM) hM) (show zsub [some (.inr (.inl (7, 0))), some (.inl v1), none, none, some (.inl v4)] [some (.inr (.inl (7, 0))), some (.inl v1), none, some (.inl v3), some (.inl v4)] from ⟨rfl, ⟨rfl, ⟨rfl, trivial⟩⟩⟩)

theorem c_X7_draws {X : zX} (hX : zfl X = true) {v1 : Int32} {v2 : Int32} {g gr : zG} {rr : Int32}  (hM : X7_draws v1 v2 g = some (rr, gr)) : MC X yX7_draws cX7_draws 5 (some .int) 8 [.inr (.inl (7, 0)), .inl v1, .inl v2] (some (.inl rr)) g gr := by
  refine MC.mk (own := RX7) (L := [some (.inr (.inl (7, 0))), some (.inl v1), some (.inl v2), none, none]) (by decide) rfl trivial (Nat.le_of_ble_eq_true rfl) rfl ?_
  intro p l e s m args below meth c C hr
  unfold X7_draws at hM
  refine v_aload_n C 0 dX7_draws_0 rfl rfl ?_
  obtain ⟨x1, g2, e3, hM⟩ := zc_elim hM
  refine v_callVv (ci := 7) (rest := []) C (c_X7_anew hX  e3) mw_X7_anew mi_X7_anew ml_RX7_211 hX.symm zm7 rfl rfl ⟨by decide, Nat.le_of_ble_eq_true rfl⟩ rfl (Nat.le_of_ble_eq_true rfl) dX7_draws_1 rfl ?_
  refine v_aload_n C 0 dX7_draws_4 rfl rfl ?_
  refine gf_RX7_226 C hX dX7_draws_5 ?_
  refine v_if_ne C 17 dX7_draws_8 rfl hM (fun hM => ?_) (fun hM => ?_)
  · refine v_iload_n C 1 dX7_draws_17 rfl rfl ?_
    refine v_iconst C (nI 1) dX7_draws_18 zk_1 ?_
    refine v_sipush C (nI 1000) dX7_draws_19 zks_1000 ?_
    obtain ⟨x4, g5, e6, hM⟩ := zc_elim hM
    refine v_callSi (rest := []) C (c_X7_in hX  e6) mw_X7_in ms_X7_in ml_RX7_94 ⟨by decide, Nat.le_of_ble_eq_true rfl⟩ rfl (Nat.le_of_ble_eq_true rfl) dX7_draws_22 rfl ?_
    refine v_if_eq C 35 dX7_draws_25 rfl hM (fun hM => ?_) (fun hM => ?_)
    · exact v_weak (t_X7_draws_b35 hX C hr   hM) (show zsub [some (.inr (.inl (7, 0))), none, none, none, none] [some (.inr (.inl (7, 0))), some (.inl v1), some (.inl v2), none, none] from ⟨rfl, trivial⟩)
    · refine v_iload_n C 2 dX7_draws_28 rfl rfl ?_
      obtain ⟨x7, g8, e9, hM⟩ := zc_elim hM
      refine v_callSi (rest := []) C (c_X7_isSeed hX  e9) mw_X7_isSeed ms_X7_isSeed ml_RX7_349 ⟨by decide, Nat.le_of_ble_eq_true rfl⟩ rfl (Nat.le_of_ble_eq_true rfl) dX7_draws_29 rfl ?_
      refine v_if_ne C 41 dX7_draws_32 rfl hM (fun hM => ?_) (fun hM => ?_)
      · refine v_aload_n C 0 dX7_draws_41 rfl rfl ?_
        refine v_iload_n C 2 dX7_draws_42 rfl rfl ?_
        refine pf_RX7_344 C hX dX7_draws_43 hM (fun g10 hM => ?_)
        refine v_iconst C (nI 0) dX7_draws_46 zk_0 ?_
        refine v_istore_n (L' := [some (.inr (.inl (7, 0))), some (.inl v1), some (.inl v2), some (.inl (nI 0)), none]) C 3 dX7_draws_47 rfl (by decide) rfl ?_
        refine v_iconst C (nI 0) dX7_draws_48 zk_0 ?_
        refine v_istore (L' := [some (.inr (.inl (7, 0))), some (.inl v1), some (.inl v2), some (.inl (nI 0)), some (.inl (nI 0))]) C 4 dX7_draws_49 (by decide) rfl ?_
        exact v_weak (t_X7_draws_l51 hX C hr  _ g10  hM) (show zsub [some (.inr (.inl (7, 0))), some (.inl v1), none, some (.inl (nI 0)), some (.inl (nI 0))] [some (.inr (.inl (7, 0))), some (.inl v1), some (.inl v2), some (.inl (nI 0)), some (.inl (nI 0))] from ⟨rfl, ⟨rfl, ⟨rfl, ⟨rfl, trivial⟩⟩⟩⟩)
      · exact v_weak (t_X7_draws_b35 hX C hr   hM) (show zsub [some (.inr (.inl (7, 0))), none, none, none, none] [some (.inr (.inl (7, 0))), some (.inl v1), some (.inl v2), none, none] from ⟨rfl, trivial⟩)
  · refine v_aload_n C 0 dX7_draws_11 rfl rfl ?_
    refine v_iconst C (nI 1) dX7_draws_12 zk_1 ?_
    obtain ⟨x11, g12, e13, hM⟩ := zc_elim hM
    refine v_callVi (ci := 7) (rest := []) C (c_X7_no hX  e13) mw_X7_no mi_X7_no ml_RX7_214 hX.symm zm7 rfl rfl ⟨by decide, Nat.le_of_ble_eq_true rfl⟩ rfl (Nat.le_of_ble_eq_true rfl) dX7_draws_13 rfl ?_
    exact v_iret2 C hr dX7_draws_16 hM

theorem c_X7_interrupt {X : zX} (hX : zfl X = true) {v1 : Int32} {g gr : zG} {rr : Int32}  (hM : X7_interrupt v1 g = some (rr, gr)) : MC X yX7_interrupt cX7_interrupt 2 (some .int) 2 [.inr (.inl (7, 0)), .inl v1] (some (.inl rr)) g gr := by
  refine MC.mk (own := RX7) (L := [some (.inr (.inl (7, 0))), some (.inl v1)]) (by decide) rfl trivial (Nat.le_of_ble_eq_true rfl) rfl ?_
  intro p l e s m args below meth c C hr
  unfold X7_interrupt at hM
  refine v_aload_n C 0 dX7_interrupt_0 rfl rfl ?_
  obtain ⟨x1, g2, e3, hM⟩ := zc_elim hM
  refine v_callVv (ci := 7) (rest := []) C (c_X7_anew hX  e3) mw_X7_anew mi_X7_anew ml_RX7_211 hX.symm zm7 rfl rfl ⟨by decide, Nat.le_of_ble_eq_true rfl⟩ rfl (Nat.le_of_ble_eq_true rfl) dX7_interrupt_1 rfl ?_
  refine v_aload_n C 0 dX7_interrupt_4 rfl rfl ?_
  refine v_iload_n C 1 dX7_interrupt_5 rfl rfl ?_
  obtain ⟨x4, g5, e6, hM⟩ := zc_elim hM
  refine v_callVi (ci := 7) (rest := []) C (c_X7_isCore hX  e6) mw_X7_isCore mi_X7_isCore ml_RX7_308 hX.symm zm7 rfl rfl ⟨by decide, Nat.le_of_ble_eq_true rfl⟩ rfl (Nat.le_of_ble_eq_true rfl) dX7_interrupt_6 rfl ?_
  refine v_if_ne C 18 dX7_interrupt_9 rfl hM (fun hM => ?_) (fun hM => ?_)
  · refine v_aload_n C 0 dX7_interrupt_18 rfl rfl ?_
    refine gf_RX7_53 C hX dX7_interrupt_19 ?_
    refine v_iload_n C 1 dX7_interrupt_22 rfl rfl ?_
    refine v_iconst C (nI 3) dX7_interrupt_23 zk_3 ?_
    obtain ⟨x7, g8, e9, hM⟩ := zc_elim hM
    refine v_callSi (rest := [(.inr (.inl (43, 0)))]) C (c_X7_coreAt hX  e9) mw_X7_coreAt ms_X7_coreAt ml_RX7_244 ⟨by decide, Nat.le_of_ble_eq_true rfl⟩ rfl (Nat.le_of_ble_eq_true rfl) dX7_interrupt_24 rfl ?_
    refine ia_43 C hX dX7_interrupt_27 hM (fun hM _ => ?_)
    refine v_iconst C (nI 1) dX7_interrupt_28 zk_1 ?_
    refine v_icmp_eq C 38 dX7_interrupt_29 rfl hM (fun hM => ?_) (fun hM => ?_)
    · refine v_aload_n C 0 dX7_interrupt_38 rfl rfl ?_
      refine v_iload_n C 1 dX7_interrupt_39 rfl rfl ?_
      refine v_iconst C (nI 2) dX7_interrupt_40 zk_2 ?_
      obtain ⟨x10, g11, e12, hM⟩ := zc_elim hM
      refine v_callVv (ci := 7) (rest := []) C (c_X7_ends hX  e12) mw_X7_ends mi_X7_ends ml_RX7_268 hX.symm zm7 rfl rfl ⟨by decide, Nat.le_of_ble_eq_true rfl⟩ rfl (Nat.le_of_ble_eq_true rfl) dX7_interrupt_41 rfl ?_
      refine v_aload_n C 0 dX7_interrupt_44 rfl rfl ?_
      refine gf_RX7_53 C hX dX7_interrupt_45 ?_
      refine v_iload_n C 1 dX7_interrupt_48 rfl rfl ?_
      refine v_iconst C (nI 0) dX7_interrupt_49 zk_0 ?_
      obtain ⟨x13, g14, e15, hM⟩ := zc_elim hM
      refine v_callSi (rest := [(.inr (.inl (43, 0)))]) C (c_X7_coreAt hX  e15) mw_X7_coreAt ms_X7_coreAt ml_RX7_244 ⟨by decide, Nat.le_of_ble_eq_true rfl⟩ rfl (Nat.le_of_ble_eq_true rfl) dX7_interrupt_50 rfl ?_
      refine ia_43 C hX dX7_interrupt_53 hM (fun hM _ => ?_)
      exact v_iret2 C hr dX7_interrupt_54 hM
    · refine v_aload_n C 0 dX7_interrupt_32 rfl rfl ?_
      refine v_iconst C (nI 5) dX7_interrupt_33 zk_5 ?_
      obtain ⟨x16, g17, e18, hM⟩ := zc_elim hM
      refine v_callVi (ci := 7) (rest := []) C (c_X7_no hX  e18) mw_X7_no mi_X7_no ml_RX7_214 hX.symm zm7 rfl rfl ⟨by decide, Nat.le_of_ble_eq_true rfl⟩ rfl (Nat.le_of_ble_eq_true rfl) dX7_interrupt_34 rfl ?_
      exact v_iret2 C hr dX7_interrupt_37 hM
  · refine v_aload_n C 0 dX7_interrupt_12 rfl rfl ?_
    refine v_iconst C (nI 1) dX7_interrupt_13 zk_1 ?_
    obtain ⟨x19, g20, e21, hM⟩ := zc_elim hM
    refine v_callVi (ci := 7) (rest := []) C (c_X7_no hX  e21) mw_X7_no mi_X7_no ml_RX7_214 hX.symm zm7 rfl rfl ⟨by decide, Nat.le_of_ble_eq_true rfl⟩ rfl (Nat.le_of_ble_eq_true rfl) dX7_interrupt_14 rfl ?_
    exact v_iret2 C hr dX7_interrupt_17 hM

theorem t_X7_isAnyLeft_l2  (hX : zfl X = true) (C : Cx X p (zrm 2) s m args meth c cX7_isAnyLeft 2 RX7 0 0) (hr : meth.sig.returnType = (some .boolean))  : ∀ (n : Nat) {v1 : Int32} (g : zG), X7_isAnyLeft_l2  n v1 g = some (rr, gr) → V X p l e (zrm 2) s m args below meth c 2 0 0 (MQ below (zQ X (Option.map (zM X) (some (.inl rr))) gr) args s 0 0 (zF X)) g 2 [some (.inr (.inl (7, 0))), some (.inl v1)] [] := by
  intro n
  induction n with
  | zero =>
    intro v1 g  hM
    exact absurd (show (none : Option (Int32 × zG)) = some (rr, gr) from hM) (by simp)
  | succ n ih =>
    intro v1 g  hM
    rw [X7_isAnyLeft_l2.eq_2] at hM
    refine v_iload_n C 1 dX7_isAnyLeft_2 rfl rfl ?_
    refine v_aload_n C 0 dX7_isAnyLeft_3 rfl rfl ?_
    refine gf_RX7_17 C hX dX7_isAnyLeft_4 ?_
    refine v_iconst C (nI 5) dX7_isAnyLeft_7 zk_5 ?_
    refine ia_31 C hX dX7_isAnyLeft_8 hM (fun hM _ => ?_)
    refine v_icmp_ge C 28 dX7_isAnyLeft_9 rfl hM (fun hM => ?_) (fun hM => ?_)
    · refine v_iconst C (nI 0) dX7_isAnyLeft_28 zk_0 ?_
      exact v_zret2 C hr (zbo_n (Or.inl rfl)) dX7_isAnyLeft_29 hM
    · refine v_aload_n C 0 dX7_isAnyLeft_12 rfl rfl ?_
      refine v_iload_n C 1 dX7_isAnyLeft_13 rfl rfl ?_
      obtain ⟨x1, g2, e3, hM⟩ := zc_elim hM
      refine v_callVi (ci := 7) (rest := []) C (c_X7_hasLeft hX  e3) mw_X7_hasLeft mi_X7_hasLeft ml_RX7_301 hX.symm zm7 rfl rfl ⟨by decide, Nat.le_of_ble_eq_true rfl⟩ rfl (Nat.le_of_ble_eq_true rfl) dX7_isAnyLeft_14 rfl ?_
      refine v_if_eq C 22 dX7_isAnyLeft_17 rfl hM (fun hM => ?_) (fun hM => ?_)
      · refine v_iinc (L' := [some (.inr (.inl (7, 0))), some (.inl (v1 + (nI 1)))]) C 1 (nI 1) dX7_isAnyLeft_22 zk_1 (by decide) rfl rfl ?_
        refine v_goto C 2 dX7_isAnyLeft_25 rfl ?_
        exact ih g2  hM
      · refine v_iconst C (nI 1) dX7_isAnyLeft_20 zk_1 ?_
        exact v_zret2 C hr (zbo_n (Or.inr rfl)) dX7_isAnyLeft_21 hM

theorem c_X7_isAnyLeft {X : zX} (hX : zfl X = true)  {g gr : zG} {rr : Int32}  (hM : X7_isAnyLeft  g = some (rr, gr)) : MC X yX7_isAnyLeft cX7_isAnyLeft 2 (some .boolean) 2 [.inr (.inl (7, 0))] (some (.inl rr)) g gr := by
  refine MC.mk (own := RX7) (L := [some (.inr (.inl (7, 0))), none]) (by decide) rfl trivial (Nat.le_of_ble_eq_true rfl) rfl ?_
  intro p l e s m args below meth c C hr
  unfold X7_isAnyLeft at hM
  refine v_iconst C (nI 0) dX7_isAnyLeft_0 zk_0 ?_
  refine v_istore_n (L' := [some (.inr (.inl (7, 0))), some (.inl (nI 0))]) C 1 dX7_isAnyLeft_1 rfl (by decide) rfl ?_
  exact t_X7_isAnyLeft_l2 hX C hr  _ g  hM

theorem t_X7_countAll_l4  (hX : zfl X = true) (C : Cx X p (zrm 1) s m args meth c cX7_countAll 4 RX7 0 0) (hr : meth.sig.returnType = (some .int))  : ∀ (n : Nat) {v1 : Int32} {v2 : Int32} {v3 : Int32} (g : zG), X7_countAll_l4  n v1 v2 v3 g = some (rr, gr) → V X p l e (zrm 1) s m args below meth c 4 0 0 (MQ below (zQ X (Option.map (zM X) (some (.inl rr))) gr) args s 0 0 (zF X)) g 4 [some (.inr (.inl (7, 0))), some (.inl v1), some (.inl v2), some (.inl v3)] [] := by
  intro n
  induction n with
  | zero =>
    intro v1 v2 v3 g  hM
    exact absurd (show (none : Option (Int32 × zG)) = some (rr, gr) from hM) (by simp)
  | succ n ih =>
    intro v1 v2 v3 g  hM
    rw [X7_countAll_l4.eq_2] at hM
    refine v_iload_n C 3 dX7_countAll_4 rfl rfl ?_
    refine v_aload_n C 0 dX7_countAll_5 rfl rfl ?_
    refine gf_RX7_17 C hX dX7_countAll_6 ?_
    refine v_iconst C (nI 5) dX7_countAll_9 zk_5 ?_
    refine ia_31 C hX dX7_countAll_10 hM (fun hM _ => ?_)
    refine v_icmp_ge C 36 dX7_countAll_11 rfl hM (fun hM => ?_) (fun hM => ?_)
    · refine v_iload_n C 2 dX7_countAll_36 rfl rfl ?_
      exact v_iret2 C hr dX7_countAll_37 hM
    · refine v_iload_n C 2 dX7_countAll_14 rfl rfl ?_
      refine v_aload_n C 0 dX7_countAll_15 rfl rfl ?_
      refine gf_RX7_53 C hX dX7_countAll_16 ?_
      refine v_iload_n C 3 dX7_countAll_19 rfl rfl ?_
      refine v_bipush C (nI 7) dX7_countAll_20 zkb_7 ?_
      refine v_iload_n C 1 dX7_countAll_22 rfl rfl ?_
      refine v_iadd C dX7_countAll_23 ?_
      obtain ⟨x1, g2, e3, hM⟩ := zc_elim hM
      refine v_callSi (rest := [(.inr (.inl (43, 0))), (.inl v2)]) C (c_X7_coreAt hX  e3) mw_X7_coreAt ms_X7_coreAt ml_RX7_244 ⟨by decide, Nat.le_of_ble_eq_true rfl⟩ rfl (Nat.le_of_ble_eq_true rfl) dX7_countAll_24 rfl ?_
      refine ia_43 C hX dX7_countAll_27 hM (fun hM _ => ?_)
      refine v_iadd C dX7_countAll_28 ?_
      refine v_istore_n (L' := [some (.inr (.inl (7, 0))), some (.inl v1), some (.inl (v2 + (g2 43 0 x1.toNatClampNeg))), some (.inl v3)]) C 2 dX7_countAll_29 rfl (by decide) rfl ?_
      refine v_iinc (L' := [some (.inr (.inl (7, 0))), some (.inl v1), some (.inl (v2 + (g2 43 0 x1.toNatClampNeg))), some (.inl (v3 + (nI 1)))]) C 3 (nI 1) dX7_countAll_30 zk_1 (by decide) rfl rfl ?_
      refine v_goto C 4 dX7_countAll_33 rfl ?_
      exact ih g2  hM

theorem c_X7_countAll {X : zX} (hX : zfl X = true) {v1 : Int32} {g gr : zG} {rr : Int32}  (hM : X7_countAll v1 g = some (rr, gr)) : MC X yX7_countAll cX7_countAll 4 (some .int) 1 [.inr (.inl (7, 0)), .inl v1] (some (.inl rr)) g gr := by
  refine MC.mk (own := RX7) (L := [some (.inr (.inl (7, 0))), some (.inl v1), none, none]) (by decide) rfl trivial (Nat.le_of_ble_eq_true rfl) rfl ?_
  intro p l e s m args below meth c C hr
  unfold X7_countAll at hM
  refine v_iconst C (nI 0) dX7_countAll_0 zk_0 ?_
  refine v_istore_n (L' := [some (.inr (.inl (7, 0))), some (.inl v1), some (.inl (nI 0)), none]) C 2 dX7_countAll_1 rfl (by decide) rfl ?_
  refine v_iconst C (nI 0) dX7_countAll_2 zk_0 ?_
  refine v_istore_n (L' := [some (.inr (.inl (7, 0))), some (.inl v1), some (.inl (nI 0)), some (.inl (nI 0))]) C 3 dX7_countAll_3 rfl (by decide) rfl ?_
  exact t_X7_countAll_l4 hX C hr  _ g  hM

theorem t_X7_tries_l26  (hX : zfl X = true) (C : Cx X p (zrm 8) s m args meth c cX7_tries 5 RX7 0 0) (hr : meth.sig.returnType = none)  : ∀ (n : Nat) {v4 : Int32} (g : zG), X7_tries_l26  n v4 g = some (rr, gr) → V X p l e (zrm 8) s m args below meth c 5 0 0 (MQ below (zQ X (Option.map (zM X) none) gr) args s 0 0 (zF X)) g 26 [some (.inr (.inl (7, 0))), none, none, none, some (.inl v4)] [] := by
  intro n
  induction n with
  | zero =>
    intro v4 g  hM
    exact absurd (show (none : Option (Int32 × zG)) = some (rr, gr) from hM) (by simp)
  | succ n ih =>
    intro v4 g  hM
    rw [X7_tries_l26.eq_2] at hM
    refine v_iload C 4 dX7_tries_26 rfl ?_
    refine v_sipush C (nI 2000) dX7_tries_28 zks_2000 ?_
    refine v_icmp_ge C 56 dX7_tries_31 rfl hM (fun hM => ?_) (fun hM => ?_)
    · exact v_vret2 C hr dX7_tries_56 hM
    · refine v_aload_n C 0 dX7_tries_34 rfl rfl ?_
      obtain ⟨x1, g2, e3, hM⟩ := zc_elim hM
      refine v_callVi (ci := 7) (rest := []) C (c_X7_isAnyLeft hX  e3) mw_X7_isAnyLeft mi_X7_isAnyLeft ml_RX7_355 hX.symm zm7 rfl rfl ⟨by decide, Nat.le_of_ble_eq_true rfl⟩ rfl (Nat.le_of_ble_eq_true rfl) dX7_tries_35 rfl ?_
      refine v_if_eq C 56 dX7_tries_38 rfl hM (fun hM => ?_) (fun hM => ?_)
      · exact v_vret2 C hr dX7_tries_56 hM
      · refine v_aload_n C 0 dX7_tries_41 rfl rfl ?_
        refine v_aload_n C 0 dX7_tries_42 rfl rfl ?_
        obtain ⟨x4, g5, e6, hM⟩ := zc_elim hM
        refine v_callVi (ci := 7) (rest := [(.inr (.inl (7, 0)))]) C (c_X7_drawn hX  e6) mw_X7_drawn mi_X7_drawn ml_RX7_352 hX.symm zm7 rfl rfl ⟨by decide, Nat.le_of_ble_eq_true rfl⟩ rfl (Nat.le_of_ble_eq_true rfl) dX7_tries_43 rfl ?_
        obtain ⟨x7, g8, e9, hM⟩ := zc_elim hM
        refine v_callVi (ci := 7) (rest := []) C (c_X7_steps hX  e9) mw_X7_steps mi_X7_steps ml_RX7_338 hX.symm zm7 rfl rfl ⟨by decide, Nat.le_of_ble_eq_true rfl⟩ rfl (Nat.le_of_ble_eq_true rfl) dX7_tries_46 rfl ?_
        refine v_pop C dX7_tries_49 ?_
        refine v_iinc (L' := [some (.inr (.inl (7, 0))), none, none, none, some (.inl (v4 + (nI 1)))]) C 4 (nI 1) dX7_tries_50 zk_1 (by decide) rfl rfl ?_
        refine v_goto C 26 dX7_tries_53 rfl ?_
        exact ih g8  hM

theorem c_X7_tries {X : zX} (hX : zfl X = true) {v1 : Int32} {v2 : Int32} {v3 : Int32} {g gr : zG} {rr : Int32}  (hM : X7_tries v1 v2 v3 g = some (rr, gr)) : MC X yX7_tries cX7_tries 5 none 8 [.inr (.inl (7, 0)), .inl v1, .inl v2, .inl v3] none g gr := by
  refine MC.mk (own := RX7) (L := [some (.inr (.inl (7, 0))), some (.inl v1), some (.inl v2), some (.inl v3), none]) (by decide) rfl trivial (Nat.le_of_ble_eq_true rfl) rfl ?_
  intro p l e s m args below meth c C hr
  unfold X7_tries at hM
  refine v_aload_n C 0 dX7_tries_0 rfl rfl ?_
  obtain ⟨x1, g2, e3, hM⟩ := zc_elim hM
  refine v_callVv (ci := 7) (rest := []) C (c_X7_laysAside hX  e3) mw_X7_laysAside mi_X7_laysAside ml_RX7_335 hX.symm zm7 rfl rfl ⟨by decide, Nat.le_of_ble_eq_true rfl⟩ rfl (Nat.le_of_ble_eq_true rfl) dX7_tries_1 rfl ?_
  refine v_aload_n C 0 dX7_tries_4 rfl rfl ?_
  obtain ⟨x4, g5, e6, hM⟩ := zc_elim hM
  refine v_callVv (ci := 7) (rest := []) C (c_X7_begins hX  e6) mw_X7_begins mi_X7_begins ml_RX7_235 hX.symm zm7 rfl rfl ⟨by decide, Nat.le_of_ble_eq_true rfl⟩ rfl (Nat.le_of_ble_eq_true rfl) dX7_tries_5 rfl ?_
  refine v_aload_n C 0 dX7_tries_8 rfl rfl ?_
  refine v_iload_n C 1 dX7_tries_9 rfl rfl ?_
  refine pf_RX7_238 C hX dX7_tries_10 hM (fun g7 hM => ?_)
  refine v_aload_n C 0 dX7_tries_13 rfl rfl ?_
  refine v_iload_n C 2 dX7_tries_14 rfl rfl ?_
  refine pf_RX7_240 C hX dX7_tries_15 hM (fun g8 hM => ?_)
  refine v_aload_n C 0 dX7_tries_18 rfl rfl ?_
  refine v_iload_n C 3 dX7_tries_19 rfl rfl ?_
  refine pf_RX7_344 C hX dX7_tries_20 hM (fun g9 hM => ?_)
  refine v_iconst C (nI 0) dX7_tries_23 zk_0 ?_
  refine v_istore (L' := [some (.inr (.inl (7, 0))), some (.inl v1), some (.inl v2), some (.inl v3), some (.inl (nI 0))]) C 4 dX7_tries_24 (by decide) rfl ?_
  exact v_weak (t_X7_tries_l26 hX C hr  _ g9  hM) (show zsub [some (.inr (.inl (7, 0))), none, none, none, some (.inl (nI 0))] [some (.inr (.inl (7, 0))), some (.inl v1), some (.inl v2), some (.inl v3), some (.inl (nI 0))] from ⟨rfl, ⟨rfl, trivial⟩⟩)

theorem t_X7_triedWhy_b11   {g : zG} (hX : zfl X = true) (C : Cx X p (zrm 2) s m args meth c cX7_triedWhy 5 RX7 0 0) (hr : meth.sig.returnType = (some .int))   (hM : X7_triedWhy_b11   g = some (rr, gr)) : V X p l e (zrm 2) s m args below meth c 5 0 0 (MQ below (zQ X (Option.map (zM X) (some (.inl rr))) gr) args s 0 0 (zF X)) g 11 [none, none, none, none, none] [] := by
  unfold X7_triedWhy_b11 at hM
  refine v_iconst C (nI 1) dX7_triedWhy_11 zk_1 ?_
  refine v_goto C 47 dX7_triedWhy_12 rfl ?_
  exact v_iret2 C hr dX7_triedWhy_47 hM

theorem c_X7_triedWhy {X : zX} (hX : zfl X = true) {v1 : Int32} {v2 : Int32} {v3 : Int32} {v4 : Int32} {g gr : zG} {rr : Int32}  (hM : X7_triedWhy v1 v2 v3 v4 g = some (rr, gr)) : MC X yX7_triedWhy cX7_triedWhy 5 (some .int) 2 [.inr (.inl (7, 0)), .inl v1, .inl v2, .inl v3, .inl v4] (some (.inl rr)) g gr := by
  refine MC.mk (own := RX7) (L := [some (.inr (.inl (7, 0))), some (.inl v1), some (.inl v2), some (.inl v3), some (.inl v4)]) (by decide) rfl trivial (Nat.le_of_ble_eq_true rfl) rfl ?_
  intro p l e s m args below meth c C hr
  unfold X7_triedWhy at hM
  refine v_aload_n C 0 dX7_triedWhy_0 rfl rfl ?_
  refine gf_RX7_226 C hX dX7_triedWhy_1 ?_
  refine v_if_eq C 11 dX7_triedWhy_4 rfl hM (fun hM => ?_) (fun hM => ?_)
  · exact v_weak (t_X7_triedWhy_b11 hX C hr   hM) (show zsub [none, none, none, none, none] [some (.inr (.inl (7, 0))), some (.inl v1), some (.inl v2), some (.inl v3), some (.inl v4)] from trivial)
  · refine v_iload_n C 1 dX7_triedWhy_7 rfl rfl ?_
    refine v_if_ne C 15 dX7_triedWhy_8 rfl hM (fun hM => ?_) (fun hM => ?_)
    · refine v_iload_n C 2 dX7_triedWhy_15 rfl rfl ?_
      refine v_iconst C (nI 0) dX7_triedWhy_16 zk_0 ?_
      refine v_iconst C (nI 2) dX7_triedWhy_17 zk_2 ?_
      obtain ⟨x1, g2, e3, hM⟩ := zc_elim hM
      refine v_callSi (rest := []) C (c_X7_in hX  e3) mw_X7_in ms_X7_in ml_RX7_94 ⟨by decide, Nat.le_of_ble_eq_true rfl⟩ rfl (Nat.le_of_ble_eq_true rfl) dX7_triedWhy_18 rfl ?_
      refine v_if_eq C 46 dX7_triedWhy_21 rfl hM (fun hM => ?_) (fun hM => ?_)
      · refine v_iconst C (nI 2) dX7_triedWhy_46 zk_2 ?_
        exact v_iret2 C hr dX7_triedWhy_47 hM
      · refine v_iload_n C 3 dX7_triedWhy_24 rfl rfl ?_
        refine v_iconst C (nI 1) dX7_triedWhy_25 zk_1 ?_
        refine v_bipush C (nI 9) dX7_triedWhy_26 zkb_9 ?_
        obtain ⟨x4, g5, e6, hM⟩ := zc_elim hM
        refine v_callSi (rest := []) C (c_X7_in hX  e6) mw_X7_in ms_X7_in ml_RX7_94 ⟨by decide, Nat.le_of_ble_eq_true rfl⟩ rfl (Nat.le_of_ble_eq_true rfl) dX7_triedWhy_28 rfl ?_
        refine v_if_eq C 46 dX7_triedWhy_31 rfl hM (fun hM => ?_) (fun hM => ?_)
        · refine v_iconst C (nI 2) dX7_triedWhy_46 zk_2 ?_
          exact v_iret2 C hr dX7_triedWhy_47 hM
        · refine v_iload C 4 dX7_triedWhy_34 rfl ?_
          obtain ⟨x7, g8, e9, hM⟩ := zc_elim hM
          refine v_callSi (rest := []) C (c_X7_isSeed hX  e9) mw_X7_isSeed ms_X7_isSeed ml_RX7_349 ⟨by decide, Nat.le_of_ble_eq_true rfl⟩ rfl (Nat.le_of_ble_eq_true rfl) dX7_triedWhy_36 rfl ?_
          refine v_if_eq C 46 dX7_triedWhy_39 rfl hM (fun hM => ?_) (fun hM => ?_)
          · refine v_iconst C (nI 2) dX7_triedWhy_46 zk_2 ?_
            exact v_iret2 C hr dX7_triedWhy_47 hM
          · refine v_iconst C (nI 0) dX7_triedWhy_42 zk_0 ?_
            refine v_goto C 47 dX7_triedWhy_43 rfl ?_
            exact v_iret2 C hr dX7_triedWhy_47 hM
    · exact v_weak (t_X7_triedWhy_b11 hX C hr   hM) (show zsub [none, none, none, none, none] [some (.inr (.inl (7, 0))), some (.inl v1), some (.inl v2), some (.inl v3), some (.inl v4)] from trivial)

theorem c_X7_triedOf {X : zX} (hX : zfl X = true) {v1 : Int32} {g gr : zG} {rr : Int32}  (hM : X7_triedOf v1 g = some (rr, gr)) : MC X yX7_triedOf cX7_triedOf 2 (some .int) 2 [.inr (.inl (7, 0)), .inl v1] (some (.inl rr)) g gr := by
  refine MC.mk (own := RX7) (L := [some (.inr (.inl (7, 0))), some (.inl v1)]) (by decide) rfl trivial (Nat.le_of_ble_eq_true rfl) rfl ?_
  intro p l e s m args below meth c C hr
  unfold X7_triedOf at hM
  refine v_iload_n C 1 dX7_triedOf_0 rfl rfl ?_
  by_cases hx0 : v1 = (nI 0)
  · rw [if_pos hx0] at hM
    refine v_tblIn C 36 0 dX7_triedOf_1 (by rw [hx0]; rfl) (by decide) (by decide) rfl rfl ?_
    refine v_aload_n C 0 dX7_triedOf_36 rfl rfl ?_
    refine gf_RX7_53 C hX dX7_triedOf_37 ?_
    refine v_iconst C (nI 0) dX7_triedOf_40 zk_0 ?_
    refine ia_43 C hX dX7_triedOf_41 hM (fun hM _ => ?_)
    exact v_iret2 C hr dX7_triedOf_42 hM
  rw [if_neg hx0] at hM
  by_cases hx1 : v1 = (nI 1)
  · rw [if_pos hx1] at hM
    refine v_tblIn C 43 1 dX7_triedOf_1 (by rw [hx1]; rfl) (by decide) (by decide) rfl rfl ?_
    refine v_aload_n C 0 dX7_triedOf_43 rfl rfl ?_
    refine v_iconst C (nI 0) dX7_triedOf_44 zk_0 ?_
    obtain ⟨x1, g2, e3, hM⟩ := zc_elim hM
    refine v_callVi (ci := 7) (rest := []) C (c_X7_countAll hX  e3) mw_X7_countAll mi_X7_countAll ml_RX7_359 hX.symm zm7 rfl rfl ⟨by decide, Nat.le_of_ble_eq_true rfl⟩ rfl (Nat.le_of_ble_eq_true rfl) dX7_triedOf_45 rfl ?_
    exact v_iret2 C hr dX7_triedOf_48 hM
  rw [if_neg hx1] at hM
  by_cases hx2 : v1 = (nI 2)
  · rw [if_pos hx2] at hM
    refine v_tblIn C 49 2 dX7_triedOf_1 (by rw [hx2]; rfl) (by decide) (by decide) rfl rfl ?_
    refine v_aload_n C 0 dX7_triedOf_49 rfl rfl ?_
    refine v_iconst C (nI 1) dX7_triedOf_50 zk_1 ?_
    obtain ⟨x4, g5, e6, hM⟩ := zc_elim hM
    refine v_callVi (ci := 7) (rest := []) C (c_X7_countAll hX  e6) mw_X7_countAll mi_X7_countAll ml_RX7_359 hX.symm zm7 rfl rfl ⟨by decide, Nat.le_of_ble_eq_true rfl⟩ rfl (Nat.le_of_ble_eq_true rfl) dX7_triedOf_51 rfl ?_
    exact v_iret2 C hr dX7_triedOf_54 hM
  rw [if_neg hx2] at hM
  by_cases hx3 : v1 = (nI 3)
  · rw [if_pos hx3] at hM
    refine v_tblIn C 55 3 dX7_triedOf_1 (by rw [hx3]; rfl) (by decide) (by decide) rfl rfl ?_
    refine v_aload_n C 0 dX7_triedOf_55 rfl rfl ?_
    refine v_iconst C (nI 3) dX7_triedOf_56 zk_3 ?_
    obtain ⟨x7, g8, e9, hM⟩ := zc_elim hM
    refine v_callVi (ci := 7) (rest := []) C (c_X7_countAll hX  e9) mw_X7_countAll mi_X7_countAll ml_RX7_359 hX.symm zm7 rfl rfl ⟨by decide, Nat.le_of_ble_eq_true rfl⟩ rfl (Nat.le_of_ble_eq_true rfl) dX7_triedOf_57 rfl ?_
    exact v_iret2 C hr dX7_triedOf_60 hM
  rw [if_neg hx3] at hM
  by_cases hx4 : v1 = (nI 4)
  · rw [if_pos hx4] at hM
    refine v_tblIn C 61 4 dX7_triedOf_1 (by rw [hx4]; rfl) (by decide) (by decide) rfl rfl ?_
    refine v_aload_n C 0 dX7_triedOf_61 rfl rfl ?_
    refine v_iconst C (nI 5) dX7_triedOf_62 zk_5 ?_
    obtain ⟨x10, g11, e12, hM⟩ := zc_elim hM
    refine v_callVi (ci := 7) (rest := []) C (c_X7_countAll hX  e12) mw_X7_countAll mi_X7_countAll ml_RX7_359 hX.symm zm7 rfl rfl ⟨by decide, Nat.le_of_ble_eq_true rfl⟩ rfl (Nat.le_of_ble_eq_true rfl) dX7_triedOf_63 rfl ?_
    exact v_iret2 C hr dX7_triedOf_66 hM
  rw [if_neg hx4] at hM
  refine v_tblOut C 67 dX7_triedOf_1 (ztbl 5 rfl (by intro k hk; match k, hk with | 0, _ => exact hx0 | 1, _ => exact hx1 | 2, _ => exact hx2 | 3, _ => exact hx3 | 4, _ => exact hx4 | k + 5, hk => omega)) rfl ?_
  refine v_aload_n C 0 dX7_triedOf_67 rfl rfl ?_
  refine v_bipush C (nI 6) dX7_triedOf_68 zkb_6 ?_
  obtain ⟨x13, g14, e15, hM⟩ := zc_elim hM
  refine v_callVi (ci := 7) (rest := []) C (c_X7_countAll hX  e15) mw_X7_countAll mi_X7_countAll ml_RX7_359 hX.symm zm7 rfl rfl ⟨by decide, Nat.le_of_ble_eq_true rfl⟩ rfl (Nat.le_of_ble_eq_true rfl) dX7_triedOf_70 rfl ?_
  exact v_iret2 C hr dX7_triedOf_73 hM

theorem t_X7_triedAll_b25 {s0 : Int32}  {g : zG} (hX : zfl X = true) (C : Cx X p (zrm 9) s m args meth c cX7_triedAll 6 RX7 0 0) (hr : meth.sig.returnType = (some .int))   (hM : X7_triedAll_b25  s0 g = some (rr, gr)) : V X p l e (zrm 9) s m args below meth c 6 0 0 (MQ below (zQ X (Option.map (zM X) (some (.inl rr))) gr) args s 0 0 (zF X)) g 25 [some (.inr (.inl (7, 0))), none, none, none, none, none] [(.inl s0)] := by
  unfold X7_triedAll_b25 at hM
  refine v_istore (L' := [some (.inr (.inl (7, 0))), none, none, none, none, some (.inl s0)]) C 5 dX7_triedAll_25 (by decide) rfl ?_
  refine v_aload_n C 0 dX7_triedAll_27 rfl rfl ?_
  obtain ⟨x1, g2, e3, hM⟩ := zc_elim hM
  refine v_callVv (ci := 7) (rest := []) C (c_X7_takesBack hX  e3) mw_X7_takesBack mi_X7_takesBack ml_RX7_341 hX.symm zm7 rfl rfl ⟨by decide, Nat.le_of_ble_eq_true rfl⟩ rfl (Nat.le_of_ble_eq_true rfl) dX7_triedAll_28 rfl ?_
  refine v_iload C 5 dX7_triedAll_31 rfl ?_
  exact v_iret2 C hr dX7_triedAll_33 hM

theorem c_X7_triedAll {X : zX} (hX : zfl X = true) {v1 : Int32} {v2 : Int32} {v3 : Int32} {v4 : Int32} {g gr : zG} {rr : Int32}  (hM : X7_triedAll v1 v2 v3 v4 g = some (rr, gr)) : MC X yX7_triedAll cX7_triedAll 6 (some .int) 9 [.inr (.inl (7, 0)), .inl v1, .inl v2, .inl v3, .inl v4] (some (.inl rr)) g gr := by
  refine MC.mk (own := RX7) (L := [some (.inr (.inl (7, 0))), some (.inl v1), some (.inl v2), some (.inl v3), some (.inl v4), none]) (by decide) rfl trivial (Nat.le_of_ble_eq_true rfl) rfl ?_
  intro p l e s m args below meth c C hr
  unfold X7_triedAll at hM
  refine v_aload_n C 0 dX7_triedAll_0 rfl rfl ?_
  refine v_iload_n C 1 dX7_triedAll_1 rfl rfl ?_
  refine v_iload_n C 2 dX7_triedAll_2 rfl rfl ?_
  refine v_iload_n C 3 dX7_triedAll_3 rfl rfl ?_
  obtain ⟨x1, g2, e3, hM⟩ := zc_elim hM
  refine v_callVv (ci := 7) (rest := []) C (c_X7_tries hX  e3) mw_X7_tries mi_X7_tries ml_RX7_362 hX.symm zm7 rfl rfl ⟨by decide, Nat.le_of_ble_eq_true rfl⟩ rfl (Nat.le_of_ble_eq_true rfl) dX7_triedAll_4 rfl ?_
  refine v_aload_n C 0 dX7_triedAll_7 rfl rfl ?_
  obtain ⟨x4, g5, e6, hM⟩ := zc_elim hM
  refine v_callVi (ci := 7) (rest := []) C (c_X7_isAnyLeft hX  e6) mw_X7_isAnyLeft mi_X7_isAnyLeft ml_RX7_355 hX.symm zm7 rfl rfl ⟨by decide, Nat.le_of_ble_eq_true rfl⟩ rfl (Nat.le_of_ble_eq_true rfl) dX7_triedAll_8 rfl ?_
  refine v_if_eq C 19 dX7_triedAll_11 rfl hM (fun hM => ?_) (fun hM => ?_)
  · refine v_aload_n C 0 dX7_triedAll_19 rfl rfl ?_
    refine v_iload C 4 dX7_triedAll_20 rfl ?_
    obtain ⟨x7, g8, e9, hM⟩ := zc_elim hM
    refine v_callVi (ci := 7) (rest := []) C (c_X7_triedOf hX  e9) mw_X7_triedOf mi_X7_triedOf ml_RX7_365 hX.symm zm7 rfl rfl ⟨by decide, Nat.le_of_ble_eq_true rfl⟩ rfl (Nat.le_of_ble_eq_true rfl) dX7_triedAll_22 rfl ?_
    exact v_weak (t_X7_triedAll_b25 hX C hr   hM) (show zsub [some (.inr (.inl (7, 0))), none, none, none, none, none] [some (.inr (.inl (7, 0))), some (.inl v1), some (.inl v2), some (.inl v3), some (.inl v4), none] from ⟨rfl, trivial⟩)
  · refine v_bipush C (-2) dX7_triedAll_14 zkb_m2 ?_
    refine v_goto C 25 dX7_triedAll_16 rfl ?_
    exact v_weak (t_X7_triedAll_b25 hX C hr   hM) (show zsub [some (.inr (.inl (7, 0))), none, none, none, none, none] [some (.inr (.inl (7, 0))), some (.inl v1), some (.inl v2), some (.inl v3), some (.inl v4), none] from ⟨rfl, trivial⟩)

theorem c_X7_tried {X : zX} (hX : zfl X = true) {v1 : Int32} {v2 : Int32} {v3 : Int32} {v4 : Int32} {g gr : zG} {rr : Int32}  (hM : X7_tried v1 v2 v3 v4 g = some (rr, gr)) : MC X yX7_tried cX7_tried 6 (some .int) 10 [.inr (.inl (7, 0)), .inl v1, .inl v2, .inl v3, .inl v4] (some (.inl rr)) g gr := by
  refine MC.mk (own := RX7) (L := [some (.inr (.inl (7, 0))), some (.inl v1), some (.inl v2), some (.inl v3), some (.inl v4), none]) (by decide) rfl trivial (Nat.le_of_ble_eq_true rfl) rfl ?_
  intro p l e s m args below meth c C hr
  unfold X7_tried at hM
  refine v_aload_n C 0 dX7_tried_0 rfl rfl ?_
  obtain ⟨x1, g2, e3, hM⟩ := zc_elim hM
  refine v_callVv (ci := 7) (rest := []) C (c_X7_anew hX  e3) mw_X7_anew mi_X7_anew ml_RX7_211 hX.symm zm7 rfl rfl ⟨by decide, Nat.le_of_ble_eq_true rfl⟩ rfl (Nat.le_of_ble_eq_true rfl) dX7_tried_1 rfl ?_
  refine v_aload_n C 0 dX7_tried_4 rfl rfl ?_
  refine v_iload C 4 dX7_tried_5 rfl ?_
  refine v_iconst C (nI 0) dX7_tried_7 zk_0 ?_
  refine v_iconst C (nI 5) dX7_tried_8 zk_5 ?_
  obtain ⟨x4, g5, e6, hM⟩ := zc_elim hM
  refine v_callSi (rest := [(.inr (.inl (7, 0)))]) C (c_X7_in hX  e6) mw_X7_in ms_X7_in ml_RX7_94 ⟨by decide, Nat.le_of_ble_eq_true rfl⟩ rfl (Nat.le_of_ble_eq_true rfl) dX7_tried_9 rfl ?_
  refine v_iload_n C 1 dX7_tried_12 rfl rfl ?_
  refine v_iload_n C 2 dX7_tried_13 rfl rfl ?_
  refine v_iload_n C 3 dX7_tried_14 rfl rfl ?_
  obtain ⟨x7, g8, e9, hM⟩ := zc_elim hM
  refine v_callVi (ci := 7) (rest := []) C (c_X7_triedWhy hX  e9) mw_X7_triedWhy mi_X7_triedWhy ml_RX7_368 hX.symm zm7 rfl rfl ⟨by decide, Nat.le_of_ble_eq_true rfl⟩ rfl (Nat.le_of_ble_eq_true rfl) dX7_tried_15 rfl ?_
  refine v_istore (L' := [some (.inr (.inl (7, 0))), some (.inl v1), some (.inl v2), some (.inl v3), some (.inl v4), some (.inl x7)]) C 5 dX7_tried_18 (by decide) rfl ?_
  refine v_iload C 5 dX7_tried_20 rfl ?_
  refine v_if_eq C 34 dX7_tried_22 rfl hM (fun hM => ?_) (fun hM => ?_)
  · refine v_aload_n C 0 dX7_tried_34 rfl rfl ?_
    refine v_iload_n C 1 dX7_tried_35 rfl rfl ?_
    refine v_iload_n C 2 dX7_tried_36 rfl rfl ?_
    refine v_iload_n C 3 dX7_tried_37 rfl rfl ?_
    refine v_iload C 4 dX7_tried_38 rfl ?_
    obtain ⟨x10, g11, e12, hM⟩ := zc_elim hM
    refine v_callVi (ci := 7) (rest := []) C (c_X7_triedAll hX  e12) mw_X7_triedAll mi_X7_triedAll ml_RX7_372 hX.symm zm7 rfl rfl ⟨by decide, Nat.le_of_ble_eq_true rfl⟩ rfl (Nat.le_of_ble_eq_true rfl) dX7_tried_40 rfl ?_
    exact v_iret2 C hr dX7_tried_43 hM
  · refine v_aload_n C 0 dX7_tried_25 rfl rfl ?_
    refine v_iload C 5 dX7_tried_26 rfl ?_
    obtain ⟨x13, g14, e15, hM⟩ := zc_elim hM
    refine v_callVi (ci := 7) (rest := []) C (c_X7_no hX  e15) mw_X7_no mi_X7_no ml_RX7_214 hX.symm zm7 rfl rfl ⟨by decide, Nat.le_of_ble_eq_true rfl⟩ rfl (Nat.le_of_ble_eq_true rfl) dX7_tried_28 rfl ?_
    refine v_goto C 43 dX7_tried_31 rfl ?_
    exact v_iret2 C hr dX7_tried_43 hM

theorem c_X7_triedWord {X : zX} (hX : zfl X = true) {v1 : Int32} {v2 : Int32} {v3 : Int32} {v4 : Int32} {g gr : zG} {rr : Int32}  (hM : X7_triedWord v1 v2 v3 v4 g = some (rr, gr)) : MC X yX7_triedWord cX7_triedWord 7 (some .int) 9 [.inr (.inl (7, 0)), .inl v1, .inl v2, .inl v3, .inl v4] (some (.inl rr)) g gr := by
  refine MC.mk (own := RX7) (L := [some (.inr (.inl (7, 0))), some (.inl v1), some (.inl v2), some (.inl v3), some (.inl v4), none, none]) (by decide) rfl trivial (Nat.le_of_ble_eq_true rfl) rfl ?_
  intro p l e s m args below meth c C hr
  unfold X7_triedWord at hM
  refine v_aload_n C 0 dX7_triedWord_0 rfl rfl ?_
  obtain ⟨x1, g2, e3, hM⟩ := zc_elim hM
  refine v_callVv (ci := 7) (rest := []) C (c_X7_anew hX  e3) mw_X7_anew mi_X7_anew ml_RX7_211 hX.symm zm7 rfl rfl ⟨by decide, Nat.le_of_ble_eq_true rfl⟩ rfl (Nat.le_of_ble_eq_true rfl) dX7_triedWord_1 rfl ?_
  refine v_aload_n C 0 dX7_triedWord_4 rfl rfl ?_
  refine v_aload_n C 0 dX7_triedWord_5 rfl rfl ?_
  refine v_iload C 4 dX7_triedWord_6 rfl ?_
  obtain ⟨x4, g5, e6, hM⟩ := zc_elim hM
  refine v_callVi (ci := 7) (rest := [(.inr (.inl (7, 0)))]) C (c_X7_isAddress hX  e6) mw_X7_isAddress mi_X7_isAddress ml_RX7_311 hX.symm zm7 rfl rfl ⟨by decide, Nat.le_of_ble_eq_true rfl⟩ rfl (Nat.le_of_ble_eq_true rfl) dX7_triedWord_8 rfl ?_
  refine v_iload_n C 1 dX7_triedWord_11 rfl rfl ?_
  refine v_iload_n C 2 dX7_triedWord_12 rfl rfl ?_
  refine v_iload_n C 3 dX7_triedWord_13 rfl rfl ?_
  obtain ⟨x7, g8, e9, hM⟩ := zc_elim hM
  refine v_callVi (ci := 7) (rest := []) C (c_X7_triedWhy hX  e9) mw_X7_triedWhy mi_X7_triedWhy ml_RX7_368 hX.symm zm7 rfl rfl ⟨by decide, Nat.le_of_ble_eq_true rfl⟩ rfl (Nat.le_of_ble_eq_true rfl) dX7_triedWord_14 rfl ?_
  refine v_istore (L' := [some (.inr (.inl (7, 0))), some (.inl v1), some (.inl v2), some (.inl v3), some (.inl v4), some (.inl x7), none]) C 5 dX7_triedWord_17 (by decide) rfl ?_
  refine v_iload C 5 dX7_triedWord_19 rfl ?_
  refine v_if_eq C 31 dX7_triedWord_21 rfl hM (fun hM => ?_) (fun hM => ?_)
  · refine v_aload_n C 0 dX7_triedWord_31 rfl rfl ?_
    refine v_iload_n C 1 dX7_triedWord_32 rfl rfl ?_
    refine v_iload_n C 2 dX7_triedWord_33 rfl rfl ?_
    refine v_iload_n C 3 dX7_triedWord_34 rfl rfl ?_
    obtain ⟨x10, g11, e12, hM⟩ := zc_elim hM
    refine v_callVv (ci := 7) (rest := []) C (c_X7_tries hX  e12) mw_X7_tries mi_X7_tries ml_RX7_362 hX.symm zm7 rfl rfl ⟨by decide, Nat.le_of_ble_eq_true rfl⟩ rfl (Nat.le_of_ble_eq_true rfl) dX7_triedWord_35 rfl ?_
    refine v_aload_n C 0 dX7_triedWord_38 rfl rfl ?_
    refine v_iload C 4 dX7_triedWord_39 rfl ?_
    obtain ⟨x13, g14, e15, hM⟩ := zc_elim hM
    refine v_callVi (ci := 7) (rest := []) C (c_X7_wordNow hX  e15) mw_X7_wordNow mi_X7_wordNow ml_RX7_314 hX.symm zm7 rfl rfl ⟨by decide, Nat.le_of_ble_eq_true rfl⟩ rfl (Nat.le_of_ble_eq_true rfl) dX7_triedWord_41 rfl ?_
    refine v_istore (L' := [some (.inr (.inl (7, 0))), some (.inl v1), some (.inl v2), some (.inl v3), some (.inl v4), some (.inl x7), some (.inl x13)]) C 6 dX7_triedWord_44 (by decide) rfl ?_
    refine v_aload_n C 0 dX7_triedWord_46 rfl rfl ?_
    obtain ⟨x16, g17, e18, hM⟩ := zc_elim hM
    refine v_callVv (ci := 7) (rest := []) C (c_X7_takesBack hX  e18) mw_X7_takesBack mi_X7_takesBack ml_RX7_341 hX.symm zm7 rfl rfl ⟨by decide, Nat.le_of_ble_eq_true rfl⟩ rfl (Nat.le_of_ble_eq_true rfl) dX7_triedWord_47 rfl ?_
    refine v_iload C 6 dX7_triedWord_50 rfl ?_
    exact v_iret2 C hr dX7_triedWord_52 hM
  · refine v_aload_n C 0 dX7_triedWord_24 rfl rfl ?_
    refine v_iload C 5 dX7_triedWord_25 rfl ?_
    obtain ⟨x19, g20, e21, hM⟩ := zc_elim hM
    refine v_callVi (ci := 7) (rest := []) C (c_X7_no hX  e21) mw_X7_no mi_X7_no ml_RX7_214 hX.symm zm7 rfl rfl ⟨by decide, Nat.le_of_ble_eq_true rfl⟩ rfl (Nat.le_of_ble_eq_true rfl) dX7_triedWord_27 rfl ?_
    exact v_iret2 C hr dX7_triedWord_30 hM

theorem t_X7_best_b85 {v1 : Int32} {v2 : Int32} {v3 : Int32} {v4 : Int32} {k38 : Int32 → Int32 → Int32 → Int32 → zG → Option (Int32 × zG)} {g : zG} (hX : zfl X = true) (C : Cx X p (zrm 10) s m args meth c cX7_best 6 RX7 0 0) (hr : meth.sig.returnType = (some .int))  (hk38 : ∀ (v1 : Int32) (v2 : Int32) (v3 : Int32) (v4 : Int32) (g : zG),  k38 v1 v2 v3 v4 g = some (rr, gr) → V X p l e (zrm 10) s m args below meth c 6 0 0 (MQ below (zQ X (Option.map (zM X) (some (.inl rr))) gr) args s 0 0 (zF X)) g 38 [some (.inr (.inl (7, 0))), some (.inl v1), some (.inl v2), some (.inl v3), some (.inl v4), none] []) (hM : X7_best_b85 k38 v1 v2 v3 v4 g = some (rr, gr)) : V X p l e (zrm 10) s m args below meth c 6 0 0 (MQ below (zQ X (Option.map (zM X) (some (.inl rr))) gr) args s 0 0 (zF X)) g 85 [some (.inr (.inl (7, 0))), some (.inl v1), some (.inl v2), some (.inl v3), some (.inl v4), none] [] := by
  unfold X7_best_b85 at hM
  refine v_iinc (L' := [some (.inr (.inl (7, 0))), some (.inl v1), some (.inl v2), some (.inl v3), some (.inl (v4 + (nI 1))), none]) C 4 (nI 1) dX7_best_85 zk_1 (by decide) rfl rfl ?_
  refine v_goto C 38 dX7_best_88 rfl ?_
  exact hk38 v1 v2 v3 (v4 + (nI 1)) g  hM

theorem t_X7_best_b79 {v1 : Int32} {v4 : Int32} {v5 : Int32} {k38 : Int32 → Int32 → Int32 → Int32 → zG → Option (Int32 × zG)} {g : zG} (hX : zfl X = true) (C : Cx X p (zrm 10) s m args meth c cX7_best 6 RX7 0 0) (hr : meth.sig.returnType = (some .int))  (hk38 : ∀ (v1 : Int32) (v2 : Int32) (v3 : Int32) (v4 : Int32) (g : zG),  k38 v1 v2 v3 v4 g = some (rr, gr) → V X p l e (zrm 10) s m args below meth c 6 0 0 (MQ below (zQ X (Option.map (zM X) (some (.inl rr))) gr) args s 0 0 (zF X)) g 38 [some (.inr (.inl (7, 0))), some (.inl v1), some (.inl v2), some (.inl v3), some (.inl v4), none] []) (hM : X7_best_b79 k38 v1 v4 v5 g = some (rr, gr)) : V X p l e (zrm 10) s m args below meth c 6 0 0 (MQ below (zQ X (Option.map (zM X) (some (.inl rr))) gr) args s 0 0 (zF X)) g 79 [some (.inr (.inl (7, 0))), some (.inl v1), none, none, some (.inl v4), some (.inl v5)] [] := by
  unfold X7_best_b79 at hM
  refine v_iload C 4 dX7_best_79 rfl ?_
  refine v_istore_n (L' := [some (.inr (.inl (7, 0))), some (.inl v1), some (.inl v4), none, some (.inl v4), some (.inl v5)]) C 2 dX7_best_81 rfl (by decide) rfl ?_
  refine v_iload C 5 dX7_best_82 rfl ?_
  refine v_istore_n (L' := [some (.inr (.inl (7, 0))), some (.inl v1), some (.inl v4), some (.inl v5), some (.inl v4), some (.inl v5)]) C 3 dX7_best_84 rfl (by decide) rfl ?_
  exact v_weak (t_X7_best_b85 hX C hr  hk38 hM) (show zsub [some (.inr (.inl (7, 0))), some (.inl v1), some (.inl v4), some (.inl v5), some (.inl v4), none] [some (.inr (.inl (7, 0))), some (.inl v1), some (.inl v4), some (.inl v5), some (.inl v4), some (.inl v5)] from ⟨rfl, ⟨rfl, ⟨rfl, ⟨rfl, ⟨rfl, trivial⟩⟩⟩⟩⟩)

theorem t_X7_best_l38  (hX : zfl X = true) (C : Cx X p (zrm 10) s m args meth c cX7_best 6 RX7 0 0) (hr : meth.sig.returnType = (some .int))  : ∀ (n : Nat) {v1 : Int32} {v2 : Int32} {v3 : Int32} {v4 : Int32} (g : zG), X7_best_l38  n v1 v2 v3 v4 g = some (rr, gr) → V X p l e (zrm 10) s m args below meth c 6 0 0 (MQ below (zQ X (Option.map (zM X) (some (.inl rr))) gr) args s 0 0 (zF X)) g 38 [some (.inr (.inl (7, 0))), some (.inl v1), some (.inl v2), some (.inl v3), some (.inl v4), none] [] := by
  intro n
  induction n with
  | zero =>
    intro v1 v2 v3 v4 g  hM
    exact absurd (show (none : Option (Int32 × zG)) = some (rr, gr) from hM) (by simp)
  | succ n ih =>
    intro v1 v2 v3 v4 g  hM
    rw [X7_best_l38.eq_2] at hM
    refine v_iload C 4 dX7_best_38 rfl ?_
    refine v_iconst C (nI 3) dX7_best_40 zk_3 ?_
    refine v_icmp_ge C 91 dX7_best_41 rfl hM (fun hM => ?_) (fun hM => ?_)
    · refine v_iload_n C 2 dX7_best_91 rfl rfl ?_
      exact v_iret2 C hr dX7_best_92 hM
    · refine v_aload_n C 0 dX7_best_44 rfl rfl ?_
      refine v_iload C 4 dX7_best_45 rfl ?_
      refine v_aload_n C 0 dX7_best_47 rfl rfl ?_
      refine gf_RX7_17 C hX dX7_best_48 ?_
      refine v_iconst C (nI 4) dX7_best_51 zk_4 ?_
      refine ia_31 C hX dX7_best_52 hM (fun hM _ => ?_)
      refine v_iload_n C 1 dX7_best_53 rfl rfl ?_
      refine v_iconst C (nI 0) dX7_best_54 zk_0 ?_
      obtain ⟨x1, g2, e3, hM⟩ := zc_elim hM
      refine v_callVi (ci := 7) (rest := []) C (c_X7_triedAll hX  e3) mw_X7_triedAll mi_X7_triedAll ml_RX7_372 hX.symm zm7 rfl rfl ⟨by decide, Nat.le_of_ble_eq_true rfl⟩ rfl (Nat.le_of_ble_eq_true rfl) dX7_best_55 rfl ?_
      refine v_istore (L' := [some (.inr (.inl (7, 0))), some (.inl v1), some (.inl v2), some (.inl v3), some (.inl v4), some (.inl x1)]) C 5 dX7_best_58 (by decide) rfl ?_
      refine v_iload C 5 dX7_best_60 rfl ?_
      refine v_bipush C (-2) dX7_best_62 zkb_m2 ?_
      refine v_icmp_eq C 85 dX7_best_64 rfl hM (fun hM => ?_) (fun hM => ?_)
      · exact v_weak (t_X7_best_b85 hX C hr  (fun v1 v2 v3 v4 g  hM => ih g  hM) hM) (show zsub [some (.inr (.inl (7, 0))), some (.inl v1), some (.inl v2), some (.inl v3), some (.inl v4), none] [some (.inr (.inl (7, 0))), some (.inl v1), some (.inl v2), some (.inl v3), some (.inl v4), some (.inl x1)] from ⟨rfl, ⟨rfl, ⟨rfl, ⟨rfl, ⟨rfl, trivial⟩⟩⟩⟩⟩)
      · refine v_iload_n C 2 dX7_best_67 rfl rfl ?_
        refine v_bipush C (-2) dX7_best_68 zkb_m2 ?_
        refine v_icmp_eq C 79 dX7_best_70 rfl hM (fun hM => ?_) (fun hM => ?_)
        · exact v_weak (t_X7_best_b79 hX C hr  (fun v1 v2 v3 v4 g  hM => ih g  hM) hM) (show zsub [some (.inr (.inl (7, 0))), some (.inl v1), none, none, some (.inl v4), some (.inl x1)] [some (.inr (.inl (7, 0))), some (.inl v1), some (.inl v2), some (.inl v3), some (.inl v4), some (.inl x1)] from ⟨rfl, ⟨rfl, ⟨rfl, ⟨rfl, trivial⟩⟩⟩⟩)
        · refine v_iload C 5 dX7_best_73 rfl ?_
          refine v_iload_n C 3 dX7_best_75 rfl rfl ?_
          refine v_icmp_ge C 85 dX7_best_76 rfl hM (fun hM => ?_) (fun hM => ?_)
          · exact v_weak (t_X7_best_b85 hX C hr  (fun v1 v2 v3 v4 g  hM => ih g  hM) hM) (show zsub [some (.inr (.inl (7, 0))), some (.inl v1), some (.inl v2), some (.inl v3), some (.inl v4), none] [some (.inr (.inl (7, 0))), some (.inl v1), some (.inl v2), some (.inl v3), some (.inl v4), some (.inl x1)] from ⟨rfl, ⟨rfl, ⟨rfl, ⟨rfl, ⟨rfl, trivial⟩⟩⟩⟩⟩)
          · exact v_weak (t_X7_best_b79 hX C hr  (fun v1 v2 v3 v4 g  hM => ih g  hM) hM) (show zsub [some (.inr (.inl (7, 0))), some (.inl v1), none, none, some (.inl v4), some (.inl x1)] [some (.inr (.inl (7, 0))), some (.inl v1), some (.inl v2), some (.inl v3), some (.inl v4), some (.inl x1)] from ⟨rfl, ⟨rfl, ⟨rfl, ⟨rfl, trivial⟩⟩⟩⟩)

theorem c_X7_best {X : zX} (hX : zfl X = true) {v1 : Int32} {g gr : zG} {rr : Int32}  (hM : X7_best v1 g = some (rr, gr)) : MC X yX7_best cX7_best 6 (some .int) 10 [.inr (.inl (7, 0)), .inl v1] (some (.inl rr)) g gr := by
  refine MC.mk (own := RX7) (L := [some (.inr (.inl (7, 0))), some (.inl v1), none, none, none, none]) (by decide) rfl trivial (Nat.le_of_ble_eq_true rfl) rfl ?_
  intro p l e s m args below meth c C hr
  unfold X7_best at hM
  refine v_aload_n C 0 dX7_best_0 rfl rfl ?_
  obtain ⟨x1, g2, e3, hM⟩ := zc_elim hM
  refine v_callVv (ci := 7) (rest := []) C (c_X7_anew hX  e3) mw_X7_anew mi_X7_anew ml_RX7_211 hX.symm zm7 rfl rfl ⟨by decide, Nat.le_of_ble_eq_true rfl⟩ rfl (Nat.le_of_ble_eq_true rfl) dX7_best_1 rfl ?_
  refine v_aload_n C 0 dX7_best_4 rfl rfl ?_
  refine gf_RX7_226 C hX dX7_best_5 ?_
  refine v_if_ne C 17 dX7_best_8 rfl hM (fun hM => ?_) (fun hM => ?_)
  · refine v_iload_n C 1 dX7_best_17 rfl rfl ?_
    obtain ⟨x4, g5, e6, hM⟩ := zc_elim hM
    refine v_callSi (rest := []) C (c_X7_isSeed hX  e6) mw_X7_isSeed ms_X7_isSeed ml_RX7_349 ⟨by decide, Nat.le_of_ble_eq_true rfl⟩ rfl (Nat.le_of_ble_eq_true rfl) dX7_best_18 rfl ?_
    refine v_if_ne C 30 dX7_best_21 rfl hM (fun hM => ?_) (fun hM => ?_)
    · refine v_bipush C (-2) dX7_best_30 zkb_m2 ?_
      refine v_istore_n (L' := [some (.inr (.inl (7, 0))), some (.inl v1), some (.inl (-2)), none, none, none]) C 2 dX7_best_32 rfl (by decide) rfl ?_
      refine v_iconst C (nI 0) dX7_best_33 zk_0 ?_
      refine v_istore_n (L' := [some (.inr (.inl (7, 0))), some (.inl v1), some (.inl (-2)), some (.inl (nI 0)), none, none]) C 3 dX7_best_34 rfl (by decide) rfl ?_
      refine v_iconst C (nI 0) dX7_best_35 zk_0 ?_
      refine v_istore (L' := [some (.inr (.inl (7, 0))), some (.inl v1), some (.inl (-2)), some (.inl (nI 0)), some (.inl (nI 0)), none]) C 4 dX7_best_36 (by decide) rfl ?_
      exact t_X7_best_l38 hX C hr  _ g5  hM
    · refine v_aload_n C 0 dX7_best_24 rfl rfl ?_
      refine v_iconst C (nI 2) dX7_best_25 zk_2 ?_
      obtain ⟨x7, g8, e9, hM⟩ := zc_elim hM
      refine v_callVi (ci := 7) (rest := []) C (c_X7_no hX  e9) mw_X7_no mi_X7_no ml_RX7_214 hX.symm zm7 rfl rfl ⟨by decide, Nat.le_of_ble_eq_true rfl⟩ rfl (Nat.le_of_ble_eq_true rfl) dX7_best_26 rfl ?_
      exact v_iret2 C hr dX7_best_29 hM
  · refine v_aload_n C 0 dX7_best_11 rfl rfl ?_
    refine v_iconst C (nI 1) dX7_best_12 zk_1 ?_
    obtain ⟨x10, g11, e12, hM⟩ := zc_elim hM
    refine v_callVi (ci := 7) (rest := []) C (c_X7_no hX  e12) mw_X7_no mi_X7_no ml_RX7_214 hX.symm zm7 rfl rfl ⟨by decide, Nat.le_of_ble_eq_true rfl⟩ rfl (Nat.le_of_ble_eq_true rfl) dX7_best_13 rfl ?_
    exact v_iret2 C hr dX7_best_16 hM

theorem t_X7_isEnough_l9  (hX : zfl X = true) (C : Cx X p (zrm 8) s m args meth c cX7_isEnough 3 RX7 0 0) (hr : meth.sig.returnType = (some .boolean))  : ∀ (n : Nat) {v1 : Int32} (g : zG), X7_isEnough_l9  n v1 g = some (rr, gr) → V X p l e (zrm 8) s m args below meth c 3 0 0 (MQ below (zQ X (Option.map (zM X) (some (.inl rr))) gr) args s 0 0 (zF X)) g 9 [some (.inr (.inl (7, 0))), some (.inl v1), none] [] := by
  intro n
  induction n with
  | zero =>
    intro v1 g  hM
    exact absurd (show (none : Option (Int32 × zG)) = some (rr, gr) from hM) (by simp)
  | succ n ih =>
    intro v1 g  hM
    rw [X7_isEnough_l9.eq_2] at hM
    refine v_aload_n C 0 dX7_isEnough_9 rfl rfl ?_
    refine v_iload_n C 1 dX7_isEnough_10 rfl rfl ?_
    obtain ⟨x1, g2, e3, hM⟩ := zc_elim hM
    refine v_callVi (ci := 7) (rest := []) C (c_X7_hasLeft hX  e3) mw_X7_hasLeft mi_X7_hasLeft ml_RX7_301 hX.symm zm7 rfl rfl ⟨by decide, Nat.le_of_ble_eq_true rfl⟩ rfl (Nat.le_of_ble_eq_true rfl) dX7_isEnough_11 rfl ?_
    refine v_if_eq C 26 dX7_isEnough_14 rfl hM (fun hM => ?_) (fun hM => ?_)
    · refine v_aload_n C 0 dX7_isEnough_26 rfl rfl ?_
      refine gf_RX7_53 C hX dX7_isEnough_27 ?_
      refine v_iload_n C 1 dX7_isEnough_30 rfl rfl ?_
      refine v_bipush C (nI 8) dX7_isEnough_31 zkb_8 ?_
      obtain ⟨x4, g5, e6, hM⟩ := zc_elim hM
      refine v_callSi (rest := [(.inr (.inl (43, 0)))]) C (c_X7_coreAt hX  e6) mw_X7_coreAt ms_X7_coreAt ml_RX7_244 ⟨by decide, Nat.le_of_ble_eq_true rfl⟩ rfl (Nat.le_of_ble_eq_true rfl) dX7_isEnough_33 rfl ?_
      refine ia_43 C hX dX7_isEnough_36 hM (fun hM _ => ?_)
      refine v_if_ne C 44 dX7_isEnough_37 rfl hM (fun hM => ?_) (fun hM => ?_)
      · refine v_iconst C (nI 0) dX7_isEnough_44 zk_0 ?_
        exact v_zret2 C hr (zbo_n (Or.inl rfl)) dX7_isEnough_45 hM
      · refine v_iconst C (nI 1) dX7_isEnough_40 zk_1 ?_
        refine v_goto C 45 dX7_isEnough_41 rfl ?_
        exact v_zret2 C hr (zbo_n (Or.inr rfl)) dX7_isEnough_45 hM
    · refine v_aload_n C 0 dX7_isEnough_17 rfl rfl ?_
      refine v_iload_n C 1 dX7_isEnough_18 rfl rfl ?_
      obtain ⟨x7, g8, e9, hM⟩ := zc_elim hM
      refine v_callVi (ci := 7) (rest := []) C (c_X7_steps hX  e9) mw_X7_steps mi_X7_steps ml_RX7_338 hX.symm zm7 rfl rfl ⟨by decide, Nat.le_of_ble_eq_true rfl⟩ rfl (Nat.le_of_ble_eq_true rfl) dX7_isEnough_19 rfl ?_
      refine v_pop C dX7_isEnough_22 ?_
      refine v_goto C 9 dX7_isEnough_23 rfl ?_
      exact ih g8  hM

theorem c_X7_isEnough {X : zX} (hX : zfl X = true) {v1 : Int32} {v2 : Int32} {g gr : zG} {rr : Int32}  (hM : X7_isEnough v1 v2 g = some (rr, gr)) : MC X yX7_isEnough cX7_isEnough 3 (some .boolean) 8 [.inr (.inl (7, 0)), .inl v1, .inl v2] (some (.inl rr)) g gr := by
  refine MC.mk (own := RX7) (L := [some (.inr (.inl (7, 0))), some (.inl v1), some (.inl v2)]) (by decide) rfl trivial (Nat.le_of_ble_eq_true rfl) rfl ?_
  intro p l e s m args below meth c C hr
  unfold X7_isEnough at hM
  refine v_aload_n C 0 dX7_isEnough_0 rfl rfl ?_
  obtain ⟨x1, g2, e3, hM⟩ := zc_elim hM
  refine v_callVv (ci := 7) (rest := []) C (c_X7_begins hX  e3) mw_X7_begins mi_X7_begins ml_RX7_235 hX.symm zm7 rfl rfl ⟨by decide, Nat.le_of_ble_eq_true rfl⟩ rfl (Nat.le_of_ble_eq_true rfl) dX7_isEnough_1 rfl ?_
  refine v_aload_n C 0 dX7_isEnough_4 rfl rfl ?_
  refine v_iload_n C 2 dX7_isEnough_5 rfl rfl ?_
  refine pf_RX7_242 C hX dX7_isEnough_6 hM (fun g4 hM => ?_)
  exact v_weak (t_X7_isEnough_l9 hX C hr  _ g4  hM) (show zsub [some (.inr (.inl (7, 0))), some (.inl v1), none] [some (.inr (.inl (7, 0))), some (.inl v1), some (.inl v2)] from ⟨rfl, ⟨rfl, trivial⟩⟩)

theorem t_X7_waysFor_l24  (hX : zfl X = true) (C : Cx X p (zrm 9) s m args meth c cX7_waysFor 3 RX7 0 0) (hr : meth.sig.returnType = (some .int))  : ∀ (n : Nat) {v1 : Int32} {v2 : Int32} (g : zG), X7_waysFor_l24  n v1 v2 g = some (rr, gr) → V X p l e (zrm 9) s m args below meth c 3 0 0 (MQ below (zQ X (Option.map (zM X) (some (.inl rr))) gr) args s 0 0 (zF X)) g 24 [some (.inr (.inl (7, 0))), some (.inl v1), some (.inl v2)] [] := by
  intro n
  induction n with
  | zero =>
    intro v1 v2 g  hM
    exact absurd (show (none : Option (Int32 × zG)) = some (rr, gr) from hM) (by simp)
  | succ n ih =>
    intro v1 v2 g  hM
    rw [X7_waysFor_l24.eq_2] at hM
    refine v_aload_n C 0 dX7_waysFor_24 rfl rfl ?_
    refine v_iload_n C 1 dX7_waysFor_25 rfl rfl ?_
    refine v_iload_n C 2 dX7_waysFor_26 rfl rfl ?_
    obtain ⟨x1, g2, e3, hM⟩ := zc_elim hM
    refine v_callVi (ci := 7) (rest := []) C (c_X7_isEnough hX  e3) mw_X7_isEnough mi_X7_isEnough ml_RX7_376 hX.symm zm7 rfl rfl ⟨by decide, Nat.le_of_ble_eq_true rfl⟩ rfl (Nat.le_of_ble_eq_true rfl) dX7_waysFor_27 rfl ?_
    refine v_if_ne C 39 dX7_waysFor_30 rfl hM (fun hM => ?_) (fun hM => ?_)
    · refine v_aload_n C 0 dX7_waysFor_39 rfl rfl ?_
      obtain ⟨x4, g5, e6, hM⟩ := zc_elim hM
      refine v_callVv (ci := 7) (rest := []) C (c_X7_takesBack hX  e6) mw_X7_takesBack mi_X7_takesBack ml_RX7_341 hX.symm zm7 rfl rfl ⟨by decide, Nat.le_of_ble_eq_true rfl⟩ rfl (Nat.le_of_ble_eq_true rfl) dX7_waysFor_40 rfl ?_
      refine v_iload_n C 2 dX7_waysFor_43 rfl rfl ?_
      exact v_iret2 C hr dX7_waysFor_44 hM
    · refine v_iinc (L' := [some (.inr (.inl (7, 0))), some (.inl v1), some (.inl (v2 + (nI 1)))]) C 2 (nI 1) dX7_waysFor_33 zk_1 (by decide) rfl rfl ?_
      refine v_goto C 24 dX7_waysFor_36 rfl ?_
      exact ih g2  hM

theorem c_X7_waysFor {X : zX} (hX : zfl X = true) {v1 : Int32} {g gr : zG} {rr : Int32}  (hM : X7_waysFor v1 g = some (rr, gr)) : MC X yX7_waysFor cX7_waysFor 3 (some .int) 9 [.inr (.inl (7, 0)), .inl v1] (some (.inl rr)) g gr := by
  refine MC.mk (own := RX7) (L := [some (.inr (.inl (7, 0))), some (.inl v1), none]) (by decide) rfl trivial (Nat.le_of_ble_eq_true rfl) rfl ?_
  intro p l e s m args below meth c C hr
  unfold X7_waysFor at hM
  refine v_aload_n C 0 dX7_waysFor_0 rfl rfl ?_
  obtain ⟨x1, g2, e3, hM⟩ := zc_elim hM
  refine v_callVv (ci := 7) (rest := []) C (c_X7_anew hX  e3) mw_X7_anew mi_X7_anew ml_RX7_211 hX.symm zm7 rfl rfl ⟨by decide, Nat.le_of_ble_eq_true rfl⟩ rfl (Nat.le_of_ble_eq_true rfl) dX7_waysFor_1 rfl ?_
  refine v_aload_n C 0 dX7_waysFor_4 rfl rfl ?_
  refine v_iload_n C 1 dX7_waysFor_5 rfl rfl ?_
  obtain ⟨x4, g5, e6, hM⟩ := zc_elim hM
  refine v_callVi (ci := 7) (rest := []) C (c_X7_isCore hX  e6) mw_X7_isCore mi_X7_isCore ml_RX7_308 hX.symm zm7 rfl rfl ⟨by decide, Nat.le_of_ble_eq_true rfl⟩ rfl (Nat.le_of_ble_eq_true rfl) dX7_waysFor_6 rfl ?_
  refine v_if_ne C 18 dX7_waysFor_9 rfl hM (fun hM => ?_) (fun hM => ?_)
  · refine v_aload_n C 0 dX7_waysFor_18 rfl rfl ?_
    obtain ⟨x7, g8, e9, hM⟩ := zc_elim hM
    refine v_callVv (ci := 7) (rest := []) C (c_X7_laysAside hX  e9) mw_X7_laysAside mi_X7_laysAside ml_RX7_335 hX.symm zm7 rfl rfl ⟨by decide, Nat.le_of_ble_eq_true rfl⟩ rfl (Nat.le_of_ble_eq_true rfl) dX7_waysFor_19 rfl ?_
    refine v_iconst C (nI 1) dX7_waysFor_22 zk_1 ?_
    refine v_istore_n (L' := [some (.inr (.inl (7, 0))), some (.inl v1), some (.inl (nI 1))]) C 2 dX7_waysFor_23 rfl (by decide) rfl ?_
    exact t_X7_waysFor_l24 hX C hr  _ g8  hM
  · refine v_aload_n C 0 dX7_waysFor_12 rfl rfl ?_
    refine v_iconst C (nI 1) dX7_waysFor_13 zk_1 ?_
    obtain ⟨x10, g11, e12, hM⟩ := zc_elim hM
    refine v_callVi (ci := 7) (rest := []) C (c_X7_no hX  e12) mw_X7_no mi_X7_no ml_RX7_214 hX.symm zm7 rfl rfl ⟨by decide, Nat.le_of_ble_eq_true rfl⟩ rfl (Nat.le_of_ble_eq_true rfl) dX7_waysFor_14 rfl ?_
    exact v_iret2 C hr dX7_waysFor_17 hM

theorem t_X7_keep_l20  (hX : zfl X = true) (C : Cx X p (zrm 1) s m args meth c cX7_keep 2 RX7 0 0) (hr : meth.sig.returnType = (some .boolean))  : ∀ (n : Nat) {v1 : Int32} (g : zG), X7_keep_l20  n v1 g = some (rr, gr) → V X p l e (zrm 1) s m args below meth c 2 0 0 (MQ below (zQ X (Option.map (zM X) (some (.inl rr))) gr) args s 0 0 (zF X)) g 20 [some (.inr (.inl (7, 0))), some (.inl v1)] [] := by
  intro n
  induction n with
  | zero =>
    intro v1 g  hM
    exact absurd (show (none : Option (Int32 × zG)) = some (rr, gr) from hM) (by simp)
  | succ n ih =>
    intro v1 g  hM
    rw [X7_keep_l20.eq_2] at hM
    refine v_iload_n C 1 dX7_keep_20 rfl rfl ?_
    refine v_sipush C (nI 2766) dX7_keep_21 zks_2766 ?_
    refine v_icmp_ge C 45 dX7_keep_24 rfl hM (fun hM => ?_) (fun hM => ?_)
    · refine v_aload_n C 0 dX7_keep_45 rfl rfl ?_
      refine v_iconst C (nI 1) dX7_keep_46 zk_1 ?_
      refine pf_RX7_229 C hX dX7_keep_47 (Or.inr rfl) hM (fun g1 hM => ?_)
      refine v_iconst C (nI 1) dX7_keep_50 zk_1 ?_
      exact v_zret2 C hr (zbo_n (Or.inr rfl)) dX7_keep_51 hM
    · refine v_aload_n C 0 dX7_keep_27 rfl rfl ?_
      refine gf_RX7_59 C hX dX7_keep_28 ?_
      refine v_iload_n C 1 dX7_keep_31 rfl rfl ?_
      refine v_aload_n C 0 dX7_keep_32 rfl rfl ?_
      refine gf_RX7_53 C hX dX7_keep_33 ?_
      refine v_iload_n C 1 dX7_keep_36 rfl rfl ?_
      refine ia_43 C hX dX7_keep_37 hM (fun hM _ => ?_)
      refine is_45 C hX dX7_keep_38 hM (fun g2 hM => ?_)
      refine v_iinc (L' := [some (.inr (.inl (7, 0))), some (.inl (v1 + (nI 1)))]) C 1 (nI 1) dX7_keep_39 zk_1 (by decide) rfl rfl ?_
      refine v_goto C 20 dX7_keep_42 rfl ?_
      exact ih g2  hM

theorem c_X7_keep {X : zX} (hX : zfl X = true)  {g gr : zG} {rr : Int32}  (hM : X7_keep  g = some (rr, gr)) : MC X yX7_keep cX7_keep 2 (some .boolean) 1 [.inr (.inl (7, 0))] (some (.inl rr)) g gr := by
  refine MC.mk (own := RX7) (L := [some (.inr (.inl (7, 0))), none]) (by decide) rfl trivial (Nat.le_of_ble_eq_true rfl) rfl ?_
  intro p l e s m args below meth c C hr
  unfold X7_keep at hM
  refine v_aload_n C 0 dX7_keep_0 rfl rfl ?_
  obtain ⟨x1, g2, e3, hM⟩ := zc_elim hM
  refine v_callVv (ci := 7) (rest := []) C (c_X7_anew hX  e3) mw_X7_anew mi_X7_anew ml_RX7_211 hX.symm zm7 rfl rfl ⟨by decide, Nat.le_of_ble_eq_true rfl⟩ rfl (Nat.le_of_ble_eq_true rfl) dX7_keep_1 rfl ?_
  refine v_aload_n C 0 dX7_keep_4 rfl rfl ?_
  refine gf_RX7_226 C hX dX7_keep_5 ?_
  refine v_if_ne C 18 dX7_keep_8 rfl hM (fun hM => ?_) (fun hM => ?_)
  · refine v_iconst C (nI 0) dX7_keep_18 zk_0 ?_
    refine v_istore_n (L' := [some (.inr (.inl (7, 0))), some (.inl (nI 0))]) C 1 dX7_keep_19 rfl (by decide) rfl ?_
    exact t_X7_keep_l20 hX C hr  _ g2  hM
  · refine v_aload_n C 0 dX7_keep_11 rfl rfl ?_
    refine v_iconst C (nI 1) dX7_keep_12 zk_1 ?_
    refine pf_RX7_68 C hX dX7_keep_13 hM (fun g4 hM => ?_)
    refine v_iconst C (nI 0) dX7_keep_16 zk_0 ?_
    exact v_zret2 C hr (zbo_n (Or.inl rfl)) dX7_keep_17 hM

theorem t_X7_back_l20  (hX : zfl X = true) (C : Cx X p (zrm 1) s m args meth c cX7_back 2 RX7 0 0) (hr : meth.sig.returnType = (some .boolean))  : ∀ (n : Nat) {v1 : Int32} (g : zG), X7_back_l20  n v1 g = some (rr, gr) → V X p l e (zrm 1) s m args below meth c 2 0 0 (MQ below (zQ X (Option.map (zM X) (some (.inl rr))) gr) args s 0 0 (zF X)) g 20 [some (.inr (.inl (7, 0))), some (.inl v1)] [] := by
  intro n
  induction n with
  | zero =>
    intro v1 g  hM
    exact absurd (show (none : Option (Int32 × zG)) = some (rr, gr) from hM) (by simp)
  | succ n ih =>
    intro v1 g  hM
    rw [X7_back_l20.eq_2] at hM
    refine v_iload_n C 1 dX7_back_20 rfl rfl ?_
    refine v_sipush C (nI 2766) dX7_back_21 zks_2766 ?_
    refine v_icmp_ge C 45 dX7_back_24 rfl hM (fun hM => ?_) (fun hM => ?_)
    · refine v_iconst C (nI 1) dX7_back_45 zk_1 ?_
      exact v_zret2 C hr (zbo_n (Or.inr rfl)) dX7_back_46 hM
    · refine v_aload_n C 0 dX7_back_27 rfl rfl ?_
      refine gf_RX7_53 C hX dX7_back_28 ?_
      refine v_iload_n C 1 dX7_back_31 rfl rfl ?_
      refine v_aload_n C 0 dX7_back_32 rfl rfl ?_
      refine gf_RX7_59 C hX dX7_back_33 ?_
      refine v_iload_n C 1 dX7_back_36 rfl rfl ?_
      refine ia_45 C hX dX7_back_37 hM (fun hM _ => ?_)
      refine is_43 C hX dX7_back_38 hM (fun g1 hM => ?_)
      refine v_iinc (L' := [some (.inr (.inl (7, 0))), some (.inl (v1 + (nI 1)))]) C 1 (nI 1) dX7_back_39 zk_1 (by decide) rfl rfl ?_
      refine v_goto C 20 dX7_back_42 rfl ?_
      exact ih g1  hM

theorem c_X7_back {X : zX} (hX : zfl X = true)  {g gr : zG} {rr : Int32}  (hM : X7_back  g = some (rr, gr)) : MC X yX7_back cX7_back 2 (some .boolean) 1 [.inr (.inl (7, 0))] (some (.inl rr)) g gr := by
  refine MC.mk (own := RX7) (L := [some (.inr (.inl (7, 0))), none]) (by decide) rfl trivial (Nat.le_of_ble_eq_true rfl) rfl ?_
  intro p l e s m args below meth c C hr
  unfold X7_back at hM
  refine v_aload_n C 0 dX7_back_0 rfl rfl ?_
  obtain ⟨x1, g2, e3, hM⟩ := zc_elim hM
  refine v_callVv (ci := 7) (rest := []) C (c_X7_anew hX  e3) mw_X7_anew mi_X7_anew ml_RX7_211 hX.symm zm7 rfl rfl ⟨by decide, Nat.le_of_ble_eq_true rfl⟩ rfl (Nat.le_of_ble_eq_true rfl) dX7_back_1 rfl ?_
  refine v_aload_n C 0 dX7_back_4 rfl rfl ?_
  refine gf_RX7_229 C hX dX7_back_5 ?_
  refine v_if_ne C 18 dX7_back_8 rfl hM (fun hM => ?_) (fun hM => ?_)
  · refine v_iconst C (nI 0) dX7_back_18 zk_0 ?_
    refine v_istore_n (L' := [some (.inr (.inl (7, 0))), some (.inl (nI 0))]) C 1 dX7_back_19 rfl (by decide) rfl ?_
    exact t_X7_back_l20 hX C hr  _ g2  hM
  · refine v_aload_n C 0 dX7_back_11 rfl rfl ?_
    refine v_iconst C (nI 1) dX7_back_12 zk_1 ?_
    refine pf_RX7_68 C hX dX7_back_13 hM (fun g4 hM => ?_)
    refine v_iconst C (nI 0) dX7_back_16 zk_0 ?_
    exact v_zret2 C hr (zbo_n (Or.inl rfl)) dX7_back_17 hM

theorem t_X7_done_b44 {v1 : Int32} {v2 : Int32} {v3 : Int32} {k9 : Int32 → Int32 → Int32 → zG → Option (Int32 × zG)} {g : zG} (hX : zfl X = true) (C : Cx X p (zrm 2) s m args meth c cX7_done 4 RX7 0 0) (hr : meth.sig.returnType = (some .int))  (hk9 : ∀ (v1 : Int32) (v2 : Int32) (v3 : Int32) (g : zG),  k9 v1 v2 v3 g = some (rr, gr) → V X p l e (zrm 2) s m args below meth c 4 0 0 (MQ below (zQ X (Option.map (zM X) (some (.inl rr))) gr) args s 0 0 (zF X)) g 9 [some (.inr (.inl (7, 0))), some (.inl v1), some (.inl v2), some (.inl v3)] []) (hM : X7_done_b44 k9 v1 v2 v3 g = some (rr, gr)) : V X p l e (zrm 2) s m args below meth c 4 0 0 (MQ below (zQ X (Option.map (zM X) (some (.inl rr))) gr) args s 0 0 (zF X)) g 44 [some (.inr (.inl (7, 0))), some (.inl v1), some (.inl v2), some (.inl v3)] [] := by
  unfold X7_done_b44 at hM
  refine v_iinc (L' := [some (.inr (.inl (7, 0))), some (.inl v1), some (.inl v2), some (.inl (v3 + (nI 1)))]) C 3 (nI 1) dX7_done_44 zk_1 (by decide) rfl rfl ?_
  refine v_goto C 9 dX7_done_47 rfl ?_
  exact hk9 v1 v2 (v3 + (nI 1)) g  hM

theorem t_X7_done_l9 {k50 : zG → Option (Int32 × zG)} (hX : zfl X = true) (C : Cx X p (zrm 2) s m args meth c cX7_done 4 RX7 0 0) (hr : meth.sig.returnType = (some .int)) (hk50 : ∀  (g : zG),  k50  g = some (rr, gr) → V X p l e (zrm 2) s m args below meth c 4 0 0 (MQ below (zQ X (Option.map (zM X) (some (.inl rr))) gr) args s 0 0 (zF X)) g 50 [some (.inr (.inl (7, 0))), none, none, none] []) : ∀ (n : Nat) {v1 : Int32} {v2 : Int32} {v3 : Int32} (g : zG), X7_done_l9 k50 n v1 v2 v3 g = some (rr, gr) → V X p l e (zrm 2) s m args below meth c 4 0 0 (MQ below (zQ X (Option.map (zM X) (some (.inl rr))) gr) args s 0 0 (zF X)) g 9 [some (.inr (.inl (7, 0))), some (.inl v1), some (.inl v2), some (.inl v3)] [] := by
  intro n
  induction n with
  | zero =>
    intro v1 v2 v3 g  hM
    exact absurd (show (none : Option (Int32 × zG)) = some (rr, gr) from hM) (by simp)
  | succ n ih =>
    intro v1 v2 v3 g  hM
    rw [X7_done_l9.eq_2] at hM
    refine v_aload_n C 0 dX7_done_9 rfl rfl ?_
    refine gf_RX7_226 C hX dX7_done_10 ?_
    refine v_if_eq C 50 dX7_done_13 rfl hM (fun hM => ?_) (fun hM => ?_)
    · exact v_weak (hk50  g  hM) (show zsub [some (.inr (.inl (7, 0))), none, none, none] [some (.inr (.inl (7, 0))), some (.inl v1), some (.inl v2), some (.inl v3)] from ⟨rfl, trivial⟩)
    · refine v_iload_n C 3 dX7_done_16 rfl rfl ?_
      refine v_aload_n C 0 dX7_done_17 rfl rfl ?_
      refine gf_RX7_17 C hX dX7_done_18 ?_
      refine v_iconst C (nI 5) dX7_done_21 zk_5 ?_
      refine ia_31 C hX dX7_done_22 hM (fun hM _ => ?_)
      refine v_icmp_ge C 50 dX7_done_23 rfl hM (fun hM => ?_) (fun hM => ?_)
      · exact v_weak (hk50  g  hM) (show zsub [some (.inr (.inl (7, 0))), none, none, none] [some (.inr (.inl (7, 0))), some (.inl v1), some (.inl v2), some (.inl v3)] from ⟨rfl, trivial⟩)
      · refine v_aload_n C 0 dX7_done_26 rfl rfl ?_
        refine v_iload_n C 3 dX7_done_27 rfl rfl ?_
        obtain ⟨x1, g2, e3, hM⟩ := zc_elim hM
        refine v_callVi (ci := 7) (rest := []) C (c_X7_hasLeft hX  e3) mw_X7_hasLeft mi_X7_hasLeft ml_RX7_301 hX.symm zm7 rfl rfl ⟨by decide, Nat.le_of_ble_eq_true rfl⟩ rfl (Nat.le_of_ble_eq_true rfl) dX7_done_28 rfl ?_
        refine v_if_ne C 44 dX7_done_31 rfl hM (fun hM => ?_) (fun hM => ?_)
        · exact t_X7_done_b44 hX C hr  (fun v1 v2 v3 g  hM => ih g  hM) hM
        · refine v_iload_n C 2 dX7_done_34 rfl rfl ?_
          refine v_iload_n C 1 dX7_done_35 rfl rfl ?_
          refine v_icmp_ne C 41 dX7_done_36 rfl hM (fun hM => ?_) (fun hM => ?_)
          · refine v_iinc (L' := [some (.inr (.inl (7, 0))), some (.inl v1), some (.inl (v2 + (nI 1))), some (.inl v3)]) C 2 (nI 1) dX7_done_41 zk_1 (by decide) rfl rfl ?_
            exact t_X7_done_b44 hX C hr  (fun v1 v2 v3 g  hM => ih g  hM) hM
          · refine v_iload_n C 3 dX7_done_39 rfl rfl ?_
            exact v_iret2 C hr dX7_done_40 hM

theorem t_X7_done_b50   {g : zG} (hX : zfl X = true) (C : Cx X p (zrm 2) s m args meth c cX7_done 4 RX7 0 0) (hr : meth.sig.returnType = (some .int))   (hM : X7_done_b50   g = some (rr, gr)) : V X p l e (zrm 2) s m args below meth c 4 0 0 (MQ below (zQ X (Option.map (zM X) (some (.inl rr))) gr) args s 0 0 (zF X)) g 50 [some (.inr (.inl (7, 0))), none, none, none] [] := by
  unfold X7_done_b50 at hM
  refine v_aload_n C 0 dX7_done_50 rfl rfl ?_
  refine v_iconst C (nI 1) dX7_done_51 zk_1 ?_
  refine pf_RX7_65 C hX dX7_done_52 hM (fun g1 hM => ?_)
  refine v_iconst C (nI 0) dX7_done_55 zk_0 ?_
  exact v_iret2 C hr dX7_done_56 hM

theorem c_X7_done {X : zX} (hX : zfl X = true) {v1 : Int32} {g gr : zG} {rr : Int32}  (hM : X7_done v1 g = some (rr, gr)) : MC X yX7_done cX7_done 4 (some .int) 2 [.inr (.inl (7, 0)), .inl v1] (some (.inl rr)) g gr := by
  refine MC.mk (own := RX7) (L := [some (.inr (.inl (7, 0))), some (.inl v1), none, none]) (by decide) rfl trivial (Nat.le_of_ble_eq_true rfl) rfl ?_
  intro p l e s m args below meth c C hr
  unfold X7_done at hM
  refine v_aload_n C 0 dX7_done_0 rfl rfl ?_
  refine v_iconst C (nI 0) dX7_done_1 zk_0 ?_
  refine pf_RX7_65 C hX dX7_done_2 hM (fun g1 hM => ?_)
  refine v_iconst C (nI 0) dX7_done_5 zk_0 ?_
  refine v_istore_n (L' := [some (.inr (.inl (7, 0))), some (.inl v1), some (.inl (nI 0)), none]) C 2 dX7_done_6 rfl (by decide) rfl ?_
  refine v_iconst C (nI 0) dX7_done_7 zk_0 ?_
  refine v_istore_n (L' := [some (.inr (.inl (7, 0))), some (.inl v1), some (.inl (nI 0)), some (.inl (nI 0))]) C 3 dX7_done_8 rfl (by decide) rfl ?_
  exact t_X7_done_l9 hX C hr (by intro  g  hM; exact t_X7_done_b50 hX C hr   hM) _ g1  hM

theorem t_X7_size_l9  (hX : zfl X = true) (C : Cx X p (zrm 0) s m args meth c cX7_size 4 RX7 0 0) (hr : meth.sig.returnType = (some .int))  : ∀ (n : Nat) {v1 : Int32} {v2 : Int32} {v3 : Int32} (g : zG), X7_size_l9  n v1 v2 v3 g = some (rr, gr) → V X p l e (zrm 0) s m args below meth c 4 0 0 (MQ below (zQ X (Option.map (zM X) (some (.inl rr))) gr) args s 0 0 (zF X)) g 9 [some (.inr (.inl (7, 0))), some (.inl v1), some (.inl v2), some (.inl v3)] [] := by
  intro n
  induction n with
  | zero =>
    intro v1 v2 v3 g  hM
    exact absurd (show (none : Option (Int32 × zG)) = some (rr, gr) from hM) (by simp)
  | succ n ih =>
    intro v1 v2 v3 g  hM
    rw [X7_size_l9.eq_2] at hM
    refine v_iload_n C 3 dX7_size_9 rfl rfl ?_
    refine v_iconst C (nI 4) dX7_size_10 zk_4 ?_
    refine v_icmp_ge C 29 dX7_size_11 rfl hM (fun hM => ?_) (fun hM => ?_)
    · refine v_iload_n C 1 dX7_size_29 rfl rfl ?_
      by_cases hx0 : v1 = (nI 0)
      · rw [if_pos hx0] at hM
        refine v_tblIn C 60 0 dX7_size_30 (by rw [hx0]; rfl) (by decide) (by decide) rfl rfl ?_
        refine v_aload_n C 0 dX7_size_60 rfl rfl ?_
        refine gf_RX7_71 C hX dX7_size_61 ?_
        exact v_iret2 C hr dX7_size_64 hM
      rw [if_neg hx0] at hM
      by_cases hx1 : v1 = (nI 1)
      · rw [if_pos hx1] at hM
        refine v_tblIn C 65 1 dX7_size_30 (by rw [hx1]; rfl) (by decide) (by decide) rfl rfl ?_
        refine v_aload_n C 0 dX7_size_65 rfl rfl ?_
        refine gf_RX7_223 C hX dX7_size_66 ?_
        exact v_iret2 C hr dX7_size_69 hM
      rw [if_neg hx1] at hM
      by_cases hx2 : v1 = (nI 2)
      · rw [if_pos hx2] at hM
        refine v_tblIn C 70 2 dX7_size_30 (by rw [hx2]; rfl) (by decide) (by decide) rfl rfl ?_
        refine v_iload_n C 2 dX7_size_70 rfl rfl ?_
        exact v_iret2 C hr dX7_size_71 hM
      rw [if_neg hx2] at hM
      by_cases hx3 : v1 = (nI 3)
      · rw [if_pos hx3] at hM
        refine v_tblIn C 72 3 dX7_size_30 (by rw [hx3]; rfl) (by decide) (by decide) rfl rfl ?_
        refine v_aload_n C 0 dX7_size_72 rfl rfl ?_
        refine gf_RX7_229 C hX dX7_size_73 ?_
        refine v_if_eq C 83 dX7_size_76 rfl hM (fun hM => ?_) (fun hM => ?_)
        · refine v_iconst C (nI 0) dX7_size_83 zk_0 ?_
          exact v_iret2 C hr dX7_size_84 hM
        · refine v_iconst C (nI 1) dX7_size_79 zk_1 ?_
          refine v_goto C 84 dX7_size_80 rfl ?_
          exact v_iret2 C hr dX7_size_84 hM
      rw [if_neg hx3] at hM
      refine v_tblOut C 85 dX7_size_30 (ztbl 4 rfl (by intro k hk; match k, hk with | 0, _ => exact hx0 | 1, _ => exact hx1 | 2, _ => exact hx2 | 3, _ => exact hx3 | k + 4, hk => omega)) rfl ?_
      refine v_iconst C (-1) dX7_size_85 zk_m1 ?_
      exact v_iret2 C hr dX7_size_86 hM
    · refine v_iload_n C 2 dX7_size_14 rfl rfl ?_
      refine v_aload_n C 0 dX7_size_15 rfl rfl ?_
      refine gf_RX7_29 C hX dX7_size_16 ?_
      refine v_iload_n C 3 dX7_size_19 rfl rfl ?_
      refine ia_35 C hX dX7_size_20 hM (fun hM _ => ?_)
      refine v_iadd C dX7_size_21 ?_
      refine v_istore_n (L' := [some (.inr (.inl (7, 0))), some (.inl v1), some (.inl (v2 + (g 35 0 v3.toNatClampNeg))), some (.inl v3)]) C 2 dX7_size_22 rfl (by decide) rfl ?_
      refine v_iinc (L' := [some (.inr (.inl (7, 0))), some (.inl v1), some (.inl (v2 + (g 35 0 v3.toNatClampNeg))), some (.inl (v3 + (nI 1)))]) C 3 (nI 1) dX7_size_23 zk_1 (by decide) rfl rfl ?_
      refine v_goto C 9 dX7_size_26 rfl ?_
      exact ih g  hM

theorem c_X7_size {X : zX} (hX : zfl X = true) {v1 : Int32} {g gr : zG} {rr : Int32}  (hM : X7_size v1 g = some (rr, gr)) : MC X yX7_size cX7_size 4 (some .int) 0 [.inr (.inl (7, 0)), .inl v1] (some (.inl rr)) g gr := by
  refine MC.mk (own := RX7) (L := [some (.inr (.inl (7, 0))), some (.inl v1), none, none]) (by decide) rfl trivial (Nat.le_of_ble_eq_true rfl) rfl ?_
  intro p l e s m args below meth c C hr
  unfold X7_size at hM
  refine v_aload_n C 0 dX7_size_0 rfl rfl ?_
  refine v_iconst C (nI 0) dX7_size_1 zk_0 ?_
  refine pf_RX7_65 C hX dX7_size_2 hM (fun g1 hM => ?_)
  refine v_iconst C (nI 0) dX7_size_5 zk_0 ?_
  refine v_istore_n (L' := [some (.inr (.inl (7, 0))), some (.inl v1), some (.inl (nI 0)), none]) C 2 dX7_size_6 rfl (by decide) rfl ?_
  refine v_iconst C (nI 0) dX7_size_7 zk_0 ?_
  refine v_istore_n (L' := [some (.inr (.inl (7, 0))), some (.inl v1), some (.inl (nI 0)), some (.inl (nI 0))]) C 3 dX7_size_8 rfl (by decide) rfl ?_
  exact t_X7_size_l9 hX C hr  _ g1  hM

theorem c_X7_trouble {X : zX} (hX : zfl X = true)  {g gr : zG} {rr : Int32}  (hM : X7_trouble  g = some (rr, gr)) : MC X yX7_trouble cX7_trouble 1 (some .int) 0 [.inr (.inl (7, 0))] (some (.inl rr)) g gr := by
  refine MC.mk (own := RX7) (L := [some (.inr (.inl (7, 0)))]) (by decide) rfl trivial (Nat.le_of_ble_eq_true rfl) rfl ?_
  intro p l e s m args below meth c C hr
  unfold X7_trouble at hM
  refine v_aload_n C 0 dX7_trouble_0 rfl rfl ?_
  refine v_iconst C (nI 0) dX7_trouble_1 zk_0 ?_
  refine pf_RX7_65 C hX dX7_trouble_2 hM (fun g1 hM => ?_)
  refine v_aload_n C 0 dX7_trouble_5 rfl rfl ?_
  refine gf_RX7_68 C hX dX7_trouble_6 ?_
  exact v_iret2 C hr dX7_trouble_9 hM

end ZL
