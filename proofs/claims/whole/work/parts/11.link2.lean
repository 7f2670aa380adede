section ZL
variable {X : zX} {p : Program} {l : Launch} {e : Env} {s : State} {m : MethodId} {args : Array Value} {below : List Frame} {meth : Method} {c : Code} {rr : Int32} {gr : zG}
theorem t_X5_readDeed_b142 {v1 : Int32}  {g : zG} (hX : zfl X = false) (C : Cx X p (zrm 6) s m args meth c cX5_readDeed 4 RX5 0 0) (hr : meth.sig.returnType = (some .boolean))   (hM : X5_readDeed_b142  v1 g = some (rr, gr)) : V X p l e (zrm 6) s m args below meth c 4 0 0 (MQ below (zQ X (Option.map (zM X) (some (.inl rr))) gr) args s 0 0 (zF X)) g 142 [some (.inr (.inl (2, 0))), some (.inl v1), none, none] [] := by
  unfold X5_readDeed_b142 at hM
  refine v_aload_n C 0 dX5_readDeed_142 rfl rfl ?_
  obtain ⟨x1, g2, e3, hM⟩ := zc_elim hM
  refine v_callVv (ci := 5) (rest := []) C (c_X5_advance hX  e3) mw_X5_advance mi_X5_advance ml_RX5_57 hX.symm zm2 rfl rfl ⟨by decide, Nat.le_of_ble_eq_true rfl⟩ rfl (Nat.le_of_ble_eq_true rfl) dX5_readDeed_143 rfl ?_
  refine v_aload_n C 0 dX5_readDeed_146 rfl rfl ?_
  refine v_iload_n C 1 dX5_readDeed_147 rfl rfl ?_
  obtain ⟨x4, g5, e6, hM⟩ := zc_elim hM
  refine v_callVi (ci := 5) (rest := []) C (c_X5_readRest hX  e6) mw_X5_readRest mi_X5_readRest ml_RX5_195 hX.symm zm2 rfl rfl ⟨by decide, Nat.le_of_ble_eq_true rfl⟩ rfl (Nat.le_of_ble_eq_true rfl) dX5_readDeed_148 rfl ?_
  obtain ⟨hz, hM⟩ := zbo_elim hM
  exact v_zret2 C hr (zbo_n hz) dX5_readDeed_151 hM

theorem t_X5_readDeed_b139 {v1 : Int32} {s1 : Int32}  {g : zG} (hX : zfl X = false) (C : Cx X p (zrm 6) s m args meth c cX5_readDeed 4 RX5 0 0) (hr : meth.sig.returnType = (some .boolean))   (hM : X5_readDeed_b139  v1 s1 g = some (rr, gr)) : V X p l e (zrm 6) s m args below meth c 4 0 0 (MQ below (zQ X (Option.map (zM X) (some (.inl rr))) gr) args s 0 0 (zF X)) g 139 [some (.inr (.inl (2, 0))), some (.inl v1), none, none] [(.inl s1), (.inr (.inl (2, 0)))] := by
  unfold X5_readDeed_b139 at hM
  obtain ⟨hz, hM⟩ := zbo_elim hM
  refine pf_RX5_48 C hX dX5_readDeed_139 hz hM (fun g1 hM => ?_)
  exact t_X5_readDeed_b142 hX C hr   hM

theorem t_X5_readDeed_b129 {v1 : Int32}  {g : zG} (hX : zfl X = false) (C : Cx X p (zrm 6) s m args meth c cX5_readDeed 4 RX5 0 0) (hr : meth.sig.returnType = (some .boolean))   (hM : X5_readDeed_b129  v1 g = some (rr, gr)) : V X p l e (zrm 6) s m args below meth c 4 0 0 (MQ below (zQ X (Option.map (zM X) (some (.inl rr))) gr) args s 0 0 (zF X)) g 129 [some (.inr (.inl (2, 0))), some (.inl v1), none, none] [] := by
  unfold X5_readDeed_b129 at hM
  refine v_aload_n C 0 dX5_readDeed_129 rfl rfl ?_
  refine v_iload_n C 1 dX5_readDeed_130 rfl rfl ?_
  refine v_if_ne C 138 dX5_readDeed_131 rfl hM (fun hM => ?_) (fun hM => ?_)
  · refine v_iconst C (nI 0) dX5_readDeed_138 zk_0 ?_
    exact t_X5_readDeed_b139 hX C hr   hM
  · refine v_iconst C (nI 1) dX5_readDeed_134 zk_1 ?_
    refine v_goto C 139 dX5_readDeed_135 rfl ?_
    exact t_X5_readDeed_b139 hX C hr   hM

theorem t_X5_readDeed_b120 {v1 : Int32}  {g : zG} (hX : zfl X = false) (C : Cx X p (zrm 6) s m args meth c cX5_readDeed 4 RX5 0 0) (hr : meth.sig.returnType = (some .boolean))   (hM : X5_readDeed_b120  v1 g = some (rr, gr)) : V X p l e (zrm 6) s m args below meth c 4 0 0 (MQ below (zQ X (Option.map (zM X) (some (.inl rr))) gr) args s 0 0 (zF X)) g 120 [some (.inr (.inl (2, 0))), some (.inl v1), none, none] [] := by
  unfold X5_readDeed_b120 at hM
  refine v_iload_n C 1 dX5_readDeed_120 rfl rfl ?_
  refine v_if_eq C 129 dX5_readDeed_121 rfl hM (fun hM => ?_) (fun hM => ?_)
  · exact t_X5_readDeed_b129 hX C hr   hM
  · refine v_iload_n C 1 dX5_readDeed_124 rfl rfl ?_
    refine v_iconst C (nI 1) dX5_readDeed_125 zk_1 ?_
    refine v_icmp_ne C 142 dX5_readDeed_126 rfl hM (fun hM => ?_) (fun hM => ?_)
    · exact t_X5_readDeed_b142 hX C hr   hM
    · exact t_X5_readDeed_b129 hX C hr   hM

theorem t_X5_readDeed_b109   {g : zG} (hX : zfl X = false) (C : Cx X p (zrm 6) s m args meth c cX5_readDeed 4 RX5 0 0) (hr : meth.sig.returnType = (some .boolean))   (hM : X5_readDeed_b109   g = some (rr, gr)) : V X p l e (zrm 6) s m args below meth c 4 0 0 (MQ below (zQ X (Option.map (zM X) (some (.inl rr))) gr) args s 0 0 (zF X)) g 109 [some (.inr (.inl (2, 0))), none, none, none] [] := by
  unfold X5_readDeed_b109 at hM
  refine v_aload_n C 0 dX5_readDeed_109 rfl rfl ?_
  refine v_bipush C (nI 6) dX5_readDeed_110 zkb_6 ?_
  refine v_aload_n C 0 dX5_readDeed_112 rfl rfl ?_
  refine gf_RX5_70 C hX dX5_readDeed_113 ?_
  obtain ⟨x1, g2, e3, hM⟩ := zc_elim hM
  refine v_callVi (ci := 5) (rest := []) C (c_X5_fail hX  e3) mw_X5_fail mi_X5_fail ml_RX5_73 hX.symm zm2 rfl rfl ⟨by decide, Nat.le_of_ble_eq_true rfl⟩ rfl (Nat.le_of_ble_eq_true rfl) dX5_readDeed_116 rfl ?_
  obtain ⟨hz, hM⟩ := zbo_elim hM
  exact v_zret2 C hr (zbo_n hz) dX5_readDeed_119 hM

theorem t_X5_readDeed_b98 {v1 : Int32} {v3 : Int32}  {g : zG} (hX : zfl X = false) (C : Cx X p (zrm 6) s m args meth c cX5_readDeed 4 RX5 0 0) (hr : meth.sig.returnType = (some .boolean))   (hM : X5_readDeed_b98  v1 v3 g = some (rr, gr)) : V X p l e (zrm 6) s m args below meth c 4 0 0 (MQ below (zQ X (Option.map (zM X) (some (.inl rr))) gr) args s 0 0 (zF X)) g 98 [some (.inr (.inl (2, 0))), some (.inl v1), none, some (.inl v3)] [] := by
  unfold X5_readDeed_b98 at hM
  refine v_iload_n C 3 dX5_readDeed_98 rfl rfl ?_
  refine v_if_eq C 120 dX5_readDeed_99 rfl hM (fun hM => ?_) (fun hM => ?_)
  · exact v_weak (t_X5_readDeed_b120 hX C hr   hM) (show zsub [some (.inr (.inl (2, 0))), some (.inl v1), none, none] [some (.inr (.inl (2, 0))), some (.inl v1), none, some (.inl v3)] from ⟨rfl, ⟨rfl, trivial⟩⟩)
  · refine v_aload_n C 0 dX5_readDeed_102 rfl rfl ?_
    refine gf_RX5_48 C hX dX5_readDeed_103 ?_
    refine v_if_ne C 120 dX5_readDeed_106 rfl hM (fun hM => ?_) (fun hM => ?_)
    · exact v_weak (t_X5_readDeed_b120 hX C hr   hM) (show zsub [some (.inr (.inl (2, 0))), some (.inl v1), none, none] [some (.inr (.inl (2, 0))), some (.inl v1), none, some (.inl v3)] from ⟨rfl, ⟨rfl, trivial⟩⟩)
    · exact v_weak (t_X5_readDeed_b109 hX C hr   hM) (show zsub [some (.inr (.inl (2, 0))), none, none, none] [some (.inr (.inl (2, 0))), some (.inl v1), none, some (.inl v3)] from ⟨rfl, trivial⟩)

theorem t_X5_readDeed_b86 {v1 : Int32} {s0 : Int32}  {g : zG} (hX : zfl X = false) (C : Cx X p (zrm 6) s m args meth c cX5_readDeed 4 RX5 0 0) (hr : meth.sig.returnType = (some .boolean))   (hM : X5_readDeed_b86  v1 s0 g = some (rr, gr)) : V X p l e (zrm 6) s m args below meth c 4 0 0 (MQ below (zQ X (Option.map (zM X) (some (.inl rr))) gr) args s 0 0 (zF X)) g 86 [some (.inr (.inl (2, 0))), some (.inl v1), none, none] [(.inl s0)] := by
  unfold X5_readDeed_b86 at hM
  refine v_istore_n (L' := [some (.inr (.inl (2, 0))), some (.inl v1), none, some (.inl s0)]) C 3 dX5_readDeed_86 rfl (by decide) rfl ?_
  refine v_iload_n C 1 dX5_readDeed_87 rfl rfl ?_
  refine v_if_ne C 98 dX5_readDeed_88 rfl hM (fun hM => ?_) (fun hM => ?_)
  · exact t_X5_readDeed_b98 hX C hr   hM
  · refine v_aload_n C 0 dX5_readDeed_91 rfl rfl ?_
    refine gf_RX5_48 C hX dX5_readDeed_92 ?_
    refine v_if_ne C 109 dX5_readDeed_95 rfl hM (fun hM => ?_) (fun hM => ?_)
    · exact v_weak (t_X5_readDeed_b109 hX C hr   hM) (show zsub [some (.inr (.inl (2, 0))), none, none, none] [some (.inr (.inl (2, 0))), some (.inl v1), none, some (.inl s0)] from ⟨rfl, trivial⟩)
    · exact t_X5_readDeed_b98 hX C hr   hM

theorem t_X5_readDeed_b81 {v1 : Int32}  {g : zG} (hX : zfl X = false) (C : Cx X p (zrm 6) s m args meth c cX5_readDeed 4 RX5 0 0) (hr : meth.sig.returnType = (some .boolean))   (hM : X5_readDeed_b81  v1 g = some (rr, gr)) : V X p l e (zrm 6) s m args below meth c 4 0 0 (MQ below (zQ X (Option.map (zM X) (some (.inl rr))) gr) args s 0 0 (zF X)) g 81 [some (.inr (.inl (2, 0))), some (.inl v1), none, none] [] := by
  unfold X5_readDeed_b81 at hM
  refine v_iconst C (nI 1) dX5_readDeed_81 zk_1 ?_
  refine v_goto C 86 dX5_readDeed_82 rfl ?_
  exact t_X5_readDeed_b86 hX C hr   hM

theorem t_X5_readDeed_b45 {v1 : Int32} {v2 : Int32}  {g : zG} (hX : zfl X = false) (C : Cx X p (zrm 6) s m args meth c cX5_readDeed 4 RX5 0 0) (hr : meth.sig.returnType = (some .boolean))   (hM : X5_readDeed_b45  v1 v2 g = some (rr, gr)) : V X p l e (zrm 6) s m args below meth c 4 0 0 (MQ below (zQ X (Option.map (zM X) (some (.inl rr))) gr) args s 0 0 (zF X)) g 45 [some (.inr (.inl (2, 0))), some (.inl v1), some (.inl v2), none] [] := by
  unfold X5_readDeed_b45 at hM
  refine v_aload_n C 0 dX5_readDeed_45 rfl rfl ?_
  refine gf_RX5_15 C hX dX5_readDeed_46 ?_
  refine v_iload_n C 2 dX5_readDeed_49 rfl rfl ?_
  obtain ⟨x1, g2, e3, hM⟩ := zc_elim hM
  refine v_callVNi (ci := 2) (rest := []) C (c_X2_hasCore hX (by decide) e3) mw_X2_hasCore mi_X2_hasCore ml_RX5_189 hX.symm (zm1 (by decide)) rfl rfl ⟨by decide, Nat.le_of_ble_eq_true rfl⟩ rfl (Nat.le_of_ble_eq_true rfl) dX5_readDeed_50 rfl ?_
  refine v_if_ne C 66 dX5_readDeed_53 rfl hM (fun hM => ?_) (fun hM => ?_)
  · refine v_iload_n C 1 dX5_readDeed_66 rfl rfl ?_
    refine v_iconst C (nI 1) dX5_readDeed_67 zk_1 ?_
    refine v_icmp_eq C 81 dX5_readDeed_68 rfl hM (fun hM => ?_) (fun hM => ?_)
    · exact v_weak (t_X5_readDeed_b81 hX C hr   hM) (show zsub [some (.inr (.inl (2, 0))), some (.inl v1), none, none] [some (.inr (.inl (2, 0))), some (.inl v1), some (.inl v2), none] from ⟨rfl, ⟨rfl, trivial⟩⟩)
    · refine v_iload_n C 1 dX5_readDeed_71 rfl rfl ?_
      refine v_iconst C (nI 3) dX5_readDeed_72 zk_3 ?_
      refine v_icmp_eq C 81 dX5_readDeed_73 rfl hM (fun hM => ?_) (fun hM => ?_)
      · exact v_weak (t_X5_readDeed_b81 hX C hr   hM) (show zsub [some (.inr (.inl (2, 0))), some (.inl v1), none, none] [some (.inr (.inl (2, 0))), some (.inl v1), some (.inl v2), none] from ⟨rfl, ⟨rfl, trivial⟩⟩)
      · refine v_iload_n C 1 dX5_readDeed_76 rfl rfl ?_
        refine v_iconst C (nI 4) dX5_readDeed_77 zk_4 ?_
        refine v_icmp_ne C 85 dX5_readDeed_78 rfl hM (fun hM => ?_) (fun hM => ?_)
        · refine v_iconst C (nI 0) dX5_readDeed_85 zk_0 ?_
          exact v_weak (t_X5_readDeed_b86 hX C hr   hM) (show zsub [some (.inr (.inl (2, 0))), some (.inl v1), none, none] [some (.inr (.inl (2, 0))), some (.inl v1), some (.inl v2), none] from ⟨rfl, ⟨rfl, trivial⟩⟩)
        · exact v_weak (t_X5_readDeed_b81 hX C hr   hM) (show zsub [some (.inr (.inl (2, 0))), some (.inl v1), none, none] [some (.inr (.inl (2, 0))), some (.inl v1), some (.inl v2), none] from ⟨rfl, ⟨rfl, trivial⟩⟩)
  · refine v_aload_n C 0 dX5_readDeed_56 rfl rfl ?_
    refine v_iconst C (nI 5) dX5_readDeed_57 zk_5 ?_
    refine v_aload_n C 0 dX5_readDeed_58 rfl rfl ?_
    refine gf_RX5_70 C hX dX5_readDeed_59 ?_
    obtain ⟨x4, g5, e6, hM⟩ := zc_elim hM
    refine v_callVi (ci := 5) (rest := []) C (c_X5_fail hX  e6) mw_X5_fail mi_X5_fail ml_RX5_73 hX.symm zm2 rfl rfl ⟨by decide, Nat.le_of_ble_eq_true rfl⟩ rfl (Nat.le_of_ble_eq_true rfl) dX5_readDeed_62 rfl ?_
    obtain ⟨hz, hM⟩ := zbo_elim hM
    exact v_zret2 C hr (zbo_n hz) dX5_readDeed_65 hM

theorem c_X5_readDeed {X : zX} (hX : zfl X = false) {v1 : Int32} {g gr : zG} {rr : Int32}  (hM : X5_readDeed v1 g = some (rr, gr)) : MC X yX5_readDeed cX5_readDeed 4 (some .boolean) 6 [.inr (.inl (2, 0)), .inl v1] (some (.inl rr)) g gr := by
  refine MC.mk (own := RX5) (L := [some (.inr (.inl (2, 0))), some (.inl v1), none, none]) (by decide) rfl trivial (Nat.le_of_ble_eq_true rfl) rfl ?_
  intro p l e s m args below meth c C hr
  unfold X5_readDeed at hM
  refine v_aload_n C 0 dX5_readDeed_0 rfl rfl ?_
  refine gf_RX5_15 C hX dX5_readDeed_1 ?_
  refine gf_RX5_77 C hX (by decide) dX5_readDeed_4 ?_
  refine v_iconst C (nI 1) dX5_readDeed_7 zk_1 ?_
  refine v_isub C dX5_readDeed_8 ?_
  refine v_istore_n (L' := [some (.inr (.inl (2, 0))), some (.inl v1), some (.inl ((g 6001 1 0) - (nI 1))), none]) C 2 dX5_readDeed_9 rfl (by decide) rfl ?_
  refine v_aload_n C 0 dX5_readDeed_10 rfl rfl ?_
  refine gf_RX5_15 C hX dX5_readDeed_11 ?_
  refine v_iload_n C 2 dX5_readDeed_14 rfl rfl ?_
  obtain ⟨x1, g2, e3, hM⟩ := zc_elim hM
  refine v_callVNi (ci := 2) (rest := []) C (c_X2_hasCore hX (by decide) e3) mw_X2_hasCore mi_X2_hasCore ml_RX5_189 hX.symm (zm1 (by decide)) rfl rfl ⟨by decide, Nat.le_of_ble_eq_true rfl⟩ rfl (Nat.le_of_ble_eq_true rfl) dX5_readDeed_15 rfl ?_
  refine v_if_eq C 45 dX5_readDeed_18 rfl hM (fun hM => ?_) (fun hM => ?_)
  · exact t_X5_readDeed_b45 hX C hr   hM
  · refine v_aload_n C 0 dX5_readDeed_21 rfl rfl ?_
    refine gf_RX5_15 C hX dX5_readDeed_22 ?_
    refine gf_RX5_192 C hX (by decide) dX5_readDeed_25 ?_
    refine v_iload_n C 2 dX5_readDeed_28 rfl rfl ?_
    refine ia_11 C hX (by decide) dX5_readDeed_29 hM (fun hM _ => ?_)
    refine v_bipush C (nI 24) dX5_readDeed_30 zkb_24 ?_
    refine v_icmp_lt C 45 dX5_readDeed_32 rfl hM (fun hM => ?_) (fun hM => ?_)
    · exact t_X5_readDeed_b45 hX C hr   hM
    · refine v_aload_n C 0 dX5_readDeed_35 rfl rfl ?_
      refine v_iconst C (nI 4) dX5_readDeed_36 zk_4 ?_
      refine v_aload_n C 0 dX5_readDeed_37 rfl rfl ?_
      refine gf_RX5_70 C hX dX5_readDeed_38 ?_
      obtain ⟨x4, g5, e6, hM⟩ := zc_elim hM
      refine v_callVi (ci := 5) (rest := []) C (c_X5_fail hX  e6) mw_X5_fail mi_X5_fail ml_RX5_73 hX.symm zm2 rfl rfl ⟨by decide, Nat.le_of_ble_eq_true rfl⟩ rfl (Nat.le_of_ble_eq_true rfl) dX5_readDeed_41 rfl ?_
      obtain ⟨hz, hM⟩ := zbo_elim hM
      exact v_zret2 C hr (zbo_n hz) dX5_readDeed_44 hM

theorem c_X5_readLine {X : zX} (hX : zfl X = false)  {g gr : zG} {rr : Int32}  (hM : X5_readLine  g = some (rr, gr)) : MC X yX5_readLine cX5_readLine 2 (some .boolean) 8 [.inr (.inl (2, 0))] (some (.inl rr)) g gr := by
  refine MC.mk (own := RX5) (L := [some (.inr (.inl (2, 0))), none]) (by decide) rfl trivial (Nat.le_of_ble_eq_true rfl) rfl ?_
  intro p l e s m args below meth c C hr
  unfold X5_readLine at hM
  refine v_aload_n C 0 dX5_readLine_0 rfl rfl ?_
  obtain ⟨x1, g2, e3, hM⟩ := zc_elim hM
  refine v_callVi (ci := 5) (rest := []) C (c_X5_sortHere hX  e3) mw_X5_sortHere mi_X5_sortHere ml_RX5_126 hX.symm zm2 rfl rfl ⟨by decide, Nat.le_of_ble_eq_true rfl⟩ rfl (Nat.le_of_ble_eq_true rfl) dX5_readLine_1 rfl ?_
  refine v_istore_n (L' := [some (.inr (.inl (2, 0))), some (.inl x1)]) C 1 dX5_readLine_4 rfl (by decide) rfl ?_
  refine v_iload_n C 1 dX5_readLine_5 rfl rfl ?_
  refine v_iconst C (-1) dX5_readLine_6 zk_m1 ?_
  refine v_icmp_ne C 20 dX5_readLine_7 rfl hM (fun hM => ?_) (fun hM => ?_)
  · refine v_iload_n C 1 dX5_readLine_20 rfl rfl ?_
    refine v_bipush C (nI 7) dX5_readLine_21 zkb_7 ?_
    refine v_icmp_ne C 31 dX5_readLine_23 rfl hM (fun hM => ?_) (fun hM => ?_)
    · refine v_aload_n C 0 dX5_readLine_31 rfl rfl ?_
      refine gf_RX5_44 C hX dX5_readLine_32 ?_
      refine v_if_ne C 48 dX5_readLine_35 rfl hM (fun hM => ?_) (fun hM => ?_)
      · refine v_iload_n C 1 dX5_readLine_48 rfl rfl ?_
        refine v_bipush C (nI 8) dX5_readLine_49 zkb_8 ?_
        refine v_icmp_ne C 59 dX5_readLine_51 rfl hM (fun hM => ?_) (fun hM => ?_)
        · refine v_iload_n C 1 dX5_readLine_59 rfl rfl ?_
          refine v_bipush C (nI 9) dX5_readLine_60 zkb_9 ?_
          refine v_icmp_ne C 72 dX5_readLine_62 rfl hM (fun hM => ?_) (fun hM => ?_)
          · refine v_aload_n C 0 dX5_readLine_72 rfl rfl ?_
            refine v_iload_n C 1 dX5_readLine_73 rfl rfl ?_
            obtain ⟨x4, g5, e6, hM⟩ := zc_elim hM
            refine v_callVi (ci := 5) (rest := []) C (c_X5_readDeed hX  e6) mw_X5_readDeed mi_X5_readDeed ml_RX5_138 hX.symm zm2 rfl rfl ⟨by decide, Nat.le_of_ble_eq_true rfl⟩ rfl (Nat.le_of_ble_eq_true rfl) dX5_readLine_74 rfl ?_
            obtain ⟨hz, hM⟩ := zbo_elim hM
            exact v_zret2 C hr (zbo_n hz) dX5_readLine_77 hM
          · refine v_aload_n C 0 dX5_readLine_65 rfl rfl ?_
            obtain ⟨x7, g8, e9, hM⟩ := zc_elim hM
            refine v_callVi (ci := 5) (rest := []) C (c_X5_readCore hX  e9) mw_X5_readCore mi_X5_readCore ml_RX5_135 hX.symm zm2 rfl rfl ⟨by decide, Nat.le_of_ble_eq_true rfl⟩ rfl (Nat.le_of_ble_eq_true rfl) dX5_readLine_66 rfl ?_
            refine v_goto C 77 dX5_readLine_69 rfl ?_
            obtain ⟨hz, hM⟩ := zbo_elim hM
            exact v_zret2 C hr (zbo_n hz) dX5_readLine_77 hM
        · refine v_aload_n C 0 dX5_readLine_54 rfl rfl ?_
          obtain ⟨x10, g11, e12, hM⟩ := zc_elim hM
          refine v_callVi (ci := 5) (rest := []) C (c_X5_readWord hX  e12) mw_X5_readWord mi_X5_readWord ml_RX5_132 hX.symm zm2 rfl rfl ⟨by decide, Nat.le_of_ble_eq_true rfl⟩ rfl (Nat.le_of_ble_eq_true rfl) dX5_readLine_55 rfl ?_
          obtain ⟨hz, hM⟩ := zbo_elim hM
          exact v_zret2 C hr (zbo_n hz) dX5_readLine_58 hM
      · refine v_aload_n C 0 dX5_readLine_38 rfl rfl ?_
        refine v_iconst C (nI 5) dX5_readLine_39 zk_5 ?_
        refine v_aload_n C 0 dX5_readLine_40 rfl rfl ?_
        refine gf_RX5_70 C hX dX5_readLine_41 ?_
        obtain ⟨x13, g14, e15, hM⟩ := zc_elim hM
        refine v_callVi (ci := 5) (rest := []) C (c_X5_fail hX  e15) mw_X5_fail mi_X5_fail ml_RX5_73 hX.symm zm2 rfl rfl ⟨by decide, Nat.le_of_ble_eq_true rfl⟩ rfl (Nat.le_of_ble_eq_true rfl) dX5_readLine_44 rfl ?_
        obtain ⟨hz, hM⟩ := zbo_elim hM
        exact v_zret2 C hr (zbo_n hz) dX5_readLine_47 hM
    · refine v_aload_n C 0 dX5_readLine_26 rfl rfl ?_
      obtain ⟨x16, g17, e18, hM⟩ := zc_elim hM
      refine v_callVi (ci := 5) (rest := []) C (c_X5_readMachine hX  e18) mw_X5_readMachine mi_X5_readMachine ml_RX5_129 hX.symm zm2 rfl rfl ⟨by decide, Nat.le_of_ble_eq_true rfl⟩ rfl (Nat.le_of_ble_eq_true rfl) dX5_readLine_27 rfl ?_
      obtain ⟨hz, hM⟩ := zbo_elim hM
      exact v_zret2 C hr (zbo_n hz) dX5_readLine_30 hM
  · refine v_aload_n C 0 dX5_readLine_10 rfl rfl ?_
    refine v_iconst C (nI 1) dX5_readLine_11 zk_1 ?_
    refine v_aload_n C 0 dX5_readLine_12 rfl rfl ?_
    refine gf_RX5_70 C hX dX5_readLine_13 ?_
    obtain ⟨x19, g20, e21, hM⟩ := zc_elim hM
    refine v_callVi (ci := 5) (rest := []) C (c_X5_fail hX  e21) mw_X5_fail mi_X5_fail ml_RX5_73 hX.symm zm2 rfl rfl ⟨by decide, Nat.le_of_ble_eq_true rfl⟩ rfl (Nat.le_of_ble_eq_true rfl) dX5_readLine_16 rfl ?_
    obtain ⟨hz, hM⟩ := zbo_elim hM
    exact v_zret2 C hr (zbo_n hz) dX5_readLine_19 hM

theorem c_X5_readEnd {X : zX} (hX : zfl X = false)  {g gr : zG} {rr : Int32}  (hM : X5_readEnd  g = some (rr, gr)) : MC X yX5_readEnd cX5_readEnd 1 (some .boolean) 1 [.inr (.inl (2, 0))] (some (.inl rr)) g gr := by
  refine MC.mk (own := RX5) (L := [some (.inr (.inl (2, 0)))]) (by decide) rfl trivial (Nat.le_of_ble_eq_true rfl) rfl ?_
  intro p l e s m args below meth c C hr
  unfold X5_readEnd at hM
  refine v_aload_n C 0 dX5_readEnd_0 rfl rfl ?_
  refine gf_RX5_15 C hX dX5_readEnd_1 ?_
  refine gf_RX5_77 C hX (by decide) dX5_readEnd_4 ?_
  refine v_if_ne C 20 dX5_readEnd_7 rfl hM (fun hM => ?_) (fun hM => ?_)
  · refine v_aload_n C 0 dX5_readEnd_20 rfl rfl ?_
    refine gf_RX5_48 C hX dX5_readEnd_21 ?_
    refine v_if_eq C 38 dX5_readEnd_24 rfl hM (fun hM => ?_) (fun hM => ?_)
    · refine v_iconst C (nI 1) dX5_readEnd_38 zk_1 ?_
      exact v_zret2 C hr (zbo_n (Or.inr rfl)) dX5_readEnd_39 hM
    · refine v_aload_n C 0 dX5_readEnd_27 rfl rfl ?_
      refine v_bipush C (nI 6) dX5_readEnd_28 zkb_6 ?_
      refine v_aload_n C 0 dX5_readEnd_30 rfl rfl ?_
      refine gf_RX5_37 C hX dX5_readEnd_31 ?_
      obtain ⟨x1, g2, e3, hM⟩ := zc_elim hM
      refine v_callVi (ci := 5) (rest := []) C (c_X5_fail hX  e3) mw_X5_fail mi_X5_fail ml_RX5_73 hX.symm zm2 rfl rfl ⟨by decide, Nat.le_of_ble_eq_true rfl⟩ rfl (Nat.le_of_ble_eq_true rfl) dX5_readEnd_34 rfl ?_
      obtain ⟨hz, hM⟩ := zbo_elim hM
      exact v_zret2 C hr (zbo_n hz) dX5_readEnd_37 hM
  · refine v_aload_n C 0 dX5_readEnd_10 rfl rfl ?_
    refine v_iconst C (nI 5) dX5_readEnd_11 zk_5 ?_
    refine v_aload_n C 0 dX5_readEnd_12 rfl rfl ?_
    refine gf_RX5_37 C hX dX5_readEnd_13 ?_
    obtain ⟨x4, g5, e6, hM⟩ := zc_elim hM
    refine v_callVi (ci := 5) (rest := []) C (c_X5_fail hX  e6) mw_X5_fail mi_X5_fail ml_RX5_73 hX.symm zm2 rfl rfl ⟨by decide, Nat.le_of_ble_eq_true rfl⟩ rfl (Nat.le_of_ble_eq_true rfl) dX5_readEnd_16 rfl ?_
    obtain ⟨hz, hM⟩ := zbo_elim hM
    exact v_zret2 C hr (zbo_n hz) dX5_readEnd_19 hM

theorem t_X5_readText_l51 {k76 : Int32 → zG → Option (Int32 × zG)} (hX : zfl X = false) (C : Cx X p (zrm 9) s m args meth c cX5_readText 3 RX5 0 0) (hr : meth.sig.returnType = (some .boolean)) (hk76 : ∀ (v2 : Int32) (g : zG),  k76 v2 g = some (rr, gr) → V X p l e (zrm 9) s m args below meth c 3 0 0 (MQ below (zQ X (Option.map (zM X) (some (.inl rr))) gr) args s 0 0 (zF X)) g 76 [some (.inr (.inl (2, 0))), none, some (.inl v2)] []) : ∀ (n : Nat) {v2 : Int32} (g : zG), X5_readText_l51 k76 n v2 g = some (rr, gr) → V X p l e (zrm 9) s m args below meth c 3 0 0 (MQ below (zQ X (Option.map (zM X) (some (.inl rr))) gr) args s 0 0 (zF X)) g 51 [some (.inr (.inl (2, 0))), none, some (.inl v2)] [] := by
  intro n
  induction n with
  | zero =>
    intro v2 g  hM
    exact absurd (show (none : Option (Int32 × zG)) = some (rr, gr) from hM) (by simp)
  | succ n ih =>
    intro v2 g  hM
    rw [X5_readText_l51.eq_2] at hM
    refine v_iload_n C 2 dX5_readText_51 rfl rfl ?_
    refine v_bipush C (nI 64) dX5_readText_52 zkb_64 ?_
    refine v_icmp_ge C 70 dX5_readText_54 rfl hM (fun hM => ?_) (fun hM => ?_)
    · refine v_aload_n C 0 dX5_readText_70 rfl rfl ?_
      obtain ⟨x1, g2, e3, hM⟩ := zc_elim hM
      refine v_callVv (ci := 5) (rest := []) C (c_X5_advance hX  e3) mw_X5_advance mi_X5_advance ml_RX5_57 hX.symm zm2 rfl rfl ⟨by decide, Nat.le_of_ble_eq_true rfl⟩ rfl (Nat.le_of_ble_eq_true rfl) dX5_readText_71 rfl ?_
      refine v_iconst C (nI 0) dX5_readText_74 zk_0 ?_
      refine v_istore_n (L' := [some (.inr (.inl (2, 0))), none, some (.inl (nI 0))]) C 2 dX5_readText_75 rfl (by decide) rfl ?_
      exact hk76 (nI 0) g2  hM
    · refine v_aload_n C 0 dX5_readText_57 rfl rfl ?_
      refine gf_RX5_9 C hX dX5_readText_58 ?_
      refine v_iload_n C 2 dX5_readText_61 rfl rfl ?_
      refine v_iconst C (nI 0) dX5_readText_62 zk_0 ?_
      refine is_16 C hX zvb0 dX5_readText_63 hM (fun g4 hM => ?_)
      refine v_iinc (L' := [some (.inr (.inl (2, 0))), none, some (.inl (v2 + (nI 1)))]) C 2 (nI 1) dX5_readText_64 zk_1 (by decide) rfl rfl ?_
      refine v_goto C 51 dX5_readText_67 rfl ?_
      exact ih g4  hM

theorem t_X5_readText_l76  (hX : zfl X = false) (C : Cx X p (zrm 9) s m args meth c cX5_readText 3 RX5 0 0) (hr : meth.sig.returnType = (some .boolean))  : ∀ (n : Nat) {v2 : Int32} (g : zG), X5_readText_l76  n v2 g = some (rr, gr) → V X p l e (zrm 9) s m args below meth c 3 0 0 (MQ below (zQ X (Option.map (zM X) (some (.inl rr))) gr) args s 0 0 (zF X)) g 76 [some (.inr (.inl (2, 0))), none, some (.inl v2)] [] := by
  intro n
  induction n with
  | zero =>
    intro v2 g  hM
    exact absurd (show (none : Option (Int32 × zG)) = some (rr, gr) from hM) (by simp)
  | succ n ih =>
    intro v2 g  hM
    rw [X5_readText_l76.eq_2] at hM
    refine v_iload_n C 2 dX5_readText_76 rfl rfl ?_
    refine v_sipush C (nI 900) dX5_readText_77 zks_900 ?_
    refine v_icmp_gt C 132 dX5_readText_80 rfl hM (fun hM => ?_) (fun hM => ?_)
    · refine v_aload_n C 0 dX5_readText_132 rfl rfl ?_
      refine v_iconst C (nI 1) dX5_readText_133 zk_1 ?_
      refine v_aload_n C 0 dX5_readText_134 rfl rfl ?_
      refine gf_RX5_70 C hX dX5_readText_135 ?_
      obtain ⟨x1, g2, e3, hM⟩ := zc_elim hM
      refine v_callVi (ci := 5) (rest := []) C (c_X5_fail hX  e3) mw_X5_fail mi_X5_fail ml_RX5_73 hX.symm zm2 rfl rfl ⟨by decide, Nat.le_of_ble_eq_true rfl⟩ rfl (Nat.le_of_ble_eq_true rfl) dX5_readText_138 rfl ?_
      obtain ⟨hz, hM⟩ := zbo_elim hM
      exact v_zret2 C hr (zbo_n hz) dX5_readText_141 hM
    · refine v_aload_n C 0 dX5_readText_83 rfl rfl ?_
      obtain ⟨x4, g5, e6, hM⟩ := zc_elim hM
      refine v_callVi (ci := 5) (rest := []) C (c_X5_readLine hX  e6) mw_X5_readLine mi_X5_readLine ml_RX5_60 hX.symm zm2 rfl rfl ⟨by decide, Nat.le_of_ble_eq_true rfl⟩ rfl (Nat.le_of_ble_eq_true rfl) dX5_readText_84 rfl ?_
      refine v_if_ne C 92 dX5_readText_87 rfl hM (fun hM => ?_) (fun hM => ?_)
      · refine v_aload_n C 0 dX5_readText_92 rfl rfl ?_
        refine gf_RX5_64 C hX dX5_readText_93 ?_
        refine v_if_ne C 104 dX5_readText_96 rfl hM (fun hM => ?_) (fun hM => ?_)
        · refine v_aload_n C 0 dX5_readText_104 rfl rfl ?_
          refine gf_RX5_64 C hX dX5_readText_105 ?_
          refine v_iconst C (nI 3) dX5_readText_108 zk_3 ?_
          refine v_icmp_eq C 122 dX5_readText_109 rfl hM (fun hM => ?_) (fun hM => ?_)
          · refine v_aload_n C 0 dX5_readText_122 rfl rfl ?_
            obtain ⟨x7, g8, e9, hM⟩ := zc_elim hM
            refine v_callVv (ci := 5) (rest := []) C (c_X5_advance hX  e9) mw_X5_advance mi_X5_advance ml_RX5_57 hX.symm zm2 rfl rfl ⟨by decide, Nat.le_of_ble_eq_true rfl⟩ rfl (Nat.le_of_ble_eq_true rfl) dX5_readText_123 rfl ?_
            refine v_iinc (L' := [some (.inr (.inl (2, 0))), none, some (.inl (v2 + (nI 1)))]) C 2 (nI 1) dX5_readText_126 zk_1 (by decide) rfl rfl ?_
            refine v_goto C 76 dX5_readText_129 rfl ?_
            exact ih g8  hM
          · refine v_aload_n C 0 dX5_readText_112 rfl rfl ?_
            refine v_iconst C (nI 1) dX5_readText_113 zk_1 ?_
            refine v_aload_n C 0 dX5_readText_114 rfl rfl ?_
            refine gf_RX5_70 C hX dX5_readText_115 ?_
            obtain ⟨x10, g11, e12, hM⟩ := zc_elim hM
            refine v_callVi (ci := 5) (rest := []) C (c_X5_fail hX  e12) mw_X5_fail mi_X5_fail ml_RX5_73 hX.symm zm2 rfl rfl ⟨by decide, Nat.le_of_ble_eq_true rfl⟩ rfl (Nat.le_of_ble_eq_true rfl) dX5_readText_118 rfl ?_
            obtain ⟨hz, hM⟩ := zbo_elim hM
            exact v_zret2 C hr (zbo_n hz) dX5_readText_121 hM
        · refine v_aload_n C 0 dX5_readText_99 rfl rfl ?_
          obtain ⟨x13, g14, e15, hM⟩ := zc_elim hM
          refine v_callVi (ci := 5) (rest := []) C (c_X5_readEnd hX  e15) mw_X5_readEnd mi_X5_readEnd ml_RX5_67 hX.symm zm2 rfl rfl ⟨by decide, Nat.le_of_ble_eq_true rfl⟩ rfl (Nat.le_of_ble_eq_true rfl) dX5_readText_100 rfl ?_
          obtain ⟨hz, hM⟩ := zbo_elim hM
          exact v_zret2 C hr (zbo_n hz) dX5_readText_103 hM
      · refine v_iconst C (nI 0) dX5_readText_90 zk_0 ?_
        exact v_zret2 C hr (zbo_n (Or.inl rfl)) dX5_readText_91 hM

theorem c_X5_readText {X : zX} (hX : zfl X = false) {v1 : Int32} {g gr : zG} {rr : Int32}  (hM : X5_readText v1 g = some (rr, gr)) : MC X yX5_readText cX5_readText 3 (some .boolean) 9 [.inr (.inl (2, 0)), .inl v1] (some (.inl rr)) g gr := by
  refine MC.mk (own := RX5) (L := [some (.inr (.inl (2, 0))), some (.inl v1), none]) (by decide) rfl trivial (Nat.le_of_ble_eq_true rfl) rfl ?_
  intro p l e s m args below meth c C hr
  unfold X5_readText at hM
  refine v_aload_n C 0 dX5_readText_0 rfl rfl ?_
  refine gf_RX5_15 C hX dX5_readText_1 ?_
  obtain ⟨x1, g2, e3, hM⟩ := zc_elim hM
  refine v_callVNv (ci := 2) (rest := []) C (c_X2_clear hX (by decide) e3) mw_X2_clear mi_X2_clear ml_RX5_23 hX.symm (zm1 (by decide)) rfl rfl ⟨by decide, Nat.le_of_ble_eq_true rfl⟩ rfl (Nat.le_of_ble_eq_true rfl) dX5_readText_4 rfl ?_
  refine v_aload_n C 0 dX5_readText_7 rfl rfl ?_
  refine v_iconst C (nI 0) dX5_readText_8 zk_0 ?_
  refine v_iload_n C 1 dX5_readText_9 rfl rfl ?_
  refine v_aload_n C 0 dX5_readText_10 rfl rfl ?_
  refine gf_RX5_19 C hX dX5_readText_11 ?_
  refine v_alen C hX.symm zm10 rfl (by decide) dX5_readText_14 (nI 900) rfl ?_
  obtain ⟨x4, g5, e6, hM⟩ := zc_elim hM
  refine v_callSi (rest := [(.inl (nI 0)), (.inr (.inl (2, 0)))]) C (c_J9_min_7cf53 hX  e6) mw_J9_min_7cf53 ms_J9_min_7cf53 ml_RX5_28 ⟨by decide, Nat.le_of_ble_eq_true rfl⟩ rfl (Nat.le_of_ble_eq_true rfl) dX5_readText_15 rfl ?_
  obtain ⟨x7, g8, e9, hM⟩ := zc_elim hM
  refine v_callSi (rest := [(.inr (.inl (2, 0)))]) C (c_J9_max_7cf53 hX  e9) mw_J9_max_7cf53 ms_J9_max_7cf53 ml_RX5_34 ⟨by decide, Nat.le_of_ble_eq_true rfl⟩ rfl (Nat.le_of_ble_eq_true rfl) dX5_readText_18 rfl ?_
  refine pf_RX5_37 C hX dX5_readText_21 hM (fun g10 hM => ?_)
  refine v_aload_n C 0 dX5_readText_24 rfl rfl ?_
  refine v_iconst C (nI 0) dX5_readText_25 zk_0 ?_
  refine pf_RX5_41 C hX dX5_readText_26 hM (fun g11 hM => ?_)
  refine v_aload_n C 0 dX5_readText_29 rfl rfl ?_
  refine v_iconst C (nI 0) dX5_readText_30 zk_0 ?_
  refine pf_RX5_44 C hX dX5_readText_31 (Or.inl rfl) hM (fun g12 hM => ?_)
  refine v_aload_n C 0 dX5_readText_34 rfl rfl ?_
  refine v_iconst C (nI 0) dX5_readText_35 zk_0 ?_
  refine pf_RX5_48 C hX dX5_readText_36 (Or.inl rfl) hM (fun g13 hM => ?_)
  refine v_aload_n C 0 dX5_readText_39 rfl rfl ?_
  refine v_iconst C (nI 0) dX5_readText_40 zk_0 ?_
  refine pf_RX5_51 C hX dX5_readText_41 hM (fun g14 hM => ?_)
  refine v_aload_n C 0 dX5_readText_44 rfl rfl ?_
  refine v_iconst C (nI 0) dX5_readText_45 zk_0 ?_
  refine pf_RX5_54 C hX dX5_readText_46 hM (fun g15 hM => ?_)
  refine v_iconst C (nI 0) dX5_readText_49 zk_0 ?_
  refine v_istore_n (L' := [some (.inr (.inl (2, 0))), some (.inl v1), some (.inl (nI 0))]) C 2 dX5_readText_50 rfl (by decide) rfl ?_
  exact v_weak (t_X5_readText_l51 hX C hr (by intro v2 g  hM; exact t_X5_readText_l76 hX C hr  _ g  hM) _ g15  hM) (show zsub [some (.inr (.inl (2, 0))), none, some (.inl (nI 0))] [some (.inr (.inl (2, 0))), some (.inl v1), some (.inl (nI 0))] from ⟨rfl, ⟨rfl, trivial⟩⟩)

theorem c_X6_refuse {X : zX} (hX : zfl X = false) {v1 : Int32} {g gr : zG} {rr : Int32}  (hM : X6_refuse v1 g = some (rr, gr)) : MC X yX6_refuse cX6_refuse 2 (some .int) 0 [.inr (.inl (0, 0)), .inl v1] (some (.inl rr)) g gr := by
  refine MC.mk (own := RX6) (L := [some (.inr (.inl (0, 0))), some (.inl v1)]) (by decide) rfl trivial (Nat.le_of_ble_eq_true rfl) rfl ?_
  intro p l e s m args below meth c C hr
  unfold X6_refuse at hM
  refine v_aload_n C 0 dX6_refuse_0 rfl rfl ?_
  refine v_iload_n C 1 dX6_refuse_1 rfl rfl ?_
  refine pf_RX6_54 C hX dX6_refuse_2 hM (fun g1 hM => ?_)
  refine v_iconst C (-1) dX6_refuse_5 zk_m1 ?_
  exact v_iret2 C hr dX6_refuse_6 hM

theorem c_X6_answer {X : zX} (hX : zfl X = false) {v1 : Int32} {g gr : zG} {rr : Int32}  (hM : X6_answer v1 g = some (rr, gr)) : MC X yX6_answer cX6_answer 2 (some .int) 0 [.inr (.inl (0, 0)), .inl v1] (some (.inl rr)) g gr := by
  refine MC.mk (own := RX6) (L := [some (.inr (.inl (0, 0))), some (.inl v1)]) (by decide) rfl trivial (Nat.le_of_ble_eq_true rfl) rfl ?_
  intro p l e s m args below meth c C hr
  unfold X6_answer at hM
  refine v_aload_n C 0 dX6_answer_0 rfl rfl ?_
  refine v_iconst C (nI 0) dX6_answer_1 zk_0 ?_
  refine pf_RX6_54 C hX dX6_answer_2 hM (fun g1 hM => ?_)
  refine v_iload_n C 1 dX6_answer_5 rfl rfl ?_
  exact v_iret2 C hr dX6_answer_6 hM

theorem c_X6_asBit {X : zX} (hX : zfl X = false) {v0 : Int32} {g gr : zG} {rr : Int32}  (hM : X6_asBit v0 g = some (rr, gr)) : MC X yX6_asBit cX6_asBit 1 (some .int) 0 [.inl v0] (some (.inl rr)) g gr := by
  refine MC.mk (own := RX6) (L := [some (.inl v0)]) (by decide) rfl trivial (Nat.le_of_ble_eq_true rfl) rfl ?_
  intro p l e s m args below meth c C hr
  unfold X6_asBit at hM
  refine v_iload_n C 0 dX6_asBit_0 rfl rfl ?_
  refine v_if_eq C 8 dX6_asBit_1 rfl hM (fun hM => ?_) (fun hM => ?_)
  · refine v_iconst C (nI 0) dX6_asBit_8 zk_0 ?_
    exact v_iret2 C hr dX6_asBit_9 hM
  · refine v_iconst C (nI 1) dX6_asBit_4 zk_1 ?_
    refine v_goto C 9 dX6_asBit_5 rfl ?_
    exact v_iret2 C hr dX6_asBit_9 hM

theorem c_X6_isWithin {X : zX} (hX : zfl X = false) {v0 : Int32} {v1 : Int32} {v2 : Int32} {g gr : zG} {rr : Int32}  (hM : X6_isWithin v0 v1 v2 g = some (rr, gr)) : MC X yX6_isWithin cX6_isWithin 3 (some .boolean) 0 [.inl v0, .inl v1, .inl v2] (some (.inl rr)) g gr := by
  refine MC.mk (own := RX6) (L := [some (.inl v0), some (.inl v1), some (.inl v2)]) (by decide) rfl trivial (Nat.le_of_ble_eq_true rfl) rfl ?_
  intro p l e s m args below meth c C hr
  unfold X6_isWithin at hM
  refine v_iload_n C 0 dX6_isWithin_0 rfl rfl ?_
  refine v_iload_n C 1 dX6_isWithin_1 rfl rfl ?_
  refine v_icmp_lt C 14 dX6_isWithin_2 rfl hM (fun hM => ?_) (fun hM => ?_)
  · refine v_iconst C (nI 0) dX6_isWithin_14 zk_0 ?_
    exact v_zret2 C hr (zbo_n (Or.inl rfl)) dX6_isWithin_15 hM
  · refine v_iload_n C 0 dX6_isWithin_5 rfl rfl ?_
    refine v_iload_n C 2 dX6_isWithin_6 rfl rfl ?_
    refine v_icmp_gt C 14 dX6_isWithin_7 rfl hM (fun hM => ?_) (fun hM => ?_)
    · refine v_iconst C (nI 0) dX6_isWithin_14 zk_0 ?_
      exact v_zret2 C hr (zbo_n (Or.inl rfl)) dX6_isWithin_15 hM
    · refine v_iconst C (nI 1) dX6_isWithin_10 zk_1 ?_
      refine v_goto C 15 dX6_isWithin_11 rfl ?_
      exact v_zret2 C hr (zbo_n (Or.inr rfl)) dX6_isWithin_15 hM

theorem t_X6_putBytes_b43 {v1 : Int32} {v2 : Int32} {k3 : Int32 → Int32 → zG → Option (Int32 × zG)} {g : zG} (hX : zfl X = false) (C : Cx X p (zrm 0) s m args meth c cX6_putBytes 3 RX6 0 0) (hr : meth.sig.returnType = none)  (hk3 : ∀ (v1 : Int32) (v2 : Int32) (g : zG),  k3 v1 v2 g = some (rr, gr) → V X p l e (zrm 0) s m args below meth c 3 0 0 (MQ below (zQ X (Option.map (zM X) none) gr) args s 0 0 (zF X)) g 3 [some (.inr (.inl (0, 0))), some (.inl v1), some (.inl v2)] []) (hM : X6_putBytes_b43 k3 v1 v2 g = some (rr, gr)) : V X p l e (zrm 0) s m args below meth c 3 0 0 (MQ below (zQ X (Option.map (zM X) none) gr) args s 0 0 (zF X)) g 43 [some (.inr (.inl (0, 0))), some (.inl v1), some (.inl v2)] [] := by
  unfold X6_putBytes_b43 at hM
  refine v_iinc (L' := [some (.inr (.inl (0, 0))), some (.inl v1), some (.inl (v2 + (-8)))]) C 2 (-8) dX6_putBytes_43 zk_m8 (by decide) rfl rfl ?_
  refine v_goto C 3 dX6_putBytes_46 rfl ?_
  exact hk3 v1 (v2 + (-8)) g  hM

theorem t_X6_putBytes_l3  (hX : zfl X = false) (C : Cx X p (zrm 0) s m args meth c cX6_putBytes 3 RX6 0 0) (hr : meth.sig.returnType = none)  : ∀ (n : Nat) {v1 : Int32} {v2 : Int32} (g : zG), X6_putBytes_l3  n v1 v2 g = some (rr, gr) → V X p l e (zrm 0) s m args below meth c 3 0 0 (MQ below (zQ X (Option.map (zM X) none) gr) args s 0 0 (zF X)) g 3 [some (.inr (.inl (0, 0))), some (.inl v1), some (.inl v2)] [] := by
  intro n
  induction n with
  | zero =>
    intro v1 v2 g  hM
    exact absurd (show (none : Option (Int32 × zG)) = some (rr, gr) from hM) (by simp)
  | succ n ih =>
    intro v1 v2 g  hM
    rw [X6_putBytes_l3.eq_2] at hM
    refine v_iload_n C 2 dX6_putBytes_3 rfl rfl ?_
    refine v_if_lt C 49 dX6_putBytes_4 rfl hM (fun hM => ?_) (fun hM => ?_)
    · exact v_vret2 C hr dX6_putBytes_49 hM
    · refine v_aload_n C 0 dX6_putBytes_7 rfl rfl ?_
      refine gf_RX6_58 C hX dX6_putBytes_8 ?_
      refine v_sipush C (nI 900) dX6_putBytes_11 zks_900 ?_
      refine v_icmp_ge C 43 dX6_putBytes_14 rfl hM (fun hM => ?_) (fun hM => ?_)
      · exact t_X6_putBytes_b43 hX C hr  (fun v1 v2 g  hM => ih g  hM) hM
      · refine v_aload_n C 0 dX6_putBytes_17 rfl rfl ?_
        refine gf_RX6_9 C hX dX6_putBytes_18 ?_
        refine v_aload_n C 0 dX6_putBytes_21 rfl rfl ?_
        refine gf_RX6_58 C hX dX6_putBytes_22 ?_
        refine v_iload_n C 1 dX6_putBytes_25 rfl rfl ?_
        refine v_iload_n C 2 dX6_putBytes_26 rfl rfl ?_
        refine v_ishr C dX6_putBytes_27 ?_
        refine v_sipush C (nI 255) dX6_putBytes_28 zks_255 ?_
        refine v_iand C dX6_putBytes_31 ?_
        refine is_10 C hX dX6_putBytes_32 hM (fun g1 hM => ?_)
        refine v_aload_n C 0 dX6_putBytes_33 rfl rfl ?_
        refine v_dup_a C dX6_putBytes_34 ?_
        refine gf_RX6_58 C hX dX6_putBytes_35 ?_
        refine v_iconst C (nI 1) dX6_putBytes_38 zk_1 ?_
        refine v_iadd C dX6_putBytes_39 ?_
        refine pf_RX6_58 C hX dX6_putBytes_40 hM (fun g2 hM => ?_)
        exact t_X6_putBytes_b43 hX C hr  (fun v1 v2 g  hM => ih g  hM) hM

theorem c_X6_putBytes {X : zX} (hX : zfl X = false) {v1 : Int32} {g gr : zG} {rr : Int32}  (hM : X6_putBytes v1 g = some (rr, gr)) : MC X yX6_putBytes cX6_putBytes 3 none 0 [.inr (.inl (0, 0)), .inl v1] none g gr := by
  refine MC.mk (own := RX6) (L := [some (.inr (.inl (0, 0))), some (.inl v1), none]) (by decide) rfl trivial (Nat.le_of_ble_eq_true rfl) rfl ?_
  intro p l e s m args below meth c C hr
  unfold X6_putBytes at hM
  refine v_bipush C (nI 24) dX6_putBytes_0 zkb_24 ?_
  refine v_istore_n (L' := [some (.inr (.inl (0, 0))), some (.inl v1), some (.inl (nI 24))]) C 2 dX6_putBytes_2 rfl (by decide) rfl ?_
  exact t_X6_putBytes_l3 hX C hr  _ g  hM

theorem c_X6_feed {X : zX} (hX : zfl X = false) {v1 : Int32} {v2 : Int32} {v3 : Int32} {v4 : Int32} {v5 : Int32} {g gr : zG} {rr : Int32}  (hM : X6_feed v1 v2 v3 v4 v5 g = some (rr, gr)) : MC X yX6_feed cX6_feed 6 (some .int) 1 [.inr (.inl (0, 0)), .inl v1, .inl v2, .inl v3, .inl v4, .inl v5] (some (.inl rr)) g gr := by
  refine MC.mk (own := RX6) (L := [some (.inr (.inl (0, 0))), some (.inl v1), some (.inl v2), some (.inl v3), some (.inl v4), some (.inl v5)]) (by decide) rfl trivial (Nat.le_of_ble_eq_true rfl) rfl ?_
  intro p l e s m args below meth c C hr
  unfold X6_feed at hM
  refine v_aload_n C 0 dX6_feed_0 rfl rfl ?_
  refine gf_RX6_58 C hX dX6_feed_1 ?_
  refine v_bipush C (nI 20) dX6_feed_4 zkb_20 ?_
  refine v_iadd C dX6_feed_6 ?_
  refine v_sipush C (nI 900) dX6_feed_7 zks_900 ?_
  refine v_icmp_le C 15 dX6_feed_10 rfl hM (fun hM => ?_) (fun hM => ?_)
  · refine v_aload_n C 0 dX6_feed_15 rfl rfl ?_
    refine v_iload_n C 1 dX6_feed_16 rfl rfl ?_
    obtain ⟨x1, g2, e3, hM⟩ := zc_elim hM
    refine v_callVv (ci := 6) (rest := []) C (c_X6_putBytes hX  e3) mw_X6_putBytes mi_X6_putBytes ml_RX6_61 hX.symm zm0 rfl rfl ⟨by decide, Nat.le_of_ble_eq_true rfl⟩ rfl (Nat.le_of_ble_eq_true rfl) dX6_feed_17 rfl ?_
    refine v_aload_n C 0 dX6_feed_20 rfl rfl ?_
    refine v_iload_n C 2 dX6_feed_21 rfl rfl ?_
    obtain ⟨x4, g5, e6, hM⟩ := zc_elim hM
    refine v_callVv (ci := 6) (rest := []) C (c_X6_putBytes hX  e6) mw_X6_putBytes mi_X6_putBytes ml_RX6_61 hX.symm zm0 rfl rfl ⟨by decide, Nat.le_of_ble_eq_true rfl⟩ rfl (Nat.le_of_ble_eq_true rfl) dX6_feed_22 rfl ?_
    refine v_aload_n C 0 dX6_feed_25 rfl rfl ?_
    refine v_iload_n C 3 dX6_feed_26 rfl rfl ?_
    obtain ⟨x7, g8, e9, hM⟩ := zc_elim hM
    refine v_callVv (ci := 6) (rest := []) C (c_X6_putBytes hX  e9) mw_X6_putBytes mi_X6_putBytes ml_RX6_61 hX.symm zm0 rfl rfl ⟨by decide, Nat.le_of_ble_eq_true rfl⟩ rfl (Nat.le_of_ble_eq_true rfl) dX6_feed_27 rfl ?_
    refine v_aload_n C 0 dX6_feed_30 rfl rfl ?_
    refine v_iload C 4 dX6_feed_31 rfl ?_
    obtain ⟨x10, g11, e12, hM⟩ := zc_elim hM
    refine v_callVv (ci := 6) (rest := []) C (c_X6_putBytes hX  e12) mw_X6_putBytes mi_X6_putBytes ml_RX6_61 hX.symm zm0 rfl rfl ⟨by decide, Nat.le_of_ble_eq_true rfl⟩ rfl (Nat.le_of_ble_eq_true rfl) dX6_feed_33 rfl ?_
    refine v_aload_n C 0 dX6_feed_36 rfl rfl ?_
    refine v_iload C 5 dX6_feed_37 rfl ?_
    obtain ⟨x13, g14, e15, hM⟩ := zc_elim hM
    refine v_callVv (ci := 6) (rest := []) C (c_X6_putBytes hX  e15) mw_X6_putBytes mi_X6_putBytes ml_RX6_61 hX.symm zm0 rfl rfl ⟨by decide, Nat.le_of_ble_eq_true rfl⟩ rfl (Nat.le_of_ble_eq_true rfl) dX6_feed_39 rfl ?_
    refine v_aload_n C 0 dX6_feed_42 rfl rfl ?_
    refine gf_RX6_58 C hX dX6_feed_43 ?_
    exact v_iret2 C hr dX6_feed_46 hM
  · refine v_iconst C (-1) dX6_feed_13 zk_m1 ?_
    exact v_iret2 C hr dX6_feed_14 hM

theorem c_X6_machine {X : zX} (hX : zfl X = false) {v1 : Int32} {g gr : zG} {rr : Int32}  (hM : X6_machine v1 g = some (rr, gr)) : MC X yX6_machine cX6_machine 2 (some .int) 10 [.inr (.inl (0, 0)), .inl v1] (some (.inl rr)) g gr := by
  refine MC.mk (own := RX6) (L := [some (.inr (.inl (0, 0))), some (.inl v1)]) (by decide) rfl trivial (Nat.le_of_ble_eq_true rfl) rfl ?_
  intro p l e s m args below meth c C hr
  unfold X6_machine at hM
  refine v_iload_n C 1 dX6_machine_0 rfl rfl ?_
  refine v_iconst C (nI 0) dX6_machine_1 zk_0 ?_
  refine v_aload_n C 0 dX6_machine_2 rfl rfl ?_
  refine gf_RX6_58 C hX dX6_machine_3 ?_
  obtain ⟨x1, g2, e3, hM⟩ := zc_elim hM
  refine v_callSi (rest := []) C (c_X6_isWithin hX  e3) mw_X6_isWithin ms_X6_isWithin ml_RX6_65 ⟨by decide, Nat.le_of_ble_eq_true rfl⟩ rfl (Nat.le_of_ble_eq_true rfl) dX6_machine_6 rfl ?_
  refine v_if_ne C 18 dX6_machine_9 rfl hM (fun hM => ?_) (fun hM => ?_)
  · refine v_aload_n C 0 dX6_machine_18 rfl rfl ?_
    refine v_iconst C (nI 0) dX6_machine_19 zk_0 ?_
    refine pf_RX6_58 C hX dX6_machine_20 hM (fun g4 hM => ?_)
    refine v_aload_n C 0 dX6_machine_23 rfl rfl ?_
    refine gf_RX6_28 C hX dX6_machine_24 ?_
    refine v_iload_n C 1 dX6_machine_27 rfl rfl ?_
    obtain ⟨x5, g6, e7, hM⟩ := zc_elim hM
    refine v_callVNi (ci := 5) (rest := []) C (c_X5_readText hX  e7) mw_X5_readText mi_X5_readText ml_RX6_73 hX.symm zm2 rfl rfl ⟨by decide, Nat.le_of_ble_eq_true rfl⟩ rfl (Nat.le_of_ble_eq_true rfl) dX6_machine_28 rfl ?_
    refine v_if_ne C 51 dX6_machine_31 rfl hM (fun hM => ?_) (fun hM => ?_)
    · refine v_aload_n C 0 dX6_machine_51 rfl rfl ?_
      refine v_iconst C (nI 0) dX6_machine_52 zk_0 ?_
      refine pf_RX6_80 C hX dX6_machine_53 hM (fun g8 hM => ?_)
      refine v_aload_n C 0 dX6_machine_56 rfl rfl ?_
      refine gf_RX6_16 C hX dX6_machine_57 ?_
      refine v_aload_n C 0 dX6_machine_60 rfl rfl ?_
      refine gf_RX6_20 C hX dX6_machine_61 ?_
      obtain ⟨x9, g10, e11, hM⟩ := zc_elim hM
      refine v_callVNv (ci := 2) (rest := []) C (c_X2_copyFrom hX (by decide) (by decide) e11) mw_X2_copyFrom mi_X2_copyFrom ml_RX6_83 hX.symm (zm1 (by decide)) rfl rfl ⟨by decide, Nat.le_of_ble_eq_true rfl⟩ rfl (Nat.le_of_ble_eq_true rfl) dX6_machine_64 rfl ?_
      refine v_aload_n C 0 dX6_machine_67 rfl rfl ?_
      refine gf_RX6_37 C hX dX6_machine_68 ?_
      refine v_aload_n C 0 dX6_machine_71 rfl rfl ?_
      refine gf_RX6_16 C hX dX6_machine_72 ?_
      refine gf_RX6_86 C hX (by decide) dX6_machine_75 ?_
      refine v_aload_n C 0 dX6_machine_78 rfl rfl ?_
      refine gf_RX6_16 C hX dX6_machine_79 ?_
      refine gf_RX6_89 C hX (by decide) dX6_machine_82 ?_
      obtain ⟨x12, g13, e14, hM⟩ := zc_elim hM
      refine v_callVNv (ci := 3) (rest := []) C (c_X3_startOver hX (by decide) e14) mw_X3_startOver mi_X3_startOver ml_RX6_92 hX.symm (zm3 (by decide)) rfl rfl ⟨by decide, Nat.le_of_ble_eq_true rfl⟩ rfl (Nat.le_of_ble_eq_true rfl) dX6_machine_85 rfl ?_
      refine v_aload_n C 0 dX6_machine_88 rfl rfl ?_
      refine v_iconst C (nI 1) dX6_machine_89 zk_1 ?_
      refine pf_RX6_96 C hX dX6_machine_90 (Or.inr rfl) hM (fun g15 hM => ?_)
      refine v_aload_n C 0 dX6_machine_93 rfl rfl ?_
      refine v_iconst C (nI 0) dX6_machine_94 zk_0 ?_
      refine pf_RX6_100 C hX dX6_machine_95 (Or.inl rfl) hM (fun g16 hM => ?_)
      refine v_aload_n C 0 dX6_machine_98 rfl rfl ?_
      refine v_aload_n C 0 dX6_machine_99 rfl rfl ?_
      refine gf_RX6_16 C hX dX6_machine_100 ?_
      refine gf_RX6_103 C hX (by decide) dX6_machine_103 ?_
      obtain ⟨x17, g18, e19, hM⟩ := zc_elim hM
      refine v_callVi (ci := 6) (rest := []) C (c_X6_answer hX  e19) mw_X6_answer mi_X6_answer ml_RX6_106 hX.symm zm0 rfl rfl ⟨by decide, Nat.le_of_ble_eq_true rfl⟩ rfl (Nat.le_of_ble_eq_true rfl) dX6_machine_106 rfl ?_
      exact v_iret2 C hr dX6_machine_109 hM
    · refine v_aload_n C 0 dX6_machine_34 rfl rfl ?_
      refine v_aload_n C 0 dX6_machine_35 rfl rfl ?_
      refine gf_RX6_28 C hX dX6_machine_36 ?_
      refine gf_RX6_77 C hX dX6_machine_39 ?_
      refine pf_RX6_80 C hX dX6_machine_42 hM (fun g20 hM => ?_)
      refine v_aload_n C 0 dX6_machine_45 rfl rfl ?_
      refine v_iconst C (nI 4) dX6_machine_46 zk_4 ?_
      obtain ⟨x21, g22, e23, hM⟩ := zc_elim hM
      refine v_callVi (ci := 6) (rest := []) C (c_X6_refuse hX  e23) mw_X6_refuse mi_X6_refuse ml_RX6_69 hX.symm zm0 rfl rfl ⟨by decide, Nat.le_of_ble_eq_true rfl⟩ rfl (Nat.le_of_ble_eq_true rfl) dX6_machine_47 rfl ?_
      exact v_iret2 C hr dX6_machine_50 hM
  · refine v_aload_n C 0 dX6_machine_12 rfl rfl ?_
    refine v_iconst C (nI 2) dX6_machine_13 zk_2 ?_
    obtain ⟨x24, g25, e26, hM⟩ := zc_elim hM
    refine v_callVi (ci := 6) (rest := []) C (c_X6_refuse hX  e26) mw_X6_refuse mi_X6_refuse ml_RX6_69 hX.symm zm0 rfl rfl ⟨by decide, Nat.le_of_ble_eq_true rfl⟩ rfl (Nat.le_of_ble_eq_true rfl) dX6_machine_14 rfl ?_
    exact v_iret2 C hr dX6_machine_17 hM

theorem c_X6_fault {X : zX} (hX : zfl X = false)  {g gr : zG} {rr : Int32}  (hM : X6_fault  g = some (rr, gr)) : MC X yX6_fault cX6_fault 1 (some .int) 0 [.inr (.inl (0, 0))] (some (.inl rr)) g gr := by
  refine MC.mk (own := RX6) (L := [some (.inr (.inl (0, 0)))]) (by decide) rfl trivial (Nat.le_of_ble_eq_true rfl) rfl ?_
  intro p l e s m args below meth c C hr
  unfold X6_fault at hM
  refine v_aload_n C 0 dX6_fault_0 rfl rfl ?_
  refine gf_RX6_80 C hX dX6_fault_1 ?_
  exact v_iret2 C hr dX6_fault_4 hM

theorem c_X6_where {X : zX} (hX : zfl X = false)  {g gr : zG} {rr : Int32}  (hM : X6_where  g = some (rr, gr)) : MC X yX6_where cX6_where 1 (some .int) 0 [.inr (.inl (0, 0))] (some (.inl rr)) g gr := by
  refine MC.mk (own := RX6) (L := [some (.inr (.inl (0, 0)))]) (by decide) rfl trivial (Nat.le_of_ble_eq_true rfl) rfl ?_
  intro p l e s m args below meth c C hr
  unfold X6_where at hM
  refine v_aload_n C 0 dX6_where_0 rfl rfl ?_
  refine gf_RX6_54 C hX dX6_where_1 ?_
  refine v_iconst C (nI 4) dX6_where_4 zk_4 ?_
  refine v_icmp_ne C 18 dX6_where_5 rfl hM (fun hM => ?_) (fun hM => ?_)
  · refine v_iconst C (-1) dX6_where_18 zk_m1 ?_
    exact v_iret2 C hr dX6_where_19 hM
  · refine v_aload_n C 0 dX6_where_8 rfl rfl ?_
    refine gf_RX6_28 C hX dX6_where_9 ?_
    refine gf_RX6_109 C hX dX6_where_12 ?_
    refine v_goto C 19 dX6_where_15 rfl ?_
    exact v_iret2 C hr dX6_where_19 hM

theorem c_X6_about {X : zX} (hX : zfl X = false) {v1 : Int32} {g gr : zG} {rr : Int32}  (hM : X6_about v1 g = some (rr, gr)) : MC X yX6_about cX6_about 2 (some .int) 1 [.inr (.inl (0, 0)), .inl v1] (some (.inl rr)) g gr := by
  refine MC.mk (own := RX6) (L := [some (.inr (.inl (0, 0))), some (.inl v1)]) (by decide) rfl trivial (Nat.le_of_ble_eq_true rfl) rfl ?_
  intro p l e s m args below meth c C hr
  unfold X6_about at hM
  refine v_aload_n C 0 dX6_about_0 rfl rfl ?_
  refine gf_RX6_96 C hX dX6_about_1 ?_
  refine v_if_ne C 13 dX6_about_4 rfl hM (fun hM => ?_) (fun hM => ?_)
  · refine v_iload_n C 1 dX6_about_13 rfl rfl ?_
    by_cases hx0 : v1 = (nI 0)
    · rw [if_pos hx0] at hM
      refine v_tblIn C 64 0 dX6_about_14 (by rw [hx0]; rfl) (by decide) (by decide) rfl rfl ?_
      refine v_aload_n C 0 dX6_about_64 rfl rfl ?_
      refine v_aload_n C 0 dX6_about_65 rfl rfl ?_
      refine gf_RX6_16 C hX dX6_about_66 ?_
      refine gf_RX6_112 C hX (by decide) dX6_about_69 ?_
      obtain ⟨x1, g2, e3, hM⟩ := zc_elim hM
      refine v_callVi (ci := 6) (rest := []) C (c_X6_answer hX  e3) mw_X6_answer mi_X6_answer ml_RX6_106 hX.symm zm0 rfl rfl ⟨by decide, Nat.le_of_ble_eq_true rfl⟩ rfl (Nat.le_of_ble_eq_true rfl) dX6_about_72 rfl ?_
      exact v_iret2 C hr dX6_about_75 hM
    rw [if_neg hx0] at hM
    by_cases hx1 : v1 = (nI 1)
    · rw [if_pos hx1] at hM
      refine v_tblIn C 76 1 dX6_about_14 (by rw [hx1]; rfl) (by decide) (by decide) rfl rfl ?_
      refine v_aload_n C 0 dX6_about_76 rfl rfl ?_
      refine v_aload_n C 0 dX6_about_77 rfl rfl ?_
      refine gf_RX6_16 C hX dX6_about_78 ?_
      refine gf_RX6_115 C hX (by decide) dX6_about_81 ?_
      obtain ⟨x4, g5, e6, hM⟩ := zc_elim hM
      refine v_callVi (ci := 6) (rest := []) C (c_X6_answer hX  e6) mw_X6_answer mi_X6_answer ml_RX6_106 hX.symm zm0 rfl rfl ⟨by decide, Nat.le_of_ble_eq_true rfl⟩ rfl (Nat.le_of_ble_eq_true rfl) dX6_about_84 rfl ?_
      exact v_iret2 C hr dX6_about_87 hM
    rw [if_neg hx1] at hM
    by_cases hx2 : v1 = (nI 2)
    · rw [if_pos hx2] at hM
      refine v_tblIn C 88 2 dX6_about_14 (by rw [hx2]; rfl) (by decide) (by decide) rfl rfl ?_
      refine v_aload_n C 0 dX6_about_88 rfl rfl ?_
      refine v_aload_n C 0 dX6_about_89 rfl rfl ?_
      refine gf_RX6_16 C hX dX6_about_90 ?_
      refine gf_RX6_118 C hX (by decide) dX6_about_93 ?_
      obtain ⟨x7, g8, e9, hM⟩ := zc_elim hM
      refine v_callVi (ci := 6) (rest := []) C (c_X6_answer hX  e9) mw_X6_answer mi_X6_answer ml_RX6_106 hX.symm zm0 rfl rfl ⟨by decide, Nat.le_of_ble_eq_true rfl⟩ rfl (Nat.le_of_ble_eq_true rfl) dX6_about_96 rfl ?_
      exact v_iret2 C hr dX6_about_99 hM
    rw [if_neg hx2] at hM
    by_cases hx3 : v1 = (nI 3)
    · rw [if_pos hx3] at hM
      refine v_tblIn C 100 3 dX6_about_14 (by rw [hx3]; rfl) (by decide) (by decide) rfl rfl ?_
      refine v_aload_n C 0 dX6_about_100 rfl rfl ?_
      refine v_aload_n C 0 dX6_about_101 rfl rfl ?_
      refine gf_RX6_16 C hX dX6_about_102 ?_
      refine gf_RX6_86 C hX (by decide) dX6_about_105 ?_
      obtain ⟨x10, g11, e12, hM⟩ := zc_elim hM
      refine v_callVi (ci := 6) (rest := []) C (c_X6_answer hX  e12) mw_X6_answer mi_X6_answer ml_RX6_106 hX.symm zm0 rfl rfl ⟨by decide, Nat.le_of_ble_eq_true rfl⟩ rfl (Nat.le_of_ble_eq_true rfl) dX6_about_108 rfl ?_
      exact v_iret2 C hr dX6_about_111 hM
    rw [if_neg hx3] at hM
    by_cases hx4 : v1 = (nI 4)
    · rw [if_pos hx4] at hM
      refine v_tblIn C 112 4 dX6_about_14 (by rw [hx4]; rfl) (by decide) (by decide) rfl rfl ?_
      refine v_aload_n C 0 dX6_about_112 rfl rfl ?_
      refine v_aload_n C 0 dX6_about_113 rfl rfl ?_
      refine gf_RX6_16 C hX dX6_about_114 ?_
      refine gf_RX6_89 C hX (by decide) dX6_about_117 ?_
      obtain ⟨x13, g14, e15, hM⟩ := zc_elim hM
      refine v_callVi (ci := 6) (rest := []) C (c_X6_answer hX  e15) mw_X6_answer mi_X6_answer ml_RX6_106 hX.symm zm0 rfl rfl ⟨by decide, Nat.le_of_ble_eq_true rfl⟩ rfl (Nat.le_of_ble_eq_true rfl) dX6_about_120 rfl ?_
      exact v_iret2 C hr dX6_about_123 hM
    rw [if_neg hx4] at hM
    by_cases hx5 : v1 = (nI 5)
    · rw [if_pos hx5] at hM
      refine v_tblIn C 124 5 dX6_about_14 (by rw [hx5]; rfl) (by decide) (by decide) rfl rfl ?_
      refine v_aload_n C 0 dX6_about_124 rfl rfl ?_
      refine v_aload_n C 0 dX6_about_125 rfl rfl ?_
      refine gf_RX6_16 C hX dX6_about_126 ?_
      refine gf_RX6_103 C hX (by decide) dX6_about_129 ?_
      obtain ⟨x16, g17, e18, hM⟩ := zc_elim hM
      refine v_callVi (ci := 6) (rest := []) C (c_X6_answer hX  e18) mw_X6_answer mi_X6_answer ml_RX6_106 hX.symm zm0 rfl rfl ⟨by decide, Nat.le_of_ble_eq_true rfl⟩ rfl (Nat.le_of_ble_eq_true rfl) dX6_about_132 rfl ?_
      exact v_iret2 C hr dX6_about_135 hM
    rw [if_neg hx5] at hM
    by_cases hx6 : v1 = (nI 6)
    · rw [if_pos hx6] at hM
      refine v_tblIn C 136 6 dX6_about_14 (by rw [hx6]; rfl) (by decide) (by decide) rfl rfl ?_
      refine v_aload_n C 0 dX6_about_136 rfl rfl ?_
      refine v_aload_n C 0 dX6_about_137 rfl rfl ?_
      refine gf_RX6_16 C hX dX6_about_138 ?_
      obtain ⟨x19, g20, e21, hM⟩ := zc_elim hM
      refine v_callVNi (ci := 2) (rest := [(.inr (.inl (0, 0)))]) C (c_X2_addresses hX (by decide) e21) mw_X2_addresses mi_X2_addresses ml_RX6_121 hX.symm (zm1 (by decide)) rfl rfl ⟨by decide, Nat.le_of_ble_eq_true rfl⟩ rfl (Nat.le_of_ble_eq_true rfl) dX6_about_141 rfl ?_
      obtain ⟨x22, g23, e24, hM⟩ := zc_elim hM
      refine v_callVi (ci := 6) (rest := []) C (c_X6_answer hX  e24) mw_X6_answer mi_X6_answer ml_RX6_106 hX.symm zm0 rfl rfl ⟨by decide, Nat.le_of_ble_eq_true rfl⟩ rfl (Nat.le_of_ble_eq_true rfl) dX6_about_144 rfl ?_
      exact v_iret2 C hr dX6_about_147 hM
    rw [if_neg hx6] at hM
    by_cases hx7 : v1 = (nI 7)
    · rw [if_pos hx7] at hM
      refine v_tblIn C 148 7 dX6_about_14 (by rw [hx7]; rfl) (by decide) (by decide) rfl rfl ?_
      refine v_aload_n C 0 dX6_about_148 rfl rfl ?_
      refine v_aload_n C 0 dX6_about_149 rfl rfl ?_
      refine gf_RX6_37 C hX dX6_about_150 ?_
      refine gf_RX6_125 C hX (by decide) dX6_about_153 ?_
      obtain ⟨x25, g26, e27, hM⟩ := zc_elim hM
      refine v_callVi (ci := 6) (rest := []) C (c_X6_answer hX  e27) mw_X6_answer mi_X6_answer ml_RX6_106 hX.symm zm0 rfl rfl ⟨by decide, Nat.le_of_ble_eq_true rfl⟩ rfl (Nat.le_of_ble_eq_true rfl) dX6_about_156 rfl ?_
      exact v_iret2 C hr dX6_about_159 hM
    rw [if_neg hx7] at hM
    by_cases hx8 : v1 = (nI 8)
    · rw [if_pos hx8] at hM
      refine v_tblIn C 160 8 dX6_about_14 (by rw [hx8]; rfl) (by decide) (by decide) rfl rfl ?_
      refine v_aload_n C 0 dX6_about_160 rfl rfl ?_
      refine v_aload_n C 0 dX6_about_161 rfl rfl ?_
      refine gf_RX6_37 C hX dX6_about_162 ?_
      refine gf_RX6_128 C hX (by decide) dX6_about_165 ?_
      obtain ⟨x28, g29, e30, hM⟩ := zc_elim hM
      refine v_callVi (ci := 6) (rest := []) C (c_X6_answer hX  e30) mw_X6_answer mi_X6_answer ml_RX6_106 hX.symm zm0 rfl rfl ⟨by decide, Nat.le_of_ble_eq_true rfl⟩ rfl (Nat.le_of_ble_eq_true rfl) dX6_about_168 rfl ?_
      exact v_iret2 C hr dX6_about_171 hM
    rw [if_neg hx8] at hM
    refine v_tblOut C 172 dX6_about_14 (ztbl 9 rfl (by intro k hk; match k, hk with | 0, _ => exact hx0 | 1, _ => exact hx1 | 2, _ => exact hx2 | 3, _ => exact hx3 | 4, _ => exact hx4 | 5, _ => exact hx5 | 6, _ => exact hx6 | 7, _ => exact hx7 | 8, _ => exact hx8 | k + 9, hk => omega)) rfl ?_
    refine v_aload_n C 0 dX6_about_172 rfl rfl ?_
    refine v_iconst C (nI 1) dX6_about_173 zk_1 ?_
    obtain ⟨x31, g32, e33, hM⟩ := zc_elim hM
    refine v_callVi (ci := 6) (rest := []) C (c_X6_refuse hX  e33) mw_X6_refuse mi_X6_refuse ml_RX6_69 hX.symm zm0 rfl rfl ⟨by decide, Nat.le_of_ble_eq_true rfl⟩ rfl (Nat.le_of_ble_eq_true rfl) dX6_about_174 rfl ?_
    exact v_iret2 C hr dX6_about_177 hM
  · refine v_aload_n C 0 dX6_about_7 rfl rfl ?_
    refine v_iconst C (nI 1) dX6_about_8 zk_1 ?_
    obtain ⟨x34, g35, e36, hM⟩ := zc_elim hM
    refine v_callVi (ci := 6) (rest := []) C (c_X6_refuse hX  e36) mw_X6_refuse mi_X6_refuse ml_RX6_69 hX.symm zm0 rfl rfl ⟨by decide, Nat.le_of_ble_eq_true rfl⟩ rfl (Nat.le_of_ble_eq_true rfl) dX6_about_9 rfl ?_
    exact v_iret2 C hr dX6_about_12 hM

theorem t_X6_deed_b21   {g : zG} (hX : zfl X = false) (C : Cx X p (zrm 2) s m args meth c cX6_deed 4 RX6 0 0) (hr : meth.sig.returnType = (some .int))   (hM : X6_deed_b21   g = some (rr, gr)) : V X p l e (zrm 2) s m args below meth c 4 0 0 (MQ below (zQ X (Option.map (zM X) (some (.inl rr))) gr) args s 0 0 (zF X)) g 21 [some (.inr (.inl (0, 0))), none, none, none] [] := by
  unfold X6_deed_b21 at hM
  refine v_aload_n C 0 dX6_deed_21 rfl rfl ?_
  refine v_iconst C (nI 1) dX6_deed_22 zk_1 ?_
  obtain ⟨x1, g2, e3, hM⟩ := zc_elim hM
  refine v_callVi (ci := 6) (rest := []) C (c_X6_refuse hX  e3) mw_X6_refuse mi_X6_refuse ml_RX6_69 hX.symm zm0 rfl rfl ⟨by decide, Nat.le_of_ble_eq_true rfl⟩ rfl (Nat.le_of_ble_eq_true rfl) dX6_deed_23 rfl ?_
  exact v_iret2 C hr dX6_deed_26 hM

theorem t_X6_deed_b75 {s1 : Int32}  {g : zG} (hX : zfl X = false) (C : Cx X p (zrm 2) s m args meth c cX6_deed 4 RX6 0 0) (hr : meth.sig.returnType = (some .int))   (hM : X6_deed_b75  s1 g = some (rr, gr)) : V X p l e (zrm 2) s m args below meth c 4 0 0 (MQ below (zQ X (Option.map (zM X) (some (.inl rr))) gr) args s 0 0 (zF X)) g 75 [none, none, none, none] [(.inl s1), (.inr (.inl (0, 0)))] := by
  unfold X6_deed_b75 at hM
  obtain ⟨x1, g2, e3, hM⟩ := zc_elim hM
  refine v_callVi (ci := 6) (rest := []) C (c_X6_answer hX  e3) mw_X6_answer mi_X6_answer ml_RX6_106 hX.symm zm0 rfl rfl ⟨by decide, Nat.le_of_ble_eq_true rfl⟩ rfl (Nat.le_of_ble_eq_true rfl) dX6_deed_75 rfl ?_
  exact v_iret2 C hr dX6_deed_78 hM

theorem c_X6_deed {X : zX} (hX : zfl X = false) {v1 : Int32} {v2 : Int32} {v3 : Int32} {g gr : zG} {rr : Int32}  (hM : X6_deed v1 v2 v3 g = some (rr, gr)) : MC X yX6_deed cX6_deed 4 (some .int) 2 [.inr (.inl (0, 0)), .inl v1, .inl v2, .inl v3] (some (.inl rr)) g gr := by
  refine MC.mk (own := RX6) (L := [some (.inr (.inl (0, 0))), some (.inl v1), some (.inl v2), some (.inl v3)]) (by decide) rfl trivial (Nat.le_of_ble_eq_true rfl) rfl ?_
  intro p l e s m args below meth c C hr
  unfold X6_deed at hM
  refine v_aload_n C 0 dX6_deed_0 rfl rfl ?_
  refine gf_RX6_16 C hX dX6_deed_1 ?_
  refine v_iload_n C 1 dX6_deed_4 rfl rfl ?_
  refine v_iload_n C 2 dX6_deed_5 rfl rfl ?_
  obtain ⟨x1, g2, e3, hM⟩ := zc_elim hM
  refine v_callVNi (ci := 2) (rest := []) C (c_X2_hasDeed hX (by decide) e3) mw_X2_hasDeed mi_X2_hasDeed ml_RX6_131 hX.symm (zm1 (by decide)) rfl rfl ⟨by decide, Nat.le_of_ble_eq_true rfl⟩ rfl (Nat.le_of_ble_eq_true rfl) dX6_deed_6 rfl ?_
  refine v_if_eq C 21 dX6_deed_9 rfl hM (fun hM => ?_) (fun hM => ?_)
  · exact v_weak (t_X6_deed_b21 hX C hr   hM) (show zsub [some (.inr (.inl (0, 0))), none, none, none] [some (.inr (.inl (0, 0))), some (.inl v1), some (.inl v2), some (.inl v3)] from ⟨rfl, trivial⟩)
  · refine v_iload_n C 3 dX6_deed_12 rfl rfl ?_
    refine v_iconst C (nI 0) dX6_deed_13 zk_0 ?_
    refine v_iconst C (nI 2) dX6_deed_14 zk_2 ?_
    obtain ⟨x4, g5, e6, hM⟩ := zc_elim hM
    refine v_callSi (rest := []) C (c_X6_isWithin hX  e6) mw_X6_isWithin ms_X6_isWithin ml_RX6_65 ⟨by decide, Nat.le_of_ble_eq_true rfl⟩ rfl (Nat.le_of_ble_eq_true rfl) dX6_deed_15 rfl ?_
    refine v_if_ne C 27 dX6_deed_18 rfl hM (fun hM => ?_) (fun hM => ?_)
    · refine v_iload_n C 3 dX6_deed_27 rfl rfl ?_
      refine v_if_ne C 45 dX6_deed_28 rfl hM (fun hM => ?_) (fun hM => ?_)
      · refine v_aload_n C 0 dX6_deed_45 rfl rfl ?_
        refine v_iload_n C 3 dX6_deed_46 rfl rfl ?_
        refine v_iconst C (nI 1) dX6_deed_47 zk_1 ?_
        refine v_icmp_ne C 63 dX6_deed_48 rfl hM (fun hM => ?_) (fun hM => ?_)
        · refine v_aload_n C 0 dX6_deed_63 rfl rfl ?_
          refine gf_RX6_16 C hX dX6_deed_64 ?_
          refine v_iload_n C 1 dX6_deed_67 rfl rfl ?_
          refine v_iload_n C 2 dX6_deed_68 rfl rfl ?_
          obtain ⟨x7, g8, e9, hM⟩ := zc_elim hM
          refine v_callVNi (ci := 2) (rest := [(.inr (.inl (0, 0)))]) C (c_X2_isIndexed hX (by decide) e9) mw_X2_isIndexed mi_X2_isIndexed ml_RX6_142 hX.symm (zm1 (by decide)) rfl rfl ⟨by decide, Nat.le_of_ble_eq_true rfl⟩ rfl (Nat.le_of_ble_eq_true rfl) dX6_deed_69 rfl ?_
          obtain ⟨x10, g11, e12, hM⟩ := zc_elim hM
          refine v_callSi (rest := [(.inr (.inl (0, 0)))]) C (c_X6_asBit hX  e12) mw_X6_asBit ms_X6_asBit ml_RX6_145 ⟨by decide, Nat.le_of_ble_eq_true rfl⟩ rfl (Nat.le_of_ble_eq_true rfl) dX6_deed_72 rfl ?_
          exact v_weak (t_X6_deed_b75 hX C hr   hM) (show zsub [none, none, none, none] [some (.inr (.inl (0, 0))), some (.inl v1), some (.inl v2), some (.inl v3)] from trivial)
        · refine v_aload_n C 0 dX6_deed_51 rfl rfl ?_
          refine gf_RX6_16 C hX dX6_deed_52 ?_
          refine v_iload_n C 1 dX6_deed_55 rfl rfl ?_
          refine v_iload_n C 2 dX6_deed_56 rfl rfl ?_
          obtain ⟨x13, g14, e15, hM⟩ := zc_elim hM
          refine v_callVNi (ci := 2) (rest := [(.inr (.inl (0, 0)))]) C (c_X2_wholeOf hX (by decide) e15) mw_X2_wholeOf mi_X2_wholeOf ml_RX6_139 hX.symm (zm1 (by decide)) rfl rfl ⟨by decide, Nat.le_of_ble_eq_true rfl⟩ rfl (Nat.le_of_ble_eq_true rfl) dX6_deed_57 rfl ?_
          refine v_goto C 75 dX6_deed_60 rfl ?_
          exact v_weak (t_X6_deed_b75 hX C hr   hM) (show zsub [none, none, none, none] [some (.inr (.inl (0, 0))), some (.inl v1), some (.inl v2), some (.inl v3)] from trivial)
      · refine v_aload_n C 0 dX6_deed_31 rfl rfl ?_
        refine v_aload_n C 0 dX6_deed_32 rfl rfl ?_
        refine gf_RX6_16 C hX dX6_deed_33 ?_
        refine v_iload_n C 1 dX6_deed_36 rfl rfl ?_
        refine v_iload_n C 2 dX6_deed_37 rfl rfl ?_
        obtain ⟨x16, g17, e18, hM⟩ := zc_elim hM
        refine v_callVNi (ci := 2) (rest := [(.inr (.inl (0, 0)))]) C (c_X2_sortOf hX (by decide) e18) mw_X2_sortOf mi_X2_sortOf ml_RX6_135 hX.symm (zm1 (by decide)) rfl rfl ⟨by decide, Nat.le_of_ble_eq_true rfl⟩ rfl (Nat.le_of_ble_eq_true rfl) dX6_deed_38 rfl ?_
        obtain ⟨x19, g20, e21, hM⟩ := zc_elim hM
        refine v_callVi (ci := 6) (rest := []) C (c_X6_answer hX  e21) mw_X6_answer mi_X6_answer ml_RX6_106 hX.symm zm0 rfl rfl ⟨by decide, Nat.le_of_ble_eq_true rfl⟩ rfl (Nat.le_of_ble_eq_true rfl) dX6_deed_41 rfl ?_
        exact v_iret2 C hr dX6_deed_44 hM
    · exact v_weak (t_X6_deed_b21 hX C hr   hM) (show zsub [some (.inr (.inl (0, 0))), none, none, none] [some (.inr (.inl (0, 0))), some (.inl v1), some (.inl v2), some (.inl v3)] from ⟨rfl, trivial⟩)

theorem c_X6_word {X : zX} (hX : zfl X = false) {v1 : Int32} {g gr : zG} {rr : Int32}  (hM : X6_word v1 g = some (rr, gr)) : MC X yX6_word cX6_word 2 (some .int) 2 [.inr (.inl (0, 0)), .inl v1] (some (.inl rr)) g gr := by
  refine MC.mk (own := RX6) (L := [some (.inr (.inl (0, 0))), some (.inl v1)]) (by decide) rfl trivial (Nat.le_of_ble_eq_true rfl) rfl ?_
  intro p l e s m args below meth c C hr
  unfold X6_word at hM
  refine v_aload_n C 0 dX6_word_0 rfl rfl ?_
  refine gf_RX6_16 C hX dX6_word_1 ?_
  refine v_iload_n C 1 dX6_word_4 rfl rfl ?_
  obtain ⟨x1, g2, e3, hM⟩ := zc_elim hM
  refine v_callVNi (ci := 2) (rest := []) C (c_X2_hasAddress hX (by decide) e3) mw_X2_hasAddress mi_X2_hasAddress ml_RX6_149 hX.symm (zm1 (by decide)) rfl rfl ⟨by decide, Nat.le_of_ble_eq_true rfl⟩ rfl (Nat.le_of_ble_eq_true rfl) dX6_word_5 rfl ?_
  refine v_if_ne C 17 dX6_word_8 rfl hM (fun hM => ?_) (fun hM => ?_)
  · refine v_aload_n C 0 dX6_word_17 rfl rfl ?_
    refine v_aload_n C 0 dX6_word_18 rfl rfl ?_
    refine gf_RX6_37 C hX dX6_word_19 ?_
    refine v_iload_n C 1 dX6_word_22 rfl rfl ?_
    obtain ⟨x4, g5, e6, hM⟩ := zc_elim hM
    refine v_callVNi (ci := 3) (rest := [(.inr (.inl (0, 0)))]) C (c_X3_wordAt hX (by decide) e6) mw_X3_wordAt mi_X3_wordAt ml_RX6_152 hX.symm (zm3 (by decide)) rfl rfl ⟨by decide, Nat.le_of_ble_eq_true rfl⟩ rfl (Nat.le_of_ble_eq_true rfl) dX6_word_23 rfl ?_
    obtain ⟨x7, g8, e9, hM⟩ := zc_elim hM
    refine v_callVi (ci := 6) (rest := []) C (c_X6_answer hX  e9) mw_X6_answer mi_X6_answer ml_RX6_106 hX.symm zm0 rfl rfl ⟨by decide, Nat.le_of_ble_eq_true rfl⟩ rfl (Nat.le_of_ble_eq_true rfl) dX6_word_26 rfl ?_
    exact v_iret2 C hr dX6_word_29 hM
  · refine v_aload_n C 0 dX6_word_11 rfl rfl ?_
    refine v_iconst C (nI 1) dX6_word_12 zk_1 ?_
    obtain ⟨x10, g11, e12, hM⟩ := zc_elim hM
    refine v_callVi (ci := 6) (rest := []) C (c_X6_refuse hX  e12) mw_X6_refuse mi_X6_refuse ml_RX6_69 hX.symm zm0 rfl rfl ⟨by decide, Nat.le_of_ble_eq_true rfl⟩ rfl (Nat.le_of_ble_eq_true rfl) dX6_word_13 rfl ?_
    exact v_iret2 C hr dX6_word_16 hM

theorem c_X6_memory {X : zX} (hX : zfl X = false) {v1 : Int32} {g gr : zG} {rr : Int32}  (hM : X6_memory v1 g = some (rr, gr)) : MC X yX6_memory cX6_memory 2 (some .int) 2 [.inr (.inl (0, 0)), .inl v1] (some (.inl rr)) g gr := by
  refine MC.mk (own := RX6) (L := [some (.inr (.inl (0, 0))), some (.inl v1)]) (by decide) rfl trivial (Nat.le_of_ble_eq_true rfl) rfl ?_
  intro p l e s m args below meth c C hr
  unfold X6_memory at hM
  refine v_aload_n C 0 dX6_memory_0 rfl rfl ?_
  refine gf_RX6_16 C hX dX6_memory_1 ?_
  refine v_iload_n C 1 dX6_memory_4 rfl rfl ?_
  obtain ⟨x1, g2, e3, hM⟩ := zc_elim hM
  refine v_callVNi (ci := 2) (rest := []) C (c_X2_hasAddress hX (by decide) e3) mw_X2_hasAddress mi_X2_hasAddress ml_RX6_149 hX.symm (zm1 (by decide)) rfl rfl ⟨by decide, Nat.le_of_ble_eq_true rfl⟩ rfl (Nat.le_of_ble_eq_true rfl) dX6_memory_5 rfl ?_
  refine v_if_ne C 17 dX6_memory_8 rfl hM (fun hM => ?_) (fun hM => ?_)
  · refine v_aload_n C 0 dX6_memory_17 rfl rfl ?_
    refine v_aload_n C 0 dX6_memory_18 rfl rfl ?_
    refine gf_RX6_37 C hX dX6_memory_19 ?_
    refine gf_RX6_155 C hX (by decide) dX6_memory_22 ?_
    refine v_iload_n C 1 dX6_memory_25 rfl rfl ?_
    refine ia_17 C hX (by decide) dX6_memory_26 hM (fun hM _ => ?_)
    obtain ⟨x4, g5, e6, hM⟩ := zc_elim hM
    refine v_callVi (ci := 6) (rest := []) C (c_X6_answer hX  e6) mw_X6_answer mi_X6_answer ml_RX6_106 hX.symm zm0 rfl rfl ⟨by decide, Nat.le_of_ble_eq_true rfl⟩ rfl (Nat.le_of_ble_eq_true rfl) dX6_memory_27 rfl ?_
    exact v_iret2 C hr dX6_memory_30 hM
  · refine v_aload_n C 0 dX6_memory_11 rfl rfl ?_
    refine v_iconst C (nI 1) dX6_memory_12 zk_1 ?_
    obtain ⟨x7, g8, e9, hM⟩ := zc_elim hM
    refine v_callVi (ci := 6) (rest := []) C (c_X6_refuse hX  e9) mw_X6_refuse mi_X6_refuse ml_RX6_69 hX.symm zm0 rfl rfl ⟨by decide, Nat.le_of_ble_eq_true rfl⟩ rfl (Nat.le_of_ble_eq_true rfl) dX6_memory_13 rfl ?_
    exact v_iret2 C hr dX6_memory_16 hM

theorem t_X6_playCommits_l9  (hX : zfl X = false) (C : Cx X p (zrm 6) s m args meth c cX6_playCommits 2 RX6 0 0) (hr : meth.sig.returnType = none)  : ∀ (n : Nat) {v1 : Int32} (g : zG), X6_playCommits_l9  n v1 g = some (rr, gr) → V X p l e (zrm 6) s m args below meth c 2 0 0 (MQ below (zQ X (Option.map (zM X) none) gr) args s 0 0 (zF X)) g 9 [some (.inr (.inl (0, 0))), some (.inl v1)] [] := by
  intro n
  induction n with
  | zero =>
    intro v1 g  hM
    exact absurd (show (none : Option (Int32 × zG)) = some (rr, gr) from hM) (by simp)
  | succ n ih =>
    intro v1 g  hM
    rw [X6_playCommits_l9.eq_2] at hM
    refine v_iload_n C 1 dX6_playCommits_9 rfl rfl ?_
    refine v_aload_n C 0 dX6_playCommits_10 rfl rfl ?_
    refine gf_RX6_37 C hX dX6_playCommits_11 ?_
    refine gf_RX6_128 C hX (by decide) dX6_playCommits_14 ?_
    refine v_icmp_ge C 64 dX6_playCommits_17 rfl hM (fun hM => ?_) (fun hM => ?_)
    · exact v_vret2 C hr dX6_playCommits_64 hM
    · refine v_iload_n C 1 dX6_playCommits_20 rfl rfl ?_
      refine v_bipush C (nI 48) dX6_playCommits_21 zkb_48 ?_
      refine v_icmp_ge C 64 dX6_playCommits_23 rfl hM (fun hM => ?_) (fun hM => ?_)
      · exact v_vret2 C hr dX6_playCommits_64 hM
      · refine v_aload_n C 0 dX6_playCommits_26 rfl rfl ?_
        refine gf_RX6_50 C hX dX6_playCommits_27 ?_
        refine v_aload_n C 0 dX6_playCommits_30 rfl rfl ?_
        refine gf_RX6_37 C hX dX6_playCommits_31 ?_
        refine gf_RX6_166 C hX (by decide) dX6_playCommits_34 ?_
        refine v_iload_n C 1 dX6_playCommits_37 rfl rfl ?_
        refine v_iconst C (nI 4) dX6_playCommits_38 zk_4 ?_
        refine v_imul C dX6_playCommits_39 ?_
        refine ia_21 C hX (by decide) dX6_playCommits_40 hM (fun hM _ => ?_)
        refine v_aload_n C 0 dX6_playCommits_41 rfl rfl ?_
        refine gf_RX6_37 C hX dX6_playCommits_42 ?_
        refine gf_RX6_166 C hX (by decide) dX6_playCommits_45 ?_
        refine v_iload_n C 1 dX6_playCommits_48 rfl rfl ?_
        refine v_iconst C (nI 4) dX6_playCommits_49 zk_4 ?_
        refine v_imul C dX6_playCommits_50 ?_
        refine v_iconst C (nI 1) dX6_playCommits_51 zk_1 ?_
        refine v_iadd C dX6_playCommits_52 ?_
        refine ia_21 C hX (by decide) dX6_playCommits_53 hM (fun hM _ => ?_)
        refine v_iconst C (nI 1) dX6_playCommits_54 zk_1 ?_
        obtain ⟨x1, g2, e3, hM⟩ := zc_elim hM
        refine v_callVNv (ci := 4) (rest := []) C (c_X4_play hX  e3) mw_X4_play mi_X4_play ml_RX6_169 hX.symm zm6 rfl rfl ⟨by decide, Nat.le_of_ble_eq_true rfl⟩ rfl (Nat.le_of_ble_eq_true rfl) dX6_playCommits_55 rfl ?_
        refine v_iinc (L' := [some (.inr (.inl (0, 0))), some (.inl (v1 + (nI 1)))]) C 1 (nI 1) dX6_playCommits_58 zk_1 (by decide) rfl rfl ?_
        refine v_goto C 9 dX6_playCommits_61 rfl ?_
        exact ih g2  hM

theorem c_X6_playCommits {X : zX} (hX : zfl X = false)  {g gr : zG} {rr : Int32}  (hM : X6_playCommits  g = some (rr, gr)) : MC X yX6_playCommits cX6_playCommits 2 none 6 [.inr (.inl (0, 0))] none g gr := by
  refine MC.mk (own := RX6) (L := [some (.inr (.inl (0, 0))), none]) (by decide) rfl trivial (Nat.le_of_ble_eq_true rfl) rfl ?_
  intro p l e s m args below meth c C hr
  unfold X6_playCommits at hM
  refine v_aload_n C 0 dX6_playCommits_0 rfl rfl ?_
  refine gf_RX6_50 C hX dX6_playCommits_1 ?_
  obtain ⟨x1, g2, e3, hM⟩ := zc_elim hM
  refine v_callVNv (ci := 4) (rest := []) C (c_X4_startOver hX  e3) mw_X4_startOver mi_X4_startOver ml_RX6_164 hX.symm zm6 rfl rfl ⟨by decide, Nat.le_of_ble_eq_true rfl⟩ rfl (Nat.le_of_ble_eq_true rfl) dX6_playCommits_4 rfl ?_
  refine v_iconst C (nI 0) dX6_playCommits_7 zk_0 ?_
  refine v_istore_n (L' := [some (.inr (.inl (0, 0))), some (.inl (nI 0))]) C 1 dX6_playCommits_8 rfl (by decide) rfl ?_
  exact t_X6_playCommits_l9 hX C hr  _ g2  hM

theorem c_X6_serial {X : zX} (hX : zfl X = false) {v1 : Int32} {g gr : zG} {rr : Int32}  (hM : X6_serial v1 g = some (rr, gr)) : MC X yX6_serial cX6_serial 2 (some .int) 7 [.inr (.inl (0, 0)), .inl v1] (some (.inl rr)) g gr := by
  refine MC.mk (own := RX6) (L := [some (.inr (.inl (0, 0))), some (.inl v1)]) (by decide) rfl trivial (Nat.le_of_ble_eq_true rfl) rfl ?_
  intro p l e s m args below meth c C hr
  unfold X6_serial at hM
  refine v_aload_n C 0 dX6_serial_0 rfl rfl ?_
  refine gf_RX6_16 C hX dX6_serial_1 ?_
  refine v_iload_n C 1 dX6_serial_4 rfl rfl ?_
  obtain ⟨x1, g2, e3, hM⟩ := zc_elim hM
  refine v_callVNi (ci := 2) (rest := []) C (c_X2_hasAddress hX (by decide) e3) mw_X2_hasAddress mi_X2_hasAddress ml_RX6_149 hX.symm (zm1 (by decide)) rfl rfl ⟨by decide, Nat.le_of_ble_eq_true rfl⟩ rfl (Nat.le_of_ble_eq_true rfl) dX6_serial_5 rfl ?_
  refine v_if_ne C 17 dX6_serial_8 rfl hM (fun hM => ?_) (fun hM => ?_)
  · refine v_aload_n C 0 dX6_serial_17 rfl rfl ?_
    obtain ⟨x4, g5, e6, hM⟩ := zc_elim hM
    refine v_callVv (ci := 6) (rest := []) C (c_X6_playCommits hX  e6) mw_X6_playCommits mi_X6_playCommits ml_RX6_158 hX.symm zm0 rfl rfl ⟨by decide, Nat.le_of_ble_eq_true rfl⟩ rfl (Nat.le_of_ble_eq_true rfl) dX6_serial_18 rfl ?_
    refine v_aload_n C 0 dX6_serial_21 rfl rfl ?_
    refine v_aload_n C 0 dX6_serial_22 rfl rfl ?_
    refine gf_RX6_50 C hX dX6_serial_23 ?_
    refine gf_RX6_161 C hX dX6_serial_26 ?_
    refine v_iload_n C 1 dX6_serial_29 rfl rfl ?_
    refine ia_29 C hX dX6_serial_30 hM (fun hM _ => ?_)
    obtain ⟨x7, g8, e9, hM⟩ := zc_elim hM
    refine v_callVi (ci := 6) (rest := []) C (c_X6_answer hX  e9) mw_X6_answer mi_X6_answer ml_RX6_106 hX.symm zm0 rfl rfl ⟨by decide, Nat.le_of_ble_eq_true rfl⟩ rfl (Nat.le_of_ble_eq_true rfl) dX6_serial_31 rfl ?_
    exact v_iret2 C hr dX6_serial_34 hM
  · refine v_aload_n C 0 dX6_serial_11 rfl rfl ?_
    refine v_iconst C (nI 1) dX6_serial_12 zk_1 ?_
    obtain ⟨x10, g11, e12, hM⟩ := zc_elim hM
    refine v_callVi (ci := 6) (rest := []) C (c_X6_refuse hX  e12) mw_X6_refuse mi_X6_refuse ml_RX6_69 hX.symm zm0 rfl rfl ⟨by decide, Nat.le_of_ble_eq_true rfl⟩ rfl (Nat.le_of_ble_eq_true rfl) dX6_serial_13 rfl ?_
    exact v_iret2 C hr dX6_serial_16 hM

theorem t_X6_agrees_l19 {k68 : zG → Option (Int32 × zG)} (hX : zfl X = false) (C : Cx X p (zrm 7) s m args meth c cX6_agrees 2 RX6 0 0) (hr : meth.sig.returnType = (some .int)) (hk68 : ∀  (g : zG),  k68  g = some (rr, gr) → V X p l e (zrm 7) s m args below meth c 2 0 0 (MQ below (zQ X (Option.map (zM X) (some (.inl rr))) gr) args s 0 0 (zF X)) g 68 [some (.inr (.inl (0, 0))), none] []) : ∀ (n : Nat) {v1 : Int32} (g : zG), X6_agrees_l19 k68 n v1 g = some (rr, gr) → V X p l e (zrm 7) s m args below meth c 2 0 0 (MQ below (zQ X (Option.map (zM X) (some (.inl rr))) gr) args s 0 0 (zF X)) g 19 [some (.inr (.inl (0, 0))), some (.inl v1)] [] := by
  intro n
  induction n with
  | zero =>
    intro v1 g  hM
    exact absurd (show (none : Option (Int32 × zG)) = some (rr, gr) from hM) (by simp)
  | succ n ih =>
    intro v1 g  hM
    rw [X6_agrees_l19.eq_2] at hM
    refine v_iload_n C 1 dX6_agrees_19 rfl rfl ?_
    refine v_bipush C (nI 64) dX6_agrees_20 zkb_64 ?_
    refine v_icmp_ge C 68 dX6_agrees_22 rfl hM (fun hM => ?_) (fun hM => ?_)
    · exact v_weak (hk68  g  hM) (show zsub [some (.inr (.inl (0, 0))), none] [some (.inr (.inl (0, 0))), some (.inl v1)] from ⟨rfl, trivial⟩)
    · refine v_aload_n C 0 dX6_agrees_25 rfl rfl ?_
      refine gf_RX6_16 C hX dX6_agrees_26 ?_
      refine v_iload_n C 1 dX6_agrees_29 rfl rfl ?_
      obtain ⟨x1, g2, e3, hM⟩ := zc_elim hM
      refine v_callVNi (ci := 2) (rest := []) C (c_X2_hasAddress hX (by decide) e3) mw_X2_hasAddress mi_X2_hasAddress ml_RX6_149 hX.symm (zm1 (by decide)) rfl rfl ⟨by decide, Nat.le_of_ble_eq_true rfl⟩ rfl (Nat.le_of_ble_eq_true rfl) dX6_agrees_30 rfl ?_
      refine v_if_eq C 68 dX6_agrees_33 rfl hM (fun hM => ?_) (fun hM => ?_)
      · exact v_weak (hk68  g2  hM) (show zsub [some (.inr (.inl (0, 0))), none] [some (.inr (.inl (0, 0))), some (.inl v1)] from ⟨rfl, trivial⟩)
      · refine v_aload_n C 0 dX6_agrees_36 rfl rfl ?_
        refine gf_RX6_50 C hX dX6_agrees_37 ?_
        refine gf_RX6_161 C hX dX6_agrees_40 ?_
        refine v_iload_n C 1 dX6_agrees_43 rfl rfl ?_
        refine ia_29 C hX dX6_agrees_44 hM (fun hM _ => ?_)
        refine v_aload_n C 0 dX6_agrees_45 rfl rfl ?_
        refine gf_RX6_37 C hX dX6_agrees_46 ?_
        refine v_iload_n C 1 dX6_agrees_49 rfl rfl ?_
        obtain ⟨x4, g5, e6, hM⟩ := zc_elim hM
        refine v_callVNi (ci := 3) (rest := [(.inl (g2 29 0 v1.toNatClampNeg))]) C (c_X3_wordAt hX (by decide) e6) mw_X3_wordAt mi_X3_wordAt ml_RX6_152 hX.symm (zm3 (by decide)) rfl rfl ⟨by decide, Nat.le_of_ble_eq_true rfl⟩ rfl (Nat.le_of_ble_eq_true rfl) dX6_agrees_50 rfl ?_
        refine v_icmp_eq C 62 dX6_agrees_53 rfl hM (fun hM => ?_) (fun hM => ?_)
        · refine v_iinc (L' := [some (.inr (.inl (0, 0))), some (.inl (v1 + (nI 1)))]) C 1 (nI 1) dX6_agrees_62 zk_1 (by decide) rfl rfl ?_
          refine v_goto C 19 dX6_agrees_65 rfl ?_
          exact ih g5  hM
        · refine v_aload_n C 0 dX6_agrees_56 rfl rfl ?_
          refine v_iconst C (nI 0) dX6_agrees_57 zk_0 ?_
          obtain ⟨x7, g8, e9, hM⟩ := zc_elim hM
          refine v_callVi (ci := 6) (rest := []) C (c_X6_answer hX  e9) mw_X6_answer mi_X6_answer ml_RX6_106 hX.symm zm0 rfl rfl ⟨by decide, Nat.le_of_ble_eq_true rfl⟩ rfl (Nat.le_of_ble_eq_true rfl) dX6_agrees_58 rfl ?_
          exact v_iret2 C hr dX6_agrees_61 hM

theorem t_X6_agrees_b68   {g : zG} (hX : zfl X = false) (C : Cx X p (zrm 7) s m args meth c cX6_agrees 2 RX6 0 0) (hr : meth.sig.returnType = (some .int))   (hM : X6_agrees_b68   g = some (rr, gr)) : V X p l e (zrm 7) s m args below meth c 2 0 0 (MQ below (zQ X (Option.map (zM X) (some (.inl rr))) gr) args s 0 0 (zF X)) g 68 [some (.inr (.inl (0, 0))), none] [] := by
  unfold X6_agrees_b68 at hM
  refine v_aload_n C 0 dX6_agrees_68 rfl rfl ?_
  refine v_iconst C (nI 1) dX6_agrees_69 zk_1 ?_
  obtain ⟨x1, g2, e3, hM⟩ := zc_elim hM
  refine v_callVi (ci := 6) (rest := []) C (c_X6_answer hX  e3) mw_X6_answer mi_X6_answer ml_RX6_106 hX.symm zm0 rfl rfl ⟨by decide, Nat.le_of_ble_eq_true rfl⟩ rfl (Nat.le_of_ble_eq_true rfl) dX6_agrees_70 rfl ?_
  exact v_iret2 C hr dX6_agrees_73 hM

theorem c_X6_agrees {X : zX} (hX : zfl X = false)  {g gr : zG} {rr : Int32}  (hM : X6_agrees  g = some (rr, gr)) : MC X yX6_agrees cX6_agrees 2 (some .int) 7 [.inr (.inl (0, 0))] (some (.inl rr)) g gr := by
  refine MC.mk (own := RX6) (L := [some (.inr (.inl (0, 0))), none]) (by decide) rfl trivial (Nat.le_of_ble_eq_true rfl) rfl ?_
  intro p l e s m args below meth c C hr
  unfold X6_agrees at hM
  refine v_aload_n C 0 dX6_agrees_0 rfl rfl ?_
  refine gf_RX6_96 C hX dX6_agrees_1 ?_
  refine v_if_ne C 13 dX6_agrees_4 rfl hM (fun hM => ?_) (fun hM => ?_)
  · refine v_aload_n C 0 dX6_agrees_13 rfl rfl ?_
    obtain ⟨x1, g2, e3, hM⟩ := zc_elim hM
    refine v_callVv (ci := 6) (rest := []) C (c_X6_playCommits hX  e3) mw_X6_playCommits mi_X6_playCommits ml_RX6_158 hX.symm zm0 rfl rfl ⟨by decide, Nat.le_of_ble_eq_true rfl⟩ rfl (Nat.le_of_ble_eq_true rfl) dX6_agrees_14 rfl ?_
    refine v_iconst C (nI 0) dX6_agrees_17 zk_0 ?_
    refine v_istore_n (L' := [some (.inr (.inl (0, 0))), some (.inl (nI 0))]) C 1 dX6_agrees_18 rfl (by decide) rfl ?_
    exact t_X6_agrees_l19 hX C hr (by intro  g  hM; exact t_X6_agrees_b68 hX C hr   hM) _ g2  hM
  · refine v_aload_n C 0 dX6_agrees_7 rfl rfl ?_
    refine v_iconst C (nI 1) dX6_agrees_8 zk_1 ?_
    obtain ⟨x4, g5, e6, hM⟩ := zc_elim hM
    refine v_callVi (ci := 6) (rest := []) C (c_X6_refuse hX  e6) mw_X6_refuse mi_X6_refuse ml_RX6_69 hX.symm zm0 rfl rfl ⟨by decide, Nat.le_of_ble_eq_true rfl⟩ rfl (Nat.le_of_ble_eq_true rfl) dX6_agrees_9 rfl ?_
    exact v_iret2 C hr dX6_agrees_12 hM

theorem c_X6_lock {X : zX} (hX : zfl X = false)  {g gr : zG} {rr : Int32}  (hM : X6_lock  g = some (rr, gr)) : MC X yX6_lock cX6_lock 1 (some .int) 1 [.inr (.inl (0, 0))] (some (.inl rr)) g gr := by
  refine MC.mk (own := RX6) (L := [some (.inr (.inl (0, 0)))]) (by decide) rfl trivial (Nat.le_of_ble_eq_true rfl) rfl ?_
  intro p l e s m args below meth c C hr
  unfold X6_lock at hM
  refine v_aload_n C 0 dX6_lock_0 rfl rfl ?_
  refine gf_RX6_96 C hX dX6_lock_1 ?_
  refine v_if_eq C 21 dX6_lock_4 rfl hM (fun hM => ?_) (fun hM => ?_)
  · refine v_aload_n C 0 dX6_lock_21 rfl rfl ?_
    refine v_iconst C (nI 1) dX6_lock_22 zk_1 ?_
    obtain ⟨x1, g2, e3, hM⟩ := zc_elim hM
    refine v_callVi (ci := 6) (rest := []) C (c_X6_refuse hX  e3) mw_X6_refuse mi_X6_refuse ml_RX6_69 hX.symm zm0 rfl rfl ⟨by decide, Nat.le_of_ble_eq_true rfl⟩ rfl (Nat.le_of_ble_eq_true rfl) dX6_lock_23 rfl ?_
    exact v_iret2 C hr dX6_lock_26 hM
  · refine v_aload_n C 0 dX6_lock_7 rfl rfl ?_
    refine v_aload_n C 0 dX6_lock_8 rfl rfl ?_
    refine gf_RX6_37 C hX dX6_lock_9 ?_
    refine gf_RX6_173 C hX (by decide) dX6_lock_12 ?_
    obtain ⟨x4, g5, e6, hM⟩ := zc_elim hM
    refine v_callVi (ci := 6) (rest := []) C (c_X6_answer hX  e6) mw_X6_answer mi_X6_answer ml_RX6_106 hX.symm zm0 rfl rfl ⟨by decide, Nat.le_of_ble_eq_true rfl⟩ rfl (Nat.le_of_ble_eq_true rfl) dX6_lock_15 rfl ?_
    refine v_goto C 26 dX6_lock_18 rfl ?_
    exact v_iret2 C hr dX6_lock_26 hM

theorem t_X6_alone_b22   {g : zG} (hX : zfl X = false) (C : Cx X p (zrm 6) s m args meth c cX6_alone 5 RX6 0 0) (hr : meth.sig.returnType = (some .int))   (hM : X6_alone_b22   g = some (rr, gr)) : V X p l e (zrm 6) s m args below meth c 5 0 0 (MQ below (zQ X (Option.map (zM X) (some (.inl rr))) gr) args s 0 0 (zF X)) g 22 [some (.inr (.inl (0, 0))), none, none, none, none] [] := by
  unfold X6_alone_b22 at hM
  refine v_aload_n C 0 dX6_alone_22 rfl rfl ?_
  refine v_iconst C (nI 1) dX6_alone_23 zk_1 ?_
  obtain ⟨x1, g2, e3, hM⟩ := zc_elim hM
  refine v_callVi (ci := 6) (rest := []) C (c_X6_refuse hX  e3) mw_X6_refuse mi_X6_refuse ml_RX6_69 hX.symm zm0 rfl rfl ⟨by decide, Nat.le_of_ble_eq_true rfl⟩ rfl (Nat.le_of_ble_eq_true rfl) dX6_alone_24 rfl ?_
  exact v_iret2 C hr dX6_alone_27 hM

theorem t_X6_alone_b89 {v1 : Int32} {v2 : Int32} {v3 : Int32} {s1 : Int32} {k37 : Int32 → Int32 → Int32 → zG → Option (Int32 × zG)} {g : zG} (hX : zfl X = false) (C : Cx X p (zrm 6) s m args meth c cX6_alone 5 RX6 0 0) (hr : meth.sig.returnType = (some .int))  (hk37 : ∀ (v1 : Int32) (v2 : Int32) (v3 : Int32) (g : zG),  k37 v1 v2 v3 g = some (rr, gr) → V X p l e (zrm 6) s m args below meth c 5 0 0 (MQ below (zQ X (Option.map (zM X) (some (.inl rr))) gr) args s 0 0 (zF X)) g 37 [some (.inr (.inl (0, 0))), some (.inl v1), some (.inl v2), some (.inl v3), none] []) (hM : X6_alone_b89 k37 v1 v2 v3 s1 g = some (rr, gr)) : V X p l e (zrm 6) s m args below meth c 5 0 0 (MQ below (zQ X (Option.map (zM X) (some (.inl rr))) gr) args s 0 0 (zF X)) g 89 [some (.inr (.inl (0, 0))), some (.inl v1), some (.inl v2), some (.inl v3), none] [(.inl s1), (.inr (.inl (6, 0)))] := by
  unfold X6_alone_b89 at hM
  refine v_iconst C (nI 0) dX6_alone_89 zk_0 ?_
  refine v_iconst C (nI 0) dX6_alone_90 zk_0 ?_
  obtain ⟨x1, g2, e3, hM⟩ := zc_elim hM
  refine v_callVNv (ci := 4) (rest := []) C (c_X4_play hX  e3) mw_X4_play mi_X4_play ml_RX6_169 hX.symm zm6 rfl rfl ⟨by decide, Nat.le_of_ble_eq_true rfl⟩ rfl (Nat.le_of_ble_eq_true rfl) dX6_alone_91 rfl ?_
  refine v_iinc (L' := [some (.inr (.inl (0, 0))), some (.inl v1), some (.inl v2), some (.inl (v3 + (nI 1))), none]) C 3 (nI 1) dX6_alone_94 zk_1 (by decide) rfl rfl ?_
  refine v_goto C 37 dX6_alone_97 rfl ?_
  exact hk37 v1 v2 (v3 + (nI 1)) g2  hM

theorem t_X6_alone_l37 {k100 : Int32 → zG → Option (Int32 × zG)} (hX : zfl X = false) (C : Cx X p (zrm 6) s m args meth c cX6_alone 5 RX6 0 0) (hr : meth.sig.returnType = (some .int)) (hk100 : ∀ (v2 : Int32) (g : zG),  k100 v2 g = some (rr, gr) → V X p l e (zrm 6) s m args below meth c 5 0 0 (MQ below (zQ X (Option.map (zM X) (some (.inl rr))) gr) args s 0 0 (zF X)) g 100 [some (.inr (.inl (0, 0))), none, some (.inl v2), none, none] []) : ∀ (n : Nat) {v1 : Int32} {v2 : Int32} {v3 : Int32} (g : zG), X6_alone_l37 k100 n v1 v2 v3 g = some (rr, gr) → V X p l e (zrm 6) s m args below meth c 5 0 0 (MQ below (zQ X (Option.map (zM X) (some (.inl rr))) gr) args s 0 0 (zF X)) g 37 [some (.inr (.inl (0, 0))), some (.inl v1), some (.inl v2), some (.inl v3), none] [] := by
  intro n
  induction n with
  | zero =>
    intro v1 v2 v3 g  hM
    exact absurd (show (none : Option (Int32 × zG)) = some (rr, gr) from hM) (by simp)
  | succ n ih =>
    intro v1 v2 v3 g  hM
    rw [X6_alone_l37.eq_2] at hM
    refine v_iload_n C 3 dX6_alone_37 rfl rfl ?_
    refine v_aload_n C 0 dX6_alone_38 rfl rfl ?_
    refine gf_RX6_16 C hX dX6_alone_39 ?_
    refine gf_RX6_103 C hX (by decide) dX6_alone_42 ?_
    refine v_icmp_ge C 100 dX6_alone_45 rfl hM (fun hM => ?_) (fun hM => ?_)
    · exact v_weak (hk100 v2 g  hM) (show zsub [some (.inr (.inl (0, 0))), none, some (.inl v2), none, none] [some (.inr (.inl (0, 0))), some (.inl v1), some (.inl v2), some (.inl v3), none] from ⟨rfl, ⟨rfl, trivial⟩⟩)
    · refine v_iload_n C 3 dX6_alone_48 rfl rfl ?_
      refine v_iconst C (nI 4) dX6_alone_49 zk_4 ?_
      refine v_icmp_ge C 100 dX6_alone_50 rfl hM (fun hM => ?_) (fun hM => ?_)
      · exact v_weak (hk100 v2 g  hM) (show zsub [some (.inr (.inl (0, 0))), none, some (.inl v2), none, none] [some (.inr (.inl (0, 0))), some (.inl v1), some (.inl v2), some (.inl v3), none] from ⟨rfl, ⟨rfl, trivial⟩⟩)
      · refine v_iload_n C 1 dX6_alone_53 rfl rfl ?_
        refine v_iload_n C 3 dX6_alone_54 rfl rfl ?_
        refine v_iadd C dX6_alone_55 ?_
        refine v_istore (L' := [some (.inr (.inl (0, 0))), some (.inl v1), some (.inl v2), some (.inl v3), some (.inl (v1 + v3))]) C 4 dX6_alone_56 (by decide) rfl ?_
        refine v_aload_n C 0 dX6_alone_58 rfl rfl ?_
        refine gf_RX6_50 C hX dX6_alone_59 ?_
        refine v_iload C 4 dX6_alone_62 rfl ?_
        refine v_aload_n C 0 dX6_alone_64 rfl rfl ?_
        refine gf_RX6_16 C hX dX6_alone_65 ?_
        refine gf_RX6_103 C hX (by decide) dX6_alone_68 ?_
        refine v_icmp_ge C 79 dX6_alone_71 rfl hM (fun hM => ?_) (fun hM => ?_)
        · refine v_iload C 4 dX6_alone_79 rfl ?_
          refine v_aload_n C 0 dX6_alone_81 rfl rfl ?_
          refine gf_RX6_16 C hX dX6_alone_82 ?_
          refine gf_RX6_103 C hX (by decide) dX6_alone_85 ?_
          refine v_isub C dX6_alone_88 ?_
          exact v_weak (t_X6_alone_b89 hX C hr  (fun v1 v2 v3 g  hM => ih g  hM) hM) (show zsub [some (.inr (.inl (0, 0))), some (.inl v1), some (.inl v2), some (.inl v3), none] [some (.inr (.inl (0, 0))), some (.inl v1), some (.inl v2), some (.inl v3), some (.inl (v1 + v3))] from ⟨rfl, ⟨rfl, ⟨rfl, ⟨rfl, trivial⟩⟩⟩⟩)
        · refine v_iload C 4 dX6_alone_74 rfl ?_
          refine v_goto C 89 dX6_alone_76 rfl ?_
          exact v_weak (t_X6_alone_b89 hX C hr  (fun v1 v2 v3 g  hM => ih g  hM) hM) (show zsub [some (.inr (.inl (0, 0))), some (.inl v1), some (.inl v2), some (.inl v3), none] [some (.inr (.inl (0, 0))), some (.inl v1), some (.inl v2), some (.inl v3), some (.inl (v1 + v3))] from ⟨rfl, ⟨rfl, ⟨rfl, ⟨rfl, trivial⟩⟩⟩⟩)

theorem t_X6_alone_b100 {v2 : Int32}  {g : zG} (hX : zfl X = false) (C : Cx X p (zrm 6) s m args meth c cX6_alone 5 RX6 0 0) (hr : meth.sig.returnType = (some .int))   (hM : X6_alone_b100  v2 g = some (rr, gr)) : V X p l e (zrm 6) s m args below meth c 5 0 0 (MQ below (zQ X (Option.map (zM X) (some (.inl rr))) gr) args s 0 0 (zF X)) g 100 [some (.inr (.inl (0, 0))), none, some (.inl v2), none, none] [] := by
  unfold X6_alone_b100 at hM
  refine v_aload_n C 0 dX6_alone_100 rfl rfl ?_
  refine v_aload_n C 0 dX6_alone_101 rfl rfl ?_
  refine gf_RX6_50 C hX dX6_alone_102 ?_
  refine gf_RX6_161 C hX dX6_alone_105 ?_
  refine v_iload_n C 2 dX6_alone_108 rfl rfl ?_
  refine ia_29 C hX dX6_alone_109 hM (fun hM _ => ?_)
  obtain ⟨x1, g2, e3, hM⟩ := zc_elim hM
  refine v_callVi (ci := 6) (rest := []) C (c_X6_answer hX  e3) mw_X6_answer mi_X6_answer ml_RX6_106 hX.symm zm0 rfl rfl ⟨by decide, Nat.le_of_ble_eq_true rfl⟩ rfl (Nat.le_of_ble_eq_true rfl) dX6_alone_110 rfl ?_
  exact v_iret2 C hr dX6_alone_113 hM

theorem c_X6_alone {X : zX} (hX : zfl X = false) {v1 : Int32} {v2 : Int32} {g gr : zG} {rr : Int32}  (hM : X6_alone v1 v2 g = some (rr, gr)) : MC X yX6_alone cX6_alone 5 (some .int) 6 [.inr (.inl (0, 0)), .inl v1, .inl v2] (some (.inl rr)) g gr := by
  refine MC.mk (own := RX6) (L := [some (.inr (.inl (0, 0))), some (.inl v1), some (.inl v2), none, none]) (by decide) rfl trivial (Nat.le_of_ble_eq_true rfl) rfl ?_
  intro p l e s m args below meth c C hr
  unfold X6_alone at hM
  refine v_aload_n C 0 dX6_alone_0 rfl rfl ?_
  refine gf_RX6_16 C hX dX6_alone_1 ?_
  refine v_iload_n C 1 dX6_alone_4 rfl rfl ?_
  obtain ⟨x1, g2, e3, hM⟩ := zc_elim hM
  refine v_callVNi (ci := 2) (rest := []) C (c_X2_hasCore hX (by decide) e3) mw_X2_hasCore mi_X2_hasCore ml_RX6_176 hX.symm (zm1 (by decide)) rfl rfl ⟨by decide, Nat.le_of_ble_eq_true rfl⟩ rfl (Nat.le_of_ble_eq_true rfl) dX6_alone_5 rfl ?_
  refine v_if_eq C 22 dX6_alone_8 rfl hM (fun hM => ?_) (fun hM => ?_)
  · exact v_weak (t_X6_alone_b22 hX C hr   hM) (show zsub [some (.inr (.inl (0, 0))), none, none, none, none] [some (.inr (.inl (0, 0))), some (.inl v1), some (.inl v2), none, none] from ⟨rfl, trivial⟩)
  · refine v_aload_n C 0 dX6_alone_11 rfl rfl ?_
    refine gf_RX6_16 C hX dX6_alone_12 ?_
    refine v_iload_n C 2 dX6_alone_15 rfl rfl ?_
    obtain ⟨x4, g5, e6, hM⟩ := zc_elim hM
    refine v_callVNi (ci := 2) (rest := []) C (c_X2_hasAddress hX (by decide) e6) mw_X2_hasAddress mi_X2_hasAddress ml_RX6_149 hX.symm (zm1 (by decide)) rfl rfl ⟨by decide, Nat.le_of_ble_eq_true rfl⟩ rfl (Nat.le_of_ble_eq_true rfl) dX6_alone_16 rfl ?_
    refine v_if_ne C 28 dX6_alone_19 rfl hM (fun hM => ?_) (fun hM => ?_)
    · refine v_aload_n C 0 dX6_alone_28 rfl rfl ?_
      refine gf_RX6_50 C hX dX6_alone_29 ?_
      obtain ⟨x7, g8, e9, hM⟩ := zc_elim hM
      refine v_callVNv (ci := 4) (rest := []) C (c_X4_startOver hX  e9) mw_X4_startOver mi_X4_startOver ml_RX6_164 hX.symm zm6 rfl rfl ⟨by decide, Nat.le_of_ble_eq_true rfl⟩ rfl (Nat.le_of_ble_eq_true rfl) dX6_alone_32 rfl ?_
      refine v_iconst C (nI 0) dX6_alone_35 zk_0 ?_
      refine v_istore_n (L' := [some (.inr (.inl (0, 0))), some (.inl v1), some (.inl v2), some (.inl (nI 0)), none]) C 3 dX6_alone_36 rfl (by decide) rfl ?_
      exact t_X6_alone_l37 hX C hr (by intro v2 g  hM; exact t_X6_alone_b100 hX C hr   hM) _ g8  hM
    · exact v_weak (t_X6_alone_b22 hX C hr   hM) (show zsub [some (.inr (.inl (0, 0))), none, none, none, none] [some (.inr (.inl (0, 0))), some (.inl v1), some (.inl v2), none, none] from ⟨rfl, trivial⟩)

theorem t_X6_place_b67   {g : zG} (hX : zfl X = false) (C : Cx X p (zrm 1) s m args meth c cX6_place 8 RX6 0 0) (hr : meth.sig.returnType = (some .int))   (hM : X6_place_b67   g = some (rr, gr)) : V X p l e (zrm 1) s m args below meth c 8 0 0 (MQ below (zQ X (Option.map (zM X) (some (.inl rr))) gr) args s 0 0 (zF X)) g 67 [some (.inr (.inl (0, 0))), none, none, none, none, none, none, none] [] := by
  unfold X6_place_b67 at hM
  refine v_aload_n C 0 dX6_place_67 rfl rfl ?_
  refine v_iconst C (nI 1) dX6_place_68 zk_1 ?_
  obtain ⟨x1, g2, e3, hM⟩ := zc_elim hM
  refine v_callVi (ci := 6) (rest := []) C (c_X6_refuse hX  e3) mw_X6_refuse mi_X6_refuse ml_RX6_69 hX.symm zm0 rfl rfl ⟨by decide, Nat.le_of_ble_eq_true rfl⟩ rfl (Nat.le_of_ble_eq_true rfl) dX6_place_69 rfl ?_
  exact v_iret2 C hr dX6_place_72 hM

theorem t_X6_place_b50 {v1 : Int32} {v2 : Int32} {v3 : Int32} {v4 : Int32} {s0 : Int32}  {g : zG} (hX : zfl X = false) (C : Cx X p (zrm 1) s m args meth c cX6_place 8 RX6 0 0) (hr : meth.sig.returnType = (some .int))   (hM : X6_place_b50  v1 v2 v3 v4 s0 g = some (rr, gr)) : V X p l e (zrm 1) s m args below meth c 8 0 0 (MQ below (zQ X (Option.map (zM X) (some (.inl rr))) gr) args s 0 0 (zF X)) g 50 [some (.inr (.inl (0, 0))), some (.inl v1), some (.inl v2), some (.inl v3), some (.inl v4), none, none, none] [(.inl s0)] := by
  unfold X6_place_b50 at hM
  refine v_istore (L' := [some (.inr (.inl (0, 0))), some (.inl v1), some (.inl v2), some (.inl v3), some (.inl v4), some (.inl s0), none, none]) C 5 dX6_place_50 (by decide) rfl ?_
  refine v_iload C 5 dX6_place_52 rfl ?_
  refine v_if_eq C 67 dX6_place_54 rfl hM (fun hM => ?_) (fun hM => ?_)
  · exact v_weak (t_X6_place_b67 hX C hr   hM) (show zsub [some (.inr (.inl (0, 0))), none, none, none, none, none, none, none] [some (.inr (.inl (0, 0))), some (.inl v1), some (.inl v2), some (.inl v3), some (.inl v4), some (.inl s0), none, none] from ⟨rfl, trivial⟩)
  · refine v_iload C 4 dX6_place_57 rfl ?_
    refine v_iconst C (nI 0) dX6_place_59 zk_0 ?_
    refine v_iconst C (nI 4) dX6_place_60 zk_4 ?_
    obtain ⟨x1, g2, e3, hM⟩ := zc_elim hM
    refine v_callSi (rest := []) C (c_X6_isWithin hX  e3) mw_X6_isWithin ms_X6_isWithin ml_RX6_65 ⟨by decide, Nat.le_of_ble_eq_true rfl⟩ rfl (Nat.le_of_ble_eq_true rfl) dX6_place_61 rfl ?_
    refine v_if_ne C 73 dX6_place_64 rfl hM (fun hM => ?_) (fun hM => ?_)
    · refine v_aload_n C 0 dX6_place_73 rfl rfl ?_
      refine gf_RX6_37 C hX dX6_place_74 ?_
      refine gf_RX6_179 C hX (by decide) dX6_place_77 ?_
      refine v_iload_n C 1 dX6_place_80 rfl rfl ?_
      refine aa_18 C hX (by decide) dX6_place_81 hM (fun hM hj4 => ?_)
      have hb5 : (4 * 0 + v1.toNatClampNeg) < 12 := zix (by decide) hj4
      refine v_astore (L' := [some (.inr (.inl (0, 0))), some (.inl v1), some (.inl v2), some (.inl v3), some (.inl v4), some (.inl s0), some (.inr (.inl (4, (4 * 0 + v1.toNatClampNeg)))), none]) C 6 dX6_place_82 (by decide) rfl ?_
      refine v_iload_n C 2 dX6_place_84 rfl rfl ?_
      refine v_aload_n C 0 dX6_place_85 rfl rfl ?_
      refine gf_RX6_16 C hX dX6_place_86 ?_
      refine gf_RX6_115 C hX (by decide) dX6_place_89 ?_
      refine v_imul C dX6_place_92 ?_
      refine v_iload_n C 3 dX6_place_93 rfl rfl ?_
      refine v_iadd C dX6_place_94 ?_
      refine v_istore (L' := [some (.inr (.inl (0, 0))), some (.inl v1), some (.inl v2), some (.inl v3), some (.inl v4), some (.inl s0), some (.inr (.inl (4, (4 * 0 + v1.toNatClampNeg)))), some (.inl ((v2 * (g2 2001 0 0)) + v3))]) C 7 dX6_place_95 (by decide) rfl ?_
      refine v_iload C 7 dX6_place_97 rfl ?_
      refine v_iconst C (nI 0) dX6_place_99 zk_0 ?_
      refine v_bipush C (nI 15) dX6_place_100 zkb_15 ?_
      obtain ⟨x6, g7, e8, hM⟩ := zc_elim hM
      refine v_callSi (rest := []) C (c_X6_isWithin hX  e8) mw_X6_isWithin ms_X6_isWithin ml_RX6_65 ⟨by decide, Nat.le_of_ble_eq_true rfl⟩ rfl (Nat.le_of_ble_eq_true rfl) dX6_place_102 rfl ?_
      refine v_if_ne C 114 dX6_place_105 rfl hM (fun hM => ?_) (fun hM => ?_)
      · refine v_iload C 4 dX6_place_114 rfl ?_
        by_cases hx0 : v4 = (nI 0)
        · rw [if_pos hx0] at hM
          refine v_tblIn C 148 0 dX6_place_116 (by rw [hx0]; rfl) (by decide) (by decide) rfl rfl ?_
          refine v_aload_n C 0 dX6_place_148 rfl rfl ?_
          refine v_aload C 6 dX6_place_149 rfl ?_
          refine gf_RX6_183 C hX hb5 dX6_place_151 ?_
          refine v_iload C 7 dX6_place_154 rfl ?_
          refine ia_22 C hX hb5 dX6_place_156 hM (fun hM _ => ?_)
          obtain ⟨x9, g10, e11, hM⟩ := zc_elim hM
          refine v_callVi (ci := 6) (rest := []) C (c_X6_answer hX  e11) mw_X6_answer mi_X6_answer ml_RX6_106 hX.symm zm0 rfl rfl ⟨by decide, Nat.le_of_ble_eq_true rfl⟩ rfl (Nat.le_of_ble_eq_true rfl) dX6_place_157 rfl ?_
          exact v_iret2 C hr dX6_place_160 hM
        rw [if_neg hx0] at hM
        by_cases hx1 : v4 = (nI 1)
        · rw [if_pos hx1] at hM
          refine v_tblIn C 161 1 dX6_place_116 (by rw [hx1]; rfl) (by decide) (by decide) rfl rfl ?_
          refine v_aload_n C 0 dX6_place_161 rfl rfl ?_
          refine v_aload C 6 dX6_place_162 rfl ?_
          refine gf_RX6_188 C hX hb5 dX6_place_164 ?_
          refine v_iload C 7 dX6_place_167 rfl ?_
          refine ia_23 C hX hb5 dX6_place_169 hM (fun hM _ => ?_)
          obtain ⟨x12, g13, e14, hM⟩ := zc_elim hM
          refine v_callVi (ci := 6) (rest := []) C (c_X6_answer hX  e14) mw_X6_answer mi_X6_answer ml_RX6_106 hX.symm zm0 rfl rfl ⟨by decide, Nat.le_of_ble_eq_true rfl⟩ rfl (Nat.le_of_ble_eq_true rfl) dX6_place_170 rfl ?_
          exact v_iret2 C hr dX6_place_173 hM
        rw [if_neg hx1] at hM
        by_cases hx2 : v4 = (nI 2)
        · rw [if_pos hx2] at hM
          refine v_tblIn C 174 2 dX6_place_116 (by rw [hx2]; rfl) (by decide) (by decide) rfl rfl ?_
          refine v_aload_n C 0 dX6_place_174 rfl rfl ?_
          refine v_aload C 6 dX6_place_175 rfl ?_
          refine gf_RX6_191 C hX hb5 dX6_place_177 ?_
          refine v_iload C 7 dX6_place_180 rfl ?_
          refine ia_24 C hX hb5 dX6_place_182 hM (fun hM _ => ?_)
          obtain ⟨x15, g16, e17, hM⟩ := zc_elim hM
          refine v_callSi (rest := [(.inr (.inl (0, 0)))]) C (c_X6_asBit hX  e17) mw_X6_asBit ms_X6_asBit ml_RX6_145 ⟨by decide, Nat.le_of_ble_eq_true rfl⟩ rfl (Nat.le_of_ble_eq_true rfl) dX6_place_183 rfl ?_
          obtain ⟨x18, g19, e20, hM⟩ := zc_elim hM
          refine v_callVi (ci := 6) (rest := []) C (c_X6_answer hX  e20) mw_X6_answer mi_X6_answer ml_RX6_106 hX.symm zm0 rfl rfl ⟨by decide, Nat.le_of_ble_eq_true rfl⟩ rfl (Nat.le_of_ble_eq_true rfl) dX6_place_186 rfl ?_
          exact v_iret2 C hr dX6_place_189 hM
        rw [if_neg hx2] at hM
        by_cases hx3 : v4 = (nI 3)
        · rw [if_pos hx3] at hM
          refine v_tblIn C 190 3 dX6_place_116 (by rw [hx3]; rfl) (by decide) (by decide) rfl rfl ?_
          refine v_aload_n C 0 dX6_place_190 rfl rfl ?_
          refine v_aload C 6 dX6_place_191 rfl ?_
          refine gf_RX6_195 C hX hb5 dX6_place_193 ?_
          refine v_iload C 7 dX6_place_196 rfl ?_
          refine ia_25 C hX hb5 dX6_place_198 hM (fun hM _ => ?_)
          obtain ⟨x21, g22, e23, hM⟩ := zc_elim hM
          refine v_callSi (rest := [(.inr (.inl (0, 0)))]) C (c_X6_asBit hX  e23) mw_X6_asBit ms_X6_asBit ml_RX6_145 ⟨by decide, Nat.le_of_ble_eq_true rfl⟩ rfl (Nat.le_of_ble_eq_true rfl) dX6_place_199 rfl ?_
          obtain ⟨x24, g25, e26, hM⟩ := zc_elim hM
          refine v_callVi (ci := 6) (rest := []) C (c_X6_answer hX  e26) mw_X6_answer mi_X6_answer ml_RX6_106 hX.symm zm0 rfl rfl ⟨by decide, Nat.le_of_ble_eq_true rfl⟩ rfl (Nat.le_of_ble_eq_true rfl) dX6_place_202 rfl ?_
          exact v_iret2 C hr dX6_place_205 hM
        rw [if_neg hx3] at hM
        refine v_tblOut C 206 dX6_place_116 (ztbl 4 rfl (by intro k hk; match k, hk with | 0, _ => exact hx0 | 1, _ => exact hx1 | 2, _ => exact hx2 | 3, _ => exact hx3 | k + 4, hk => omega)) rfl ?_
        refine v_aload_n C 0 dX6_place_206 rfl rfl ?_
        refine v_aload C 6 dX6_place_207 rfl ?_
        refine gf_RX6_198 C hX hb5 dX6_place_209 ?_
        refine v_iload C 7 dX6_place_212 rfl ?_
        refine ia_26 C hX hb5 dX6_place_214 hM (fun hM _ => ?_)
        obtain ⟨x27, g28, e29, hM⟩ := zc_elim hM
        refine v_callVi (ci := 6) (rest := []) C (c_X6_answer hX  e29) mw_X6_answer mi_X6_answer ml_RX6_106 hX.symm zm0 rfl rfl ⟨by decide, Nat.le_of_ble_eq_true rfl⟩ rfl (Nat.le_of_ble_eq_true rfl) dX6_place_215 rfl ?_
        exact v_iret2 C hr dX6_place_218 hM
      · refine v_aload_n C 0 dX6_place_108 rfl rfl ?_
        refine v_iconst C (nI 1) dX6_place_109 zk_1 ?_
        obtain ⟨x30, g31, e32, hM⟩ := zc_elim hM
        refine v_callVi (ci := 6) (rest := []) C (c_X6_refuse hX  e32) mw_X6_refuse mi_X6_refuse ml_RX6_69 hX.symm zm0 rfl rfl ⟨by decide, Nat.le_of_ble_eq_true rfl⟩ rfl (Nat.le_of_ble_eq_true rfl) dX6_place_110 rfl ?_
        exact v_iret2 C hr dX6_place_113 hM
    · exact v_weak (t_X6_place_b67 hX C hr   hM) (show zsub [some (.inr (.inl (0, 0))), none, none, none, none, none, none, none] [some (.inr (.inl (0, 0))), some (.inl v1), some (.inl v2), some (.inl v3), some (.inl v4), some (.inl s0), none, none] from ⟨rfl, trivial⟩)

theorem t_X6_place_b49 {v1 : Int32} {v2 : Int32} {v3 : Int32} {v4 : Int32}  {g : zG} (hX : zfl X = false) (C : Cx X p (zrm 1) s m args meth c cX6_place 8 RX6 0 0) (hr : meth.sig.returnType = (some .int))   (hM : X6_place_b49  v1 v2 v3 v4 g = some (rr, gr)) : V X p l e (zrm 1) s m args below meth c 8 0 0 (MQ below (zQ X (Option.map (zM X) (some (.inl rr))) gr) args s 0 0 (zF X)) g 49 [some (.inr (.inl (0, 0))), some (.inl v1), some (.inl v2), some (.inl v3), some (.inl v4), none, none, none] [] := by
  unfold X6_place_b49 at hM
  refine v_iconst C (nI 0) dX6_place_49 zk_0 ?_
  exact t_X6_place_b50 hX C hr   hM

theorem c_X6_place {X : zX} (hX : zfl X = false) {v1 : Int32} {v2 : Int32} {v3 : Int32} {v4 : Int32} {g gr : zG} {rr : Int32}  (hM : X6_place v1 v2 v3 v4 g = some (rr, gr)) : MC X yX6_place cX6_place 8 (some .int) 1 [.inr (.inl (0, 0)), .inl v1, .inl v2, .inl v3, .inl v4] (some (.inl rr)) g gr := by
  refine MC.mk (own := RX6) (L := [some (.inr (.inl (0, 0))), some (.inl v1), some (.inl v2), some (.inl v3), some (.inl v4), none, none, none]) (by decide) rfl trivial (Nat.le_of_ble_eq_true rfl) rfl ?_
  intro p l e s m args below meth c C hr
  unfold X6_place at hM
  refine v_aload_n C 0 dX6_place_0 rfl rfl ?_
  refine gf_RX6_16 C hX dX6_place_1 ?_
  refine v_iload_n C 1 dX6_place_4 rfl rfl ?_
  obtain ⟨x1, g2, e3, hM⟩ := zc_elim hM
  refine v_callVNi (ci := 2) (rest := []) C (c_X2_hasCore hX (by decide) e3) mw_X2_hasCore mi_X2_hasCore ml_RX6_176 hX.symm (zm1 (by decide)) rfl rfl ⟨by decide, Nat.le_of_ble_eq_true rfl⟩ rfl (Nat.le_of_ble_eq_true rfl) dX6_place_5 rfl ?_
  refine v_if_eq C 49 dX6_place_8 rfl hM (fun hM => ?_) (fun hM => ?_)
  · exact t_X6_place_b49 hX C hr   hM
  · refine v_iload_n C 2 dX6_place_11 rfl rfl ?_
    refine v_iconst C (nI 0) dX6_place_12 zk_0 ?_
    refine v_aload_n C 0 dX6_place_13 rfl rfl ?_
    refine gf_RX6_16 C hX dX6_place_14 ?_
    refine gf_RX6_112 C hX (by decide) dX6_place_17 ?_
    refine v_iconst C (nI 1) dX6_place_20 zk_1 ?_
    refine v_isub C dX6_place_21 ?_
    obtain ⟨x4, g5, e6, hM⟩ := zc_elim hM
    refine v_callSi (rest := []) C (c_X6_isWithin hX  e6) mw_X6_isWithin ms_X6_isWithin ml_RX6_65 ⟨by decide, Nat.le_of_ble_eq_true rfl⟩ rfl (Nat.le_of_ble_eq_true rfl) dX6_place_22 rfl ?_
    refine v_if_eq C 49 dX6_place_25 rfl hM (fun hM => ?_) (fun hM => ?_)
    · exact t_X6_place_b49 hX C hr   hM
    · refine v_iload_n C 3 dX6_place_28 rfl rfl ?_
      refine v_iconst C (nI 0) dX6_place_29 zk_0 ?_
      refine v_aload_n C 0 dX6_place_30 rfl rfl ?_
      refine gf_RX6_16 C hX dX6_place_31 ?_
      refine gf_RX6_115 C hX (by decide) dX6_place_34 ?_
      refine v_iconst C (nI 1) dX6_place_37 zk_1 ?_
      refine v_isub C dX6_place_38 ?_
      obtain ⟨x7, g8, e9, hM⟩ := zc_elim hM
      refine v_callSi (rest := []) C (c_X6_isWithin hX  e9) mw_X6_isWithin ms_X6_isWithin ml_RX6_65 ⟨by decide, Nat.le_of_ble_eq_true rfl⟩ rfl (Nat.le_of_ble_eq_true rfl) dX6_place_39 rfl ?_
      refine v_if_eq C 49 dX6_place_42 rfl hM (fun hM => ?_) (fun hM => ?_)
      · exact t_X6_place_b49 hX C hr   hM
      · refine v_iconst C (nI 1) dX6_place_45 zk_1 ?_
        refine v_goto C 50 dX6_place_46 rfl ?_
        exact t_X6_place_b50 hX C hr   hM

theorem t_X6_cached_b22   {g : zG} (hX : zfl X = false) (C : Cx X p (zrm 2) s m args meth c cX6_cached 4 RX6 0 0) (hr : meth.sig.returnType = (some .int))   (hM : X6_cached_b22   g = some (rr, gr)) : V X p l e (zrm 2) s m args below meth c 4 0 0 (MQ below (zQ X (Option.map (zM X) (some (.inl rr))) gr) args s 0 0 (zF X)) g 22 [some (.inr (.inl (0, 0))), none, none, none] [] := by
  unfold X6_cached_b22 at hM
  refine v_aload_n C 0 dX6_cached_22 rfl rfl ?_
  refine v_iconst C (nI 1) dX6_cached_23 zk_1 ?_
  obtain ⟨x1, g2, e3, hM⟩ := zc_elim hM
  refine v_callVi (ci := 6) (rest := []) C (c_X6_refuse hX  e3) mw_X6_refuse mi_X6_refuse ml_RX6_69 hX.symm zm0 rfl rfl ⟨by decide, Nat.le_of_ble_eq_true rfl⟩ rfl (Nat.le_of_ble_eq_true rfl) dX6_cached_24 rfl ?_
  exact v_iret2 C hr dX6_cached_27 hM

theorem t_X6_cached_b81 {s1 : Int32}  {g : zG} (hX : zfl X = false) (C : Cx X p (zrm 2) s m args meth c cX6_cached 4 RX6 0 0) (hr : meth.sig.returnType = (some .int))   (hM : X6_cached_b81  s1 g = some (rr, gr)) : V X p l e (zrm 2) s m args below meth c 4 0 0 (MQ below (zQ X (Option.map (zM X) (some (.inl rr))) gr) args s 0 0 (zF X)) g 81 [none, none, none, none] [(.inl s1), (.inr (.inl (0, 0)))] := by
  unfold X6_cached_b81 at hM
  obtain ⟨x1, g2, e3, hM⟩ := zc_elim hM
  refine v_callVi (ci := 6) (rest := []) C (c_X6_answer hX  e3) mw_X6_answer mi_X6_answer ml_RX6_106 hX.symm zm0 rfl rfl ⟨by decide, Nat.le_of_ble_eq_true rfl⟩ rfl (Nat.le_of_ble_eq_true rfl) dX6_cached_81 rfl ?_
  exact v_iret2 C hr dX6_cached_84 hM

theorem c_X6_cached {X : zX} (hX : zfl X = false) {v1 : Int32} {v2 : Int32} {g gr : zG} {rr : Int32}  (hM : X6_cached v1 v2 g = some (rr, gr)) : MC X yX6_cached cX6_cached 4 (some .int) 2 [.inr (.inl (0, 0)), .inl v1, .inl v2] (some (.inl rr)) g gr := by
  refine MC.mk (own := RX6) (L := [some (.inr (.inl (0, 0))), some (.inl v1), some (.inl v2), none]) (by decide) rfl trivial (Nat.le_of_ble_eq_true rfl) rfl ?_
  intro p l e s m args below meth c C hr
  unfold X6_cached at hM
  refine v_aload_n C 0 dX6_cached_0 rfl rfl ?_
  refine gf_RX6_16 C hX dX6_cached_1 ?_
  refine v_iload_n C 1 dX6_cached_4 rfl rfl ?_
  obtain ⟨x1, g2, e3, hM⟩ := zc_elim hM
  refine v_callVNi (ci := 2) (rest := []) C (c_X2_hasCore hX (by decide) e3) mw_X2_hasCore mi_X2_hasCore ml_RX6_176 hX.symm (zm1 (by decide)) rfl rfl ⟨by decide, Nat.le_of_ble_eq_true rfl⟩ rfl (Nat.le_of_ble_eq_true rfl) dX6_cached_5 rfl ?_
  refine v_if_eq C 22 dX6_cached_8 rfl hM (fun hM => ?_) (fun hM => ?_)
  · exact v_weak (t_X6_cached_b22 hX C hr   hM) (show zsub [some (.inr (.inl (0, 0))), none, none, none] [some (.inr (.inl (0, 0))), some (.inl v1), some (.inl v2), none] from ⟨rfl, trivial⟩)
  · refine v_aload_n C 0 dX6_cached_11 rfl rfl ?_
    refine gf_RX6_16 C hX dX6_cached_12 ?_
    refine v_iload_n C 2 dX6_cached_15 rfl rfl ?_
    obtain ⟨x4, g5, e6, hM⟩ := zc_elim hM
    refine v_callVNi (ci := 2) (rest := []) C (c_X2_hasAddress hX (by decide) e6) mw_X2_hasAddress mi_X2_hasAddress ml_RX6_149 hX.symm (zm1 (by decide)) rfl rfl ⟨by decide, Nat.le_of_ble_eq_true rfl⟩ rfl (Nat.le_of_ble_eq_true rfl) dX6_cached_16 rfl ?_
    refine v_if_ne C 28 dX6_cached_19 rfl hM (fun hM => ?_) (fun hM => ?_)
    · refine v_aload_n C 0 dX6_cached_28 rfl rfl ?_
      refine gf_RX6_37 C hX dX6_cached_29 ?_
      refine gf_RX6_179 C hX (by decide) dX6_cached_32 ?_
      refine v_iload_n C 1 dX6_cached_35 rfl rfl ?_
      refine aa_18 C hX (by decide) dX6_cached_36 hM (fun hM hj7 => ?_)
      have hb8 : (4 * 0 + v1.toNatClampNeg) < 12 := zix (by decide) hj7
      refine v_aload_n C 0 dX6_cached_37 rfl rfl ?_
      refine gf_RX6_16 C hX dX6_cached_38 ?_
      refine v_iload_n C 2 dX6_cached_41 rfl rfl ?_
      obtain ⟨x9, g10, e11, hM⟩ := zc_elim hM
      refine v_callVNi (ci := 2) (rest := [(.inr (.inl (4, (4 * 0 + v1.toNatClampNeg))))]) C (c_X2_lineOf hX (by decide) e11) mw_X2_lineOf mi_X2_lineOf ml_RX6_201 hX.symm (zm1 (by decide)) rfl rfl ⟨by decide, Nat.le_of_ble_eq_true rfl⟩ rfl (Nat.le_of_ble_eq_true rfl) dX6_cached_42 rfl ?_
      obtain ⟨x12, g13, e14, hM⟩ := zc_elim hM
      refine v_callVNi (ci := 0) (rest := []) C (c_X0_find hX hb8 e14) mw_X0_find mi_X0_find ml_RX6_204 hX.symm (zm4 hb8) rfl rfl ⟨by decide, Nat.le_of_ble_eq_true rfl⟩ rfl (Nat.le_of_ble_eq_true rfl) dX6_cached_45 rfl ?_
      refine v_istore_n (L' := [some (.inr (.inl (0, 0))), some (.inl v1), some (.inl v2), some (.inl x12)]) C 3 dX6_cached_48 rfl (by decide) rfl ?_
      refine v_aload_n C 0 dX6_cached_49 rfl rfl ?_
      refine v_iload_n C 3 dX6_cached_50 rfl rfl ?_
      refine v_iconst C (-1) dX6_cached_51 zk_m1 ?_
      refine v_icmp_ne C 60 dX6_cached_52 rfl hM (fun hM => ?_) (fun hM => ?_)
      · refine v_aload_n C 0 dX6_cached_60 rfl rfl ?_
        refine gf_RX6_37 C hX dX6_cached_61 ?_
        refine gf_RX6_179 C hX (by decide) dX6_cached_64 ?_
        refine v_iload_n C 1 dX6_cached_67 rfl rfl ?_
        refine aa_18 C hX (by decide) dX6_cached_68 hM (fun hM hj15 => ?_)
        have hb16 : (4 * 0 + v1.toNatClampNeg) < 12 := zix (by decide) hj15
        refine v_iload_n C 3 dX6_cached_69 rfl rfl ?_
        refine v_aload_n C 0 dX6_cached_70 rfl rfl ?_
        refine gf_RX6_16 C hX dX6_cached_71 ?_
        refine v_iload_n C 2 dX6_cached_74 rfl rfl ?_
        obtain ⟨x17, g18, e19, hM⟩ := zc_elim hM
        refine v_callVNi (ci := 2) (rest := [(.inl x12), (.inr (.inl (4, (4 * 0 + v1.toNatClampNeg)))), (.inr (.inl (0, 0)))]) C (c_X2_offsetOf hX (by decide) e19) mw_X2_offsetOf mi_X2_offsetOf ml_RX6_207 hX.symm (zm1 (by decide)) rfl rfl ⟨by decide, Nat.le_of_ble_eq_true rfl⟩ rfl (Nat.le_of_ble_eq_true rfl) dX6_cached_75 rfl ?_
        obtain ⟨x20, g21, e22, hM⟩ := zc_elim hM
        refine v_callVNi (ci := 0) (rest := [(.inr (.inl (0, 0)))]) C (c_X0_wordIn hX hb16 e22) mw_X0_wordIn mi_X0_wordIn ml_RX6_210 hX.symm (zm4 hb16) rfl rfl ⟨by decide, Nat.le_of_ble_eq_true rfl⟩ rfl (Nat.le_of_ble_eq_true rfl) dX6_cached_78 rfl ?_
        exact v_weak (t_X6_cached_b81 hX C hr   hM) (show zsub [none, none, none, none] [some (.inr (.inl (0, 0))), some (.inl v1), some (.inl v2), some (.inl x12)] from trivial)
      · refine v_bipush C (-2) dX6_cached_55 zkb_m2 ?_
        refine v_goto C 81 dX6_cached_57 rfl ?_
        exact v_weak (t_X6_cached_b81 hX C hr   hM) (show zsub [none, none, none, none] [some (.inr (.inl (0, 0))), some (.inl v1), some (.inl v2), some (.inl x12)] from trivial)
    · exact v_weak (t_X6_cached_b22 hX C hr   hM) (show zsub [some (.inr (.inl (0, 0))), none, none, none] [some (.inr (.inl (0, 0))), some (.inl v1), some (.inl v2), none] from ⟨rfl, trivial⟩)

theorem t_X6_sharers_b17   {g : zG} (hX : zfl X = false) (C : Cx X p (zrm 1) s m args meth c cX6_sharers 4 RX6 0 0) (hr : meth.sig.returnType = (some .int))   (hM : X6_sharers_b17   g = some (rr, gr)) : V X p l e (zrm 1) s m args below meth c 4 0 0 (MQ below (zQ X (Option.map (zM X) (some (.inl rr))) gr) args s 0 0 (zF X)) g 17 [some (.inr (.inl (0, 0))), none, none, none] [] := by
  unfold X6_sharers_b17 at hM
  refine v_aload_n C 0 dX6_sharers_17 rfl rfl ?_
  refine v_iconst C (nI 1) dX6_sharers_18 zk_1 ?_
  obtain ⟨x1, g2, e3, hM⟩ := zc_elim hM
  refine v_callVi (ci := 6) (rest := []) C (c_X6_refuse hX  e3) mw_X6_refuse mi_X6_refuse ml_RX6_69 hX.symm zm0 rfl rfl ⟨by decide, Nat.le_of_ble_eq_true rfl⟩ rfl (Nat.le_of_ble_eq_true rfl) dX6_sharers_19 rfl ?_
  exact v_iret2 C hr dX6_sharers_22 hM

theorem t_X6_sharers_b55 {v1 : Int32} {v2 : Int32} {v3 : Int32} {k27 : Int32 → Int32 → Int32 → zG → Option (Int32 × zG)} {g : zG} (hX : zfl X = false) (C : Cx X p (zrm 1) s m args meth c cX6_sharers 4 RX6 0 0) (hr : meth.sig.returnType = (some .int))  (hk27 : ∀ (v1 : Int32) (v2 : Int32) (v3 : Int32) (g : zG),  k27 v1 v2 v3 g = some (rr, gr) → V X p l e (zrm 1) s m args below meth c 4 0 0 (MQ below (zQ X (Option.map (zM X) (some (.inl rr))) gr) args s 0 0 (zF X)) g 27 [some (.inr (.inl (0, 0))), some (.inl v1), some (.inl v2), some (.inl v3)] []) (hM : X6_sharers_b55 k27 v1 v2 v3 g = some (rr, gr)) : V X p l e (zrm 1) s m args below meth c 4 0 0 (MQ below (zQ X (Option.map (zM X) (some (.inl rr))) gr) args s 0 0 (zF X)) g 55 [some (.inr (.inl (0, 0))), some (.inl v1), some (.inl v2), some (.inl v3)] [] := by
  unfold X6_sharers_b55 at hM
  refine v_iinc (L' := [some (.inr (.inl (0, 0))), some (.inl v1), some (.inl v2), some (.inl (v3 + (nI 1)))]) C 3 (nI 1) dX6_sharers_55 zk_1 (by decide) rfl rfl ?_
  refine v_goto C 27 dX6_sharers_58 rfl ?_
  exact hk27 v1 v2 (v3 + (nI 1)) g  hM

theorem t_X6_sharers_l27  (hX : zfl X = false) (C : Cx X p (zrm 1) s m args meth c cX6_sharers 4 RX6 0 0) (hr : meth.sig.returnType = (some .int))  : ∀ (n : Nat) {v1 : Int32} {v2 : Int32} {v3 : Int32} (g : zG), X6_sharers_l27  n v1 v2 v3 g = some (rr, gr) → V X p l e (zrm 1) s m args below meth c 4 0 0 (MQ below (zQ X (Option.map (zM X) (some (.inl rr))) gr) args s 0 0 (zF X)) g 27 [some (.inr (.inl (0, 0))), some (.inl v1), some (.inl v2), some (.inl v3)] [] := by
  intro n
  induction n with
  | zero =>
    intro v1 v2 v3 g  hM
    exact absurd (show (none : Option (Int32 × zG)) = some (rr, gr) from hM) (by simp)
  | succ n ih =>
    intro v1 v2 v3 g  hM
    rw [X6_sharers_l27.eq_2] at hM
    refine v_iload_n C 3 dX6_sharers_27 rfl rfl ?_
    refine v_iconst C (nI 4) dX6_sharers_28 zk_4 ?_
    refine v_icmp_ge C 61 dX6_sharers_29 rfl hM (fun hM => ?_) (fun hM => ?_)
    · refine v_aload_n C 0 dX6_sharers_61 rfl rfl ?_
      refine v_iload_n C 2 dX6_sharers_62 rfl rfl ?_
      obtain ⟨x1, g2, e3, hM⟩ := zc_elim hM
      refine v_callVi (ci := 6) (rest := []) C (c_X6_answer hX  e3) mw_X6_answer mi_X6_answer ml_RX6_106 hX.symm zm0 rfl rfl ⟨by decide, Nat.le_of_ble_eq_true rfl⟩ rfl (Nat.le_of_ble_eq_true rfl) dX6_sharers_63 rfl ?_
      exact v_iret2 C hr dX6_sharers_66 hM
    · refine v_aload_n C 0 dX6_sharers_32 rfl rfl ?_
      refine gf_RX6_37 C hX dX6_sharers_33 ?_
      refine gf_RX6_179 C hX (by decide) dX6_sharers_36 ?_
      refine v_iload_n C 3 dX6_sharers_39 rfl rfl ?_
      refine aa_18 C hX (by decide) dX6_sharers_40 hM (fun hM hj4 => ?_)
      have hb5 : (4 * 0 + v3.toNatClampNeg) < 12 := zix (by decide) hj4
      refine v_iload_n C 1 dX6_sharers_41 rfl rfl ?_
      obtain ⟨x6, g7, e8, hM⟩ := zc_elim hM
      refine v_callVNi (ci := 0) (rest := []) C (c_X0_find hX hb5 e8) mw_X0_find mi_X0_find ml_RX6_204 hX.symm (zm4 hb5) rfl rfl ⟨by decide, Nat.le_of_ble_eq_true rfl⟩ rfl (Nat.le_of_ble_eq_true rfl) dX6_sharers_42 rfl ?_
      refine v_iconst C (-1) dX6_sharers_45 zk_m1 ?_
      refine v_icmp_eq C 55 dX6_sharers_46 rfl hM (fun hM => ?_) (fun hM => ?_)
      · exact t_X6_sharers_b55 hX C hr  (fun v1 v2 v3 g  hM => ih g  hM) hM
      · refine v_iload_n C 2 dX6_sharers_49 rfl rfl ?_
        refine v_iconst C (nI 1) dX6_sharers_50 zk_1 ?_
        refine v_iload_n C 3 dX6_sharers_51 rfl rfl ?_
        refine v_ishl C dX6_sharers_52 ?_
        refine v_ior C dX6_sharers_53 ?_
        refine v_istore_n (L' := [some (.inr (.inl (0, 0))), some (.inl v1), some (.inl (v2 ||| ((nI 1) <<< (v3 &&& 31)))), some (.inl v3)]) C 2 dX6_sharers_54 rfl (by decide) rfl ?_
        exact t_X6_sharers_b55 hX C hr  (fun v1 v2 v3 g  hM => ih g  hM) hM

theorem c_X6_sharers {X : zX} (hX : zfl X = false) {v1 : Int32} {g gr : zG} {rr : Int32}  (hM : X6_sharers v1 g = some (rr, gr)) : MC X yX6_sharers cX6_sharers 4 (some .int) 1 [.inr (.inl (0, 0)), .inl v1] (some (.inl rr)) g gr := by
  refine MC.mk (own := RX6) (L := [some (.inr (.inl (0, 0))), some (.inl v1), none, none]) (by decide) rfl trivial (Nat.le_of_ble_eq_true rfl) rfl ?_
  intro p l e s m args below meth c C hr
  unfold X6_sharers at hM
  refine v_aload_n C 0 dX6_sharers_0 rfl rfl ?_
  refine gf_RX6_96 C hX dX6_sharers_1 ?_
  refine v_if_eq C 17 dX6_sharers_4 rfl hM (fun hM => ?_) (fun hM => ?_)
  · exact v_weak (t_X6_sharers_b17 hX C hr   hM) (show zsub [some (.inr (.inl (0, 0))), none, none, none] [some (.inr (.inl (0, 0))), some (.inl v1), none, none] from ⟨rfl, trivial⟩)
  · refine v_iload_n C 1 dX6_sharers_7 rfl rfl ?_
    refine v_iconst C (nI 0) dX6_sharers_8 zk_0 ?_
    refine v_bipush C (nI 16) dX6_sharers_9 zkb_16 ?_
    obtain ⟨x1, g2, e3, hM⟩ := zc_elim hM
    refine v_callSi (rest := []) C (c_X6_isWithin hX  e3) mw_X6_isWithin ms_X6_isWithin ml_RX6_65 ⟨by decide, Nat.le_of_ble_eq_true rfl⟩ rfl (Nat.le_of_ble_eq_true rfl) dX6_sharers_11 rfl ?_
    refine v_if_ne C 23 dX6_sharers_14 rfl hM (fun hM => ?_) (fun hM => ?_)
    · refine v_iconst C (nI 0) dX6_sharers_23 zk_0 ?_
      refine v_istore_n (L' := [some (.inr (.inl (0, 0))), some (.inl v1), some (.inl (nI 0)), none]) C 2 dX6_sharers_24 rfl (by decide) rfl ?_
      refine v_iconst C (nI 0) dX6_sharers_25 zk_0 ?_
      refine v_istore_n (L' := [some (.inr (.inl (0, 0))), some (.inl v1), some (.inl (nI 0)), some (.inl (nI 0))]) C 3 dX6_sharers_26 rfl (by decide) rfl ?_
      exact t_X6_sharers_l27 hX C hr  _ g2  hM
    · exact v_weak (t_X6_sharers_b17 hX C hr   hM) (show zsub [some (.inr (.inl (0, 0))), none, none, none] [some (.inr (.inl (0, 0))), some (.inl v1), none, none] from ⟨rfl, trivial⟩)

theorem c_X6_reads {X : zX} (hX : zfl X = false) {v1 : Int32} {g gr : zG} {rr : Int32}  (hM : X6_reads v1 g = some (rr, gr)) : MC X yX6_reads cX6_reads 2 (some .int) 1 [.inr (.inl (0, 0)), .inl v1] (some (.inl rr)) g gr := by
  refine MC.mk (own := RX6) (L := [some (.inr (.inl (0, 0))), some (.inl v1)]) (by decide) rfl trivial (Nat.le_of_ble_eq_true rfl) rfl ?_
  intro p l e s m args below meth c C hr
  unfold X6_reads at hM
  refine v_aload_n C 0 dX6_reads_0 rfl rfl ?_
  refine gf_RX6_16 C hX dX6_reads_1 ?_
  refine v_iload_n C 1 dX6_reads_4 rfl rfl ?_
  obtain ⟨x1, g2, e3, hM⟩ := zc_elim hM
  refine v_callVNi (ci := 2) (rest := []) C (c_X2_hasCore hX (by decide) e3) mw_X2_hasCore mi_X2_hasCore ml_RX6_176 hX.symm (zm1 (by decide)) rfl rfl ⟨by decide, Nat.le_of_ble_eq_true rfl⟩ rfl (Nat.le_of_ble_eq_true rfl) dX6_reads_5 rfl ?_
  refine v_if_eq C 31 dX6_reads_8 rfl hM (fun hM => ?_) (fun hM => ?_)
  · refine v_aload_n C 0 dX6_reads_31 rfl rfl ?_
    refine v_iconst C (nI 1) dX6_reads_32 zk_1 ?_
    obtain ⟨x4, g5, e6, hM⟩ := zc_elim hM
    refine v_callVi (ci := 6) (rest := []) C (c_X6_refuse hX  e6) mw_X6_refuse mi_X6_refuse ml_RX6_69 hX.symm zm0 rfl rfl ⟨by decide, Nat.le_of_ble_eq_true rfl⟩ rfl (Nat.le_of_ble_eq_true rfl) dX6_reads_33 rfl ?_
    exact v_iret2 C hr dX6_reads_36 hM
  · refine v_aload_n C 0 dX6_reads_11 rfl rfl ?_
    refine v_aload_n C 0 dX6_reads_12 rfl rfl ?_
    refine gf_RX6_37 C hX dX6_reads_13 ?_
    refine gf_RX6_179 C hX (by decide) dX6_reads_16 ?_
    refine v_iload_n C 1 dX6_reads_19 rfl rfl ?_
    refine aa_18 C hX (by decide) dX6_reads_20 hM (fun hM hj7 => ?_)
    have hb8 : (4 * 0 + v1.toNatClampNeg) < 12 := zix (by decide) hj7
    refine v_iconst C (nI 0) dX6_reads_21 zk_0 ?_
    obtain ⟨x9, g10, e11, hM⟩ := zc_elim hM
    refine v_callVNi (ci := 0) (rest := [(.inr (.inl (0, 0)))]) C (c_X0_markedLines hX hb8 e11) mw_X0_markedLines mi_X0_markedLines ml_RX6_213 hX.symm (zm4 hb8) rfl rfl ⟨by decide, Nat.le_of_ble_eq_true rfl⟩ rfl (Nat.le_of_ble_eq_true rfl) dX6_reads_22 rfl ?_
    obtain ⟨x12, g13, e14, hM⟩ := zc_elim hM
    refine v_callVi (ci := 6) (rest := []) C (c_X6_answer hX  e14) mw_X6_answer mi_X6_answer ml_RX6_106 hX.symm zm0 rfl rfl ⟨by decide, Nat.le_of_ble_eq_true rfl⟩ rfl (Nat.le_of_ble_eq_true rfl) dX6_reads_25 rfl ?_
    refine v_goto C 36 dX6_reads_28 rfl ?_
    exact v_iret2 C hr dX6_reads_36 hM

theorem c_X6_writes {X : zX} (hX : zfl X = false) {v1 : Int32} {g gr : zG} {rr : Int32}  (hM : X6_writes v1 g = some (rr, gr)) : MC X yX6_writes cX6_writes 2 (some .int) 1 [.inr (.inl (0, 0)), .inl v1] (some (.inl rr)) g gr := by
  refine MC.mk (own := RX6) (L := [some (.inr (.inl (0, 0))), some (.inl v1)]) (by decide) rfl trivial (Nat.le_of_ble_eq_true rfl) rfl ?_
  intro p l e s m args below meth c C hr
  unfold X6_writes at hM
  refine v_aload_n C 0 dX6_writes_0 rfl rfl ?_
  refine gf_RX6_16 C hX dX6_writes_1 ?_
  refine v_iload_n C 1 dX6_writes_4 rfl rfl ?_
  obtain ⟨x1, g2, e3, hM⟩ := zc_elim hM
  refine v_callVNi (ci := 2) (rest := []) C (c_X2_hasCore hX (by decide) e3) mw_X2_hasCore mi_X2_hasCore ml_RX6_176 hX.symm (zm1 (by decide)) rfl rfl ⟨by decide, Nat.le_of_ble_eq_true rfl⟩ rfl (Nat.le_of_ble_eq_true rfl) dX6_writes_5 rfl ?_
  refine v_if_eq C 31 dX6_writes_8 rfl hM (fun hM => ?_) (fun hM => ?_)
  · refine v_aload_n C 0 dX6_writes_31 rfl rfl ?_
    refine v_iconst C (nI 1) dX6_writes_32 zk_1 ?_
    obtain ⟨x4, g5, e6, hM⟩ := zc_elim hM
    refine v_callVi (ci := 6) (rest := []) C (c_X6_refuse hX  e6) mw_X6_refuse mi_X6_refuse ml_RX6_69 hX.symm zm0 rfl rfl ⟨by decide, Nat.le_of_ble_eq_true rfl⟩ rfl (Nat.le_of_ble_eq_true rfl) dX6_writes_33 rfl ?_
    exact v_iret2 C hr dX6_writes_36 hM
  · refine v_aload_n C 0 dX6_writes_11 rfl rfl ?_
    refine v_aload_n C 0 dX6_writes_12 rfl rfl ?_
    refine gf_RX6_37 C hX dX6_writes_13 ?_
    refine gf_RX6_179 C hX (by decide) dX6_writes_16 ?_
    refine v_iload_n C 1 dX6_writes_19 rfl rfl ?_
    refine aa_18 C hX (by decide) dX6_writes_20 hM (fun hM hj7 => ?_)
    have hb8 : (4 * 0 + v1.toNatClampNeg) < 12 := zix (by decide) hj7
    refine v_iconst C (nI 1) dX6_writes_21 zk_1 ?_
    obtain ⟨x9, g10, e11, hM⟩ := zc_elim hM
    refine v_callVNi (ci := 0) (rest := [(.inr (.inl (0, 0)))]) C (c_X0_markedLines hX hb8 e11) mw_X0_markedLines mi_X0_markedLines ml_RX6_213 hX.symm (zm4 hb8) rfl rfl ⟨by decide, Nat.le_of_ble_eq_true rfl⟩ rfl (Nat.le_of_ble_eq_true rfl) dX6_writes_22 rfl ?_
    obtain ⟨x12, g13, e14, hM⟩ := zc_elim hM
    refine v_callVi (ci := 6) (rest := []) C (c_X6_answer hX  e14) mw_X6_answer mi_X6_answer ml_RX6_106 hX.symm zm0 rfl rfl ⟨by decide, Nat.le_of_ble_eq_true rfl⟩ rfl (Nat.le_of_ble_eq_true rfl) dX6_writes_25 rfl ?_
    refine v_goto C 36 dX6_writes_28 rfl ?_
    exact v_iret2 C hr dX6_writes_36 hM

theorem t_X6_traffic_b16   {g : zG} (hX : zfl X = false) (C : Cx X p (zrm 1) s m args meth c cX6_traffic 2 RX6 0 0) (hr : meth.sig.returnType = (some .int))   (hM : X6_traffic_b16   g = some (rr, gr)) : V X p l e (zrm 1) s m args below meth c 2 0 0 (MQ below (zQ X (Option.map (zM X) (some (.inl rr))) gr) args s 0 0 (zF X)) g 16 [some (.inr (.inl (0, 0))), none] [] := by
  unfold X6_traffic_b16 at hM
  refine v_aload_n C 0 dX6_traffic_16 rfl rfl ?_
  refine v_iconst C (nI 1) dX6_traffic_17 zk_1 ?_
  obtain ⟨x1, g2, e3, hM⟩ := zc_elim hM
  refine v_callVi (ci := 6) (rest := []) C (c_X6_refuse hX  e3) mw_X6_refuse mi_X6_refuse ml_RX6_69 hX.symm zm0 rfl rfl ⟨by decide, Nat.le_of_ble_eq_true rfl⟩ rfl (Nat.le_of_ble_eq_true rfl) dX6_traffic_18 rfl ?_
  exact v_iret2 C hr dX6_traffic_21 hM

theorem c_X6_traffic {X : zX} (hX : zfl X = false) {v1 : Int32} {g gr : zG} {rr : Int32}  (hM : X6_traffic v1 g = some (rr, gr)) : MC X yX6_traffic cX6_traffic 2 (some .int) 1 [.inr (.inl (0, 0)), .inl v1] (some (.inl rr)) g gr := by
  refine MC.mk (own := RX6) (L := [some (.inr (.inl (0, 0))), some (.inl v1)]) (by decide) rfl trivial (Nat.le_of_ble_eq_true rfl) rfl ?_
  intro p l e s m args below meth c C hr
  unfold X6_traffic at hM
  refine v_aload_n C 0 dX6_traffic_0 rfl rfl ?_
  refine gf_RX6_96 C hX dX6_traffic_1 ?_
  refine v_if_eq C 16 dX6_traffic_4 rfl hM (fun hM => ?_) (fun hM => ?_)
  · exact v_weak (t_X6_traffic_b16 hX C hr   hM) (show zsub [some (.inr (.inl (0, 0))), none] [some (.inr (.inl (0, 0))), some (.inl v1)] from ⟨rfl, trivial⟩)
  · refine v_iload_n C 1 dX6_traffic_7 rfl rfl ?_
    refine v_iconst C (nI 0) dX6_traffic_8 zk_0 ?_
    refine v_iconst C (nI 2) dX6_traffic_9 zk_2 ?_
    obtain ⟨x1, g2, e3, hM⟩ := zc_elim hM
    refine v_callSi (rest := []) C (c_X6_isWithin hX  e3) mw_X6_isWithin ms_X6_isWithin ml_RX6_65 ⟨by decide, Nat.le_of_ble_eq_true rfl⟩ rfl (Nat.le_of_ble_eq_true rfl) dX6_traffic_10 rfl ?_
    refine v_if_ne C 22 dX6_traffic_13 rfl hM (fun hM => ?_) (fun hM => ?_)
    · refine v_aload_n C 0 dX6_traffic_22 rfl rfl ?_
      refine v_aload_n C 0 dX6_traffic_23 rfl rfl ?_
      refine gf_RX6_37 C hX dX6_traffic_24 ?_
      refine gf_RX6_216 C hX (by decide) dX6_traffic_27 ?_
      refine v_iload_n C 1 dX6_traffic_30 rfl rfl ?_
      refine ia_20 C hX (by decide) dX6_traffic_31 hM (fun hM _ => ?_)
      obtain ⟨x4, g5, e6, hM⟩ := zc_elim hM
      refine v_callVi (ci := 6) (rest := []) C (c_X6_answer hX  e6) mw_X6_answer mi_X6_answer ml_RX6_106 hX.symm zm0 rfl rfl ⟨by decide, Nat.le_of_ble_eq_true rfl⟩ rfl (Nat.le_of_ble_eq_true rfl) dX6_traffic_32 rfl ?_
      exact v_iret2 C hr dX6_traffic_35 hM
    · exact v_weak (t_X6_traffic_b16 hX C hr   hM) (show zsub [some (.inr (.inl (0, 0))), none] [some (.inr (.inl (0, 0))), some (.inl v1)] from ⟨rfl, trivial⟩)

theorem t_X6_core_b93 {s1 : Int32}  {g : zG} (hX : zfl X = false) (C : Cx X p (zrm 2) s m args meth c cX6_core 4 RX6 0 0) (hr : meth.sig.returnType = (some .int))   (hM : X6_core_b93  s1 g = some (rr, gr)) : V X p l e (zrm 2) s m args below meth c 4 0 0 (MQ below (zQ X (Option.map (zM X) (some (.inl rr))) gr) args s 0 0 (zF X)) g 93 [none, none, none, none] [(.inl s1), (.inr (.inl (0, 0)))] := by
  unfold X6_core_b93 at hM
  obtain ⟨x1, g2, e3, hM⟩ := zc_elim hM
  refine v_callVi (ci := 6) (rest := []) C (c_X6_answer hX  e3) mw_X6_answer mi_X6_answer ml_RX6_106 hX.symm zm0 rfl rfl ⟨by decide, Nat.le_of_ble_eq_true rfl⟩ rfl (Nat.le_of_ble_eq_true rfl) dX6_core_93 rfl ?_
  exact v_iret2 C hr dX6_core_96 hM

theorem c_X6_core {X : zX} (hX : zfl X = false) {v1 : Int32} {v2 : Int32} {g gr : zG} {rr : Int32}  (hM : X6_core v1 v2 g = some (rr, gr)) : MC X yX6_core cX6_core 4 (some .int) 2 [.inr (.inl (0, 0)), .inl v1, .inl v2] (some (.inl rr)) g gr := by
  refine MC.mk (own := RX6) (L := [some (.inr (.inl (0, 0))), some (.inl v1), some (.inl v2), none]) (by decide) rfl trivial (Nat.le_of_ble_eq_true rfl) rfl ?_
  intro p l e s m args below meth c C hr
  unfold X6_core at hM
  refine v_aload_n C 0 dX6_core_0 rfl rfl ?_
  refine gf_RX6_16 C hX dX6_core_1 ?_
  refine v_iload_n C 1 dX6_core_4 rfl rfl ?_
  obtain ⟨x1, g2, e3, hM⟩ := zc_elim hM
  refine v_callVNi (ci := 2) (rest := []) C (c_X2_hasCore hX (by decide) e3) mw_X2_hasCore mi_X2_hasCore ml_RX6_176 hX.symm (zm1 (by decide)) rfl rfl ⟨by decide, Nat.le_of_ble_eq_true rfl⟩ rfl (Nat.le_of_ble_eq_true rfl) dX6_core_5 rfl ?_
  refine v_if_ne C 17 dX6_core_8 rfl hM (fun hM => ?_) (fun hM => ?_)
  · refine v_aload_n C 0 dX6_core_17 rfl rfl ?_
    refine gf_RX6_37 C hX dX6_core_18 ?_
    refine gf_RX6_219 C hX (by decide) dX6_core_21 ?_
    refine v_iload_n C 1 dX6_core_24 rfl rfl ?_
    refine aa_19 C hX (by decide) dX6_core_25 hM (fun hM hj4 => ?_)
    have hb5 : (4 * 0 + v1.toNatClampNeg) < 12 := zix (by decide) hj4
    refine v_astore_n (L' := [some (.inr (.inl (0, 0))), some (.inl v1), some (.inl v2), some (.inr (.inl (5, (4 * 0 + v1.toNatClampNeg))))]) C 3 dX6_core_26 rfl (by decide) rfl ?_
    refine v_iload_n C 2 dX6_core_27 rfl rfl ?_
    by_cases hx0 : v2 = (nI 0)
    · rw [if_pos hx0] at hM
      refine v_tblIn C 72 0 dX6_core_28 (by rw [hx0]; rfl) (by decide) (by decide) rfl rfl ?_
      refine v_aload_n C 0 dX6_core_72 rfl rfl ?_
      refine v_aload_n C 0 dX6_core_73 rfl rfl ?_
      refine gf_RX6_37 C hX dX6_core_74 ?_
      refine v_iload_n C 1 dX6_core_77 rfl rfl ?_
      obtain ⟨x6, g7, e8, hM⟩ := zc_elim hM
      refine v_callVNi (ci := 3) (rest := [(.inr (.inl (0, 0)))]) C (c_X3_hasDeedsLeft hX (by decide) e8) mw_X3_hasDeedsLeft mi_X3_hasDeedsLeft ml_RX6_222 hX.symm (zm3 (by decide)) rfl rfl ⟨by decide, Nat.le_of_ble_eq_true rfl⟩ rfl (Nat.le_of_ble_eq_true rfl) dX6_core_78 rfl ?_
      refine v_if_eq C 91 dX6_core_81 rfl hM (fun hM => ?_) (fun hM => ?_)
      · refine v_bipush C (-2) dX6_core_91 zkb_m2 ?_
        exact v_weak (t_X6_core_b93 hX C hr   hM) (show zsub [none, none, none, none] [some (.inr (.inl (0, 0))), some (.inl v1), some (.inl v2), some (.inr (.inl (5, (4 * 0 + v1.toNatClampNeg))))] from trivial)
      · refine v_aload_n C 3 dX6_core_84 rfl rfl ?_
        refine gf_RX6_225 C hX hb5 dX6_core_85 ?_
        refine v_goto C 93 dX6_core_88 rfl ?_
        exact v_weak (t_X6_core_b93 hX C hr   hM) (show zsub [none, none, none, none] [some (.inr (.inl (0, 0))), some (.inl v1), some (.inl v2), some (.inr (.inl (5, (4 * 0 + v1.toNatClampNeg))))] from trivial)
    rw [if_neg hx0] at hM
    by_cases hx1 : v2 = (nI 1)
    · rw [if_pos hx1] at hM
      refine v_tblIn C 97 1 dX6_core_28 (by rw [hx1]; rfl) (by decide) (by decide) rfl rfl ?_
      refine v_aload_n C 0 dX6_core_97 rfl rfl ?_
      refine v_aload_n C 3 dX6_core_98 rfl rfl ?_
      refine gf_RX6_230 C hX hb5 dX6_core_99 ?_
      obtain ⟨x9, g10, e11, hM⟩ := zc_elim hM
      refine v_callVi (ci := 6) (rest := []) C (c_X6_answer hX  e11) mw_X6_answer mi_X6_answer ml_RX6_106 hX.symm zm0 rfl rfl ⟨by decide, Nat.le_of_ble_eq_true rfl⟩ rfl (Nat.le_of_ble_eq_true rfl) dX6_core_102 rfl ?_
      exact v_iret2 C hr dX6_core_105 hM
    rw [if_neg hx1] at hM
    by_cases hx2 : v2 = (nI 2)
    · rw [if_pos hx2] at hM
      refine v_tblIn C 106 2 dX6_core_28 (by rw [hx2]; rfl) (by decide) (by decide) rfl rfl ?_
      refine v_aload_n C 0 dX6_core_106 rfl rfl ?_
      refine v_aload_n C 3 dX6_core_107 rfl rfl ?_
      refine gf_RX6_233 C hX hb5 dX6_core_108 ?_
      obtain ⟨x12, g13, e14, hM⟩ := zc_elim hM
      refine v_callVi (ci := 6) (rest := []) C (c_X6_answer hX  e14) mw_X6_answer mi_X6_answer ml_RX6_106 hX.symm zm0 rfl rfl ⟨by decide, Nat.le_of_ble_eq_true rfl⟩ rfl (Nat.le_of_ble_eq_true rfl) dX6_core_111 rfl ?_
      exact v_iret2 C hr dX6_core_114 hM
    rw [if_neg hx2] at hM
    by_cases hx3 : v2 = (nI 3)
    · rw [if_pos hx3] at hM
      refine v_tblIn C 115 3 dX6_core_28 (by rw [hx3]; rfl) (by decide) (by decide) rfl rfl ?_
      refine v_aload_n C 0 dX6_core_115 rfl rfl ?_
      refine v_aload_n C 3 dX6_core_116 rfl rfl ?_
      refine gf_RX6_236 C hX hb5 dX6_core_117 ?_
      obtain ⟨x15, g16, e17, hM⟩ := zc_elim hM
      refine v_callVi (ci := 6) (rest := []) C (c_X6_answer hX  e17) mw_X6_answer mi_X6_answer ml_RX6_106 hX.symm zm0 rfl rfl ⟨by decide, Nat.le_of_ble_eq_true rfl⟩ rfl (Nat.le_of_ble_eq_true rfl) dX6_core_120 rfl ?_
      exact v_iret2 C hr dX6_core_123 hM
    rw [if_neg hx3] at hM
    by_cases hx4 : v2 = (nI 4)
    · rw [if_pos hx4] at hM
      refine v_tblIn C 124 4 dX6_core_28 (by rw [hx4]; rfl) (by decide) (by decide) rfl rfl ?_
      refine v_aload_n C 0 dX6_core_124 rfl rfl ?_
      refine v_aload_n C 3 dX6_core_125 rfl rfl ?_
      refine gf_RX6_239 C hX hb5 dX6_core_126 ?_
      obtain ⟨x18, g19, e20, hM⟩ := zc_elim hM
      refine v_callVi (ci := 6) (rest := []) C (c_X6_answer hX  e20) mw_X6_answer mi_X6_answer ml_RX6_106 hX.symm zm0 rfl rfl ⟨by decide, Nat.le_of_ble_eq_true rfl⟩ rfl (Nat.le_of_ble_eq_true rfl) dX6_core_129 rfl ?_
      exact v_iret2 C hr dX6_core_132 hM
    rw [if_neg hx4] at hM
    by_cases hx5 : v2 = (nI 5)
    · rw [if_pos hx5] at hM
      refine v_tblIn C 133 5 dX6_core_28 (by rw [hx5]; rfl) (by decide) (by decide) rfl rfl ?_
      refine v_aload_n C 0 dX6_core_133 rfl rfl ?_
      refine v_aload_n C 3 dX6_core_134 rfl rfl ?_
      refine gf_RX6_242 C hX hb5 dX6_core_135 ?_
      obtain ⟨x21, g22, e23, hM⟩ := zc_elim hM
      refine v_callVi (ci := 6) (rest := []) C (c_X6_answer hX  e23) mw_X6_answer mi_X6_answer ml_RX6_106 hX.symm zm0 rfl rfl ⟨by decide, Nat.le_of_ble_eq_true rfl⟩ rfl (Nat.le_of_ble_eq_true rfl) dX6_core_138 rfl ?_
      exact v_iret2 C hr dX6_core_141 hM
    rw [if_neg hx5] at hM
    by_cases hx6 : v2 = (nI 6)
    · rw [if_pos hx6] at hM
      refine v_tblIn C 142 6 dX6_core_28 (by rw [hx6]; rfl) (by decide) (by decide) rfl rfl ?_
      refine v_aload_n C 0 dX6_core_142 rfl rfl ?_
      refine v_aload_n C 0 dX6_core_143 rfl rfl ?_
      refine gf_RX6_16 C hX dX6_core_144 ?_
      refine gf_RX6_245 C hX (by decide) dX6_core_147 ?_
      refine v_iload_n C 1 dX6_core_150 rfl rfl ?_
      refine ia_11 C hX (by decide) dX6_core_151 hM (fun hM _ => ?_)
      obtain ⟨x24, g25, e26, hM⟩ := zc_elim hM
      refine v_callVi (ci := 6) (rest := []) C (c_X6_answer hX  e26) mw_X6_answer mi_X6_answer ml_RX6_106 hX.symm zm0 rfl rfl ⟨by decide, Nat.le_of_ble_eq_true rfl⟩ rfl (Nat.le_of_ble_eq_true rfl) dX6_core_152 rfl ?_
      exact v_iret2 C hr dX6_core_155 hM
    rw [if_neg hx6] at hM
    refine v_tblOut C 156 dX6_core_28 (ztbl 7 rfl (by intro k hk; match k, hk with | 0, _ => exact hx0 | 1, _ => exact hx1 | 2, _ => exact hx2 | 3, _ => exact hx3 | 4, _ => exact hx4 | 5, _ => exact hx5 | 6, _ => exact hx6 | k + 7, hk => omega)) rfl ?_
    refine v_aload_n C 0 dX6_core_156 rfl rfl ?_
    refine v_iconst C (nI 1) dX6_core_157 zk_1 ?_
    obtain ⟨x27, g28, e29, hM⟩ := zc_elim hM
    refine v_callVi (ci := 6) (rest := []) C (c_X6_refuse hX  e29) mw_X6_refuse mi_X6_refuse ml_RX6_69 hX.symm zm0 rfl rfl ⟨by decide, Nat.le_of_ble_eq_true rfl⟩ rfl (Nat.le_of_ble_eq_true rfl) dX6_core_158 rfl ?_
    exact v_iret2 C hr dX6_core_161 hM
  · refine v_aload_n C 0 dX6_core_11 rfl rfl ?_
    refine v_iconst C (nI 1) dX6_core_12 zk_1 ?_
    obtain ⟨x30, g31, e32, hM⟩ := zc_elim hM
    refine v_callVi (ci := 6) (rest := []) C (c_X6_refuse hX  e32) mw_X6_refuse mi_X6_refuse ml_RX6_69 hX.symm zm0 rfl rfl ⟨by decide, Nat.le_of_ble_eq_true rfl⟩ rfl (Nat.le_of_ble_eq_true rfl) dX6_core_13 rfl ?_
    exact v_iret2 C hr dX6_core_16 hM

theorem t_X6_count_b21   {g : zG} (hX : zfl X = false) (C : Cx X p (zrm 1) s m args meth c cX6_count 3 RX6 0 0) (hr : meth.sig.returnType = (some .int))   (hM : X6_count_b21   g = some (rr, gr)) : V X p l e (zrm 1) s m args below meth c 3 0 0 (MQ below (zQ X (Option.map (zM X) (some (.inl rr))) gr) args s 0 0 (zF X)) g 21 [some (.inr (.inl (0, 0))), none, none] [] := by
  unfold X6_count_b21 at hM
  refine v_aload_n C 0 dX6_count_21 rfl rfl ?_
  refine v_iconst C (nI 1) dX6_count_22 zk_1 ?_
  obtain ⟨x1, g2, e3, hM⟩ := zc_elim hM
  refine v_callVi (ci := 6) (rest := []) C (c_X6_refuse hX  e3) mw_X6_refuse mi_X6_refuse ml_RX6_69 hX.symm zm0 rfl rfl ⟨by decide, Nat.le_of_ble_eq_true rfl⟩ rfl (Nat.le_of_ble_eq_true rfl) dX6_count_23 rfl ?_
  exact v_iret2 C hr dX6_count_26 hM

theorem c_X6_count {X : zX} (hX : zfl X = false) {v1 : Int32} {v2 : Int32} {g gr : zG} {rr : Int32}  (hM : X6_count v1 v2 g = some (rr, gr)) : MC X yX6_count cX6_count 3 (some .int) 1 [.inr (.inl (0, 0)), .inl v1, .inl v2] (some (.inl rr)) g gr := by
  refine MC.mk (own := RX6) (L := [some (.inr (.inl (0, 0))), some (.inl v1), some (.inl v2)]) (by decide) rfl trivial (Nat.le_of_ble_eq_true rfl) rfl ?_
  intro p l e s m args below meth c C hr
  unfold X6_count at hM
  refine v_aload_n C 0 dX6_count_0 rfl rfl ?_
  refine gf_RX6_16 C hX dX6_count_1 ?_
  refine v_iload_n C 1 dX6_count_4 rfl rfl ?_
  obtain ⟨x1, g2, e3, hM⟩ := zc_elim hM
  refine v_callVNi (ci := 2) (rest := []) C (c_X2_hasCore hX (by decide) e3) mw_X2_hasCore mi_X2_hasCore ml_RX6_176 hX.symm (zm1 (by decide)) rfl rfl ⟨by decide, Nat.le_of_ble_eq_true rfl⟩ rfl (Nat.le_of_ble_eq_true rfl) dX6_count_5 rfl ?_
  refine v_if_eq C 21 dX6_count_8 rfl hM (fun hM => ?_) (fun hM => ?_)
  · exact v_weak (t_X6_count_b21 hX C hr   hM) (show zsub [some (.inr (.inl (0, 0))), none, none] [some (.inr (.inl (0, 0))), some (.inl v1), some (.inl v2)] from ⟨rfl, trivial⟩)
  · refine v_iload_n C 2 dX6_count_11 rfl rfl ?_
    refine v_iconst C (nI 0) dX6_count_12 zk_0 ?_
    refine v_bipush C (nI 6) dX6_count_13 zkb_6 ?_
    obtain ⟨x4, g5, e6, hM⟩ := zc_elim hM
    refine v_callSi (rest := []) C (c_X6_isWithin hX  e6) mw_X6_isWithin ms_X6_isWithin ml_RX6_65 ⟨by decide, Nat.le_of_ble_eq_true rfl⟩ rfl (Nat.le_of_ble_eq_true rfl) dX6_count_15 rfl ?_
    refine v_if_ne C 27 dX6_count_18 rfl hM (fun hM => ?_) (fun hM => ?_)
    · refine v_aload_n C 0 dX6_count_27 rfl rfl ?_
      refine v_aload_n C 0 dX6_count_28 rfl rfl ?_
      refine gf_RX6_37 C hX dX6_count_29 ?_
      refine gf_RX6_219 C hX (by decide) dX6_count_32 ?_
      refine v_iload_n C 1 dX6_count_35 rfl rfl ?_
      refine aa_19 C hX (by decide) dX6_count_36 hM (fun hM hj7 => ?_)
      have hb8 : (4 * 0 + v1.toNatClampNeg) < 12 := zix (by decide) hj7
      refine gf_RX6_248 C hX hb8 dX6_count_37 ?_
      refine v_iload_n C 2 dX6_count_40 rfl rfl ?_
      refine ia_28 C hX hb8 dX6_count_41 hM (fun hM _ => ?_)
      obtain ⟨x9, g10, e11, hM⟩ := zc_elim hM
      refine v_callVi (ci := 6) (rest := []) C (c_X6_answer hX  e11) mw_X6_answer mi_X6_answer ml_RX6_106 hX.symm zm0 rfl rfl ⟨by decide, Nat.le_of_ble_eq_true rfl⟩ rfl (Nat.le_of_ble_eq_true rfl) dX6_count_42 rfl ?_
      exact v_iret2 C hr dX6_count_45 hM
    · exact v_weak (t_X6_count_b21 hX C hr   hM) (show zsub [some (.inr (.inl (0, 0))), none, none] [some (.inr (.inl (0, 0))), some (.inl v1), some (.inl v2)] from ⟨rfl, trivial⟩)

theorem t_X6_advice_b79 {s1 : Int32}  {g : zG} (hX : zfl X = false) (C : Cx X p (zrm 1) s m args meth c cX6_advice 3 RX6 0 0) (hr : meth.sig.returnType = (some .int))   (hM : X6_advice_b79  s1 g = some (rr, gr)) : V X p l e (zrm 1) s m args below meth c 3 0 0 (MQ below (zQ X (Option.map (zM X) (some (.inl rr))) gr) args s 0 0 (zF X)) g 79 [none, none, none] [(.inl s1), (.inr (.inl (0, 0)))] := by
  unfold X6_advice_b79 at hM
  obtain ⟨x1, g2, e3, hM⟩ := zc_elim hM
  refine v_callSi (rest := [(.inr (.inl (0, 0)))]) C (c_X6_asBit hX  e3) mw_X6_asBit ms_X6_asBit ml_RX6_145 ⟨by decide, Nat.le_of_ble_eq_true rfl⟩ rfl (Nat.le_of_ble_eq_true rfl) dX6_advice_79 rfl ?_
  obtain ⟨x4, g5, e6, hM⟩ := zc_elim hM
  refine v_callVi (ci := 6) (rest := []) C (c_X6_answer hX  e6) mw_X6_answer mi_X6_answer ml_RX6_106 hX.symm zm0 rfl rfl ⟨by decide, Nat.le_of_ble_eq_true rfl⟩ rfl (Nat.le_of_ble_eq_true rfl) dX6_advice_82 rfl ?_
  exact v_iret2 C hr dX6_advice_85 hM

theorem c_X6_advice {X : zX} (hX : zfl X = false) {v1 : Int32} {v2 : Int32} {g gr : zG} {rr : Int32}  (hM : X6_advice v1 v2 g = some (rr, gr)) : MC X yX6_advice cX6_advice 3 (some .int) 1 [.inr (.inl (0, 0)), .inl v1, .inl v2] (some (.inl rr)) g gr := by
  refine MC.mk (own := RX6) (L := [some (.inr (.inl (0, 0))), some (.inl v1), some (.inl v2)]) (by decide) rfl trivial (Nat.le_of_ble_eq_true rfl) rfl ?_
  intro p l e s m args below meth c C hr
  unfold X6_advice at hM
  refine v_aload_n C 0 dX6_advice_0 rfl rfl ?_
  refine gf_RX6_16 C hX dX6_advice_1 ?_
  refine v_iload_n C 1 dX6_advice_4 rfl rfl ?_
  obtain ⟨x1, g2, e3, hM⟩ := zc_elim hM
  refine v_callVNi (ci := 2) (rest := []) C (c_X2_hasCore hX (by decide) e3) mw_X2_hasCore mi_X2_hasCore ml_RX6_176 hX.symm (zm1 (by decide)) rfl rfl ⟨by decide, Nat.le_of_ble_eq_true rfl⟩ rfl (Nat.le_of_ble_eq_true rfl) dX6_advice_5 rfl ?_
  refine v_if_ne C 17 dX6_advice_8 rfl hM (fun hM => ?_) (fun hM => ?_)
  · refine v_iload_n C 2 dX6_advice_17 rfl rfl ?_
    refine v_iconst C (nI 0) dX6_advice_18 zk_0 ?_
    refine v_iconst C (nI 3) dX6_advice_19 zk_3 ?_
    obtain ⟨x4, g5, e6, hM⟩ := zc_elim hM
    refine v_callSi (rest := []) C (c_X6_isWithin hX  e6) mw_X6_isWithin ms_X6_isWithin ml_RX6_65 ⟨by decide, Nat.le_of_ble_eq_true rfl⟩ rfl (Nat.le_of_ble_eq_true rfl) dX6_advice_20 rfl ?_
    refine v_if_ne C 32 dX6_advice_23 rfl hM (fun hM => ?_) (fun hM => ?_)
    · refine v_aload_n C 0 dX6_advice_32 rfl rfl ?_
      refine gf_RX6_37 C hX dX6_advice_33 ?_
      refine gf_RX6_219 C hX (by decide) dX6_advice_36 ?_
      refine v_iload_n C 1 dX6_advice_39 rfl rfl ?_
      refine aa_19 C hX (by decide) dX6_advice_40 hM (fun hM hj7 => ?_)
      have hb8 : (4 * 0 + v1.toNatClampNeg) < 12 := zix (by decide) hj7
      refine gf_RX6_236 C hX hb8 dX6_advice_41 ?_
      refine v_iconst C (nI 1) dX6_advice_44 zk_1 ?_
      refine v_icmp_eq C 54 dX6_advice_45 rfl hM (fun hM => ?_) (fun hM => ?_)
      · refine v_aload_n C 0 dX6_advice_54 rfl rfl ?_
        refine v_aload_n C 0 dX6_advice_55 rfl rfl ?_
        refine gf_RX6_37 C hX dX6_advice_56 ?_
        refine v_iload_n C 1 dX6_advice_59 rfl rfl ?_
        refine v_iload_n C 2 dX6_advice_60 rfl rfl ?_
        obtain ⟨x9, g10, e11, hM⟩ := zc_elim hM
        refine v_callVNi (ci := 3) (rest := [(.inr (.inl (0, 0)))]) C (c_X3_lostAfter hX (by decide) e11) mw_X3_lostAfter mi_X3_lostAfter ml_RX6_251 hX.symm (zm3 (by decide)) rfl rfl ⟨by decide, Nat.le_of_ble_eq_true rfl⟩ rfl (Nat.le_of_ble_eq_true rfl) dX6_advice_61 rfl ?_
        refine v_aload_n C 0 dX6_advice_64 rfl rfl ?_
        refine gf_RX6_37 C hX dX6_advice_65 ?_
        refine gf_RX6_254 C hX (by decide) dX6_advice_68 ?_
        refine v_icmp_lt C 78 dX6_advice_71 rfl hM (fun hM => ?_) (fun hM => ?_)
        · refine v_iconst C (nI 0) dX6_advice_78 zk_0 ?_
          exact v_weak (t_X6_advice_b79 hX C hr   hM) (show zsub [none, none, none] [some (.inr (.inl (0, 0))), some (.inl v1), some (.inl v2)] from trivial)
        · refine v_iconst C (nI 1) dX6_advice_74 zk_1 ?_
          refine v_goto C 79 dX6_advice_75 rfl ?_
          exact v_weak (t_X6_advice_b79 hX C hr   hM) (show zsub [none, none, none] [some (.inr (.inl (0, 0))), some (.inl v1), some (.inl v2)] from trivial)
      · refine v_aload_n C 0 dX6_advice_48 rfl rfl ?_
        refine v_iconst C (nI 5) dX6_advice_49 zk_5 ?_
        obtain ⟨x12, g13, e14, hM⟩ := zc_elim hM
        refine v_callVi (ci := 6) (rest := []) C (c_X6_refuse hX  e14) mw_X6_refuse mi_X6_refuse ml_RX6_69 hX.symm zm0 rfl rfl ⟨by decide, Nat.le_of_ble_eq_true rfl⟩ rfl (Nat.le_of_ble_eq_true rfl) dX6_advice_50 rfl ?_
        exact v_iret2 C hr dX6_advice_53 hM
    · refine v_aload_n C 0 dX6_advice_26 rfl rfl ?_
      refine v_iconst C (nI 2) dX6_advice_27 zk_2 ?_
      obtain ⟨x15, g16, e17, hM⟩ := zc_elim hM
      refine v_callVi (ci := 6) (rest := []) C (c_X6_refuse hX  e17) mw_X6_refuse mi_X6_refuse ml_RX6_69 hX.symm zm0 rfl rfl ⟨by decide, Nat.le_of_ble_eq_true rfl⟩ rfl (Nat.le_of_ble_eq_true rfl) dX6_advice_28 rfl ?_
      exact v_iret2 C hr dX6_advice_31 hM
  · refine v_aload_n C 0 dX6_advice_11 rfl rfl ?_
    refine v_iconst C (nI 1) dX6_advice_12 zk_1 ?_
    obtain ⟨x18, g19, e20, hM⟩ := zc_elim hM
    refine v_callVi (ci := 6) (rest := []) C (c_X6_refuse hX  e20) mw_X6_refuse mi_X6_refuse ml_RX6_69 hX.symm zm0 rfl rfl ⟨by decide, Nat.le_of_ble_eq_true rfl⟩ rfl (Nat.le_of_ble_eq_true rfl) dX6_advice_13 rfl ?_
    exact v_iret2 C hr dX6_advice_16 hM

theorem t_X6_commit_b49   {g : zG} (hX : zfl X = false) (C : Cx X p (zrm 1) s m args meth c cX6_commit 4 RX6 0 0) (hr : meth.sig.returnType = (some .int))   (hM : X6_commit_b49   g = some (rr, gr)) : V X p l e (zrm 1) s m args below meth c 4 0 0 (MQ below (zQ X (Option.map (zM X) (some (.inl rr))) gr) args s 0 0 (zF X)) g 49 [some (.inr (.inl (0, 0))), none, none, none] [] := by
  unfold X6_commit_b49 at hM
  refine v_aload_n C 0 dX6_commit_49 rfl rfl ?_
  refine v_iconst C (nI 1) dX6_commit_50 zk_1 ?_
  obtain ⟨x1, g2, e3, hM⟩ := zc_elim hM
  refine v_callVi (ci := 6) (rest := []) C (c_X6_refuse hX  e3) mw_X6_refuse mi_X6_refuse ml_RX6_69 hX.symm zm0 rfl rfl ⟨by decide, Nat.le_of_ble_eq_true rfl⟩ rfl (Nat.le_of_ble_eq_true rfl) dX6_commit_51 rfl ?_
  exact v_iret2 C hr dX6_commit_54 hM

theorem t_X6_commit_b28 {v1 : Int32} {v2 : Int32} {s0 : Int32}  {g : zG} (hX : zfl X = false) (C : Cx X p (zrm 1) s m args meth c cX6_commit 4 RX6 0 0) (hr : meth.sig.returnType = (some .int))   (hM : X6_commit_b28  v1 v2 s0 g = some (rr, gr)) : V X p l e (zrm 1) s m args below meth c 4 0 0 (MQ below (zQ X (Option.map (zM X) (some (.inl rr))) gr) args s 0 0 (zF X)) g 28 [some (.inr (.inl (0, 0))), some (.inl v1), some (.inl v2), none] [(.inl s0)] := by
  unfold X6_commit_b28 at hM
  refine v_istore_n (L' := [some (.inr (.inl (0, 0))), some (.inl v1), some (.inl v2), some (.inl s0)]) C 3 dX6_commit_28 rfl (by decide) rfl ?_
  refine v_aload_n C 0 dX6_commit_29 rfl rfl ?_
  refine gf_RX6_96 C hX dX6_commit_30 ?_
  refine v_if_eq C 49 dX6_commit_33 rfl hM (fun hM => ?_) (fun hM => ?_)
  · exact v_weak (t_X6_commit_b49 hX C hr   hM) (show zsub [some (.inr (.inl (0, 0))), none, none, none] [some (.inr (.inl (0, 0))), some (.inl v1), some (.inl v2), some (.inl s0)] from ⟨rfl, trivial⟩)
  · refine v_iload_n C 3 dX6_commit_36 rfl rfl ?_
    refine v_if_eq C 49 dX6_commit_37 rfl hM (fun hM => ?_) (fun hM => ?_)
    · exact v_weak (t_X6_commit_b49 hX C hr   hM) (show zsub [some (.inr (.inl (0, 0))), none, none, none] [some (.inr (.inl (0, 0))), some (.inl v1), some (.inl v2), some (.inl s0)] from ⟨rfl, trivial⟩)
    · refine v_iload_n C 2 dX6_commit_40 rfl rfl ?_
      refine v_iconst C (nI 0) dX6_commit_41 zk_0 ?_
      refine v_iconst C (nI 3) dX6_commit_42 zk_3 ?_
      obtain ⟨x1, g2, e3, hM⟩ := zc_elim hM
      refine v_callSi (rest := []) C (c_X6_isWithin hX  e3) mw_X6_isWithin ms_X6_isWithin ml_RX6_65 ⟨by decide, Nat.le_of_ble_eq_true rfl⟩ rfl (Nat.le_of_ble_eq_true rfl) dX6_commit_43 rfl ?_
      refine v_if_ne C 55 dX6_commit_46 rfl hM (fun hM => ?_) (fun hM => ?_)
      · refine v_aload_n C 0 dX6_commit_55 rfl rfl ?_
        refine v_aload_n C 0 dX6_commit_56 rfl rfl ?_
        refine gf_RX6_37 C hX dX6_commit_57 ?_
        refine gf_RX6_166 C hX (by decide) dX6_commit_60 ?_
        refine v_iload_n C 1 dX6_commit_63 rfl rfl ?_
        refine v_iconst C (nI 4) dX6_commit_64 zk_4 ?_
        refine v_imul C dX6_commit_65 ?_
        refine v_iload_n C 2 dX6_commit_66 rfl rfl ?_
        refine v_iadd C dX6_commit_67 ?_
        refine ia_21 C hX (by decide) dX6_commit_68 hM (fun hM _ => ?_)
        obtain ⟨x4, g5, e6, hM⟩ := zc_elim hM
        refine v_callVi (ci := 6) (rest := []) C (c_X6_answer hX  e6) mw_X6_answer mi_X6_answer ml_RX6_106 hX.symm zm0 rfl rfl ⟨by decide, Nat.le_of_ble_eq_true rfl⟩ rfl (Nat.le_of_ble_eq_true rfl) dX6_commit_69 rfl ?_
        exact v_iret2 C hr dX6_commit_72 hM
      · exact v_weak (t_X6_commit_b49 hX C hr   hM) (show zsub [some (.inr (.inl (0, 0))), none, none, none] [some (.inr (.inl (0, 0))), some (.inl v1), some (.inl v2), some (.inl s0)] from ⟨rfl, trivial⟩)

theorem t_X6_commit_b27 {v1 : Int32} {v2 : Int32}  {g : zG} (hX : zfl X = false) (C : Cx X p (zrm 1) s m args meth c cX6_commit 4 RX6 0 0) (hr : meth.sig.returnType = (some .int))   (hM : X6_commit_b27  v1 v2 g = some (rr, gr)) : V X p l e (zrm 1) s m args below meth c 4 0 0 (MQ below (zQ X (Option.map (zM X) (some (.inl rr))) gr) args s 0 0 (zF X)) g 27 [some (.inr (.inl (0, 0))), some (.inl v1), some (.inl v2), none] [] := by
  unfold X6_commit_b27 at hM
  refine v_iconst C (nI 0) dX6_commit_27 zk_0 ?_
  exact t_X6_commit_b28 hX C hr   hM

theorem c_X6_commit {X : zX} (hX : zfl X = false) {v1 : Int32} {v2 : Int32} {g gr : zG} {rr : Int32}  (hM : X6_commit v1 v2 g = some (rr, gr)) : MC X yX6_commit cX6_commit 4 (some .int) 1 [.inr (.inl (0, 0)), .inl v1, .inl v2] (some (.inl rr)) g gr := by
  refine MC.mk (own := RX6) (L := [some (.inr (.inl (0, 0))), some (.inl v1), some (.inl v2), none]) (by decide) rfl trivial (Nat.le_of_ble_eq_true rfl) rfl ?_
  intro p l e s m args below meth c C hr
  unfold X6_commit at hM
  refine v_iload_n C 1 dX6_commit_0 rfl rfl ?_
  refine v_iconst C (nI 0) dX6_commit_1 zk_0 ?_
  refine v_aload_n C 0 dX6_commit_2 rfl rfl ?_
  refine gf_RX6_37 C hX dX6_commit_3 ?_
  refine gf_RX6_128 C hX (by decide) dX6_commit_6 ?_
  refine v_iconst C (nI 1) dX6_commit_9 zk_1 ?_
  refine v_isub C dX6_commit_10 ?_
  obtain ⟨x1, g2, e3, hM⟩ := zc_elim hM
  refine v_callSi (rest := []) C (c_X6_isWithin hX  e3) mw_X6_isWithin ms_X6_isWithin ml_RX6_65 ⟨by decide, Nat.le_of_ble_eq_true rfl⟩ rfl (Nat.le_of_ble_eq_true rfl) dX6_commit_11 rfl ?_
  refine v_if_eq C 27 dX6_commit_14 rfl hM (fun hM => ?_) (fun hM => ?_)
  · exact t_X6_commit_b27 hX C hr   hM
  · refine v_iload_n C 1 dX6_commit_17 rfl rfl ?_
    refine v_bipush C (nI 48) dX6_commit_18 zkb_48 ?_
    refine v_icmp_ge C 27 dX6_commit_20 rfl hM (fun hM => ?_) (fun hM => ?_)
    · exact t_X6_commit_b27 hX C hr   hM
    · refine v_iconst C (nI 1) dX6_commit_23 zk_1 ?_
      refine v_goto C 28 dX6_commit_24 rfl ?_
      exact t_X6_commit_b28 hX C hr   hM

theorem c_X6_would {X : zX} (hX : zfl X = false) {v1 : Int32} {g gr : zG} {rr : Int32}  (hM : X6_would v1 g = some (rr, gr)) : MC X yX6_would cX6_would 2 (some .int) 6 [.inr (.inl (0, 0)), .inl v1] (some (.inl rr)) g gr := by
  refine MC.mk (own := RX6) (L := [some (.inr (.inl (0, 0))), some (.inl v1)]) (by decide) rfl trivial (Nat.le_of_ble_eq_true rfl) rfl ?_
  intro p l e s m args below meth c C hr
  unfold X6_would at hM
  refine v_aload_n C 0 dX6_would_0 rfl rfl ?_
  refine gf_RX6_16 C hX dX6_would_1 ?_
  refine v_iload_n C 1 dX6_would_4 rfl rfl ?_
  obtain ⟨x1, g2, e3, hM⟩ := zc_elim hM
  refine v_callVNi (ci := 2) (rest := []) C (c_X2_hasCore hX (by decide) e3) mw_X2_hasCore mi_X2_hasCore ml_RX6_176 hX.symm (zm1 (by decide)) rfl rfl ⟨by decide, Nat.le_of_ble_eq_true rfl⟩ rfl (Nat.le_of_ble_eq_true rfl) dX6_would_5 rfl ?_
  refine v_if_ne C 17 dX6_would_8 rfl hM (fun hM => ?_) (fun hM => ?_)
  · refine v_aload_n C 0 dX6_would_17 rfl rfl ?_
    refine gf_RX6_44 C hX dX6_would_18 ?_
    refine v_aload_n C 0 dX6_would_21 rfl rfl ?_
    refine gf_RX6_37 C hX dX6_would_22 ?_
    obtain ⟨x4, g5, e6, hM⟩ := zc_elim hM
    refine v_callVNv (ci := 3) (rest := []) C (c_X3_copyFrom hX (by decide) (by decide) e6) mw_X3_copyFrom mi_X3_copyFrom ml_RX6_255 hX.symm (zm3 (by decide)) rfl rfl ⟨by decide, Nat.le_of_ble_eq_true rfl⟩ rfl (Nat.le_of_ble_eq_true rfl) dX6_would_25 rfl ?_
    refine v_aload_n C 0 dX6_would_28 rfl rfl ?_
    refine v_aload_n C 0 dX6_would_29 rfl rfl ?_
    refine gf_RX6_44 C hX dX6_would_30 ?_
    refine v_iload_n C 1 dX6_would_33 rfl rfl ?_
    obtain ⟨x7, g8, e9, hM⟩ := zc_elim hM
    refine v_callVNi (ci := 3) (rest := [(.inr (.inl (0, 0)))]) C (c_X3_takeStep hX (by decide) e9) mw_X3_takeStep mi_X3_takeStep ml_RX6_258 hX.symm (zm3 (by decide)) rfl rfl ⟨by decide, Nat.le_of_ble_eq_true rfl⟩ rfl (Nat.le_of_ble_eq_true rfl) dX6_would_34 rfl ?_
    obtain ⟨x10, g11, e12, hM⟩ := zc_elim hM
    refine v_callVi (ci := 6) (rest := []) C (c_X6_answer hX  e12) mw_X6_answer mi_X6_answer ml_RX6_106 hX.symm zm0 rfl rfl ⟨by decide, Nat.le_of_ble_eq_true rfl⟩ rfl (Nat.le_of_ble_eq_true rfl) dX6_would_37 rfl ?_
    exact v_iret2 C hr dX6_would_40 hM
  · refine v_aload_n C 0 dX6_would_11 rfl rfl ?_
    refine v_iconst C (nI 1) dX6_would_12 zk_1 ?_
    obtain ⟨x13, g14, e15, hM⟩ := zc_elim hM
    refine v_callVi (ci := 6) (rest := []) C (c_X6_refuse hX  e15) mw_X6_refuse mi_X6_refuse ml_RX6_69 hX.symm zm0 rfl rfl ⟨by decide, Nat.le_of_ble_eq_true rfl⟩ rfl (Nat.le_of_ble_eq_true rfl) dX6_would_13 rfl ?_
    exact v_iret2 C hr dX6_would_16 hM

theorem c_X6_wouldEnd {X : zX} (hX : zfl X = false) {v1 : Int32} {g gr : zG} {rr : Int32}  (hM : X6_wouldEnd v1 g = some (rr, gr)) : MC X yX6_wouldEnd cX6_wouldEnd 2 (some .int) 6 [.inr (.inl (0, 0)), .inl v1] (some (.inl rr)) g gr := by
  refine MC.mk (own := RX6) (L := [some (.inr (.inl (0, 0))), some (.inl v1)]) (by decide) rfl trivial (Nat.le_of_ble_eq_true rfl) rfl ?_
  intro p l e s m args below meth c C hr
  unfold X6_wouldEnd at hM
  refine v_aload_n C 0 dX6_wouldEnd_0 rfl rfl ?_
  refine gf_RX6_16 C hX dX6_wouldEnd_1 ?_
  refine v_iload_n C 1 dX6_wouldEnd_4 rfl rfl ?_
  obtain ⟨x1, g2, e3, hM⟩ := zc_elim hM
  refine v_callVNi (ci := 2) (rest := []) C (c_X2_hasCore hX (by decide) e3) mw_X2_hasCore mi_X2_hasCore ml_RX6_176 hX.symm (zm1 (by decide)) rfl rfl ⟨by decide, Nat.le_of_ble_eq_true rfl⟩ rfl (Nat.le_of_ble_eq_true rfl) dX6_wouldEnd_5 rfl ?_
  refine v_if_ne C 17 dX6_wouldEnd_8 rfl hM (fun hM => ?_) (fun hM => ?_)
  · refine v_aload_n C 0 dX6_wouldEnd_17 rfl rfl ?_
    refine gf_RX6_44 C hX dX6_wouldEnd_18 ?_
    refine v_aload_n C 0 dX6_wouldEnd_21 rfl rfl ?_
    refine gf_RX6_37 C hX dX6_wouldEnd_22 ?_
    obtain ⟨x4, g5, e6, hM⟩ := zc_elim hM
    refine v_callVNv (ci := 3) (rest := []) C (c_X3_copyFrom hX (by decide) (by decide) e6) mw_X3_copyFrom mi_X3_copyFrom ml_RX6_255 hX.symm (zm3 (by decide)) rfl rfl ⟨by decide, Nat.le_of_ble_eq_true rfl⟩ rfl (Nat.le_of_ble_eq_true rfl) dX6_wouldEnd_25 rfl ?_
    refine v_aload_n C 0 dX6_wouldEnd_28 rfl rfl ?_
    refine gf_RX6_44 C hX dX6_wouldEnd_29 ?_
    refine v_iload_n C 1 dX6_wouldEnd_32 rfl rfl ?_
    obtain ⟨x7, g8, e9, hM⟩ := zc_elim hM
    refine v_callVNi (ci := 3) (rest := []) C (c_X3_takeStep hX (by decide) e9) mw_X3_takeStep mi_X3_takeStep ml_RX6_258 hX.symm (zm3 (by decide)) rfl rfl ⟨by decide, Nat.le_of_ble_eq_true rfl⟩ rfl (Nat.le_of_ble_eq_true rfl) dX6_wouldEnd_33 rfl ?_
    refine v_pop C dX6_wouldEnd_36 ?_
    refine v_aload_n C 0 dX6_wouldEnd_37 rfl rfl ?_
    refine v_aload_n C 0 dX6_wouldEnd_38 rfl rfl ?_
    refine gf_RX6_44 C hX dX6_wouldEnd_39 ?_
    refine gf_RX6_261 C hX (by decide) dX6_wouldEnd_42 ?_
    obtain ⟨x10, g11, e12, hM⟩ := zc_elim hM
    refine v_callVi (ci := 6) (rest := []) C (c_X6_answer hX  e12) mw_X6_answer mi_X6_answer ml_RX6_106 hX.symm zm0 rfl rfl ⟨by decide, Nat.le_of_ble_eq_true rfl⟩ rfl (Nat.le_of_ble_eq_true rfl) dX6_wouldEnd_45 rfl ?_
    exact v_iret2 C hr dX6_wouldEnd_48 hM
  · refine v_aload_n C 0 dX6_wouldEnd_11 rfl rfl ?_
    refine v_iconst C (nI 1) dX6_wouldEnd_12 zk_1 ?_
    obtain ⟨x13, g14, e15, hM⟩ := zc_elim hM
    refine v_callVi (ci := 6) (rest := []) C (c_X6_refuse hX  e15) mw_X6_refuse mi_X6_refuse ml_RX6_69 hX.symm zm0 rfl rfl ⟨by decide, Nat.le_of_ble_eq_true rfl⟩ rfl (Nat.le_of_ble_eq_true rfl) dX6_wouldEnd_13 rfl ?_
    exact v_iret2 C hr dX6_wouldEnd_16 hM

theorem c_X6_step {X : zX} (hX : zfl X = false) {v1 : Int32} {g gr : zG} {rr : Int32}  (hM : X6_step v1 g = some (rr, gr)) : MC X yX6_step cX6_step 2 (some .int) 6 [.inr (.inl (0, 0)), .inl v1] (some (.inl rr)) g gr := by
  refine MC.mk (own := RX6) (L := [some (.inr (.inl (0, 0))), some (.inl v1)]) (by decide) rfl trivial (Nat.le_of_ble_eq_true rfl) rfl ?_
  intro p l e s m args below meth c C hr
  unfold X6_step at hM
  refine v_aload_n C 0 dX6_step_0 rfl rfl ?_
  refine gf_RX6_16 C hX dX6_step_1 ?_
  refine v_iload_n C 1 dX6_step_4 rfl rfl ?_
  obtain ⟨x1, g2, e3, hM⟩ := zc_elim hM
  refine v_callVNi (ci := 2) (rest := []) C (c_X2_hasCore hX (by decide) e3) mw_X2_hasCore mi_X2_hasCore ml_RX6_176 hX.symm (zm1 (by decide)) rfl rfl ⟨by decide, Nat.le_of_ble_eq_true rfl⟩ rfl (Nat.le_of_ble_eq_true rfl) dX6_step_5 rfl ?_
  refine v_if_eq C 26 dX6_step_8 rfl hM (fun hM => ?_) (fun hM => ?_)
  · refine v_aload_n C 0 dX6_step_26 rfl rfl ?_
    refine v_iconst C (nI 1) dX6_step_27 zk_1 ?_
    obtain ⟨x4, g5, e6, hM⟩ := zc_elim hM
    refine v_callVi (ci := 6) (rest := []) C (c_X6_refuse hX  e6) mw_X6_refuse mi_X6_refuse ml_RX6_69 hX.symm zm0 rfl rfl ⟨by decide, Nat.le_of_ble_eq_true rfl⟩ rfl (Nat.le_of_ble_eq_true rfl) dX6_step_28 rfl ?_
    exact v_iret2 C hr dX6_step_31 hM
  · refine v_aload_n C 0 dX6_step_11 rfl rfl ?_
    refine v_aload_n C 0 dX6_step_12 rfl rfl ?_
    refine gf_RX6_37 C hX dX6_step_13 ?_
    refine v_iload_n C 1 dX6_step_16 rfl rfl ?_
    obtain ⟨x7, g8, e9, hM⟩ := zc_elim hM
    refine v_callVNi (ci := 3) (rest := [(.inr (.inl (0, 0)))]) C (c_X3_takeStep hX (by decide) e9) mw_X3_takeStep mi_X3_takeStep ml_RX6_258 hX.symm (zm3 (by decide)) rfl rfl ⟨by decide, Nat.le_of_ble_eq_true rfl⟩ rfl (Nat.le_of_ble_eq_true rfl) dX6_step_17 rfl ?_
    obtain ⟨x10, g11, e12, hM⟩ := zc_elim hM
    refine v_callVi (ci := 6) (rest := []) C (c_X6_answer hX  e12) mw_X6_answer mi_X6_answer ml_RX6_106 hX.symm zm0 rfl rfl ⟨by decide, Nat.le_of_ble_eq_true rfl⟩ rfl (Nat.le_of_ble_eq_true rfl) dX6_step_20 rfl ?_
    refine v_goto C 31 dX6_step_23 rfl ?_
    exact v_iret2 C hr dX6_step_31 hM

theorem c_X6_rounds {X : zX} (hX : zfl X = false) {v1 : Int32} {g gr : zG} {rr : Int32}  (hM : X6_rounds v1 g = some (rr, gr)) : MC X yX6_rounds cX6_rounds 2 (some .int) 7 [.inr (.inl (0, 0)), .inl v1] (some (.inl rr)) g gr := by
  refine MC.mk (own := RX6) (L := [some (.inr (.inl (0, 0))), some (.inl v1)]) (by decide) rfl trivial (Nat.le_of_ble_eq_true rfl) rfl ?_
  intro p l e s m args below meth c C hr
  unfold X6_rounds at hM
  refine v_aload_n C 0 dX6_rounds_0 rfl rfl ?_
  refine gf_RX6_96 C hX dX6_rounds_1 ?_
  refine v_if_ne C 13 dX6_rounds_4 rfl hM (fun hM => ?_) (fun hM => ?_)
  · refine v_iload_n C 1 dX6_rounds_13 rfl rfl ?_
    refine v_iconst C (nI 1) dX6_rounds_14 zk_1 ?_
    refine v_sipush C (nI 200) dX6_rounds_15 zks_200 ?_
    obtain ⟨x1, g2, e3, hM⟩ := zc_elim hM
    refine v_callSi (rest := []) C (c_X6_isWithin hX  e3) mw_X6_isWithin ms_X6_isWithin ml_RX6_65 ⟨by decide, Nat.le_of_ble_eq_true rfl⟩ rfl (Nat.le_of_ble_eq_true rfl) dX6_rounds_18 rfl ?_
    refine v_if_ne C 30 dX6_rounds_21 rfl hM (fun hM => ?_) (fun hM => ?_)
    · refine v_aload_n C 0 dX6_rounds_30 rfl rfl ?_
      refine v_aload_n C 0 dX6_rounds_31 rfl rfl ?_
      refine gf_RX6_37 C hX dX6_rounds_32 ?_
      refine v_iload_n C 1 dX6_rounds_35 rfl rfl ?_
      obtain ⟨x4, g5, e6, hM⟩ := zc_elim hM
      refine v_callVNi (ci := 3) (rest := [(.inr (.inl (0, 0)))]) C (c_X3_takeRounds hX (by decide) e6) mw_X3_takeRounds mi_X3_takeRounds ml_RX6_264 hX.symm (zm3 (by decide)) rfl rfl ⟨by decide, Nat.le_of_ble_eq_true rfl⟩ rfl (Nat.le_of_ble_eq_true rfl) dX6_rounds_36 rfl ?_
      obtain ⟨x7, g8, e9, hM⟩ := zc_elim hM
      refine v_callVi (ci := 6) (rest := []) C (c_X6_answer hX  e9) mw_X6_answer mi_X6_answer ml_RX6_106 hX.symm zm0 rfl rfl ⟨by decide, Nat.le_of_ble_eq_true rfl⟩ rfl (Nat.le_of_ble_eq_true rfl) dX6_rounds_39 rfl ?_
      exact v_iret2 C hr dX6_rounds_42 hM
    · refine v_aload_n C 0 dX6_rounds_24 rfl rfl ?_
      refine v_iconst C (nI 2) dX6_rounds_25 zk_2 ?_
      obtain ⟨x10, g11, e12, hM⟩ := zc_elim hM
      refine v_callVi (ci := 6) (rest := []) C (c_X6_refuse hX  e12) mw_X6_refuse mi_X6_refuse ml_RX6_69 hX.symm zm0 rfl rfl ⟨by decide, Nat.le_of_ble_eq_true rfl⟩ rfl (Nat.le_of_ble_eq_true rfl) dX6_rounds_26 rfl ?_
      exact v_iret2 C hr dX6_rounds_29 hM
  · refine v_aload_n C 0 dX6_rounds_7 rfl rfl ?_
    refine v_iconst C (nI 1) dX6_rounds_8 zk_1 ?_
    obtain ⟨x13, g14, e15, hM⟩ := zc_elim hM
    refine v_callVi (ci := 6) (rest := []) C (c_X6_refuse hX  e15) mw_X6_refuse mi_X6_refuse ml_RX6_69 hX.symm zm0 rfl rfl ⟨by decide, Nat.le_of_ble_eq_true rfl⟩ rfl (Nat.le_of_ble_eq_true rfl) dX6_rounds_9 rfl ?_
    exact v_iret2 C hr dX6_rounds_12 hM

theorem c_X6_isSeed {X : zX} (hX : zfl X = false) {v0 : Int32} {g gr : zG} {rr : Int32}  (hM : X6_isSeed v0 g = some (rr, gr)) : MC X yX6_isSeed cX6_isSeed 1 (some .boolean) 1 [.inl v0] (some (.inl rr)) g gr := by
  refine MC.mk (own := RX6) (L := [some (.inl v0)]) (by decide) rfl trivial (Nat.le_of_ble_eq_true rfl) rfl ?_
  intro p l e s m args below meth c C hr
  unfold X6_isSeed at hM
  refine v_iload_n C 0 dX6_isSeed_0 rfl rfl ?_
  refine v_iconst C (nI 0) dX6_isSeed_1 zk_0 ?_
  refine v_ldcw C (nI 65535) dX6_isSeed_2 kc_RX6_273 ?_
  obtain ⟨x1, g2, e3, hM⟩ := zc_elim hM
  refine v_callSi (rest := []) C (c_X6_isWithin hX  e3) mw_X6_isWithin ms_X6_isWithin ml_RX6_65 ⟨by decide, Nat.le_of_ble_eq_true rfl⟩ rfl (Nat.le_of_ble_eq_true rfl) dX6_isSeed_5 rfl ?_
  obtain ⟨hz, hM⟩ := zbo_elim hM
  exact v_zret2 C hr (zbo_n hz) dX6_isSeed_8 hM

theorem t_X6_draws_b31   {g : zG} (hX : zfl X = false) (C : Cx X p (zrm 7) s m args meth c cX6_draws 3 RX6 0 0) (hr : meth.sig.returnType = (some .int))   (hM : X6_draws_b31   g = some (rr, gr)) : V X p l e (zrm 7) s m args below meth c 3 0 0 (MQ below (zQ X (Option.map (zM X) (some (.inl rr))) gr) args s 0 0 (zF X)) g 31 [some (.inr (.inl (0, 0))), none, none] [] := by
  unfold X6_draws_b31 at hM
  refine v_aload_n C 0 dX6_draws_31 rfl rfl ?_
  refine v_iconst C (nI 2) dX6_draws_32 zk_2 ?_
  obtain ⟨x1, g2, e3, hM⟩ := zc_elim hM
  refine v_callVi (ci := 6) (rest := []) C (c_X6_refuse hX  e3) mw_X6_refuse mi_X6_refuse ml_RX6_69 hX.symm zm0 rfl rfl ⟨by decide, Nat.le_of_ble_eq_true rfl⟩ rfl (Nat.le_of_ble_eq_true rfl) dX6_draws_33 rfl ?_
  exact v_iret2 C hr dX6_draws_36 hM

theorem c_X6_draws {X : zX} (hX : zfl X = false) {v1 : Int32} {v2 : Int32} {g gr : zG} {rr : Int32}  (hM : X6_draws v1 v2 g = some (rr, gr)) : MC X yX6_draws cX6_draws 3 (some .int) 7 [.inr (.inl (0, 0)), .inl v1, .inl v2] (some (.inl rr)) g gr := by
  refine MC.mk (own := RX6) (L := [some (.inr (.inl (0, 0))), some (.inl v1), some (.inl v2)]) (by decide) rfl trivial (Nat.le_of_ble_eq_true rfl) rfl ?_
  intro p l e s m args below meth c C hr
  unfold X6_draws at hM
  refine v_aload_n C 0 dX6_draws_0 rfl rfl ?_
  refine gf_RX6_96 C hX dX6_draws_1 ?_
  refine v_if_ne C 13 dX6_draws_4 rfl hM (fun hM => ?_) (fun hM => ?_)
  · refine v_iload_n C 1 dX6_draws_13 rfl rfl ?_
    refine v_iconst C (nI 1) dX6_draws_14 zk_1 ?_
    refine v_sipush C (nI 1000) dX6_draws_15 zks_1000 ?_
    obtain ⟨x1, g2, e3, hM⟩ := zc_elim hM
    refine v_callSi (rest := []) C (c_X6_isWithin hX  e3) mw_X6_isWithin ms_X6_isWithin ml_RX6_65 ⟨by decide, Nat.le_of_ble_eq_true rfl⟩ rfl (Nat.le_of_ble_eq_true rfl) dX6_draws_18 rfl ?_
    refine v_if_eq C 31 dX6_draws_21 rfl hM (fun hM => ?_) (fun hM => ?_)
    · exact v_weak (t_X6_draws_b31 hX C hr   hM) (show zsub [some (.inr (.inl (0, 0))), none, none] [some (.inr (.inl (0, 0))), some (.inl v1), some (.inl v2)] from ⟨rfl, trivial⟩)
    · refine v_iload_n C 2 dX6_draws_24 rfl rfl ?_
      obtain ⟨x4, g5, e6, hM⟩ := zc_elim hM
      refine v_callSi (rest := []) C (c_X6_isSeed hX  e6) mw_X6_isSeed ms_X6_isSeed ml_RX6_267 ⟨by decide, Nat.le_of_ble_eq_true rfl⟩ rfl (Nat.le_of_ble_eq_true rfl) dX6_draws_25 rfl ?_
      refine v_if_ne C 37 dX6_draws_28 rfl hM (fun hM => ?_) (fun hM => ?_)
      · refine v_aload_n C 0 dX6_draws_37 rfl rfl ?_
        refine v_aload_n C 0 dX6_draws_38 rfl rfl ?_
        refine gf_RX6_37 C hX dX6_draws_39 ?_
        refine v_iload_n C 1 dX6_draws_42 rfl rfl ?_
        refine v_iload_n C 2 dX6_draws_43 rfl rfl ?_
        obtain ⟨x7, g8, e9, hM⟩ := zc_elim hM
        refine v_callVNi (ci := 3) (rest := [(.inr (.inl (0, 0)))]) C (c_X3_takeDraws hX (by decide) e9) mw_X3_takeDraws mi_X3_takeDraws ml_RX6_270 hX.symm (zm3 (by decide)) rfl rfl ⟨by decide, Nat.le_of_ble_eq_true rfl⟩ rfl (Nat.le_of_ble_eq_true rfl) dX6_draws_44 rfl ?_
        obtain ⟨x10, g11, e12, hM⟩ := zc_elim hM
        refine v_callVi (ci := 6) (rest := []) C (c_X6_answer hX  e12) mw_X6_answer mi_X6_answer ml_RX6_106 hX.symm zm0 rfl rfl ⟨by decide, Nat.le_of_ble_eq_true rfl⟩ rfl (Nat.le_of_ble_eq_true rfl) dX6_draws_47 rfl ?_
        exact v_iret2 C hr dX6_draws_50 hM
      · exact v_weak (t_X6_draws_b31 hX C hr   hM) (show zsub [some (.inr (.inl (0, 0))), none, none] [some (.inr (.inl (0, 0))), some (.inl v1), some (.inl v2)] from ⟨rfl, trivial⟩)
  · refine v_aload_n C 0 dX6_draws_7 rfl rfl ?_
    refine v_iconst C (nI 1) dX6_draws_8 zk_1 ?_
    obtain ⟨x13, g14, e15, hM⟩ := zc_elim hM
    refine v_callVi (ci := 6) (rest := []) C (c_X6_refuse hX  e15) mw_X6_refuse mi_X6_refuse ml_RX6_69 hX.symm zm0 rfl rfl ⟨by decide, Nat.le_of_ble_eq_true rfl⟩ rfl (Nat.le_of_ble_eq_true rfl) dX6_draws_9 rfl ?_
    exact v_iret2 C hr dX6_draws_12 hM

theorem c_X6_interrupt {X : zX} (hX : zfl X = false) {v1 : Int32} {g gr : zG} {rr : Int32}  (hM : X6_interrupt v1 g = some (rr, gr)) : MC X yX6_interrupt cX6_interrupt 2 (some .int) 2 [.inr (.inl (0, 0)), .inl v1] (some (.inl rr)) g gr := by
  refine MC.mk (own := RX6) (L := [some (.inr (.inl (0, 0))), some (.inl v1)]) (by decide) rfl trivial (Nat.le_of_ble_eq_true rfl) rfl ?_
  intro p l e s m args below meth c C hr
  unfold X6_interrupt at hM
  refine v_aload_n C 0 dX6_interrupt_0 rfl rfl ?_
  refine gf_RX6_16 C hX dX6_interrupt_1 ?_
  refine v_iload_n C 1 dX6_interrupt_4 rfl rfl ?_
  obtain ⟨x1, g2, e3, hM⟩ := zc_elim hM
  refine v_callVNi (ci := 2) (rest := []) C (c_X2_hasCore hX (by decide) e3) mw_X2_hasCore mi_X2_hasCore ml_RX6_176 hX.symm (zm1 (by decide)) rfl rfl ⟨by decide, Nat.le_of_ble_eq_true rfl⟩ rfl (Nat.le_of_ble_eq_true rfl) dX6_interrupt_5 rfl ?_
  refine v_if_ne C 17 dX6_interrupt_8 rfl hM (fun hM => ?_) (fun hM => ?_)
  · refine v_aload_n C 0 dX6_interrupt_17 rfl rfl ?_
    refine gf_RX6_37 C hX dX6_interrupt_18 ?_
    refine gf_RX6_219 C hX (by decide) dX6_interrupt_21 ?_
    refine v_iload_n C 1 dX6_interrupt_24 rfl rfl ?_
    refine aa_19 C hX (by decide) dX6_interrupt_25 hM (fun hM hj4 => ?_)
    have hb5 : (4 * 0 + v1.toNatClampNeg) < 12 := zix (by decide) hj4
    refine gf_RX6_236 C hX hb5 dX6_interrupt_26 ?_
    refine v_iconst C (nI 1) dX6_interrupt_29 zk_1 ?_
    refine v_icmp_eq C 39 dX6_interrupt_30 rfl hM (fun hM => ?_) (fun hM => ?_)
    · refine v_aload_n C 0 dX6_interrupt_39 rfl rfl ?_
      refine gf_RX6_37 C hX dX6_interrupt_40 ?_
      refine v_iconst C (nI 1) dX6_interrupt_43 zk_1 ?_
      refine v_iload_n C 1 dX6_interrupt_44 rfl rfl ?_
      refine v_ishl C dX6_interrupt_45 ?_
      refine v_iconst C (nI 2) dX6_interrupt_46 zk_2 ?_
      obtain ⟨x6, g7, e8, hM⟩ := zc_elim hM
      refine v_callVNv (ci := 3) (rest := []) C (c_X3_endTries hX (by decide) e8) mw_X3_endTries mi_X3_endTries ml_RX6_274 hX.symm (zm3 (by decide)) rfl rfl ⟨by decide, Nat.le_of_ble_eq_true rfl⟩ rfl (Nat.le_of_ble_eq_true rfl) dX6_interrupt_47 rfl ?_
      refine v_aload_n C 0 dX6_interrupt_50 rfl rfl ?_
      refine v_aload_n C 0 dX6_interrupt_51 rfl rfl ?_
      refine gf_RX6_37 C hX dX6_interrupt_52 ?_
      refine gf_RX6_219 C hX (by decide) dX6_interrupt_55 ?_
      refine v_iload_n C 1 dX6_interrupt_58 rfl rfl ?_
      refine aa_19 C hX (by decide) dX6_interrupt_59 hM (fun hM hj9 => ?_)
      have hb10 : (4 * 0 + v1.toNatClampNeg) < 12 := zix (by decide) hj9
      refine gf_RX6_225 C hX hb10 dX6_interrupt_60 ?_
      obtain ⟨x11, g12, e13, hM⟩ := zc_elim hM
      refine v_callVi (ci := 6) (rest := []) C (c_X6_answer hX  e13) mw_X6_answer mi_X6_answer ml_RX6_106 hX.symm zm0 rfl rfl ⟨by decide, Nat.le_of_ble_eq_true rfl⟩ rfl (Nat.le_of_ble_eq_true rfl) dX6_interrupt_63 rfl ?_
      exact v_iret2 C hr dX6_interrupt_66 hM
    · refine v_aload_n C 0 dX6_interrupt_33 rfl rfl ?_
      refine v_iconst C (nI 5) dX6_interrupt_34 zk_5 ?_
      obtain ⟨x14, g15, e16, hM⟩ := zc_elim hM
      refine v_callVi (ci := 6) (rest := []) C (c_X6_refuse hX  e16) mw_X6_refuse mi_X6_refuse ml_RX6_69 hX.symm zm0 rfl rfl ⟨by decide, Nat.le_of_ble_eq_true rfl⟩ rfl (Nat.le_of_ble_eq_true rfl) dX6_interrupt_35 rfl ?_
      exact v_iret2 C hr dX6_interrupt_38 hM
  · refine v_aload_n C 0 dX6_interrupt_11 rfl rfl ?_
    refine v_iconst C (nI 1) dX6_interrupt_12 zk_1 ?_
    obtain ⟨x17, g18, e19, hM⟩ := zc_elim hM
    refine v_callVi (ci := 6) (rest := []) C (c_X6_refuse hX  e19) mw_X6_refuse mi_X6_refuse ml_RX6_69 hX.symm zm0 rfl rfl ⟨by decide, Nat.le_of_ble_eq_true rfl⟩ rfl (Nat.le_of_ble_eq_true rfl) dX6_interrupt_13 rfl ?_
    exact v_iret2 C hr dX6_interrupt_16 hM

theorem c_X6_isTrial {X : zX} (hX : zfl X = false) {v0 : Int32} {v1 : Int32} {v2 : Int32} {g gr : zG} {rr : Int32}  (hM : X6_isTrial v0 v1 v2 g = some (rr, gr)) : MC X yX6_isTrial cX6_isTrial 3 (some .boolean) 2 [.inl v0, .inl v1, .inl v2] (some (.inl rr)) g gr := by
  refine MC.mk (own := RX6) (L := [some (.inl v0), some (.inl v1), some (.inl v2)]) (by decide) rfl trivial (Nat.le_of_ble_eq_true rfl) rfl ?_
  intro p l e s m args below meth c C hr
  unfold X6_isTrial at hM
  refine v_iload_n C 0 dX6_isTrial_0 rfl rfl ?_
  refine v_iconst C (nI 0) dX6_isTrial_1 zk_0 ?_
  refine v_iconst C (nI 2) dX6_isTrial_2 zk_2 ?_
  obtain ⟨x1, g2, e3, hM⟩ := zc_elim hM
  refine v_callSi (rest := []) C (c_X6_isWithin hX  e3) mw_X6_isWithin ms_X6_isWithin ml_RX6_65 ⟨by decide, Nat.le_of_ble_eq_true rfl⟩ rfl (Nat.le_of_ble_eq_true rfl) dX6_isTrial_3 rfl ?_
  refine v_if_eq C 30 dX6_isTrial_6 rfl hM (fun hM => ?_) (fun hM => ?_)
  · refine v_iconst C (nI 0) dX6_isTrial_30 zk_0 ?_
    exact v_zret2 C hr (zbo_n (Or.inl rfl)) dX6_isTrial_31 hM
  · refine v_iload_n C 1 dX6_isTrial_9 rfl rfl ?_
    refine v_iconst C (nI 1) dX6_isTrial_10 zk_1 ?_
    refine v_bipush C (nI 9) dX6_isTrial_11 zkb_9 ?_
    obtain ⟨x4, g5, e6, hM⟩ := zc_elim hM
    refine v_callSi (rest := []) C (c_X6_isWithin hX  e6) mw_X6_isWithin ms_X6_isWithin ml_RX6_65 ⟨by decide, Nat.le_of_ble_eq_true rfl⟩ rfl (Nat.le_of_ble_eq_true rfl) dX6_isTrial_13 rfl ?_
    refine v_if_eq C 30 dX6_isTrial_16 rfl hM (fun hM => ?_) (fun hM => ?_)
    · refine v_iconst C (nI 0) dX6_isTrial_30 zk_0 ?_
      exact v_zret2 C hr (zbo_n (Or.inl rfl)) dX6_isTrial_31 hM
    · refine v_iload_n C 2 dX6_isTrial_19 rfl rfl ?_
      obtain ⟨x7, g8, e9, hM⟩ := zc_elim hM
      refine v_callSi (rest := []) C (c_X6_isSeed hX  e9) mw_X6_isSeed ms_X6_isSeed ml_RX6_267 ⟨by decide, Nat.le_of_ble_eq_true rfl⟩ rfl (Nat.le_of_ble_eq_true rfl) dX6_isTrial_20 rfl ?_
      refine v_if_eq C 30 dX6_isTrial_23 rfl hM (fun hM => ?_) (fun hM => ?_)
      · refine v_iconst C (nI 0) dX6_isTrial_30 zk_0 ?_
        exact v_zret2 C hr (zbo_n (Or.inl rfl)) dX6_isTrial_31 hM
      · refine v_iconst C (nI 1) dX6_isTrial_26 zk_1 ?_
        refine v_goto C 31 dX6_isTrial_27 rfl ?_
        exact v_zret2 C hr (zbo_n (Or.inr rfl)) dX6_isTrial_31 hM

theorem t_X6_tried_b17   {g : zG} (hX : zfl X = false) (C : Cx X p (zrm 7) s m args meth c cX6_tried 5 RX6 0 0) (hr : meth.sig.returnType = (some .int))   (hM : X6_tried_b17   g = some (rr, gr)) : V X p l e (zrm 7) s m args below meth c 5 0 0 (MQ below (zQ X (Option.map (zM X) (some (.inl rr))) gr) args s 0 0 (zF X)) g 17 [some (.inr (.inl (0, 0))), none, none, none, none] [] := by
  unfold X6_tried_b17 at hM
  refine v_aload_n C 0 dX6_tried_17 rfl rfl ?_
  refine v_iconst C (nI 1) dX6_tried_18 zk_1 ?_
  obtain ⟨x1, g2, e3, hM⟩ := zc_elim hM
  refine v_callVi (ci := 6) (rest := []) C (c_X6_refuse hX  e3) mw_X6_refuse mi_X6_refuse ml_RX6_69 hX.symm zm0 rfl rfl ⟨by decide, Nat.le_of_ble_eq_true rfl⟩ rfl (Nat.le_of_ble_eq_true rfl) dX6_tried_19 rfl ?_
  exact v_iret2 C hr dX6_tried_22 hM

theorem c_X6_tried {X : zX} (hX : zfl X = false) {v1 : Int32} {v2 : Int32} {v3 : Int32} {v4 : Int32} {g gr : zG} {rr : Int32}  (hM : X6_tried v1 v2 v3 v4 g = some (rr, gr)) : MC X yX6_tried cX6_tried 5 (some .int) 7 [.inr (.inl (0, 0)), .inl v1, .inl v2, .inl v3, .inl v4] (some (.inl rr)) g gr := by
  refine MC.mk (own := RX6) (L := [some (.inr (.inl (0, 0))), some (.inl v1), some (.inl v2), some (.inl v3), some (.inl v4)]) (by decide) rfl trivial (Nat.le_of_ble_eq_true rfl) rfl ?_
  intro p l e s m args below meth c C hr
  unfold X6_tried at hM
  refine v_aload_n C 0 dX6_tried_0 rfl rfl ?_
  refine gf_RX6_96 C hX dX6_tried_1 ?_
  refine v_if_eq C 17 dX6_tried_4 rfl hM (fun hM => ?_) (fun hM => ?_)
  · exact v_weak (t_X6_tried_b17 hX C hr   hM) (show zsub [some (.inr (.inl (0, 0))), none, none, none, none] [some (.inr (.inl (0, 0))), some (.inl v1), some (.inl v2), some (.inl v3), some (.inl v4)] from ⟨rfl, trivial⟩)
  · refine v_iload C 4 dX6_tried_7 rfl ?_
    refine v_iconst C (nI 0) dX6_tried_9 zk_0 ?_
    refine v_iconst C (nI 5) dX6_tried_10 zk_5 ?_
    obtain ⟨x1, g2, e3, hM⟩ := zc_elim hM
    refine v_callSi (rest := []) C (c_X6_isWithin hX  e3) mw_X6_isWithin ms_X6_isWithin ml_RX6_65 ⟨by decide, Nat.le_of_ble_eq_true rfl⟩ rfl (Nat.le_of_ble_eq_true rfl) dX6_tried_11 rfl ?_
    refine v_if_ne C 23 dX6_tried_14 rfl hM (fun hM => ?_) (fun hM => ?_)
    · refine v_iload_n C 1 dX6_tried_23 rfl rfl ?_
      refine v_iload_n C 2 dX6_tried_24 rfl rfl ?_
      refine v_iload_n C 3 dX6_tried_25 rfl rfl ?_
      obtain ⟨x4, g5, e6, hM⟩ := zc_elim hM
      refine v_callSi (rest := []) C (c_X6_isTrial hX  e6) mw_X6_isTrial ms_X6_isTrial ml_RX6_277 ⟨by decide, Nat.le_of_ble_eq_true rfl⟩ rfl (Nat.le_of_ble_eq_true rfl) dX6_tried_26 rfl ?_
      refine v_if_ne C 38 dX6_tried_29 rfl hM (fun hM => ?_) (fun hM => ?_)
      · refine v_aload_n C 0 dX6_tried_38 rfl rfl ?_
        refine gf_RX6_44 C hX dX6_tried_39 ?_
        refine v_iload_n C 1 dX6_tried_42 rfl rfl ?_
        refine v_iload_n C 2 dX6_tried_43 rfl rfl ?_
        obtain ⟨x7, g8, e9, hM⟩ := zc_elim hM
        refine v_callVNv (ci := 3) (rest := []) C (c_X3_startOver hX (by decide) e9) mw_X3_startOver mi_X3_startOver ml_RX6_92 hX.symm (zm3 (by decide)) rfl rfl ⟨by decide, Nat.le_of_ble_eq_true rfl⟩ rfl (Nat.le_of_ble_eq_true rfl) dX6_tried_44 rfl ?_
        refine v_aload_n C 0 dX6_tried_47 rfl rfl ?_
        refine gf_RX6_44 C hX dX6_tried_48 ?_
        refine v_sipush C (nI 2000) dX6_tried_51 zks_2000 ?_
        refine v_iload_n C 3 dX6_tried_54 rfl rfl ?_
        obtain ⟨x10, g11, e12, hM⟩ := zc_elim hM
        refine v_callVNi (ci := 3) (rest := []) C (c_X3_takeDraws hX (by decide) e12) mw_X3_takeDraws mi_X3_takeDraws ml_RX6_270 hX.symm (zm3 (by decide)) rfl rfl ⟨by decide, Nat.le_of_ble_eq_true rfl⟩ rfl (Nat.le_of_ble_eq_true rfl) dX6_tried_55 rfl ?_
        refine v_pop C dX6_tried_58 ?_
        refine v_aload_n C 0 dX6_tried_59 rfl rfl ?_
        refine gf_RX6_44 C hX dX6_tried_60 ?_
        obtain ⟨x13, g14, e15, hM⟩ := zc_elim hM
        refine v_callVNi (ci := 3) (rest := []) C (c_X3_isAllDone hX (by decide) e15) mw_X3_isAllDone mi_X3_isAllDone ml_RX6_280 hX.symm (zm3 (by decide)) rfl rfl ⟨by decide, Nat.le_of_ble_eq_true rfl⟩ rfl (Nat.le_of_ble_eq_true rfl) dX6_tried_63 rfl ?_
        refine v_if_ne C 76 dX6_tried_66 rfl hM (fun hM => ?_) (fun hM => ?_)
        · refine v_iload C 4 dX6_tried_76 rfl ?_
          by_cases hx0 : v4 = (nI 0)
          · rw [if_pos hx0] at hM
            refine v_tblIn C 112 0 dX6_tried_78 (by rw [hx0]; rfl) (by decide) (by decide) rfl rfl ?_
            refine v_aload_n C 0 dX6_tried_112 rfl rfl ?_
            refine v_aload_n C 0 dX6_tried_113 rfl rfl ?_
            refine gf_RX6_44 C hX dX6_tried_114 ?_
            refine gf_RX6_125 C hX (by decide) dX6_tried_117 ?_
            obtain ⟨x16, g17, e18, hM⟩ := zc_elim hM
            refine v_callVi (ci := 6) (rest := []) C (c_X6_answer hX  e18) mw_X6_answer mi_X6_answer ml_RX6_106 hX.symm zm0 rfl rfl ⟨by decide, Nat.le_of_ble_eq_true rfl⟩ rfl (Nat.le_of_ble_eq_true rfl) dX6_tried_120 rfl ?_
            exact v_iret2 C hr dX6_tried_123 hM
          rw [if_neg hx0] at hM
          by_cases hx1 : v4 = (nI 1)
          · rw [if_pos hx1] at hM
            refine v_tblIn C 124 1 dX6_tried_78 (by rw [hx1]; rfl) (by decide) (by decide) rfl rfl ?_
            refine v_aload_n C 0 dX6_tried_124 rfl rfl ?_
            refine v_aload_n C 0 dX6_tried_125 rfl rfl ?_
            refine gf_RX6_44 C hX dX6_tried_126 ?_
            refine v_iconst C (nI 0) dX6_tried_129 zk_0 ?_
            obtain ⟨x19, g20, e21, hM⟩ := zc_elim hM
            refine v_callVNi (ci := 3) (rest := [(.inr (.inl (0, 0)))]) C (c_X3_countInAll hX (by decide) e21) mw_X3_countInAll mi_X3_countInAll ml_RX6_284 hX.symm (zm3 (by decide)) rfl rfl ⟨by decide, Nat.le_of_ble_eq_true rfl⟩ rfl (Nat.le_of_ble_eq_true rfl) dX6_tried_130 rfl ?_
            obtain ⟨x22, g23, e24, hM⟩ := zc_elim hM
            refine v_callVi (ci := 6) (rest := []) C (c_X6_answer hX  e24) mw_X6_answer mi_X6_answer ml_RX6_106 hX.symm zm0 rfl rfl ⟨by decide, Nat.le_of_ble_eq_true rfl⟩ rfl (Nat.le_of_ble_eq_true rfl) dX6_tried_133 rfl ?_
            exact v_iret2 C hr dX6_tried_136 hM
          rw [if_neg hx1] at hM
          by_cases hx2 : v4 = (nI 2)
          · rw [if_pos hx2] at hM
            refine v_tblIn C 137 2 dX6_tried_78 (by rw [hx2]; rfl) (by decide) (by decide) rfl rfl ?_
            refine v_aload_n C 0 dX6_tried_137 rfl rfl ?_
            refine v_aload_n C 0 dX6_tried_138 rfl rfl ?_
            refine gf_RX6_44 C hX dX6_tried_139 ?_
            refine v_iconst C (nI 1) dX6_tried_142 zk_1 ?_
            obtain ⟨x25, g26, e27, hM⟩ := zc_elim hM
            refine v_callVNi (ci := 3) (rest := [(.inr (.inl (0, 0)))]) C (c_X3_countInAll hX (by decide) e27) mw_X3_countInAll mi_X3_countInAll ml_RX6_284 hX.symm (zm3 (by decide)) rfl rfl ⟨by decide, Nat.le_of_ble_eq_true rfl⟩ rfl (Nat.le_of_ble_eq_true rfl) dX6_tried_143 rfl ?_
            obtain ⟨x28, g29, e30, hM⟩ := zc_elim hM
            refine v_callVi (ci := 6) (rest := []) C (c_X6_answer hX  e30) mw_X6_answer mi_X6_answer ml_RX6_106 hX.symm zm0 rfl rfl ⟨by decide, Nat.le_of_ble_eq_true rfl⟩ rfl (Nat.le_of_ble_eq_true rfl) dX6_tried_146 rfl ?_
            exact v_iret2 C hr dX6_tried_149 hM
          rw [if_neg hx2] at hM
          by_cases hx3 : v4 = (nI 3)
          · rw [if_pos hx3] at hM
            refine v_tblIn C 150 3 dX6_tried_78 (by rw [hx3]; rfl) (by decide) (by decide) rfl rfl ?_
            refine v_aload_n C 0 dX6_tried_150 rfl rfl ?_
            refine v_aload_n C 0 dX6_tried_151 rfl rfl ?_
            refine gf_RX6_44 C hX dX6_tried_152 ?_
            refine v_iconst C (nI 3) dX6_tried_155 zk_3 ?_
            obtain ⟨x31, g32, e33, hM⟩ := zc_elim hM
            refine v_callVNi (ci := 3) (rest := [(.inr (.inl (0, 0)))]) C (c_X3_countInAll hX (by decide) e33) mw_X3_countInAll mi_X3_countInAll ml_RX6_284 hX.symm (zm3 (by decide)) rfl rfl ⟨by decide, Nat.le_of_ble_eq_true rfl⟩ rfl (Nat.le_of_ble_eq_true rfl) dX6_tried_156 rfl ?_
            obtain ⟨x34, g35, e36, hM⟩ := zc_elim hM
            refine v_callVi (ci := 6) (rest := []) C (c_X6_answer hX  e36) mw_X6_answer mi_X6_answer ml_RX6_106 hX.symm zm0 rfl rfl ⟨by decide, Nat.le_of_ble_eq_true rfl⟩ rfl (Nat.le_of_ble_eq_true rfl) dX6_tried_159 rfl ?_
            exact v_iret2 C hr dX6_tried_162 hM
          rw [if_neg hx3] at hM
          by_cases hx4 : v4 = (nI 4)
          · rw [if_pos hx4] at hM
            refine v_tblIn C 163 4 dX6_tried_78 (by rw [hx4]; rfl) (by decide) (by decide) rfl rfl ?_
            refine v_aload_n C 0 dX6_tried_163 rfl rfl ?_
            refine v_aload_n C 0 dX6_tried_164 rfl rfl ?_
            refine gf_RX6_44 C hX dX6_tried_165 ?_
            refine v_iconst C (nI 5) dX6_tried_168 zk_5 ?_
            obtain ⟨x37, g38, e39, hM⟩ := zc_elim hM
            refine v_callVNi (ci := 3) (rest := [(.inr (.inl (0, 0)))]) C (c_X3_countInAll hX (by decide) e39) mw_X3_countInAll mi_X3_countInAll ml_RX6_284 hX.symm (zm3 (by decide)) rfl rfl ⟨by decide, Nat.le_of_ble_eq_true rfl⟩ rfl (Nat.le_of_ble_eq_true rfl) dX6_tried_169 rfl ?_
            obtain ⟨x40, g41, e42, hM⟩ := zc_elim hM
            refine v_callVi (ci := 6) (rest := []) C (c_X6_answer hX  e42) mw_X6_answer mi_X6_answer ml_RX6_106 hX.symm zm0 rfl rfl ⟨by decide, Nat.le_of_ble_eq_true rfl⟩ rfl (Nat.le_of_ble_eq_true rfl) dX6_tried_172 rfl ?_
            exact v_iret2 C hr dX6_tried_175 hM
          rw [if_neg hx4] at hM
          refine v_tblOut C 176 dX6_tried_78 (ztbl 5 rfl (by intro k hk; match k, hk with | 0, _ => exact hx0 | 1, _ => exact hx1 | 2, _ => exact hx2 | 3, _ => exact hx3 | 4, _ => exact hx4 | k + 5, hk => omega)) rfl ?_
          refine v_aload_n C 0 dX6_tried_176 rfl rfl ?_
          refine v_aload_n C 0 dX6_tried_177 rfl rfl ?_
          refine gf_RX6_44 C hX dX6_tried_178 ?_
          refine v_bipush C (nI 6) dX6_tried_181 zkb_6 ?_
          obtain ⟨x43, g44, e45, hM⟩ := zc_elim hM
          refine v_callVNi (ci := 3) (rest := [(.inr (.inl (0, 0)))]) C (c_X3_countInAll hX (by decide) e45) mw_X3_countInAll mi_X3_countInAll ml_RX6_284 hX.symm (zm3 (by decide)) rfl rfl ⟨by decide, Nat.le_of_ble_eq_true rfl⟩ rfl (Nat.le_of_ble_eq_true rfl) dX6_tried_183 rfl ?_
          obtain ⟨x46, g47, e48, hM⟩ := zc_elim hM
          refine v_callVi (ci := 6) (rest := []) C (c_X6_answer hX  e48) mw_X6_answer mi_X6_answer ml_RX6_106 hX.symm zm0 rfl rfl ⟨by decide, Nat.le_of_ble_eq_true rfl⟩ rfl (Nat.le_of_ble_eq_true rfl) dX6_tried_186 rfl ?_
          exact v_iret2 C hr dX6_tried_189 hM
        · refine v_aload_n C 0 dX6_tried_69 rfl rfl ?_
          refine v_bipush C (-2) dX6_tried_70 zkb_m2 ?_
          obtain ⟨x49, g50, e51, hM⟩ := zc_elim hM
          refine v_callVi (ci := 6) (rest := []) C (c_X6_answer hX  e51) mw_X6_answer mi_X6_answer ml_RX6_106 hX.symm zm0 rfl rfl ⟨by decide, Nat.le_of_ble_eq_true rfl⟩ rfl (Nat.le_of_ble_eq_true rfl) dX6_tried_72 rfl ?_
          exact v_iret2 C hr dX6_tried_75 hM
      · refine v_aload_n C 0 dX6_tried_32 rfl rfl ?_
        refine v_iconst C (nI 2) dX6_tried_33 zk_2 ?_
        obtain ⟨x52, g53, e54, hM⟩ := zc_elim hM
        refine v_callVi (ci := 6) (rest := []) C (c_X6_refuse hX  e54) mw_X6_refuse mi_X6_refuse ml_RX6_69 hX.symm zm0 rfl rfl ⟨by decide, Nat.le_of_ble_eq_true rfl⟩ rfl (Nat.le_of_ble_eq_true rfl) dX6_tried_34 rfl ?_
        exact v_iret2 C hr dX6_tried_37 hM
    · exact v_weak (t_X6_tried_b17 hX C hr   hM) (show zsub [some (.inr (.inl (0, 0))), none, none, none, none] [some (.inr (.inl (0, 0))), some (.inl v1), some (.inl v2), some (.inl v3), some (.inl v4)] from ⟨rfl, trivial⟩)

end ZL
