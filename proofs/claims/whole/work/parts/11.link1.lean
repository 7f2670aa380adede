section ZL
variable {X : zX} {p : Program} {l : Launch} {e : Env} {s : State} {m : MethodId} {args : Array Value} {below : List Frame} {meth : Method} {c : Code} {rr : Int32} {gr : zG}
theorem c_X3_markLine {X : zX} (hX : zfl X = false) {r0 : Nat} {v1 : Int32} {v2 : Int32} {v3 : Int32} {g gr : zG} {rr : Int32} (hb_r0 : r0 < 3) (hM : X3_markLine r0 v1 v2 v3 g = some (rr, gr)) : MC X yX3_markLine cX3_markLine 5 none 1 [.inr (.inl (3, r0)), .inl v1, .inl v2, .inl v3] none g gr := by
  refine MC.mk (own := RX3) (L := [some (.inr (.inl (3, r0))), some (.inl v1), some (.inl v2), some (.inl v3), none]) (by decide) rfl trivial (Nat.le_of_ble_eq_true rfl) rfl ?_
  intro p l e s m args below meth c C hr
  unfold X3_markLine at hM
  refine v_aload_n C 0 dX3_markLine_0 rfl rfl ?_
  refine gf_RX3_17 C hX hb_r0 dX3_markLine_1 ?_
  refine v_iload_n C 1 dX3_markLine_4 rfl rfl ?_
  refine aa_18 C hX hb_r0 dX3_markLine_5 hM (fun hM hj1 => ?_)
  have hb2 : (4 * r0 + v1.toNatClampNeg) < 12 := zix hb_r0 hj1
  refine v_iload_n C 2 dX3_markLine_6 rfl rfl ?_
  obtain ⟨x3, g4, e5, hM⟩ := zc_elim hM
  refine v_callVNi (ci := 0) (rest := []) C (c_X0_find hX hb2 e5) mw_X0_find mi_X0_find ml_RX3_165 hX.symm (zm4 hb2) rfl rfl ⟨by decide, Nat.le_of_ble_eq_true rfl⟩ rfl (Nat.le_of_ble_eq_true rfl) dX3_markLine_7 rfl ?_
  refine v_istore (L' := [some (.inr (.inl (3, r0))), some (.inl v1), some (.inl v2), some (.inl v3), some (.inl x3)]) C 4 dX3_markLine_10 (by decide) rfl ?_
  refine v_iload C 4 dX3_markLine_12 rfl ?_
  refine v_iconst C (-1) dX3_markLine_14 zk_m1 ?_
  refine v_icmp_ne C 19 dX3_markLine_15 rfl hM (fun hM => ?_) (fun hM => ?_)
  · refine v_iload_n C 3 dX3_markLine_19 rfl rfl ?_
    refine v_if_eq C 39 dX3_markLine_20 rfl hM (fun hM => ?_) (fun hM => ?_)
    · refine v_aload_n C 0 dX3_markLine_39 rfl rfl ?_
      refine gf_RX3_17 C hX hb_r0 dX3_markLine_40 ?_
      refine v_iload_n C 1 dX3_markLine_43 rfl rfl ?_
      refine aa_18 C hX hb_r0 dX3_markLine_44 hM (fun hM hj6 => ?_)
      have hb7 : (4 * r0 + v1.toNatClampNeg) < 12 := zix hb_r0 hj6
      refine gf_RX3_214 C hX hb7 dX3_markLine_45 ?_
      refine v_iload C 4 dX3_markLine_48 rfl ?_
      refine v_iconst C (nI 1) dX3_markLine_50 zk_1 ?_
      refine is_24 C hX hb7 zvb1 dX3_markLine_51 hM (fun g8 hM => ?_)
      exact v_vret2 C hr dX3_markLine_52 hM
    · refine v_aload_n C 0 dX3_markLine_23 rfl rfl ?_
      refine gf_RX3_17 C hX hb_r0 dX3_markLine_24 ?_
      refine v_iload_n C 1 dX3_markLine_27 rfl rfl ?_
      refine aa_18 C hX hb_r0 dX3_markLine_28 hM (fun hM hj9 => ?_)
      have hb10 : (4 * r0 + v1.toNatClampNeg) < 12 := zix hb_r0 hj9
      refine gf_RX3_177 C hX hb10 dX3_markLine_29 ?_
      refine v_iload C 4 dX3_markLine_32 rfl ?_
      refine v_iconst C (nI 1) dX3_markLine_34 zk_1 ?_
      refine is_25 C hX hb10 zvb1 dX3_markLine_35 hM (fun g11 hM => ?_)
      refine v_goto C 52 dX3_markLine_36 rfl ?_
      exact v_vret2 C hr dX3_markLine_52 hM
  · exact v_vret2 C hr dX3_markLine_18 hM

theorem t_X3_doBegin_b93 {r0 : Nat} {r2 : Nat}  {g : zG} (hX : zfl X = false) (C : Cx X p (zrm 4) s m args meth c cX3_doBegin 4 RX3 0 0) (hr : meth.sig.returnType = (some .int)) (hb_r0 : r0 < 3) (hb_r2 : r2 < 12)  (hM : X3_doBegin_b93  r0 r2 g = some (rr, gr)) : V X p l e (zrm 4) s m args below meth c 4 0 0 (MQ below (zQ X (Option.map (zM X) (some (.inl rr))) gr) args s 0 0 (zF X)) g 93 [some (.inr (.inl (3, r0))), none, some (.inr (.inl (5, r2))), none] [] := by
  unfold X3_doBegin_b93 at hM
  refine v_aload_n C 2 dX3_doBegin_93 rfl rfl ?_
  refine v_iconst C (nI 0) dX3_doBegin_94 zk_0 ?_
  refine pf_RX3_110 C hX hb_r2 dX3_doBegin_95 hM (fun g1 hM => ?_)
  refine v_aload_n C 2 dX3_doBegin_98 rfl rfl ?_
  refine v_iconst C (nI 0) dX3_doBegin_99 zk_0 ?_
  refine pf_RX3_113 C hX hb_r2 dX3_doBegin_100 hM (fun g2 hM => ?_)
  refine v_aload_n C 2 dX3_doBegin_103 rfl rfl ?_
  refine v_aload_n C 2 dX3_doBegin_104 rfl rfl ?_
  refine gf_RX3_86 C hX hb_r2 dX3_doBegin_105 ?_
  refine pf_RX3_151 C hX hb_r2 dX3_doBegin_108 hM (fun g3 hM => ?_)
  refine v_aload_n C 2 dX3_doBegin_111 rfl rfl ?_
  refine gf_RX3_154 C hX hb_r2 dX3_doBegin_112 ?_
  refine v_bipush C (-2) dX3_doBegin_115 zkb_m2 ?_
  refine v_icmp_ne C 128 dX3_doBegin_117 rfl hM (fun hM => ?_) (fun hM => ?_)
  · refine v_iconst C (nI 1) dX3_doBegin_128 zk_1 ?_
    exact v_iret2 C hr dX3_doBegin_129 hM
  · refine v_aload_n C 2 dX3_doBegin_120 rfl rfl ?_
    refine v_aload_n C 0 dX3_doBegin_121 rfl rfl ?_
    refine gf_RX3_51 C hX hb_r0 dX3_doBegin_122 ?_
    refine pf_RX3_154 C hX hb_r2 dX3_doBegin_125 hM (fun g4 hM => ?_)
    refine v_iconst C (nI 1) dX3_doBegin_128 zk_1 ?_
    exact v_iret2 C hr dX3_doBegin_129 hM

theorem c_X3_doBegin {X : zX} (hX : zfl X = false) {r0 : Nat} {v1 : Int32} {r2 : Nat} {g gr : zG} {rr : Int32} (hb_r0 : r0 < 3) (hb_r2 : r2 < 12) (hM : X3_doBegin r0 v1 r2 g = some (rr, gr)) : MC X yX3_doBegin cX3_doBegin 4 (some .int) 4 [.inr (.inl (3, r0)), .inl v1, .inr (.inl (5, r2))] (some (.inl rr)) g gr := by
  refine MC.mk (own := RX3) (L := [some (.inr (.inl (3, r0))), some (.inl v1), some (.inr (.inl (5, r2))), none]) (by decide) rfl trivial (Nat.le_of_ble_eq_true rfl) rfl ?_
  intro p l e s m args below meth c C hr
  unfold X3_doBegin at hM
  refine v_aload_n C 0 dX3_doBegin_0 rfl rfl ?_
  refine gf_RX3_54 C hX hb_r0 dX3_doBegin_1 ?_
  refine v_bipush C (-2) dX3_doBegin_4 zkb_m2 ?_
  refine v_icmp_eq C 11 dX3_doBegin_6 rfl hM (fun hM => ?_) (fun hM => ?_)
  · refine v_aload_n C 2 dX3_doBegin_11 rfl rfl ?_
    refine gf_RX3_130 C hX hb_r2 dX3_doBegin_12 ?_
    refine v_aload_n C 0 dX3_doBegin_15 rfl rfl ?_
    refine gf_RX3_45 C hX hb_r0 dX3_doBegin_16 ?_
    refine v_icmp_ge C 54 dX3_doBegin_19 rfl hM (fun hM => ?_) (fun hM => ?_)
    · refine v_aload_n C 0 dX3_doBegin_54 rfl rfl ?_
      refine v_aload_n C 0 dX3_doBegin_55 rfl rfl ?_
      refine v_iload_n C 1 dX3_doBegin_56 rfl rfl ?_
      refine v_bipush C (nI 16) dX3_doBegin_57 zkb_16 ?_
      refine v_iconst C (nI 0) dX3_doBegin_59 zk_0 ?_
      obtain ⟨x1, g2, e3, hM⟩ := zc_elim hM
      refine v_callVi (ci := 3) (rest := [(.inr (.inl (3, r0)))]) C (c_X3_marking hX hb_r0 e3) mw_X3_marking mi_X3_marking ml_RX3_144 hX.symm (zm3 hb_r0) rfl rfl ⟨by decide, Nat.le_of_ble_eq_true rfl⟩ rfl (Nat.le_of_ble_eq_true rfl) dX3_doBegin_60 rfl ?_
      refine v_iconst C (nI 3) dX3_doBegin_63 zk_3 ?_
      obtain ⟨x4, g5, e6, hM⟩ := zc_elim hM
      refine v_callVv (ci := 3) (rest := []) C (c_X3_endTries hX hb_r0 e6) mw_X3_endTries mi_X3_endTries ml_RX3_147 hX.symm (zm3 hb_r0) rfl rfl ⟨by decide, Nat.le_of_ble_eq_true rfl⟩ rfl (Nat.le_of_ble_eq_true rfl) dX3_doBegin_64 rfl ?_
      refine v_aload_n C 0 dX3_doBegin_67 rfl rfl ?_
      refine v_iload_n C 1 dX3_doBegin_68 rfl rfl ?_
      refine v_bipush C (nI 16) dX3_doBegin_69 zkb_16 ?_
      refine v_iconst C (nI 1) dX3_doBegin_71 zk_1 ?_
      obtain ⟨x7, g8, e9, hM⟩ := zc_elim hM
      refine v_callVi (ci := 3) (rest := []) C (c_X3_reach hX hb_r0 e9) mw_X3_reach mi_X3_reach ml_RX3_133 hX.symm (zm3 hb_r0) rfl rfl ⟨by decide, Nat.le_of_ble_eq_true rfl⟩ rfl (Nat.le_of_ble_eq_true rfl) dX3_doBegin_72 rfl ?_
      refine v_istore_n (L' := [some (.inr (.inl (3, r0))), some (.inl v1), some (.inr (.inl (5, r2))), some (.inl x7)]) C 3 dX3_doBegin_75 rfl (by decide) rfl ?_
      refine v_iload_n C 3 dX3_doBegin_76 rfl rfl ?_
      refine v_iconst C (nI 1) dX3_doBegin_77 zk_1 ?_
      refine v_icmp_eq C 83 dX3_doBegin_78 rfl hM (fun hM => ?_) (fun hM => ?_)
      · refine v_aload_n C 0 dX3_doBegin_83 rfl rfl ?_
        refine v_iload_n C 1 dX3_doBegin_84 rfl rfl ?_
        refine pf_RX3_54 C hX hb_r0 dX3_doBegin_85 hM (fun g10 hM => ?_)
        refine v_aload_n C 2 dX3_doBegin_88 rfl rfl ?_
        refine v_iconst C (nI 2) dX3_doBegin_89 zk_2 ?_
        refine pf_RX3_141 C hX hb_r2 dX3_doBegin_90 hM (fun g11 hM => ?_)
        exact v_weak (t_X3_doBegin_b93 hX C hr hb_r0 hb_r2  hM) (show zsub [some (.inr (.inl (3, r0))), none, some (.inr (.inl (5, r2))), none] [some (.inr (.inl (3, r0))), some (.inl v1), some (.inr (.inl (5, r2))), some (.inl x7)] from ⟨rfl, ⟨rfl, trivial⟩⟩)
      · refine v_iload_n C 3 dX3_doBegin_81 rfl rfl ?_
        exact v_iret2 C hr dX3_doBegin_82 hM
    · refine v_aload_n C 0 dX3_doBegin_22 rfl rfl ?_
      refine v_iload_n C 1 dX3_doBegin_23 rfl rfl ?_
      refine v_bipush C (nI 16) dX3_doBegin_24 zkb_16 ?_
      refine v_iconst C (nI 0) dX3_doBegin_26 zk_0 ?_
      obtain ⟨x12, g13, e14, hM⟩ := zc_elim hM
      refine v_callVi (ci := 3) (rest := []) C (c_X3_reach hX hb_r0 e14) mw_X3_reach mi_X3_reach ml_RX3_133 hX.symm (zm3 hb_r0) rfl rfl ⟨by decide, Nat.le_of_ble_eq_true rfl⟩ rfl (Nat.le_of_ble_eq_true rfl) dX3_doBegin_27 rfl ?_
      refine v_istore_n (L' := [some (.inr (.inl (3, r0))), some (.inl v1), some (.inr (.inl (5, r2))), some (.inl x12)]) C 3 dX3_doBegin_30 rfl (by decide) rfl ?_
      refine v_iload_n C 3 dX3_doBegin_31 rfl rfl ?_
      refine v_iconst C (nI 1) dX3_doBegin_32 zk_1 ?_
      refine v_icmp_eq C 38 dX3_doBegin_33 rfl hM (fun hM => ?_) (fun hM => ?_)
      · refine v_aload_n C 0 dX3_doBegin_38 rfl rfl ?_
        refine v_iload_n C 1 dX3_doBegin_39 rfl rfl ?_
        refine v_bipush C (nI 16) dX3_doBegin_40 zkb_16 ?_
        refine v_iconst C (nI 0) dX3_doBegin_42 zk_0 ?_
        obtain ⟨x15, g16, e17, hM⟩ := zc_elim hM
        refine v_callVv (ci := 3) (rest := []) C (c_X3_markLine hX hb_r0 e17) mw_X3_markLine mi_X3_markLine ml_RX3_137 hX.symm (zm3 hb_r0) rfl rfl ⟨by decide, Nat.le_of_ble_eq_true rfl⟩ rfl (Nat.le_of_ble_eq_true rfl) dX3_doBegin_43 rfl ?_
        refine v_aload_n C 2 dX3_doBegin_46 rfl rfl ?_
        refine v_iconst C (nI 1) dX3_doBegin_47 zk_1 ?_
        refine pf_RX3_141 C hX hb_r2 dX3_doBegin_48 hM (fun g18 hM => ?_)
        refine v_goto C 93 dX3_doBegin_51 rfl ?_
        exact v_weak (t_X3_doBegin_b93 hX C hr hb_r0 hb_r2  hM) (show zsub [some (.inr (.inl (3, r0))), none, some (.inr (.inl (5, r2))), none] [some (.inr (.inl (3, r0))), some (.inl v1), some (.inr (.inl (5, r2))), some (.inl x12)] from ⟨rfl, ⟨rfl, trivial⟩⟩)
      · refine v_iload_n C 3 dX3_doBegin_36 rfl rfl ?_
        exact v_iret2 C hr dX3_doBegin_37 hM
  · refine v_iconst C (nI 2) dX3_doBegin_9 zk_2 ?_
    exact v_iret2 C hr dX3_doBegin_10 hM

theorem t_X3_doEnd_b136 {r2 : Nat}  {g : zG} (hX : zfl X = false) (C : Cx X p (zrm 1) s m args meth c cX3_doEnd 5 RX3 0 0) (hr : meth.sig.returnType = none) (hb_r2 : r2 < 12)  (hM : X3_doEnd_b136  r2 g = some (rr, gr)) : V X p l e (zrm 1) s m args below meth c 5 0 0 (MQ below (zQ X (Option.map (zM X) none) gr) args s 0 0 (zF X)) g 136 [none, none, some (.inr (.inl (5, r2))), none, none] [] := by
  unfold X3_doEnd_b136 at hM
  refine v_aload_n C 2 dX3_doEnd_136 rfl rfl ?_
  refine v_iconst C (nI 0) dX3_doEnd_137 zk_0 ?_
  refine pf_RX3_130 C hX hb_r2 dX3_doEnd_138 hM (fun g1 hM => ?_)
  refine v_aload_n C 2 dX3_doEnd_141 rfl rfl ?_
  refine v_bipush C (-2) dX3_doEnd_142 zkb_m2 ?_
  refine pf_RX3_154 C hX hb_r2 dX3_doEnd_144 hM (fun g2 hM => ?_)
  refine v_aload_n C 2 dX3_doEnd_147 rfl rfl ?_
  refine v_iconst C (nI 0) dX3_doEnd_148 zk_0 ?_
  refine pf_RX3_141 C hX hb_r2 dX3_doEnd_149 hM (fun g3 hM => ?_)
  exact v_vret2 C hr dX3_doEnd_152 hM

theorem t_X3_doEnd_b125 {r0 : Nat} {r2 : Nat} {q0 : Nat} {s1 : Int32} {s2 : Int32}  {g : zG} (hX : zfl X = false) (C : Cx X p (zrm 1) s m args meth c cX3_doEnd 5 RX3 0 0) (hr : meth.sig.returnType = none) (hb_r0 : r0 < 3) (hb_r2 : r2 < 12) (hb_q0 : q0 < 3)  (hM : X3_doEnd_b125  r0 r2 q0 s1 s2 g = some (rr, gr)) : V X p l e (zrm 1) s m args below meth c 5 0 0 (MQ below (zQ X (Option.map (zM X) none) gr) args s 0 0 (zF X)) g 125 [some (.inr (.inl (3, r0))), none, some (.inr (.inl (5, r2))), none, none] [(.inl s2), (.inl s1), (.inr (.inl (21, q0)))] := by
  unfold X3_doEnd_b125 at hM
  refine is_21 C hX hb_q0 dX3_doEnd_125 hM (fun g1 hM => ?_)
  refine v_aload_n C 0 dX3_doEnd_126 rfl rfl ?_
  refine v_dup_a C dX3_doEnd_127 ?_
  refine gf_RX3_48 C hX hb_r0 dX3_doEnd_128 ?_
  refine v_iconst C (nI 1) dX3_doEnd_131 zk_1 ?_
  refine v_iadd C dX3_doEnd_132 ?_
  refine pf_RX3_48 C hX hb_r0 dX3_doEnd_133 hM (fun g2 hM => ?_)
  exact v_weak (t_X3_doEnd_b136 hX C hr hb_r2  hM) (show zsub [none, none, some (.inr (.inl (5, r2))), none, none] [some (.inr (.inl (3, r0))), none, some (.inr (.inl (5, r2))), none, none] from ⟨rfl, trivial⟩)

theorem t_X3_doEnd_b47 {r0 : Nat} {v1 : Int32} {r2 : Nat} {v3 : Int32}  {g : zG} (hX : zfl X = false) (C : Cx X p (zrm 1) s m args meth c cX3_doEnd 5 RX3 0 0) (hr : meth.sig.returnType = none) (hb_r0 : r0 < 3) (hb_r2 : r2 < 12)  (hM : X3_doEnd_b47  r0 v1 r2 v3 g = some (rr, gr)) : V X p l e (zrm 1) s m args below meth c 5 0 0 (MQ below (zQ X (Option.map (zM X) none) gr) args s 0 0 (zF X)) g 47 [some (.inr (.inl (3, r0))), some (.inl v1), some (.inr (.inl (5, r2))), some (.inl v3), none] [] := by
  unfold X3_doEnd_b47 at hM
  refine v_aload_n C 2 dX3_doEnd_47 rfl rfl ?_
  refine gf_RX3_127 C hX hb_r2 dX3_doEnd_48 ?_
  refine v_iconst C (nI 4) dX3_doEnd_51 zk_4 ?_
  refine v_dup2 C dX3_doEnd_52 ?_
  refine ia_28 C hX hb_r2 dX3_doEnd_53 hM (fun hM _ => ?_)
  refine v_iconst C (nI 1) dX3_doEnd_54 zk_1 ?_
  refine v_iadd C dX3_doEnd_55 ?_
  refine is_28 C hX hb_r2 dX3_doEnd_56 hM (fun g1 hM => ?_)
  refine v_aload_n C 0 dX3_doEnd_57 rfl rfl ?_
  refine gf_RX3_48 C hX hb_r0 dX3_doEnd_58 ?_
  refine v_bipush C (nI 48) dX3_doEnd_61 zkb_48 ?_
  refine v_icmp_ge C 136 dX3_doEnd_63 rfl hM (fun hM => ?_) (fun hM => ?_)
  · exact v_weak (t_X3_doEnd_b136 hX C hr hb_r2  hM) (show zsub [none, none, some (.inr (.inl (5, r2))), none, none] [some (.inr (.inl (3, r0))), some (.inl v1), some (.inr (.inl (5, r2))), some (.inl v3), none] from ⟨rfl, trivial⟩)
  · refine v_aload_n C 0 dX3_doEnd_66 rfl rfl ?_
    refine gf_RX3_48 C hX hb_r0 dX3_doEnd_67 ?_
    refine v_iconst C (nI 4) dX3_doEnd_70 zk_4 ?_
    refine v_imul C dX3_doEnd_71 ?_
    refine v_istore (L' := [some (.inr (.inl (3, r0))), some (.inl v1), some (.inr (.inl (5, r2))), some (.inl v3), some (.inl ((g1 7003 r0 0) * (nI 4)))]) C 4 dX3_doEnd_72 (by decide) rfl ?_
    refine v_aload_n C 0 dX3_doEnd_74 rfl rfl ?_
    refine gf_RX3_30 C hX hb_r0 dX3_doEnd_75 ?_
    refine v_iload C 4 dX3_doEnd_78 rfl ?_
    refine v_iload_n C 1 dX3_doEnd_80 rfl rfl ?_
    refine is_21 C hX hb_r0 dX3_doEnd_81 hM (fun g2 hM => ?_)
    refine v_aload_n C 0 dX3_doEnd_82 rfl rfl ?_
    refine gf_RX3_30 C hX hb_r0 dX3_doEnd_83 ?_
    refine v_iload C 4 dX3_doEnd_86 rfl ?_
    refine v_iconst C (nI 1) dX3_doEnd_88 zk_1 ?_
    refine v_iadd C dX3_doEnd_89 ?_
    refine v_aload_n C 2 dX3_doEnd_90 rfl rfl ?_
    refine gf_RX3_151 C hX hb_r2 dX3_doEnd_91 ?_
    refine is_21 C hX hb_r0 dX3_doEnd_94 hM (fun g3 hM => ?_)
    refine v_aload_n C 0 dX3_doEnd_95 rfl rfl ?_
    refine gf_RX3_30 C hX hb_r0 dX3_doEnd_96 ?_
    refine v_iload C 4 dX3_doEnd_99 rfl ?_
    refine v_iconst C (nI 2) dX3_doEnd_101 zk_2 ?_
    refine v_iadd C dX3_doEnd_102 ?_
    refine v_aload_n C 0 dX3_doEnd_103 rfl rfl ?_
    refine gf_RX3_51 C hX hb_r0 dX3_doEnd_104 ?_
    refine is_21 C hX hb_r0 dX3_doEnd_107 hM (fun g4 hM => ?_)
    refine v_aload_n C 0 dX3_doEnd_108 rfl rfl ?_
    refine gf_RX3_30 C hX hb_r0 dX3_doEnd_109 ?_
    refine v_iload C 4 dX3_doEnd_112 rfl ?_
    refine v_iconst C (nI 3) dX3_doEnd_114 zk_3 ?_
    refine v_iadd C dX3_doEnd_115 ?_
    refine v_iload_n C 3 dX3_doEnd_116 rfl rfl ?_
    refine v_if_eq C 124 dX3_doEnd_117 rfl hM (fun hM => ?_) (fun hM => ?_)
    · refine v_iconst C (nI 0) dX3_doEnd_124 zk_0 ?_
      exact v_weak (t_X3_doEnd_b125 hX C hr hb_r0 hb_r2 hb_r0  hM) (show zsub [some (.inr (.inl (3, r0))), none, some (.inr (.inl (5, r2))), none, none] [some (.inr (.inl (3, r0))), some (.inl v1), some (.inr (.inl (5, r2))), some (.inl v3), some (.inl ((g1 7003 r0 0) * (nI 4)))] from ⟨rfl, ⟨rfl, trivial⟩⟩)
    · refine v_iconst C (nI 1) dX3_doEnd_120 zk_1 ?_
      refine v_goto C 125 dX3_doEnd_121 rfl ?_
      exact v_weak (t_X3_doEnd_b125 hX C hr hb_r0 hb_r2 hb_r0  hM) (show zsub [some (.inr (.inl (3, r0))), none, some (.inr (.inl (5, r2))), none, none] [some (.inr (.inl (3, r0))), some (.inl v1), some (.inr (.inl (5, r2))), some (.inl v3), some (.inl ((g1 7003 r0 0) * (nI 4)))] from ⟨rfl, ⟨rfl, trivial⟩⟩)

theorem t_X3_doEnd_b13 {r0 : Nat} {v1 : Int32} {r2 : Nat} {s0 : Int32}  {g : zG} (hX : zfl X = false) (C : Cx X p (zrm 1) s m args meth c cX3_doEnd 5 RX3 0 0) (hr : meth.sig.returnType = none) (hb_r0 : r0 < 3) (hb_r2 : r2 < 12)  (hM : X3_doEnd_b13  r0 v1 r2 s0 g = some (rr, gr)) : V X p l e (zrm 1) s m args below meth c 5 0 0 (MQ below (zQ X (Option.map (zM X) none) gr) args s 0 0 (zF X)) g 13 [some (.inr (.inl (3, r0))), some (.inl v1), some (.inr (.inl (5, r2))), none, none] [(.inl s0)] := by
  unfold X3_doEnd_b13 at hM
  refine v_istore_n (L' := [some (.inr (.inl (3, r0))), some (.inl v1), some (.inr (.inl (5, r2))), some (.inl s0), none]) C 3 dX3_doEnd_13 rfl (by decide) rfl ?_
  refine v_iload_n C 3 dX3_doEnd_14 rfl rfl ?_
  refine v_if_eq C 37 dX3_doEnd_15 rfl hM (fun hM => ?_) (fun hM => ?_)
  · refine v_aload_n C 0 dX3_doEnd_37 rfl rfl ?_
    refine gf_RX3_17 C hX hb_r0 dX3_doEnd_38 ?_
    refine v_iload_n C 1 dX3_doEnd_41 rfl rfl ?_
    refine aa_18 C hX hb_r0 dX3_doEnd_42 hM (fun hM hj1 => ?_)
    have hb2 : (4 * r0 + v1.toNatClampNeg) < 12 := zix hb_r0 hj1
    refine v_iconst C (nI 0) dX3_doEnd_43 zk_0 ?_
    obtain ⟨x3, g4, e5, hM⟩ := zc_elim hM
    refine v_callVNv (ci := 0) (rest := []) C (c_X0_unmark hX hb2 e5) mw_X0_unmark mi_X0_unmark ml_RX3_189 hX.symm (zm4 hb2) rfl rfl ⟨by decide, Nat.le_of_ble_eq_true rfl⟩ rfl (Nat.le_of_ble_eq_true rfl) dX3_doEnd_44 rfl ?_
    exact t_X3_doEnd_b47 hX C hr hb_r0 hb_r2  hM
  · refine v_aload_n C 0 dX3_doEnd_18 rfl rfl ?_
    refine v_bipush C (-2) dX3_doEnd_19 zkb_m2 ?_
    refine pf_RX3_54 C hX hb_r0 dX3_doEnd_21 hM (fun g6 hM => ?_)
    refine v_aload_n C 2 dX3_doEnd_24 rfl rfl ?_
    refine gf_RX3_127 C hX hb_r2 dX3_doEnd_25 ?_
    refine v_iconst C (nI 5) dX3_doEnd_28 zk_5 ?_
    refine v_dup2 C dX3_doEnd_29 ?_
    refine ia_28 C hX hb_r2 dX3_doEnd_30 hM (fun hM _ => ?_)
    refine v_iconst C (nI 1) dX3_doEnd_31 zk_1 ?_
    refine v_iadd C dX3_doEnd_32 ?_
    refine is_28 C hX hb_r2 dX3_doEnd_33 hM (fun g7 hM => ?_)
    refine v_goto C 47 dX3_doEnd_34 rfl ?_
    exact t_X3_doEnd_b47 hX C hr hb_r0 hb_r2  hM

theorem c_X3_doEnd {X : zX} (hX : zfl X = false) {r0 : Nat} {v1 : Int32} {r2 : Nat} {g gr : zG} {rr : Int32} (hb_r0 : r0 < 3) (hb_r2 : r2 < 12) (hM : X3_doEnd r0 v1 r2 g = some (rr, gr)) : MC X yX3_doEnd cX3_doEnd 5 none 1 [.inr (.inl (3, r0)), .inl v1, .inr (.inl (5, r2))] none g gr := by
  refine MC.mk (own := RX3) (L := [some (.inr (.inl (3, r0))), some (.inl v1), some (.inr (.inl (5, r2))), none, none]) (by decide) rfl trivial (Nat.le_of_ble_eq_true rfl) rfl ?_
  intro p l e s m args below meth c C hr
  unfold X3_doEnd at hM
  refine v_aload_n C 2 dX3_doEnd_0 rfl rfl ?_
  refine gf_RX3_141 C hX hb_r2 dX3_doEnd_1 ?_
  refine v_iconst C (nI 2) dX3_doEnd_4 zk_2 ?_
  refine v_icmp_ne C 12 dX3_doEnd_5 rfl hM (fun hM => ?_) (fun hM => ?_)
  · refine v_iconst C (nI 0) dX3_doEnd_12 zk_0 ?_
    exact t_X3_doEnd_b13 hX C hr hb_r0 hb_r2  hM
  · refine v_iconst C (nI 1) dX3_doEnd_8 zk_1 ?_
    refine v_goto C 13 dX3_doEnd_9 rfl ?_
    exact t_X3_doEnd_b13 hX C hr hb_r0 hb_r2  hM

theorem t_X3_doGet_b62 {r0 : Nat} {v1 : Int32} {r2 : Nat} {v3 : Int32} {v4 : Int32}  {g : zG} (hX : zfl X = false) (C : Cx X p (zrm 4) s m args meth c cX3_doGet 6 RX3 0 0) (hr : meth.sig.returnType = (some .int)) (hb_r0 : r0 < 3) (hb_r2 : r2 < 12)  (hM : X3_doGet_b62  r0 v1 r2 v3 v4 g = some (rr, gr)) : V X p l e (zrm 4) s m args below meth c 6 0 0 (MQ below (zQ X (Option.map (zM X) (some (.inl rr))) gr) args s 0 0 (zF X)) g 62 [some (.inr (.inl (3, r0))), some (.inl v1), some (.inr (.inl (5, r2))), some (.inl v3), some (.inl v4), none] [] := by
  unfold X3_doGet_b62 at hM
  refine v_aload_n C 2 dX3_doGet_62 rfl rfl ?_
  refine v_aload_n C 0 dX3_doGet_63 rfl rfl ?_
  refine gf_RX3_17 C hX hb_r0 dX3_doGet_64 ?_
  refine v_iload_n C 1 dX3_doGet_67 rfl rfl ?_
  refine aa_18 C hX hb_r0 dX3_doGet_68 hM (fun hM hj1 => ?_)
  have hb2 : (4 * r0 + v1.toNatClampNeg) < 12 := zix hb_r0 hj1
  refine v_aload_n C 0 dX3_doGet_69 rfl rfl ?_
  refine gf_RX3_17 C hX hb_r0 dX3_doGet_70 ?_
  refine v_iload_n C 1 dX3_doGet_73 rfl rfl ?_
  refine aa_18 C hX hb_r0 dX3_doGet_74 hM (fun hM hj3 => ?_)
  have hb4 : (4 * r0 + v1.toNatClampNeg) < 12 := zix hb_r0 hj3
  refine v_iload C 4 dX3_doGet_75 rfl ?_
  obtain ⟨x5, g6, e7, hM⟩ := zc_elim hM
  refine v_callVNi (ci := 0) (rest := [(.inr (.inl (4, (4 * r0 + v1.toNatClampNeg)))), (.inr (.inl (5, r2)))]) C (c_X0_find hX hb4 e7) mw_X0_find mi_X0_find ml_RX3_165 hX.symm (zm4 hb4) rfl rfl ⟨by decide, Nat.le_of_ble_eq_true rfl⟩ rfl (Nat.le_of_ble_eq_true rfl) dX3_doGet_77 rfl ?_
  refine v_aload_n C 0 dX3_doGet_80 rfl rfl ?_
  refine gf_RX3_33 C hX hb_r0 dX3_doGet_81 ?_
  refine v_iload_n C 3 dX3_doGet_84 rfl rfl ?_
  obtain ⟨x8, g9, e10, hM⟩ := zc_elim hM
  refine v_callVNi (ci := 2) (rest := [(.inl x5), (.inr (.inl (4, (4 * r0 + v1.toNatClampNeg)))), (.inr (.inl (5, r2)))]) C (c_X2_offsetOf hX (by decide) e10) mw_X2_offsetOf mi_X2_offsetOf ml_RX3_168 hX.symm (zm1 (by decide)) rfl rfl ⟨by decide, Nat.le_of_ble_eq_true rfl⟩ rfl (Nat.le_of_ble_eq_true rfl) dX3_doGet_85 rfl ?_
  obtain ⟨x11, g12, e13, hM⟩ := zc_elim hM
  refine v_callVNi (ci := 0) (rest := [(.inr (.inl (5, r2)))]) C (c_X0_wordIn hX hb2 e13) mw_X0_wordIn mi_X0_wordIn ml_RX3_171 hX.symm (zm4 hb2) rfl rfl ⟨by decide, Nat.le_of_ble_eq_true rfl⟩ rfl (Nat.le_of_ble_eq_true rfl) dX3_doGet_88 rfl ?_
  refine pf_RX3_110 C hX hb_r2 dX3_doGet_91 hM (fun g14 hM => ?_)
  refine v_iconst C (nI 1) dX3_doGet_94 zk_1 ?_
  exact v_iret2 C hr dX3_doGet_95 hM

theorem c_X3_doGet {X : zX} (hX : zfl X = false) {r0 : Nat} {v1 : Int32} {r2 : Nat} {g gr : zG} {rr : Int32} (hb_r0 : r0 < 3) (hb_r2 : r2 < 12) (hM : X3_doGet r0 v1 r2 g = some (rr, gr)) : MC X yX3_doGet cX3_doGet 6 (some .int) 4 [.inr (.inl (3, r0)), .inl v1, .inr (.inl (5, r2))] (some (.inl rr)) g gr := by
  refine MC.mk (own := RX3) (L := [some (.inr (.inl (3, r0))), some (.inl v1), some (.inr (.inl (5, r2))), none, none, none]) (by decide) rfl trivial (Nat.le_of_ble_eq_true rfl) rfl ?_
  intro p l e s m args below meth c C hr
  unfold X3_doGet at hM
  refine v_aload_n C 0 dX3_doGet_0 rfl rfl ?_
  refine gf_RX3_33 C hX hb_r0 dX3_doGet_1 ?_
  refine v_iload_n C 1 dX3_doGet_4 rfl rfl ?_
  refine v_aload_n C 2 dX3_doGet_5 rfl rfl ?_
  refine gf_RX3_86 C hX hb_r2 dX3_doGet_6 ?_
  refine v_aload_n C 2 dX3_doGet_9 rfl rfl ?_
  refine gf_RX3_113 C hX hb_r2 dX3_doGet_10 ?_
  obtain ⟨x1, g2, e3, hM⟩ := zc_elim hM
  refine v_callVNi (ci := 2) (rest := []) C (c_X2_addressOf hX (by decide) e3) mw_X2_addressOf mi_X2_addressOf ml_RX3_157 hX.symm (zm1 (by decide)) rfl rfl ⟨by decide, Nat.le_of_ble_eq_true rfl⟩ rfl (Nat.le_of_ble_eq_true rfl) dX3_doGet_13 rfl ?_
  refine v_istore_n (L' := [some (.inr (.inl (3, r0))), some (.inl v1), some (.inr (.inl (5, r2))), some (.inl x1), none, none]) C 3 dX3_doGet_16 rfl (by decide) rfl ?_
  refine v_aload_n C 0 dX3_doGet_17 rfl rfl ?_
  refine gf_RX3_33 C hX hb_r0 dX3_doGet_18 ?_
  refine v_iload_n C 3 dX3_doGet_21 rfl rfl ?_
  obtain ⟨x4, g5, e6, hM⟩ := zc_elim hM
  refine v_callVNi (ci := 2) (rest := []) C (c_X2_lineOf hX (by decide) e6) mw_X2_lineOf mi_X2_lineOf ml_RX3_161 hX.symm (zm1 (by decide)) rfl rfl ⟨by decide, Nat.le_of_ble_eq_true rfl⟩ rfl (Nat.le_of_ble_eq_true rfl) dX3_doGet_22 rfl ?_
  refine v_istore (L' := [some (.inr (.inl (3, r0))), some (.inl v1), some (.inr (.inl (5, r2))), some (.inl x1), some (.inl x4), none]) C 4 dX3_doGet_25 (by decide) rfl ?_
  refine v_aload_n C 0 dX3_doGet_27 rfl rfl ?_
  refine v_iload_n C 1 dX3_doGet_28 rfl rfl ?_
  refine v_iload C 4 dX3_doGet_29 rfl ?_
  refine v_iconst C (nI 0) dX3_doGet_31 zk_0 ?_
  obtain ⟨x7, g8, e9, hM⟩ := zc_elim hM
  refine v_callVi (ci := 3) (rest := []) C (c_X3_reach hX hb_r0 e9) mw_X3_reach mi_X3_reach ml_RX3_133 hX.symm (zm3 hb_r0) rfl rfl ⟨by decide, Nat.le_of_ble_eq_true rfl⟩ rfl (Nat.le_of_ble_eq_true rfl) dX3_doGet_32 rfl ?_
  refine v_istore (L' := [some (.inr (.inl (3, r0))), some (.inl v1), some (.inr (.inl (5, r2))), some (.inl x1), some (.inl x4), some (.inl x7)]) C 5 dX3_doGet_35 (by decide) rfl ?_
  refine v_iload C 5 dX3_doGet_37 rfl ?_
  refine v_iconst C (nI 1) dX3_doGet_39 zk_1 ?_
  refine v_icmp_eq C 46 dX3_doGet_40 rfl hM (fun hM => ?_) (fun hM => ?_)
  · refine v_aload_n C 2 dX3_doGet_46 rfl rfl ?_
    refine gf_RX3_141 C hX hb_r2 dX3_doGet_47 ?_
    refine v_iconst C (nI 1) dX3_doGet_50 zk_1 ?_
    refine v_icmp_ne C 62 dX3_doGet_51 rfl hM (fun hM => ?_) (fun hM => ?_)
    · exact v_weak (t_X3_doGet_b62 hX C hr hb_r0 hb_r2  hM) (show zsub [some (.inr (.inl (3, r0))), some (.inl v1), some (.inr (.inl (5, r2))), some (.inl x1), some (.inl x4), none] [some (.inr (.inl (3, r0))), some (.inl v1), some (.inr (.inl (5, r2))), some (.inl x1), some (.inl x4), some (.inl x7)] from ⟨rfl, ⟨rfl, ⟨rfl, ⟨rfl, ⟨rfl, trivial⟩⟩⟩⟩⟩)
    · refine v_aload_n C 0 dX3_doGet_54 rfl rfl ?_
      refine v_iload_n C 1 dX3_doGet_55 rfl rfl ?_
      refine v_iload C 4 dX3_doGet_56 rfl ?_
      refine v_iconst C (nI 0) dX3_doGet_58 zk_0 ?_
      obtain ⟨x10, g11, e12, hM⟩ := zc_elim hM
      refine v_callVv (ci := 3) (rest := []) C (c_X3_markLine hX hb_r0 e12) mw_X3_markLine mi_X3_markLine ml_RX3_137 hX.symm (zm3 hb_r0) rfl rfl ⟨by decide, Nat.le_of_ble_eq_true rfl⟩ rfl (Nat.le_of_ble_eq_true rfl) dX3_doGet_59 rfl ?_
      exact v_weak (t_X3_doGet_b62 hX C hr hb_r0 hb_r2  hM) (show zsub [some (.inr (.inl (3, r0))), some (.inl v1), some (.inr (.inl (5, r2))), some (.inl x1), some (.inl x4), none] [some (.inr (.inl (3, r0))), some (.inl v1), some (.inr (.inl (5, r2))), some (.inl x1), some (.inl x4), some (.inl x7)] from ⟨rfl, ⟨rfl, ⟨rfl, ⟨rfl, ⟨rfl, trivial⟩⟩⟩⟩⟩)
  · refine v_iload C 5 dX3_doGet_43 rfl ?_
    exact v_iret2 C hr dX3_doGet_45 hM

theorem t_X3_doPut_b133 {r0 : Nat} {r2 : Nat} {r3 : Nat} {v4 : Int32} {v9 : Int32}  {g : zG} (hX : zfl X = false) (C : Cx X p (zrm 4) s m args meth c cX3_doPut 10 RX3 0 0) (hr : meth.sig.returnType = (some .int)) (hb_r0 : r0 < 3) (hb_r2 : r2 < 12) (hb_r3 : r3 < 12)  (hM : X3_doPut_b133  r0 r2 r3 v4 v9 g = some (rr, gr)) : V X p l e (zrm 4) s m args below meth c 10 0 0 (MQ below (zQ X (Option.map (zM X) (some (.inl rr))) gr) args s 0 0 (zF X)) g 133 [some (.inr (.inl (3, r0))), none, some (.inr (.inl (5, r2))), some (.inr (.inl (4, r3))), some (.inl v4), none, none, none, none, some (.inl v9)] [] := by
  unfold X3_doPut_b133 at hM
  refine v_aload_n C 3 dX3_doPut_133 rfl rfl ?_
  refine v_iload C 9 dX3_doPut_134 rfl ?_
  refine v_aload_n C 0 dX3_doPut_136 rfl rfl ?_
  refine gf_RX3_33 C hX hb_r0 dX3_doPut_137 ?_
  refine v_iload C 4 dX3_doPut_140 rfl ?_
  obtain ⟨x1, g2, e3, hM⟩ := zc_elim hM
  refine v_callVNi (ci := 2) (rest := [(.inl v9), (.inr (.inl (4, r3)))]) C (c_X2_offsetOf hX (by decide) e3) mw_X2_offsetOf mi_X2_offsetOf ml_RX3_168 hX.symm (zm1 (by decide)) rfl rfl ⟨by decide, Nat.le_of_ble_eq_true rfl⟩ rfl (Nat.le_of_ble_eq_true rfl) dX3_doPut_142 rfl ?_
  refine v_aload_n C 2 dX3_doPut_145 rfl rfl ?_
  refine gf_RX3_110 C hX hb_r2 dX3_doPut_146 ?_
  obtain ⟨x4, g5, e6, hM⟩ := zc_elim hM
  refine v_callVNv (ci := 0) (rest := []) C (c_X0_setWord hX hb_r3 e6) mw_X0_setWord mi_X0_setWord ml_RX3_185 hX.symm (zm4 hb_r3) rfl rfl ⟨by decide, Nat.le_of_ble_eq_true rfl⟩ rfl (Nat.le_of_ble_eq_true rfl) dX3_doPut_149 rfl ?_
  refine v_iconst C (nI 1) dX3_doPut_152 zk_1 ?_
  exact v_iret2 C hr dX3_doPut_153 hM

theorem t_X3_doPut_b125 {r0 : Nat} {v1 : Int32} {r2 : Nat} {r3 : Nat} {v4 : Int32} {v5 : Int32} {v9 : Int32}  {g : zG} (hX : zfl X = false) (C : Cx X p (zrm 4) s m args meth c cX3_doPut 10 RX3 0 0) (hr : meth.sig.returnType = (some .int)) (hb_r0 : r0 < 3) (hb_r2 : r2 < 12) (hb_r3 : r3 < 12)  (hM : X3_doPut_b125  r0 v1 r2 r3 v4 v5 v9 g = some (rr, gr)) : V X p l e (zrm 4) s m args below meth c 10 0 0 (MQ below (zQ X (Option.map (zM X) (some (.inl rr))) gr) args s 0 0 (zF X)) g 125 [some (.inr (.inl (3, r0))), some (.inl v1), some (.inr (.inl (5, r2))), some (.inr (.inl (4, r3))), some (.inl v4), some (.inl v5), none, none, none, some (.inl v9)] [] := by
  unfold X3_doPut_b125 at hM
  refine v_aload_n C 0 dX3_doPut_125 rfl rfl ?_
  refine v_iload_n C 1 dX3_doPut_126 rfl rfl ?_
  refine v_iload C 5 dX3_doPut_127 rfl ?_
  refine v_iconst C (nI 1) dX3_doPut_129 zk_1 ?_
  obtain ⟨x1, g2, e3, hM⟩ := zc_elim hM
  refine v_callVv (ci := 3) (rest := []) C (c_X3_markLine hX hb_r0 e3) mw_X3_markLine mi_X3_markLine ml_RX3_137 hX.symm (zm3 hb_r0) rfl rfl ⟨by decide, Nat.le_of_ble_eq_true rfl⟩ rfl (Nat.le_of_ble_eq_true rfl) dX3_doPut_130 rfl ?_
  exact v_weak (t_X3_doPut_b133 hX C hr hb_r0 hb_r2 hb_r3  hM) (show zsub [some (.inr (.inl (3, r0))), none, some (.inr (.inl (5, r2))), some (.inr (.inl (4, r3))), some (.inl v4), none, none, none, none, some (.inl v9)] [some (.inr (.inl (3, r0))), some (.inl v1), some (.inr (.inl (5, r2))), some (.inr (.inl (4, r3))), some (.inl v4), some (.inl v5), none, none, none, some (.inl v9)] from ⟨rfl, ⟨rfl, ⟨rfl, ⟨rfl, ⟨rfl, trivial⟩⟩⟩⟩⟩)

theorem t_X3_doPut_b76 {r0 : Nat} {v1 : Int32} {r2 : Nat} {r3 : Nat} {v4 : Int32} {v5 : Int32} {s0 : Int32}  {g : zG} (hX : zfl X = false) (C : Cx X p (zrm 4) s m args meth c cX3_doPut 10 RX3 0 0) (hr : meth.sig.returnType = (some .int)) (hb_r0 : r0 < 3) (hb_r2 : r2 < 12) (hb_r3 : r3 < 12)  (hM : X3_doPut_b76  r0 v1 r2 r3 v4 v5 s0 g = some (rr, gr)) : V X p l e (zrm 4) s m args below meth c 10 0 0 (MQ below (zQ X (Option.map (zM X) (some (.inl rr))) gr) args s 0 0 (zF X)) g 76 [some (.inr (.inl (3, r0))), some (.inl v1), some (.inr (.inl (5, r2))), some (.inr (.inl (4, r3))), some (.inl v4), some (.inl v5), none, none, none, none] [(.inl s0)] := by
  unfold X3_doPut_b76 at hM
  refine v_istore (L' := [some (.inr (.inl (3, r0))), some (.inl v1), some (.inr (.inl (5, r2))), some (.inr (.inl (4, r3))), some (.inl v4), some (.inl v5), none, some (.inl s0), none, none]) C 7 dX3_doPut_76 (by decide) rfl ?_
  refine v_aload_n C 0 dX3_doPut_78 rfl rfl ?_
  refine v_iload_n C 1 dX3_doPut_79 rfl rfl ?_
  refine v_iload C 5 dX3_doPut_80 rfl ?_
  refine v_iconst C (nI 1) dX3_doPut_82 zk_1 ?_
  obtain ⟨x1, g2, e3, hM⟩ := zc_elim hM
  refine v_callVi (ci := 3) (rest := []) C (c_X3_reach hX hb_r0 e3) mw_X3_reach mi_X3_reach ml_RX3_133 hX.symm (zm3 hb_r0) rfl rfl ⟨by decide, Nat.le_of_ble_eq_true rfl⟩ rfl (Nat.le_of_ble_eq_true rfl) dX3_doPut_83 rfl ?_
  refine v_istore (L' := [some (.inr (.inl (3, r0))), some (.inl v1), some (.inr (.inl (5, r2))), some (.inr (.inl (4, r3))), some (.inl v4), some (.inl v5), none, some (.inl s0), some (.inl x1), none]) C 8 dX3_doPut_86 (by decide) rfl ?_
  refine v_iload C 8 dX3_doPut_88 rfl ?_
  refine v_iconst C (nI 1) dX3_doPut_90 zk_1 ?_
  refine v_icmp_eq C 97 dX3_doPut_91 rfl hM (fun hM => ?_) (fun hM => ?_)
  · refine v_aload_n C 3 dX3_doPut_97 rfl rfl ?_
    refine v_iload C 5 dX3_doPut_98 rfl ?_
    obtain ⟨x4, g5, e6, hM⟩ := zc_elim hM
    refine v_callVNi (ci := 0) (rest := []) C (c_X0_find hX hb_r3 e6) mw_X0_find mi_X0_find ml_RX3_165 hX.symm (zm4 hb_r3) rfl rfl ⟨by decide, Nat.le_of_ble_eq_true rfl⟩ rfl (Nat.le_of_ble_eq_true rfl) dX3_doPut_100 rfl ?_
    refine v_istore (L' := [some (.inr (.inl (3, r0))), some (.inl v1), some (.inr (.inl (5, r2))), some (.inr (.inl (4, r3))), some (.inl v4), some (.inl v5), none, some (.inl s0), some (.inl x1), some (.inl x4)]) C 9 dX3_doPut_103 (by decide) rfl ?_
    refine v_aload_n C 2 dX3_doPut_105 rfl rfl ?_
    refine gf_RX3_141 C hX hb_r2 dX3_doPut_106 ?_
    refine v_iconst C (nI 1) dX3_doPut_109 zk_1 ?_
    refine v_icmp_ne C 133 dX3_doPut_110 rfl hM (fun hM => ?_) (fun hM => ?_)
    · exact v_weak (t_X3_doPut_b133 hX C hr hb_r0 hb_r2 hb_r3  hM) (show zsub [some (.inr (.inl (3, r0))), none, some (.inr (.inl (5, r2))), some (.inr (.inl (4, r3))), some (.inl v4), none, none, none, none, some (.inl x4)] [some (.inr (.inl (3, r0))), some (.inl v1), some (.inr (.inl (5, r2))), some (.inr (.inl (4, r3))), some (.inl v4), some (.inl v5), none, some (.inl s0), some (.inl x1), some (.inl x4)] from ⟨rfl, ⟨rfl, ⟨rfl, ⟨rfl, ⟨rfl, trivial⟩⟩⟩⟩⟩)
    · refine v_iload C 7 dX3_doPut_113 rfl ?_
      refine v_if_eq C 125 dX3_doPut_115 rfl hM (fun hM => ?_) (fun hM => ?_)
      · exact v_weak (t_X3_doPut_b125 hX C hr hb_r0 hb_r2 hb_r3  hM) (show zsub [some (.inr (.inl (3, r0))), some (.inl v1), some (.inr (.inl (5, r2))), some (.inr (.inl (4, r3))), some (.inl v4), some (.inl v5), none, none, none, some (.inl x4)] [some (.inr (.inl (3, r0))), some (.inl v1), some (.inr (.inl (5, r2))), some (.inr (.inl (4, r3))), some (.inl v4), some (.inl v5), none, some (.inl s0), some (.inl x1), some (.inl x4)] from ⟨rfl, ⟨rfl, ⟨rfl, ⟨rfl, ⟨rfl, ⟨rfl, ⟨rfl, trivial⟩⟩⟩⟩⟩⟩⟩)
      · refine v_aload_n C 0 dX3_doPut_118 rfl rfl ?_
        refine v_aload_n C 3 dX3_doPut_119 rfl rfl ?_
        refine v_iload C 9 dX3_doPut_120 rfl ?_
        obtain ⟨x7, g8, e9, hM⟩ := zc_elim hM
        refine v_callVv (ci := 3) (rest := []) C (c_X3_writeBack hX hb_r0 hb_r3 e9) mw_X3_writeBack mi_X3_writeBack ml_RX3_181 hX.symm (zm3 hb_r0) rfl rfl ⟨by decide, Nat.le_of_ble_eq_true rfl⟩ rfl (Nat.le_of_ble_eq_true rfl) dX3_doPut_122 rfl ?_
        exact v_weak (t_X3_doPut_b125 hX C hr hb_r0 hb_r2 hb_r3  hM) (show zsub [some (.inr (.inl (3, r0))), some (.inl v1), some (.inr (.inl (5, r2))), some (.inr (.inl (4, r3))), some (.inl v4), some (.inl v5), none, none, none, some (.inl x4)] [some (.inr (.inl (3, r0))), some (.inl v1), some (.inr (.inl (5, r2))), some (.inr (.inl (4, r3))), some (.inl v4), some (.inl v5), none, some (.inl s0), some (.inl x1), some (.inl x4)] from ⟨rfl, ⟨rfl, ⟨rfl, ⟨rfl, ⟨rfl, ⟨rfl, ⟨rfl, trivial⟩⟩⟩⟩⟩⟩⟩)
  · refine v_iload C 8 dX3_doPut_94 rfl ?_
    exact v_iret2 C hr dX3_doPut_96 hM

theorem t_X3_doPut_b75 {r0 : Nat} {v1 : Int32} {r2 : Nat} {r3 : Nat} {v4 : Int32} {v5 : Int32}  {g : zG} (hX : zfl X = false) (C : Cx X p (zrm 4) s m args meth c cX3_doPut 10 RX3 0 0) (hr : meth.sig.returnType = (some .int)) (hb_r0 : r0 < 3) (hb_r2 : r2 < 12) (hb_r3 : r3 < 12)  (hM : X3_doPut_b75  r0 v1 r2 r3 v4 v5 g = some (rr, gr)) : V X p l e (zrm 4) s m args below meth c 10 0 0 (MQ below (zQ X (Option.map (zM X) (some (.inl rr))) gr) args s 0 0 (zF X)) g 75 [some (.inr (.inl (3, r0))), some (.inl v1), some (.inr (.inl (5, r2))), some (.inr (.inl (4, r3))), some (.inl v4), some (.inl v5), none, none, none, none] [] := by
  unfold X3_doPut_b75 at hM
  refine v_iconst C (nI 0) dX3_doPut_75 zk_0 ?_
  exact t_X3_doPut_b76 hX C hr hb_r0 hb_r2 hb_r3  hM

theorem c_X3_doPut {X : zX} (hX : zfl X = false) {r0 : Nat} {v1 : Int32} {r2 : Nat} {g gr : zG} {rr : Int32} (hb_r0 : r0 < 3) (hb_r2 : r2 < 12) (hM : X3_doPut r0 v1 r2 g = some (rr, gr)) : MC X yX3_doPut cX3_doPut 10 (some .int) 4 [.inr (.inl (3, r0)), .inl v1, .inr (.inl (5, r2))] (some (.inl rr)) g gr := by
  refine MC.mk (own := RX3) (L := [some (.inr (.inl (3, r0))), some (.inl v1), some (.inr (.inl (5, r2))), none, none, none, none, none, none, none]) (by decide) rfl trivial (Nat.le_of_ble_eq_true rfl) rfl ?_
  intro p l e s m args below meth c C hr
  unfold X3_doPut at hM
  refine v_aload_n C 0 dX3_doPut_0 rfl rfl ?_
  refine gf_RX3_17 C hX hb_r0 dX3_doPut_1 ?_
  refine v_iload_n C 1 dX3_doPut_4 rfl rfl ?_
  refine aa_18 C hX hb_r0 dX3_doPut_5 hM (fun hM hj1 => ?_)
  have hb2 : (4 * r0 + v1.toNatClampNeg) < 12 := zix hb_r0 hj1
  refine v_astore_n (L' := [some (.inr (.inl (3, r0))), some (.inl v1), some (.inr (.inl (5, r2))), some (.inr (.inl (4, (4 * r0 + v1.toNatClampNeg)))), none, none, none, none, none, none]) C 3 dX3_doPut_6 rfl (by decide) rfl ?_
  refine v_aload_n C 0 dX3_doPut_7 rfl rfl ?_
  refine gf_RX3_33 C hX hb_r0 dX3_doPut_8 ?_
  refine v_iload_n C 1 dX3_doPut_11 rfl rfl ?_
  refine v_aload_n C 2 dX3_doPut_12 rfl rfl ?_
  refine gf_RX3_86 C hX hb_r2 dX3_doPut_13 ?_
  refine v_aload_n C 2 dX3_doPut_16 rfl rfl ?_
  refine gf_RX3_113 C hX hb_r2 dX3_doPut_17 ?_
  obtain ⟨x3, g4, e5, hM⟩ := zc_elim hM
  refine v_callVNi (ci := 2) (rest := []) C (c_X2_addressOf hX (by decide) e5) mw_X2_addressOf mi_X2_addressOf ml_RX3_157 hX.symm (zm1 (by decide)) rfl rfl ⟨by decide, Nat.le_of_ble_eq_true rfl⟩ rfl (Nat.le_of_ble_eq_true rfl) dX3_doPut_20 rfl ?_
  refine v_istore (L' := [some (.inr (.inl (3, r0))), some (.inl v1), some (.inr (.inl (5, r2))), some (.inr (.inl (4, (4 * r0 + v1.toNatClampNeg)))), some (.inl x3), none, none, none, none, none]) C 4 dX3_doPut_23 (by decide) rfl ?_
  refine v_aload_n C 0 dX3_doPut_25 rfl rfl ?_
  refine gf_RX3_33 C hX hb_r0 dX3_doPut_26 ?_
  refine v_iload C 4 dX3_doPut_29 rfl ?_
  obtain ⟨x6, g7, e8, hM⟩ := zc_elim hM
  refine v_callVNi (ci := 2) (rest := []) C (c_X2_lineOf hX (by decide) e8) mw_X2_lineOf mi_X2_lineOf ml_RX3_161 hX.symm (zm1 (by decide)) rfl rfl ⟨by decide, Nat.le_of_ble_eq_true rfl⟩ rfl (Nat.le_of_ble_eq_true rfl) dX3_doPut_31 rfl ?_
  refine v_istore (L' := [some (.inr (.inl (3, r0))), some (.inl v1), some (.inr (.inl (5, r2))), some (.inr (.inl (4, (4 * r0 + v1.toNatClampNeg)))), some (.inl x3), some (.inl x6), none, none, none, none]) C 5 dX3_doPut_34 (by decide) rfl ?_
  refine v_aload_n C 3 dX3_doPut_36 rfl rfl ?_
  refine v_iload C 5 dX3_doPut_37 rfl ?_
  obtain ⟨x9, g10, e11, hM⟩ := zc_elim hM
  refine v_callVNi (ci := 0) (rest := []) C (c_X0_find hX hb2 e11) mw_X0_find mi_X0_find ml_RX3_165 hX.symm (zm4 hb2) rfl rfl ⟨by decide, Nat.le_of_ble_eq_true rfl⟩ rfl (Nat.le_of_ble_eq_true rfl) dX3_doPut_39 rfl ?_
  refine v_istore (L' := [some (.inr (.inl (3, r0))), some (.inl v1), some (.inr (.inl (5, r2))), some (.inr (.inl (4, (4 * r0 + v1.toNatClampNeg)))), some (.inl x3), some (.inl x6), some (.inl x9), none, none, none]) C 6 dX3_doPut_42 (by decide) rfl ?_
  refine v_iload C 6 dX3_doPut_44 rfl ?_
  refine v_iconst C (-1) dX3_doPut_46 zk_m1 ?_
  refine v_icmp_eq C 75 dX3_doPut_47 rfl hM (fun hM => ?_) (fun hM => ?_)
  · exact v_weak (t_X3_doPut_b75 hX C hr hb_r0 hb_r2 hb2  hM) (show zsub [some (.inr (.inl (3, r0))), some (.inl v1), some (.inr (.inl (5, r2))), some (.inr (.inl (4, (4 * r0 + v1.toNatClampNeg)))), some (.inl x3), some (.inl x6), none, none, none, none] [some (.inr (.inl (3, r0))), some (.inl v1), some (.inr (.inl (5, r2))), some (.inr (.inl (4, (4 * r0 + v1.toNatClampNeg)))), some (.inl x3), some (.inl x6), some (.inl x9), none, none, none] from ⟨rfl, ⟨rfl, ⟨rfl, ⟨rfl, ⟨rfl, ⟨rfl, trivial⟩⟩⟩⟩⟩⟩)
  · refine v_aload_n C 3 dX3_doPut_50 rfl rfl ?_
    refine gf_RX3_174 C hX hb2 dX3_doPut_51 ?_
    refine v_iload C 6 dX3_doPut_54 rfl ?_
    refine ia_23 C hX hb2 dX3_doPut_56 hM (fun hM _ => ?_)
    refine v_iconst C (nI 3) dX3_doPut_57 zk_3 ?_
    refine v_icmp_ne C 75 dX3_doPut_58 rfl hM (fun hM => ?_) (fun hM => ?_)
    · exact v_weak (t_X3_doPut_b75 hX C hr hb_r0 hb_r2 hb2  hM) (show zsub [some (.inr (.inl (3, r0))), some (.inl v1), some (.inr (.inl (5, r2))), some (.inr (.inl (4, (4 * r0 + v1.toNatClampNeg)))), some (.inl x3), some (.inl x6), none, none, none, none] [some (.inr (.inl (3, r0))), some (.inl v1), some (.inr (.inl (5, r2))), some (.inr (.inl (4, (4 * r0 + v1.toNatClampNeg)))), some (.inl x3), some (.inl x6), some (.inl x9), none, none, none] from ⟨rfl, ⟨rfl, ⟨rfl, ⟨rfl, ⟨rfl, ⟨rfl, trivial⟩⟩⟩⟩⟩⟩)
    · refine v_aload_n C 3 dX3_doPut_61 rfl rfl ?_
      refine gf_RX3_177 C hX hb2 dX3_doPut_62 ?_
      refine v_iload C 6 dX3_doPut_65 rfl ?_
      refine ia_25 C hX hb2 dX3_doPut_67 hM (fun hM _ => ?_)
      refine v_if_ne C 75 dX3_doPut_68 rfl hM (fun hM => ?_) (fun hM => ?_)
      · exact v_weak (t_X3_doPut_b75 hX C hr hb_r0 hb_r2 hb2  hM) (show zsub [some (.inr (.inl (3, r0))), some (.inl v1), some (.inr (.inl (5, r2))), some (.inr (.inl (4, (4 * r0 + v1.toNatClampNeg)))), some (.inl x3), some (.inl x6), none, none, none, none] [some (.inr (.inl (3, r0))), some (.inl v1), some (.inr (.inl (5, r2))), some (.inr (.inl (4, (4 * r0 + v1.toNatClampNeg)))), some (.inl x3), some (.inl x6), some (.inl x9), none, none, none] from ⟨rfl, ⟨rfl, ⟨rfl, ⟨rfl, ⟨rfl, ⟨rfl, trivial⟩⟩⟩⟩⟩⟩)
      · refine v_iconst C (nI 1) dX3_doPut_71 zk_1 ?_
        refine v_goto C 76 dX3_doPut_72 rfl ?_
        exact v_weak (t_X3_doPut_b76 hX C hr hb_r0 hb_r2 hb2  hM) (show zsub [some (.inr (.inl (3, r0))), some (.inl v1), some (.inr (.inl (5, r2))), some (.inr (.inl (4, (4 * r0 + v1.toNatClampNeg)))), some (.inl x3), some (.inl x6), none, none, none, none] [some (.inr (.inl (3, r0))), some (.inl v1), some (.inr (.inl (5, r2))), some (.inr (.inl (4, (4 * r0 + v1.toNatClampNeg)))), some (.inl x3), some (.inl x6), some (.inl x9), none, none, none] from ⟨rfl, ⟨rfl, ⟨rfl, ⟨rfl, ⟨rfl, ⟨rfl, trivial⟩⟩⟩⟩⟩⟩)

theorem t_X3_takeStep_b188 {r2 : Nat} {v4 : Int32}  {g : zG} (hX : zfl X = false) (C : Cx X p (zrm 5) s m args meth c cX3_takeStep 5 RX3 0 0) (hr : meth.sig.returnType = (some .int)) (hb_r2 : r2 < 12)  (hM : X3_takeStep_b188  r2 v4 g = some (rr, gr)) : V X p l e (zrm 5) s m args below meth c 5 0 0 (MQ below (zQ X (Option.map (zM X) (some (.inl rr))) gr) args s 0 0 (zF X)) g 188 [none, none, some (.inr (.inl (5, r2))), none, some (.inl v4)] [] := by
  unfold X3_takeStep_b188 at hM
  refine v_iload C 4 dX3_takeStep_188 rfl ?_
  refine v_iconst C (nI 1) dX3_takeStep_190 zk_1 ?_
  refine v_icmp_ne C 207 dX3_takeStep_191 rfl hM (fun hM => ?_) (fun hM => ?_)
  · refine v_iload C 4 dX3_takeStep_207 rfl ?_
    refine v_iconst C (nI 2) dX3_takeStep_209 zk_2 ?_
    refine v_icmp_ne C 224 dX3_takeStep_210 rfl hM (fun hM => ?_) (fun hM => ?_)
    · refine v_iload C 4 dX3_takeStep_224 rfl ?_
      exact v_iret2 C hr dX3_takeStep_226 hM
    · refine v_aload_n C 2 dX3_takeStep_213 rfl rfl ?_
      refine gf_RX3_127 C hX hb_r2 dX3_takeStep_214 ?_
      refine v_bipush C (nI 6) dX3_takeStep_217 zkb_6 ?_
      refine v_dup2 C dX3_takeStep_219 ?_
      refine ia_28 C hX hb_r2 dX3_takeStep_220 hM (fun hM _ => ?_)
      refine v_iconst C (nI 1) dX3_takeStep_221 zk_1 ?_
      refine v_iadd C dX3_takeStep_222 ?_
      refine is_28 C hX hb_r2 dX3_takeStep_223 hM (fun g1 hM => ?_)
      refine v_iload C 4 dX3_takeStep_224 rfl ?_
      exact v_iret2 C hr dX3_takeStep_226 hM
  · refine v_aload_n C 2 dX3_takeStep_194 rfl rfl ?_
    refine v_dup_a C dX3_takeStep_195 ?_
    refine gf_RX3_86 C hX hb_r2 dX3_takeStep_196 ?_
    refine v_iconst C (nI 1) dX3_takeStep_199 zk_1 ?_
    refine v_iadd C dX3_takeStep_200 ?_
    refine pf_RX3_86 C hX hb_r2 dX3_takeStep_201 hM (fun g2 hM => ?_)
    refine v_goto C 224 dX3_takeStep_204 rfl ?_
    refine v_iload C 4 dX3_takeStep_224 rfl ?_
    exact v_iret2 C hr dX3_takeStep_226 hM

theorem c_X3_takeStep {X : zX} (hX : zfl X = false) {r0 : Nat} {v1 : Int32} {g gr : zG} {rr : Int32} (hb_r0 : r0 < 3) (hM : X3_takeStep r0 v1 g = some (rr, gr)) : MC X yX3_takeStep cX3_takeStep 5 (some .int) 5 [.inr (.inl (3, r0)), .inl v1] (some (.inl rr)) g gr := by
  refine MC.mk (own := RX3) (L := [some (.inr (.inl (3, r0))), some (.inl v1), none, none, none]) (by decide) rfl trivial (Nat.le_of_ble_eq_true rfl) rfl ?_
  intro p l e s m args below meth c C hr
  unfold X3_takeStep at hM
  refine v_aload_n C 0 dX3_takeStep_0 rfl rfl ?_
  refine v_iconst C (nI 0) dX3_takeStep_1 zk_0 ?_
  refine pf_RX3_57 C hX hb_r0 dX3_takeStep_2 hM (fun g1 hM => ?_)
  refine v_aload_n C 0 dX3_takeStep_5 rfl rfl ?_
  refine v_iload_n C 1 dX3_takeStep_6 rfl rfl ?_
  obtain ⟨x2, g3, e4, hM⟩ := zc_elim hM
  refine v_callVi (ci := 3) (rest := []) C (c_X3_hasDeedsLeft hX hb_r0 e4) mw_X3_hasDeedsLeft mi_X3_hasDeedsLeft ml_RX3_92 hX.symm (zm3 hb_r0) rfl rfl ⟨by decide, Nat.le_of_ble_eq_true rfl⟩ rfl (Nat.le_of_ble_eq_true rfl) dX3_takeStep_7 rfl ?_
  refine v_if_ne C 15 dX3_takeStep_10 rfl hM (fun hM => ?_) (fun hM => ?_)
  · refine v_aload_n C 0 dX3_takeStep_15 rfl rfl ?_
    refine v_dup_a C dX3_takeStep_16 ?_
    refine gf_RX3_51 C hX hb_r0 dX3_takeStep_17 ?_
    refine v_iconst C (nI 1) dX3_takeStep_20 zk_1 ?_
    refine v_iadd C dX3_takeStep_21 ?_
    refine pf_RX3_51 C hX hb_r0 dX3_takeStep_22 hM (fun g5 hM => ?_)
    refine v_aload_n C 0 dX3_takeStep_25 rfl rfl ?_
    refine gf_RX3_23 C hX hb_r0 dX3_takeStep_26 ?_
    refine v_iload_n C 1 dX3_takeStep_29 rfl rfl ?_
    refine aa_19 C hX hb_r0 dX3_takeStep_30 hM (fun hM hj6 => ?_)
    have hb7 : (4 * r0 + v1.toNatClampNeg) < 12 := zix hb_r0 hj6
    refine v_astore_n (L' := [some (.inr (.inl (3, r0))), some (.inl v1), some (.inr (.inl (5, (4 * r0 + v1.toNatClampNeg)))), none, none]) C 2 dX3_takeStep_31 rfl (by decide) rfl ?_
    refine v_aload_n C 0 dX3_takeStep_32 rfl rfl ?_
    refine gf_RX3_33 C hX hb_r0 dX3_takeStep_33 ?_
    refine v_iload_n C 1 dX3_takeStep_36 rfl rfl ?_
    refine v_aload_n C 2 dX3_takeStep_37 rfl rfl ?_
    refine gf_RX3_86 C hX hb7 dX3_takeStep_38 ?_
    obtain ⟨x8, g9, e10, hM⟩ := zc_elim hM
    refine v_callVNi (ci := 2) (rest := []) C (c_X2_wholeOf hX (by decide) e10) mw_X2_wholeOf mi_X2_wholeOf ml_RX3_95 hX.symm (zm1 (by decide)) rfl rfl ⟨by decide, Nat.le_of_ble_eq_true rfl⟩ rfl (Nat.le_of_ble_eq_true rfl) dX3_takeStep_41 rfl ?_
    refine v_istore_n (L' := [some (.inr (.inl (3, r0))), some (.inl v1), some (.inr (.inl (5, (4 * r0 + v1.toNatClampNeg)))), some (.inl x8), none]) C 3 dX3_takeStep_44 rfl (by decide) rfl ?_
    refine v_iconst C (nI 1) dX3_takeStep_45 zk_1 ?_
    refine v_istore (L' := [some (.inr (.inl (3, r0))), some (.inl v1), some (.inr (.inl (5, (4 * r0 + v1.toNatClampNeg)))), some (.inl x8), some (.inl (nI 1))]) C 4 dX3_takeStep_46 (by decide) rfl ?_
    refine v_aload_n C 0 dX3_takeStep_48 rfl rfl ?_
    refine gf_RX3_33 C hX hb_r0 dX3_takeStep_49 ?_
    refine v_iload_n C 1 dX3_takeStep_52 rfl rfl ?_
    refine v_aload_n C 2 dX3_takeStep_53 rfl rfl ?_
    refine gf_RX3_86 C hX hb7 dX3_takeStep_54 ?_
    obtain ⟨x11, g12, e13, hM⟩ := zc_elim hM
    refine v_callVNi (ci := 2) (rest := []) C (c_X2_sortOf hX (by decide) e13) mw_X2_sortOf mi_X2_sortOf ml_RX3_99 hX.symm (zm1 (by decide)) rfl rfl ⟨by decide, Nat.le_of_ble_eq_true rfl⟩ rfl (Nat.le_of_ble_eq_true rfl) dX3_takeStep_57 rfl ?_
    by_cases hx0 : x11 = (nI 0)
    · rw [if_pos hx0] at hM
      refine v_tblIn C 100 0 dX3_takeStep_60 (by rw [hx0]; rfl) (by decide) (by decide) rfl rfl ?_
      refine v_aload_n C 0 dX3_takeStep_100 rfl rfl ?_
      refine v_iload_n C 1 dX3_takeStep_101 rfl rfl ?_
      refine v_aload_n C 2 dX3_takeStep_102 rfl rfl ?_
      obtain ⟨x14, g15, e16, hM⟩ := zc_elim hM
      refine v_callVi (ci := 3) (rest := []) C (c_X3_doBegin hX hb_r0 hb7 e16) mw_X3_doBegin mi_X3_doBegin ml_RX3_102 hX.symm (zm3 hb_r0) rfl rfl ⟨by decide, Nat.le_of_ble_eq_true rfl⟩ rfl (Nat.le_of_ble_eq_true rfl) dX3_takeStep_103 rfl ?_
      refine v_istore (L' := [some (.inr (.inl (3, r0))), some (.inl v1), some (.inr (.inl (5, (4 * r0 + v1.toNatClampNeg)))), some (.inl x8), some (.inl x14)]) C 4 dX3_takeStep_106 (by decide) rfl ?_
      refine v_goto C 188 dX3_takeStep_108 rfl ?_
      exact v_weak (t_X3_takeStep_b188 hX C hr hb7  hM) (show zsub [none, none, some (.inr (.inl (5, (4 * r0 + v1.toNatClampNeg)))), none, some (.inl x14)] [some (.inr (.inl (3, r0))), some (.inl v1), some (.inr (.inl (5, (4 * r0 + v1.toNatClampNeg)))), some (.inl x8), some (.inl x14)] from ⟨rfl, ⟨rfl, trivial⟩⟩)
    rw [if_neg hx0] at hM
    by_cases hx1 : x11 = (nI 1)
    · rw [if_pos hx1] at hM
      refine v_tblIn C 111 1 dX3_takeStep_60 (by rw [hx1]; rfl) (by decide) (by decide) rfl rfl ?_
      refine v_aload_n C 0 dX3_takeStep_111 rfl rfl ?_
      refine v_iload_n C 1 dX3_takeStep_112 rfl rfl ?_
      refine v_aload_n C 2 dX3_takeStep_113 rfl rfl ?_
      obtain ⟨x17, g18, e19, hM⟩ := zc_elim hM
      refine v_callVv (ci := 3) (rest := []) C (c_X3_doEnd hX hb_r0 hb7 e19) mw_X3_doEnd mi_X3_doEnd ml_RX3_106 hX.symm (zm3 hb_r0) rfl rfl ⟨by decide, Nat.le_of_ble_eq_true rfl⟩ rfl (Nat.le_of_ble_eq_true rfl) dX3_takeStep_114 rfl ?_
      refine v_goto C 188 dX3_takeStep_117 rfl ?_
      exact v_weak (t_X3_takeStep_b188 hX C hr hb7  hM) (show zsub [none, none, some (.inr (.inl (5, (4 * r0 + v1.toNatClampNeg)))), none, some (.inl (nI 1))] [some (.inr (.inl (3, r0))), some (.inl v1), some (.inr (.inl (5, (4 * r0 + v1.toNatClampNeg)))), some (.inl x8), some (.inl (nI 1))] from ⟨rfl, ⟨rfl, trivial⟩⟩)
    rw [if_neg hx1] at hM
    by_cases hx2 : x11 = (nI 2)
    · rw [if_pos hx2] at hM
      refine v_tblIn C 120 2 dX3_takeStep_60 (by rw [hx2]; rfl) (by decide) (by decide) rfl rfl ?_
      refine v_aload_n C 2 dX3_takeStep_120 rfl rfl ?_
      refine v_aload_n C 2 dX3_takeStep_121 rfl rfl ?_
      refine gf_RX3_110 C hX hb7 dX3_takeStep_122 ?_
      refine pf_RX3_113 C hX hb7 dX3_takeStep_125 hM (fun g20 hM => ?_)
      refine v_goto C 188 dX3_takeStep_128 rfl ?_
      exact v_weak (t_X3_takeStep_b188 hX C hr hb7  hM) (show zsub [none, none, some (.inr (.inl (5, (4 * r0 + v1.toNatClampNeg)))), none, some (.inl (nI 1))] [some (.inr (.inl (3, r0))), some (.inl v1), some (.inr (.inl (5, (4 * r0 + v1.toNatClampNeg)))), some (.inl x8), some (.inl (nI 1))] from ⟨rfl, ⟨rfl, trivial⟩⟩)
    rw [if_neg hx2] at hM
    by_cases hx3 : x11 = (nI 3)
    · rw [if_pos hx3] at hM
      refine v_tblIn C 131 3 dX3_takeStep_60 (by rw [hx3]; rfl) (by decide) (by decide) rfl rfl ?_
      refine v_aload_n C 0 dX3_takeStep_131 rfl rfl ?_
      refine v_iload_n C 1 dX3_takeStep_132 rfl rfl ?_
      refine v_aload_n C 2 dX3_takeStep_133 rfl rfl ?_
      obtain ⟨x21, g22, e23, hM⟩ := zc_elim hM
      refine v_callVi (ci := 3) (rest := []) C (c_X3_doGet hX hb_r0 hb7 e23) mw_X3_doGet mi_X3_doGet ml_RX3_116 hX.symm (zm3 hb_r0) rfl rfl ⟨by decide, Nat.le_of_ble_eq_true rfl⟩ rfl (Nat.le_of_ble_eq_true rfl) dX3_takeStep_134 rfl ?_
      refine v_istore (L' := [some (.inr (.inl (3, r0))), some (.inl v1), some (.inr (.inl (5, (4 * r0 + v1.toNatClampNeg)))), some (.inl x8), some (.inl x21)]) C 4 dX3_takeStep_137 (by decide) rfl ?_
      refine v_goto C 188 dX3_takeStep_139 rfl ?_
      exact v_weak (t_X3_takeStep_b188 hX C hr hb7  hM) (show zsub [none, none, some (.inr (.inl (5, (4 * r0 + v1.toNatClampNeg)))), none, some (.inl x21)] [some (.inr (.inl (3, r0))), some (.inl v1), some (.inr (.inl (5, (4 * r0 + v1.toNatClampNeg)))), some (.inl x8), some (.inl x21)] from ⟨rfl, ⟨rfl, trivial⟩⟩)
    rw [if_neg hx3] at hM
    by_cases hx4 : x11 = (nI 4)
    · rw [if_pos hx4] at hM
      refine v_tblIn C 142 4 dX3_takeStep_60 (by rw [hx4]; rfl) (by decide) (by decide) rfl rfl ?_
      refine v_aload_n C 0 dX3_takeStep_142 rfl rfl ?_
      refine v_iload_n C 1 dX3_takeStep_143 rfl rfl ?_
      refine v_aload_n C 2 dX3_takeStep_144 rfl rfl ?_
      obtain ⟨x24, g25, e26, hM⟩ := zc_elim hM
      refine v_callVi (ci := 3) (rest := []) C (c_X3_doPut hX hb_r0 hb7 e26) mw_X3_doPut mi_X3_doPut ml_RX3_119 hX.symm (zm3 hb_r0) rfl rfl ⟨by decide, Nat.le_of_ble_eq_true rfl⟩ rfl (Nat.le_of_ble_eq_true rfl) dX3_takeStep_145 rfl ?_
      refine v_istore (L' := [some (.inr (.inl (3, r0))), some (.inl v1), some (.inr (.inl (5, (4 * r0 + v1.toNatClampNeg)))), some (.inl x8), some (.inl x24)]) C 4 dX3_takeStep_148 (by decide) rfl ?_
      refine v_goto C 188 dX3_takeStep_150 rfl ?_
      exact v_weak (t_X3_takeStep_b188 hX C hr hb7  hM) (show zsub [none, none, some (.inr (.inl (5, (4 * r0 + v1.toNatClampNeg)))), none, some (.inl x24)] [some (.inr (.inl (3, r0))), some (.inl v1), some (.inr (.inl (5, (4 * r0 + v1.toNatClampNeg)))), some (.inl x8), some (.inl x24)] from ⟨rfl, ⟨rfl, trivial⟩⟩)
    rw [if_neg hx4] at hM
    by_cases hx5 : x11 = (nI 5)
    · rw [if_pos hx5] at hM
      refine v_tblIn C 153 5 dX3_takeStep_60 (by rw [hx5]; rfl) (by decide) (by decide) rfl rfl ?_
      refine v_aload_n C 2 dX3_takeStep_153 rfl rfl ?_
      refine v_aload_n C 2 dX3_takeStep_154 rfl rfl ?_
      refine gf_RX3_110 C hX hb7 dX3_takeStep_155 ?_
      refine v_iload_n C 3 dX3_takeStep_158 rfl rfl ?_
      refine v_iadd C dX3_takeStep_159 ?_
      refine v_sipush C (nI 1000) dX3_takeStep_160 zks_1000 ?_
      obtain ⟨x27, g28, e29, hM⟩ := zc_elim hM
      refine v_callSi (rest := [(.inr (.inl (5, (4 * r0 + v1.toNatClampNeg))))]) C (c_J9_floorMod_7cf53 hX  e29) mw_J9_floorMod_7cf53 ms_J9_floorMod_7cf53 ml_RX3_122 ⟨by decide, Nat.le_of_ble_eq_true rfl⟩ rfl (Nat.le_of_ble_eq_true rfl) dX3_takeStep_163 rfl ?_
      refine pf_RX3_110 C hX hb7 dX3_takeStep_166 hM (fun g30 hM => ?_)
      refine v_goto C 188 dX3_takeStep_169 rfl ?_
      exact v_weak (t_X3_takeStep_b188 hX C hr hb7  hM) (show zsub [none, none, some (.inr (.inl (5, (4 * r0 + v1.toNatClampNeg)))), none, some (.inl (nI 1))] [some (.inr (.inl (3, r0))), some (.inl v1), some (.inr (.inl (5, (4 * r0 + v1.toNatClampNeg)))), some (.inl x8), some (.inl (nI 1))] from ⟨rfl, ⟨rfl, trivial⟩⟩)
    rw [if_neg hx5] at hM
    refine v_tblOut C 172 dX3_takeStep_60 (ztbl 6 rfl (by intro k hk; match k, hk with | 0, _ => exact hx0 | 1, _ => exact hx1 | 2, _ => exact hx2 | 3, _ => exact hx3 | 4, _ => exact hx4 | 5, _ => exact hx5 | k + 6, hk => omega)) rfl ?_
    refine v_aload_n C 2 dX3_takeStep_172 rfl rfl ?_
    refine v_aload_n C 2 dX3_takeStep_173 rfl rfl ?_
    refine gf_RX3_110 C hX hb7 dX3_takeStep_174 ?_
    refine v_iload_n C 3 dX3_takeStep_177 rfl rfl ?_
    refine v_isub C dX3_takeStep_178 ?_
    refine v_sipush C (nI 1000) dX3_takeStep_179 zks_1000 ?_
    obtain ⟨x31, g32, e33, hM⟩ := zc_elim hM
    refine v_callSi (rest := [(.inr (.inl (5, (4 * r0 + v1.toNatClampNeg))))]) C (c_J9_floorMod_7cf53 hX  e33) mw_J9_floorMod_7cf53 ms_J9_floorMod_7cf53 ml_RX3_122 ⟨by decide, Nat.le_of_ble_eq_true rfl⟩ rfl (Nat.le_of_ble_eq_true rfl) dX3_takeStep_182 rfl ?_
    refine pf_RX3_110 C hX hb7 dX3_takeStep_185 hM (fun g34 hM => ?_)
    exact v_weak (t_X3_takeStep_b188 hX C hr hb7  hM) (show zsub [none, none, some (.inr (.inl (5, (4 * r0 + v1.toNatClampNeg)))), none, some (.inl (nI 1))] [some (.inr (.inl (3, r0))), some (.inl v1), some (.inr (.inl (5, (4 * r0 + v1.toNatClampNeg)))), some (.inl x8), some (.inl (nI 1))] from ⟨rfl, ⟨rfl, trivial⟩⟩)
  · refine v_iconst C (nI 0) dX3_takeStep_13 zk_0 ?_
    exact v_iret2 C hr dX3_takeStep_14 hM

theorem t_X3_takeRounds_b30 {r0 : Nat} {v1 : Int32} {v2 : Int32} {v3 : Int32} {v4 : Int32} {k12 : Nat → Int32 → Int32 → Int32 → Int32 → zG → Option (Int32 × zG)} {g : zG} (hX : zfl X = false) (C : Cx X p (zrm 6) s m args meth c cX3_takeRounds 5 RX3 0 0) (hr : meth.sig.returnType = (some .int)) (hb_r0 : r0 < 3) (hk12 : ∀ (r0 : Nat) (v1 : Int32) (v2 : Int32) (v3 : Int32) (v4 : Int32) (g : zG), r0 < 3 →  k12 r0 v1 v2 v3 v4 g = some (rr, gr) → V X p l e (zrm 6) s m args below meth c 5 0 0 (MQ below (zQ X (Option.map (zM X) (some (.inl rr))) gr) args s 0 0 (zF X)) g 12 [some (.inr (.inl (3, r0))), some (.inl v1), some (.inl v2), some (.inl v3), some (.inl v4)] []) (hM : X3_takeRounds_b30 k12 r0 v1 v2 v3 v4 g = some (rr, gr)) : V X p l e (zrm 6) s m args below meth c 5 0 0 (MQ below (zQ X (Option.map (zM X) (some (.inl rr))) gr) args s 0 0 (zF X)) g 30 [some (.inr (.inl (3, r0))), some (.inl v1), some (.inl v2), some (.inl v3), some (.inl v4)] [] := by
  unfold X3_takeRounds_b30 at hM
  refine v_iinc (L' := [some (.inr (.inl (3, r0))), some (.inl v1), some (.inl v2), some (.inl v3), some (.inl (v4 + (nI 1)))]) C 4 (nI 1) dX3_takeRounds_30 zk_1 (by decide) rfl rfl ?_
  refine v_goto C 12 dX3_takeRounds_33 rfl ?_
  exact hk12 r0 v1 v2 v3 (v4 + (nI 1)) g hb_r0 hM

theorem t_X3_takeRounds_l12 {k4 : Nat → Int32 → Int32 → Int32 → zG → Option (Int32 × zG)} (hX : zfl X = false) (C : Cx X p (zrm 6) s m args meth c cX3_takeRounds 5 RX3 0 0) (hr : meth.sig.returnType = (some .int)) (hk4 : ∀ (r0 : Nat) (v1 : Int32) (v2 : Int32) (v3 : Int32) (g : zG), r0 < 3 →  k4 r0 v1 v2 v3 g = some (rr, gr) → V X p l e (zrm 6) s m args below meth c 5 0 0 (MQ below (zQ X (Option.map (zM X) (some (.inl rr))) gr) args s 0 0 (zF X)) g 4 [some (.inr (.inl (3, r0))), some (.inl v1), some (.inl v2), some (.inl v3), none] []) : ∀ (n : Nat) {r0 : Nat} {v1 : Int32} {v2 : Int32} {v3 : Int32} {v4 : Int32} (g : zG), r0 < 3 → X3_takeRounds_l12 k4 n r0 v1 v2 v3 v4 g = some (rr, gr) → V X p l e (zrm 6) s m args below meth c 5 0 0 (MQ below (zQ X (Option.map (zM X) (some (.inl rr))) gr) args s 0 0 (zF X)) g 12 [some (.inr (.inl (3, r0))), some (.inl v1), some (.inl v2), some (.inl v3), some (.inl v4)] [] := by
  intro n
  induction n with
  | zero =>
    intro r0 v1 v2 v3 v4 g hb_r0 hM
    exact absurd (show (none : Option (Int32 × zG)) = some (rr, gr) from hM) (by simp)
  | succ n ih =>
    intro r0 v1 v2 v3 v4 g hb_r0 hM
    rw [X3_takeRounds_l12.eq_2] at hM
    refine v_iload C 4 dX3_takeRounds_12 rfl ?_
    refine v_iconst C (nI 4) dX3_takeRounds_14 zk_4 ?_
    refine v_icmp_ge C 36 dX3_takeRounds_15 rfl hM (fun hM => ?_) (fun hM => ?_)
    · refine v_iinc (L' := [some (.inr (.inl (3, r0))), some (.inl v1), some (.inl v2), some (.inl (v3 + (nI 1))), some (.inl v4)]) C 3 (nI 1) dX3_takeRounds_36 zk_1 (by decide) rfl rfl ?_
      refine v_goto C 4 dX3_takeRounds_39 rfl ?_
      exact v_weak (hk4 r0 v1 v2 (v3 + (nI 1)) g hb_r0 hM) (show zsub [some (.inr (.inl (3, r0))), some (.inl v1), some (.inl v2), some (.inl (v3 + (nI 1))), none] [some (.inr (.inl (3, r0))), some (.inl v1), some (.inl v2), some (.inl (v3 + (nI 1))), some (.inl v4)] from ⟨rfl, ⟨rfl, ⟨rfl, ⟨rfl, trivial⟩⟩⟩⟩)
    · refine v_aload_n C 0 dX3_takeRounds_18 rfl rfl ?_
      refine v_iload C 4 dX3_takeRounds_19 rfl ?_
      obtain ⟨x1, g2, e3, hM⟩ := zc_elim hM
      refine v_callVi (ci := 3) (rest := []) C (c_X3_takeStep hX hb_r0 e3) mw_X3_takeStep mi_X3_takeStep ml_RX3_226 hX.symm (zm3 hb_r0) rfl rfl ⟨by decide, Nat.le_of_ble_eq_true rfl⟩ rfl (Nat.le_of_ble_eq_true rfl) dX3_takeRounds_21 rfl ?_
      refine v_if_eq C 30 dX3_takeRounds_24 rfl hM (fun hM => ?_) (fun hM => ?_)
      · exact t_X3_takeRounds_b30 hX C hr hb_r0 (fun r0 v1 v2 v3 v4 g hb_r0 hM => ih g hb_r0 hM) hM
      · refine v_iinc (L' := [some (.inr (.inl (3, r0))), some (.inl v1), some (.inl (v2 + (nI 1))), some (.inl v3), some (.inl v4)]) C 2 (nI 1) dX3_takeRounds_27 zk_1 (by decide) rfl rfl ?_
        exact t_X3_takeRounds_b30 hX C hr hb_r0 (fun r0 v1 v2 v3 v4 g hb_r0 hM => ih g hb_r0 hM) hM

theorem t_X3_takeRounds_l4  (hX : zfl X = false) (C : Cx X p (zrm 6) s m args meth c cX3_takeRounds 5 RX3 0 0) (hr : meth.sig.returnType = (some .int))  : ∀ (n : Nat) {r0 : Nat} {v1 : Int32} {v2 : Int32} {v3 : Int32} (g : zG), r0 < 3 → X3_takeRounds_l4  n r0 v1 v2 v3 g = some (rr, gr) → V X p l e (zrm 6) s m args below meth c 5 0 0 (MQ below (zQ X (Option.map (zM X) (some (.inl rr))) gr) args s 0 0 (zF X)) g 4 [some (.inr (.inl (3, r0))), some (.inl v1), some (.inl v2), some (.inl v3), none] [] := by
  intro n
  induction n with
  | zero =>
    intro r0 v1 v2 v3 g hb_r0 hM
    exact absurd (show (none : Option (Int32 × zG)) = some (rr, gr) from hM) (by simp)
  | succ n ih =>
    intro r0 v1 v2 v3 g hb_r0 hM
    rw [X3_takeRounds_l4.eq_2] at hM
    refine v_iload_n C 3 dX3_takeRounds_4 rfl rfl ?_
    refine v_iload_n C 1 dX3_takeRounds_5 rfl rfl ?_
    refine v_icmp_ge C 42 dX3_takeRounds_6 rfl hM (fun hM => ?_) (fun hM => ?_)
    · refine v_iload_n C 2 dX3_takeRounds_42 rfl rfl ?_
      exact v_iret2 C hr dX3_takeRounds_43 hM
    · refine v_iconst C (nI 0) dX3_takeRounds_9 zk_0 ?_
      refine v_istore (L' := [some (.inr (.inl (3, r0))), some (.inl v1), some (.inl v2), some (.inl v3), some (.inl (nI 0))]) C 4 dX3_takeRounds_10 (by decide) rfl ?_
      exact t_X3_takeRounds_l12 hX C hr (fun r0 v1 v2 v3 g hb_r0 hM => ih g hb_r0 hM) _ g hb_r0 hM

theorem c_X3_takeRounds {X : zX} (hX : zfl X = false) {r0 : Nat} {v1 : Int32} {g gr : zG} {rr : Int32} (hb_r0 : r0 < 3) (hM : X3_takeRounds r0 v1 g = some (rr, gr)) : MC X yX3_takeRounds cX3_takeRounds 5 (some .int) 6 [.inr (.inl (3, r0)), .inl v1] (some (.inl rr)) g gr := by
  refine MC.mk (own := RX3) (L := [some (.inr (.inl (3, r0))), some (.inl v1), none, none, none]) (by decide) rfl trivial (Nat.le_of_ble_eq_true rfl) rfl ?_
  intro p l e s m args below meth c C hr
  unfold X3_takeRounds at hM
  refine v_iconst C (nI 0) dX3_takeRounds_0 zk_0 ?_
  refine v_istore_n (L' := [some (.inr (.inl (3, r0))), some (.inl v1), some (.inl (nI 0)), none, none]) C 2 dX3_takeRounds_1 rfl (by decide) rfl ?_
  refine v_iconst C (nI 0) dX3_takeRounds_2 zk_0 ?_
  refine v_istore_n (L' := [some (.inr (.inl (3, r0))), some (.inl v1), some (.inl (nI 0)), some (.inl (nI 0)), none]) C 3 dX3_takeRounds_3 rfl (by decide) rfl ?_
  exact t_X3_takeRounds_l4 hX C hr  _ g hb_r0 hM

theorem t_X3_takeDraws_b70 {r0 : Nat} {v1 : Int32} {v3 : Int32} {v4 : Int32} {v5 : Int32} {k8 : Nat → Int32 → Int32 → Int32 → Int32 → zG → Option (Int32 × zG)} {g : zG} (hX : zfl X = false) (C : Cx X p (zrm 6) s m args meth c cX3_takeDraws 6 RX3 0 0) (hr : meth.sig.returnType = (some .int)) (hb_r0 : r0 < 3) (hk8 : ∀ (r0 : Nat) (v1 : Int32) (v3 : Int32) (v4 : Int32) (v5 : Int32) (g : zG), r0 < 3 →  k8 r0 v1 v3 v4 v5 g = some (rr, gr) → V X p l e (zrm 6) s m args below meth c 6 0 0 (MQ below (zQ X (Option.map (zM X) (some (.inl rr))) gr) args s 0 0 (zF X)) g 8 [some (.inr (.inl (3, r0))), some (.inl v1), none, some (.inl v3), some (.inl v4), some (.inl v5)] []) (hM : X3_takeDraws_b70 k8 r0 v1 v3 v4 v5 g = some (rr, gr)) : V X p l e (zrm 6) s m args below meth c 6 0 0 (MQ below (zQ X (Option.map (zM X) (some (.inl rr))) gr) args s 0 0 (zF X)) g 70 [some (.inr (.inl (3, r0))), some (.inl v1), none, some (.inl v3), some (.inl v4), some (.inl v5)] [] := by
  unfold X3_takeDraws_b70 at hM
  refine v_iinc (L' := [some (.inr (.inl (3, r0))), some (.inl v1), none, some (.inl v3), some (.inl v4), some (.inl (v5 + (nI 1)))]) C 5 (nI 1) dX3_takeDraws_70 zk_1 (by decide) rfl rfl ?_
  refine v_goto C 8 dX3_takeDraws_73 rfl ?_
  exact hk8 r0 v1 v3 v4 (v5 + (nI 1)) g hb_r0 hM

theorem t_X3_takeDraws_l8  (hX : zfl X = false) (C : Cx X p (zrm 6) s m args meth c cX3_takeDraws 6 RX3 0 0) (hr : meth.sig.returnType = (some .int))  : ∀ (n : Nat) {r0 : Nat} {v1 : Int32} {v3 : Int32} {v4 : Int32} {v5 : Int32} (g : zG), r0 < 3 → X3_takeDraws_l8  n r0 v1 v3 v4 v5 g = some (rr, gr) → V X p l e (zrm 6) s m args below meth c 6 0 0 (MQ below (zQ X (Option.map (zM X) (some (.inl rr))) gr) args s 0 0 (zF X)) g 8 [some (.inr (.inl (3, r0))), some (.inl v1), none, some (.inl v3), some (.inl v4), some (.inl v5)] [] := by
  intro n
  induction n with
  | zero =>
    intro r0 v1 v3 v4 v5 g hb_r0 hM
    exact absurd (show (none : Option (Int32 × zG)) = some (rr, gr) from hM) (by simp)
  | succ n ih =>
    intro r0 v1 v3 v4 v5 g hb_r0 hM
    rw [X3_takeDraws_l8.eq_2] at hM
    refine v_iload C 5 dX3_takeDraws_8 rfl ?_
    refine v_iload_n C 1 dX3_takeDraws_10 rfl rfl ?_
    refine v_icmp_ge C 76 dX3_takeDraws_11 rfl hM (fun hM => ?_) (fun hM => ?_)
    · refine v_iload_n C 3 dX3_takeDraws_76 rfl rfl ?_
      exact v_iret2 C hr dX3_takeDraws_77 hM
    · refine v_aload_n C 0 dX3_takeDraws_14 rfl rfl ?_
      refine gf_RX3_33 C hX hb_r0 dX3_takeDraws_15 ?_
      refine gf_RX3_229 C hX (by decide) dX3_takeDraws_18 ?_
      refine v_if_le C 76 dX3_takeDraws_21 rfl hM (fun hM => ?_) (fun hM => ?_)
      · refine v_iload_n C 3 dX3_takeDraws_76 rfl rfl ?_
        exact v_iret2 C hr dX3_takeDraws_77 hM
      · refine v_aload_n C 0 dX3_takeDraws_24 rfl rfl ?_
        obtain ⟨x1, g2, e3, hM⟩ := zc_elim hM
        refine v_callVi (ci := 3) (rest := []) C (c_X3_isAllDone hX hb_r0 e3) mw_X3_isAllDone mi_X3_isAllDone ml_RX3_231 hX.symm (zm3 hb_r0) rfl rfl ⟨by decide, Nat.le_of_ble_eq_true rfl⟩ rfl (Nat.le_of_ble_eq_true rfl) dX3_takeDraws_25 rfl ?_
        refine v_if_ne C 76 dX3_takeDraws_28 rfl hM (fun hM => ?_) (fun hM => ?_)
        · refine v_iload_n C 3 dX3_takeDraws_76 rfl rfl ?_
          exact v_iret2 C hr dX3_takeDraws_77 hM
        · refine v_sipush C (nI 25173) dX3_takeDraws_31 zks_25173 ?_
          refine v_iload C 4 dX3_takeDraws_34 rfl ?_
          refine v_imul C dX3_takeDraws_36 ?_
          refine v_sipush C (nI 13849) dX3_takeDraws_37 zks_13849 ?_
          refine v_iadd C dX3_takeDraws_40 ?_
          refine v_ldc C (nI 65536) dX3_takeDraws_41 kc_RX3_235 ?_
          refine v_iremk C (nI_ne0 (by decide) (by decide)) dX3_takeDraws_43 ?_
          refine v_istore (L' := [some (.inr (.inl (3, r0))), some (.inl v1), none, some (.inl v3), some (.inl ((((nI 25173) * v4) + (nI 13849)) - (((nI 25173) * v4) + (nI 13849)) / (nI 65536) * (nI 65536))), some (.inl v5)]) C 4 dX3_takeDraws_44 (by decide) rfl ?_
          refine v_aload_n C 0 dX3_takeDraws_46 rfl rfl ?_
          refine v_iload C 4 dX3_takeDraws_47 rfl ?_
          refine v_sipush C (nI 256) dX3_takeDraws_49 zks_256 ?_
          refine v_idivk C (nI_ne0 (by decide) (by decide)) dX3_takeDraws_52 ?_
          refine v_aload_n C 0 dX3_takeDraws_53 rfl rfl ?_
          refine gf_RX3_33 C hX hb_r0 dX3_takeDraws_54 ?_
          refine gf_RX3_229 C hX (by decide) dX3_takeDraws_57 ?_
          refine v_irem C dX3_takeDraws_60 hM (fun hM => ?_)
          obtain ⟨x4, g5, e6, hM⟩ := zc_elim hM
          refine v_callVi (ci := 3) (rest := []) C (c_X3_takeStep hX hb_r0 e6) mw_X3_takeStep mi_X3_takeStep ml_RX3_226 hX.symm (zm3 hb_r0) rfl rfl ⟨by decide, Nat.le_of_ble_eq_true rfl⟩ rfl (Nat.le_of_ble_eq_true rfl) dX3_takeDraws_61 rfl ?_
          refine v_if_eq C 70 dX3_takeDraws_64 rfl hM (fun hM => ?_) (fun hM => ?_)
          · exact t_X3_takeDraws_b70 hX C hr hb_r0 (fun r0 v1 v3 v4 v5 g hb_r0 hM => ih g hb_r0 hM) hM
          · refine v_iinc (L' := [some (.inr (.inl (3, r0))), some (.inl v1), none, some (.inl (v3 + (nI 1))), some (.inl ((((nI 25173) * v4) + (nI 13849)) - (((nI 25173) * v4) + (nI 13849)) / (nI 65536) * (nI 65536))), some (.inl v5)]) C 3 (nI 1) dX3_takeDraws_67 zk_1 (by decide) rfl rfl ?_
            exact t_X3_takeDraws_b70 hX C hr hb_r0 (fun r0 v1 v3 v4 v5 g hb_r0 hM => ih g hb_r0 hM) hM

theorem c_X3_takeDraws {X : zX} (hX : zfl X = false) {r0 : Nat} {v1 : Int32} {v2 : Int32} {g gr : zG} {rr : Int32} (hb_r0 : r0 < 3) (hM : X3_takeDraws r0 v1 v2 g = some (rr, gr)) : MC X yX3_takeDraws cX3_takeDraws 6 (some .int) 6 [.inr (.inl (3, r0)), .inl v1, .inl v2] (some (.inl rr)) g gr := by
  refine MC.mk (own := RX3) (L := [some (.inr (.inl (3, r0))), some (.inl v1), some (.inl v2), none, none, none]) (by decide) rfl trivial (Nat.le_of_ble_eq_true rfl) rfl ?_
  intro p l e s m args below meth c C hr
  unfold X3_takeDraws at hM
  refine v_iconst C (nI 0) dX3_takeDraws_0 zk_0 ?_
  refine v_istore_n (L' := [some (.inr (.inl (3, r0))), some (.inl v1), some (.inl v2), some (.inl (nI 0)), none, none]) C 3 dX3_takeDraws_1 rfl (by decide) rfl ?_
  refine v_iload_n C 2 dX3_takeDraws_2 rfl rfl ?_
  refine v_istore (L' := [some (.inr (.inl (3, r0))), some (.inl v1), some (.inl v2), some (.inl (nI 0)), some (.inl v2), none]) C 4 dX3_takeDraws_3 (by decide) rfl ?_
  refine v_iconst C (nI 0) dX3_takeDraws_5 zk_0 ?_
  refine v_istore (L' := [some (.inr (.inl (3, r0))), some (.inl v1), some (.inl v2), some (.inl (nI 0)), some (.inl v2), some (.inl (nI 0))]) C 5 dX3_takeDraws_6 (by decide) rfl ?_
  exact v_weak (t_X3_takeDraws_l8 hX C hr  _ g hb_r0 hM) (show zsub [some (.inr (.inl (3, r0))), some (.inl v1), none, some (.inl (nI 0)), some (.inl v2), some (.inl (nI 0))] [some (.inr (.inl (3, r0))), some (.inl v1), some (.inl v2), some (.inl (nI 0)), some (.inl v2), some (.inl (nI 0))] from ⟨rfl, ⟨rfl, ⟨rfl, ⟨rfl, ⟨rfl, trivial⟩⟩⟩⟩⟩)

theorem t_X3_wordAt_b85 {r0 : Nat} {v1 : Int32} {v2 : Int32} {v3 : Int32} {k11 : Nat → Int32 → Int32 → Int32 → zG → Option (Int32 × zG)} {g : zG} (hX : zfl X = false) (C : Cx X p (zrm 1) s m args meth c cX3_wordAt 5 RX3 0 0) (hr : meth.sig.returnType = (some .int)) (hb_r0 : r0 < 3) (hk11 : ∀ (r0 : Nat) (v1 : Int32) (v2 : Int32) (v3 : Int32) (g : zG), r0 < 3 →  k11 r0 v1 v2 v3 g = some (rr, gr) → V X p l e (zrm 1) s m args below meth c 5 0 0 (MQ below (zQ X (Option.map (zM X) (some (.inl rr))) gr) args s 0 0 (zF X)) g 11 [some (.inr (.inl (3, r0))), some (.inl v1), some (.inl v2), some (.inl v3), none] []) (hM : X3_wordAt_b85 k11 r0 v1 v2 v3 g = some (rr, gr)) : V X p l e (zrm 1) s m args below meth c 5 0 0 (MQ below (zQ X (Option.map (zM X) (some (.inl rr))) gr) args s 0 0 (zF X)) g 85 [some (.inr (.inl (3, r0))), some (.inl v1), some (.inl v2), some (.inl v3), none] [] := by
  unfold X3_wordAt_b85 at hM
  refine v_iinc (L' := [some (.inr (.inl (3, r0))), some (.inl v1), some (.inl v2), some (.inl (v3 + (nI 1))), none]) C 3 (nI 1) dX3_wordAt_85 zk_1 (by decide) rfl rfl ?_
  refine v_goto C 11 dX3_wordAt_88 rfl ?_
  exact hk11 r0 v1 v2 (v3 + (nI 1)) g hb_r0 hM

theorem t_X3_wordAt_l11  (hX : zfl X = false) (C : Cx X p (zrm 1) s m args meth c cX3_wordAt 5 RX3 0 0) (hr : meth.sig.returnType = (some .int))  : ∀ (n : Nat) {r0 : Nat} {v1 : Int32} {v2 : Int32} {v3 : Int32} (g : zG), r0 < 3 → X3_wordAt_l11  n r0 v1 v2 v3 g = some (rr, gr) → V X p l e (zrm 1) s m args below meth c 5 0 0 (MQ below (zQ X (Option.map (zM X) (some (.inl rr))) gr) args s 0 0 (zF X)) g 11 [some (.inr (.inl (3, r0))), some (.inl v1), some (.inl v2), some (.inl v3), none] [] := by
  intro n
  induction n with
  | zero =>
    intro r0 v1 v2 v3 g hb_r0 hM
    exact absurd (show (none : Option (Int32 × zG)) = some (rr, gr) from hM) (by simp)
  | succ n ih =>
    intro r0 v1 v2 v3 g hb_r0 hM
    rw [X3_wordAt_l11.eq_2] at hM
    refine v_iload_n C 3 dX3_wordAt_11 rfl rfl ?_
    refine v_iconst C (nI 4) dX3_wordAt_12 zk_4 ?_
    refine v_icmp_ge C 91 dX3_wordAt_13 rfl hM (fun hM => ?_) (fun hM => ?_)
    · refine v_iload_n C 1 dX3_wordAt_91 rfl rfl ?_
      refine v_if_lt C 110 dX3_wordAt_92 rfl hM (fun hM => ?_) (fun hM => ?_)
      · refine v_iconst C (nI 0) dX3_wordAt_110 zk_0 ?_
        exact v_iret2 C hr dX3_wordAt_111 hM
      · refine v_iload_n C 1 dX3_wordAt_95 rfl rfl ?_
        refine v_bipush C (nI 68) dX3_wordAt_96 zkb_68 ?_
        refine v_icmp_ge C 110 dX3_wordAt_98 rfl hM (fun hM => ?_) (fun hM => ?_)
        · refine v_iconst C (nI 0) dX3_wordAt_110 zk_0 ?_
          exact v_iret2 C hr dX3_wordAt_111 hM
        · refine v_aload_n C 0 dX3_wordAt_101 rfl rfl ?_
          refine gf_RX3_9 C hX hb_r0 dX3_wordAt_102 ?_
          refine v_iload_n C 1 dX3_wordAt_105 rfl rfl ?_
          refine ia_17 C hX hb_r0 dX3_wordAt_106 hM (fun hM _ => ?_)
          refine v_goto C 111 dX3_wordAt_107 rfl ?_
          exact v_iret2 C hr dX3_wordAt_111 hM
    · refine v_aload_n C 0 dX3_wordAt_16 rfl rfl ?_
      refine gf_RX3_17 C hX hb_r0 dX3_wordAt_17 ?_
      refine v_iload_n C 3 dX3_wordAt_20 rfl rfl ?_
      refine aa_18 C hX hb_r0 dX3_wordAt_21 hM (fun hM hj1 => ?_)
      have hb2 : (4 * r0 + v3.toNatClampNeg) < 12 := zix hb_r0 hj1
      refine v_iload_n C 2 dX3_wordAt_22 rfl rfl ?_
      obtain ⟨x3, g4, e5, hM⟩ := zc_elim hM
      refine v_callVNi (ci := 0) (rest := []) C (c_X0_find hX hb2 e5) mw_X0_find mi_X0_find ml_RX3_165 hX.symm (zm4 hb2) rfl rfl ⟨by decide, Nat.le_of_ble_eq_true rfl⟩ rfl (Nat.le_of_ble_eq_true rfl) dX3_wordAt_23 rfl ?_
      refine v_istore (L' := [some (.inr (.inl (3, r0))), some (.inl v1), some (.inl v2), some (.inl v3), some (.inl x3)]) C 4 dX3_wordAt_26 (by decide) rfl ?_
      refine v_iload C 4 dX3_wordAt_28 rfl ?_
      refine v_iconst C (-1) dX3_wordAt_30 zk_m1 ?_
      refine v_icmp_eq C 85 dX3_wordAt_31 rfl hM (fun hM => ?_) (fun hM => ?_)
      · exact v_weak (t_X3_wordAt_b85 hX C hr hb_r0 (fun r0 v1 v2 v3 g hb_r0 hM => ih g hb_r0 hM) hM) (show zsub [some (.inr (.inl (3, r0))), some (.inl v1), some (.inl v2), some (.inl v3), none] [some (.inr (.inl (3, r0))), some (.inl v1), some (.inl v2), some (.inl v3), some (.inl x3)] from ⟨rfl, ⟨rfl, ⟨rfl, ⟨rfl, trivial⟩⟩⟩⟩)
      · refine v_aload_n C 0 dX3_wordAt_34 rfl rfl ?_
        refine gf_RX3_17 C hX hb_r0 dX3_wordAt_35 ?_
        refine v_iload_n C 3 dX3_wordAt_38 rfl rfl ?_
        refine aa_18 C hX hb_r0 dX3_wordAt_39 hM (fun hM hj6 => ?_)
        have hb7 : (4 * r0 + v3.toNatClampNeg) < 12 := zix hb_r0 hj6
        refine gf_RX3_174 C hX hb7 dX3_wordAt_40 ?_
        refine v_iload C 4 dX3_wordAt_43 rfl ?_
        refine ia_23 C hX hb7 dX3_wordAt_45 hM (fun hM _ => ?_)
        refine v_iconst C (nI 3) dX3_wordAt_46 zk_3 ?_
        refine v_icmp_ne C 85 dX3_wordAt_47 rfl hM (fun hM => ?_) (fun hM => ?_)
        · exact v_weak (t_X3_wordAt_b85 hX C hr hb_r0 (fun r0 v1 v2 v3 g hb_r0 hM => ih g hb_r0 hM) hM) (show zsub [some (.inr (.inl (3, r0))), some (.inl v1), some (.inl v2), some (.inl v3), none] [some (.inr (.inl (3, r0))), some (.inl v1), some (.inl v2), some (.inl v3), some (.inl x3)] from ⟨rfl, ⟨rfl, ⟨rfl, ⟨rfl, trivial⟩⟩⟩⟩)
        · refine v_aload_n C 0 dX3_wordAt_50 rfl rfl ?_
          refine gf_RX3_17 C hX hb_r0 dX3_wordAt_51 ?_
          refine v_iload_n C 3 dX3_wordAt_54 rfl rfl ?_
          refine aa_18 C hX hb_r0 dX3_wordAt_55 hM (fun hM hj8 => ?_)
          have hb9 : (4 * r0 + v3.toNatClampNeg) < 12 := zix hb_r0 hj8
          refine gf_RX3_177 C hX hb9 dX3_wordAt_56 ?_
          refine v_iload C 4 dX3_wordAt_59 rfl ?_
          refine ia_25 C hX hb9 dX3_wordAt_61 hM (fun hM _ => ?_)
          refine v_if_ne C 85 dX3_wordAt_62 rfl hM (fun hM => ?_) (fun hM => ?_)
          · exact v_weak (t_X3_wordAt_b85 hX C hr hb_r0 (fun r0 v1 v2 v3 g hb_r0 hM => ih g hb_r0 hM) hM) (show zsub [some (.inr (.inl (3, r0))), some (.inl v1), some (.inl v2), some (.inl v3), none] [some (.inr (.inl (3, r0))), some (.inl v1), some (.inl v2), some (.inl v3), some (.inl x3)] from ⟨rfl, ⟨rfl, ⟨rfl, ⟨rfl, trivial⟩⟩⟩⟩)
          · refine v_aload_n C 0 dX3_wordAt_65 rfl rfl ?_
            refine gf_RX3_17 C hX hb_r0 dX3_wordAt_66 ?_
            refine v_iload_n C 3 dX3_wordAt_69 rfl rfl ?_
            refine aa_18 C hX hb_r0 dX3_wordAt_70 hM (fun hM hj10 => ?_)
            have hb11 : (4 * r0 + v3.toNatClampNeg) < 12 := zix hb_r0 hj10
            refine v_iload C 4 dX3_wordAt_71 rfl ?_
            refine v_aload_n C 0 dX3_wordAt_73 rfl rfl ?_
            refine gf_RX3_33 C hX hb_r0 dX3_wordAt_74 ?_
            refine v_iload_n C 1 dX3_wordAt_77 rfl rfl ?_
            obtain ⟨x12, g13, e14, hM⟩ := zc_elim hM
            refine v_callVNi (ci := 2) (rest := [(.inl x3), (.inr (.inl (4, (4 * r0 + v3.toNatClampNeg))))]) C (c_X2_offsetOf hX (by decide) e14) mw_X2_offsetOf mi_X2_offsetOf ml_RX3_168 hX.symm (zm1 (by decide)) rfl rfl ⟨by decide, Nat.le_of_ble_eq_true rfl⟩ rfl (Nat.le_of_ble_eq_true rfl) dX3_wordAt_78 rfl ?_
            obtain ⟨x15, g16, e17, hM⟩ := zc_elim hM
            refine v_callVNi (ci := 0) (rest := []) C (c_X0_wordIn hX hb11 e17) mw_X0_wordIn mi_X0_wordIn ml_RX3_171 hX.symm (zm4 hb11) rfl rfl ⟨by decide, Nat.le_of_ble_eq_true rfl⟩ rfl (Nat.le_of_ble_eq_true rfl) dX3_wordAt_81 rfl ?_
            exact v_iret2 C hr dX3_wordAt_84 hM

theorem c_X3_wordAt {X : zX} (hX : zfl X = false) {r0 : Nat} {v1 : Int32} {g gr : zG} {rr : Int32} (hb_r0 : r0 < 3) (hM : X3_wordAt r0 v1 g = some (rr, gr)) : MC X yX3_wordAt cX3_wordAt 5 (some .int) 1 [.inr (.inl (3, r0)), .inl v1] (some (.inl rr)) g gr := by
  refine MC.mk (own := RX3) (L := [some (.inr (.inl (3, r0))), some (.inl v1), none, none, none]) (by decide) rfl trivial (Nat.le_of_ble_eq_true rfl) rfl ?_
  intro p l e s m args below meth c C hr
  unfold X3_wordAt at hM
  refine v_aload_n C 0 dX3_wordAt_0 rfl rfl ?_
  refine gf_RX3_33 C hX hb_r0 dX3_wordAt_1 ?_
  refine v_iload_n C 1 dX3_wordAt_4 rfl rfl ?_
  obtain ⟨x1, g2, e3, hM⟩ := zc_elim hM
  refine v_callVNi (ci := 2) (rest := []) C (c_X2_lineOf hX (by decide) e3) mw_X2_lineOf mi_X2_lineOf ml_RX3_161 hX.symm (zm1 (by decide)) rfl rfl ⟨by decide, Nat.le_of_ble_eq_true rfl⟩ rfl (Nat.le_of_ble_eq_true rfl) dX3_wordAt_5 rfl ?_
  refine v_istore_n (L' := [some (.inr (.inl (3, r0))), some (.inl v1), some (.inl x1), none, none]) C 2 dX3_wordAt_8 rfl (by decide) rfl ?_
  refine v_iconst C (nI 0) dX3_wordAt_9 zk_0 ?_
  refine v_istore_n (L' := [some (.inr (.inl (3, r0))), some (.inl v1), some (.inl x1), some (.inl (nI 0)), none]) C 3 dX3_wordAt_10 rfl (by decide) rfl ?_
  exact t_X3_wordAt_l11 hX C hr  _ g2 hb_r0 hM

theorem t_X3_countInAll_b33 {r0 : Nat} {v1 : Int32} {v2 : Int32} {v3 : Int32} {k4 : Nat → Int32 → Int32 → Int32 → zG → Option (Int32 × zG)} {g : zG} (hX : zfl X = false) (C : Cx X p (zrm 0) s m args meth c cX3_countInAll 4 RX3 0 0) (hr : meth.sig.returnType = (some .int)) (hb_r0 : r0 < 3) (hk4 : ∀ (r0 : Nat) (v1 : Int32) (v2 : Int32) (v3 : Int32) (g : zG), r0 < 3 →  k4 r0 v1 v2 v3 g = some (rr, gr) → V X p l e (zrm 0) s m args below meth c 4 0 0 (MQ below (zQ X (Option.map (zM X) (some (.inl rr))) gr) args s 0 0 (zF X)) g 4 [some (.inr (.inl (3, r0))), some (.inl v1), some (.inl v2), some (.inl v3)] []) (hM : X3_countInAll_b33 k4 r0 v1 v2 v3 g = some (rr, gr)) : V X p l e (zrm 0) s m args below meth c 4 0 0 (MQ below (zQ X (Option.map (zM X) (some (.inl rr))) gr) args s 0 0 (zF X)) g 33 [some (.inr (.inl (3, r0))), some (.inl v1), some (.inl v2), some (.inl v3)] [] := by
  unfold X3_countInAll_b33 at hM
  refine v_iinc (L' := [some (.inr (.inl (3, r0))), some (.inl v1), some (.inl v2), some (.inl (v3 + (nI 1)))]) C 3 (nI 1) dX3_countInAll_33 zk_1 (by decide) rfl rfl ?_
  refine v_goto C 4 dX3_countInAll_36 rfl ?_
  exact hk4 r0 v1 v2 (v3 + (nI 1)) g hb_r0 hM

theorem t_X3_countInAll_l4  (hX : zfl X = false) (C : Cx X p (zrm 0) s m args meth c cX3_countInAll 4 RX3 0 0) (hr : meth.sig.returnType = (some .int))  : ∀ (n : Nat) {r0 : Nat} {v1 : Int32} {v2 : Int32} {v3 : Int32} (g : zG), r0 < 3 → X3_countInAll_l4  n r0 v1 v2 v3 g = some (rr, gr) → V X p l e (zrm 0) s m args below meth c 4 0 0 (MQ below (zQ X (Option.map (zM X) (some (.inl rr))) gr) args s 0 0 (zF X)) g 4 [some (.inr (.inl (3, r0))), some (.inl v1), some (.inl v2), some (.inl v3)] [] := by
  intro n
  induction n with
  | zero =>
    intro r0 v1 v2 v3 g hb_r0 hM
    exact absurd (show (none : Option (Int32 × zG)) = some (rr, gr) from hM) (by simp)
  | succ n ih =>
    intro r0 v1 v2 v3 g hb_r0 hM
    rw [X3_countInAll_l4.eq_2] at hM
    refine v_iload_n C 3 dX3_countInAll_4 rfl rfl ?_
    refine v_iconst C (nI 4) dX3_countInAll_5 zk_4 ?_
    refine v_icmp_ge C 39 dX3_countInAll_6 rfl hM (fun hM => ?_) (fun hM => ?_)
    · refine v_iload_n C 2 dX3_countInAll_39 rfl rfl ?_
      exact v_iret2 C hr dX3_countInAll_40 hM
    · refine v_iload_n C 1 dX3_countInAll_9 rfl rfl ?_
      refine v_if_lt C 33 dX3_countInAll_10 rfl hM (fun hM => ?_) (fun hM => ?_)
      · exact t_X3_countInAll_b33 hX C hr hb_r0 (fun r0 v1 v2 v3 g hb_r0 hM => ih g hb_r0 hM) hM
      · refine v_iload_n C 1 dX3_countInAll_13 rfl rfl ?_
        refine v_bipush C (nI 7) dX3_countInAll_14 zkb_7 ?_
        refine v_icmp_ge C 33 dX3_countInAll_16 rfl hM (fun hM => ?_) (fun hM => ?_)
        · exact t_X3_countInAll_b33 hX C hr hb_r0 (fun r0 v1 v2 v3 g hb_r0 hM => ih g hb_r0 hM) hM
        · refine v_iload_n C 2 dX3_countInAll_19 rfl rfl ?_
          refine v_aload_n C 0 dX3_countInAll_20 rfl rfl ?_
          refine gf_RX3_23 C hX hb_r0 dX3_countInAll_21 ?_
          refine v_iload_n C 3 dX3_countInAll_24 rfl rfl ?_
          refine aa_19 C hX hb_r0 dX3_countInAll_25 hM (fun hM hj1 => ?_)
          have hb2 : (4 * r0 + v3.toNatClampNeg) < 12 := zix hb_r0 hj1
          refine gf_RX3_127 C hX hb2 dX3_countInAll_26 ?_
          refine v_iload_n C 1 dX3_countInAll_29 rfl rfl ?_
          refine ia_28 C hX hb2 dX3_countInAll_30 hM (fun hM _ => ?_)
          refine v_iadd C dX3_countInAll_31 ?_
          refine v_istore_n (L' := [some (.inr (.inl (3, r0))), some (.inl v1), some (.inl (v2 + (g 28 (4 * r0 + v3.toNatClampNeg) v1.toNatClampNeg))), some (.inl v3)]) C 2 dX3_countInAll_32 rfl (by decide) rfl ?_
          exact t_X3_countInAll_b33 hX C hr hb_r0 (fun r0 v1 v2 v3 g hb_r0 hM => ih g hb_r0 hM) hM

theorem c_X3_countInAll {X : zX} (hX : zfl X = false) {r0 : Nat} {v1 : Int32} {g gr : zG} {rr : Int32} (hb_r0 : r0 < 3) (hM : X3_countInAll r0 v1 g = some (rr, gr)) : MC X yX3_countInAll cX3_countInAll 4 (some .int) 0 [.inr (.inl (3, r0)), .inl v1] (some (.inl rr)) g gr := by
  refine MC.mk (own := RX3) (L := [some (.inr (.inl (3, r0))), some (.inl v1), none, none]) (by decide) rfl trivial (Nat.le_of_ble_eq_true rfl) rfl ?_
  intro p l e s m args below meth c C hr
  unfold X3_countInAll at hM
  refine v_iconst C (nI 0) dX3_countInAll_0 zk_0 ?_
  refine v_istore_n (L' := [some (.inr (.inl (3, r0))), some (.inl v1), some (.inl (nI 0)), none]) C 2 dX3_countInAll_1 rfl (by decide) rfl ?_
  refine v_iconst C (nI 0) dX3_countInAll_2 zk_0 ?_
  refine v_istore_n (L' := [some (.inr (.inl (3, r0))), some (.inl v1), some (.inl (nI 0)), some (.inl (nI 0))]) C 3 dX3_countInAll_3 rfl (by decide) rfl ?_
  exact t_X3_countInAll_l4 hX C hr  _ g hb_r0 hM

theorem c_X4_startOver {X : zX} (hX : zfl X = false)  {g gr : zG} {rr : Int32}  (hM : X4_startOver  g = some (rr, gr)) : MC X yX4_startOver cX4_startOver 1 none 1 [.inr (.inl (6, 0))] none g gr := by
  refine MC.mk (own := RX4) (L := [some (.inr (.inl (6, 0)))]) (by decide) rfl trivial (Nat.le_of_ble_eq_true rfl) rfl ?_
  intro p l e s m args below meth c C hr
  unfold X4_startOver at hM
  refine v_aload_n C 0 dX4_startOver_0 rfl rfl ?_
  refine gf_RX4_15 C hX dX4_startOver_1 ?_
  refine gf_RX4_19 C hX (by decide) dX4_startOver_4 ?_
  refine v_iconst C (nI 0) dX4_startOver_7 zk_0 ?_
  refine v_aload_n C 0 dX4_startOver_8 rfl rfl ?_
  refine gf_RX4_9 C hX dX4_startOver_9 ?_
  refine v_iconst C (nI 0) dX4_startOver_12 zk_0 ?_
  refine v_bipush C (nI 64) dX4_startOver_13 zkb_64 ?_
  refine v_copy0 (n := 64) C hX.symm hX.symm zm29 rfl (zm15 (by decide)) rfl (by decide) (by decide) (by decide) ml_RX4_24 znat zstt zsys ⟨by decide, Nat.le_of_ble_eq_true rfl⟩ dX4_startOver_15 hM (fun g1 hM => ?_)
  refine v_aload_n C 0 dX4_startOver_18 rfl rfl ?_
  refine v_iconst C (nI 0) dX4_startOver_19 zk_0 ?_
  refine pf_RX4_30 C hX dX4_startOver_20 hM (fun g2 hM => ?_)
  refine v_aload_n C 0 dX4_startOver_23 rfl rfl ?_
  refine v_iconst C (nI 0) dX4_startOver_24 zk_0 ?_
  refine pf_RX4_34 C hX dX4_startOver_25 hM (fun g3 hM => ?_)
  refine v_aload_n C 0 dX4_startOver_28 rfl rfl ?_
  refine v_iconst C (nI 0) dX4_startOver_29 zk_0 ?_
  refine pf_RX4_37 C hX dX4_startOver_30 hM (fun g4 hM => ?_)
  refine v_aload_n C 0 dX4_startOver_33 rfl rfl ?_
  refine v_iconst C (nI 1) dX4_startOver_34 zk_1 ?_
  refine pf_RX4_40 C hX dX4_startOver_35 hM (fun g5 hM => ?_)
  exact v_vret2 C hr dX4_startOver_38 hM

theorem c_J9_max_7cf53 {X : zX} (hX : zfl X = false) {v0 : Int32} {v1 : Int32} {g gr : zG} {rr : Int32}  (hM : J9_max_7cf53 v0 v1 g = some (rr, gr)) : MC X yJ9_max_7cf53 cJ9_max_7cf53 2 (some .int) 0 [.inl v0, .inl v1] (some (.inl rr)) g gr := by
  refine MC.mkF (own := RJ9) (L := [some (.inl v0), some (.inl v1)]) (by decide +kernel) rfl trivial (Nat.le_of_ble_eq_true rfl) rfl ?_
  intro p l e s m args below meth c C hr
  unfold J9_max_7cf53 at hM
  refine v_iload_n C 0 dJ9_max_7cf53_0 rfl rfl ?_
  refine v_iload_n C 1 dJ9_max_7cf53_1 rfl rfl ?_
  refine v_icmp_lt C 9 dJ9_max_7cf53_2 rfl hM (fun hM => ?_) (fun hM => ?_)
  · refine v_iload_n C 1 dJ9_max_7cf53_9 rfl rfl ?_
    exact v_iret2 C hr dJ9_max_7cf53_10 hM
  · refine v_iload_n C 0 dJ9_max_7cf53_5 rfl rfl ?_
    refine v_goto C 10 dJ9_max_7cf53_6 rfl ?_
    exact v_iret2 C hr dJ9_max_7cf53_10 hM

theorem t_X4_widen_b50 {v1 : Int32} {v2 : Int32} {v3 : Int32} {k17 : Int32 → Int32 → Int32 → zG → Option (Int32 × zG)} {g : zG} (hX : zfl X = false) (C : Cx X p (zrm 1) s m args meth c cX4_widen 4 RX4 0 0) (hr : meth.sig.returnType = none)  (hk17 : ∀ (v1 : Int32) (v2 : Int32) (v3 : Int32) (g : zG),  k17 v1 v2 v3 g = some (rr, gr) → V X p l e (zrm 1) s m args below meth c 4 0 0 (MQ below (zQ X (Option.map (zM X) none) gr) args s 0 0 (zF X)) g 17 [some (.inr (.inl (6, 0))), some (.inl v1), some (.inl v2), some (.inl v3)] []) (hM : X4_widen_b50 k17 v1 v2 v3 g = some (rr, gr)) : V X p l e (zrm 1) s m args below meth c 4 0 0 (MQ below (zQ X (Option.map (zM X) none) gr) args s 0 0 (zF X)) g 50 [some (.inr (.inl (6, 0))), some (.inl v1), some (.inl v2), some (.inl v3)] [] := by
  unfold X4_widen_b50 at hM
  refine v_iinc (L' := [some (.inr (.inl (6, 0))), some (.inl v1), some (.inl v2), some (.inl (v3 + (nI 1)))]) C 3 (nI 1) dX4_widen_50 zk_1 (by decide) rfl rfl ?_
  refine v_goto C 17 dX4_widen_53 rfl ?_
  exact hk17 v1 v2 (v3 + (nI 1)) g  hM

theorem t_X4_widen_l17 {k2 : Int32 → zG → Option (Int32 × zG)} (hX : zfl X = false) (C : Cx X p (zrm 1) s m args meth c cX4_widen 4 RX4 0 0) (hr : meth.sig.returnType = none) (hk2 : ∀ (v1 : Int32) (g : zG),  k2 v1 g = some (rr, gr) → V X p l e (zrm 1) s m args below meth c 4 0 0 (MQ below (zQ X (Option.map (zM X) none) gr) args s 0 0 (zF X)) g 2 [some (.inr (.inl (6, 0))), some (.inl v1), none, none] []) : ∀ (n : Nat) {v1 : Int32} {v2 : Int32} {v3 : Int32} (g : zG), X4_widen_l17 k2 n v1 v2 v3 g = some (rr, gr) → V X p l e (zrm 1) s m args below meth c 4 0 0 (MQ below (zQ X (Option.map (zM X) none) gr) args s 0 0 (zF X)) g 17 [some (.inr (.inl (6, 0))), some (.inl v1), some (.inl v2), some (.inl v3)] [] := by
  intro n
  induction n with
  | zero =>
    intro v1 v2 v3 g  hM
    exact absurd (show (none : Option (Int32 × zG)) = some (rr, gr) from hM) (by simp)
  | succ n ih =>
    intro v1 v2 v3 g  hM
    rw [X4_widen_l17.eq_2] at hM
    refine v_iload_n C 3 dX4_widen_17 rfl rfl ?_
    refine v_bipush C (nI 16) dX4_widen_18 zkb_16 ?_
    refine v_icmp_gt C 56 dX4_widen_20 rfl hM (fun hM => ?_) (fun hM => ?_)
    · refine v_aload_n C 0 dX4_widen_56 rfl rfl ?_
      refine v_aload_n C 0 dX4_widen_57 rfl rfl ?_
      refine gf_RX4_40 C hX dX4_widen_58 ?_
      refine v_iload_n C 2 dX4_widen_61 rfl rfl ?_
      obtain ⟨x1, g2, e3, hM⟩ := zc_elim hM
      refine v_callSi (rest := [(.inr (.inl (6, 0)))]) C (c_J9_max_7cf53 hX  e3) mw_J9_max_7cf53 ms_J9_max_7cf53 ml_RX4_84 ⟨by decide, Nat.le_of_ble_eq_true rfl⟩ rfl (Nat.le_of_ble_eq_true rfl) dX4_widen_62 rfl ?_
      refine pf_RX4_40 C hX dX4_widen_65 hM (fun g4 hM => ?_)
      refine v_iinc (L' := [some (.inr (.inl (6, 0))), some (.inl (v1 + (nI 1))), some (.inl v2), some (.inl v3)]) C 1 (nI 1) dX4_widen_68 zk_1 (by decide) rfl rfl ?_
      refine v_goto C 2 dX4_widen_71 rfl ?_
      exact v_weak (hk2 (v1 + (nI 1)) g4  hM) (show zsub [some (.inr (.inl (6, 0))), some (.inl (v1 + (nI 1))), none, none] [some (.inr (.inl (6, 0))), some (.inl (v1 + (nI 1))), some (.inl v2), some (.inl v3)] from ⟨rfl, ⟨rfl, trivial⟩⟩)
    · refine v_aload_n C 0 dX4_widen_23 rfl rfl ?_
      refine gf_RX4_15 C hX dX4_widen_24 ?_
      refine v_iload_n C 3 dX4_widen_27 rfl rfl ?_
      obtain ⟨x5, g6, e7, hM⟩ := zc_elim hM
      refine v_callVNi (ci := 2) (rest := []) C (c_X2_setOf hX (by decide) e7) mw_X2_setOf mi_X2_setOf ml_RX4_81 hX.symm (zm1 (by decide)) rfl rfl ⟨by decide, Nat.le_of_ble_eq_true rfl⟩ rfl (Nat.le_of_ble_eq_true rfl) dX4_widen_28 rfl ?_
      refine v_iload_n C 1 dX4_widen_31 rfl rfl ?_
      refine v_icmp_ne C 50 dX4_widen_32 rfl hM (fun hM => ?_) (fun hM => ?_)
      · exact t_X4_widen_b50 hX C hr  (fun v1 v2 v3 g  hM => ih g  hM) hM
      · refine v_aload_n C 0 dX4_widen_35 rfl rfl ?_
        refine gf_RX4_37 C hX dX4_widen_36 ?_
        refine v_iload_n C 3 dX4_widen_39 rfl rfl ?_
        refine v_ishr C dX4_widen_40 ?_
        refine v_iconst C (nI 1) dX4_widen_41 zk_1 ?_
        refine v_iand C dX4_widen_42 ?_
        refine v_iconst C (nI 1) dX4_widen_43 zk_1 ?_
        refine v_icmp_ne C 50 dX4_widen_44 rfl hM (fun hM => ?_) (fun hM => ?_)
        · exact t_X4_widen_b50 hX C hr  (fun v1 v2 v3 g  hM => ih g  hM) hM
        · refine v_iinc (L' := [some (.inr (.inl (6, 0))), some (.inl v1), some (.inl (v2 + (nI 1))), some (.inl v3)]) C 2 (nI 1) dX4_widen_47 zk_1 (by decide) rfl rfl ?_
          exact t_X4_widen_b50 hX C hr  (fun v1 v2 v3 g  hM => ih g  hM) hM

theorem t_X4_widen_l2  (hX : zfl X = false) (C : Cx X p (zrm 1) s m args meth c cX4_widen 4 RX4 0 0) (hr : meth.sig.returnType = none)  : ∀ (n : Nat) {v1 : Int32} (g : zG), X4_widen_l2  n v1 g = some (rr, gr) → V X p l e (zrm 1) s m args below meth c 4 0 0 (MQ below (zQ X (Option.map (zM X) none) gr) args s 0 0 (zF X)) g 2 [some (.inr (.inl (6, 0))), some (.inl v1), none, none] [] := by
  intro n
  induction n with
  | zero =>
    intro v1 g  hM
    exact absurd (show (none : Option (Int32 × zG)) = some (rr, gr) from hM) (by simp)
  | succ n ih =>
    intro v1 g  hM
    rw [X4_widen_l2.eq_2] at hM
    refine v_iload_n C 1 dX4_widen_2 rfl rfl ?_
    refine v_aload_n C 0 dX4_widen_3 rfl rfl ?_
    refine gf_RX4_15 C hX dX4_widen_4 ?_
    refine gf_RX4_78 C hX (by decide) dX4_widen_7 ?_
    refine v_icmp_ge C 74 dX4_widen_10 rfl hM (fun hM => ?_) (fun hM => ?_)
    · exact v_vret2 C hr dX4_widen_74 hM
    · refine v_iconst C (nI 0) dX4_widen_13 zk_0 ?_
      refine v_istore_n (L' := [some (.inr (.inl (6, 0))), some (.inl v1), some (.inl (nI 0)), none]) C 2 dX4_widen_14 rfl (by decide) rfl ?_
      refine v_iconst C (nI 0) dX4_widen_15 zk_0 ?_
      refine v_istore_n (L' := [some (.inr (.inl (6, 0))), some (.inl v1), some (.inl (nI 0)), some (.inl (nI 0))]) C 3 dX4_widen_16 rfl (by decide) rfl ?_
      exact t_X4_widen_l17 hX C hr (fun v1 g  hM => ih g  hM) _ g  hM

theorem c_X4_widen {X : zX} (hX : zfl X = false)  {g gr : zG} {rr : Int32}  (hM : X4_widen  g = some (rr, gr)) : MC X yX4_widen cX4_widen 4 none 1 [.inr (.inl (6, 0))] none g gr := by
  refine MC.mk (own := RX4) (L := [some (.inr (.inl (6, 0))), none, none, none]) (by decide) rfl trivial (Nat.le_of_ble_eq_true rfl) rfl ?_
  intro p l e s m args below meth c C hr
  unfold X4_widen at hM
  refine v_iconst C (nI 0) dX4_widen_0 zk_0 ?_
  refine v_istore_n (L' := [some (.inr (.inl (6, 0))), some (.inl (nI 0)), none, none]) C 1 dX4_widen_1 rfl (by decide) rfl ?_
  exact t_X4_widen_l2 hX C hr  _ g  hM

theorem c_X4_touch {X : zX} (hX : zfl X = false) {v1 : Int32} {v2 : Int32} {g gr : zG} {rr : Int32}  (hM : X4_touch v1 v2 g = some (rr, gr)) : MC X yX4_touch cX4_touch 4 (some .int) 3 [.inr (.inl (6, 0)), .inl v1, .inl v2] (some (.inl rr)) g gr := by
  refine MC.mk (own := RX4) (L := [some (.inr (.inl (6, 0))), some (.inl v1), some (.inl v2), none]) (by decide) rfl trivial (Nat.le_of_ble_eq_true rfl) rfl ?_
  intro p l e s m args below meth c C hr
  unfold X4_touch at hM
  refine v_aload_n C 0 dX4_touch_0 rfl rfl ?_
  refine gf_RX4_15 C hX dX4_touch_1 ?_
  refine v_iload_n C 1 dX4_touch_4 rfl rfl ?_
  refine v_iload_n C 2 dX4_touch_5 rfl rfl ?_
  refine v_aload_n C 0 dX4_touch_6 rfl rfl ?_
  refine gf_RX4_34 C hX dX4_touch_7 ?_
  obtain ⟨x1, g2, e3, hM⟩ := zc_elim hM
  refine v_callVNi (ci := 2) (rest := []) C (c_X2_addressOf hX (by decide) e3) mw_X2_addressOf mi_X2_addressOf ml_RX4_70 hX.symm (zm1 (by decide)) rfl rfl ⟨by decide, Nat.le_of_ble_eq_true rfl⟩ rfl (Nat.le_of_ble_eq_true rfl) dX4_touch_10 rfl ?_
  refine v_istore_n (L' := [some (.inr (.inl (6, 0))), some (.inl v1), some (.inl v2), some (.inl x1)]) C 3 dX4_touch_13 rfl (by decide) rfl ?_
  refine v_aload_n C 0 dX4_touch_14 rfl rfl ?_
  refine v_dup_a C dX4_touch_15 ?_
  refine gf_RX4_37 C hX dX4_touch_16 ?_
  refine v_iconst C (nI 1) dX4_touch_19 zk_1 ?_
  refine v_aload_n C 0 dX4_touch_20 rfl rfl ?_
  refine gf_RX4_15 C hX dX4_touch_21 ?_
  refine v_iload_n C 3 dX4_touch_24 rfl rfl ?_
  obtain ⟨x4, g5, e6, hM⟩ := zc_elim hM
  refine v_callVNi (ci := 2) (rest := [(.inl (nI 1)), (.inl (g2 5006 0 0)), (.inr (.inl (6, 0)))]) C (c_X2_lineOf hX (by decide) e6) mw_X2_lineOf mi_X2_lineOf ml_RX4_74 hX.symm (zm1 (by decide)) rfl rfl ⟨by decide, Nat.le_of_ble_eq_true rfl⟩ rfl (Nat.le_of_ble_eq_true rfl) dX4_touch_25 rfl ?_
  refine v_ishl C dX4_touch_28 ?_
  refine v_ior C dX4_touch_29 ?_
  refine pf_RX4_37 C hX dX4_touch_30 hM (fun g7 hM => ?_)
  refine v_iload_n C 3 dX4_touch_33 rfl rfl ?_
  exact v_iret2 C hr dX4_touch_34 hM

theorem c_X4_playDeed {X : zX} (hX : zfl X = false) {v1 : Int32} {v2 : Int32} {g gr : zG} {rr : Int32}  (hM : X4_playDeed v1 v2 g = some (rr, gr)) : MC X yX4_playDeed cX4_playDeed 4 none 4 [.inr (.inl (6, 0)), .inl v1, .inl v2] none g gr := by
  refine MC.mk (own := RX4) (L := [some (.inr (.inl (6, 0))), some (.inl v1), some (.inl v2), none]) (by decide) rfl trivial (Nat.le_of_ble_eq_true rfl) rfl ?_
  intro p l e s m args below meth c C hr
  unfold X4_playDeed at hM
  refine v_aload_n C 0 dX4_playDeed_0 rfl rfl ?_
  refine gf_RX4_15 C hX dX4_playDeed_1 ?_
  refine v_iload_n C 1 dX4_playDeed_4 rfl rfl ?_
  refine v_iload_n C 2 dX4_playDeed_5 rfl rfl ?_
  obtain ⟨x1, g2, e3, hM⟩ := zc_elim hM
  refine v_callVNi (ci := 2) (rest := []) C (c_X2_wholeOf hX (by decide) e3) mw_X2_wholeOf mi_X2_wholeOf ml_RX4_55 hX.symm (zm1 (by decide)) rfl rfl ⟨by decide, Nat.le_of_ble_eq_true rfl⟩ rfl (Nat.le_of_ble_eq_true rfl) dX4_playDeed_6 rfl ?_
  refine v_istore_n (L' := [some (.inr (.inl (6, 0))), some (.inl v1), some (.inl v2), some (.inl x1)]) C 3 dX4_playDeed_9 rfl (by decide) rfl ?_
  refine v_aload_n C 0 dX4_playDeed_10 rfl rfl ?_
  refine gf_RX4_15 C hX dX4_playDeed_11 ?_
  refine v_iload_n C 1 dX4_playDeed_14 rfl rfl ?_
  refine v_iload_n C 2 dX4_playDeed_15 rfl rfl ?_
  obtain ⟨x4, g5, e6, hM⟩ := zc_elim hM
  refine v_callVNi (ci := 2) (rest := []) C (c_X2_sortOf hX (by decide) e6) mw_X2_sortOf mi_X2_sortOf ml_RX4_51 hX.symm (zm1 (by decide)) rfl rfl ⟨by decide, Nat.le_of_ble_eq_true rfl⟩ rfl (Nat.le_of_ble_eq_true rfl) dX4_playDeed_16 rfl ?_
  by_cases hx0 : x4 = (nI 0)
  · rw [if_pos hx0] at hM
    refine v_tblIn C 56 0 dX4_playDeed_19 (by rw [hx0]; rfl) (by decide) (by decide) rfl rfl ?_
    refine v_aload_n C 0 dX4_playDeed_56 rfl rfl ?_
    refine v_iconst C (nI 0) dX4_playDeed_57 zk_0 ?_
    refine pf_RX4_30 C hX dX4_playDeed_58 hM (fun g7 hM => ?_)
    refine v_aload_n C 0 dX4_playDeed_61 rfl rfl ?_
    refine v_iconst C (nI 0) dX4_playDeed_62 zk_0 ?_
    refine pf_RX4_34 C hX dX4_playDeed_63 hM (fun g8 hM => ?_)
    refine v_aload_n C 0 dX4_playDeed_66 rfl rfl ?_
    refine v_ldc C (nI 65536) dX4_playDeed_67 kc_RX4_58 ?_
    refine pf_RX4_37 C hX dX4_playDeed_69 hM (fun g9 hM => ?_)
    refine v_goto C 164 dX4_playDeed_72 rfl ?_
    exact v_vret2 C hr dX4_playDeed_164 hM
  rw [if_neg hx0] at hM
  by_cases hx1 : x4 = (nI 1)
  · rw [if_pos hx1] at hM
    refine v_tblIn C 75 1 dX4_playDeed_19 (by rw [hx1]; rfl) (by decide) (by decide) rfl rfl ?_
    refine v_aload_n C 0 dX4_playDeed_75 rfl rfl ?_
    obtain ⟨x10, g11, e12, hM⟩ := zc_elim hM
    refine v_callVv (ci := 4) (rest := []) C (c_X4_widen hX  e12) mw_X4_widen mi_X4_widen ml_RX4_59 hX.symm zm6 rfl rfl ⟨by decide, Nat.le_of_ble_eq_true rfl⟩ rfl (Nat.le_of_ble_eq_true rfl) dX4_playDeed_76 rfl ?_
    refine v_goto C 164 dX4_playDeed_79 rfl ?_
    exact v_vret2 C hr dX4_playDeed_164 hM
  rw [if_neg hx1] at hM
  by_cases hx2 : x4 = (nI 2)
  · rw [if_pos hx2] at hM
    refine v_tblIn C 82 2 dX4_playDeed_19 (by rw [hx2]; rfl) (by decide) (by decide) rfl rfl ?_
    refine v_aload_n C 0 dX4_playDeed_82 rfl rfl ?_
    refine v_aload_n C 0 dX4_playDeed_83 rfl rfl ?_
    refine gf_RX4_30 C hX dX4_playDeed_84 ?_
    refine pf_RX4_34 C hX dX4_playDeed_87 hM (fun g13 hM => ?_)
    refine v_goto C 164 dX4_playDeed_90 rfl ?_
    exact v_vret2 C hr dX4_playDeed_164 hM
  rw [if_neg hx2] at hM
  by_cases hx3 : x4 = (nI 3)
  · rw [if_pos hx3] at hM
    refine v_tblIn C 93 3 dX4_playDeed_19 (by rw [hx3]; rfl) (by decide) (by decide) rfl rfl ?_
    refine v_aload_n C 0 dX4_playDeed_93 rfl rfl ?_
    refine v_aload_n C 0 dX4_playDeed_94 rfl rfl ?_
    refine gf_RX4_9 C hX dX4_playDeed_95 ?_
    refine v_aload_n C 0 dX4_playDeed_98 rfl rfl ?_
    refine v_iload_n C 1 dX4_playDeed_99 rfl rfl ?_
    refine v_iload_n C 2 dX4_playDeed_100 rfl rfl ?_
    obtain ⟨x14, g15, e16, hM⟩ := zc_elim hM
    refine v_callVi (ci := 4) (rest := [(.inr (.inl (29, 0))), (.inr (.inl (6, 0)))]) C (c_X4_touch hX  e16) mw_X4_touch mi_X4_touch ml_RX4_62 hX.symm zm6 rfl rfl ⟨by decide, Nat.le_of_ble_eq_true rfl⟩ rfl (Nat.le_of_ble_eq_true rfl) dX4_playDeed_101 rfl ?_
    refine ia_29 C hX dX4_playDeed_104 hM (fun hM _ => ?_)
    refine pf_RX4_30 C hX dX4_playDeed_105 hM (fun g17 hM => ?_)
    refine v_goto C 164 dX4_playDeed_108 rfl ?_
    exact v_vret2 C hr dX4_playDeed_164 hM
  rw [if_neg hx3] at hM
  by_cases hx4 : x4 = (nI 4)
  · rw [if_pos hx4] at hM
    refine v_tblIn C 111 4 dX4_playDeed_19 (by rw [hx4]; rfl) (by decide) (by decide) rfl rfl ?_
    refine v_aload_n C 0 dX4_playDeed_111 rfl rfl ?_
    refine gf_RX4_9 C hX dX4_playDeed_112 ?_
    refine v_aload_n C 0 dX4_playDeed_115 rfl rfl ?_
    refine v_iload_n C 1 dX4_playDeed_116 rfl rfl ?_
    refine v_iload_n C 2 dX4_playDeed_117 rfl rfl ?_
    obtain ⟨x18, g19, e20, hM⟩ := zc_elim hM
    refine v_callVi (ci := 4) (rest := [(.inr (.inl (29, 0)))]) C (c_X4_touch hX  e20) mw_X4_touch mi_X4_touch ml_RX4_62 hX.symm zm6 rfl rfl ⟨by decide, Nat.le_of_ble_eq_true rfl⟩ rfl (Nat.le_of_ble_eq_true rfl) dX4_playDeed_118 rfl ?_
    refine v_aload_n C 0 dX4_playDeed_121 rfl rfl ?_
    refine gf_RX4_30 C hX dX4_playDeed_122 ?_
    refine is_29 C hX dX4_playDeed_125 hM (fun g21 hM => ?_)
    refine v_goto C 164 dX4_playDeed_126 rfl ?_
    exact v_vret2 C hr dX4_playDeed_164 hM
  rw [if_neg hx4] at hM
  by_cases hx5 : x4 = (nI 5)
  · rw [if_pos hx5] at hM
    refine v_tblIn C 129 5 dX4_playDeed_19 (by rw [hx5]; rfl) (by decide) (by decide) rfl rfl ?_
    refine v_aload_n C 0 dX4_playDeed_129 rfl rfl ?_
    refine v_aload_n C 0 dX4_playDeed_130 rfl rfl ?_
    refine gf_RX4_30 C hX dX4_playDeed_131 ?_
    refine v_iload_n C 3 dX4_playDeed_134 rfl rfl ?_
    refine v_iadd C dX4_playDeed_135 ?_
    refine v_sipush C (nI 1000) dX4_playDeed_136 zks_1000 ?_
    obtain ⟨x22, g23, e24, hM⟩ := zc_elim hM
    refine v_callSi (rest := [(.inr (.inl (6, 0)))]) C (c_J9_floorMod_7cf53 hX  e24) mw_J9_floorMod_7cf53 ms_J9_floorMod_7cf53 ml_RX4_65 ⟨by decide, Nat.le_of_ble_eq_true rfl⟩ rfl (Nat.le_of_ble_eq_true rfl) dX4_playDeed_139 rfl ?_
    refine pf_RX4_30 C hX dX4_playDeed_142 hM (fun g25 hM => ?_)
    refine v_goto C 164 dX4_playDeed_145 rfl ?_
    exact v_vret2 C hr dX4_playDeed_164 hM
  rw [if_neg hx5] at hM
  refine v_tblOut C 148 dX4_playDeed_19 (ztbl 6 rfl (by intro k hk; match k, hk with | 0, _ => exact hx0 | 1, _ => exact hx1 | 2, _ => exact hx2 | 3, _ => exact hx3 | 4, _ => exact hx4 | 5, _ => exact hx5 | k + 6, hk => omega)) rfl ?_
  refine v_aload_n C 0 dX4_playDeed_148 rfl rfl ?_
  refine v_aload_n C 0 dX4_playDeed_149 rfl rfl ?_
  refine gf_RX4_30 C hX dX4_playDeed_150 ?_
  refine v_iload_n C 3 dX4_playDeed_153 rfl rfl ?_
  refine v_isub C dX4_playDeed_154 ?_
  refine v_sipush C (nI 1000) dX4_playDeed_155 zks_1000 ?_
  obtain ⟨x26, g27, e28, hM⟩ := zc_elim hM
  refine v_callSi (rest := [(.inr (.inl (6, 0)))]) C (c_J9_floorMod_7cf53 hX  e28) mw_J9_floorMod_7cf53 ms_J9_floorMod_7cf53 ml_RX4_65 ⟨by decide, Nat.le_of_ble_eq_true rfl⟩ rfl (Nat.le_of_ble_eq_true rfl) dX4_playDeed_158 rfl ?_
  refine pf_RX4_30 C hX dX4_playDeed_161 hM (fun g29 hM => ?_)
  exact v_vret2 C hr dX4_playDeed_164 hM

theorem t_X4_play_b49 {v1 : Int32} {v3 : Int32} {v4 : Int32} {k3 : Int32 → Int32 → Int32 → zG → Option (Int32 × zG)} {g : zG} (hX : zfl X = false) (C : Cx X p (zrm 5) s m args meth c cX4_play 5 RX4 0 0) (hr : meth.sig.returnType = none)  (hk3 : ∀ (v1 : Int32) (v3 : Int32) (v4 : Int32) (g : zG),  k3 v1 v3 v4 g = some (rr, gr) → V X p l e (zrm 5) s m args below meth c 5 0 0 (MQ below (zQ X (Option.map (zM X) none) gr) args s 0 0 (zF X)) g 3 [some (.inr (.inl (6, 0))), some (.inl v1), none, some (.inl v3), some (.inl v4)] []) (hM : X4_play_b49 k3 v1 v3 v4 g = some (rr, gr)) : V X p l e (zrm 5) s m args below meth c 5 0 0 (MQ below (zQ X (Option.map (zM X) none) gr) args s 0 0 (zF X)) g 49 [some (.inr (.inl (6, 0))), some (.inl v1), none, some (.inl v3), some (.inl v4)] [] := by
  unfold X4_play_b49 at hM
  refine v_iinc (L' := [some (.inr (.inl (6, 0))), some (.inl v1), none, some (.inl v3), some (.inl (v4 + (nI 1)))]) C 4 (nI 1) dX4_play_49 zk_1 (by decide) rfl rfl ?_
  refine v_goto C 3 dX4_play_52 rfl ?_
  exact hk3 v1 v3 (v4 + (nI 1)) g  hM

theorem t_X4_play_l3  (hX : zfl X = false) (C : Cx X p (zrm 5) s m args meth c cX4_play 5 RX4 0 0) (hr : meth.sig.returnType = none)  : ∀ (n : Nat) {v1 : Int32} {v3 : Int32} {v4 : Int32} (g : zG), X4_play_l3  n v1 v3 v4 g = some (rr, gr) → V X p l e (zrm 5) s m args below meth c 5 0 0 (MQ below (zQ X (Option.map (zM X) none) gr) args s 0 0 (zF X)) g 3 [some (.inr (.inl (6, 0))), some (.inl v1), none, some (.inl v3), some (.inl v4)] [] := by
  intro n
  induction n with
  | zero =>
    intro v1 v3 v4 g  hM
    exact absurd (show (none : Option (Int32 × zG)) = some (rr, gr) from hM) (by simp)
  | succ n ih =>
    intro v1 v3 v4 g  hM
    rw [X4_play_l3.eq_2] at hM
    refine v_iload C 4 dX4_play_3 rfl ?_
    refine v_bipush C (nI 24) dX4_play_5 zkb_24 ?_
    refine v_icmp_ge C 55 dX4_play_7 rfl hM (fun hM => ?_) (fun hM => ?_)
    · exact v_vret2 C hr dX4_play_55 hM
    · refine v_aload_n C 0 dX4_play_10 rfl rfl ?_
      refine gf_RX4_15 C hX dX4_play_11 ?_
      refine v_iload_n C 1 dX4_play_14 rfl rfl ?_
      refine v_iload C 4 dX4_play_15 rfl ?_
      obtain ⟨x1, g2, e3, hM⟩ := zc_elim hM
      refine v_callVNi (ci := 2) (rest := []) C (c_X2_hasDeed hX (by decide) e3) mw_X2_hasDeed mi_X2_hasDeed ml_RX4_43 hX.symm (zm1 (by decide)) rfl rfl ⟨by decide, Nat.le_of_ble_eq_true rfl⟩ rfl (Nat.le_of_ble_eq_true rfl) dX4_play_17 rfl ?_
      refine v_if_eq C 55 dX4_play_20 rfl hM (fun hM => ?_) (fun hM => ?_)
      · exact v_vret2 C hr dX4_play_55 hM
      · refine v_aload_n C 0 dX4_play_23 rfl rfl ?_
        refine v_iload_n C 1 dX4_play_24 rfl rfl ?_
        refine v_iload C 4 dX4_play_25 rfl ?_
        obtain ⟨x4, g5, e6, hM⟩ := zc_elim hM
        refine v_callVv (ci := 4) (rest := []) C (c_X4_playDeed hX  e6) mw_X4_playDeed mi_X4_playDeed ml_RX4_47 hX.symm zm6 rfl rfl ⟨by decide, Nat.le_of_ble_eq_true rfl⟩ rfl (Nat.le_of_ble_eq_true rfl) dX4_play_27 rfl ?_
        refine v_iload_n C 3 dX4_play_30 rfl rfl ?_
        refine v_if_eq C 49 dX4_play_31 rfl hM (fun hM => ?_) (fun hM => ?_)
        · exact t_X4_play_b49 hX C hr  (fun v1 v3 v4 g  hM => ih g  hM) hM
        · refine v_aload_n C 0 dX4_play_34 rfl rfl ?_
          refine gf_RX4_15 C hX dX4_play_35 ?_
          refine v_iload_n C 1 dX4_play_38 rfl rfl ?_
          refine v_iload C 4 dX4_play_39 rfl ?_
          obtain ⟨x7, g8, e9, hM⟩ := zc_elim hM
          refine v_callVNi (ci := 2) (rest := []) C (c_X2_sortOf hX (by decide) e9) mw_X2_sortOf mi_X2_sortOf ml_RX4_51 hX.symm (zm1 (by decide)) rfl rfl ⟨by decide, Nat.le_of_ble_eq_true rfl⟩ rfl (Nat.le_of_ble_eq_true rfl) dX4_play_41 rfl ?_
          refine v_iconst C (nI 1) dX4_play_44 zk_1 ?_
          refine v_icmp_ne C 49 dX4_play_45 rfl hM (fun hM => ?_) (fun hM => ?_)
          · exact t_X4_play_b49 hX C hr  (fun v1 v3 v4 g  hM => ih g  hM) hM
          · exact v_vret2 C hr dX4_play_48 hM

theorem c_X4_play {X : zX} (hX : zfl X = false) {v1 : Int32} {v2 : Int32} {v3 : Int32} {g gr : zG} {rr : Int32}  (hM : X4_play v1 v2 v3 g = some (rr, gr)) : MC X yX4_play cX4_play 5 none 5 [.inr (.inl (6, 0)), .inl v1, .inl v2, .inl v3] none g gr := by
  refine MC.mk (own := RX4) (L := [some (.inr (.inl (6, 0))), some (.inl v1), some (.inl v2), some (.inl v3), none]) (by decide) rfl trivial (Nat.le_of_ble_eq_true rfl) rfl ?_
  intro p l e s m args below meth c C hr
  unfold X4_play at hM
  refine v_iload_n C 2 dX4_play_0 rfl rfl ?_
  refine v_istore (L' := [some (.inr (.inl (6, 0))), some (.inl v1), some (.inl v2), some (.inl v3), some (.inl v2)]) C 4 dX4_play_1 (by decide) rfl ?_
  exact v_weak (t_X4_play_l3 hX C hr  _ g  hM) (show zsub [some (.inr (.inl (6, 0))), some (.inl v1), none, some (.inl v3), some (.inl v2)] [some (.inr (.inl (6, 0))), some (.inl v1), some (.inl v2), some (.inl v3), some (.inl v2)] from ⟨rfl, ⟨rfl, ⟨rfl, ⟨rfl, trivial⟩⟩⟩⟩)

theorem c_J9_min_7cf53 {X : zX} (hX : zfl X = false) {v0 : Int32} {v1 : Int32} {g gr : zG} {rr : Int32}  (hM : J9_min_7cf53 v0 v1 g = some (rr, gr)) : MC X yJ9_min_7cf53 cJ9_min_7cf53 2 (some .int) 0 [.inl v0, .inl v1] (some (.inl rr)) g gr := by
  refine MC.mkF (own := RJ9) (L := [some (.inl v0), some (.inl v1)]) (by decide +kernel) rfl trivial (Nat.le_of_ble_eq_true rfl) rfl ?_
  intro p l e s m args below meth c C hr
  unfold J9_min_7cf53 at hM
  refine v_iload_n C 0 dJ9_min_7cf53_0 rfl rfl ?_
  refine v_iload_n C 1 dJ9_min_7cf53_1 rfl rfl ?_
  refine v_icmp_gt C 9 dJ9_min_7cf53_2 rfl hM (fun hM => ?_) (fun hM => ?_)
  · refine v_iload_n C 1 dJ9_min_7cf53_9 rfl rfl ?_
    exact v_iret2 C hr dJ9_min_7cf53_10 hM
  · refine v_iload_n C 0 dJ9_min_7cf53_5 rfl rfl ?_
    refine v_goto C 10 dJ9_min_7cf53_6 rfl ?_
    exact v_iret2 C hr dJ9_min_7cf53_10 hM

theorem t_X5_kindOf_b28 {v0 : Int32}  {g : zG} (hX : zfl X = false) (C : Cx X p (zrm 0) s m args meth c cX5_kindOf 1 RX5 0 0) (hr : meth.sig.returnType = (some .int))   (hM : X5_kindOf_b28  v0 g = some (rr, gr)) : V X p l e (zrm 0) s m args below meth c 1 0 0 (MQ below (zQ X (Option.map (zM X) (some (.inl rr))) gr) args s 0 0 (zF X)) g 28 [some (.inl v0)] [] := by
  unfold X5_kindOf_b28 at hM
  refine v_iload_n C 0 dX5_kindOf_28 rfl rfl ?_
  refine v_bipush C (nI 59) dX5_kindOf_29 zkb_59 ?_
  refine v_icmp_ne C 38 dX5_kindOf_31 rfl hM (fun hM => ?_) (fun hM => ?_)
  · refine v_iconst C (nI 4) dX5_kindOf_38 zk_4 ?_
    exact v_iret2 C hr dX5_kindOf_39 hM
  · refine v_iconst C (nI 3) dX5_kindOf_34 zk_3 ?_
    refine v_goto C 39 dX5_kindOf_35 rfl ?_
    exact v_iret2 C hr dX5_kindOf_39 hM

theorem t_X5_kindOf_b14 {v0 : Int32}  {g : zG} (hX : zfl X = false) (C : Cx X p (zrm 0) s m args meth c cX5_kindOf 1 RX5 0 0) (hr : meth.sig.returnType = (some .int))   (hM : X5_kindOf_b14  v0 g = some (rr, gr)) : V X p l e (zrm 0) s m args below meth c 1 0 0 (MQ below (zQ X (Option.map (zM X) (some (.inl rr))) gr) args s 0 0 (zF X)) g 14 [some (.inl v0)] [] := by
  unfold X5_kindOf_b14 at hM
  refine v_iload_n C 0 dX5_kindOf_14 rfl rfl ?_
  refine v_bipush C (nI 48) dX5_kindOf_15 zkb_48 ?_
  refine v_icmp_lt C 28 dX5_kindOf_17 rfl hM (fun hM => ?_) (fun hM => ?_)
  · exact t_X5_kindOf_b28 hX C hr   hM
  · refine v_iload_n C 0 dX5_kindOf_20 rfl rfl ?_
    refine v_bipush C (nI 57) dX5_kindOf_21 zkb_57 ?_
    refine v_icmp_gt C 28 dX5_kindOf_23 rfl hM (fun hM => ?_) (fun hM => ?_)
    · exact t_X5_kindOf_b28 hX C hr   hM
    · refine v_iconst C (nI 2) dX5_kindOf_26 zk_2 ?_
      exact v_iret2 C hr dX5_kindOf_27 hM

theorem c_X5_kindOf {X : zX} (hX : zfl X = false) {v0 : Int32} {g gr : zG} {rr : Int32}  (hM : X5_kindOf v0 g = some (rr, gr)) : MC X yX5_kindOf cX5_kindOf 1 (some .int) 0 [.inl v0] (some (.inl rr)) g gr := by
  refine MC.mk (own := RX5) (L := [some (.inl v0)]) (by decide) rfl trivial (Nat.le_of_ble_eq_true rfl) rfl ?_
  intro p l e s m args below meth c C hr
  unfold X5_kindOf at hM
  refine v_iload_n C 0 dX5_kindOf_0 rfl rfl ?_
  refine v_bipush C (nI 97) dX5_kindOf_1 zkb_97 ?_
  refine v_icmp_lt C 14 dX5_kindOf_3 rfl hM (fun hM => ?_) (fun hM => ?_)
  · exact t_X5_kindOf_b14 hX C hr   hM
  · refine v_iload_n C 0 dX5_kindOf_6 rfl rfl ?_
    refine v_bipush C (nI 122) dX5_kindOf_7 zkb_122 ?_
    refine v_icmp_gt C 14 dX5_kindOf_9 rfl hM (fun hM => ?_) (fun hM => ?_)
    · exact t_X5_kindOf_b14 hX C hr   hM
    · refine v_iconst C (nI 1) dX5_kindOf_12 zk_1 ?_
      exact v_iret2 C hr dX5_kindOf_13 hM

theorem t_X5_advance_l8 {k46 : zG → Option (Int32 × zG)} (hX : zfl X = false) (C : Cx X p (zrm 1) s m args meth c cX5_advance 2 RX5 0 0) (hr : meth.sig.returnType = none) (hk46 : ∀  (g : zG),  k46  g = some (rr, gr) → V X p l e (zrm 1) s m args below meth c 2 0 0 (MQ below (zQ X (Option.map (zM X) none) gr) args s 0 0 (zF X)) g 46 [some (.inr (.inl (2, 0))), none] []) : ∀ (n : Nat)  (g : zG), X5_advance_l8 k46 n  g = some (rr, gr) → V X p l e (zrm 1) s m args below meth c 2 0 0 (MQ below (zQ X (Option.map (zM X) none) gr) args s 0 0 (zF X)) g 8 [some (.inr (.inl (2, 0))), none] [] := by
  intro n
  induction n with
  | zero =>
    intro  g  hM
    exact absurd (show (none : Option (Int32 × zG)) = some (rr, gr) from hM) (by simp)
  | succ n ih =>
    intro  g  hM
    rw [X5_advance_l8.eq_2] at hM
    refine v_aload_n C 0 dX5_advance_8 rfl rfl ?_
    refine gf_RX5_70 C hX dX5_advance_9 ?_
    refine v_aload_n C 0 dX5_advance_12 rfl rfl ?_
    refine gf_RX5_37 C hX dX5_advance_13 ?_
    refine v_icmp_ge C 46 dX5_advance_16 rfl hM (fun hM => ?_) (fun hM => ?_)
    · exact hk46  g  hM
    · refine v_aload_n C 0 dX5_advance_19 rfl rfl ?_
      refine gf_RX5_19 C hX dX5_advance_20 ?_
      refine v_aload_n C 0 dX5_advance_23 rfl rfl ?_
      refine gf_RX5_70 C hX dX5_advance_24 ?_
      refine ia_10 C hX dX5_advance_27 hM (fun hM _ => ?_)
      refine v_bipush C (nI 32) dX5_advance_28 zkb_32 ?_
      refine v_icmp_ne C 46 dX5_advance_30 rfl hM (fun hM => ?_) (fun hM => ?_)
      · exact hk46  g  hM
      · refine v_aload_n C 0 dX5_advance_33 rfl rfl ?_
        refine v_dup_a C dX5_advance_34 ?_
        refine gf_RX5_70 C hX dX5_advance_35 ?_
        refine v_iconst C (nI 1) dX5_advance_38 zk_1 ?_
        refine v_iadd C dX5_advance_39 ?_
        refine pf_RX5_70 C hX dX5_advance_40 hM (fun g1 hM => ?_)
        refine v_goto C 8 dX5_advance_43 rfl ?_
        exact ih g1  hM

theorem t_X5_advance_l114 {k157 : zG → Option (Int32 × zG)} (hX : zfl X = false) (C : Cx X p (zrm 1) s m args meth c cX5_advance 2 RX5 0 0) (hr : meth.sig.returnType = none) (hk157 : ∀  (g : zG),  k157  g = some (rr, gr) → V X p l e (zrm 1) s m args below meth c 2 0 0 (MQ below (zQ X (Option.map (zM X) none) gr) args s 0 0 (zF X)) g 157 [some (.inr (.inl (2, 0))), none] []) : ∀ (n : Nat)  (g : zG), X5_advance_l114 k157 n  g = some (rr, gr) → V X p l e (zrm 1) s m args below meth c 2 0 0 (MQ below (zQ X (Option.map (zM X) none) gr) args s 0 0 (zF X)) g 114 [some (.inr (.inl (2, 0))), none] [] := by
  intro n
  induction n with
  | zero =>
    intro  g  hM
    exact absurd (show (none : Option (Int32 × zG)) = some (rr, gr) from hM) (by simp)
  | succ n ih =>
    intro  g  hM
    rw [X5_advance_l114.eq_2] at hM
    refine v_aload_n C 0 dX5_advance_114 rfl rfl ?_
    refine gf_RX5_41 C hX dX5_advance_115 ?_
    refine v_aload_n C 0 dX5_advance_118 rfl rfl ?_
    refine gf_RX5_37 C hX dX5_advance_119 ?_
    refine v_icmp_ge C 157 dX5_advance_122 rfl hM (fun hM => ?_) (fun hM => ?_)
    · exact hk157  g  hM
    · refine v_aload_n C 0 dX5_advance_125 rfl rfl ?_
      refine gf_RX5_19 C hX dX5_advance_126 ?_
      refine v_aload_n C 0 dX5_advance_129 rfl rfl ?_
      refine gf_RX5_41 C hX dX5_advance_130 ?_
      refine ia_10 C hX dX5_advance_133 hM (fun hM _ => ?_)
      obtain ⟨x1, g2, e3, hM⟩ := zc_elim hM
      refine v_callSi (rest := []) C (c_X5_kindOf hX  e3) mw_X5_kindOf ms_X5_kindOf ml_RX5_80 ⟨by decide, Nat.le_of_ble_eq_true rfl⟩ rfl (Nat.le_of_ble_eq_true rfl) dX5_advance_134 rfl ?_
      refine v_aload_n C 0 dX5_advance_137 rfl rfl ?_
      refine gf_RX5_64 C hX dX5_advance_138 ?_
      refine v_icmp_ne C 157 dX5_advance_141 rfl hM (fun hM => ?_) (fun hM => ?_)
      · exact hk157  g2  hM
      · refine v_aload_n C 0 dX5_advance_144 rfl rfl ?_
        refine v_dup_a C dX5_advance_145 ?_
        refine gf_RX5_41 C hX dX5_advance_146 ?_
        refine v_iconst C (nI 1) dX5_advance_149 zk_1 ?_
        refine v_iadd C dX5_advance_150 ?_
        refine pf_RX5_41 C hX dX5_advance_151 hM (fun g4 hM => ?_)
        refine v_goto C 114 dX5_advance_154 rfl ?_
        exact ih g4  hM

theorem t_X5_advance_l209  (hX : zfl X = false) (C : Cx X p (zrm 1) s m args meth c cX5_advance 2 RX5 0 0) (hr : meth.sig.returnType = none)  : ∀ (n : Nat) {v1 : Int32} (g : zG), X5_advance_l209  n v1 g = some (rr, gr) → V X p l e (zrm 1) s m args below meth c 2 0 0 (MQ below (zQ X (Option.map (zM X) none) gr) args s 0 0 (zF X)) g 209 [some (.inr (.inl (2, 0))), some (.inl v1)] [] := by
  intro n
  induction n with
  | zero =>
    intro v1 g  hM
    exact absurd (show (none : Option (Int32 × zG)) = some (rr, gr) from hM) (by simp)
  | succ n ih =>
    intro v1 g  hM
    rw [X5_advance_l209.eq_2] at hM
    refine v_iload_n C 1 dX5_advance_209 rfl rfl ?_
    refine v_aload_n C 0 dX5_advance_210 rfl rfl ?_
    refine gf_RX5_41 C hX dX5_advance_211 ?_
    refine v_icmp_ge C 244 dX5_advance_214 rfl hM (fun hM => ?_) (fun hM => ?_)
    · exact v_vret2 C hr dX5_advance_244 hM
    · refine v_aload_n C 0 dX5_advance_217 rfl rfl ?_
      refine v_aload_n C 0 dX5_advance_218 rfl rfl ?_
      refine gf_RX5_84 C hX dX5_advance_219 ?_
      refine v_bipush C (nI 10) dX5_advance_222 zkb_10 ?_
      refine v_imul C dX5_advance_224 ?_
      refine v_aload_n C 0 dX5_advance_225 rfl rfl ?_
      refine gf_RX5_19 C hX dX5_advance_226 ?_
      refine v_iload_n C 1 dX5_advance_229 rfl rfl ?_
      refine ia_10 C hX dX5_advance_230 hM (fun hM _ => ?_)
      refine v_iadd C dX5_advance_231 ?_
      refine v_bipush C (nI 48) dX5_advance_232 zkb_48 ?_
      refine v_isub C dX5_advance_234 ?_
      refine pf_RX5_84 C hX dX5_advance_235 hM (fun g1 hM => ?_)
      refine v_iinc (L' := [some (.inr (.inl (2, 0))), some (.inl (v1 + (nI 1)))]) C 1 (nI 1) dX5_advance_238 zk_1 (by decide) rfl rfl ?_
      refine v_goto C 209 dX5_advance_241 rfl ?_
      exact ih g1  hM

theorem t_X5_advance_b180 {s0 : Int32} {s1 : Int32}  {g : zG} (hX : zfl X = false) (C : Cx X p (zrm 1) s m args meth c cX5_advance 2 RX5 0 0) (hr : meth.sig.returnType = none)   (hM : X5_advance_b180  s0 s1 g = some (rr, gr)) : V X p l e (zrm 1) s m args below meth c 2 0 0 (MQ below (zQ X (Option.map (zM X) none) gr) args s 0 0 (zF X)) g 180 [some (.inr (.inl (2, 0))), none] [(.inl s1), (.inl s0)] := by
  unfold X5_advance_b180 at hM
  refine v_icmp_le C 191 dX5_advance_180 rfl hM (fun hM => ?_) (fun hM => ?_)
  · refine v_aload_n C 0 dX5_advance_191 rfl rfl ?_
    refine gf_RX5_64 C hX dX5_advance_192 ?_
    refine v_iconst C (nI 2) dX5_advance_195 zk_2 ?_
    refine v_icmp_ne C 244 dX5_advance_196 rfl hM (fun hM => ?_) (fun hM => ?_)
    · exact v_vret2 C hr dX5_advance_244 hM
    · refine v_aload_n C 0 dX5_advance_199 rfl rfl ?_
      refine v_iconst C (nI 0) dX5_advance_200 zk_0 ?_
      refine pf_RX5_84 C hX dX5_advance_201 hM (fun g1 hM => ?_)
      refine v_aload_n C 0 dX5_advance_204 rfl rfl ?_
      refine gf_RX5_70 C hX dX5_advance_205 ?_
      refine v_istore_n (L' := [some (.inr (.inl (2, 0))), some (.inl (g1 6002 0 0))]) C 1 dX5_advance_208 rfl (by decide) rfl ?_
      exact t_X5_advance_l209 hX C hr  _ g1  hM
  · refine v_aload_n C 0 dX5_advance_183 rfl rfl ?_
    refine v_iconst C (nI 4) dX5_advance_184 zk_4 ?_
    refine pf_RX5_64 C hX dX5_advance_185 hM (fun g2 hM => ?_)
    refine v_goto C 244 dX5_advance_188 rfl ?_
    exact v_vret2 C hr dX5_advance_244 hM

theorem t_X5_advance_b157   {g : zG} (hX : zfl X = false) (C : Cx X p (zrm 1) s m args meth c cX5_advance 2 RX5 0 0) (hr : meth.sig.returnType = none)   (hM : X5_advance_b157   g = some (rr, gr)) : V X p l e (zrm 1) s m args below meth c 2 0 0 (MQ below (zQ X (Option.map (zM X) none) gr) args s 0 0 (zF X)) g 157 [some (.inr (.inl (2, 0))), none] [] := by
  unfold X5_advance_b157 at hM
  refine v_aload_n C 0 dX5_advance_157 rfl rfl ?_
  refine gf_RX5_41 C hX dX5_advance_158 ?_
  refine v_aload_n C 0 dX5_advance_161 rfl rfl ?_
  refine gf_RX5_70 C hX dX5_advance_162 ?_
  refine v_isub C dX5_advance_165 ?_
  refine v_aload_n C 0 dX5_advance_166 rfl rfl ?_
  refine gf_RX5_64 C hX dX5_advance_167 ?_
  refine v_iconst C (nI 1) dX5_advance_170 zk_1 ?_
  refine v_icmp_ne C 179 dX5_advance_171 rfl hM (fun hM => ?_) (fun hM => ?_)
  · refine v_iconst C (nI 3) dX5_advance_179 zk_3 ?_
    exact t_X5_advance_b180 hX C hr   hM
  · refine v_bipush C (nI 7) dX5_advance_174 zkb_7 ?_
    refine v_goto C 180 dX5_advance_176 rfl ?_
    exact t_X5_advance_b180 hX C hr   hM

theorem t_X5_advance_b46   {g : zG} (hX : zfl X = false) (C : Cx X p (zrm 1) s m args meth c cX5_advance 2 RX5 0 0) (hr : meth.sig.returnType = none)   (hM : X5_advance_b46   g = some (rr, gr)) : V X p l e (zrm 1) s m args below meth c 2 0 0 (MQ below (zQ X (Option.map (zM X) none) gr) args s 0 0 (zF X)) g 46 [some (.inr (.inl (2, 0))), none] [] := by
  unfold X5_advance_b46 at hM
  refine v_aload_n C 0 dX5_advance_46 rfl rfl ?_
  refine v_aload_n C 0 dX5_advance_47 rfl rfl ?_
  refine gf_RX5_70 C hX dX5_advance_48 ?_
  refine pf_RX5_41 C hX dX5_advance_51 hM (fun g1 hM => ?_)
  refine v_aload_n C 0 dX5_advance_54 rfl rfl ?_
  refine gf_RX5_70 C hX dX5_advance_55 ?_
  refine v_aload_n C 0 dX5_advance_58 rfl rfl ?_
  refine gf_RX5_37 C hX dX5_advance_59 ?_
  refine v_icmp_lt C 71 dX5_advance_62 rfl hM (fun hM => ?_) (fun hM => ?_)
  · refine v_aload_n C 0 dX5_advance_71 rfl rfl ?_
    refine v_aload_n C 0 dX5_advance_72 rfl rfl ?_
    refine gf_RX5_19 C hX dX5_advance_73 ?_
    refine v_aload_n C 0 dX5_advance_76 rfl rfl ?_
    refine gf_RX5_70 C hX dX5_advance_77 ?_
    refine ia_10 C hX dX5_advance_80 hM (fun hM _ => ?_)
    obtain ⟨x2, g3, e4, hM⟩ := zc_elim hM
    refine v_callSi (rest := [(.inr (.inl (2, 0)))]) C (c_X5_kindOf hX  e4) mw_X5_kindOf ms_X5_kindOf ml_RX5_80 ⟨by decide, Nat.le_of_ble_eq_true rfl⟩ rfl (Nat.le_of_ble_eq_true rfl) dX5_advance_81 rfl ?_
    refine pf_RX5_64 C hX dX5_advance_84 hM (fun g5 hM => ?_)
    refine v_aload_n C 0 dX5_advance_87 rfl rfl ?_
    refine v_dup_a C dX5_advance_88 ?_
    refine gf_RX5_41 C hX dX5_advance_89 ?_
    refine v_iconst C (nI 1) dX5_advance_92 zk_1 ?_
    refine v_iadd C dX5_advance_93 ?_
    refine pf_RX5_41 C hX dX5_advance_94 hM (fun g6 hM => ?_)
    refine v_aload_n C 0 dX5_advance_97 rfl rfl ?_
    refine gf_RX5_64 C hX dX5_advance_98 ?_
    refine v_iconst C (nI 1) dX5_advance_101 zk_1 ?_
    refine v_icmp_eq C 114 dX5_advance_102 rfl hM (fun hM => ?_) (fun hM => ?_)
    · exact t_X5_advance_l114 hX C hr (by intro  g  hM; exact t_X5_advance_b157 hX C hr   hM) _ g6  hM
    · refine v_aload_n C 0 dX5_advance_105 rfl rfl ?_
      refine gf_RX5_64 C hX dX5_advance_106 ?_
      refine v_iconst C (nI 2) dX5_advance_109 zk_2 ?_
      refine v_icmp_eq C 114 dX5_advance_110 rfl hM (fun hM => ?_) (fun hM => ?_)
      · exact t_X5_advance_l114 hX C hr (by intro  g  hM; exact t_X5_advance_b157 hX C hr   hM) _ g6  hM
      · exact v_vret2 C hr dX5_advance_113 hM
  · refine v_aload_n C 0 dX5_advance_65 rfl rfl ?_
    refine v_iconst C (nI 0) dX5_advance_66 zk_0 ?_
    refine pf_RX5_64 C hX dX5_advance_67 hM (fun g7 hM => ?_)
    exact v_vret2 C hr dX5_advance_70 hM

theorem c_X5_advance {X : zX} (hX : zfl X = false)  {g gr : zG} {rr : Int32}  (hM : X5_advance  g = some (rr, gr)) : MC X yX5_advance cX5_advance 2 none 1 [.inr (.inl (2, 0))] none g gr := by
  refine MC.mk (own := RX5) (L := [some (.inr (.inl (2, 0))), none]) (by decide) rfl trivial (Nat.le_of_ble_eq_true rfl) rfl ?_
  intro p l e s m args below meth c C hr
  unfold X5_advance at hM
  refine v_aload_n C 0 dX5_advance_0 rfl rfl ?_
  refine v_aload_n C 0 dX5_advance_1 rfl rfl ?_
  refine gf_RX5_41 C hX dX5_advance_2 ?_
  refine pf_RX5_70 C hX dX5_advance_5 hM (fun g1 hM => ?_)
  exact t_X5_advance_l8 hX C hr (by intro  g  hM; exact t_X5_advance_b46 hX C hr   hM) _ g1  hM

theorem t_X5_isName_l28  (hX : zfl X = false) (C : Cx X p (zrm 4) s m args meth c cX5_isName 3 RX5 0 0) (hr : meth.sig.returnType = (some .boolean))  : ∀ (n : Nat) {v1 : Nat} {v2 : Int32} (g : zG), v1 < 19 → X5_isName_l28  n v1 v2 g = some (rr, gr) → V X p l e (zrm 4) s m args below meth c 3 0 0 (MQ below (zQ X (Option.map (zM X) (some (.inl rr))) gr) args s 0 0 (zF X)) g 28 [some (.inr (.inl (2, 0))), some (.inr (.inl (60, v1))), some (.inl v2)] [] := by
  intro n
  induction n with
  | zero =>
    intro v1 v2 g hb_v1 hM
    exact absurd (show (none : Option (Int32 × zG)) = some (rr, gr) from hM) (by simp)
  | succ n ih =>
    intro v1 v2 g hb_v1 hM
    rw [X5_isName_l28.eq_2] at hM
    refine v_iload_n C 2 dX5_isName_28 rfl rfl ?_
    refine v_aload_n C 1 dX5_isName_29 rfl rfl ?_
    refine v_strlen C hb_v1 ml_RX5_87 ⟨by decide, Nat.le_of_ble_eq_true rfl⟩ (Nat.le_of_ble_eq_true rfl) dX5_isName_30 ?_
    refine v_icmp_ge C 77 dX5_isName_33 rfl hM (fun hM => ?_) (fun hM => ?_)
    · refine v_iconst C (nI 1) dX5_isName_77 zk_1 ?_
      exact v_zret2 C hr (zbo_n (Or.inr rfl)) dX5_isName_78 hM
    · refine v_aload_n C 0 dX5_isName_36 rfl rfl ?_
      refine gf_RX5_70 C hX dX5_isName_37 ?_
      refine v_iload_n C 2 dX5_isName_40 rfl rfl ?_
      refine v_iadd C dX5_isName_41 ?_
      refine v_aload_n C 0 dX5_isName_42 rfl rfl ?_
      refine gf_RX5_19 C hX dX5_isName_43 ?_
      refine v_alen C hX.symm zm10 rfl (by decide) dX5_isName_46 (nI 900) rfl ?_
      refine v_icmp_ge C 69 dX5_isName_47 rfl hM (fun hM => ?_) (fun hM => ?_)
      · refine v_iconst C (nI 0) dX5_isName_69 zk_0 ?_
        exact v_zret2 C hr (zbo_n (Or.inl rfl)) dX5_isName_70 hM
      · refine v_aload_n C 0 dX5_isName_50 rfl rfl ?_
        refine gf_RX5_19 C hX dX5_isName_51 ?_
        refine v_aload_n C 0 dX5_isName_54 rfl rfl ?_
        refine gf_RX5_70 C hX dX5_isName_55 ?_
        refine v_iload_n C 2 dX5_isName_58 rfl rfl ?_
        refine v_iadd C dX5_isName_59 ?_
        refine ia_10 C hX dX5_isName_60 hM (fun hM _ => ?_)
        refine v_aload_n C 1 dX5_isName_61 rfl rfl ?_
        refine v_iload_n C 2 dX5_isName_62 rfl rfl ?_
        refine v_strchar C hb_v1 ml_RX5_93 ⟨by decide, Nat.le_of_ble_eq_true rfl⟩ (Nat.le_of_ble_eq_true rfl) dX5_isName_63 hM (fun hM => ?_)
        refine v_icmp_eq C 71 dX5_isName_66 rfl hM (fun hM => ?_) (fun hM => ?_)
        · refine v_iinc (L' := [some (.inr (.inl (2, 0))), some (.inr (.inl (60, v1))), some (.inl (v2 + (nI 1)))]) C 2 (nI 1) dX5_isName_71 zk_1 (by decide) rfl rfl ?_
          refine v_goto C 28 dX5_isName_74 rfl ?_
          exact ih g hb_v1 hM
        · refine v_iconst C (nI 0) dX5_isName_69 zk_0 ?_
          exact v_zret2 C hr (zbo_n (Or.inl rfl)) dX5_isName_70 hM

theorem c_X5_isName {X : zX} (hX : zfl X = false) {v1 : Nat} {g gr : zG} {rr : Int32} (hb_v1 : v1 < 19) (hM : X5_isName v1 g = some (rr, gr)) : MC X yX5_isName cX5_isName 3 (some .boolean) 4 [.inr (.inl (2, 0)), .inr (.inl (60, v1))] (some (.inl rr)) g gr := by
  refine MC.mk (own := RX5) (L := [some (.inr (.inl (2, 0))), some (.inr (.inl (60, v1))), none]) (by decide) rfl trivial (Nat.le_of_ble_eq_true rfl) rfl ?_
  intro p l e s m args below meth c C hr
  unfold X5_isName at hM
  refine v_aload_n C 0 dX5_isName_0 rfl rfl ?_
  refine gf_RX5_64 C hX dX5_isName_1 ?_
  refine v_iconst C (nI 1) dX5_isName_4 zk_1 ?_
  refine v_icmp_ne C 24 dX5_isName_5 rfl hM (fun hM => ?_) (fun hM => ?_)
  · refine v_iconst C (nI 0) dX5_isName_24 zk_0 ?_
    exact v_zret2 C hr (zbo_n (Or.inl rfl)) dX5_isName_25 hM
  · refine v_aload_n C 0 dX5_isName_8 rfl rfl ?_
    refine gf_RX5_41 C hX dX5_isName_9 ?_
    refine v_aload_n C 0 dX5_isName_12 rfl rfl ?_
    refine gf_RX5_70 C hX dX5_isName_13 ?_
    refine v_isub C dX5_isName_16 ?_
    refine v_aload_n C 1 dX5_isName_17 rfl rfl ?_
    refine v_strlen C hb_v1 ml_RX5_87 ⟨by decide, Nat.le_of_ble_eq_true rfl⟩ (Nat.le_of_ble_eq_true rfl) dX5_isName_18 ?_
    refine v_icmp_eq C 26 dX5_isName_21 rfl hM (fun hM => ?_) (fun hM => ?_)
    · refine v_iconst C (nI 0) dX5_isName_26 zk_0 ?_
      refine v_istore_n (L' := [some (.inr (.inl (2, 0))), some (.inr (.inl (60, v1))), some (.inl (nI 0))]) C 2 dX5_isName_27 rfl (by decide) rfl ?_
      exact t_X5_isName_l28 hX C hr  _ g hb_v1 hM
    · refine v_iconst C (nI 0) dX5_isName_24 zk_0 ?_
      exact v_zret2 C hr (zbo_n (Or.inl rfl)) dX5_isName_25 hM

theorem c_X5_sortHere {X : zX} (hX : zfl X = false)  {g gr : zG} {rr : Int32}  (hM : X5_sortHere  g = some (rr, gr)) : MC X yX5_sortHere cX5_sortHere 1 (some .int) 5 [.inr (.inl (2, 0))] (some (.inl rr)) g gr := by
  refine MC.mk (own := RX5) (L := [some (.inr (.inl (2, 0)))]) (by decide) rfl trivial (Nat.le_of_ble_eq_true rfl) rfl ?_
  intro p l e s m args below meth c C hr
  unfold X5_sortHere at hM
  refine v_aload_n C 0 dX5_sortHere_0 rfl rfl ?_
  refine v_ldcs C dX5_sortHere_1 ks_RX5_107 ?_
  obtain ⟨x1, g2, e3, hM⟩ := zc_elim hM
  refine v_callVi (ci := 5) (rest := []) C (c_X5_isName hX (by decide) e3) mw_X5_isName mi_X5_isName ml_RX5_97 hX.symm zm2 rfl rfl ⟨by decide, Nat.le_of_ble_eq_true rfl⟩ rfl (Nat.le_of_ble_eq_true rfl) dX5_sortHere_3 rfl ?_
  refine v_if_eq C 11 dX5_sortHere_6 rfl hM (fun hM => ?_) (fun hM => ?_)
  · refine v_aload_n C 0 dX5_sortHere_11 rfl rfl ?_
    refine v_ldcs C dX5_sortHere_12 ks_RX5_109 ?_
    obtain ⟨x4, g5, e6, hM⟩ := zc_elim hM
    refine v_callVi (ci := 5) (rest := []) C (c_X5_isName hX (by decide) e6) mw_X5_isName mi_X5_isName ml_RX5_97 hX.symm zm2 rfl rfl ⟨by decide, Nat.le_of_ble_eq_true rfl⟩ rfl (Nat.le_of_ble_eq_true rfl) dX5_sortHere_14 rfl ?_
    refine v_if_eq C 22 dX5_sortHere_17 rfl hM (fun hM => ?_) (fun hM => ?_)
    · refine v_aload_n C 0 dX5_sortHere_22 rfl rfl ?_
      refine v_ldcs C dX5_sortHere_23 ks_RX5_110 ?_
      obtain ⟨x7, g8, e9, hM⟩ := zc_elim hM
      refine v_callVi (ci := 5) (rest := []) C (c_X5_isName hX (by decide) e9) mw_X5_isName mi_X5_isName ml_RX5_97 hX.symm zm2 rfl rfl ⟨by decide, Nat.le_of_ble_eq_true rfl⟩ rfl (Nat.le_of_ble_eq_true rfl) dX5_sortHere_25 rfl ?_
      refine v_if_eq C 33 dX5_sortHere_28 rfl hM (fun hM => ?_) (fun hM => ?_)
      · refine v_aload_n C 0 dX5_sortHere_33 rfl rfl ?_
        refine v_ldcs C dX5_sortHere_34 ks_RX5_112 ?_
        obtain ⟨x10, g11, e12, hM⟩ := zc_elim hM
        refine v_callVi (ci := 5) (rest := []) C (c_X5_isName hX (by decide) e12) mw_X5_isName mi_X5_isName ml_RX5_97 hX.symm zm2 rfl rfl ⟨by decide, Nat.le_of_ble_eq_true rfl⟩ rfl (Nat.le_of_ble_eq_true rfl) dX5_sortHere_36 rfl ?_
        refine v_if_eq C 44 dX5_sortHere_39 rfl hM (fun hM => ?_) (fun hM => ?_)
        · refine v_aload_n C 0 dX5_sortHere_44 rfl rfl ?_
          refine v_ldcs C dX5_sortHere_45 ks_RX5_114 ?_
          obtain ⟨x13, g14, e15, hM⟩ := zc_elim hM
          refine v_callVi (ci := 5) (rest := []) C (c_X5_isName hX (by decide) e15) mw_X5_isName mi_X5_isName ml_RX5_97 hX.symm zm2 rfl rfl ⟨by decide, Nat.le_of_ble_eq_true rfl⟩ rfl (Nat.le_of_ble_eq_true rfl) dX5_sortHere_47 rfl ?_
          refine v_if_eq C 55 dX5_sortHere_50 rfl hM (fun hM => ?_) (fun hM => ?_)
          · refine v_aload_n C 0 dX5_sortHere_55 rfl rfl ?_
            refine v_ldcs C dX5_sortHere_56 ks_RX5_116 ?_
            obtain ⟨x16, g17, e18, hM⟩ := zc_elim hM
            refine v_callVi (ci := 5) (rest := []) C (c_X5_isName hX (by decide) e18) mw_X5_isName mi_X5_isName ml_RX5_97 hX.symm zm2 rfl rfl ⟨by decide, Nat.le_of_ble_eq_true rfl⟩ rfl (Nat.le_of_ble_eq_true rfl) dX5_sortHere_58 rfl ?_
            refine v_if_eq C 66 dX5_sortHere_61 rfl hM (fun hM => ?_) (fun hM => ?_)
            · refine v_aload_n C 0 dX5_sortHere_66 rfl rfl ?_
              refine v_ldcs C dX5_sortHere_67 ks_RX5_118 ?_
              obtain ⟨x19, g20, e21, hM⟩ := zc_elim hM
              refine v_callVi (ci := 5) (rest := []) C (c_X5_isName hX (by decide) e21) mw_X5_isName mi_X5_isName ml_RX5_97 hX.symm zm2 rfl rfl ⟨by decide, Nat.le_of_ble_eq_true rfl⟩ rfl (Nat.le_of_ble_eq_true rfl) dX5_sortHere_69 rfl ?_
              refine v_if_eq C 78 dX5_sortHere_72 rfl hM (fun hM => ?_) (fun hM => ?_)
              · refine v_aload_n C 0 dX5_sortHere_78 rfl rfl ?_
                refine v_ldcs C dX5_sortHere_79 ks_RX5_120 ?_
                obtain ⟨x22, g23, e24, hM⟩ := zc_elim hM
                refine v_callVi (ci := 5) (rest := []) C (c_X5_isName hX (by decide) e24) mw_X5_isName mi_X5_isName ml_RX5_97 hX.symm zm2 rfl rfl ⟨by decide, Nat.le_of_ble_eq_true rfl⟩ rfl (Nat.le_of_ble_eq_true rfl) dX5_sortHere_81 rfl ?_
                refine v_if_eq C 90 dX5_sortHere_84 rfl hM (fun hM => ?_) (fun hM => ?_)
                · refine v_aload_n C 0 dX5_sortHere_90 rfl rfl ?_
                  refine v_ldcs C dX5_sortHere_91 ks_RX5_122 ?_
                  obtain ⟨x25, g26, e27, hM⟩ := zc_elim hM
                  refine v_callVi (ci := 5) (rest := []) C (c_X5_isName hX (by decide) e27) mw_X5_isName mi_X5_isName ml_RX5_97 hX.symm zm2 rfl rfl ⟨by decide, Nat.le_of_ble_eq_true rfl⟩ rfl (Nat.le_of_ble_eq_true rfl) dX5_sortHere_93 rfl ?_
                  refine v_if_eq C 102 dX5_sortHere_96 rfl hM (fun hM => ?_) (fun hM => ?_)
                  · refine v_aload_n C 0 dX5_sortHere_102 rfl rfl ?_
                    refine v_ldcs C dX5_sortHere_103 ks_RX5_124 ?_
                    obtain ⟨x28, g29, e30, hM⟩ := zc_elim hM
                    refine v_callVi (ci := 5) (rest := []) C (c_X5_isName hX (by decide) e30) mw_X5_isName mi_X5_isName ml_RX5_97 hX.symm zm2 rfl rfl ⟨by decide, Nat.le_of_ble_eq_true rfl⟩ rfl (Nat.le_of_ble_eq_true rfl) dX5_sortHere_105 rfl ?_
                    refine v_if_eq C 116 dX5_sortHere_108 rfl hM (fun hM => ?_) (fun hM => ?_)
                    · refine v_iconst C (-1) dX5_sortHere_116 zk_m1 ?_
                      exact v_iret2 C hr dX5_sortHere_117 hM
                    · refine v_bipush C (nI 9) dX5_sortHere_111 zkb_9 ?_
                      refine v_goto C 117 dX5_sortHere_113 rfl ?_
                      exact v_iret2 C hr dX5_sortHere_117 hM
                  · refine v_bipush C (nI 8) dX5_sortHere_99 zkb_8 ?_
                    exact v_iret2 C hr dX5_sortHere_101 hM
                · refine v_bipush C (nI 7) dX5_sortHere_87 zkb_7 ?_
                  exact v_iret2 C hr dX5_sortHere_89 hM
              · refine v_bipush C (nI 6) dX5_sortHere_75 zkb_6 ?_
                exact v_iret2 C hr dX5_sortHere_77 hM
            · refine v_iconst C (nI 5) dX5_sortHere_64 zk_5 ?_
              exact v_iret2 C hr dX5_sortHere_65 hM
          · refine v_iconst C (nI 4) dX5_sortHere_53 zk_4 ?_
            exact v_iret2 C hr dX5_sortHere_54 hM
        · refine v_iconst C (nI 3) dX5_sortHere_42 zk_3 ?_
          exact v_iret2 C hr dX5_sortHere_43 hM
      · refine v_iconst C (nI 2) dX5_sortHere_31 zk_2 ?_
        exact v_iret2 C hr dX5_sortHere_32 hM
    · refine v_iconst C (nI 1) dX5_sortHere_20 zk_1 ?_
      exact v_iret2 C hr dX5_sortHere_21 hM
  · refine v_iconst C (nI 0) dX5_sortHere_9 zk_0 ?_
    exact v_iret2 C hr dX5_sortHere_10 hM

theorem c_X5_fail {X : zX} (hX : zfl X = false) {v1 : Int32} {v2 : Int32} {g gr : zG} {rr : Int32}  (hM : X5_fail v1 v2 g = some (rr, gr)) : MC X yX5_fail cX5_fail 3 (some .boolean) 0 [.inr (.inl (2, 0)), .inl v1, .inl v2] (some (.inl rr)) g gr := by
  refine MC.mk (own := RX5) (L := [some (.inr (.inl (2, 0))), some (.inl v1), some (.inl v2)]) (by decide) rfl trivial (Nat.le_of_ble_eq_true rfl) rfl ?_
  intro p l e s m args below meth c C hr
  unfold X5_fail at hM
  refine v_aload_n C 0 dX5_fail_0 rfl rfl ?_
  refine v_iload_n C 1 dX5_fail_1 rfl rfl ?_
  refine pf_RX5_51 C hX dX5_fail_2 hM (fun g1 hM => ?_)
  refine v_aload_n C 0 dX5_fail_5 rfl rfl ?_
  refine v_iload_n C 2 dX5_fail_6 rfl rfl ?_
  refine pf_RX5_54 C hX dX5_fail_7 hM (fun g2 hM => ?_)
  refine v_iconst C (nI 0) dX5_fail_10 zk_0 ?_
  exact v_zret2 C hr (zbo_n (Or.inl rfl)) dX5_fail_11 hM

theorem c_X5_takeName {X : zX} (hX : zfl X = false) {v1 : Nat} {g gr : zG} {rr : Int32} (hb_v1 : v1 < 19) (hM : X5_takeName v1 g = some (rr, gr)) : MC X yX5_takeName cX5_takeName 2 (some .boolean) 5 [.inr (.inl (2, 0)), .inr (.inl (60, v1))] (some (.inl rr)) g gr := by
  refine MC.mk (own := RX5) (L := [some (.inr (.inl (2, 0))), some (.inr (.inl (60, v1)))]) (by decide) rfl trivial (Nat.le_of_ble_eq_true rfl) rfl ?_
  intro p l e s m args below meth c C hr
  unfold X5_takeName at hM
  refine v_aload_n C 0 dX5_takeName_0 rfl rfl ?_
  refine v_aload_n C 1 dX5_takeName_1 rfl rfl ?_
  obtain ⟨x1, g2, e3, hM⟩ := zc_elim hM
  refine v_callVi (ci := 5) (rest := []) C (c_X5_isName hX hb_v1 e3) mw_X5_isName mi_X5_isName ml_RX5_97 hX.symm zm2 rfl rfl ⟨by decide, Nat.le_of_ble_eq_true rfl⟩ rfl (Nat.le_of_ble_eq_true rfl) dX5_takeName_2 rfl ?_
  refine v_if_ne C 18 dX5_takeName_5 rfl hM (fun hM => ?_) (fun hM => ?_)
  · refine v_aload_n C 0 dX5_takeName_18 rfl rfl ?_
    obtain ⟨x4, g5, e6, hM⟩ := zc_elim hM
    refine v_callVv (ci := 5) (rest := []) C (c_X5_advance hX  e6) mw_X5_advance mi_X5_advance ml_RX5_57 hX.symm zm2 rfl rfl ⟨by decide, Nat.le_of_ble_eq_true rfl⟩ rfl (Nat.le_of_ble_eq_true rfl) dX5_takeName_19 rfl ?_
    refine v_iconst C (nI 1) dX5_takeName_22 zk_1 ?_
    exact v_zret2 C hr (zbo_n (Or.inr rfl)) dX5_takeName_23 hM
  · refine v_aload_n C 0 dX5_takeName_8 rfl rfl ?_
    refine v_iconst C (nI 1) dX5_takeName_9 zk_1 ?_
    refine v_aload_n C 0 dX5_takeName_10 rfl rfl ?_
    refine gf_RX5_70 C hX dX5_takeName_11 ?_
    obtain ⟨x7, g8, e9, hM⟩ := zc_elim hM
    refine v_callVi (ci := 5) (rest := []) C (c_X5_fail hX  e9) mw_X5_fail mi_X5_fail ml_RX5_73 hX.symm zm2 rfl rfl ⟨by decide, Nat.le_of_ble_eq_true rfl⟩ rfl (Nat.le_of_ble_eq_true rfl) dX5_takeName_14 rfl ?_
    obtain ⟨hz, hM⟩ := zbo_elim hM
    exact v_zret2 C hr (zbo_n hz) dX5_takeName_17 hM

theorem t_X5_takeWhole_b34   {g : zG} (hX : zfl X = false) (C : Cx X p (zrm 2) s m args meth c cX5_takeWhole 3 RX5 0 0) (hr : meth.sig.returnType = (some .boolean))   (hM : X5_takeWhole_b34   g = some (rr, gr)) : V X p l e (zrm 2) s m args below meth c 3 0 0 (MQ below (zQ X (Option.map (zM X) (some (.inl rr))) gr) args s 0 0 (zF X)) g 34 [some (.inr (.inl (2, 0))), none, none] [] := by
  unfold X5_takeWhole_b34 at hM
  refine v_aload_n C 0 dX5_takeWhole_34 rfl rfl ?_
  refine v_iconst C (nI 2) dX5_takeWhole_35 zk_2 ?_
  refine v_aload_n C 0 dX5_takeWhole_36 rfl rfl ?_
  refine gf_RX5_70 C hX dX5_takeWhole_37 ?_
  obtain ⟨x1, g2, e3, hM⟩ := zc_elim hM
  refine v_callVi (ci := 5) (rest := []) C (c_X5_fail hX  e3) mw_X5_fail mi_X5_fail ml_RX5_73 hX.symm zm2 rfl rfl ⟨by decide, Nat.le_of_ble_eq_true rfl⟩ rfl (Nat.le_of_ble_eq_true rfl) dX5_takeWhole_40 rfl ?_
  obtain ⟨hz, hM⟩ := zbo_elim hM
  exact v_zret2 C hr (zbo_n hz) dX5_takeWhole_43 hM

theorem c_X5_takeWhole {X : zX} (hX : zfl X = false) {v1 : Int32} {v2 : Int32} {g gr : zG} {rr : Int32}  (hM : X5_takeWhole v1 v2 g = some (rr, gr)) : MC X yX5_takeWhole cX5_takeWhole 3 (some .boolean) 2 [.inr (.inl (2, 0)), .inl v1, .inl v2] (some (.inl rr)) g gr := by
  refine MC.mk (own := RX5) (L := [some (.inr (.inl (2, 0))), some (.inl v1), some (.inl v2)]) (by decide) rfl trivial (Nat.le_of_ble_eq_true rfl) rfl ?_
  intro p l e s m args below meth c C hr
  unfold X5_takeWhole at hM
  refine v_aload_n C 0 dX5_takeWhole_0 rfl rfl ?_
  refine gf_RX5_64 C hX dX5_takeWhole_1 ?_
  refine v_iconst C (nI 2) dX5_takeWhole_4 zk_2 ?_
  refine v_icmp_eq C 18 dX5_takeWhole_5 rfl hM (fun hM => ?_) (fun hM => ?_)
  · refine v_aload_n C 0 dX5_takeWhole_18 rfl rfl ?_
    refine gf_RX5_84 C hX dX5_takeWhole_19 ?_
    refine v_iload_n C 1 dX5_takeWhole_22 rfl rfl ?_
    refine v_icmp_lt C 34 dX5_takeWhole_23 rfl hM (fun hM => ?_) (fun hM => ?_)
    · exact v_weak (t_X5_takeWhole_b34 hX C hr   hM) (show zsub [some (.inr (.inl (2, 0))), none, none] [some (.inr (.inl (2, 0))), some (.inl v1), some (.inl v2)] from ⟨rfl, trivial⟩)
    · refine v_aload_n C 0 dX5_takeWhole_26 rfl rfl ?_
      refine gf_RX5_84 C hX dX5_takeWhole_27 ?_
      refine v_iload_n C 2 dX5_takeWhole_30 rfl rfl ?_
      refine v_icmp_le C 44 dX5_takeWhole_31 rfl hM (fun hM => ?_) (fun hM => ?_)
      · refine v_aload_n C 0 dX5_takeWhole_44 rfl rfl ?_
        obtain ⟨x1, g2, e3, hM⟩ := zc_elim hM
        refine v_callVv (ci := 5) (rest := []) C (c_X5_advance hX  e3) mw_X5_advance mi_X5_advance ml_RX5_57 hX.symm zm2 rfl rfl ⟨by decide, Nat.le_of_ble_eq_true rfl⟩ rfl (Nat.le_of_ble_eq_true rfl) dX5_takeWhole_45 rfl ?_
        refine v_iconst C (nI 1) dX5_takeWhole_48 zk_1 ?_
        exact v_zret2 C hr (zbo_n (Or.inr rfl)) dX5_takeWhole_49 hM
      · exact v_weak (t_X5_takeWhole_b34 hX C hr   hM) (show zsub [some (.inr (.inl (2, 0))), none, none] [some (.inr (.inl (2, 0))), some (.inl v1), some (.inl v2)] from ⟨rfl, trivial⟩)
  · refine v_aload_n C 0 dX5_takeWhole_8 rfl rfl ?_
    refine v_iconst C (nI 1) dX5_takeWhole_9 zk_1 ?_
    refine v_aload_n C 0 dX5_takeWhole_10 rfl rfl ?_
    refine gf_RX5_70 C hX dX5_takeWhole_11 ?_
    obtain ⟨x4, g5, e6, hM⟩ := zc_elim hM
    refine v_callVi (ci := 5) (rest := []) C (c_X5_fail hX  e6) mw_X5_fail mi_X5_fail ml_RX5_73 hX.symm zm2 rfl rfl ⟨by decide, Nat.le_of_ble_eq_true rfl⟩ rfl (Nat.le_of_ble_eq_true rfl) dX5_takeWhole_14 rfl ?_
    obtain ⟨hz, hM⟩ := zbo_elim hM
    exact v_zret2 C hr (zbo_n hz) dX5_takeWhole_17 hM

theorem t_X5_takeSetting_b46 {v2 : Int32} {v4 : Int32}  {g : zG} (hX : zfl X = false) (C : Cx X p (zrm 6) s m args meth c cX5_takeSetting 5 RX5 0 0) (hr : meth.sig.returnType = (some .int))   (hM : X5_takeSetting_b46  v2 v4 g = some (rr, gr)) : V X p l e (zrm 6) s m args below meth c 5 0 0 (MQ below (zQ X (Option.map (zM X) (some (.inl rr))) gr) args s 0 0 (zF X)) g 46 [some (.inr (.inl (2, 0))), none, some (.inl v2), none, some (.inl v4)] [] := by
  unfold X5_takeSetting_b46 at hM
  refine v_aload_n C 0 dX5_takeSetting_46 rfl rfl ?_
  refine v_iconst C (nI 1) dX5_takeSetting_47 zk_1 ?_
  refine v_iload_n C 2 dX5_takeSetting_48 rfl rfl ?_
  obtain ⟨x1, g2, e3, hM⟩ := zc_elim hM
  refine v_callVi (ci := 5) (rest := []) C (c_X5_takeWhole hX  e3) mw_X5_takeWhole mi_X5_takeWhole ml_RX5_104 hX.symm zm2 rfl rfl ⟨by decide, Nat.le_of_ble_eq_true rfl⟩ rfl (Nat.le_of_ble_eq_true rfl) dX5_takeSetting_49 rfl ?_
  refine v_if_eq C 60 dX5_takeSetting_52 rfl hM (fun hM => ?_) (fun hM => ?_)
  · refine v_iconst C (-1) dX5_takeSetting_60 zk_m1 ?_
    exact v_iret2 C hr dX5_takeSetting_61 hM
  · refine v_iload C 4 dX5_takeSetting_55 rfl ?_
    refine v_goto C 61 dX5_takeSetting_57 rfl ?_
    exact v_iret2 C hr dX5_takeSetting_61 hM

theorem c_X5_takeSetting {X : zX} (hX : zfl X = false) {v1 : Nat} {v2 : Int32} {v3 : Int32} {g gr : zG} {rr : Int32} (hb_v1 : v1 < 19) (hM : X5_takeSetting v1 v2 v3 g = some (rr, gr)) : MC X yX5_takeSetting cX5_takeSetting 5 (some .int) 6 [.inr (.inl (2, 0)), .inr (.inl (60, v1)), .inl v2, .inl v3] (some (.inl rr)) g gr := by
  refine MC.mk (own := RX5) (L := [some (.inr (.inl (2, 0))), some (.inr (.inl (60, v1))), some (.inl v2), some (.inl v3), none]) (by decide) rfl trivial (Nat.le_of_ble_eq_true rfl) rfl ?_
  intro p l e s m args below meth c C hr
  unfold X5_takeSetting at hM
  refine v_aload_n C 0 dX5_takeSetting_0 rfl rfl ?_
  refine v_aload_n C 1 dX5_takeSetting_1 rfl rfl ?_
  obtain ⟨x1, g2, e3, hM⟩ := zc_elim hM
  refine v_callVi (ci := 5) (rest := []) C (c_X5_takeName hX hb_v1 e3) mw_X5_takeName mi_X5_takeName ml_RX5_101 hX.symm zm2 rfl rfl ⟨by decide, Nat.le_of_ble_eq_true rfl⟩ rfl (Nat.le_of_ble_eq_true rfl) dX5_takeSetting_2 rfl ?_
  refine v_if_ne C 10 dX5_takeSetting_5 rfl hM (fun hM => ?_) (fun hM => ?_)
  · refine v_aload_n C 0 dX5_takeSetting_10 rfl rfl ?_
    refine gf_RX5_84 C hX dX5_takeSetting_11 ?_
    refine v_istore (L' := [some (.inr (.inl (2, 0))), some (.inr (.inl (60, v1))), some (.inl v2), some (.inl v3), some (.inl (g2 8002 0 0))]) C 4 dX5_takeSetting_14 (by decide) rfl ?_
    refine v_aload_n C 0 dX5_takeSetting_16 rfl rfl ?_
    refine gf_RX5_64 C hX dX5_takeSetting_17 ?_
    refine v_iconst C (nI 2) dX5_takeSetting_20 zk_2 ?_
    refine v_icmp_ne C 46 dX5_takeSetting_21 rfl hM (fun hM => ?_) (fun hM => ?_)
    · exact v_weak (t_X5_takeSetting_b46 hX C hr   hM) (show zsub [some (.inr (.inl (2, 0))), none, some (.inl v2), none, some (.inl (g2 8002 0 0))] [some (.inr (.inl (2, 0))), some (.inr (.inl (60, v1))), some (.inl v2), some (.inl v3), some (.inl (g2 8002 0 0))] from ⟨rfl, ⟨rfl, ⟨rfl, trivial⟩⟩⟩)
    · refine v_iload_n C 3 dX5_takeSetting_24 rfl rfl ?_
      refine v_if_eq C 46 dX5_takeSetting_25 rfl hM (fun hM => ?_) (fun hM => ?_)
      · exact v_weak (t_X5_takeSetting_b46 hX C hr   hM) (show zsub [some (.inr (.inl (2, 0))), none, some (.inl v2), none, some (.inl (g2 8002 0 0))] [some (.inr (.inl (2, 0))), some (.inr (.inl (60, v1))), some (.inl v2), some (.inl v3), some (.inl (g2 8002 0 0))] from ⟨rfl, ⟨rfl, ⟨rfl, trivial⟩⟩⟩)
      · refine v_iload C 4 dX5_takeSetting_28 rfl ?_
        refine v_iconst C (nI 3) dX5_takeSetting_30 zk_3 ?_
        refine v_icmp_ne C 46 dX5_takeSetting_31 rfl hM (fun hM => ?_) (fun hM => ?_)
        · exact v_weak (t_X5_takeSetting_b46 hX C hr   hM) (show zsub [some (.inr (.inl (2, 0))), none, some (.inl v2), none, some (.inl (g2 8002 0 0))] [some (.inr (.inl (2, 0))), some (.inr (.inl (60, v1))), some (.inl v2), some (.inl v3), some (.inl (g2 8002 0 0))] from ⟨rfl, ⟨rfl, ⟨rfl, trivial⟩⟩⟩)
        · refine v_aload_n C 0 dX5_takeSetting_34 rfl rfl ?_
          refine v_iconst C (nI 2) dX5_takeSetting_35 zk_2 ?_
          refine v_aload_n C 0 dX5_takeSetting_36 rfl rfl ?_
          refine gf_RX5_70 C hX dX5_takeSetting_37 ?_
          obtain ⟨x4, g5, e6, hM⟩ := zc_elim hM
          refine v_callVi (ci := 5) (rest := []) C (c_X5_fail hX  e6) mw_X5_fail mi_X5_fail ml_RX5_73 hX.symm zm2 rfl rfl ⟨by decide, Nat.le_of_ble_eq_true rfl⟩ rfl (Nat.le_of_ble_eq_true rfl) dX5_takeSetting_40 rfl ?_
          refine v_pop C dX5_takeSetting_43 ?_
          refine v_iconst C (-1) dX5_takeSetting_44 zk_m1 ?_
          exact v_iret2 C hr dX5_takeSetting_45 hM
  · refine v_iconst C (-1) dX5_takeSetting_8 zk_m1 ?_
    exact v_iret2 C hr dX5_takeSetting_9 hM

theorem t_X5_readRule_b70   {g : zG} (hX : zfl X = false) (C : Cx X p (zrm 5) s m args meth c cX5_readRule 1 RX5 0 0) (hr : meth.sig.returnType = (some .boolean))   (hM : X5_readRule_b70   g = some (rr, gr)) : V X p l e (zrm 5) s m args below meth c 1 0 0 (MQ below (zQ X (Option.map (zM X) (some (.inl rr))) gr) args s 0 0 (zF X)) g 70 [some (.inr (.inl (2, 0)))] [] := by
  unfold X5_readRule_b70 at hM
  refine v_aload_n C 0 dX5_readRule_70 rfl rfl ?_
  obtain ⟨x1, g2, e3, hM⟩ := zc_elim hM
  refine v_callVv (ci := 5) (rest := []) C (c_X5_advance hX  e3) mw_X5_advance mi_X5_advance ml_RX5_57 hX.symm zm2 rfl rfl ⟨by decide, Nat.le_of_ble_eq_true rfl⟩ rfl (Nat.le_of_ble_eq_true rfl) dX5_readRule_71 rfl ?_
  refine v_iconst C (nI 1) dX5_readRule_74 zk_1 ?_
  exact v_zret2 C hr (zbo_n (Or.inr rfl)) dX5_readRule_75 hM

theorem c_X5_readRule {X : zX} (hX : zfl X = false)  {g gr : zG} {rr : Int32}  (hM : X5_readRule  g = some (rr, gr)) : MC X yX5_readRule cX5_readRule 1 (some .boolean) 5 [.inr (.inl (2, 0))] (some (.inl rr)) g gr := by
  refine MC.mk (own := RX5) (L := [some (.inr (.inl (2, 0)))]) (by decide) rfl trivial (Nat.le_of_ble_eq_true rfl) rfl ?_
  intro p l e s m args below meth c C hr
  unfold X5_readRule at hM
  refine v_aload_n C 0 dX5_readRule_0 rfl rfl ?_
  refine v_ldcs C dX5_readRule_1 ks_RX5_168 ?_
  obtain ⟨x1, g2, e3, hM⟩ := zc_elim hM
  refine v_callVi (ci := 5) (rest := []) C (c_X5_isName hX (by decide) e3) mw_X5_isName mi_X5_isName ml_RX5_97 hX.symm zm2 rfl rfl ⟨by decide, Nat.le_of_ble_eq_true rfl⟩ rfl (Nat.le_of_ble_eq_true rfl) dX5_readRule_3 rfl ?_
  refine v_if_eq C 20 dX5_readRule_6 rfl hM (fun hM => ?_) (fun hM => ?_)
  · refine v_aload_n C 0 dX5_readRule_20 rfl rfl ?_
    refine v_ldcs C dX5_readRule_21 ks_RX5_172 ?_
    obtain ⟨x4, g5, e6, hM⟩ := zc_elim hM
    refine v_callVi (ci := 5) (rest := []) C (c_X5_isName hX (by decide) e6) mw_X5_isName mi_X5_isName ml_RX5_97 hX.symm zm2 rfl rfl ⟨by decide, Nat.le_of_ble_eq_true rfl⟩ rfl (Nat.le_of_ble_eq_true rfl) dX5_readRule_23 rfl ?_
    refine v_if_eq C 40 dX5_readRule_26 rfl hM (fun hM => ?_) (fun hM => ?_)
    · refine v_aload_n C 0 dX5_readRule_40 rfl rfl ?_
      refine v_ldcs C dX5_readRule_41 ks_RX5_174 ?_
      obtain ⟨x7, g8, e9, hM⟩ := zc_elim hM
      refine v_callVi (ci := 5) (rest := []) C (c_X5_isName hX (by decide) e9) mw_X5_isName mi_X5_isName ml_RX5_97 hX.symm zm2 rfl rfl ⟨by decide, Nat.le_of_ble_eq_true rfl⟩ rfl (Nat.le_of_ble_eq_true rfl) dX5_readRule_43 rfl ?_
      refine v_if_eq C 60 dX5_readRule_46 rfl hM (fun hM => ?_) (fun hM => ?_)
      · refine v_aload_n C 0 dX5_readRule_60 rfl rfl ?_
        refine v_iconst C (nI 1) dX5_readRule_61 zk_1 ?_
        refine v_aload_n C 0 dX5_readRule_62 rfl rfl ?_
        refine gf_RX5_70 C hX dX5_readRule_63 ?_
        obtain ⟨x10, g11, e12, hM⟩ := zc_elim hM
        refine v_callVi (ci := 5) (rest := []) C (c_X5_fail hX  e12) mw_X5_fail mi_X5_fail ml_RX5_73 hX.symm zm2 rfl rfl ⟨by decide, Nat.le_of_ble_eq_true rfl⟩ rfl (Nat.le_of_ble_eq_true rfl) dX5_readRule_66 rfl ?_
        obtain ⟨hz, hM⟩ := zbo_elim hM
        exact v_zret2 C hr (zbo_n hz) dX5_readRule_69 hM
      · refine v_aload_n C 0 dX5_readRule_49 rfl rfl ?_
        refine gf_RX5_15 C hX dX5_readRule_50 ?_
        refine v_iconst C (nI 2) dX5_readRule_53 zk_2 ?_
        refine pf_RX5_170 C hX (by decide) dX5_readRule_54 hM (fun g13 hM => ?_)
        refine v_goto C 70 dX5_readRule_57 rfl ?_
        exact t_X5_readRule_b70 hX C hr   hM
    · refine v_aload_n C 0 dX5_readRule_29 rfl rfl ?_
      refine gf_RX5_15 C hX dX5_readRule_30 ?_
      refine v_iconst C (nI 1) dX5_readRule_33 zk_1 ?_
      refine pf_RX5_170 C hX (by decide) dX5_readRule_34 hM (fun g14 hM => ?_)
      refine v_goto C 70 dX5_readRule_37 rfl ?_
      exact t_X5_readRule_b70 hX C hr   hM
  · refine v_aload_n C 0 dX5_readRule_9 rfl rfl ?_
    refine gf_RX5_15 C hX dX5_readRule_10 ?_
    refine v_iconst C (nI 0) dX5_readRule_13 zk_0 ?_
    refine pf_RX5_170 C hX (by decide) dX5_readRule_14 hM (fun g15 hM => ?_)
    refine v_goto C 70 dX5_readRule_17 rfl ?_
    exact t_X5_readRule_b70 hX C hr   hM

theorem c_X5_readMachine {X : zX} (hX : zfl X = false)  {g gr : zG} {rr : Int32}  (hM : X5_readMachine  g = some (rr, gr)) : MC X yX5_readMachine cX5_readMachine 1 (some .boolean) 7 [.inr (.inl (2, 0))] (some (.inl rr)) g gr := by
  refine MC.mk (own := RX5) (L := [some (.inr (.inl (2, 0)))]) (by decide) rfl trivial (Nat.le_of_ble_eq_true rfl) rfl ?_
  intro p l e s m args below meth c C hr
  unfold X5_readMachine at hM
  refine v_aload_n C 0 dX5_readMachine_0 rfl rfl ?_
  refine gf_RX5_44 C hX dX5_readMachine_1 ?_
  refine v_if_eq C 17 dX5_readMachine_4 rfl hM (fun hM => ?_) (fun hM => ?_)
  · refine v_aload_n C 0 dX5_readMachine_17 rfl rfl ?_
    refine v_iconst C (nI 1) dX5_readMachine_18 zk_1 ?_
    refine pf_RX5_44 C hX dX5_readMachine_19 (Or.inr rfl) hM (fun g1 hM => ?_)
    refine v_aload_n C 0 dX5_readMachine_22 rfl rfl ?_
    obtain ⟨x2, g3, e4, hM⟩ := zc_elim hM
    refine v_callVv (ci := 5) (rest := []) C (c_X5_advance hX  e4) mw_X5_advance mi_X5_advance ml_RX5_57 hX.symm zm2 rfl rfl ⟨by decide, Nat.le_of_ble_eq_true rfl⟩ rfl (Nat.le_of_ble_eq_true rfl) dX5_readMachine_23 rfl ?_
    refine v_aload_n C 0 dX5_readMachine_26 rfl rfl ?_
    refine gf_RX5_15 C hX dX5_readMachine_27 ?_
    refine v_aload_n C 0 dX5_readMachine_30 rfl rfl ?_
    refine v_ldcs C dX5_readMachine_31 ks_RX5_142 ?_
    refine v_iconst C (nI 4) dX5_readMachine_33 zk_4 ?_
    refine v_iconst C (nI 1) dX5_readMachine_34 zk_1 ?_
    obtain ⟨x5, g6, e7, hM⟩ := zc_elim hM
    refine v_callVi (ci := 5) (rest := [(.inr (.inl (1, 1)))]) C (c_X5_takeSetting hX (by decide) e7) mw_X5_takeSetting mi_X5_takeSetting ml_RX5_144 hX.symm zm2 rfl rfl ⟨by decide, Nat.le_of_ble_eq_true rfl⟩ rfl (Nat.le_of_ble_eq_true rfl) dX5_readMachine_35 rfl ?_
    refine pf_RX5_148 C hX (by decide) dX5_readMachine_38 hM (fun g8 hM => ?_)
    refine v_aload_n C 0 dX5_readMachine_41 rfl rfl ?_
    refine gf_RX5_15 C hX dX5_readMachine_42 ?_
    refine gf_RX5_148 C hX (by decide) dX5_readMachine_45 ?_
    refine v_iconst C (-1) dX5_readMachine_48 zk_m1 ?_
    refine v_icmp_ne C 54 dX5_readMachine_49 rfl hM (fun hM => ?_) (fun hM => ?_)
    · refine v_aload_n C 0 dX5_readMachine_54 rfl rfl ?_
      refine gf_RX5_15 C hX dX5_readMachine_55 ?_
      refine v_aload_n C 0 dX5_readMachine_58 rfl rfl ?_
      refine v_ldcs C dX5_readMachine_59 ks_RX5_150 ?_
      refine v_iconst C (nI 4) dX5_readMachine_61 zk_4 ?_
      refine v_iconst C (nI 0) dX5_readMachine_62 zk_0 ?_
      obtain ⟨x9, g10, e11, hM⟩ := zc_elim hM
      refine v_callVi (ci := 5) (rest := [(.inr (.inl (1, 1)))]) C (c_X5_takeSetting hX (by decide) e11) mw_X5_takeSetting mi_X5_takeSetting ml_RX5_144 hX.symm zm2 rfl rfl ⟨by decide, Nat.le_of_ble_eq_true rfl⟩ rfl (Nat.le_of_ble_eq_true rfl) dX5_readMachine_63 rfl ?_
      refine pf_RX5_152 C hX (by decide) dX5_readMachine_66 hM (fun g12 hM => ?_)
      refine v_aload_n C 0 dX5_readMachine_69 rfl rfl ?_
      refine gf_RX5_15 C hX dX5_readMachine_70 ?_
      refine gf_RX5_152 C hX (by decide) dX5_readMachine_73 ?_
      refine v_iconst C (-1) dX5_readMachine_76 zk_m1 ?_
      refine v_icmp_ne C 82 dX5_readMachine_77 rfl hM (fun hM => ?_) (fun hM => ?_)
      · refine v_aload_n C 0 dX5_readMachine_82 rfl rfl ?_
        refine gf_RX5_15 C hX dX5_readMachine_83 ?_
        refine v_aload_n C 0 dX5_readMachine_86 rfl rfl ?_
        refine v_ldcs C dX5_readMachine_87 ks_RX5_154 ?_
        refine v_iconst C (nI 4) dX5_readMachine_89 zk_4 ?_
        refine v_iconst C (nI 1) dX5_readMachine_90 zk_1 ?_
        obtain ⟨x13, g14, e15, hM⟩ := zc_elim hM
        refine v_callVi (ci := 5) (rest := [(.inr (.inl (1, 1)))]) C (c_X5_takeSetting hX (by decide) e15) mw_X5_takeSetting mi_X5_takeSetting ml_RX5_144 hX.symm zm2 rfl rfl ⟨by decide, Nat.le_of_ble_eq_true rfl⟩ rfl (Nat.le_of_ble_eq_true rfl) dX5_readMachine_91 rfl ?_
        refine pf_RX5_156 C hX (by decide) dX5_readMachine_94 hM (fun g16 hM => ?_)
        refine v_aload_n C 0 dX5_readMachine_97 rfl rfl ?_
        refine gf_RX5_15 C hX dX5_readMachine_98 ?_
        refine gf_RX5_156 C hX (by decide) dX5_readMachine_101 ?_
        refine v_iconst C (-1) dX5_readMachine_104 zk_m1 ?_
        refine v_icmp_eq C 124 dX5_readMachine_105 rfl hM (fun hM => ?_) (fun hM => ?_)
        · refine v_iconst C (nI 0) dX5_readMachine_124 zk_0 ?_
          exact v_zret2 C hr (zbo_n (Or.inl rfl)) dX5_readMachine_125 hM
        · refine v_aload_n C 0 dX5_readMachine_108 rfl rfl ?_
          refine v_ldcs C dX5_readMachine_109 ks_RX5_159 ?_
          obtain ⟨x17, g18, e19, hM⟩ := zc_elim hM
          refine v_callVi (ci := 5) (rest := []) C (c_X5_takeName hX (by decide) e19) mw_X5_takeName mi_X5_takeName ml_RX5_101 hX.symm zm2 rfl rfl ⟨by decide, Nat.le_of_ble_eq_true rfl⟩ rfl (Nat.le_of_ble_eq_true rfl) dX5_readMachine_111 rfl ?_
          refine v_if_eq C 124 dX5_readMachine_114 rfl hM (fun hM => ?_) (fun hM => ?_)
          · refine v_iconst C (nI 0) dX5_readMachine_124 zk_0 ?_
            exact v_zret2 C hr (zbo_n (Or.inl rfl)) dX5_readMachine_125 hM
          · refine v_aload_n C 0 dX5_readMachine_117 rfl rfl ?_
            obtain ⟨x20, g21, e22, hM⟩ := zc_elim hM
            refine v_callVi (ci := 5) (rest := []) C (c_X5_readRule hX  e22) mw_X5_readRule mi_X5_readRule ml_RX5_161 hX.symm zm2 rfl rfl ⟨by decide, Nat.le_of_ble_eq_true rfl⟩ rfl (Nat.le_of_ble_eq_true rfl) dX5_readMachine_118 rfl ?_
            refine v_if_ne C 126 dX5_readMachine_121 rfl hM (fun hM => ?_) (fun hM => ?_)
            · refine v_aload_n C 0 dX5_readMachine_126 rfl rfl ?_
              refine gf_RX5_15 C hX dX5_readMachine_127 ?_
              refine v_aload_n C 0 dX5_readMachine_130 rfl rfl ?_
              refine v_ldcs C dX5_readMachine_131 ks_RX5_164 ?_
              refine v_bipush C (nI 9) dX5_readMachine_133 zkb_9 ?_
              refine v_iconst C (nI 0) dX5_readMachine_135 zk_0 ?_
              obtain ⟨x23, g24, e25, hM⟩ := zc_elim hM
              refine v_callVi (ci := 5) (rest := [(.inr (.inl (1, 1)))]) C (c_X5_takeSetting hX (by decide) e25) mw_X5_takeSetting mi_X5_takeSetting ml_RX5_144 hX.symm zm2 rfl rfl ⟨by decide, Nat.le_of_ble_eq_true rfl⟩ rfl (Nat.le_of_ble_eq_true rfl) dX5_readMachine_136 rfl ?_
              refine pf_RX5_166 C hX (by decide) dX5_readMachine_139 hM (fun g26 hM => ?_)
              refine v_aload_n C 0 dX5_readMachine_142 rfl rfl ?_
              refine gf_RX5_15 C hX dX5_readMachine_143 ?_
              refine gf_RX5_166 C hX (by decide) dX5_readMachine_146 ?_
              refine v_iconst C (-1) dX5_readMachine_149 zk_m1 ?_
              refine v_icmp_eq C 157 dX5_readMachine_150 rfl hM (fun hM => ?_) (fun hM => ?_)
              · refine v_iconst C (nI 0) dX5_readMachine_157 zk_0 ?_
                exact v_zret2 C hr (zbo_n (Or.inl rfl)) dX5_readMachine_158 hM
              · refine v_iconst C (nI 1) dX5_readMachine_153 zk_1 ?_
                refine v_goto C 158 dX5_readMachine_154 rfl ?_
                exact v_zret2 C hr (zbo_n (Or.inr rfl)) dX5_readMachine_158 hM
            · refine v_iconst C (nI 0) dX5_readMachine_124 zk_0 ?_
              exact v_zret2 C hr (zbo_n (Or.inl rfl)) dX5_readMachine_125 hM
      · refine v_iconst C (nI 0) dX5_readMachine_80 zk_0 ?_
        exact v_zret2 C hr (zbo_n (Or.inl rfl)) dX5_readMachine_81 hM
    · refine v_iconst C (nI 0) dX5_readMachine_52 zk_0 ?_
      exact v_zret2 C hr (zbo_n (Or.inl rfl)) dX5_readMachine_53 hM
  · refine v_aload_n C 0 dX5_readMachine_7 rfl rfl ?_
    refine v_iconst C (nI 3) dX5_readMachine_8 zk_3 ?_
    refine v_aload_n C 0 dX5_readMachine_9 rfl rfl ?_
    refine gf_RX5_70 C hX dX5_readMachine_10 ?_
    obtain ⟨x27, g28, e29, hM⟩ := zc_elim hM
    refine v_callVi (ci := 5) (rest := []) C (c_X5_fail hX  e29) mw_X5_fail mi_X5_fail ml_RX5_73 hX.symm zm2 rfl rfl ⟨by decide, Nat.le_of_ble_eq_true rfl⟩ rfl (Nat.le_of_ble_eq_true rfl) dX5_readMachine_13 rfl ?_
    obtain ⟨hz, hM⟩ := zbo_elim hM
    exact v_zret2 C hr (zbo_n hz) dX5_readMachine_16 hM

theorem t_X5_readWord_b75 {v2 : Int32}  {g : zG} (hX : zfl X = false) (C : Cx X p (zrm 3) s m args meth c cX5_readWord 4 RX5 0 0) (hr : meth.sig.returnType = (some .boolean))   (hM : X5_readWord_b75  v2 g = some (rr, gr)) : V X p l e (zrm 3) s m args below meth c 4 0 0 (MQ below (zQ X (Option.map (zM X) (some (.inl rr))) gr) args s 0 0 (zF X)) g 75 [some (.inr (.inl (2, 0))), none, some (.inl v2), none] [] := by
  unfold X5_readWord_b75 at hM
  refine v_aload_n C 0 dX5_readWord_75 rfl rfl ?_
  refine v_iconst C (nI 3) dX5_readWord_76 zk_3 ?_
  refine v_iload_n C 2 dX5_readWord_77 rfl rfl ?_
  obtain ⟨x1, g2, e3, hM⟩ := zc_elim hM
  refine v_callVi (ci := 5) (rest := []) C (c_X5_fail hX  e3) mw_X5_fail mi_X5_fail ml_RX5_73 hX.symm zm2 rfl rfl ⟨by decide, Nat.le_of_ble_eq_true rfl⟩ rfl (Nat.le_of_ble_eq_true rfl) dX5_readWord_78 rfl ?_
  obtain ⟨hz, hM⟩ := zbo_elim hM
  exact v_zret2 C hr (zbo_n hz) dX5_readWord_81 hM

theorem c_X5_readWord {X : zX} (hX : zfl X = false)  {g gr : zG} {rr : Int32}  (hM : X5_readWord  g = some (rr, gr)) : MC X yX5_readWord cX5_readWord 4 (some .boolean) 3 [.inr (.inl (2, 0))] (some (.inl rr)) g gr := by
  refine MC.mk (own := RX5) (L := [some (.inr (.inl (2, 0))), none, none, none]) (by decide) rfl trivial (Nat.le_of_ble_eq_true rfl) rfl ?_
  intro p l e s m args below meth c C hr
  unfold X5_readWord at hM
  refine v_aload_n C 0 dX5_readWord_0 rfl rfl ?_
  refine gf_RX5_15 C hX dX5_readWord_1 ?_
  refine gf_RX5_176 C hX (by decide) dX5_readWord_4 ?_
  refine v_bipush C (nI 12) dX5_readWord_7 zkb_12 ?_
  refine v_icmp_lt C 22 dX5_readWord_9 rfl hM (fun hM => ?_) (fun hM => ?_)
  · refine v_aload_n C 0 dX5_readWord_22 rfl rfl ?_
    obtain ⟨x1, g2, e3, hM⟩ := zc_elim hM
    refine v_callVv (ci := 5) (rest := []) C (c_X5_advance hX  e3) mw_X5_advance mi_X5_advance ml_RX5_57 hX.symm zm2 rfl rfl ⟨by decide, Nat.le_of_ble_eq_true rfl⟩ rfl (Nat.le_of_ble_eq_true rfl) dX5_readWord_23 rfl ?_
    refine v_aload_n C 0 dX5_readWord_26 rfl rfl ?_
    refine gf_RX5_84 C hX dX5_readWord_27 ?_
    refine v_istore_n (L' := [some (.inr (.inl (2, 0))), some (.inl (g2 8002 0 0)), none, none]) C 1 dX5_readWord_30 rfl (by decide) rfl ?_
    refine v_aload_n C 0 dX5_readWord_31 rfl rfl ?_
    refine gf_RX5_70 C hX dX5_readWord_32 ?_
    refine v_istore_n (L' := [some (.inr (.inl (2, 0))), some (.inl (g2 8002 0 0)), some (.inl (g2 6002 0 0)), none]) C 2 dX5_readWord_35 rfl (by decide) rfl ?_
    refine v_aload_n C 0 dX5_readWord_36 rfl rfl ?_
    refine v_iconst C (nI 0) dX5_readWord_37 zk_0 ?_
    refine v_aload_n C 0 dX5_readWord_38 rfl rfl ?_
    refine gf_RX5_15 C hX dX5_readWord_39 ?_
    obtain ⟨x4, g5, e6, hM⟩ := zc_elim hM
    refine v_callVNi (ci := 2) (rest := [(.inl (nI 0)), (.inr (.inl (2, 0)))]) C (c_X2_addresses hX (by decide) e6) mw_X2_addresses mi_X2_addresses ml_RX5_179 hX.symm (zm1 (by decide)) rfl rfl ⟨by decide, Nat.le_of_ble_eq_true rfl⟩ rfl (Nat.le_of_ble_eq_true rfl) dX5_readWord_42 rfl ?_
    refine v_iconst C (nI 1) dX5_readWord_45 zk_1 ?_
    refine v_isub C dX5_readWord_46 ?_
    obtain ⟨x7, g8, e9, hM⟩ := zc_elim hM
    refine v_callVi (ci := 5) (rest := []) C (c_X5_takeWhole hX  e9) mw_X5_takeWhole mi_X5_takeWhole ml_RX5_104 hX.symm zm2 rfl rfl ⟨by decide, Nat.le_of_ble_eq_true rfl⟩ rfl (Nat.le_of_ble_eq_true rfl) dX5_readWord_47 rfl ?_
    refine v_if_ne C 55 dX5_readWord_50 rfl hM (fun hM => ?_) (fun hM => ?_)
    · refine v_aload_n C 0 dX5_readWord_55 rfl rfl ?_
      refine gf_RX5_15 C hX dX5_readWord_56 ?_
      refine v_iload_n C 1 dX5_readWord_59 rfl rfl ?_
      obtain ⟨x10, g11, e12, hM⟩ := zc_elim hM
      refine v_callVNi (ci := 2) (rest := []) C (c_X2_hasAddress hX (by decide) e12) mw_X2_hasAddress mi_X2_hasAddress ml_RX5_182 hX.symm (zm1 (by decide)) rfl rfl ⟨by decide, Nat.le_of_ble_eq_true rfl⟩ rfl (Nat.le_of_ble_eq_true rfl) dX5_readWord_60 rfl ?_
      refine v_if_eq C 75 dX5_readWord_63 rfl hM (fun hM => ?_) (fun hM => ?_)
      · exact v_weak (t_X5_readWord_b75 hX C hr   hM) (show zsub [some (.inr (.inl (2, 0))), none, some (.inl (g2 6002 0 0)), none] [some (.inr (.inl (2, 0))), some (.inl (g2 8002 0 0)), some (.inl (g2 6002 0 0)), none] from ⟨rfl, ⟨rfl, trivial⟩⟩)
      · refine v_aload_n C 0 dX5_readWord_66 rfl rfl ?_
        refine gf_RX5_9 C hX dX5_readWord_67 ?_
        refine v_iload_n C 1 dX5_readWord_70 rfl rfl ?_
        refine ia_16 C hX dX5_readWord_71 hM (fun hM _ => ?_)
        refine v_if_eq C 82 dX5_readWord_72 rfl hM (fun hM => ?_) (fun hM => ?_)
        · refine v_aload_n C 0 dX5_readWord_82 rfl rfl ?_
          refine gf_RX5_84 C hX dX5_readWord_83 ?_
          refine v_istore_n (L' := [some (.inr (.inl (2, 0))), some (.inl (g2 8002 0 0)), some (.inl (g2 6002 0 0)), some (.inl (g11 8002 0 0))]) C 3 dX5_readWord_86 rfl (by decide) rfl ?_
          refine v_aload_n C 0 dX5_readWord_87 rfl rfl ?_
          refine v_iconst C (nI 0) dX5_readWord_88 zk_0 ?_
          refine v_sipush C (nI 999) dX5_readWord_89 zks_999 ?_
          obtain ⟨x13, g14, e15, hM⟩ := zc_elim hM
          refine v_callVi (ci := 5) (rest := []) C (c_X5_takeWhole hX  e15) mw_X5_takeWhole mi_X5_takeWhole ml_RX5_104 hX.symm zm2 rfl rfl ⟨by decide, Nat.le_of_ble_eq_true rfl⟩ rfl (Nat.le_of_ble_eq_true rfl) dX5_readWord_92 rfl ?_
          refine v_if_ne C 100 dX5_readWord_95 rfl hM (fun hM => ?_) (fun hM => ?_)
          · refine v_aload_n C 0 dX5_readWord_100 rfl rfl ?_
            refine gf_RX5_9 C hX dX5_readWord_101 ?_
            refine v_iload_n C 1 dX5_readWord_104 rfl rfl ?_
            refine v_iconst C (nI 1) dX5_readWord_105 zk_1 ?_
            refine is_16 C hX zvb1 dX5_readWord_106 hM (fun g16 hM => ?_)
            refine v_aload_n C 0 dX5_readWord_107 rfl rfl ?_
            refine gf_RX5_15 C hX dX5_readWord_108 ?_
            refine v_iload_n C 1 dX5_readWord_111 rfl rfl ?_
            refine v_iload_n C 3 dX5_readWord_112 rfl rfl ?_
            obtain ⟨x17, g18, e19, hM⟩ := zc_elim hM
            refine v_callVNv (ci := 2) (rest := []) C (c_X2_addWord hX (by decide) e19) mw_X2_addWord mi_X2_addWord ml_RX5_185 hX.symm (zm1 (by decide)) rfl rfl ⟨by decide, Nat.le_of_ble_eq_true rfl⟩ rfl (Nat.le_of_ble_eq_true rfl) dX5_readWord_113 rfl ?_
            refine v_iconst C (nI 1) dX5_readWord_116 zk_1 ?_
            exact v_zret2 C hr (zbo_n (Or.inr rfl)) dX5_readWord_117 hM
          · refine v_iconst C (nI 0) dX5_readWord_98 zk_0 ?_
            exact v_zret2 C hr (zbo_n (Or.inl rfl)) dX5_readWord_99 hM
        · exact v_weak (t_X5_readWord_b75 hX C hr   hM) (show zsub [some (.inr (.inl (2, 0))), none, some (.inl (g2 6002 0 0)), none] [some (.inr (.inl (2, 0))), some (.inl (g2 8002 0 0)), some (.inl (g2 6002 0 0)), none] from ⟨rfl, ⟨rfl, trivial⟩⟩)
    · refine v_iconst C (nI 0) dX5_readWord_53 zk_0 ?_
      exact v_zret2 C hr (zbo_n (Or.inl rfl)) dX5_readWord_54 hM
  · refine v_aload_n C 0 dX5_readWord_12 rfl rfl ?_
    refine v_iconst C (nI 4) dX5_readWord_13 zk_4 ?_
    refine v_aload_n C 0 dX5_readWord_14 rfl rfl ?_
    refine gf_RX5_70 C hX dX5_readWord_15 ?_
    obtain ⟨x20, g21, e22, hM⟩ := zc_elim hM
    refine v_callVi (ci := 5) (rest := []) C (c_X5_fail hX  e22) mw_X5_fail mi_X5_fail ml_RX5_73 hX.symm zm2 rfl rfl ⟨by decide, Nat.le_of_ble_eq_true rfl⟩ rfl (Nat.le_of_ble_eq_true rfl) dX5_readWord_18 rfl ?_
    obtain ⟨hz, hM⟩ := zbo_elim hM
    exact v_zret2 C hr (zbo_n hz) dX5_readWord_21 hM

theorem c_X5_readCore {X : zX} (hX : zfl X = false)  {g gr : zG} {rr : Int32}  (hM : X5_readCore  g = some (rr, gr)) : MC X yX5_readCore cX5_readCore 1 (some .boolean) 2 [.inr (.inl (2, 0))] (some (.inl rr)) g gr := by
  refine MC.mk (own := RX5) (L := [some (.inr (.inl (2, 0)))]) (by decide) rfl trivial (Nat.le_of_ble_eq_true rfl) rfl ?_
  intro p l e s m args below meth c C hr
  unfold X5_readCore at hM
  refine v_aload_n C 0 dX5_readCore_0 rfl rfl ?_
  refine gf_RX5_15 C hX dX5_readCore_1 ?_
  refine gf_RX5_77 C hX (by decide) dX5_readCore_4 ?_
  refine v_iconst C (nI 4) dX5_readCore_7 zk_4 ?_
  refine v_icmp_lt C 21 dX5_readCore_8 rfl hM (fun hM => ?_) (fun hM => ?_)
  · refine v_aload_n C 0 dX5_readCore_21 rfl rfl ?_
    refine gf_RX5_48 C hX dX5_readCore_22 ?_
    refine v_if_eq C 39 dX5_readCore_25 rfl hM (fun hM => ?_) (fun hM => ?_)
    · refine v_aload_n C 0 dX5_readCore_39 rfl rfl ?_
      refine gf_RX5_15 C hX dX5_readCore_40 ?_
      refine v_dup_a C dX5_readCore_43 ?_
      refine gf_RX5_77 C hX (by decide) dX5_readCore_44 ?_
      refine v_iconst C (nI 1) dX5_readCore_47 zk_1 ?_
      refine v_iadd C dX5_readCore_48 ?_
      refine pf_RX5_77 C hX (by decide) dX5_readCore_49 hM (fun g1 hM => ?_)
      refine v_aload_n C 0 dX5_readCore_52 rfl rfl ?_
      obtain ⟨x2, g3, e4, hM⟩ := zc_elim hM
      refine v_callVv (ci := 5) (rest := []) C (c_X5_advance hX  e4) mw_X5_advance mi_X5_advance ml_RX5_57 hX.symm zm2 rfl rfl ⟨by decide, Nat.le_of_ble_eq_true rfl⟩ rfl (Nat.le_of_ble_eq_true rfl) dX5_readCore_53 rfl ?_
      refine v_iconst C (nI 1) dX5_readCore_56 zk_1 ?_
      exact v_zret2 C hr (zbo_n (Or.inr rfl)) dX5_readCore_57 hM
    · refine v_aload_n C 0 dX5_readCore_28 rfl rfl ?_
      refine v_bipush C (nI 6) dX5_readCore_29 zkb_6 ?_
      refine v_aload_n C 0 dX5_readCore_31 rfl rfl ?_
      refine gf_RX5_70 C hX dX5_readCore_32 ?_
      obtain ⟨x5, g6, e7, hM⟩ := zc_elim hM
      refine v_callVi (ci := 5) (rest := []) C (c_X5_fail hX  e7) mw_X5_fail mi_X5_fail ml_RX5_73 hX.symm zm2 rfl rfl ⟨by decide, Nat.le_of_ble_eq_true rfl⟩ rfl (Nat.le_of_ble_eq_true rfl) dX5_readCore_35 rfl ?_
      obtain ⟨hz, hM⟩ := zbo_elim hM
      exact v_zret2 C hr (zbo_n hz) dX5_readCore_38 hM
  · refine v_aload_n C 0 dX5_readCore_11 rfl rfl ?_
    refine v_iconst C (nI 4) dX5_readCore_12 zk_4 ?_
    refine v_aload_n C 0 dX5_readCore_13 rfl rfl ?_
    refine gf_RX5_70 C hX dX5_readCore_14 ?_
    obtain ⟨x8, g9, e10, hM⟩ := zc_elim hM
    refine v_callVi (ci := 5) (rest := []) C (c_X5_fail hX  e10) mw_X5_fail mi_X5_fail ml_RX5_73 hX.symm zm2 rfl rfl ⟨by decide, Nat.le_of_ble_eq_true rfl⟩ rfl (Nat.le_of_ble_eq_true rfl) dX5_readCore_17 rfl ?_
    obtain ⟨hz, hM⟩ := zbo_elim hM
    exact v_zret2 C hr (zbo_n hz) dX5_readCore_20 hM

theorem t_X5_readRest_b107 {v1 : Int32} {v3 : Int32} {v4 : Int32}  {g : zG} (hX : zfl X = false) (C : Cx X p (zrm 5) s m args meth c cX5_readRest 5 RX5 0 0) (hr : meth.sig.returnType = (some .boolean))   (hM : X5_readRest_b107  v1 v3 v4 g = some (rr, gr)) : V X p l e (zrm 5) s m args below meth c 5 0 0 (MQ below (zQ X (Option.map (zM X) (some (.inl rr))) gr) args s 0 0 (zF X)) g 107 [some (.inr (.inl (2, 0))), some (.inl v1), none, some (.inl v3), some (.inl v4)] [] := by
  unfold X5_readRest_b107 at hM
  refine v_aload_n C 0 dX5_readRest_107 rfl rfl ?_
  refine gf_RX5_15 C hX dX5_readRest_108 ?_
  refine v_iload_n C 1 dX5_readRest_111 rfl rfl ?_
  refine v_iload_n C 3 dX5_readRest_112 rfl rfl ?_
  refine v_iload C 4 dX5_readRest_113 rfl ?_
  obtain ⟨x1, g2, e3, hM⟩ := zc_elim hM
  refine v_callVNv (ci := 2) (rest := []) C (c_X2_addDeed hX (by decide) e3) mw_X2_addDeed mi_X2_addDeed ml_RX5_198 hX.symm (zm1 (by decide)) rfl rfl ⟨by decide, Nat.le_of_ble_eq_true rfl⟩ rfl (Nat.le_of_ble_eq_true rfl) dX5_readRest_115 rfl ?_
  refine v_iconst C (nI 1) dX5_readRest_118 zk_1 ?_
  exact v_zret2 C hr (zbo_n (Or.inr rfl)) dX5_readRest_119 hM

theorem t_X5_readRest_b96 {v1 : Int32} {v3 : Int32} {s0 : Int32}  {g : zG} (hX : zfl X = false) (C : Cx X p (zrm 5) s m args meth c cX5_readRest 5 RX5 0 0) (hr : meth.sig.returnType = (some .boolean))   (hM : X5_readRest_b96  v1 v3 s0 g = some (rr, gr)) : V X p l e (zrm 5) s m args below meth c 5 0 0 (MQ below (zQ X (Option.map (zM X) (some (.inl rr))) gr) args s 0 0 (zF X)) g 96 [some (.inr (.inl (2, 0))), some (.inl v1), none, some (.inl v3), none] [(.inl s0)] := by
  unfold X5_readRest_b96 at hM
  refine v_istore (L' := [some (.inr (.inl (2, 0))), some (.inl v1), none, some (.inl v3), some (.inl s0)]) C 4 dX5_readRest_96 (by decide) rfl ?_
  refine v_iload C 4 dX5_readRest_98 rfl ?_
  refine v_if_eq C 107 dX5_readRest_100 rfl hM (fun hM => ?_) (fun hM => ?_)
  · exact t_X5_readRest_b107 hX C hr   hM
  · refine v_aload_n C 0 dX5_readRest_103 rfl rfl ?_
    obtain ⟨x1, g2, e3, hM⟩ := zc_elim hM
    refine v_callVv (ci := 5) (rest := []) C (c_X5_advance hX  e3) mw_X5_advance mi_X5_advance ml_RX5_57 hX.symm zm2 rfl rfl ⟨by decide, Nat.le_of_ble_eq_true rfl⟩ rfl (Nat.le_of_ble_eq_true rfl) dX5_readRest_104 rfl ?_
    exact t_X5_readRest_b107 hX C hr   hM

theorem t_X5_readRest_b95 {v1 : Int32} {v3 : Int32}  {g : zG} (hX : zfl X = false) (C : Cx X p (zrm 5) s m args meth c cX5_readRest 5 RX5 0 0) (hr : meth.sig.returnType = (some .boolean))   (hM : X5_readRest_b95  v1 v3 g = some (rr, gr)) : V X p l e (zrm 5) s m args below meth c 5 0 0 (MQ below (zQ X (Option.map (zM X) (some (.inl rr))) gr) args s 0 0 (zF X)) g 95 [some (.inr (.inl (2, 0))), some (.inl v1), none, some (.inl v3), none] [] := by
  unfold X5_readRest_b95 at hM
  refine v_iconst C (nI 0) dX5_readRest_95 zk_0 ?_
  exact t_X5_readRest_b96 hX C hr   hM

theorem t_X5_readRest_b70 {v1 : Int32} {v2 : Int32} {v3 : Int32} {s1 : Int32} {s2 : Int32}  {g : zG} (hX : zfl X = false) (C : Cx X p (zrm 5) s m args meth c cX5_readRest 5 RX5 0 0) (hr : meth.sig.returnType = (some .boolean))   (hM : X5_readRest_b70  v1 v2 v3 s1 s2 g = some (rr, gr)) : V X p l e (zrm 5) s m args below meth c 5 0 0 (MQ below (zQ X (Option.map (zM X) (some (.inl rr))) gr) args s 0 0 (zF X)) g 70 [some (.inr (.inl (2, 0))), some (.inl v1), some (.inl v2), some (.inl v3), none] [(.inl s2), (.inl s1), (.inr (.inl (2, 0)))] := by
  unfold X5_readRest_b70 at hM
  obtain ⟨x1, g2, e3, hM⟩ := zc_elim hM
  refine v_callVi (ci := 5) (rest := []) C (c_X5_takeWhole hX  e3) mw_X5_takeWhole mi_X5_takeWhole ml_RX5_104 hX.symm zm2 rfl rfl ⟨by decide, Nat.le_of_ble_eq_true rfl⟩ rfl (Nat.le_of_ble_eq_true rfl) dX5_readRest_70 rfl ?_
  refine v_if_ne C 78 dX5_readRest_73 rfl hM (fun hM => ?_) (fun hM => ?_)
  · refine v_iload_n C 2 dX5_readRest_78 rfl rfl ?_
    refine v_if_eq C 95 dX5_readRest_79 rfl hM (fun hM => ?_) (fun hM => ?_)
    · exact v_weak (t_X5_readRest_b95 hX C hr   hM) (show zsub [some (.inr (.inl (2, 0))), some (.inl v1), none, some (.inl v3), none] [some (.inr (.inl (2, 0))), some (.inl v1), some (.inl v2), some (.inl v3), none] from ⟨rfl, ⟨rfl, ⟨rfl, trivial⟩⟩⟩)
    · refine v_aload_n C 0 dX5_readRest_82 rfl rfl ?_
      refine v_ldcs C dX5_readRest_83 ks_RX5_202 ?_
      obtain ⟨x4, g5, e6, hM⟩ := zc_elim hM
      refine v_callVi (ci := 5) (rest := []) C (c_X5_isName hX (by decide) e6) mw_X5_isName mi_X5_isName ml_RX5_97 hX.symm zm2 rfl rfl ⟨by decide, Nat.le_of_ble_eq_true rfl⟩ rfl (Nat.le_of_ble_eq_true rfl) dX5_readRest_85 rfl ?_
      refine v_if_eq C 95 dX5_readRest_88 rfl hM (fun hM => ?_) (fun hM => ?_)
      · exact v_weak (t_X5_readRest_b95 hX C hr   hM) (show zsub [some (.inr (.inl (2, 0))), some (.inl v1), none, some (.inl v3), none] [some (.inr (.inl (2, 0))), some (.inl v1), some (.inl v2), some (.inl v3), none] from ⟨rfl, ⟨rfl, ⟨rfl, trivial⟩⟩⟩)
      · refine v_iconst C (nI 1) dX5_readRest_91 zk_1 ?_
        refine v_goto C 96 dX5_readRest_92 rfl ?_
        exact v_weak (t_X5_readRest_b96 hX C hr   hM) (show zsub [some (.inr (.inl (2, 0))), some (.inl v1), none, some (.inl v3), none] [some (.inr (.inl (2, 0))), some (.inl v1), some (.inl v2), some (.inl v3), none] from ⟨rfl, ⟨rfl, ⟨rfl, trivial⟩⟩⟩)
  · refine v_iconst C (nI 0) dX5_readRest_76 zk_0 ?_
    exact v_zret2 C hr (zbo_n (Or.inl rfl)) dX5_readRest_77 hM

theorem t_X5_readRest_b44 {v1 : Int32} {v2 : Int32}  {g : zG} (hX : zfl X = false) (C : Cx X p (zrm 5) s m args meth c cX5_readRest 5 RX5 0 0) (hr : meth.sig.returnType = (some .boolean))   (hM : X5_readRest_b44  v1 v2 g = some (rr, gr)) : V X p l e (zrm 5) s m args below meth c 5 0 0 (MQ below (zQ X (Option.map (zM X) (some (.inl rr))) gr) args s 0 0 (zF X)) g 44 [some (.inr (.inl (2, 0))), some (.inl v1), some (.inl v2), none, none] [] := by
  unfold X5_readRest_b44 at hM
  refine v_aload_n C 0 dX5_readRest_44 rfl rfl ?_
  refine gf_RX5_84 C hX dX5_readRest_45 ?_
  refine v_istore_n (L' := [some (.inr (.inl (2, 0))), some (.inl v1), some (.inl v2), some (.inl (g 8002 0 0)), none]) C 3 dX5_readRest_48 rfl (by decide) rfl ?_
  refine v_aload_n C 0 dX5_readRest_49 rfl rfl ?_
  refine v_iconst C (nI 0) dX5_readRest_50 zk_0 ?_
  refine v_iload_n C 2 dX5_readRest_51 rfl rfl ?_
  refine v_if_eq C 67 dX5_readRest_52 rfl hM (fun hM => ?_) (fun hM => ?_)
  · refine v_sipush C (nI 999) dX5_readRest_67 zks_999 ?_
    exact t_X5_readRest_b70 hX C hr   hM
  · refine v_aload_n C 0 dX5_readRest_55 rfl rfl ?_
    refine gf_RX5_15 C hX dX5_readRest_56 ?_
    obtain ⟨x1, g2, e3, hM⟩ := zc_elim hM
    refine v_callVNi (ci := 2) (rest := [(.inl (nI 0)), (.inr (.inl (2, 0)))]) C (c_X2_addresses hX (by decide) e3) mw_X2_addresses mi_X2_addresses ml_RX5_179 hX.symm (zm1 (by decide)) rfl rfl ⟨by decide, Nat.le_of_ble_eq_true rfl⟩ rfl (Nat.le_of_ble_eq_true rfl) dX5_readRest_59 rfl ?_
    refine v_iconst C (nI 1) dX5_readRest_62 zk_1 ?_
    refine v_isub C dX5_readRest_63 ?_
    refine v_goto C 70 dX5_readRest_64 rfl ?_
    exact t_X5_readRest_b70 hX C hr   hM

theorem t_X5_readRest_b15 {v1 : Int32} {s0 : Int32}  {g : zG} (hX : zfl X = false) (C : Cx X p (zrm 5) s m args meth c cX5_readRest 5 RX5 0 0) (hr : meth.sig.returnType = (some .boolean))   (hM : X5_readRest_b15  v1 s0 g = some (rr, gr)) : V X p l e (zrm 5) s m args below meth c 5 0 0 (MQ below (zQ X (Option.map (zM X) (some (.inl rr))) gr) args s 0 0 (zF X)) g 15 [some (.inr (.inl (2, 0))), some (.inl v1), none, none, none] [(.inl s0)] := by
  unfold X5_readRest_b15 at hM
  refine v_istore_n (L' := [some (.inr (.inl (2, 0))), some (.inl v1), some (.inl s0), none, none]) C 2 dX5_readRest_15 rfl (by decide) rfl ?_
  refine v_iload_n C 2 dX5_readRest_16 rfl rfl ?_
  refine v_if_ne C 44 dX5_readRest_17 rfl hM (fun hM => ?_) (fun hM => ?_)
  · exact t_X5_readRest_b44 hX C hr   hM
  · refine v_iload_n C 1 dX5_readRest_20 rfl rfl ?_
    refine v_iconst C (nI 5) dX5_readRest_21 zk_5 ?_
    refine v_icmp_eq C 44 dX5_readRest_22 rfl hM (fun hM => ?_) (fun hM => ?_)
    · exact t_X5_readRest_b44 hX C hr   hM
    · refine v_iload_n C 1 dX5_readRest_25 rfl rfl ?_
      refine v_bipush C (nI 6) dX5_readRest_26 zkb_6 ?_
      refine v_icmp_eq C 44 dX5_readRest_28 rfl hM (fun hM => ?_) (fun hM => ?_)
      · exact t_X5_readRest_b44 hX C hr   hM
      · refine v_aload_n C 0 dX5_readRest_31 rfl rfl ?_
        refine gf_RX5_15 C hX dX5_readRest_32 ?_
        refine v_iload_n C 1 dX5_readRest_35 rfl rfl ?_
        refine v_bipush C (-2) dX5_readRest_36 zkb_m2 ?_
        refine v_iconst C (nI 0) dX5_readRest_38 zk_0 ?_
        obtain ⟨x1, g2, e3, hM⟩ := zc_elim hM
        refine v_callVNv (ci := 2) (rest := []) C (c_X2_addDeed hX (by decide) e3) mw_X2_addDeed mi_X2_addDeed ml_RX5_198 hX.symm (zm1 (by decide)) rfl rfl ⟨by decide, Nat.le_of_ble_eq_true rfl⟩ rfl (Nat.le_of_ble_eq_true rfl) dX5_readRest_39 rfl ?_
        refine v_iconst C (nI 1) dX5_readRest_42 zk_1 ?_
        exact v_zret2 C hr (zbo_n (Or.inr rfl)) dX5_readRest_43 hM

theorem t_X5_readRest_b10 {v1 : Int32}  {g : zG} (hX : zfl X = false) (C : Cx X p (zrm 5) s m args meth c cX5_readRest 5 RX5 0 0) (hr : meth.sig.returnType = (some .boolean))   (hM : X5_readRest_b10  v1 g = some (rr, gr)) : V X p l e (zrm 5) s m args below meth c 5 0 0 (MQ below (zQ X (Option.map (zM X) (some (.inl rr))) gr) args s 0 0 (zF X)) g 10 [some (.inr (.inl (2, 0))), some (.inl v1), none, none, none] [] := by
  unfold X5_readRest_b10 at hM
  refine v_iconst C (nI 1) dX5_readRest_10 zk_1 ?_
  refine v_goto C 15 dX5_readRest_11 rfl ?_
  exact t_X5_readRest_b15 hX C hr   hM

theorem c_X5_readRest {X : zX} (hX : zfl X = false) {v1 : Int32} {g gr : zG} {rr : Int32}  (hM : X5_readRest v1 g = some (rr, gr)) : MC X yX5_readRest cX5_readRest 5 (some .boolean) 5 [.inr (.inl (2, 0)), .inl v1] (some (.inl rr)) g gr := by
  refine MC.mk (own := RX5) (L := [some (.inr (.inl (2, 0))), some (.inl v1), none, none, none]) (by decide) rfl trivial (Nat.le_of_ble_eq_true rfl) rfl ?_
  intro p l e s m args below meth c C hr
  unfold X5_readRest at hM
  refine v_iload_n C 1 dX5_readRest_0 rfl rfl ?_
  refine v_iconst C (nI 3) dX5_readRest_1 zk_3 ?_
  refine v_icmp_eq C 10 dX5_readRest_2 rfl hM (fun hM => ?_) (fun hM => ?_)
  · exact t_X5_readRest_b10 hX C hr   hM
  · refine v_iload_n C 1 dX5_readRest_5 rfl rfl ?_
    refine v_iconst C (nI 4) dX5_readRest_6 zk_4 ?_
    refine v_icmp_ne C 14 dX5_readRest_7 rfl hM (fun hM => ?_) (fun hM => ?_)
    · refine v_iconst C (nI 0) dX5_readRest_14 zk_0 ?_
      exact t_X5_readRest_b15 hX C hr   hM
    · exact t_X5_readRest_b10 hX C hr   hM

end ZL
