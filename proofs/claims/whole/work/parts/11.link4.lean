section ZL
variable {X : zX} {p : Program} {l : Launch} {e : Env} {s : State} {m : MethodId} {args : Array Value} {below : List Frame} {meth : Method} {c : Code} {rr : Int32} {gr : zG}
theorem t_X7_isRival_b54   {g : zG} (hX : zfl X = true) (C : Cx X p (zrm 2) s m args meth c cX7_isRival 6 RX7 0 0) (hr : meth.sig.returnType = (some .boolean))   (hM : X7_isRival_b54   g = some (rr, gr)) : V X p l e (zrm 2) s m args below meth c 6 0 0 (MQ below (zQ X (Option.map (zM X) (some (.inl rr))) gr) args s 0 0 (zF X)) g 54 [none, none, none, none, none, none] [] := by
  unfold X7_isRival_b54 at hM
  refine v_iconst C (nI 1) dX7_isRival_54 zk_1 ?_
  refine v_goto C 59 dX7_isRival_55 rfl ?_
  exact v_zret2 C hr (zbo_n (Or.inr rfl)) dX7_isRival_59 hM

theorem t_X7_isRival_b15 {v4 : Int32} {s0 : Int32}  {g : zG} (hX : zfl X = true) (C : Cx X p (zrm 2) s m args meth c cX7_isRival 6 RX7 0 0) (hr : meth.sig.returnType = (some .boolean))   (hM : X7_isRival_b15  v4 s0 g = some (rr, gr)) : V X p l e (zrm 2) s m args below meth c 6 0 0 (MQ below (zQ X (Option.map (zM X) (some (.inl rr))) gr) args s 0 0 (zF X)) g 15 [some (.inr (.inl (7, 0))), none, none, none, some (.inl v4), none] [(.inl s0)] := by
  unfold X7_isRival_b15 at hM
  refine v_istore (L' := [some (.inr (.inl (7, 0))), none, none, none, some (.inl v4), some (.inl s0)]) C 5 dX7_isRival_15 (by decide) rfl ?_
  refine v_iload C 5 dX7_isRival_17 rfl ?_
  refine v_iconst C (-1) dX7_isRival_19 zk_m1 ?_
  refine v_icmp_eq C 58 dX7_isRival_20 rfl hM (fun hM => ?_) (fun hM => ?_)
  · refine v_iconst C (nI 0) dX7_isRival_58 zk_0 ?_
    exact v_zret2 C hr (zbo_n (Or.inl rfl)) dX7_isRival_59 hM
  · refine v_aload_n C 0 dX7_isRival_23 rfl rfl ?_
    refine gf_RX7_53 C hX dX7_isRival_24 ?_
    refine v_iload C 5 dX7_isRival_27 rfl ?_
    refine v_iconst C (nI 3) dX7_isRival_29 zk_3 ?_
    refine v_iadd C dX7_isRival_30 ?_
    refine ia_43 C hX dX7_isRival_31 hM (fun hM _ => ?_)
    refine v_iconst C (nI 1) dX7_isRival_32 zk_1 ?_
    refine v_icmp_eq C 54 dX7_isRival_33 rfl hM (fun hM => ?_) (fun hM => ?_)
    · exact v_weak (t_X7_isRival_b54 hX C hr   hM) (show zsub [none, none, none, none, none, none] [some (.inr (.inl (7, 0))), none, none, none, some (.inl v4), some (.inl s0)] from trivial)
    · refine v_iload C 4 dX7_isRival_36 rfl ?_
      refine v_if_eq C 58 dX7_isRival_38 rfl hM (fun hM => ?_) (fun hM => ?_)
      · refine v_iconst C (nI 0) dX7_isRival_58 zk_0 ?_
        exact v_zret2 C hr (zbo_n (Or.inl rfl)) dX7_isRival_59 hM
      · refine v_aload_n C 0 dX7_isRival_41 rfl rfl ?_
        refine gf_RX7_53 C hX dX7_isRival_42 ?_
        refine v_iload C 5 dX7_isRival_45 rfl ?_
        refine v_iconst C (nI 2) dX7_isRival_47 zk_2 ?_
        refine v_iadd C dX7_isRival_48 ?_
        refine ia_43 C hX dX7_isRival_49 hM (fun hM _ => ?_)
        refine v_iconst C (nI 1) dX7_isRival_50 zk_1 ?_
        refine v_icmp_ne C 58 dX7_isRival_51 rfl hM (fun hM => ?_) (fun hM => ?_)
        · refine v_iconst C (nI 0) dX7_isRival_58 zk_0 ?_
          exact v_zret2 C hr (zbo_n (Or.inl rfl)) dX7_isRival_59 hM
        · exact v_weak (t_X7_isRival_b54 hX C hr   hM) (show zsub [none, none, none, none, none, none] [some (.inr (.inl (7, 0))), none, none, none, some (.inl v4), some (.inl s0)] from trivial)

theorem c_X7_isRival {X : zX} (hX : zfl X = true) {v1 : Int32} {v2 : Int32} {v3 : Int32} {v4 : Int32} {g gr : zG} {rr : Int32}  (hM : X7_isRival v1 v2 v3 v4 g = some (rr, gr)) : MC X yX7_isRival cX7_isRival 6 (some .boolean) 2 [.inr (.inl (7, 0)), .inl v1, .inl v2, .inl v3, .inl v4] (some (.inl rr)) g gr := by
  refine MC.mk (own := RX7) (L := [some (.inr (.inl (7, 0))), some (.inl v1), some (.inl v2), some (.inl v3), some (.inl v4), none]) (by decide) rfl trivial (Nat.le_of_ble_eq_true rfl) rfl ?_
  intro p l e s m args below meth c C hr
  unfold X7_isRival at hM
  refine v_iload_n C 2 dX7_isRival_0 rfl rfl ?_
  refine v_iload_n C 1 dX7_isRival_1 rfl rfl ?_
  refine v_icmp_ne C 9 dX7_isRival_2 rfl hM (fun hM => ?_) (fun hM => ?_)
  · refine v_aload_n C 0 dX7_isRival_9 rfl rfl ?_
    refine v_iload_n C 2 dX7_isRival_10 rfl rfl ?_
    refine v_iload_n C 3 dX7_isRival_11 rfl rfl ?_
    obtain ⟨x1, g2, e3, hM⟩ := zc_elim hM
    refine v_callVi (ci := 7) (rest := []) C (c_X7_find hX  e3) mw_X7_find mi_X7_find ml_RX7_257 hX.symm zm7 rfl rfl ⟨by decide, Nat.le_of_ble_eq_true rfl⟩ rfl (Nat.le_of_ble_eq_true rfl) dX7_isRival_12 rfl ?_
    exact v_weak (t_X7_isRival_b15 hX C hr   hM) (show zsub [some (.inr (.inl (7, 0))), none, none, none, some (.inl v4), none] [some (.inr (.inl (7, 0))), some (.inl v1), some (.inl v2), some (.inl v3), some (.inl v4), none] from ⟨rfl, ⟨rfl, trivial⟩⟩)
  · refine v_iconst C (-1) dX7_isRival_5 zk_m1 ?_
    refine v_goto C 15 dX7_isRival_6 rfl ?_
    exact v_weak (t_X7_isRival_b15 hX C hr   hM) (show zsub [some (.inr (.inl (7, 0))), none, none, none, some (.inl v4), none] [some (.inr (.inl (7, 0))), some (.inl v1), some (.inl v2), some (.inl v3), some (.inl v4), none] from ⟨rfl, ⟨rfl, trivial⟩⟩)

theorem t_X7_isSomeElder_b52 {v1 : Int32} {v2 : Int32} {v3 : Int32} {v4 : Int32} {k3 : Int32 → Int32 → Int32 → Int32 → zG → Option (Int32 × zG)} {g : zG} (hX : zfl X = true) (C : Cx X p (zrm 3) s m args meth c cX7_isSomeElder 5 RX7 0 0) (hr : meth.sig.returnType = (some .boolean))  (hk3 : ∀ (v1 : Int32) (v2 : Int32) (v3 : Int32) (v4 : Int32) (g : zG),  k3 v1 v2 v3 v4 g = some (rr, gr) → V X p l e (zrm 3) s m args below meth c 5 0 0 (MQ below (zQ X (Option.map (zM X) (some (.inl rr))) gr) args s 0 0 (zF X)) g 3 [some (.inr (.inl (7, 0))), some (.inl v1), some (.inl v2), some (.inl v3), some (.inl v4)] []) (hM : X7_isSomeElder_b52 k3 v1 v2 v3 v4 g = some (rr, gr)) : V X p l e (zrm 3) s m args below meth c 5 0 0 (MQ below (zQ X (Option.map (zM X) (some (.inl rr))) gr) args s 0 0 (zF X)) g 52 [some (.inr (.inl (7, 0))), some (.inl v1), some (.inl v2), some (.inl v3), some (.inl v4)] [] := by
  unfold X7_isSomeElder_b52 at hM
  refine v_iinc (L' := [some (.inr (.inl (7, 0))), some (.inl v1), some (.inl v2), some (.inl v3), some (.inl (v4 + (nI 1)))]) C 4 (nI 1) dX7_isSomeElder_52 zk_1 (by decide) rfl rfl ?_
  refine v_goto C 3 dX7_isSomeElder_55 rfl ?_
  exact hk3 v1 v2 v3 (v4 + (nI 1)) g  hM

theorem t_X7_isSomeElder_l3  (hX : zfl X = true) (C : Cx X p (zrm 3) s m args meth c cX7_isSomeElder 5 RX7 0 0) (hr : meth.sig.returnType = (some .boolean))  : ∀ (n : Nat) {v1 : Int32} {v2 : Int32} {v3 : Int32} {v4 : Int32} (g : zG), X7_isSomeElder_l3  n v1 v2 v3 v4 g = some (rr, gr) → V X p l e (zrm 3) s m args below meth c 5 0 0 (MQ below (zQ X (Option.map (zM X) (some (.inl rr))) gr) args s 0 0 (zF X)) g 3 [some (.inr (.inl (7, 0))), some (.inl v1), some (.inl v2), some (.inl v3), some (.inl v4)] [] := by
  intro n
  induction n with
  | zero =>
    intro v1 v2 v3 v4 g  hM
    exact absurd (show (none : Option (Int32 × zG)) = some (rr, gr) from hM) (by simp)
  | succ n ih =>
    intro v1 v2 v3 v4 g  hM
    rw [X7_isSomeElder_l3.eq_2] at hM
    refine v_iload C 4 dX7_isSomeElder_3 rfl ?_
    refine v_aload_n C 0 dX7_isSomeElder_5 rfl rfl ?_
    refine gf_RX7_17 C hX dX7_isSomeElder_6 ?_
    refine v_iconst C (nI 5) dX7_isSomeElder_9 zk_5 ?_
    refine ia_31 C hX dX7_isSomeElder_10 hM (fun hM _ => ?_)
    refine v_icmp_ge C 58 dX7_isSomeElder_11 rfl hM (fun hM => ?_) (fun hM => ?_)
    · refine v_iconst C (nI 0) dX7_isSomeElder_58 zk_0 ?_
      exact v_zret2 C hr (zbo_n (Or.inl rfl)) dX7_isSomeElder_59 hM
    · refine v_aload_n C 0 dX7_isSomeElder_14 rfl rfl ?_
      refine v_iload_n C 1 dX7_isSomeElder_15 rfl rfl ?_
      refine v_iload C 4 dX7_isSomeElder_16 rfl ?_
      refine v_iload_n C 2 dX7_isSomeElder_18 rfl rfl ?_
      refine v_iload_n C 3 dX7_isSomeElder_19 rfl rfl ?_
      obtain ⟨x1, g2, e3, hM⟩ := zc_elim hM
      refine v_callVi (ci := 7) (rest := []) C (c_X7_isRival hX  e3) mw_X7_isRival mi_X7_isRival ml_RX7_260 hX.symm zm7 rfl rfl ⟨by decide, Nat.le_of_ble_eq_true rfl⟩ rfl (Nat.le_of_ble_eq_true rfl) dX7_isSomeElder_20 rfl ?_
      refine v_if_eq C 52 dX7_isSomeElder_23 rfl hM (fun hM => ?_) (fun hM => ?_)
      · exact t_X7_isSomeElder_b52 hX C hr  (fun v1 v2 v3 v4 g  hM => ih g  hM) hM
      · refine v_aload_n C 0 dX7_isSomeElder_26 rfl rfl ?_
        refine gf_RX7_53 C hX dX7_isSomeElder_27 ?_
        refine v_iload C 4 dX7_isSomeElder_30 rfl ?_
        refine v_iconst C (nI 5) dX7_isSomeElder_32 zk_5 ?_
        obtain ⟨x4, g5, e6, hM⟩ := zc_elim hM
        refine v_callSi (rest := [(.inr (.inl (43, 0)))]) C (c_X7_coreAt hX  e6) mw_X7_coreAt ms_X7_coreAt ml_RX7_244 ⟨by decide, Nat.le_of_ble_eq_true rfl⟩ rfl (Nat.le_of_ble_eq_true rfl) dX7_isSomeElder_33 rfl ?_
        refine ia_43 C hX dX7_isSomeElder_36 hM (fun hM _ => ?_)
        refine v_aload_n C 0 dX7_isSomeElder_37 rfl rfl ?_
        refine gf_RX7_53 C hX dX7_isSomeElder_38 ?_
        refine v_iload_n C 1 dX7_isSomeElder_41 rfl rfl ?_
        refine v_iconst C (nI 5) dX7_isSomeElder_42 zk_5 ?_
        obtain ⟨x7, g8, e9, hM⟩ := zc_elim hM
        refine v_callSi (rest := [(.inr (.inl (43, 0))), (.inl (g5 43 0 x4.toNatClampNeg))]) C (c_X7_coreAt hX  e9) mw_X7_coreAt ms_X7_coreAt ml_RX7_244 ⟨by decide, Nat.le_of_ble_eq_true rfl⟩ rfl (Nat.le_of_ble_eq_true rfl) dX7_isSomeElder_43 rfl ?_
        refine ia_43 C hX dX7_isSomeElder_46 hM (fun hM _ => ?_)
        refine v_icmp_gt C 52 dX7_isSomeElder_47 rfl hM (fun hM => ?_) (fun hM => ?_)
        · exact t_X7_isSomeElder_b52 hX C hr  (fun v1 v2 v3 v4 g  hM => ih g  hM) hM
        · refine v_iconst C (nI 1) dX7_isSomeElder_50 zk_1 ?_
          exact v_zret2 C hr (zbo_n (Or.inr rfl)) dX7_isSomeElder_51 hM

theorem c_X7_isSomeElder {X : zX} (hX : zfl X = true) {v1 : Int32} {v2 : Int32} {v3 : Int32} {g gr : zG} {rr : Int32}  (hM : X7_isSomeElder v1 v2 v3 g = some (rr, gr)) : MC X yX7_isSomeElder cX7_isSomeElder 5 (some .boolean) 3 [.inr (.inl (7, 0)), .inl v1, .inl v2, .inl v3] (some (.inl rr)) g gr := by
  refine MC.mk (own := RX7) (L := [some (.inr (.inl (7, 0))), some (.inl v1), some (.inl v2), some (.inl v3), none]) (by decide) rfl trivial (Nat.le_of_ble_eq_true rfl) rfl ?_
  intro p l e s m args below meth c C hr
  unfold X7_isSomeElder at hM
  refine v_iconst C (nI 0) dX7_isSomeElder_0 zk_0 ?_
  refine v_istore (L' := [some (.inr (.inl (7, 0))), some (.inl v1), some (.inl v2), some (.inl v3), some (.inl (nI 0))]) C 4 dX7_isSomeElder_1 (by decide) rfl ?_
  exact t_X7_isSomeElder_l3 hX C hr  _ g  hM

theorem t_X7_decides_b39 {v1 : Int32} {v2 : Int32} {v3 : Int32} {v5 : Int32} {s0 : Int32} {s1 : Int32} {k6 : Int32 → Int32 → Int32 → Int32 → Int32 → zG → Option (Int32 × zG)} {g : zG} (hX : zfl X = true) (C : Cx X p (zrm 4) s m args meth c cX7_decides 6 RX7 0 0) (hr : meth.sig.returnType = (some .int))  (hk6 : ∀ (v1 : Int32) (v2 : Int32) (v3 : Int32) (v4 : Int32) (v5 : Int32) (g : zG),  k6 v1 v2 v3 v4 v5 g = some (rr, gr) → V X p l e (zrm 4) s m args below meth c 6 0 0 (MQ below (zQ X (Option.map (zM X) (some (.inl rr))) gr) args s 0 0 (zF X)) g 6 [some (.inr (.inl (7, 0))), some (.inl v1), some (.inl v2), some (.inl v3), some (.inl v4), some (.inl v5)] []) (hM : X7_decides_b39 k6 v1 v2 v3 v5 s0 s1 g = some (rr, gr)) : V X p l e (zrm 4) s m args below meth c 6 0 0 (MQ below (zQ X (Option.map (zM X) (some (.inl rr))) gr) args s 0 0 (zF X)) g 39 [some (.inr (.inl (7, 0))), some (.inl v1), some (.inl v2), some (.inl v3), none, some (.inl v5)] [(.inl s1), (.inl s0)] := by
  unfold X7_decides_b39 at hM
  refine v_ior C dX7_decides_39 ?_
  refine v_istore (L' := [some (.inr (.inl (7, 0))), some (.inl v1), some (.inl v2), some (.inl v3), some (.inl (s0 ||| s1)), some (.inl v5)]) C 4 dX7_decides_40 (by decide) rfl ?_
  refine v_iinc (L' := [some (.inr (.inl (7, 0))), some (.inl v1), some (.inl v2), some (.inl v3), some (.inl (s0 ||| s1)), some (.inl (v5 + (nI 1)))]) C 5 (nI 1) dX7_decides_42 zk_1 (by decide) rfl rfl ?_
  refine v_goto C 6 dX7_decides_45 rfl ?_
  exact hk6 v1 v2 v3 (s0 ||| s1) (v5 + (nI 1)) g  hM

theorem t_X7_decides_l6 {k75 : Int32 → Int32 → zG → Option (Int32 × zG)} (hX : zfl X = true) (C : Cx X p (zrm 4) s m args meth c cX7_decides 6 RX7 0 0) (hr : meth.sig.returnType = (some .int)) (hk75 : ∀ (v1 : Int32) (v4 : Int32) (g : zG),  k75 v1 v4 g = some (rr, gr) → V X p l e (zrm 4) s m args below meth c 6 0 0 (MQ below (zQ X (Option.map (zM X) (some (.inl rr))) gr) args s 0 0 (zF X)) g 75 [some (.inr (.inl (7, 0))), some (.inl v1), none, none, some (.inl v4), none] []) : ∀ (n : Nat) {v1 : Int32} {v2 : Int32} {v3 : Int32} {v4 : Int32} {v5 : Int32} (g : zG), X7_decides_l6 k75 n v1 v2 v3 v4 v5 g = some (rr, gr) → V X p l e (zrm 4) s m args below meth c 6 0 0 (MQ below (zQ X (Option.map (zM X) (some (.inl rr))) gr) args s 0 0 (zF X)) g 6 [some (.inr (.inl (7, 0))), some (.inl v1), some (.inl v2), some (.inl v3), some (.inl v4), some (.inl v5)] [] := by
  intro n
  induction n with
  | zero =>
    intro v1 v2 v3 v4 v5 g  hM
    exact absurd (show (none : Option (Int32 × zG)) = some (rr, gr) from hM) (by simp)
  | succ n ih =>
    intro v1 v2 v3 v4 v5 g  hM
    rw [X7_decides_l6.eq_2] at hM
    refine v_iload C 5 dX7_decides_6 rfl ?_
    refine v_aload_n C 0 dX7_decides_8 rfl rfl ?_
    refine gf_RX7_17 C hX dX7_decides_9 ?_
    refine v_iconst C (nI 5) dX7_decides_12 zk_5 ?_
    refine ia_31 C hX dX7_decides_13 hM (fun hM _ => ?_)
    refine v_icmp_ge C 48 dX7_decides_14 rfl hM (fun hM => ?_) (fun hM => ?_)
    · refine v_iload C 4 dX7_decides_48 rfl ?_
      refine v_if_ne C 55 dX7_decides_50 rfl hM (fun hM => ?_) (fun hM => ?_)
      · refine v_aload_n C 0 dX7_decides_55 rfl rfl ?_
        refine gf_RX7_238 C hX dX7_decides_56 ?_
        refine v_iconst C (nI 1) dX7_decides_59 zk_1 ?_
        refine v_icmp_ne C 75 dX7_decides_60 rfl hM (fun hM => ?_) (fun hM => ?_)
        · exact v_weak (hk75 v1 v4 g  hM) (show zsub [some (.inr (.inl (7, 0))), some (.inl v1), none, none, some (.inl v4), none] [some (.inr (.inl (7, 0))), some (.inl v1), some (.inl v2), some (.inl v3), some (.inl v4), some (.inl v5)] from ⟨rfl, ⟨rfl, ⟨rfl, trivial⟩⟩⟩)
        · refine v_aload_n C 0 dX7_decides_63 rfl rfl ?_
          refine v_iload_n C 1 dX7_decides_64 rfl rfl ?_
          refine v_iload_n C 2 dX7_decides_65 rfl rfl ?_
          refine v_iload_n C 3 dX7_decides_66 rfl rfl ?_
          obtain ⟨x1, g2, e3, hM⟩ := zc_elim hM
          refine v_callVi (ci := 7) (rest := []) C (c_X7_isSomeElder hX  e3) mw_X7_isSomeElder mi_X7_isSomeElder ml_RX7_264 hX.symm zm7 rfl rfl ⟨by decide, Nat.le_of_ble_eq_true rfl⟩ rfl (Nat.le_of_ble_eq_true rfl) dX7_decides_67 rfl ?_
          refine v_if_eq C 75 dX7_decides_70 rfl hM (fun hM => ?_) (fun hM => ?_)
          · exact v_weak (hk75 v1 v4 g2  hM) (show zsub [some (.inr (.inl (7, 0))), some (.inl v1), none, none, some (.inl v4), none] [some (.inr (.inl (7, 0))), some (.inl v1), some (.inl v2), some (.inl v3), some (.inl v4), some (.inl v5)] from ⟨rfl, ⟨rfl, ⟨rfl, trivial⟩⟩⟩)
          · refine v_iconst C (nI 2) dX7_decides_73 zk_2 ?_
            exact v_iret2 C hr dX7_decides_74 hM
      · refine v_iconst C (nI 1) dX7_decides_53 zk_1 ?_
        exact v_iret2 C hr dX7_decides_54 hM
    · refine v_iload C 4 dX7_decides_17 rfl ?_
      refine v_aload_n C 0 dX7_decides_19 rfl rfl ?_
      refine v_iload_n C 1 dX7_decides_20 rfl rfl ?_
      refine v_iload C 5 dX7_decides_21 rfl ?_
      refine v_iload_n C 2 dX7_decides_23 rfl rfl ?_
      refine v_iload_n C 3 dX7_decides_24 rfl rfl ?_
      obtain ⟨x4, g5, e6, hM⟩ := zc_elim hM
      refine v_callVi (ci := 7) (rest := [(.inl v4)]) C (c_X7_isRival hX  e6) mw_X7_isRival mi_X7_isRival ml_RX7_260 hX.symm zm7 rfl rfl ⟨by decide, Nat.le_of_ble_eq_true rfl⟩ rfl (Nat.le_of_ble_eq_true rfl) dX7_decides_25 rfl ?_
      refine v_if_eq C 38 dX7_decides_28 rfl hM (fun hM => ?_) (fun hM => ?_)
      · refine v_iconst C (nI 0) dX7_decides_38 zk_0 ?_
        exact v_weak (t_X7_decides_b39 hX C hr  (fun v1 v2 v3 v4 v5 g  hM => ih g  hM) hM) (show zsub [some (.inr (.inl (7, 0))), some (.inl v1), some (.inl v2), some (.inl v3), none, some (.inl v5)] [some (.inr (.inl (7, 0))), some (.inl v1), some (.inl v2), some (.inl v3), some (.inl v4), some (.inl v5)] from ⟨rfl, ⟨rfl, ⟨rfl, ⟨rfl, ⟨rfl, trivial⟩⟩⟩⟩⟩)
      · refine v_iconst C (nI 1) dX7_decides_31 zk_1 ?_
        refine v_iload C 5 dX7_decides_32 rfl ?_
        refine v_ishl C dX7_decides_34 ?_
        refine v_goto C 39 dX7_decides_35 rfl ?_
        exact v_weak (t_X7_decides_b39 hX C hr  (fun v1 v2 v3 v4 v5 g  hM => ih g  hM) hM) (show zsub [some (.inr (.inl (7, 0))), some (.inl v1), some (.inl v2), some (.inl v3), none, some (.inl v5)] [some (.inr (.inl (7, 0))), some (.inl v1), some (.inl v2), some (.inl v3), some (.inl v4), some (.inl v5)] from ⟨rfl, ⟨rfl, ⟨rfl, ⟨rfl, ⟨rfl, trivial⟩⟩⟩⟩⟩)

theorem t_X7_decides_b123 {v4 : Int32} {v5 : Int32} {k94 : Int32 → Int32 → zG → Option (Int32 × zG)} {g : zG} (hX : zfl X = true) (C : Cx X p (zrm 4) s m args meth c cX7_decides 6 RX7 0 0) (hr : meth.sig.returnType = (some .int))  (hk94 : ∀ (v4 : Int32) (v5 : Int32) (g : zG),  k94 v4 v5 g = some (rr, gr) → V X p l e (zrm 4) s m args below meth c 6 0 0 (MQ below (zQ X (Option.map (zM X) (some (.inl rr))) gr) args s 0 0 (zF X)) g 94 [some (.inr (.inl (7, 0))), none, none, none, some (.inl v4), some (.inl v5)] []) (hM : X7_decides_b123 k94 v4 v5 g = some (rr, gr)) : V X p l e (zrm 4) s m args below meth c 6 0 0 (MQ below (zQ X (Option.map (zM X) (some (.inl rr))) gr) args s 0 0 (zF X)) g 123 [some (.inr (.inl (7, 0))), none, none, none, some (.inl v4), some (.inl v5)] [] := by
  unfold X7_decides_b123 at hM
  refine v_iinc (L' := [some (.inr (.inl (7, 0))), none, none, none, some (.inl v4), some (.inl (v5 + (nI 1)))]) C 5 (nI 1) dX7_decides_123 zk_1 (by decide) rfl rfl ?_
  refine v_goto C 94 dX7_decides_126 rfl ?_
  exact hk94 v4 (v5 + (nI 1)) g  hM

theorem t_X7_decides_l94  (hX : zfl X = true) (C : Cx X p (zrm 4) s m args meth c cX7_decides 6 RX7 0 0) (hr : meth.sig.returnType = (some .int))  : ∀ (n : Nat) {v4 : Int32} {v5 : Int32} (g : zG), X7_decides_l94  n v4 v5 g = some (rr, gr) → V X p l e (zrm 4) s m args below meth c 6 0 0 (MQ below (zQ X (Option.map (zM X) (some (.inl rr))) gr) args s 0 0 (zF X)) g 94 [some (.inr (.inl (7, 0))), none, none, none, some (.inl v4), some (.inl v5)] [] := by
  intro n
  induction n with
  | zero =>
    intro v4 v5 g  hM
    exact absurd (show (none : Option (Int32 × zG)) = some (rr, gr) from hM) (by simp)
  | succ n ih =>
    intro v4 v5 g  hM
    rw [X7_decides_l94.eq_2] at hM
    refine v_iload C 5 dX7_decides_94 rfl ?_
    refine v_aload_n C 0 dX7_decides_96 rfl rfl ?_
    refine gf_RX7_17 C hX dX7_decides_97 ?_
    refine v_iconst C (nI 5) dX7_decides_100 zk_5 ?_
    refine ia_31 C hX dX7_decides_101 hM (fun hM _ => ?_)
    refine v_icmp_ge C 129 dX7_decides_102 rfl hM (fun hM => ?_) (fun hM => ?_)
    · refine v_iconst C (nI 1) dX7_decides_129 zk_1 ?_
      exact v_iret2 C hr dX7_decides_130 hM
    · refine v_iload C 4 dX7_decides_105 rfl ?_
      refine v_iload C 5 dX7_decides_107 rfl ?_
      refine v_ishr C dX7_decides_109 ?_
      refine v_iconst C (nI 1) dX7_decides_110 zk_1 ?_
      refine v_iand C dX7_decides_111 ?_
      refine v_iconst C (nI 1) dX7_decides_112 zk_1 ?_
      refine v_icmp_ne C 123 dX7_decides_113 rfl hM (fun hM => ?_) (fun hM => ?_)
      · exact t_X7_decides_b123 hX C hr  (fun v4 v5 g  hM => ih g  hM) hM
      · refine v_aload_n C 0 dX7_decides_116 rfl rfl ?_
        refine v_iload C 5 dX7_decides_117 rfl ?_
        refine v_iconst C (nI 0) dX7_decides_119 zk_0 ?_
        obtain ⟨x1, g2, e3, hM⟩ := zc_elim hM
        refine v_callVv (ci := 7) (rest := []) C (c_X7_ends hX  e3) mw_X7_ends mi_X7_ends ml_RX7_268 hX.symm zm7 rfl rfl ⟨by decide, Nat.le_of_ble_eq_true rfl⟩ rfl (Nat.le_of_ble_eq_true rfl) dX7_decides_120 rfl ?_
        exact t_X7_decides_b123 hX C hr  (fun v4 v5 g  hM => ih g  hM) hM

theorem t_X7_decides_b75 {v1 : Int32} {v4 : Int32}  {g : zG} (hX : zfl X = true) (C : Cx X p (zrm 4) s m args meth c cX7_decides 6 RX7 0 0) (hr : meth.sig.returnType = (some .int))   (hM : X7_decides_b75  v1 v4 g = some (rr, gr)) : V X p l e (zrm 4) s m args below meth c 6 0 0 (MQ below (zQ X (Option.map (zM X) (some (.inl rr))) gr) args s 0 0 (zF X)) g 75 [some (.inr (.inl (7, 0))), some (.inl v1), none, none, some (.inl v4), none] [] := by
  unfold X7_decides_b75 at hM
  refine v_aload_n C 0 dX7_decides_75 rfl rfl ?_
  refine gf_RX7_238 C hX dX7_decides_76 ?_
  refine v_iconst C (nI 1) dX7_decides_79 zk_1 ?_
  refine v_icmp_le C 91 dX7_decides_80 rfl hM (fun hM => ?_) (fun hM => ?_)
  · refine v_iconst C (nI 0) dX7_decides_91 zk_0 ?_
    refine v_istore (L' := [some (.inr (.inl (7, 0))), some (.inl v1), none, none, some (.inl v4), some (.inl (nI 0))]) C 5 dX7_decides_92 (by decide) rfl ?_
    exact v_weak (t_X7_decides_l94 hX C hr  _ g  hM) (show zsub [some (.inr (.inl (7, 0))), none, none, none, some (.inl v4), some (.inl (nI 0))] [some (.inr (.inl (7, 0))), some (.inl v1), none, none, some (.inl v4), some (.inl (nI 0))] from ⟨rfl, ⟨rfl, ⟨rfl, trivial⟩⟩⟩)
  · refine v_aload_n C 0 dX7_decides_83 rfl rfl ?_
    refine v_iload_n C 1 dX7_decides_84 rfl rfl ?_
    refine v_iconst C (nI 0) dX7_decides_85 zk_0 ?_
    obtain ⟨x1, g2, e3, hM⟩ := zc_elim hM
    refine v_callVv (ci := 7) (rest := []) C (c_X7_ends hX  e3) mw_X7_ends mi_X7_ends ml_RX7_268 hX.symm zm7 rfl rfl ⟨by decide, Nat.le_of_ble_eq_true rfl⟩ rfl (Nat.le_of_ble_eq_true rfl) dX7_decides_86 rfl ?_
    refine v_iconst C (nI 3) dX7_decides_89 zk_3 ?_
    exact v_iret2 C hr dX7_decides_90 hM

theorem c_X7_decides {X : zX} (hX : zfl X = true) {v1 : Int32} {v2 : Int32} {v3 : Int32} {g gr : zG} {rr : Int32}  (hM : X7_decides v1 v2 v3 g = some (rr, gr)) : MC X yX7_decides cX7_decides 6 (some .int) 4 [.inr (.inl (7, 0)), .inl v1, .inl v2, .inl v3] (some (.inl rr)) g gr := by
  refine MC.mk (own := RX7) (L := [some (.inr (.inl (7, 0))), some (.inl v1), some (.inl v2), some (.inl v3), none, none]) (by decide) rfl trivial (Nat.le_of_ble_eq_true rfl) rfl ?_
  intro p l e s m args below meth c C hr
  unfold X7_decides at hM
  refine v_iconst C (nI 0) dX7_decides_0 zk_0 ?_
  refine v_istore (L' := [some (.inr (.inl (7, 0))), some (.inl v1), some (.inl v2), some (.inl v3), some (.inl (nI 0)), none]) C 4 dX7_decides_1 (by decide) rfl ?_
  refine v_iconst C (nI 0) dX7_decides_3 zk_0 ?_
  refine v_istore (L' := [some (.inr (.inl (7, 0))), some (.inl v1), some (.inl v2), some (.inl v3), some (.inl (nI 0)), some (.inl (nI 0))]) C 5 dX7_decides_4 (by decide) rfl ?_
  exact t_X7_decides_l6 hX C hr (by intro v1 v4 g  hM; exact t_X7_decides_b75 hX C hr   hM) _ g  hM

theorem t_X7_room_b99 {v1 : Int32} {v2 : Int32} {v3 : Int32} {v4 : Int32} {k5 : Int32 → Int32 → Int32 → Int32 → zG → Option (Int32 × zG)} {g : zG} (hX : zfl X = true) (C : Cx X p (zrm 1) s m args meth c cX7_room 6 RX7 0 0) (hr : meth.sig.returnType = (some .int))  (hk5 : ∀ (v1 : Int32) (v2 : Int32) (v3 : Int32) (v4 : Int32) (g : zG),  k5 v1 v2 v3 v4 g = some (rr, gr) → V X p l e (zrm 1) s m args below meth c 6 0 0 (MQ below (zQ X (Option.map (zM X) (some (.inl rr))) gr) args s 0 0 (zF X)) g 5 [some (.inr (.inl (7, 0))), some (.inl v1), some (.inl v2), some (.inl v3), some (.inl v4), none] []) (hM : X7_room_b99 k5 v1 v2 v3 v4 g = some (rr, gr)) : V X p l e (zrm 1) s m args below meth c 6 0 0 (MQ below (zQ X (Option.map (zM X) (some (.inl rr))) gr) args s 0 0 (zF X)) g 99 [some (.inr (.inl (7, 0))), some (.inl v1), some (.inl v2), some (.inl v3), some (.inl v4), none] [] := by
  unfold X7_room_b99 at hM
  refine v_iinc (L' := [some (.inr (.inl (7, 0))), some (.inl v1), some (.inl v2), some (.inl v3), some (.inl (v4 + (nI 1))), none]) C 4 (nI 1) dX7_room_99 zk_1 (by decide) rfl rfl ?_
  refine v_goto C 5 dX7_room_102 rfl ?_
  exact hk5 v1 v2 v3 (v4 + (nI 1)) g  hM

theorem t_X7_room_b96 {v1 : Int32} {v2 : Int32} {v4 : Int32} {v5 : Int32} {k5 : Int32 → Int32 → Int32 → Int32 → zG → Option (Int32 × zG)} {g : zG} (hX : zfl X = true) (C : Cx X p (zrm 1) s m args meth c cX7_room 6 RX7 0 0) (hr : meth.sig.returnType = (some .int))  (hk5 : ∀ (v1 : Int32) (v2 : Int32) (v3 : Int32) (v4 : Int32) (g : zG),  k5 v1 v2 v3 v4 g = some (rr, gr) → V X p l e (zrm 1) s m args below meth c 6 0 0 (MQ below (zQ X (Option.map (zM X) (some (.inl rr))) gr) args s 0 0 (zF X)) g 5 [some (.inr (.inl (7, 0))), some (.inl v1), some (.inl v2), some (.inl v3), some (.inl v4), none] []) (hM : X7_room_b96 k5 v1 v2 v4 v5 g = some (rr, gr)) : V X p l e (zrm 1) s m args below meth c 6 0 0 (MQ below (zQ X (Option.map (zM X) (some (.inl rr))) gr) args s 0 0 (zF X)) g 96 [some (.inr (.inl (7, 0))), some (.inl v1), some (.inl v2), none, some (.inl v4), some (.inl v5)] [] := by
  unfold X7_room_b96 at hM
  refine v_iload C 5 dX7_room_96 rfl ?_
  refine v_istore_n (L' := [some (.inr (.inl (7, 0))), some (.inl v1), some (.inl v2), some (.inl v5), some (.inl v4), some (.inl v5)]) C 3 dX7_room_98 rfl (by decide) rfl ?_
  exact v_weak (t_X7_room_b99 hX C hr  hk5 hM) (show zsub [some (.inr (.inl (7, 0))), some (.inl v1), some (.inl v2), some (.inl v5), some (.inl v4), none] [some (.inr (.inl (7, 0))), some (.inl v1), some (.inl v2), some (.inl v5), some (.inl v4), some (.inl v5)] from ⟨rfl, ⟨rfl, ⟨rfl, ⟨rfl, ⟨rfl, trivial⟩⟩⟩⟩⟩)

theorem t_X7_room_l5  (hX : zfl X = true) (C : Cx X p (zrm 1) s m args meth c cX7_room 6 RX7 0 0) (hr : meth.sig.returnType = (some .int))  : ∀ (n : Nat) {v1 : Int32} {v2 : Int32} {v3 : Int32} {v4 : Int32} (g : zG), X7_room_l5  n v1 v2 v3 v4 g = some (rr, gr) → V X p l e (zrm 1) s m args below meth c 6 0 0 (MQ below (zQ X (Option.map (zM X) (some (.inl rr))) gr) args s 0 0 (zF X)) g 5 [some (.inr (.inl (7, 0))), some (.inl v1), some (.inl v2), some (.inl v3), some (.inl v4), none] [] := by
  intro n
  induction n with
  | zero =>
    intro v1 v2 v3 v4 g  hM
    exact absurd (show (none : Option (Int32 × zG)) = some (rr, gr) from hM) (by simp)
  | succ n ih =>
    intro v1 v2 v3 v4 g  hM
    rw [X7_room_l5.eq_2] at hM
    refine v_iload C 4 dX7_room_5 rfl ?_
    refine v_aload_n C 0 dX7_room_7 rfl rfl ?_
    refine gf_RX7_242 C hX dX7_room_8 ?_
    refine v_icmp_ge C 105 dX7_room_11 rfl hM (fun hM => ?_) (fun hM => ?_)
    · refine v_iload_n C 3 dX7_room_105 rfl rfl ?_
      exact v_iret2 C hr dX7_room_106 hM
    · refine v_iload_n C 1 dX7_room_14 rfl rfl ?_
      refine v_iload_n C 2 dX7_room_15 rfl rfl ?_
      refine v_aload_n C 0 dX7_room_16 rfl rfl ?_
      refine gf_RX7_17 C hX dX7_room_17 ?_
      refine v_iconst C (nI 0) dX7_room_20 zk_0 ?_
      refine ia_31 C hX dX7_room_21 hM (fun hM _ => ?_)
      refine v_irem C dX7_room_22 hM (fun hM => ?_)
      refine v_iload C 4 dX7_room_23 rfl ?_
      obtain ⟨x1, g2, e3, hM⟩ := zc_elim hM
      refine v_callSi (rest := []) C (c_X7_placeAt hX  e3) mw_X7_placeAt ms_X7_placeAt ml_RX7_247 ⟨by decide, Nat.le_of_ble_eq_true rfl⟩ rfl (Nat.le_of_ble_eq_true rfl) dX7_room_25 rfl ?_
      refine v_istore (L' := [some (.inr (.inl (7, 0))), some (.inl v1), some (.inl v2), some (.inl v3), some (.inl v4), some (.inl x1)]) C 5 dX7_room_28 (by decide) rfl ?_
      refine v_aload_n C 0 dX7_room_30 rfl rfl ?_
      refine gf_RX7_53 C hX dX7_room_31 ?_
      refine v_iload C 5 dX7_room_34 rfl ?_
      refine v_iconst C (nI 0) dX7_room_36 zk_0 ?_
      refine v_iadd C dX7_room_37 ?_
      refine ia_43 C hX dX7_room_38 hM (fun hM _ => ?_)
      refine v_bipush C (-2) dX7_room_39 zkb_m2 ?_
      refine v_icmp_ne C 47 dX7_room_41 rfl hM (fun hM => ?_) (fun hM => ?_)
      · refine v_aload_n C 0 dX7_room_47 rfl rfl ?_
        refine gf_RX7_53 C hX dX7_room_48 ?_
        refine v_iload C 5 dX7_room_51 rfl ?_
        refine v_iconst C (nI 2) dX7_room_53 zk_2 ?_
        refine v_iadd C dX7_room_54 ?_
        refine ia_43 C hX dX7_room_55 hM (fun hM _ => ?_)
        refine v_if_ne C 99 dX7_room_56 rfl hM (fun hM => ?_) (fun hM => ?_)
        · exact v_weak (t_X7_room_b99 hX C hr  (fun v1 v2 v3 v4 g  hM => ih g  hM) hM) (show zsub [some (.inr (.inl (7, 0))), some (.inl v1), some (.inl v2), some (.inl v3), some (.inl v4), none] [some (.inr (.inl (7, 0))), some (.inl v1), some (.inl v2), some (.inl v3), some (.inl v4), some (.inl x1)] from ⟨rfl, ⟨rfl, ⟨rfl, ⟨rfl, ⟨rfl, trivial⟩⟩⟩⟩⟩)
        · refine v_aload_n C 0 dX7_room_59 rfl rfl ?_
          refine gf_RX7_53 C hX dX7_room_60 ?_
          refine v_iload C 5 dX7_room_63 rfl ?_
          refine v_iconst C (nI 3) dX7_room_65 zk_3 ?_
          refine v_iadd C dX7_room_66 ?_
          refine ia_43 C hX dX7_room_67 hM (fun hM _ => ?_)
          refine v_if_ne C 99 dX7_room_68 rfl hM (fun hM => ?_) (fun hM => ?_)
          · exact v_weak (t_X7_room_b99 hX C hr  (fun v1 v2 v3 v4 g  hM => ih g  hM) hM) (show zsub [some (.inr (.inl (7, 0))), some (.inl v1), some (.inl v2), some (.inl v3), some (.inl v4), none] [some (.inr (.inl (7, 0))), some (.inl v1), some (.inl v2), some (.inl v3), some (.inl v4), some (.inl x1)] from ⟨rfl, ⟨rfl, ⟨rfl, ⟨rfl, ⟨rfl, trivial⟩⟩⟩⟩⟩)
          · refine v_iload_n C 3 dX7_room_71 rfl rfl ?_
            refine v_iconst C (-1) dX7_room_72 zk_m1 ?_
            refine v_icmp_eq C 96 dX7_room_73 rfl hM (fun hM => ?_) (fun hM => ?_)
            · exact v_weak (t_X7_room_b96 hX C hr  (fun v1 v2 v3 v4 g  hM => ih g  hM) hM) (show zsub [some (.inr (.inl (7, 0))), some (.inl v1), some (.inl v2), none, some (.inl v4), some (.inl x1)] [some (.inr (.inl (7, 0))), some (.inl v1), some (.inl v2), some (.inl v3), some (.inl v4), some (.inl x1)] from ⟨rfl, ⟨rfl, ⟨rfl, ⟨rfl, ⟨rfl, trivial⟩⟩⟩⟩⟩)
            · refine v_aload_n C 0 dX7_room_76 rfl rfl ?_
              refine gf_RX7_53 C hX dX7_room_77 ?_
              refine v_iload C 5 dX7_room_80 rfl ?_
              refine v_iconst C (nI 4) dX7_room_82 zk_4 ?_
              refine v_iadd C dX7_room_83 ?_
              refine ia_43 C hX dX7_room_84 hM (fun hM _ => ?_)
              refine v_aload_n C 0 dX7_room_85 rfl rfl ?_
              refine gf_RX7_53 C hX dX7_room_86 ?_
              refine v_iload_n C 3 dX7_room_89 rfl rfl ?_
              refine v_iconst C (nI 4) dX7_room_90 zk_4 ?_
              refine v_iadd C dX7_room_91 ?_
              refine ia_43 C hX dX7_room_92 hM (fun hM _ => ?_)
              refine v_icmp_ge C 99 dX7_room_93 rfl hM (fun hM => ?_) (fun hM => ?_)
              · exact v_weak (t_X7_room_b99 hX C hr  (fun v1 v2 v3 v4 g  hM => ih g  hM) hM) (show zsub [some (.inr (.inl (7, 0))), some (.inl v1), some (.inl v2), some (.inl v3), some (.inl v4), none] [some (.inr (.inl (7, 0))), some (.inl v1), some (.inl v2), some (.inl v3), some (.inl v4), some (.inl x1)] from ⟨rfl, ⟨rfl, ⟨rfl, ⟨rfl, ⟨rfl, trivial⟩⟩⟩⟩⟩)
              · exact v_weak (t_X7_room_b96 hX C hr  (fun v1 v2 v3 v4 g  hM => ih g  hM) hM) (show zsub [some (.inr (.inl (7, 0))), some (.inl v1), some (.inl v2), none, some (.inl v4), some (.inl x1)] [some (.inr (.inl (7, 0))), some (.inl v1), some (.inl v2), some (.inl v3), some (.inl v4), some (.inl x1)] from ⟨rfl, ⟨rfl, ⟨rfl, ⟨rfl, ⟨rfl, trivial⟩⟩⟩⟩⟩)
      · refine v_iload C 5 dX7_room_44 rfl ?_
        exact v_iret2 C hr dX7_room_46 hM

theorem c_X7_room {X : zX} (hX : zfl X = true) {v1 : Int32} {v2 : Int32} {g gr : zG} {rr : Int32}  (hM : X7_room v1 v2 g = some (rr, gr)) : MC X yX7_room cX7_room 6 (some .int) 1 [.inr (.inl (7, 0)), .inl v1, .inl v2] (some (.inl rr)) g gr := by
  refine MC.mk (own := RX7) (L := [some (.inr (.inl (7, 0))), some (.inl v1), some (.inl v2), none, none, none]) (by decide) rfl trivial (Nat.le_of_ble_eq_true rfl) rfl ?_
  intro p l e s m args below meth c C hr
  unfold X7_room at hM
  refine v_iconst C (-1) dX7_room_0 zk_m1 ?_
  refine v_istore_n (L' := [some (.inr (.inl (7, 0))), some (.inl v1), some (.inl v2), some (.inl (-1)), none, none]) C 3 dX7_room_1 rfl (by decide) rfl ?_
  refine v_iconst C (nI 0) dX7_room_2 zk_0 ?_
  refine v_istore (L' := [some (.inr (.inl (7, 0))), some (.inl v1), some (.inl v2), some (.inl (-1)), some (.inl (nI 0)), none]) C 4 dX7_room_3 (by decide) rfl ?_
  exact t_X7_room_l5 hX C hr  _ g  hM

theorem t_X7_othersHave_b100 {v1 : Int32} {v2 : Int32} {v3 : Int32} {v4 : Int32} {v5 : Int32} {k6 : Int32 → Int32 → Int32 → Int32 → Int32 → zG → Option (Int32 × zG)} {g : zG} (hX : zfl X = true) (C : Cx X p (zrm 2) s m args meth c cX7_othersHave 7 RX7 0 0) (hr : meth.sig.returnType = (some .boolean))  (hk6 : ∀ (v1 : Int32) (v2 : Int32) (v3 : Int32) (v4 : Int32) (v5 : Int32) (g : zG),  k6 v1 v2 v3 v4 v5 g = some (rr, gr) → V X p l e (zrm 2) s m args below meth c 7 0 0 (MQ below (zQ X (Option.map (zM X) (some (.inl rr))) gr) args s 0 0 (zF X)) g 6 [some (.inr (.inl (7, 0))), some (.inl v1), some (.inl v2), some (.inl v3), some (.inl v4), some (.inl v5), none] []) (hM : X7_othersHave_b100 k6 v1 v2 v3 v4 v5 g = some (rr, gr)) : V X p l e (zrm 2) s m args below meth c 7 0 0 (MQ below (zQ X (Option.map (zM X) (some (.inl rr))) gr) args s 0 0 (zF X)) g 100 [some (.inr (.inl (7, 0))), some (.inl v1), some (.inl v2), some (.inl v3), some (.inl v4), some (.inl v5), none] [] := by
  unfold X7_othersHave_b100 at hM
  refine v_iinc (L' := [some (.inr (.inl (7, 0))), some (.inl v1), some (.inl v2), some (.inl v3), some (.inl v4), some (.inl (v5 + (nI 1))), none]) C 5 (nI 1) dX7_othersHave_100 zk_1 (by decide) rfl rfl ?_
  refine v_goto C 6 dX7_othersHave_103 rfl ?_
  exact hk6 v1 v2 v3 v4 (v5 + (nI 1)) g  hM

theorem t_X7_othersHave_b64 {v1 : Int32} {v2 : Int32} {v3 : Int32} {v4 : Int32} {v5 : Int32} {v6 : Int32} {k6 : Int32 → Int32 → Int32 → Int32 → Int32 → zG → Option (Int32 × zG)} {g : zG} (hX : zfl X = true) (C : Cx X p (zrm 2) s m args meth c cX7_othersHave 7 RX7 0 0) (hr : meth.sig.returnType = (some .boolean))  (hk6 : ∀ (v1 : Int32) (v2 : Int32) (v3 : Int32) (v4 : Int32) (v5 : Int32) (g : zG),  k6 v1 v2 v3 v4 v5 g = some (rr, gr) → V X p l e (zrm 2) s m args below meth c 7 0 0 (MQ below (zQ X (Option.map (zM X) (some (.inl rr))) gr) args s 0 0 (zF X)) g 6 [some (.inr (.inl (7, 0))), some (.inl v1), some (.inl v2), some (.inl v3), some (.inl v4), some (.inl v5), none] []) (hM : X7_othersHave_b64 k6 v1 v2 v3 v4 v5 v6 g = some (rr, gr)) : V X p l e (zrm 2) s m args below meth c 7 0 0 (MQ below (zQ X (Option.map (zM X) (some (.inl rr))) gr) args s 0 0 (zF X)) g 64 [some (.inr (.inl (7, 0))), some (.inl v1), some (.inl v2), some (.inl v3), some (.inl v4), some (.inl v5), some (.inl v6)] [] := by
  unfold X7_othersHave_b64 at hM
  refine v_iload_n C 3 dX7_othersHave_64 rfl rfl ?_
  refine v_if_eq C 87 dX7_othersHave_65 rfl hM (fun hM => ?_) (fun hM => ?_)
  · refine v_aload_n C 0 dX7_othersHave_87 rfl rfl ?_
    refine gf_RX7_53 C hX dX7_othersHave_88 ?_
    refine v_iload C 6 dX7_othersHave_91 rfl ?_
    refine v_iconst C (nI 1) dX7_othersHave_93 zk_1 ?_
    refine v_iadd C dX7_othersHave_94 ?_
    refine v_iconst C (nI 1) dX7_othersHave_95 zk_1 ?_
    refine is_43 C hX dX7_othersHave_96 hM (fun g1 hM => ?_)
    refine v_iconst C (nI 1) dX7_othersHave_97 zk_1 ?_
    refine v_istore (L' := [some (.inr (.inl (7, 0))), some (.inl v1), some (.inl v2), some (.inl v3), some (.inl (nI 1)), some (.inl v5), some (.inl v6)]) C 4 dX7_othersHave_98 (by decide) rfl ?_
    exact v_weak (t_X7_othersHave_b100 hX C hr  hk6 hM) (show zsub [some (.inr (.inl (7, 0))), some (.inl v1), some (.inl v2), some (.inl v3), some (.inl (nI 1)), some (.inl v5), none] [some (.inr (.inl (7, 0))), some (.inl v1), some (.inl v2), some (.inl v3), some (.inl (nI 1)), some (.inl v5), some (.inl v6)] from ⟨rfl, ⟨rfl, ⟨rfl, ⟨rfl, ⟨rfl, ⟨rfl, trivial⟩⟩⟩⟩⟩⟩)
  · refine v_aload_n C 0 dX7_othersHave_68 rfl rfl ?_
    refine v_iload C 6 dX7_othersHave_69 rfl ?_
    obtain ⟨x2, g3, e4, hM⟩ := zc_elim hM
    refine v_callVv (ci := 7) (rest := []) C (c_X7_empties hX  e4) mw_X7_empties mi_X7_empties ml_RX7_251 hX.symm zm7 rfl rfl ⟨by decide, Nat.le_of_ble_eq_true rfl⟩ rfl (Nat.le_of_ble_eq_true rfl) dX7_othersHave_71 rfl ?_
    refine v_aload_n C 0 dX7_othersHave_74 rfl rfl ?_
    refine gf_RX7_53 C hX dX7_othersHave_75 ?_
    refine v_iconst C (nI 3) dX7_othersHave_78 zk_3 ?_
    refine v_dup2 C dX7_othersHave_79 ?_
    refine ia_43 C hX dX7_othersHave_80 hM (fun hM _ => ?_)
    refine v_iconst C (nI 1) dX7_othersHave_81 zk_1 ?_
    refine v_iadd C dX7_othersHave_82 ?_
    refine is_43 C hX dX7_othersHave_83 hM (fun g5 hM => ?_)
    refine v_goto C 100 dX7_othersHave_84 rfl ?_
    exact v_weak (t_X7_othersHave_b100 hX C hr  hk6 hM) (show zsub [some (.inr (.inl (7, 0))), some (.inl v1), some (.inl v2), some (.inl v3), some (.inl v4), some (.inl v5), none] [some (.inr (.inl (7, 0))), some (.inl v1), some (.inl v2), some (.inl v3), some (.inl v4), some (.inl v5), some (.inl v6)] from ⟨rfl, ⟨rfl, ⟨rfl, ⟨rfl, ⟨rfl, ⟨rfl, trivial⟩⟩⟩⟩⟩⟩)

theorem t_X7_othersHave_b34 {v1 : Int32} {v2 : Int32} {v3 : Int32} {v4 : Int32} {v5 : Int32} {s0 : Int32} {k6 : Int32 → Int32 → Int32 → Int32 → Int32 → zG → Option (Int32 × zG)} {g : zG} (hX : zfl X = true) (C : Cx X p (zrm 2) s m args meth c cX7_othersHave 7 RX7 0 0) (hr : meth.sig.returnType = (some .boolean))  (hk6 : ∀ (v1 : Int32) (v2 : Int32) (v3 : Int32) (v4 : Int32) (v5 : Int32) (g : zG),  k6 v1 v2 v3 v4 v5 g = some (rr, gr) → V X p l e (zrm 2) s m args below meth c 7 0 0 (MQ below (zQ X (Option.map (zM X) (some (.inl rr))) gr) args s 0 0 (zF X)) g 6 [some (.inr (.inl (7, 0))), some (.inl v1), some (.inl v2), some (.inl v3), some (.inl v4), some (.inl v5), none] []) (hM : X7_othersHave_b34 k6 v1 v2 v3 v4 v5 s0 g = some (rr, gr)) : V X p l e (zrm 2) s m args below meth c 7 0 0 (MQ below (zQ X (Option.map (zM X) (some (.inl rr))) gr) args s 0 0 (zF X)) g 34 [some (.inr (.inl (7, 0))), some (.inl v1), some (.inl v2), some (.inl v3), some (.inl v4), some (.inl v5), none] [(.inl s0)] := by
  unfold X7_othersHave_b34 at hM
  refine v_istore (L' := [some (.inr (.inl (7, 0))), some (.inl v1), some (.inl v2), some (.inl v3), some (.inl v4), some (.inl v5), some (.inl s0)]) C 6 dX7_othersHave_34 (by decide) rfl ?_
  refine v_iload C 6 dX7_othersHave_36 rfl ?_
  refine v_iconst C (-1) dX7_othersHave_38 zk_m1 ?_
  refine v_icmp_ne C 45 dX7_othersHave_39 rfl hM (fun hM => ?_) (fun hM => ?_)
  · refine v_aload_n C 0 dX7_othersHave_45 rfl rfl ?_
    refine gf_RX7_53 C hX dX7_othersHave_46 ?_
    refine v_iload C 6 dX7_othersHave_49 rfl ?_
    refine v_iconst C (nI 1) dX7_othersHave_51 zk_1 ?_
    refine v_iadd C dX7_othersHave_52 ?_
    refine ia_43 C hX dX7_othersHave_53 hM (fun hM _ => ?_)
    refine v_iconst C (nI 3) dX7_othersHave_54 zk_3 ?_
    refine v_icmp_ne C 64 dX7_othersHave_55 rfl hM (fun hM => ?_) (fun hM => ?_)
    · exact t_X7_othersHave_b64 hX C hr  hk6 hM
    · refine v_aload_n C 0 dX7_othersHave_58 rfl rfl ?_
      refine v_iload C 6 dX7_othersHave_59 rfl ?_
      obtain ⟨x1, g2, e3, hM⟩ := zc_elim hM
      refine v_callVv (ci := 7) (rest := []) C (c_X7_writesBack hX  e3) mw_X7_writesBack mi_X7_writesBack ml_RX7_272 hX.symm zm7 rfl rfl ⟨by decide, Nat.le_of_ble_eq_true rfl⟩ rfl (Nat.le_of_ble_eq_true rfl) dX7_othersHave_61 rfl ?_
      exact t_X7_othersHave_b64 hX C hr  hk6 hM
  · refine v_goto C 100 dX7_othersHave_42 rfl ?_
    exact v_weak (t_X7_othersHave_b100 hX C hr  hk6 hM) (show zsub [some (.inr (.inl (7, 0))), some (.inl v1), some (.inl v2), some (.inl v3), some (.inl v4), some (.inl v5), none] [some (.inr (.inl (7, 0))), some (.inl v1), some (.inl v2), some (.inl v3), some (.inl v4), some (.inl v5), some (.inl s0)] from ⟨rfl, ⟨rfl, ⟨rfl, ⟨rfl, ⟨rfl, ⟨rfl, trivial⟩⟩⟩⟩⟩⟩)

theorem t_X7_othersHave_l6  (hX : zfl X = true) (C : Cx X p (zrm 2) s m args meth c cX7_othersHave 7 RX7 0 0) (hr : meth.sig.returnType = (some .boolean))  : ∀ (n : Nat) {v1 : Int32} {v2 : Int32} {v3 : Int32} {v4 : Int32} {v5 : Int32} (g : zG), X7_othersHave_l6  n v1 v2 v3 v4 v5 g = some (rr, gr) → V X p l e (zrm 2) s m args below meth c 7 0 0 (MQ below (zQ X (Option.map (zM X) (some (.inl rr))) gr) args s 0 0 (zF X)) g 6 [some (.inr (.inl (7, 0))), some (.inl v1), some (.inl v2), some (.inl v3), some (.inl v4), some (.inl v5), none] [] := by
  intro n
  induction n with
  | zero =>
    intro v1 v2 v3 v4 v5 g  hM
    exact absurd (show (none : Option (Int32 × zG)) = some (rr, gr) from hM) (by simp)
  | succ n ih =>
    intro v1 v2 v3 v4 v5 g  hM
    rw [X7_othersHave_l6.eq_2] at hM
    refine v_iload C 5 dX7_othersHave_6 rfl ?_
    refine v_aload_n C 0 dX7_othersHave_8 rfl rfl ?_
    refine gf_RX7_17 C hX dX7_othersHave_9 ?_
    refine v_iconst C (nI 5) dX7_othersHave_12 zk_5 ?_
    refine ia_31 C hX dX7_othersHave_13 hM (fun hM _ => ?_)
    refine v_icmp_ge C 106 dX7_othersHave_14 rfl hM (fun hM => ?_) (fun hM => ?_)
    · refine v_iload C 4 dX7_othersHave_106 rfl ?_
      obtain ⟨hz, hM⟩ := zbo_elim hM
      exact v_zret2 C hr (zbo_n hz) dX7_othersHave_108 hM
    · refine v_iload C 5 dX7_othersHave_17 rfl ?_
      refine v_iload_n C 1 dX7_othersHave_19 rfl rfl ?_
      refine v_icmp_ne C 27 dX7_othersHave_20 rfl hM (fun hM => ?_) (fun hM => ?_)
      · refine v_aload_n C 0 dX7_othersHave_27 rfl rfl ?_
        refine v_iload C 5 dX7_othersHave_28 rfl ?_
        refine v_iload_n C 2 dX7_othersHave_30 rfl rfl ?_
        obtain ⟨x1, g2, e3, hM⟩ := zc_elim hM
        refine v_callVi (ci := 7) (rest := []) C (c_X7_find hX  e3) mw_X7_find mi_X7_find ml_RX7_257 hX.symm zm7 rfl rfl ⟨by decide, Nat.le_of_ble_eq_true rfl⟩ rfl (Nat.le_of_ble_eq_true rfl) dX7_othersHave_31 rfl ?_
        exact t_X7_othersHave_b34 hX C hr  (fun v1 v2 v3 v4 v5 g  hM => ih g  hM) hM
      · refine v_iconst C (-1) dX7_othersHave_23 zk_m1 ?_
        refine v_goto C 34 dX7_othersHave_24 rfl ?_
        exact t_X7_othersHave_b34 hX C hr  (fun v1 v2 v3 v4 v5 g  hM => ih g  hM) hM

theorem c_X7_othersHave {X : zX} (hX : zfl X = true) {v1 : Int32} {v2 : Int32} {v3 : Int32} {g gr : zG} {rr : Int32}  (hM : X7_othersHave v1 v2 v3 g = some (rr, gr)) : MC X yX7_othersHave cX7_othersHave 7 (some .boolean) 2 [.inr (.inl (7, 0)), .inl v1, .inl v2, .inl v3] (some (.inl rr)) g gr := by
  refine MC.mk (own := RX7) (L := [some (.inr (.inl (7, 0))), some (.inl v1), some (.inl v2), some (.inl v3), none, none, none]) (by decide) rfl trivial (Nat.le_of_ble_eq_true rfl) rfl ?_
  intro p l e s m args below meth c C hr
  unfold X7_othersHave at hM
  refine v_iconst C (nI 0) dX7_othersHave_0 zk_0 ?_
  refine v_istore (L' := [some (.inr (.inl (7, 0))), some (.inl v1), some (.inl v2), some (.inl v3), some (.inl (nI 0)), none, none]) C 4 dX7_othersHave_1 (by decide) rfl ?_
  refine v_iconst C (nI 0) dX7_othersHave_3 zk_0 ?_
  refine v_istore (L' := [some (.inr (.inl (7, 0))), some (.inl v1), some (.inl v2), some (.inl v3), some (.inl (nI 0)), some (.inl (nI 0)), none]) C 5 dX7_othersHave_4 (by decide) rfl ?_
  exact t_X7_othersHave_l6 hX C hr  _ g  hM

theorem t_X7_brings_b226 {v5 : Int32}  {g : zG} (hX : zfl X = true) (C : Cx X p (zrm 3) s m args meth c cX7_brings 8 RX7 0 0) (hr : meth.sig.returnType = (some .int))   (hM : X7_brings_b226  v5 g = some (rr, gr)) : V X p l e (zrm 3) s m args below meth c 8 0 0 (MQ below (zQ X (Option.map (zM X) (some (.inl rr))) gr) args s 0 0 (zF X)) g 226 [some (.inr (.inl (7, 0))), none, none, none, none, some (.inl v5), none, none] [] := by
  unfold X7_brings_b226 at hM
  refine v_aload_n C 0 dX7_brings_226 rfl rfl ?_
  refine gf_RX7_53 C hX dX7_brings_227 ?_
  refine v_iload C 5 dX7_brings_230 rfl ?_
  refine v_iconst C (nI 4) dX7_brings_232 zk_4 ?_
  refine v_iadd C dX7_brings_233 ?_
  refine v_aload_n C 0 dX7_brings_234 rfl rfl ?_
  refine gf_RX7_53 C hX dX7_brings_235 ?_
  refine v_iconst C (nI 0) dX7_brings_238 zk_0 ?_
  refine ia_43 C hX dX7_brings_239 hM (fun hM _ => ?_)
  refine is_43 C hX dX7_brings_240 hM (fun g1 hM => ?_)
  refine v_iload C 5 dX7_brings_241 rfl ?_
  exact v_iret2 C hr dX7_brings_243 hM

theorem t_X7_brings_b212 {v3 : Int32} {v5 : Int32}  {g : zG} (hX : zfl X = true) (C : Cx X p (zrm 3) s m args meth c cX7_brings 8 RX7 0 0) (hr : meth.sig.returnType = (some .int))   (hM : X7_brings_b212  v3 v5 g = some (rr, gr)) : V X p l e (zrm 3) s m args below meth c 8 0 0 (MQ below (zQ X (Option.map (zM X) (some (.inl rr))) gr) args s 0 0 (zF X)) g 212 [some (.inr (.inl (7, 0))), none, none, some (.inl v3), none, some (.inl v5), none, none] [] := by
  unfold X7_brings_b212 at hM
  refine v_iload_n C 3 dX7_brings_212 rfl rfl ?_
  refine v_if_eq C 226 dX7_brings_213 rfl hM (fun hM => ?_) (fun hM => ?_)
  · exact v_weak (t_X7_brings_b226 hX C hr   hM) (show zsub [some (.inr (.inl (7, 0))), none, none, none, none, some (.inl v5), none, none] [some (.inr (.inl (7, 0))), none, none, some (.inl v3), none, some (.inl v5), none, none] from ⟨rfl, ⟨rfl, trivial⟩⟩)
  · refine v_aload_n C 0 dX7_brings_216 rfl rfl ?_
    refine gf_RX7_53 C hX dX7_brings_217 ?_
    refine v_iload C 5 dX7_brings_220 rfl ?_
    refine v_iconst C (nI 1) dX7_brings_222 zk_1 ?_
    refine v_iadd C dX7_brings_223 ?_
    refine v_iconst C (nI 3) dX7_brings_224 zk_3 ?_
    refine is_43 C hX dX7_brings_225 hM (fun g1 hM => ?_)
    exact v_weak (t_X7_brings_b226 hX C hr   hM) (show zsub [some (.inr (.inl (7, 0))), none, none, none, none, some (.inl v5), none, none] [some (.inr (.inl (7, 0))), none, none, some (.inl v3), none, some (.inl v5), none, none] from ⟨rfl, ⟨rfl, trivial⟩⟩)

theorem t_X7_brings_l147 {k202 : Int32 → Int32 → zG → Option (Int32 × zG)} (hX : zfl X = true) (C : Cx X p (zrm 3) s m args meth c cX7_brings 8 RX7 0 0) (hr : meth.sig.returnType = (some .int)) (hk202 : ∀ (v3 : Int32) (v5 : Int32) (g : zG),  k202 v3 v5 g = some (rr, gr) → V X p l e (zrm 3) s m args below meth c 8 0 0 (MQ below (zQ X (Option.map (zM X) (some (.inl rr))) gr) args s 0 0 (zF X)) g 202 [some (.inr (.inl (7, 0))), none, none, some (.inl v3), none, some (.inl v5), none, none] []) : ∀ (n : Nat) {v2 : Int32} {v3 : Int32} {v5 : Int32} {v7 : Int32} (g : zG), X7_brings_l147 k202 n v2 v3 v5 v7 g = some (rr, gr) → V X p l e (zrm 3) s m args below meth c 8 0 0 (MQ below (zQ X (Option.map (zM X) (some (.inl rr))) gr) args s 0 0 (zF X)) g 147 [some (.inr (.inl (7, 0))), none, some (.inl v2), some (.inl v3), none, some (.inl v5), none, some (.inl v7)] [] := by
  intro n
  induction n with
  | zero =>
    intro v2 v3 v5 v7 g  hM
    exact absurd (show (none : Option (Int32 × zG)) = some (rr, gr) from hM) (by simp)
  | succ n ih =>
    intro v2 v3 v5 v7 g  hM
    rw [X7_brings_l147.eq_2] at hM
    refine v_iload C 7 dX7_brings_147 rfl ?_
    refine v_aload_n C 0 dX7_brings_149 rfl rfl ?_
    refine gf_RX7_17 C hX dX7_brings_150 ?_
    refine v_iconst C (nI 2) dX7_brings_153 zk_2 ?_
    refine ia_31 C hX dX7_brings_154 hM (fun hM _ => ?_)
    refine v_icmp_ge C 202 dX7_brings_155 rfl hM (fun hM => ?_) (fun hM => ?_)
    · exact v_weak (hk202 v3 v5 g  hM) (show zsub [some (.inr (.inl (7, 0))), none, none, some (.inl v3), none, some (.inl v5), none, none] [some (.inr (.inl (7, 0))), none, some (.inl v2), some (.inl v3), none, some (.inl v5), none, some (.inl v7)] from ⟨rfl, ⟨rfl, ⟨rfl, trivial⟩⟩⟩)
    · refine v_iload_n C 2 dX7_brings_158 rfl rfl ?_
      refine v_bipush C (nI 16) dX7_brings_159 zkb_16 ?_
      refine v_icmp_eq C 202 dX7_brings_161 rfl hM (fun hM => ?_) (fun hM => ?_)
      · exact v_weak (hk202 v3 v5 g  hM) (show zsub [some (.inr (.inl (7, 0))), none, none, some (.inl v3), none, some (.inl v5), none, none] [some (.inr (.inl (7, 0))), none, some (.inl v2), some (.inl v3), none, some (.inl v5), none, some (.inl v7)] from ⟨rfl, ⟨rfl, ⟨rfl, trivial⟩⟩⟩)
      · refine v_aload_n C 0 dX7_brings_164 rfl rfl ?_
        refine gf_RX7_53 C hX dX7_brings_165 ?_
        refine v_iload C 5 dX7_brings_168 rfl ?_
        refine v_iconst C (nI 5) dX7_brings_170 zk_5 ?_
        refine v_iadd C dX7_brings_171 ?_
        refine v_iload C 7 dX7_brings_172 rfl ?_
        refine v_iadd C dX7_brings_174 ?_
        refine v_aload_n C 0 dX7_brings_175 rfl rfl ?_
        refine gf_RX7_53 C hX dX7_brings_176 ?_
        refine v_sipush C (nI 254) dX7_brings_179 zks_254 ?_
        refine v_aload_n C 0 dX7_brings_182 rfl rfl ?_
        refine gf_RX7_17 C hX dX7_brings_183 ?_
        refine v_iconst C (nI 2) dX7_brings_186 zk_2 ?_
        refine ia_31 C hX dX7_brings_187 hM (fun hM _ => ?_)
        refine v_iload_n C 2 dX7_brings_188 rfl rfl ?_
        refine v_imul C dX7_brings_189 ?_
        refine v_iadd C dX7_brings_190 ?_
        refine v_iload C 7 dX7_brings_191 rfl ?_
        refine v_iadd C dX7_brings_193 ?_
        refine ia_43 C hX dX7_brings_194 hM (fun hM _ => ?_)
        refine is_43 C hX dX7_brings_195 hM (fun g1 hM => ?_)
        refine v_iinc (L' := [some (.inr (.inl (7, 0))), none, some (.inl v2), some (.inl v3), none, some (.inl v5), none, some (.inl (v7 + (nI 1)))]) C 7 (nI 1) dX7_brings_196 zk_1 (by decide) rfl rfl ?_
        refine v_goto C 147 dX7_brings_199 rfl ?_
        exact ih g1  hM

theorem t_X7_brings_b202 {v3 : Int32} {v5 : Int32}  {g : zG} (hX : zfl X = true) (C : Cx X p (zrm 3) s m args meth c cX7_brings 8 RX7 0 0) (hr : meth.sig.returnType = (some .int))   (hM : X7_brings_b202  v3 v5 g = some (rr, gr)) : V X p l e (zrm 3) s m args below meth c 8 0 0 (MQ below (zQ X (Option.map (zM X) (some (.inl rr))) gr) args s 0 0 (zF X)) g 202 [some (.inr (.inl (7, 0))), none, none, some (.inl v3), none, some (.inl v5), none, none] [] := by
  unfold X7_brings_b202 at hM
  refine v_aload_n C 0 dX7_brings_202 rfl rfl ?_
  refine gf_RX7_53 C hX dX7_brings_203 ?_
  refine v_iconst C (nI 1) dX7_brings_206 zk_1 ?_
  refine v_dup2 C dX7_brings_207 ?_
  refine ia_43 C hX dX7_brings_208 hM (fun hM _ => ?_)
  refine v_iconst C (nI 1) dX7_brings_209 zk_1 ?_
  refine v_iadd C dX7_brings_210 ?_
  refine is_43 C hX dX7_brings_211 hM (fun g1 hM => ?_)
  exact t_X7_brings_b212 hX C hr   hM

theorem t_X7_brings_b123 {v2 : Int32} {v3 : Int32} {v5 : Int32} {s1 : Int32} {s2 : Int32}  {g : zG} (hX : zfl X = true) (C : Cx X p (zrm 3) s m args meth c cX7_brings 8 RX7 0 0) (hr : meth.sig.returnType = (some .int))   (hM : X7_brings_b123  v2 v3 v5 s1 s2 g = some (rr, gr)) : V X p l e (zrm 3) s m args below meth c 8 0 0 (MQ below (zQ X (Option.map (zM X) (some (.inl rr))) gr) args s 0 0 (zF X)) g 123 [some (.inr (.inl (7, 0))), none, some (.inl v2), some (.inl v3), none, some (.inl v5), none, none] [(.inl s2), (.inl s1), (.inr (.inl (43, 0)))] := by
  unfold X7_brings_b123 at hM
  refine is_43 C hX dX7_brings_123 hM (fun g1 hM => ?_)
  refine v_aload_n C 0 dX7_brings_124 rfl rfl ?_
  refine gf_RX7_53 C hX dX7_brings_125 ?_
  refine v_iload C 5 dX7_brings_128 rfl ?_
  refine v_iconst C (nI 2) dX7_brings_130 zk_2 ?_
  refine v_iadd C dX7_brings_131 ?_
  refine v_iconst C (nI 0) dX7_brings_132 zk_0 ?_
  refine is_43 C hX dX7_brings_133 hM (fun g2 hM => ?_)
  refine v_aload_n C 0 dX7_brings_134 rfl rfl ?_
  refine gf_RX7_53 C hX dX7_brings_135 ?_
  refine v_iload C 5 dX7_brings_138 rfl ?_
  refine v_iconst C (nI 3) dX7_brings_140 zk_3 ?_
  refine v_iadd C dX7_brings_141 ?_
  refine v_iconst C (nI 0) dX7_brings_142 zk_0 ?_
  refine is_43 C hX dX7_brings_143 hM (fun g3 hM => ?_)
  refine v_iconst C (nI 0) dX7_brings_144 zk_0 ?_
  refine v_istore (L' := [some (.inr (.inl (7, 0))), none, some (.inl v2), some (.inl v3), none, some (.inl v5), none, some (.inl (nI 0))]) C 7 dX7_brings_145 (by decide) rfl ?_
  exact t_X7_brings_l147 hX C hr (by intro v3 v5 g  hM; exact t_X7_brings_b202 hX C hr   hM) _ g3  hM

theorem t_X7_brings_b80 {v1 : Int32} {v2 : Int32} {v3 : Int32} {v4 : Int32} {v5 : Int32}  {g : zG} (hX : zfl X = true) (C : Cx X p (zrm 3) s m args meth c cX7_brings 8 RX7 0 0) (hr : meth.sig.returnType = (some .int))   (hM : X7_brings_b80  v1 v2 v3 v4 v5 g = some (rr, gr)) : V X p l e (zrm 3) s m args below meth c 8 0 0 (MQ below (zQ X (Option.map (zM X) (some (.inl rr))) gr) args s 0 0 (zF X)) g 80 [some (.inr (.inl (7, 0))), some (.inl v1), some (.inl v2), some (.inl v3), some (.inl v4), some (.inl v5), none, none] [] := by
  unfold X7_brings_b80 at hM
  refine v_aload_n C 0 dX7_brings_80 rfl rfl ?_
  refine v_iload_n C 1 dX7_brings_81 rfl rfl ?_
  refine v_iload_n C 2 dX7_brings_82 rfl rfl ?_
  refine v_iload_n C 3 dX7_brings_83 rfl rfl ?_
  obtain ⟨x1, g2, e3, hM⟩ := zc_elim hM
  refine v_callVi (ci := 7) (rest := []) C (c_X7_othersHave hX  e3) mw_X7_othersHave mi_X7_othersHave ml_RX7_278 hX.symm zm7 rfl rfl ⟨by decide, Nat.le_of_ble_eq_true rfl⟩ rfl (Nat.le_of_ble_eq_true rfl) dX7_brings_84 rfl ?_
  refine v_istore (L' := [some (.inr (.inl (7, 0))), some (.inl v1), some (.inl v2), some (.inl v3), some (.inl v4), some (.inl v5), some (.inl x1), none]) C 6 dX7_brings_87 (by decide) rfl ?_
  refine v_iload C 4 dX7_brings_89 rfl ?_
  refine v_iconst C (-1) dX7_brings_91 zk_m1 ?_
  refine v_icmp_ne C 212 dX7_brings_92 rfl hM (fun hM => ?_) (fun hM => ?_)
  · exact v_weak (t_X7_brings_b212 hX C hr   hM) (show zsub [some (.inr (.inl (7, 0))), none, none, some (.inl v3), none, some (.inl v5), none, none] [some (.inr (.inl (7, 0))), some (.inl v1), some (.inl v2), some (.inl v3), some (.inl v4), some (.inl v5), some (.inl x1), none] from ⟨rfl, ⟨rfl, ⟨rfl, trivial⟩⟩⟩)
  · refine v_aload_n C 0 dX7_brings_95 rfl rfl ?_
    refine gf_RX7_53 C hX dX7_brings_96 ?_
    refine v_iload C 5 dX7_brings_99 rfl ?_
    refine v_iconst C (nI 0) dX7_brings_101 zk_0 ?_
    refine v_iadd C dX7_brings_102 ?_
    refine v_iload_n C 2 dX7_brings_103 rfl rfl ?_
    refine is_43 C hX dX7_brings_104 hM (fun g4 hM => ?_)
    refine v_aload_n C 0 dX7_brings_105 rfl rfl ?_
    refine gf_RX7_53 C hX dX7_brings_106 ?_
    refine v_iload C 5 dX7_brings_109 rfl ?_
    refine v_iconst C (nI 1) dX7_brings_111 zk_1 ?_
    refine v_iadd C dX7_brings_112 ?_
    refine v_iload C 6 dX7_brings_113 rfl ?_
    refine v_if_eq C 122 dX7_brings_115 rfl hM (fun hM => ?_) (fun hM => ?_)
    · refine v_iconst C (nI 2) dX7_brings_122 zk_2 ?_
      exact v_weak (t_X7_brings_b123 hX C hr   hM) (show zsub [some (.inr (.inl (7, 0))), none, some (.inl v2), some (.inl v3), none, some (.inl v5), none, none] [some (.inr (.inl (7, 0))), some (.inl v1), some (.inl v2), some (.inl v3), some (.inl v4), some (.inl v5), some (.inl x1), none] from ⟨rfl, ⟨rfl, ⟨rfl, ⟨rfl, trivial⟩⟩⟩⟩)
    · refine v_iconst C (nI 1) dX7_brings_118 zk_1 ?_
      refine v_goto C 123 dX7_brings_119 rfl ?_
      exact v_weak (t_X7_brings_b123 hX C hr   hM) (show zsub [some (.inr (.inl (7, 0))), none, some (.inl v2), some (.inl v3), none, some (.inl v5), none, none] [some (.inr (.inl (7, 0))), some (.inl v1), some (.inl v2), some (.inl v3), some (.inl v4), some (.inl v5), some (.inl x1), none] from ⟨rfl, ⟨rfl, ⟨rfl, ⟨rfl, trivial⟩⟩⟩⟩)

theorem t_X7_brings_b25 {v1 : Int32} {v2 : Int32} {v3 : Int32} {v4 : Int32} {s0 : Int32}  {g : zG} (hX : zfl X = true) (C : Cx X p (zrm 3) s m args meth c cX7_brings 8 RX7 0 0) (hr : meth.sig.returnType = (some .int))   (hM : X7_brings_b25  v1 v2 v3 v4 s0 g = some (rr, gr)) : V X p l e (zrm 3) s m args below meth c 8 0 0 (MQ below (zQ X (Option.map (zM X) (some (.inl rr))) gr) args s 0 0 (zF X)) g 25 [some (.inr (.inl (7, 0))), some (.inl v1), some (.inl v2), some (.inl v3), some (.inl v4), none, none, none] [(.inl s0)] := by
  unfold X7_brings_b25 at hM
  refine v_istore (L' := [some (.inr (.inl (7, 0))), some (.inl v1), some (.inl v2), some (.inl v3), some (.inl v4), some (.inl s0), none, none]) C 5 dX7_brings_25 (by decide) rfl ?_
  refine v_iload C 5 dX7_brings_27 rfl ?_
  refine v_iconst C (-1) dX7_brings_29 zk_m1 ?_
  refine v_icmp_ne C 41 dX7_brings_30 rfl hM (fun hM => ?_) (fun hM => ?_)
  · refine v_iload C 4 dX7_brings_41 rfl ?_
    refine v_iconst C (-1) dX7_brings_43 zk_m1 ?_
    refine v_icmp_ne C 80 dX7_brings_44 rfl hM (fun hM => ?_) (fun hM => ?_)
    · exact t_X7_brings_b80 hX C hr   hM
    · refine v_aload_n C 0 dX7_brings_47 rfl rfl ?_
      refine gf_RX7_53 C hX dX7_brings_48 ?_
      refine v_iload C 5 dX7_brings_51 rfl ?_
      refine v_iconst C (nI 0) dX7_brings_53 zk_0 ?_
      refine v_iadd C dX7_brings_54 ?_
      refine ia_43 C hX dX7_brings_55 hM (fun hM _ => ?_)
      refine v_bipush C (-2) dX7_brings_56 zkb_m2 ?_
      refine v_icmp_eq C 80 dX7_brings_58 rfl hM (fun hM => ?_) (fun hM => ?_)
      · exact t_X7_brings_b80 hX C hr   hM
      · refine v_aload_n C 0 dX7_brings_61 rfl rfl ?_
        refine gf_RX7_53 C hX dX7_brings_62 ?_
        refine v_iload C 5 dX7_brings_65 rfl ?_
        refine v_iconst C (nI 1) dX7_brings_67 zk_1 ?_
        refine v_iadd C dX7_brings_68 ?_
        refine ia_43 C hX dX7_brings_69 hM (fun hM _ => ?_)
        refine v_iconst C (nI 3) dX7_brings_70 zk_3 ?_
        refine v_icmp_ne C 80 dX7_brings_71 rfl hM (fun hM => ?_) (fun hM => ?_)
        · exact t_X7_brings_b80 hX C hr   hM
        · refine v_aload_n C 0 dX7_brings_74 rfl rfl ?_
          refine v_iload C 5 dX7_brings_75 rfl ?_
          obtain ⟨x1, g2, e3, hM⟩ := zc_elim hM
          refine v_callVv (ci := 7) (rest := []) C (c_X7_writesBack hX  e3) mw_X7_writesBack mi_X7_writesBack ml_RX7_272 hX.symm zm7 rfl rfl ⟨by decide, Nat.le_of_ble_eq_true rfl⟩ rfl (Nat.le_of_ble_eq_true rfl) dX7_brings_77 rfl ?_
          exact t_X7_brings_b80 hX C hr   hM
  · refine v_aload_n C 0 dX7_brings_33 rfl rfl ?_
    refine v_iload_n C 1 dX7_brings_34 rfl rfl ?_
    refine v_iconst C (nI 1) dX7_brings_35 zk_1 ?_
    obtain ⟨x4, g5, e6, hM⟩ := zc_elim hM
    refine v_callVv (ci := 7) (rest := []) C (c_X7_ends hX  e6) mw_X7_ends mi_X7_ends ml_RX7_268 hX.symm zm7 rfl rfl ⟨by decide, Nat.le_of_ble_eq_true rfl⟩ rfl (Nat.le_of_ble_eq_true rfl) dX7_brings_36 rfl ?_
    refine v_iconst C (-1) dX7_brings_39 zk_m1 ?_
    exact v_iret2 C hr dX7_brings_40 hM

theorem c_X7_brings {X : zX} (hX : zfl X = true) {v1 : Int32} {v2 : Int32} {v3 : Int32} {g gr : zG} {rr : Int32}  (hM : X7_brings v1 v2 v3 g = some (rr, gr)) : MC X yX7_brings cX7_brings 8 (some .int) 3 [.inr (.inl (7, 0)), .inl v1, .inl v2, .inl v3] (some (.inl rr)) g gr := by
  refine MC.mk (own := RX7) (L := [some (.inr (.inl (7, 0))), some (.inl v1), some (.inl v2), some (.inl v3), none, none, none, none]) (by decide) rfl trivial (Nat.le_of_ble_eq_true rfl) rfl ?_
  intro p l e s m args below meth c C hr
  unfold X7_brings at hM
  refine v_aload_n C 0 dX7_brings_0 rfl rfl ?_
  refine v_iload_n C 1 dX7_brings_1 rfl rfl ?_
  refine v_iload_n C 2 dX7_brings_2 rfl rfl ?_
  obtain ⟨x1, g2, e3, hM⟩ := zc_elim hM
  refine v_callVi (ci := 7) (rest := []) C (c_X7_find hX  e3) mw_X7_find mi_X7_find ml_RX7_257 hX.symm zm7 rfl rfl ⟨by decide, Nat.le_of_ble_eq_true rfl⟩ rfl (Nat.le_of_ble_eq_true rfl) dX7_brings_3 rfl ?_
  refine v_istore (L' := [some (.inr (.inl (7, 0))), some (.inl v1), some (.inl v2), some (.inl v3), some (.inl x1), none, none, none]) C 4 dX7_brings_6 (by decide) rfl ?_
  refine v_iload C 4 dX7_brings_8 rfl ?_
  refine v_iconst C (-1) dX7_brings_10 zk_m1 ?_
  refine v_icmp_ne C 23 dX7_brings_11 rfl hM (fun hM => ?_) (fun hM => ?_)
  · refine v_iload C 4 dX7_brings_23 rfl ?_
    exact t_X7_brings_b25 hX C hr   hM
  · refine v_aload_n C 0 dX7_brings_14 rfl rfl ?_
    refine v_iload_n C 1 dX7_brings_15 rfl rfl ?_
    refine v_iload_n C 2 dX7_brings_16 rfl rfl ?_
    obtain ⟨x4, g5, e6, hM⟩ := zc_elim hM
    refine v_callVi (ci := 7) (rest := []) C (c_X7_room hX  e6) mw_X7_room mi_X7_room ml_RX7_275 hX.symm zm7 rfl rfl ⟨by decide, Nat.le_of_ble_eq_true rfl⟩ rfl (Nat.le_of_ble_eq_true rfl) dX7_brings_17 rfl ?_
    refine v_goto C 25 dX7_brings_20 rfl ?_
    exact t_X7_brings_b25 hX C hr   hM

theorem c_X7_waits {X : zX} (hX : zfl X = true) {v1 : Int32} {g gr : zG} {rr : Int32}  (hM : X7_waits v1 g = some (rr, gr)) : MC X yX7_waits cX7_waits 2 (some .int) 1 [.inr (.inl (7, 0)), .inl v1] (some (.inl rr)) g gr := by
  refine MC.mk (own := RX7) (L := [some (.inr (.inl (7, 0))), some (.inl v1)]) (by decide) rfl trivial (Nat.le_of_ble_eq_true rfl) rfl ?_
  intro p l e s m args below meth c C hr
  unfold X7_waits at hM
  refine v_aload_n C 0 dX7_waits_0 rfl rfl ?_
  refine gf_RX7_53 C hX dX7_waits_1 ?_
  refine v_iload_n C 1 dX7_waits_4 rfl rfl ?_
  refine v_bipush C (nI 13) dX7_waits_5 zkb_13 ?_
  obtain ⟨x1, g2, e3, hM⟩ := zc_elim hM
  refine v_callSi (rest := [(.inr (.inl (43, 0)))]) C (c_X7_coreAt hX  e3) mw_X7_coreAt ms_X7_coreAt ml_RX7_244 ⟨by decide, Nat.le_of_ble_eq_true rfl⟩ rfl (Nat.le_of_ble_eq_true rfl) dX7_waits_7 rfl ?_
  refine v_dup2 C dX7_waits_10 ?_
  refine ia_43 C hX dX7_waits_11 hM (fun hM _ => ?_)
  refine v_iconst C (nI 1) dX7_waits_12 zk_1 ?_
  refine v_iadd C dX7_waits_13 ?_
  refine is_43 C hX dX7_waits_14 hM (fun g4 hM => ?_)
  refine v_iconst C (nI 2) dX7_waits_15 zk_2 ?_
  exact v_iret2 C hr dX7_waits_16 hM

theorem t_X7_begin_b114 {v1 : Int32} {v2 : Int32} {k86 : Int32 → Int32 → zG → Option (Int32 × zG)} {g : zG} (hX : zfl X = true) (C : Cx X p (zrm 5) s m args meth c cX7_begin 3 RX7 0 0) (hr : meth.sig.returnType = (some .int))  (hk86 : ∀ (v1 : Int32) (v2 : Int32) (g : zG),  k86 v1 v2 g = some (rr, gr) → V X p l e (zrm 5) s m args below meth c 3 0 0 (MQ below (zQ X (Option.map (zM X) (some (.inl rr))) gr) args s 0 0 (zF X)) g 86 [some (.inr (.inl (7, 0))), some (.inl v1), some (.inl v2)] []) (hM : X7_begin_b114 k86 v1 v2 g = some (rr, gr)) : V X p l e (zrm 5) s m args below meth c 3 0 0 (MQ below (zQ X (Option.map (zM X) (some (.inl rr))) gr) args s 0 0 (zF X)) g 114 [some (.inr (.inl (7, 0))), some (.inl v1), some (.inl v2)] [] := by
  unfold X7_begin_b114 at hM
  refine v_iinc (L' := [some (.inr (.inl (7, 0))), some (.inl v1), some (.inl (v2 + (nI 1)))]) C 2 (nI 1) dX7_begin_114 zk_1 (by decide) rfl rfl ?_
  refine v_goto C 86 dX7_begin_117 rfl ?_
  exact hk86 v1 (v2 + (nI 1)) g  hM

theorem t_X7_begin_l86 {k147 : Int32 → zG → Option (Int32 × zG)} (hX : zfl X = true) (C : Cx X p (zrm 5) s m args meth c cX7_begin 3 RX7 0 0) (hr : meth.sig.returnType = (some .int)) (hk147 : ∀ (v1 : Int32) (g : zG),  k147 v1 g = some (rr, gr) → V X p l e (zrm 5) s m args below meth c 3 0 0 (MQ below (zQ X (Option.map (zM X) (some (.inl rr))) gr) args s 0 0 (zF X)) g 147 [some (.inr (.inl (7, 0))), some (.inl v1), none] []) : ∀ (n : Nat) {v1 : Int32} {v2 : Int32} (g : zG), X7_begin_l86 k147 n v1 v2 g = some (rr, gr) → V X p l e (zrm 5) s m args below meth c 3 0 0 (MQ below (zQ X (Option.map (zM X) (some (.inl rr))) gr) args s 0 0 (zF X)) g 86 [some (.inr (.inl (7, 0))), some (.inl v1), some (.inl v2)] [] := by
  intro n
  induction n with
  | zero =>
    intro v1 v2 g  hM
    exact absurd (show (none : Option (Int32 × zG)) = some (rr, gr) from hM) (by simp)
  | succ n ih =>
    intro v1 v2 g  hM
    rw [X7_begin_l86.eq_2] at hM
    refine v_iload_n C 2 dX7_begin_86 rfl rfl ?_
    refine v_aload_n C 0 dX7_begin_87 rfl rfl ?_
    refine gf_RX7_17 C hX dX7_begin_88 ?_
    refine v_iconst C (nI 5) dX7_begin_91 zk_5 ?_
    refine ia_31 C hX dX7_begin_92 hM (fun hM _ => ?_)
    refine v_icmp_ge C 120 dX7_begin_93 rfl hM (fun hM => ?_) (fun hM => ?_)
    · refine v_aload_n C 0 dX7_begin_120 rfl rfl ?_
      refine v_iload_n C 1 dX7_begin_121 rfl rfl ?_
      refine v_bipush C (nI 16) dX7_begin_122 zkb_16 ?_
      refine v_iconst C (nI 1) dX7_begin_124 zk_1 ?_
      obtain ⟨x1, g2, e3, hM⟩ := zc_elim hM
      refine v_callVi (ci := 7) (rest := []) C (c_X7_brings hX  e3) mw_X7_brings mi_X7_brings ml_RX7_288 hX.symm zm7 rfl rfl ⟨by decide, Nat.le_of_ble_eq_true rfl⟩ rfl (Nat.le_of_ble_eq_true rfl) dX7_begin_125 rfl ?_
      refine v_pop C dX7_begin_128 ?_
      refine v_aload_n C 0 dX7_begin_129 rfl rfl ?_
      refine gf_RX7_53 C hX dX7_begin_130 ?_
      refine v_iconst C (nI 5) dX7_begin_133 zk_5 ?_
      refine v_iload_n C 1 dX7_begin_134 rfl rfl ?_
      refine is_43 C hX dX7_begin_135 hM (fun g4 hM => ?_)
      refine v_aload_n C 0 dX7_begin_136 rfl rfl ?_
      refine gf_RX7_53 C hX dX7_begin_137 ?_
      refine v_iload_n C 1 dX7_begin_140 rfl rfl ?_
      refine v_iconst C (nI 3) dX7_begin_141 zk_3 ?_
      obtain ⟨x5, g6, e7, hM⟩ := zc_elim hM
      refine v_callSi (rest := [(.inr (.inl (43, 0)))]) C (c_X7_coreAt hX  e7) mw_X7_coreAt ms_X7_coreAt ml_RX7_244 ⟨by decide, Nat.le_of_ble_eq_true rfl⟩ rfl (Nat.le_of_ble_eq_true rfl) dX7_begin_142 rfl ?_
      refine v_iconst C (nI 2) dX7_begin_145 zk_2 ?_
      refine is_43 C hX dX7_begin_146 hM (fun g8 hM => ?_)
      exact v_weak (hk147 v1 g8  hM) (show zsub [some (.inr (.inl (7, 0))), some (.inl v1), none] [some (.inr (.inl (7, 0))), some (.inl v1), some (.inl v2)] from ⟨rfl, ⟨rfl, trivial⟩⟩)
    · refine v_aload_n C 0 dX7_begin_96 rfl rfl ?_
      refine v_iload_n C 1 dX7_begin_97 rfl rfl ?_
      refine v_iload_n C 2 dX7_begin_98 rfl rfl ?_
      refine v_bipush C (nI 16) dX7_begin_99 zkb_16 ?_
      refine v_iconst C (nI 1) dX7_begin_101 zk_1 ?_
      obtain ⟨x9, g10, e11, hM⟩ := zc_elim hM
      refine v_callVi (ci := 7) (rest := []) C (c_X7_isRival hX  e11) mw_X7_isRival mi_X7_isRival ml_RX7_260 hX.symm zm7 rfl rfl ⟨by decide, Nat.le_of_ble_eq_true rfl⟩ rfl (Nat.le_of_ble_eq_true rfl) dX7_begin_102 rfl ?_
      refine v_if_eq C 114 dX7_begin_105 rfl hM (fun hM => ?_) (fun hM => ?_)
      · exact t_X7_begin_b114 hX C hr  (fun v1 v2 g  hM => ih g  hM) hM
      · refine v_aload_n C 0 dX7_begin_108 rfl rfl ?_
        refine v_iload_n C 2 dX7_begin_109 rfl rfl ?_
        refine v_iconst C (nI 3) dX7_begin_110 zk_3 ?_
        obtain ⟨x12, g13, e14, hM⟩ := zc_elim hM
        refine v_callVv (ci := 7) (rest := []) C (c_X7_ends hX  e14) mw_X7_ends mi_X7_ends ml_RX7_268 hX.symm zm7 rfl rfl ⟨by decide, Nat.le_of_ble_eq_true rfl⟩ rfl (Nat.le_of_ble_eq_true rfl) dX7_begin_111 rfl ?_
        exact t_X7_begin_b114 hX C hr  (fun v1 v2 g  hM => ih g  hM) hM

theorem t_X7_begin_b147 {v1 : Int32}  {g : zG} (hX : zfl X = true) (C : Cx X p (zrm 5) s m args meth c cX7_begin 3 RX7 0 0) (hr : meth.sig.returnType = (some .int))   (hM : X7_begin_b147  v1 g = some (rr, gr)) : V X p l e (zrm 5) s m args below meth c 3 0 0 (MQ below (zQ X (Option.map (zM X) (some (.inl rr))) gr) args s 0 0 (zF X)) g 147 [some (.inr (.inl (7, 0))), some (.inl v1), none] [] := by
  unfold X7_begin_b147 at hM
  refine v_aload_n C 0 dX7_begin_147 rfl rfl ?_
  refine gf_RX7_53 C hX dX7_begin_148 ?_
  refine v_iload_n C 1 dX7_begin_151 rfl rfl ?_
  refine v_iconst C (nI 1) dX7_begin_152 zk_1 ?_
  obtain ⟨x1, g2, e3, hM⟩ := zc_elim hM
  refine v_callSi (rest := [(.inr (.inl (43, 0)))]) C (c_X7_coreAt hX  e3) mw_X7_coreAt ms_X7_coreAt ml_RX7_244 ⟨by decide, Nat.le_of_ble_eq_true rfl⟩ rfl (Nat.le_of_ble_eq_true rfl) dX7_begin_153 rfl ?_
  refine v_iconst C (nI 0) dX7_begin_156 zk_0 ?_
  refine is_43 C hX dX7_begin_157 hM (fun g4 hM => ?_)
  refine v_aload_n C 0 dX7_begin_158 rfl rfl ?_
  refine gf_RX7_53 C hX dX7_begin_159 ?_
  refine v_iload_n C 1 dX7_begin_162 rfl rfl ?_
  refine v_iconst C (nI 2) dX7_begin_163 zk_2 ?_
  obtain ⟨x5, g6, e7, hM⟩ := zc_elim hM
  refine v_callSi (rest := [(.inr (.inl (43, 0)))]) C (c_X7_coreAt hX  e7) mw_X7_coreAt ms_X7_coreAt ml_RX7_244 ⟨by decide, Nat.le_of_ble_eq_true rfl⟩ rfl (Nat.le_of_ble_eq_true rfl) dX7_begin_164 rfl ?_
  refine v_iconst C (nI 0) dX7_begin_167 zk_0 ?_
  refine is_43 C hX dX7_begin_168 hM (fun g8 hM => ?_)
  refine v_aload_n C 0 dX7_begin_169 rfl rfl ?_
  refine gf_RX7_53 C hX dX7_begin_170 ?_
  refine v_iload_n C 1 dX7_begin_173 rfl rfl ?_
  refine v_bipush C (nI 6) dX7_begin_174 zkb_6 ?_
  obtain ⟨x9, g10, e11, hM⟩ := zc_elim hM
  refine v_callSi (rest := [(.inr (.inl (43, 0)))]) C (c_X7_coreAt hX  e11) mw_X7_coreAt ms_X7_coreAt ml_RX7_244 ⟨by decide, Nat.le_of_ble_eq_true rfl⟩ rfl (Nat.le_of_ble_eq_true rfl) dX7_begin_176 rfl ?_
  refine v_aload_n C 0 dX7_begin_179 rfl rfl ?_
  refine gf_RX7_53 C hX dX7_begin_180 ?_
  refine v_iload_n C 1 dX7_begin_183 rfl rfl ?_
  refine v_iconst C (nI 0) dX7_begin_184 zk_0 ?_
  obtain ⟨x12, g13, e14, hM⟩ := zc_elim hM
  refine v_callSi (rest := [(.inr (.inl (43, 0))), (.inl x9), (.inr (.inl (43, 0)))]) C (c_X7_coreAt hX  e14) mw_X7_coreAt ms_X7_coreAt ml_RX7_244 ⟨by decide, Nat.le_of_ble_eq_true rfl⟩ rfl (Nat.le_of_ble_eq_true rfl) dX7_begin_185 rfl ?_
  refine ia_43 C hX dX7_begin_188 hM (fun hM _ => ?_)
  refine is_43 C hX dX7_begin_189 hM (fun g15 hM => ?_)
  refine v_aload_n C 0 dX7_begin_190 rfl rfl ?_
  refine gf_RX7_53 C hX dX7_begin_191 ?_
  refine v_iload_n C 1 dX7_begin_194 rfl rfl ?_
  refine v_iconst C (nI 5) dX7_begin_195 zk_5 ?_
  obtain ⟨x16, g17, e18, hM⟩ := zc_elim hM
  refine v_callSi (rest := [(.inr (.inl (43, 0)))]) C (c_X7_coreAt hX  e18) mw_X7_coreAt ms_X7_coreAt ml_RX7_244 ⟨by decide, Nat.le_of_ble_eq_true rfl⟩ rfl (Nat.le_of_ble_eq_true rfl) dX7_begin_196 rfl ?_
  refine ia_43 C hX dX7_begin_199 hM (fun hM _ => ?_)
  refine v_bipush C (-2) dX7_begin_200 zkb_m2 ?_
  refine v_icmp_ne C 221 dX7_begin_202 rfl hM (fun hM => ?_) (fun hM => ?_)
  · refine v_iconst C (nI 1) dX7_begin_221 zk_1 ?_
    exact v_iret2 C hr dX7_begin_222 hM
  · refine v_aload_n C 0 dX7_begin_205 rfl rfl ?_
    refine gf_RX7_53 C hX dX7_begin_206 ?_
    refine v_iload_n C 1 dX7_begin_209 rfl rfl ?_
    refine v_iconst C (nI 5) dX7_begin_210 zk_5 ?_
    obtain ⟨x19, g20, e21, hM⟩ := zc_elim hM
    refine v_callSi (rest := [(.inr (.inl (43, 0)))]) C (c_X7_coreAt hX  e21) mw_X7_coreAt ms_X7_coreAt ml_RX7_244 ⟨by decide, Nat.le_of_ble_eq_true rfl⟩ rfl (Nat.le_of_ble_eq_true rfl) dX7_begin_211 rfl ?_
    refine v_aload_n C 0 dX7_begin_214 rfl rfl ?_
    refine gf_RX7_53 C hX dX7_begin_215 ?_
    refine v_iconst C (nI 0) dX7_begin_218 zk_0 ?_
    refine ia_43 C hX dX7_begin_219 hM (fun hM _ => ?_)
    refine is_43 C hX dX7_begin_220 hM (fun g22 hM => ?_)
    refine v_iconst C (nI 1) dX7_begin_221 zk_1 ?_
    exact v_iret2 C hr dX7_begin_222 hM

theorem c_X7_begin {X : zX} (hX : zfl X = true) {v1 : Int32} {g gr : zG} {rr : Int32}  (hM : X7_begin v1 g = some (rr, gr)) : MC X yX7_begin cX7_begin 3 (some .int) 5 [.inr (.inl (7, 0)), .inl v1] (some (.inl rr)) g gr := by
  refine MC.mk (own := RX7) (L := [some (.inr (.inl (7, 0))), some (.inl v1), none]) (by decide) rfl trivial (Nat.le_of_ble_eq_true rfl) rfl ?_
  intro p l e s m args below meth c C hr
  unfold X7_begin at hM
  refine v_aload_n C 0 dX7_begin_0 rfl rfl ?_
  refine gf_RX7_53 C hX dX7_begin_1 ?_
  refine v_iconst C (nI 5) dX7_begin_4 zk_5 ?_
  refine ia_43 C hX dX7_begin_5 hM (fun hM _ => ?_)
  refine v_bipush C (-2) dX7_begin_6 zkb_m2 ?_
  refine v_icmp_eq C 17 dX7_begin_8 rfl hM (fun hM => ?_) (fun hM => ?_)
  · refine v_aload_n C 0 dX7_begin_17 rfl rfl ?_
    refine gf_RX7_53 C hX dX7_begin_18 ?_
    refine v_iload_n C 1 dX7_begin_21 rfl rfl ?_
    refine v_iconst C (nI 4) dX7_begin_22 zk_4 ?_
    obtain ⟨x1, g2, e3, hM⟩ := zc_elim hM
    refine v_callSi (rest := [(.inr (.inl (43, 0)))]) C (c_X7_coreAt hX  e3) mw_X7_coreAt ms_X7_coreAt ml_RX7_244 ⟨by decide, Nat.le_of_ble_eq_true rfl⟩ rfl (Nat.le_of_ble_eq_true rfl) dX7_begin_23 rfl ?_
    refine ia_43 C hX dX7_begin_26 hM (fun hM _ => ?_)
    refine v_aload_n C 0 dX7_begin_27 rfl rfl ?_
    refine gf_RX7_240 C hX dX7_begin_28 ?_
    refine v_icmp_ge C 84 dX7_begin_31 rfl hM (fun hM => ?_) (fun hM => ?_)
    · refine v_iconst C (nI 0) dX7_begin_84 zk_0 ?_
      refine v_istore_n (L' := [some (.inr (.inl (7, 0))), some (.inl v1), some (.inl (nI 0))]) C 2 dX7_begin_85 rfl (by decide) rfl ?_
      exact t_X7_begin_l86 hX C hr (by intro v1 g  hM; exact t_X7_begin_b147 hX C hr   hM) _ g2  hM
    · refine v_aload_n C 0 dX7_begin_34 rfl rfl ?_
      refine v_iload_n C 1 dX7_begin_35 rfl rfl ?_
      refine v_bipush C (nI 16) dX7_begin_36 zkb_16 ?_
      refine v_iconst C (nI 0) dX7_begin_38 zk_0 ?_
      obtain ⟨x4, g5, e6, hM⟩ := zc_elim hM
      refine v_callVi (ci := 7) (rest := []) C (c_X7_decides hX  e6) mw_X7_decides mi_X7_decides ml_RX7_284 hX.symm zm7 rfl rfl ⟨by decide, Nat.le_of_ble_eq_true rfl⟩ rfl (Nat.le_of_ble_eq_true rfl) dX7_begin_39 rfl ?_
      refine v_istore_n (L' := [some (.inr (.inl (7, 0))), some (.inl v1), some (.inl x4)]) C 2 dX7_begin_42 rfl (by decide) rfl ?_
      refine v_iload_n C 2 dX7_begin_43 rfl rfl ?_
      refine v_iconst C (nI 2) dX7_begin_44 zk_2 ?_
      refine v_icmp_ne C 54 dX7_begin_45 rfl hM (fun hM => ?_) (fun hM => ?_)
      · refine v_aload_n C 0 dX7_begin_54 rfl rfl ?_
        refine gf_RX7_53 C hX dX7_begin_55 ?_
        refine v_aload_n C 0 dX7_begin_58 rfl rfl ?_
        refine v_iload_n C 1 dX7_begin_59 rfl rfl ?_
        refine v_bipush C (nI 16) dX7_begin_60 zkb_16 ?_
        refine v_iconst C (nI 0) dX7_begin_62 zk_0 ?_
        obtain ⟨x7, g8, e9, hM⟩ := zc_elim hM
        refine v_callVi (ci := 7) (rest := [(.inr (.inl (43, 0)))]) C (c_X7_brings hX  e9) mw_X7_brings mi_X7_brings ml_RX7_288 hX.symm zm7 rfl rfl ⟨by decide, Nat.le_of_ble_eq_true rfl⟩ rfl (Nat.le_of_ble_eq_true rfl) dX7_begin_63 rfl ?_
        refine v_iconst C (nI 2) dX7_begin_66 zk_2 ?_
        refine v_iadd C dX7_begin_67 ?_
        refine v_iconst C (nI 1) dX7_begin_68 zk_1 ?_
        refine is_43 C hX dX7_begin_69 hM (fun g10 hM => ?_)
        refine v_aload_n C 0 dX7_begin_70 rfl rfl ?_
        refine gf_RX7_53 C hX dX7_begin_71 ?_
        refine v_iload_n C 1 dX7_begin_74 rfl rfl ?_
        refine v_iconst C (nI 3) dX7_begin_75 zk_3 ?_
        obtain ⟨x11, g12, e13, hM⟩ := zc_elim hM
        refine v_callSi (rest := [(.inr (.inl (43, 0)))]) C (c_X7_coreAt hX  e13) mw_X7_coreAt ms_X7_coreAt ml_RX7_244 ⟨by decide, Nat.le_of_ble_eq_true rfl⟩ rfl (Nat.le_of_ble_eq_true rfl) dX7_begin_76 rfl ?_
        refine v_iconst C (nI 1) dX7_begin_79 zk_1 ?_
        refine is_43 C hX dX7_begin_80 hM (fun g14 hM => ?_)
        refine v_goto C 147 dX7_begin_81 rfl ?_
        exact v_weak (t_X7_begin_b147 hX C hr   hM) (show zsub [some (.inr (.inl (7, 0))), some (.inl v1), none] [some (.inr (.inl (7, 0))), some (.inl v1), some (.inl x4)] from ⟨rfl, ⟨rfl, trivial⟩⟩)
      · refine v_aload_n C 0 dX7_begin_48 rfl rfl ?_
        refine v_iload_n C 1 dX7_begin_49 rfl rfl ?_
        obtain ⟨x15, g16, e17, hM⟩ := zc_elim hM
        refine v_callVi (ci := 7) (rest := []) C (c_X7_waits hX  e17) mw_X7_waits mi_X7_waits ml_RX7_281 hX.symm zm7 rfl rfl ⟨by decide, Nat.le_of_ble_eq_true rfl⟩ rfl (Nat.le_of_ble_eq_true rfl) dX7_begin_50 rfl ?_
        exact v_iret2 C hr dX7_begin_53 hM
  · refine v_aload_n C 0 dX7_begin_11 rfl rfl ?_
    refine v_iload_n C 1 dX7_begin_12 rfl rfl ?_
    obtain ⟨x18, g19, e20, hM⟩ := zc_elim hM
    refine v_callVi (ci := 7) (rest := []) C (c_X7_waits hX  e20) mw_X7_waits mi_X7_waits ml_RX7_281 hX.symm zm7 rfl rfl ⟨by decide, Nat.le_of_ble_eq_true rfl⟩ rfl (Nat.le_of_ble_eq_true rfl) dX7_begin_13 rfl ?_
    exact v_iret2 C hr dX7_begin_16 hM

theorem t_X7_touches_b304 {v1 : Int32} {v12 : Int32} {s1 : Int32} {s2 : Int32}  {g : zG} (hX : zfl X = true) (C : Cx X p (zrm 5) s m args meth c cX7_touches 13 RX7 0 0) (hr : meth.sig.returnType = (some .int))   (hM : X7_touches_b304  v1 v12 s1 s2 g = some (rr, gr)) : V X p l e (zrm 5) s m args below meth c 13 0 0 (MQ below (zQ X (Option.map (zM X) (some (.inl rr))) gr) args s 0 0 (zF X)) g 304 [some (.inr (.inl (7, 0))), some (.inl v1), none, none, none, none, none, none, none, none, none, none, some (.inl v12)] [(.inl s2), (.inl s1), (.inr (.inl (43, 0)))] := by
  unfold X7_touches_b304 at hM
  refine is_43 C hX dX7_touches_304 hM (fun g1 hM => ?_)
  refine v_aload_n C 0 dX7_touches_305 rfl rfl ?_
  refine gf_RX7_53 C hX dX7_touches_306 ?_
  refine v_iload C 12 dX7_touches_309 rfl ?_
  refine v_aload_n C 0 dX7_touches_311 rfl rfl ?_
  refine gf_RX7_53 C hX dX7_touches_312 ?_
  refine v_iload_n C 1 dX7_touches_315 rfl rfl ?_
  refine v_iconst C (nI 1) dX7_touches_316 zk_1 ?_
  obtain ⟨x2, g3, e4, hM⟩ := zc_elim hM
  refine v_callSi (rest := [(.inr (.inl (43, 0))), (.inl v12), (.inr (.inl (43, 0)))]) C (c_X7_coreAt hX  e4) mw_X7_coreAt ms_X7_coreAt ml_RX7_244 ⟨by decide, Nat.le_of_ble_eq_true rfl⟩ rfl (Nat.le_of_ble_eq_true rfl) dX7_touches_317 rfl ?_
  refine ia_43 C hX dX7_touches_320 hM (fun hM _ => ?_)
  refine is_43 C hX dX7_touches_321 hM (fun g5 hM => ?_)
  refine v_iconst C (nI 1) dX7_touches_322 zk_1 ?_
  exact v_iret2 C hr dX7_touches_323 hM

theorem t_X7_touches_b278 {v1 : Int32} {v10 : Int32} {v11 : Int32} {v12 : Int32}  {g : zG} (hX : zfl X = true) (C : Cx X p (zrm 5) s m args meth c cX7_touches 13 RX7 0 0) (hr : meth.sig.returnType = (some .int))   (hM : X7_touches_b278  v1 v10 v11 v12 g = some (rr, gr)) : V X p l e (zrm 5) s m args below meth c 13 0 0 (MQ below (zQ X (Option.map (zM X) (some (.inl rr))) gr) args s 0 0 (zF X)) g 278 [some (.inr (.inl (7, 0))), some (.inl v1), none, none, none, none, none, none, none, none, some (.inl v10), some (.inl v11), some (.inl v12)] [] := by
  unfold X7_touches_b278 at hM
  refine v_aload_n C 0 dX7_touches_278 rfl rfl ?_
  refine gf_RX7_53 C hX dX7_touches_279 ?_
  refine v_iload C 10 dX7_touches_282 rfl ?_
  refine v_iconst C (nI 3) dX7_touches_284 zk_3 ?_
  refine v_iadd C dX7_touches_285 ?_
  refine v_iload C 11 dX7_touches_286 rfl ?_
  refine v_if_eq C 295 dX7_touches_288 rfl hM (fun hM => ?_) (fun hM => ?_)
  · refine v_aload_n C 0 dX7_touches_295 rfl rfl ?_
    refine gf_RX7_53 C hX dX7_touches_296 ?_
    refine v_iload C 10 dX7_touches_299 rfl ?_
    refine v_iconst C (nI 3) dX7_touches_301 zk_3 ?_
    refine v_iadd C dX7_touches_302 ?_
    refine ia_43 C hX dX7_touches_303 hM (fun hM _ => ?_)
    exact v_weak (t_X7_touches_b304 hX C hr   hM) (show zsub [some (.inr (.inl (7, 0))), some (.inl v1), none, none, none, none, none, none, none, none, none, none, some (.inl v12)] [some (.inr (.inl (7, 0))), some (.inl v1), none, none, none, none, none, none, none, none, some (.inl v10), some (.inl v11), some (.inl v12)] from ⟨rfl, ⟨rfl, ⟨rfl, trivial⟩⟩⟩)
  · refine v_iconst C (nI 1) dX7_touches_291 zk_1 ?_
    refine v_goto C 304 dX7_touches_292 rfl ?_
    exact v_weak (t_X7_touches_b304 hX C hr   hM) (show zsub [some (.inr (.inl (7, 0))), some (.inl v1), none, none, none, none, none, none, none, none, none, none, some (.inl v12)] [some (.inr (.inl (7, 0))), some (.inl v1), none, none, none, none, none, none, none, none, some (.inl v10), some (.inl v11), some (.inl v12)] from ⟨rfl, ⟨rfl, ⟨rfl, trivial⟩⟩⟩)

theorem t_X7_touches_b242 {v1 : Int32} {v12 : Int32} {s1 : Int32} {s2 : Int32}  {g : zG} (hX : zfl X = true) (C : Cx X p (zrm 5) s m args meth c cX7_touches 13 RX7 0 0) (hr : meth.sig.returnType = (some .int))   (hM : X7_touches_b242  v1 v12 s1 s2 g = some (rr, gr)) : V X p l e (zrm 5) s m args below meth c 13 0 0 (MQ below (zQ X (Option.map (zM X) (some (.inl rr))) gr) args s 0 0 (zF X)) g 242 [some (.inr (.inl (7, 0))), some (.inl v1), none, none, none, none, none, none, none, none, none, none, some (.inl v12)] [(.inl s2), (.inl s1), (.inr (.inl (43, 0)))] := by
  unfold X7_touches_b242 at hM
  refine is_43 C hX dX7_touches_242 hM (fun g1 hM => ?_)
  refine v_aload_n C 0 dX7_touches_243 rfl rfl ?_
  refine gf_RX7_53 C hX dX7_touches_244 ?_
  refine v_iload_n C 1 dX7_touches_247 rfl rfl ?_
  refine v_iconst C (nI 1) dX7_touches_248 zk_1 ?_
  obtain ⟨x2, g3, e4, hM⟩ := zc_elim hM
  refine v_callSi (rest := [(.inr (.inl (43, 0)))]) C (c_X7_coreAt hX  e4) mw_X7_coreAt ms_X7_coreAt ml_RX7_244 ⟨by decide, Nat.le_of_ble_eq_true rfl⟩ rfl (Nat.le_of_ble_eq_true rfl) dX7_touches_249 rfl ?_
  refine v_aload_n C 0 dX7_touches_252 rfl rfl ?_
  refine gf_RX7_53 C hX dX7_touches_253 ?_
  refine v_iload C 12 dX7_touches_256 rfl ?_
  refine ia_43 C hX dX7_touches_258 hM (fun hM _ => ?_)
  refine is_43 C hX dX7_touches_259 hM (fun g5 hM => ?_)
  refine v_iconst C (nI 1) dX7_touches_260 zk_1 ?_
  exact v_iret2 C hr dX7_touches_261 hM

theorem t_X7_touches_b193 {v1 : Int32} {v4 : Int32} {v6 : Int32} {v9 : Int32} {v10 : Int32} {s0 : Int32}  {g : zG} (hX : zfl X = true) (C : Cx X p (zrm 5) s m args meth c cX7_touches 13 RX7 0 0) (hr : meth.sig.returnType = (some .int))   (hM : X7_touches_b193  v1 v4 v6 v9 v10 s0 g = some (rr, gr)) : V X p l e (zrm 5) s m args below meth c 13 0 0 (MQ below (zQ X (Option.map (zM X) (some (.inl rr))) gr) args s 0 0 (zF X)) g 193 [some (.inr (.inl (7, 0))), some (.inl v1), none, none, some (.inl v4), none, some (.inl v6), none, none, some (.inl v9), some (.inl v10), none, none] [(.inl s0)] := by
  unfold X7_touches_b193 at hM
  refine v_istore (L' := [some (.inr (.inl (7, 0))), some (.inl v1), none, none, some (.inl v4), none, some (.inl v6), none, none, some (.inl v9), some (.inl v10), some (.inl s0), none]) C 11 dX7_touches_193 (by decide) rfl ?_
  refine v_iload C 10 dX7_touches_195 rfl ?_
  refine v_iconst C (nI 5) dX7_touches_197 zk_5 ?_
  refine v_iadd C dX7_touches_198 ?_
  refine v_iload C 4 dX7_touches_199 rfl ?_
  refine v_aload_n C 0 dX7_touches_201 rfl rfl ?_
  refine gf_RX7_17 C hX dX7_touches_202 ?_
  refine v_iconst C (nI 2) dX7_touches_205 zk_2 ?_
  refine ia_31 C hX dX7_touches_206 hM (fun hM _ => ?_)
  refine v_irem C dX7_touches_207 hM (fun hM => ?_)
  refine v_iadd C dX7_touches_208 ?_
  refine v_istore (L' := [some (.inr (.inl (7, 0))), some (.inl v1), none, none, some (.inl v4), none, some (.inl v6), none, none, some (.inl v9), some (.inl v10), some (.inl s0), some (.inl ((v10 + (nI 5)) + (v4 - v4 / (g 31 0 (nI 2).toNatClampNeg) * (g 31 0 (nI 2).toNatClampNeg))))]) C 12 dX7_touches_209 (by decide) rfl ?_
  refine v_iload C 6 dX7_touches_211 rfl ?_
  refine v_if_ne C 262 dX7_touches_213 rfl hM (fun hM => ?_) (fun hM => ?_)
  · refine v_iload C 11 dX7_touches_262 rfl ?_
    refine v_if_eq C 278 dX7_touches_264 rfl hM (fun hM => ?_) (fun hM => ?_)
    · exact v_weak (t_X7_touches_b278 hX C hr   hM) (show zsub [some (.inr (.inl (7, 0))), some (.inl v1), none, none, none, none, none, none, none, none, some (.inl v10), some (.inl s0), some (.inl ((v10 + (nI 5)) + (v4 - v4 / (g 31 0 (nI 2).toNatClampNeg) * (g 31 0 (nI 2).toNatClampNeg))))] [some (.inr (.inl (7, 0))), some (.inl v1), none, none, some (.inl v4), none, some (.inl v6), none, none, some (.inl v9), some (.inl v10), some (.inl s0), some (.inl ((v10 + (nI 5)) + (v4 - v4 / (g 31 0 (nI 2).toNatClampNeg) * (g 31 0 (nI 2).toNatClampNeg))))] from ⟨rfl, ⟨rfl, ⟨rfl, ⟨rfl, ⟨rfl, trivial⟩⟩⟩⟩⟩)
    · refine v_iload C 9 dX7_touches_267 rfl ?_
      refine v_if_eq C 278 dX7_touches_269 rfl hM (fun hM => ?_) (fun hM => ?_)
      · exact v_weak (t_X7_touches_b278 hX C hr   hM) (show zsub [some (.inr (.inl (7, 0))), some (.inl v1), none, none, none, none, none, none, none, none, some (.inl v10), some (.inl s0), some (.inl ((v10 + (nI 5)) + (v4 - v4 / (g 31 0 (nI 2).toNatClampNeg) * (g 31 0 (nI 2).toNatClampNeg))))] [some (.inr (.inl (7, 0))), some (.inl v1), none, none, some (.inl v4), none, some (.inl v6), none, none, some (.inl v9), some (.inl v10), some (.inl s0), some (.inl ((v10 + (nI 5)) + (v4 - v4 / (g 31 0 (nI 2).toNatClampNeg) * (g 31 0 (nI 2).toNatClampNeg))))] from ⟨rfl, ⟨rfl, ⟨rfl, ⟨rfl, ⟨rfl, trivial⟩⟩⟩⟩⟩)
      · refine v_aload_n C 0 dX7_touches_272 rfl rfl ?_
        refine v_iload C 10 dX7_touches_273 rfl ?_
        obtain ⟨x1, g2, e3, hM⟩ := zc_elim hM
        refine v_callVv (ci := 7) (rest := []) C (c_X7_writesBack hX  e3) mw_X7_writesBack mi_X7_writesBack ml_RX7_272 hX.symm zm7 rfl rfl ⟨by decide, Nat.le_of_ble_eq_true rfl⟩ rfl (Nat.le_of_ble_eq_true rfl) dX7_touches_275 rfl ?_
        exact v_weak (t_X7_touches_b278 hX C hr   hM) (show zsub [some (.inr (.inl (7, 0))), some (.inl v1), none, none, none, none, none, none, none, none, some (.inl v10), some (.inl s0), some (.inl ((v10 + (nI 5)) + (v4 - v4 / (g 31 0 (nI 2).toNatClampNeg) * (g 31 0 (nI 2).toNatClampNeg))))] [some (.inr (.inl (7, 0))), some (.inl v1), none, none, some (.inl v4), none, some (.inl v6), none, none, some (.inl v9), some (.inl v10), some (.inl s0), some (.inl ((v10 + (nI 5)) + (v4 - v4 / (g 31 0 (nI 2).toNatClampNeg) * (g 31 0 (nI 2).toNatClampNeg))))] from ⟨rfl, ⟨rfl, ⟨rfl, ⟨rfl, ⟨rfl, trivial⟩⟩⟩⟩⟩)
  · refine v_aload_n C 0 dX7_touches_216 rfl rfl ?_
    refine gf_RX7_53 C hX dX7_touches_217 ?_
    refine v_iload C 10 dX7_touches_220 rfl ?_
    refine v_iconst C (nI 2) dX7_touches_222 zk_2 ?_
    refine v_iadd C dX7_touches_223 ?_
    refine v_iload C 11 dX7_touches_224 rfl ?_
    refine v_if_eq C 233 dX7_touches_226 rfl hM (fun hM => ?_) (fun hM => ?_)
    · refine v_aload_n C 0 dX7_touches_233 rfl rfl ?_
      refine gf_RX7_53 C hX dX7_touches_234 ?_
      refine v_iload C 10 dX7_touches_237 rfl ?_
      refine v_iconst C (nI 2) dX7_touches_239 zk_2 ?_
      refine v_iadd C dX7_touches_240 ?_
      refine ia_43 C hX dX7_touches_241 hM (fun hM _ => ?_)
      exact v_weak (t_X7_touches_b242 hX C hr   hM) (show zsub [some (.inr (.inl (7, 0))), some (.inl v1), none, none, none, none, none, none, none, none, none, none, some (.inl ((v10 + (nI 5)) + (v4 - v4 / (g 31 0 (nI 2).toNatClampNeg) * (g 31 0 (nI 2).toNatClampNeg))))] [some (.inr (.inl (7, 0))), some (.inl v1), none, none, some (.inl v4), none, some (.inl v6), none, none, some (.inl v9), some (.inl v10), some (.inl s0), some (.inl ((v10 + (nI 5)) + (v4 - v4 / (g 31 0 (nI 2).toNatClampNeg) * (g 31 0 (nI 2).toNatClampNeg))))] from ⟨rfl, ⟨rfl, ⟨rfl, trivial⟩⟩⟩)
    · refine v_iconst C (nI 1) dX7_touches_229 zk_1 ?_
      refine v_goto C 242 dX7_touches_230 rfl ?_
      exact v_weak (t_X7_touches_b242 hX C hr   hM) (show zsub [some (.inr (.inl (7, 0))), some (.inl v1), none, none, none, none, none, none, none, none, none, none, some (.inl ((v10 + (nI 5)) + (v4 - v4 / (g 31 0 (nI 2).toNatClampNeg) * (g 31 0 (nI 2).toNatClampNeg))))] [some (.inr (.inl (7, 0))), some (.inl v1), none, none, some (.inl v4), none, some (.inl v6), none, none, some (.inl v9), some (.inl v10), some (.inl s0), some (.inl ((v10 + (nI 5)) + (v4 - v4 / (g 31 0 (nI 2).toNatClampNeg) * (g 31 0 (nI 2).toNatClampNeg))))] from ⟨rfl, ⟨rfl, ⟨rfl, trivial⟩⟩⟩)

theorem t_X7_touches_b153 {v1 : Int32} {v4 : Int32} {v5 : Int32} {v6 : Int32} {s0 : Int32}  {g : zG} (hX : zfl X = true) (C : Cx X p (zrm 5) s m args meth c cX7_touches 13 RX7 0 0) (hr : meth.sig.returnType = (some .int))   (hM : X7_touches_b153  v1 v4 v5 v6 s0 g = some (rr, gr)) : V X p l e (zrm 5) s m args below meth c 13 0 0 (MQ below (zQ X (Option.map (zM X) (some (.inl rr))) gr) args s 0 0 (zF X)) g 153 [some (.inr (.inl (7, 0))), some (.inl v1), none, none, some (.inl v4), some (.inl v5), some (.inl v6), none, none, none, none, none, none] [(.inl s0)] := by
  unfold X7_touches_b153 at hM
  refine v_istore (L' := [some (.inr (.inl (7, 0))), some (.inl v1), none, none, some (.inl v4), some (.inl v5), some (.inl v6), none, none, some (.inl s0), none, none, none]) C 9 dX7_touches_153 (by decide) rfl ?_
  refine v_aload_n C 0 dX7_touches_155 rfl rfl ?_
  refine v_iload_n C 1 dX7_touches_156 rfl rfl ?_
  refine v_iload C 5 dX7_touches_157 rfl ?_
  refine v_iload C 6 dX7_touches_159 rfl ?_
  obtain ⟨x1, g2, e3, hM⟩ := zc_elim hM
  refine v_callVi (ci := 7) (rest := []) C (c_X7_brings hX  e3) mw_X7_brings mi_X7_brings ml_RX7_288 hX.symm zm7 rfl rfl ⟨by decide, Nat.le_of_ble_eq_true rfl⟩ rfl (Nat.le_of_ble_eq_true rfl) dX7_touches_161 rfl ?_
  refine v_istore (L' := [some (.inr (.inl (7, 0))), some (.inl v1), none, none, some (.inl v4), some (.inl v5), some (.inl v6), none, none, some (.inl s0), some (.inl x1), none, none]) C 10 dX7_touches_164 (by decide) rfl ?_
  refine v_iload C 10 dX7_touches_166 rfl ?_
  refine v_iconst C (-1) dX7_touches_168 zk_m1 ?_
  refine v_icmp_ne C 174 dX7_touches_169 rfl hM (fun hM => ?_) (fun hM => ?_)
  · refine v_aload_n C 0 dX7_touches_174 rfl rfl ?_
    refine gf_RX7_53 C hX dX7_touches_175 ?_
    refine v_iload_n C 1 dX7_touches_178 rfl rfl ?_
    refine v_iconst C (nI 3) dX7_touches_179 zk_3 ?_
    obtain ⟨x4, g5, e6, hM⟩ := zc_elim hM
    refine v_callSi (rest := [(.inr (.inl (43, 0)))]) C (c_X7_coreAt hX  e6) mw_X7_coreAt ms_X7_coreAt ml_RX7_244 ⟨by decide, Nat.le_of_ble_eq_true rfl⟩ rfl (Nat.le_of_ble_eq_true rfl) dX7_touches_180 rfl ?_
    refine ia_43 C hX dX7_touches_183 hM (fun hM _ => ?_)
    refine v_iconst C (nI 1) dX7_touches_184 zk_1 ?_
    refine v_icmp_ne C 192 dX7_touches_185 rfl hM (fun hM => ?_) (fun hM => ?_)
    · refine v_iconst C (nI 0) dX7_touches_192 zk_0 ?_
      exact v_weak (t_X7_touches_b193 hX C hr   hM) (show zsub [some (.inr (.inl (7, 0))), some (.inl v1), none, none, some (.inl v4), none, some (.inl v6), none, none, some (.inl s0), some (.inl x1), none, none] [some (.inr (.inl (7, 0))), some (.inl v1), none, none, some (.inl v4), some (.inl v5), some (.inl v6), none, none, some (.inl s0), some (.inl x1), none, none] from ⟨rfl, ⟨rfl, ⟨rfl, ⟨rfl, ⟨rfl, ⟨rfl, trivial⟩⟩⟩⟩⟩⟩)
    · refine v_iconst C (nI 1) dX7_touches_188 zk_1 ?_
      refine v_goto C 193 dX7_touches_189 rfl ?_
      exact v_weak (t_X7_touches_b193 hX C hr   hM) (show zsub [some (.inr (.inl (7, 0))), some (.inl v1), none, none, some (.inl v4), none, some (.inl v6), none, none, some (.inl s0), some (.inl x1), none, none] [some (.inr (.inl (7, 0))), some (.inl v1), none, none, some (.inl v4), some (.inl v5), some (.inl v6), none, none, some (.inl s0), some (.inl x1), none, none] from ⟨rfl, ⟨rfl, ⟨rfl, ⟨rfl, ⟨rfl, ⟨rfl, trivial⟩⟩⟩⟩⟩⟩)
  · refine v_iconst C (nI 3) dX7_touches_172 zk_3 ?_
    exact v_iret2 C hr dX7_touches_173 hM

theorem t_X7_touches_b152 {v1 : Int32} {v4 : Int32} {v5 : Int32} {v6 : Int32}  {g : zG} (hX : zfl X = true) (C : Cx X p (zrm 5) s m args meth c cX7_touches 13 RX7 0 0) (hr : meth.sig.returnType = (some .int))   (hM : X7_touches_b152  v1 v4 v5 v6 g = some (rr, gr)) : V X p l e (zrm 5) s m args below meth c 13 0 0 (MQ below (zQ X (Option.map (zM X) (some (.inl rr))) gr) args s 0 0 (zF X)) g 152 [some (.inr (.inl (7, 0))), some (.inl v1), none, none, some (.inl v4), some (.inl v5), some (.inl v6), none, none, none, none, none, none] [] := by
  unfold X7_touches_b152 at hM
  refine v_iconst C (nI 0) dX7_touches_152 zk_0 ?_
  exact t_X7_touches_b153 hX C hr   hM

theorem t_X7_touches_b72 {v1 : Int32} {v4 : Int32} {v5 : Int32} {s0 : Int32}  {g : zG} (hX : zfl X = true) (C : Cx X p (zrm 5) s m args meth c cX7_touches 13 RX7 0 0) (hr : meth.sig.returnType = (some .int))   (hM : X7_touches_b72  v1 v4 v5 s0 g = some (rr, gr)) : V X p l e (zrm 5) s m args below meth c 13 0 0 (MQ below (zQ X (Option.map (zM X) (some (.inl rr))) gr) args s 0 0 (zF X)) g 72 [some (.inr (.inl (7, 0))), some (.inl v1), none, none, some (.inl v4), some (.inl v5), none, none, none, none, none, none, none] [(.inl s0)] := by
  unfold X7_touches_b72 at hM
  refine v_istore (L' := [some (.inr (.inl (7, 0))), some (.inl v1), none, none, some (.inl v4), some (.inl v5), some (.inl s0), none, none, none, none, none, none]) C 6 dX7_touches_72 (by decide) rfl ?_
  refine v_aload_n C 0 dX7_touches_74 rfl rfl ?_
  refine v_iload_n C 1 dX7_touches_75 rfl rfl ?_
  refine v_iload C 5 dX7_touches_76 rfl ?_
  refine v_iload C 6 dX7_touches_78 rfl ?_
  obtain ⟨x1, g2, e3, hM⟩ := zc_elim hM
  refine v_callVi (ci := 7) (rest := []) C (c_X7_decides hX  e3) mw_X7_decides mi_X7_decides ml_RX7_284 hX.symm zm7 rfl rfl ⟨by decide, Nat.le_of_ble_eq_true rfl⟩ rfl (Nat.le_of_ble_eq_true rfl) dX7_touches_80 rfl ?_
  refine v_istore (L' := [some (.inr (.inl (7, 0))), some (.inl v1), none, none, some (.inl v4), some (.inl v5), some (.inl s0), some (.inl x1), none, none, none, none, none]) C 7 dX7_touches_83 (by decide) rfl ?_
  refine v_iload C 7 dX7_touches_85 rfl ?_
  refine v_iconst C (nI 1) dX7_touches_87 zk_1 ?_
  refine v_icmp_eq C 108 dX7_touches_88 rfl hM (fun hM => ?_) (fun hM => ?_)
  · refine v_aload_n C 0 dX7_touches_108 rfl rfl ?_
    refine v_iload_n C 1 dX7_touches_109 rfl rfl ?_
    refine v_iload C 5 dX7_touches_110 rfl ?_
    obtain ⟨x4, g5, e6, hM⟩ := zc_elim hM
    refine v_callVi (ci := 7) (rest := []) C (c_X7_find hX  e6) mw_X7_find mi_X7_find ml_RX7_257 hX.symm zm7 rfl rfl ⟨by decide, Nat.le_of_ble_eq_true rfl⟩ rfl (Nat.le_of_ble_eq_true rfl) dX7_touches_112 rfl ?_
    refine v_istore (L' := [some (.inr (.inl (7, 0))), some (.inl v1), none, none, some (.inl v4), some (.inl v5), some (.inl s0), some (.inl x1), some (.inl x4), none, none, none, none]) C 8 dX7_touches_115 (by decide) rfl ?_
    refine v_iload C 8 dX7_touches_117 rfl ?_
    refine v_iconst C (-1) dX7_touches_119 zk_m1 ?_
    refine v_icmp_eq C 152 dX7_touches_120 rfl hM (fun hM => ?_) (fun hM => ?_)
    · exact v_weak (t_X7_touches_b152 hX C hr   hM) (show zsub [some (.inr (.inl (7, 0))), some (.inl v1), none, none, some (.inl v4), some (.inl v5), some (.inl s0), none, none, none, none, none, none] [some (.inr (.inl (7, 0))), some (.inl v1), none, none, some (.inl v4), some (.inl v5), some (.inl s0), some (.inl x1), some (.inl x4), none, none, none, none] from ⟨rfl, ⟨rfl, ⟨rfl, ⟨rfl, ⟨rfl, trivial⟩⟩⟩⟩⟩)
    · refine v_aload_n C 0 dX7_touches_123 rfl rfl ?_
      refine gf_RX7_53 C hX dX7_touches_124 ?_
      refine v_iload C 8 dX7_touches_127 rfl ?_
      refine v_iconst C (nI 1) dX7_touches_129 zk_1 ?_
      refine v_iadd C dX7_touches_130 ?_
      refine ia_43 C hX dX7_touches_131 hM (fun hM _ => ?_)
      refine v_iconst C (nI 3) dX7_touches_132 zk_3 ?_
      refine v_icmp_ne C 152 dX7_touches_133 rfl hM (fun hM => ?_) (fun hM => ?_)
      · exact v_weak (t_X7_touches_b152 hX C hr   hM) (show zsub [some (.inr (.inl (7, 0))), some (.inl v1), none, none, some (.inl v4), some (.inl v5), some (.inl s0), none, none, none, none, none, none] [some (.inr (.inl (7, 0))), some (.inl v1), none, none, some (.inl v4), some (.inl v5), some (.inl s0), some (.inl x1), some (.inl x4), none, none, none, none] from ⟨rfl, ⟨rfl, ⟨rfl, ⟨rfl, ⟨rfl, trivial⟩⟩⟩⟩⟩)
      · refine v_aload_n C 0 dX7_touches_136 rfl rfl ?_
        refine gf_RX7_53 C hX dX7_touches_137 ?_
        refine v_iload C 8 dX7_touches_140 rfl ?_
        refine v_iconst C (nI 3) dX7_touches_142 zk_3 ?_
        refine v_iadd C dX7_touches_143 ?_
        refine ia_43 C hX dX7_touches_144 hM (fun hM _ => ?_)
        refine v_if_ne C 152 dX7_touches_145 rfl hM (fun hM => ?_) (fun hM => ?_)
        · exact v_weak (t_X7_touches_b152 hX C hr   hM) (show zsub [some (.inr (.inl (7, 0))), some (.inl v1), none, none, some (.inl v4), some (.inl v5), some (.inl s0), none, none, none, none, none, none] [some (.inr (.inl (7, 0))), some (.inl v1), none, none, some (.inl v4), some (.inl v5), some (.inl s0), some (.inl x1), some (.inl x4), none, none, none, none] from ⟨rfl, ⟨rfl, ⟨rfl, ⟨rfl, ⟨rfl, trivial⟩⟩⟩⟩⟩)
        · refine v_iconst C (nI 1) dX7_touches_148 zk_1 ?_
          refine v_goto C 153 dX7_touches_149 rfl ?_
          exact v_weak (t_X7_touches_b153 hX C hr   hM) (show zsub [some (.inr (.inl (7, 0))), some (.inl v1), none, none, some (.inl v4), some (.inl v5), some (.inl s0), none, none, none, none, none, none] [some (.inr (.inl (7, 0))), some (.inl v1), none, none, some (.inl v4), some (.inl v5), some (.inl s0), some (.inl x1), some (.inl x4), none, none, none, none] from ⟨rfl, ⟨rfl, ⟨rfl, ⟨rfl, ⟨rfl, trivial⟩⟩⟩⟩⟩)
  · refine v_iload C 7 dX7_touches_91 rfl ?_
    refine v_iconst C (nI 2) dX7_touches_93 zk_2 ?_
    refine v_icmp_ne C 105 dX7_touches_94 rfl hM (fun hM => ?_) (fun hM => ?_)
    · refine v_iload C 7 dX7_touches_105 rfl ?_
      exact v_iret2 C hr dX7_touches_107 hM
    · refine v_aload_n C 0 dX7_touches_97 rfl rfl ?_
      refine v_iload_n C 1 dX7_touches_98 rfl rfl ?_
      obtain ⟨x7, g8, e9, hM⟩ := zc_elim hM
      refine v_callVi (ci := 7) (rest := []) C (c_X7_waits hX  e9) mw_X7_waits mi_X7_waits ml_RX7_281 hX.symm zm7 rfl rfl ⟨by decide, Nat.le_of_ble_eq_true rfl⟩ rfl (Nat.le_of_ble_eq_true rfl) dX7_touches_99 rfl ?_
      refine v_goto C 107 dX7_touches_102 rfl ?_
      exact v_iret2 C hr dX7_touches_107 hM

theorem t_X7_touches_b41 {v1 : Int32} {v2 : Int32} {v3 : Int32} {s0 : Int32} {s1 : Int32}  {g : zG} (hX : zfl X = true) (C : Cx X p (zrm 5) s m args meth c cX7_touches 13 RX7 0 0) (hr : meth.sig.returnType = (some .int))   (hM : X7_touches_b41  v1 v2 v3 s0 s1 g = some (rr, gr)) : V X p l e (zrm 5) s m args below meth c 13 0 0 (MQ below (zQ X (Option.map (zM X) (some (.inl rr))) gr) args s 0 0 (zF X)) g 41 [some (.inr (.inl (7, 0))), some (.inl v1), some (.inl v2), some (.inl v3), none, none, none, none, none, none, none, none, none] [(.inl s1), (.inl s0)] := by
  unfold X7_touches_b41 at hM
  refine v_iadd C dX7_touches_41 ?_
  refine v_iload_n C 3 dX7_touches_42 rfl rfl ?_
  refine v_irem C dX7_touches_43 hM (fun hM => ?_)
  refine v_istore (L' := [some (.inr (.inl (7, 0))), some (.inl v1), some (.inl v2), some (.inl v3), some (.inl ((s0 + s1) - (s0 + s1) / v3 * v3)), none, none, none, none, none, none, none, none]) C 4 dX7_touches_44 (by decide) rfl ?_
  refine v_iload C 4 dX7_touches_46 rfl ?_
  refine v_aload_n C 0 dX7_touches_48 rfl rfl ?_
  refine gf_RX7_17 C hX dX7_touches_49 ?_
  refine v_iconst C (nI 2) dX7_touches_52 zk_2 ?_
  refine ia_31 C hX dX7_touches_53 hM (fun hM _ => ?_)
  refine v_idiv C dX7_touches_54 hM (fun hM => ?_)
  refine v_istore (L' := [some (.inr (.inl (7, 0))), some (.inl v1), some (.inl v2), some (.inl v3), some (.inl ((s0 + s1) - (s0 + s1) / v3 * v3)), some (.inl (((s0 + s1) - (s0 + s1) / v3 * v3) / (g 31 0 (nI 2).toNatClampNeg))), none, none, none, none, none, none, none]) C 5 dX7_touches_55 (by decide) rfl ?_
  refine v_aload_n C 0 dX7_touches_57 rfl rfl ?_
  refine gf_RX7_35 C hX dX7_touches_58 ?_
  refine v_iload_n C 2 dX7_touches_61 rfl rfl ?_
  refine ia_37 C hX dX7_touches_62 hM (fun hM _ => ?_)
  refine v_iconst C (nI 4) dX7_touches_63 zk_4 ?_
  refine v_icmp_ne C 71 dX7_touches_64 rfl hM (fun hM => ?_) (fun hM => ?_)
  · refine v_iconst C (nI 0) dX7_touches_71 zk_0 ?_
    exact v_weak (t_X7_touches_b72 hX C hr   hM) (show zsub [some (.inr (.inl (7, 0))), some (.inl v1), none, none, some (.inl ((s0 + s1) - (s0 + s1) / v3 * v3)), some (.inl (((s0 + s1) - (s0 + s1) / v3 * v3) / (g 31 0 (nI 2).toNatClampNeg))), none, none, none, none, none, none, none] [some (.inr (.inl (7, 0))), some (.inl v1), some (.inl v2), some (.inl v3), some (.inl ((s0 + s1) - (s0 + s1) / v3 * v3)), some (.inl (((s0 + s1) - (s0 + s1) / v3 * v3) / (g 31 0 (nI 2).toNatClampNeg))), none, none, none, none, none, none, none] from ⟨rfl, ⟨rfl, ⟨rfl, ⟨rfl, trivial⟩⟩⟩⟩)
  · refine v_iconst C (nI 1) dX7_touches_67 zk_1 ?_
    refine v_goto C 72 dX7_touches_68 rfl ?_
    exact v_weak (t_X7_touches_b72 hX C hr   hM) (show zsub [some (.inr (.inl (7, 0))), some (.inl v1), none, none, some (.inl ((s0 + s1) - (s0 + s1) / v3 * v3)), some (.inl (((s0 + s1) - (s0 + s1) / v3 * v3) / (g 31 0 (nI 2).toNatClampNeg))), none, none, none, none, none, none, none] [some (.inr (.inl (7, 0))), some (.inl v1), some (.inl v2), some (.inl v3), some (.inl ((s0 + s1) - (s0 + s1) / v3 * v3)), some (.inl (((s0 + s1) - (s0 + s1) / v3 * v3) / (g 31 0 (nI 2).toNatClampNeg))), none, none, none, none, none, none, none] from ⟨rfl, ⟨rfl, ⟨rfl, ⟨rfl, trivial⟩⟩⟩⟩)

theorem c_X7_touches {X : zX} (hX : zfl X = true) {v1 : Int32} {v2 : Int32} {g gr : zG} {rr : Int32}  (hM : X7_touches v1 v2 g = some (rr, gr)) : MC X yX7_touches cX7_touches 13 (some .int) 5 [.inr (.inl (7, 0)), .inl v1, .inl v2] (some (.inl rr)) g gr := by
  refine MC.mk (own := RX7) (L := [some (.inr (.inl (7, 0))), some (.inl v1), some (.inl v2), none, none, none, none, none, none, none, none, none, none]) (by decide) rfl trivial (Nat.le_of_ble_eq_true rfl) rfl ?_
  intro p l e s m args below meth c C hr
  unfold X7_touches at hM
  refine v_aload_n C 0 dX7_touches_0 rfl rfl ?_
  refine v_aload_n C 0 dX7_touches_1 rfl rfl ?_
  refine gf_RX7_17 C hX dX7_touches_2 ?_
  refine v_iconst C (nI 2) dX7_touches_5 zk_2 ?_
  refine ia_31 C hX dX7_touches_6 hM (fun hM _ => ?_)
  obtain ⟨x1, g2, e3, hM⟩ := zc_elim hM
  refine v_callVi (ci := 7) (rest := []) C (c_X7_addresses hX  e3) mw_X7_addresses mi_X7_addresses ml_RX7_165 hX.symm zm7 rfl rfl ⟨by decide, Nat.le_of_ble_eq_true rfl⟩ rfl (Nat.le_of_ble_eq_true rfl) dX7_touches_7 rfl ?_
  refine v_istore_n (L' := [some (.inr (.inl (7, 0))), some (.inl v1), some (.inl v2), some (.inl x1), none, none, none, none, none, none, none, none, none]) C 3 dX7_touches_10 rfl (by decide) rfl ?_
  refine v_aload_n C 0 dX7_touches_11 rfl rfl ?_
  refine gf_RX7_41 C hX dX7_touches_12 ?_
  refine v_iload_n C 2 dX7_touches_15 rfl rfl ?_
  refine ia_39 C hX dX7_touches_16 hM (fun hM _ => ?_)
  refine v_aload_n C 0 dX7_touches_17 rfl rfl ?_
  refine gf_RX7_47 C hX dX7_touches_18 ?_
  refine v_iload_n C 2 dX7_touches_21 rfl rfl ?_
  refine ia_41 C hX dX7_touches_22 hM (fun hM _ => ?_)
  refine v_iconst C (nI 1) dX7_touches_23 zk_1 ?_
  refine v_icmp_ne C 40 dX7_touches_24 rfl hM (fun hM => ?_) (fun hM => ?_)
  · refine v_iconst C (nI 0) dX7_touches_40 zk_0 ?_
    exact t_X7_touches_b41 hX C hr   hM
  · refine v_aload_n C 0 dX7_touches_27 rfl rfl ?_
    refine gf_RX7_53 C hX dX7_touches_28 ?_
    refine v_iload_n C 1 dX7_touches_31 rfl rfl ?_
    refine v_iconst C (nI 2) dX7_touches_32 zk_2 ?_
    obtain ⟨x4, g5, e6, hM⟩ := zc_elim hM
    refine v_callSi (rest := [(.inr (.inl (43, 0))), (.inl (g2 39 0 v2.toNatClampNeg))]) C (c_X7_coreAt hX  e6) mw_X7_coreAt ms_X7_coreAt ml_RX7_244 ⟨by decide, Nat.le_of_ble_eq_true rfl⟩ rfl (Nat.le_of_ble_eq_true rfl) dX7_touches_33 rfl ?_
    refine ia_43 C hX dX7_touches_36 hM (fun hM _ => ?_)
    refine v_goto C 41 dX7_touches_37 rfl ?_
    exact t_X7_touches_b41 hX C hr   hM

theorem t_X7_commits_l14 {k2 : Int32 → Int32 → zG → Option (Int32 × zG)} (hX : zfl X = true) (C : Cx X p (zrm 1) s m args meth c cX7_commits 4 RX7 0 0) (hr : meth.sig.returnType = none) (hk2 : ∀ (v1 : Int32) (v2 : Int32) (g : zG),  k2 v1 v2 g = some (rr, gr) → V X p l e (zrm 1) s m args below meth c 4 0 0 (MQ below (zQ X (Option.map (zM X) none) gr) args s 0 0 (zF X)) g 2 [some (.inr (.inl (7, 0))), some (.inl v1), some (.inl v2), none] []) : ∀ (n : Nat) {v1 : Int32} {v2 : Int32} {v3 : Int32} (g : zG), X7_commits_l14 k2 n v1 v2 v3 g = some (rr, gr) → V X p l e (zrm 1) s m args below meth c 4 0 0 (MQ below (zQ X (Option.map (zM X) none) gr) args s 0 0 (zF X)) g 14 [some (.inr (.inl (7, 0))), some (.inl v1), some (.inl v2), some (.inl v3)] [] := by
  intro n
  induction n with
  | zero =>
    intro v1 v2 v3 g  hM
    exact absurd (show (none : Option (Int32 × zG)) = some (rr, gr) from hM) (by simp)
  | succ n ih =>
    intro v1 v2 v3 g  hM
    rw [X7_commits_l14.eq_2] at hM
    refine v_iload_n C 3 dX7_commits_14 rfl rfl ?_
    refine v_aload_n C 0 dX7_commits_15 rfl rfl ?_
    refine gf_RX7_242 C hX dX7_commits_16 ?_
    refine v_icmp_ge C 56 dX7_commits_19 rfl hM (fun hM => ?_) (fun hM => ?_)
    · refine v_iinc (L' := [some (.inr (.inl (7, 0))), some (.inl v1), some (.inl (v2 + (nI 1))), some (.inl v3)]) C 2 (nI 1) dX7_commits_56 zk_1 (by decide) rfl rfl ?_
      refine v_goto C 2 dX7_commits_59 rfl ?_
      exact v_weak (hk2 v1 (v2 + (nI 1)) g  hM) (show zsub [some (.inr (.inl (7, 0))), some (.inl v1), some (.inl (v2 + (nI 1))), none] [some (.inr (.inl (7, 0))), some (.inl v1), some (.inl (v2 + (nI 1))), some (.inl v3)] from ⟨rfl, ⟨rfl, ⟨rfl, trivial⟩⟩⟩)
    · refine v_aload_n C 0 dX7_commits_22 rfl rfl ?_
      refine gf_RX7_53 C hX dX7_commits_23 ?_
      refine v_iload_n C 1 dX7_commits_26 rfl rfl ?_
      refine v_iload_n C 2 dX7_commits_27 rfl rfl ?_
      refine v_iload_n C 3 dX7_commits_28 rfl rfl ?_
      obtain ⟨x1, g2, e3, hM⟩ := zc_elim hM
      refine v_callSi (rest := [(.inr (.inl (43, 0)))]) C (c_X7_placeAt hX  e3) mw_X7_placeAt ms_X7_placeAt ml_RX7_247 ⟨by decide, Nat.le_of_ble_eq_true rfl⟩ rfl (Nat.le_of_ble_eq_true rfl) dX7_commits_29 rfl ?_
      refine v_iconst C (nI 2) dX7_commits_32 zk_2 ?_
      refine v_iadd C dX7_commits_33 ?_
      refine v_iconst C (nI 0) dX7_commits_34 zk_0 ?_
      refine is_43 C hX dX7_commits_35 hM (fun g4 hM => ?_)
      refine v_aload_n C 0 dX7_commits_36 rfl rfl ?_
      refine gf_RX7_53 C hX dX7_commits_37 ?_
      refine v_iload_n C 1 dX7_commits_40 rfl rfl ?_
      refine v_iload_n C 2 dX7_commits_41 rfl rfl ?_
      refine v_iload_n C 3 dX7_commits_42 rfl rfl ?_
      obtain ⟨x5, g6, e7, hM⟩ := zc_elim hM
      refine v_callSi (rest := [(.inr (.inl (43, 0)))]) C (c_X7_placeAt hX  e7) mw_X7_placeAt ms_X7_placeAt ml_RX7_247 ⟨by decide, Nat.le_of_ble_eq_true rfl⟩ rfl (Nat.le_of_ble_eq_true rfl) dX7_commits_43 rfl ?_
      refine v_iconst C (nI 3) dX7_commits_46 zk_3 ?_
      refine v_iadd C dX7_commits_47 ?_
      refine v_iconst C (nI 0) dX7_commits_48 zk_0 ?_
      refine is_43 C hX dX7_commits_49 hM (fun g8 hM => ?_)
      refine v_iinc (L' := [some (.inr (.inl (7, 0))), some (.inl v1), some (.inl v2), some (.inl (v3 + (nI 1)))]) C 3 (nI 1) dX7_commits_50 zk_1 (by decide) rfl rfl ?_
      refine v_goto C 14 dX7_commits_53 rfl ?_
      exact ih g8  hM

theorem t_X7_commits_l2 {k81 : Int32 → Int32 → zG → Option (Int32 × zG)} (hX : zfl X = true) (C : Cx X p (zrm 1) s m args meth c cX7_commits 4 RX7 0 0) (hr : meth.sig.returnType = none) (hk81 : ∀ (v1 : Int32) (s0 : Int32) (g : zG),  k81 v1 s0 g = some (rr, gr) → V X p l e (zrm 1) s m args below meth c 4 0 0 (MQ below (zQ X (Option.map (zM X) none) gr) args s 0 0 (zF X)) g 81 [some (.inr (.inl (7, 0))), some (.inl v1), none, none] [(.inl s0)]) : ∀ (n : Nat) {v1 : Int32} {v2 : Int32} (g : zG), X7_commits_l2 k81 n v1 v2 g = some (rr, gr) → V X p l e (zrm 1) s m args below meth c 4 0 0 (MQ below (zQ X (Option.map (zM X) none) gr) args s 0 0 (zF X)) g 2 [some (.inr (.inl (7, 0))), some (.inl v1), some (.inl v2), none] [] := by
  intro n
  induction n with
  | zero =>
    intro v1 v2 g  hM
    exact absurd (show (none : Option (Int32 × zG)) = some (rr, gr) from hM) (by simp)
  | succ n ih =>
    intro v1 v2 g  hM
    rw [X7_commits_l2.eq_2] at hM
    refine v_iload_n C 2 dX7_commits_2 rfl rfl ?_
    refine v_aload_n C 0 dX7_commits_3 rfl rfl ?_
    refine gf_RX7_17 C hX dX7_commits_4 ?_
    refine v_iconst C (nI 0) dX7_commits_7 zk_0 ?_
    refine ia_31 C hX dX7_commits_8 hM (fun hM _ => ?_)
    refine v_icmp_ge C 62 dX7_commits_9 rfl hM (fun hM => ?_) (fun hM => ?_)
    · refine v_aload_n C 0 dX7_commits_62 rfl rfl ?_
      refine gf_RX7_53 C hX dX7_commits_63 ?_
      refine v_iload_n C 1 dX7_commits_66 rfl rfl ?_
      refine v_iconst C (nI 3) dX7_commits_67 zk_3 ?_
      obtain ⟨x1, g2, e3, hM⟩ := zc_elim hM
      refine v_callSi (rest := [(.inr (.inl (43, 0)))]) C (c_X7_coreAt hX  e3) mw_X7_coreAt ms_X7_coreAt ml_RX7_244 ⟨by decide, Nat.le_of_ble_eq_true rfl⟩ rfl (Nat.le_of_ble_eq_true rfl) dX7_commits_68 rfl ?_
      refine ia_43 C hX dX7_commits_71 hM (fun hM _ => ?_)
      refine v_iconst C (nI 2) dX7_commits_72 zk_2 ?_
      refine v_icmp_ne C 80 dX7_commits_73 rfl hM (fun hM => ?_) (fun hM => ?_)
      · refine v_iconst C (nI 0) dX7_commits_80 zk_0 ?_
        exact v_weak (hk81 v1 (nI 0) g2  hM) (show zsub [some (.inr (.inl (7, 0))), some (.inl v1), none, none] [some (.inr (.inl (7, 0))), some (.inl v1), some (.inl v2), none] from ⟨rfl, ⟨rfl, trivial⟩⟩)
      · refine v_iconst C (nI 1) dX7_commits_76 zk_1 ?_
        refine v_goto C 81 dX7_commits_77 rfl ?_
        exact v_weak (hk81 v1 (nI 1) g2  hM) (show zsub [some (.inr (.inl (7, 0))), some (.inl v1), none, none] [some (.inr (.inl (7, 0))), some (.inl v1), some (.inl v2), none] from ⟨rfl, ⟨rfl, trivial⟩⟩)
    · refine v_iconst C (nI 0) dX7_commits_12 zk_0 ?_
      refine v_istore_n (L' := [some (.inr (.inl (7, 0))), some (.inl v1), some (.inl v2), some (.inl (nI 0))]) C 3 dX7_commits_13 rfl (by decide) rfl ?_
      exact t_X7_commits_l14 hX C hr (fun v1 v2 g  hM => ih g  hM) _ g  hM

theorem t_X7_commits_b177 {v1 : Int32} {s1 : Int32} {s2 : Int32}  {g : zG} (hX : zfl X = true) (C : Cx X p (zrm 1) s m args meth c cX7_commits 4 RX7 0 0) (hr : meth.sig.returnType = none)   (hM : X7_commits_b177  v1 s1 s2 g = some (rr, gr)) : V X p l e (zrm 1) s m args below meth c 4 0 0 (MQ below (zQ X (Option.map (zM X) none) gr) args s 0 0 (zF X)) g 177 [some (.inr (.inl (7, 0))), some (.inl v1), none, none] [(.inl s2), (.inl s1), (.inr (.inl (43, 0)))] := by
  unfold X7_commits_b177 at hM
  refine is_43 C hX dX7_commits_177 hM (fun g1 hM => ?_)
  refine v_aload_n C 0 dX7_commits_178 rfl rfl ?_
  refine gf_RX7_53 C hX dX7_commits_179 ?_
  refine v_iconst C (nI 4) dX7_commits_182 zk_4 ?_
  refine v_dup2 C dX7_commits_183 ?_
  refine ia_43 C hX dX7_commits_184 hM (fun hM _ => ?_)
  refine v_iconst C (nI 1) dX7_commits_185 zk_1 ?_
  refine v_iadd C dX7_commits_186 ?_
  refine is_43 C hX dX7_commits_187 hM (fun g2 hM => ?_)
  refine v_aload_n C 0 dX7_commits_188 rfl rfl ?_
  refine gf_RX7_53 C hX dX7_commits_189 ?_
  refine v_iload_n C 1 dX7_commits_192 rfl rfl ?_
  refine v_bipush C (nI 11) dX7_commits_193 zkb_11 ?_
  obtain ⟨x3, g4, e5, hM⟩ := zc_elim hM
  refine v_callSi (rest := [(.inr (.inl (43, 0)))]) C (c_X7_coreAt hX  e5) mw_X7_coreAt ms_X7_coreAt ml_RX7_244 ⟨by decide, Nat.le_of_ble_eq_true rfl⟩ rfl (Nat.le_of_ble_eq_true rfl) dX7_commits_195 rfl ?_
  refine v_dup2 C dX7_commits_198 ?_
  refine ia_43 C hX dX7_commits_199 hM (fun hM _ => ?_)
  refine v_iconst C (nI 1) dX7_commits_200 zk_1 ?_
  refine v_iadd C dX7_commits_201 ?_
  refine is_43 C hX dX7_commits_202 hM (fun g6 hM => ?_)
  refine v_aload_n C 0 dX7_commits_203 rfl rfl ?_
  refine gf_RX7_53 C hX dX7_commits_204 ?_
  refine v_iload_n C 1 dX7_commits_207 rfl rfl ?_
  refine v_iconst C (nI 4) dX7_commits_208 zk_4 ?_
  obtain ⟨x7, g8, e9, hM⟩ := zc_elim hM
  refine v_callSi (rest := [(.inr (.inl (43, 0)))]) C (c_X7_coreAt hX  e9) mw_X7_coreAt ms_X7_coreAt ml_RX7_244 ⟨by decide, Nat.le_of_ble_eq_true rfl⟩ rfl (Nat.le_of_ble_eq_true rfl) dX7_commits_209 rfl ?_
  refine v_iconst C (nI 0) dX7_commits_212 zk_0 ?_
  refine is_43 C hX dX7_commits_213 hM (fun g10 hM => ?_)
  refine v_aload_n C 0 dX7_commits_214 rfl rfl ?_
  refine gf_RX7_53 C hX dX7_commits_215 ?_
  refine v_iload_n C 1 dX7_commits_218 rfl rfl ?_
  refine v_iconst C (nI 5) dX7_commits_219 zk_5 ?_
  obtain ⟨x11, g12, e13, hM⟩ := zc_elim hM
  refine v_callSi (rest := [(.inr (.inl (43, 0)))]) C (c_X7_coreAt hX  e13) mw_X7_coreAt ms_X7_coreAt ml_RX7_244 ⟨by decide, Nat.le_of_ble_eq_true rfl⟩ rfl (Nat.le_of_ble_eq_true rfl) dX7_commits_220 rfl ?_
  refine v_bipush C (-2) dX7_commits_223 zkb_m2 ?_
  refine is_43 C hX dX7_commits_225 hM (fun g14 hM => ?_)
  refine v_aload_n C 0 dX7_commits_226 rfl rfl ?_
  refine gf_RX7_53 C hX dX7_commits_227 ?_
  refine v_iload_n C 1 dX7_commits_230 rfl rfl ?_
  refine v_iconst C (nI 3) dX7_commits_231 zk_3 ?_
  obtain ⟨x15, g16, e17, hM⟩ := zc_elim hM
  refine v_callSi (rest := [(.inr (.inl (43, 0)))]) C (c_X7_coreAt hX  e17) mw_X7_coreAt ms_X7_coreAt ml_RX7_244 ⟨by decide, Nat.le_of_ble_eq_true rfl⟩ rfl (Nat.le_of_ble_eq_true rfl) dX7_commits_232 rfl ?_
  refine v_iconst C (nI 0) dX7_commits_235 zk_0 ?_
  refine is_43 C hX dX7_commits_236 hM (fun g18 hM => ?_)
  exact v_vret2 C hr dX7_commits_237 hM

theorem t_X7_commits_b109 {v1 : Int32} {v2 : Int32}  {g : zG} (hX : zfl X = true) (C : Cx X p (zrm 1) s m args meth c cX7_commits 4 RX7 0 0) (hr : meth.sig.returnType = none)   (hM : X7_commits_b109  v1 v2 g = some (rr, gr)) : V X p l e (zrm 1) s m args below meth c 4 0 0 (MQ below (zQ X (Option.map (zM X) none) gr) args s 0 0 (zF X)) g 109 [some (.inr (.inl (7, 0))), some (.inl v1), some (.inl v2), none] [] := by
  unfold X7_commits_b109 at hM
  refine v_bipush C (nI 62) dX7_commits_109 zkb_62 ?_
  refine v_iconst C (nI 4) dX7_commits_111 zk_4 ?_
  refine v_aload_n C 0 dX7_commits_112 rfl rfl ?_
  refine gf_RX7_53 C hX dX7_commits_113 ?_
  refine v_iconst C (nI 4) dX7_commits_116 zk_4 ?_
  refine ia_43 C hX dX7_commits_117 hM (fun hM _ => ?_)
  refine v_imul C dX7_commits_118 ?_
  refine v_iadd C dX7_commits_119 ?_
  refine v_istore_n (L' := [some (.inr (.inl (7, 0))), some (.inl v1), some (.inl v2), some (.inl ((nI 62) + ((nI 4) * (g 43 0 (nI 4).toNatClampNeg))))]) C 3 dX7_commits_120 rfl (by decide) rfl ?_
  refine v_aload_n C 0 dX7_commits_121 rfl rfl ?_
  refine gf_RX7_53 C hX dX7_commits_122 ?_
  refine v_iload_n C 3 dX7_commits_125 rfl rfl ?_
  refine v_iload_n C 1 dX7_commits_126 rfl rfl ?_
  refine is_43 C hX dX7_commits_127 hM (fun g1 hM => ?_)
  refine v_aload_n C 0 dX7_commits_128 rfl rfl ?_
  refine gf_RX7_53 C hX dX7_commits_129 ?_
  refine v_iload_n C 3 dX7_commits_132 rfl rfl ?_
  refine v_iconst C (nI 1) dX7_commits_133 zk_1 ?_
  refine v_iadd C dX7_commits_134 ?_
  refine v_aload_n C 0 dX7_commits_135 rfl rfl ?_
  refine gf_RX7_53 C hX dX7_commits_136 ?_
  refine v_iload_n C 1 dX7_commits_139 rfl rfl ?_
  refine v_bipush C (nI 6) dX7_commits_140 zkb_6 ?_
  obtain ⟨x2, g3, e4, hM⟩ := zc_elim hM
  refine v_callSi (rest := [(.inr (.inl (43, 0))), (.inl (((nI 62) + ((nI 4) * (g 43 0 (nI 4).toNatClampNeg))) + (nI 1))), (.inr (.inl (43, 0)))]) C (c_X7_coreAt hX  e4) mw_X7_coreAt ms_X7_coreAt ml_RX7_244 ⟨by decide, Nat.le_of_ble_eq_true rfl⟩ rfl (Nat.le_of_ble_eq_true rfl) dX7_commits_142 rfl ?_
  refine ia_43 C hX dX7_commits_145 hM (fun hM _ => ?_)
  refine is_43 C hX dX7_commits_146 hM (fun g5 hM => ?_)
  refine v_aload_n C 0 dX7_commits_147 rfl rfl ?_
  refine gf_RX7_53 C hX dX7_commits_148 ?_
  refine v_iload_n C 3 dX7_commits_151 rfl rfl ?_
  refine v_iconst C (nI 2) dX7_commits_152 zk_2 ?_
  refine v_iadd C dX7_commits_153 ?_
  refine v_aload_n C 0 dX7_commits_154 rfl rfl ?_
  refine gf_RX7_53 C hX dX7_commits_155 ?_
  refine v_iconst C (nI 0) dX7_commits_158 zk_0 ?_
  refine ia_43 C hX dX7_commits_159 hM (fun hM _ => ?_)
  refine is_43 C hX dX7_commits_160 hM (fun g6 hM => ?_)
  refine v_aload_n C 0 dX7_commits_161 rfl rfl ?_
  refine gf_RX7_53 C hX dX7_commits_162 ?_
  refine v_iload_n C 3 dX7_commits_165 rfl rfl ?_
  refine v_iconst C (nI 3) dX7_commits_166 zk_3 ?_
  refine v_iadd C dX7_commits_167 ?_
  refine v_iload_n C 2 dX7_commits_168 rfl rfl ?_
  refine v_if_eq C 176 dX7_commits_169 rfl hM (fun hM => ?_) (fun hM => ?_)
  · refine v_iconst C (nI 0) dX7_commits_176 zk_0 ?_
    exact v_weak (t_X7_commits_b177 hX C hr   hM) (show zsub [some (.inr (.inl (7, 0))), some (.inl v1), none, none] [some (.inr (.inl (7, 0))), some (.inl v1), some (.inl v2), some (.inl ((nI 62) + ((nI 4) * (g 43 0 (nI 4).toNatClampNeg))))] from ⟨rfl, ⟨rfl, trivial⟩⟩)
  · refine v_iconst C (nI 1) dX7_commits_172 zk_1 ?_
    refine v_goto C 177 dX7_commits_173 rfl ?_
    exact v_weak (t_X7_commits_b177 hX C hr   hM) (show zsub [some (.inr (.inl (7, 0))), some (.inl v1), none, none] [some (.inr (.inl (7, 0))), some (.inl v1), some (.inl v2), some (.inl ((nI 62) + ((nI 4) * (g 43 0 (nI 4).toNatClampNeg))))] from ⟨rfl, ⟨rfl, trivial⟩⟩)

theorem t_X7_commits_b81 {v1 : Int32} {s0 : Int32}  {g : zG} (hX : zfl X = true) (C : Cx X p (zrm 1) s m args meth c cX7_commits 4 RX7 0 0) (hr : meth.sig.returnType = none)   (hM : X7_commits_b81  v1 s0 g = some (rr, gr)) : V X p l e (zrm 1) s m args below meth c 4 0 0 (MQ below (zQ X (Option.map (zM X) none) gr) args s 0 0 (zF X)) g 81 [some (.inr (.inl (7, 0))), some (.inl v1), none, none] [(.inl s0)] := by
  unfold X7_commits_b81 at hM
  refine v_istore_n (L' := [some (.inr (.inl (7, 0))), some (.inl v1), some (.inl s0), none]) C 2 dX7_commits_81 rfl (by decide) rfl ?_
  refine v_iload_n C 2 dX7_commits_82 rfl rfl ?_
  refine v_if_eq C 109 dX7_commits_83 rfl hM (fun hM => ?_) (fun hM => ?_)
  · exact t_X7_commits_b109 hX C hr   hM
  · refine v_aload_n C 0 dX7_commits_86 rfl rfl ?_
    refine gf_RX7_53 C hX dX7_commits_87 ?_
    refine v_iconst C (nI 5) dX7_commits_90 zk_5 ?_
    refine v_bipush C (-2) dX7_commits_91 zkb_m2 ?_
    refine is_43 C hX dX7_commits_93 hM (fun g1 hM => ?_)
    refine v_aload_n C 0 dX7_commits_94 rfl rfl ?_
    refine gf_RX7_53 C hX dX7_commits_95 ?_
    refine v_iload_n C 1 dX7_commits_98 rfl rfl ?_
    refine v_bipush C (nI 12) dX7_commits_99 zkb_12 ?_
    obtain ⟨x2, g3, e4, hM⟩ := zc_elim hM
    refine v_callSi (rest := [(.inr (.inl (43, 0)))]) C (c_X7_coreAt hX  e4) mw_X7_coreAt ms_X7_coreAt ml_RX7_244 ⟨by decide, Nat.le_of_ble_eq_true rfl⟩ rfl (Nat.le_of_ble_eq_true rfl) dX7_commits_101 rfl ?_
    refine v_dup2 C dX7_commits_104 ?_
    refine ia_43 C hX dX7_commits_105 hM (fun hM _ => ?_)
    refine v_iconst C (nI 1) dX7_commits_106 zk_1 ?_
    refine v_iadd C dX7_commits_107 ?_
    refine is_43 C hX dX7_commits_108 hM (fun g5 hM => ?_)
    exact t_X7_commits_b109 hX C hr   hM

theorem c_X7_commits {X : zX} (hX : zfl X = true) {v1 : Int32} {g gr : zG} {rr : Int32}  (hM : X7_commits v1 g = some (rr, gr)) : MC X yX7_commits cX7_commits 4 none 1 [.inr (.inl (7, 0)), .inl v1] none g gr := by
  refine MC.mk (own := RX7) (L := [some (.inr (.inl (7, 0))), some (.inl v1), none, none]) (by decide) rfl trivial (Nat.le_of_ble_eq_true rfl) rfl ?_
  intro p l e s m args below meth c C hr
  unfold X7_commits at hM
  refine v_iconst C (nI 0) dX7_commits_0 zk_0 ?_
  refine v_istore_n (L' := [some (.inr (.inl (7, 0))), some (.inl v1), some (.inl (nI 0)), none]) C 2 dX7_commits_1 rfl (by decide) rfl ?_
  exact t_X7_commits_l2 hX C hr (by intro v1 s0 g  hM; exact t_X7_commits_b81 hX C hr   hM) _ g  hM

theorem c_X7_plus {X : zX} (hX : zfl X = true) {v0 : Int32} {v1 : Int32} {g gr : zG} {rr : Int32}  (hM : X7_plus v0 v1 g = some (rr, gr)) : MC X yX7_plus cX7_plus 2 (some .int) 0 [.inl v0, .inl v1] (some (.inl rr)) g gr := by
  refine MC.mk (own := RX7) (L := [some (.inl v0), some (.inl v1)]) (by decide) rfl trivial (Nat.le_of_ble_eq_true rfl) rfl ?_
  intro p l e s m args below meth c C hr
  unfold X7_plus at hM
  refine v_iload_n C 0 dX7_plus_0 rfl rfl ?_
  refine v_iload_n C 1 dX7_plus_1 rfl rfl ?_
  refine v_iadd C dX7_plus_2 ?_
  refine v_sipush C (nI 1000) dX7_plus_3 zks_1000 ?_
  refine v_iadd C dX7_plus_6 ?_
  refine v_sipush C (nI 1000) dX7_plus_7 zks_1000 ?_
  refine v_iremk C (nI_ne0 (by decide) (by decide)) dX7_plus_10 ?_
  exact v_iret2 C hr dX7_plus_11 hM

theorem c_X7_does {X : zX} (hX : zfl X = true) {v1 : Int32} {v2 : Int32} {g gr : zG} {rr : Int32}  (hM : X7_does v1 v2 g = some (rr, gr)) : MC X yX7_does cX7_does 3 (some .int) 6 [.inr (.inl (7, 0)), .inl v1, .inl v2] (some (.inl rr)) g gr := by
  refine MC.mk (own := RX7) (L := [some (.inr (.inl (7, 0))), some (.inl v1), some (.inl v2)]) (by decide) rfl trivial (Nat.le_of_ble_eq_true rfl) rfl ?_
  intro p l e s m args below meth c C hr
  unfold X7_does at hM
  refine v_aload_n C 0 dX7_does_0 rfl rfl ?_
  refine gf_RX7_35 C hX dX7_does_1 ?_
  refine v_iload_n C 2 dX7_does_4 rfl rfl ?_
  refine ia_37 C hX dX7_does_5 hM (fun hM _ => ?_)
  by_cases hx0 : (g 37 0 v2.toNatClampNeg) = (nI 0)
  · rw [if_pos hx0] at hM
    refine v_tblIn C 44 0 dX7_does_6 (by rw [hx0]; rfl) (by decide) (by decide) rfl rfl ?_
    refine v_aload_n C 0 dX7_does_44 rfl rfl ?_
    refine v_iload_n C 1 dX7_does_45 rfl rfl ?_
    obtain ⟨x1, g2, e3, hM⟩ := zc_elim hM
    refine v_callVi (ci := 7) (rest := []) C (c_X7_begin hX  e3) mw_X7_begin mi_X7_begin ml_RX7_291 hX.symm zm7 rfl rfl ⟨by decide, Nat.le_of_ble_eq_true rfl⟩ rfl (Nat.le_of_ble_eq_true rfl) dX7_does_46 rfl ?_
    exact v_iret2 C hr dX7_does_49 hM
  rw [if_neg hx0] at hM
  by_cases hx1 : (g 37 0 v2.toNatClampNeg) = (nI 1)
  · rw [if_pos hx1] at hM
    refine v_tblIn C 64 1 dX7_does_6 (by rw [hx1]; rfl) (by decide) (by decide) rfl rfl ?_
    refine v_aload_n C 0 dX7_does_64 rfl rfl ?_
    refine v_iload_n C 1 dX7_does_65 rfl rfl ?_
    obtain ⟨x4, g5, e6, hM⟩ := zc_elim hM
    refine v_callVv (ci := 7) (rest := []) C (c_X7_commits hX  e6) mw_X7_commits mi_X7_commits ml_RX7_296 hX.symm zm7 rfl rfl ⟨by decide, Nat.le_of_ble_eq_true rfl⟩ rfl (Nat.le_of_ble_eq_true rfl) dX7_does_66 rfl ?_
    refine v_goto C 157 dX7_does_69 rfl ?_
    refine v_iconst C (nI 1) dX7_does_157 zk_1 ?_
    exact v_iret2 C hr dX7_does_158 hM
  rw [if_neg hx1] at hM
  by_cases hx2 : (g 37 0 v2.toNatClampNeg) = (nI 2)
  · rw [if_pos hx2] at hM
    refine v_tblIn C 72 2 dX7_does_6 (by rw [hx2]; rfl) (by decide) (by decide) rfl rfl ?_
    refine v_aload_n C 0 dX7_does_72 rfl rfl ?_
    refine gf_RX7_53 C hX dX7_does_73 ?_
    refine v_iload_n C 1 dX7_does_76 rfl rfl ?_
    refine v_iconst C (nI 2) dX7_does_77 zk_2 ?_
    obtain ⟨x7, g8, e9, hM⟩ := zc_elim hM
    refine v_callSi (rest := [(.inr (.inl (43, 0)))]) C (c_X7_coreAt hX  e9) mw_X7_coreAt ms_X7_coreAt ml_RX7_244 ⟨by decide, Nat.le_of_ble_eq_true rfl⟩ rfl (Nat.le_of_ble_eq_true rfl) dX7_does_78 rfl ?_
    refine v_aload_n C 0 dX7_does_81 rfl rfl ?_
    refine gf_RX7_53 C hX dX7_does_82 ?_
    refine v_iload_n C 1 dX7_does_85 rfl rfl ?_
    refine v_iconst C (nI 1) dX7_does_86 zk_1 ?_
    obtain ⟨x10, g11, e12, hM⟩ := zc_elim hM
    refine v_callSi (rest := [(.inr (.inl (43, 0))), (.inl x7), (.inr (.inl (43, 0)))]) C (c_X7_coreAt hX  e12) mw_X7_coreAt ms_X7_coreAt ml_RX7_244 ⟨by decide, Nat.le_of_ble_eq_true rfl⟩ rfl (Nat.le_of_ble_eq_true rfl) dX7_does_87 rfl ?_
    refine ia_43 C hX dX7_does_90 hM (fun hM _ => ?_)
    refine is_43 C hX dX7_does_91 hM (fun g13 hM => ?_)
    refine v_goto C 157 dX7_does_92 rfl ?_
    refine v_iconst C (nI 1) dX7_does_157 zk_1 ?_
    exact v_iret2 C hr dX7_does_158 hM
  rw [if_neg hx2] at hM
  by_cases hx3 : (g 37 0 v2.toNatClampNeg) = (nI 3)
  · rw [if_pos hx3] at hM
    refine v_tblIn C 50 3 dX7_does_6 (by rw [hx3]; rfl) (by decide) (by decide) rfl rfl ?_
    refine v_aload_n C 0 dX7_does_50 rfl rfl ?_
    refine v_iload_n C 1 dX7_does_51 rfl rfl ?_
    refine v_iload_n C 2 dX7_does_52 rfl rfl ?_
    obtain ⟨x14, g15, e16, hM⟩ := zc_elim hM
    refine v_callVi (ci := 7) (rest := []) C (c_X7_touches hX  e16) mw_X7_touches mi_X7_touches ml_RX7_293 hX.symm zm7 rfl rfl ⟨by decide, Nat.le_of_ble_eq_true rfl⟩ rfl (Nat.le_of_ble_eq_true rfl) dX7_does_53 rfl ?_
    exact v_iret2 C hr dX7_does_56 hM
  rw [if_neg hx3] at hM
  by_cases hx4 : (g 37 0 v2.toNatClampNeg) = (nI 4)
  · rw [if_pos hx4] at hM
    refine v_tblIn C 57 4 dX7_does_6 (by rw [hx4]; rfl) (by decide) (by decide) rfl rfl ?_
    refine v_aload_n C 0 dX7_does_57 rfl rfl ?_
    refine v_iload_n C 1 dX7_does_58 rfl rfl ?_
    refine v_iload_n C 2 dX7_does_59 rfl rfl ?_
    obtain ⟨x17, g18, e19, hM⟩ := zc_elim hM
    refine v_callVi (ci := 7) (rest := []) C (c_X7_touches hX  e19) mw_X7_touches mi_X7_touches ml_RX7_293 hX.symm zm7 rfl rfl ⟨by decide, Nat.le_of_ble_eq_true rfl⟩ rfl (Nat.le_of_ble_eq_true rfl) dX7_does_60 rfl ?_
    exact v_iret2 C hr dX7_does_63 hM
  rw [if_neg hx4] at hM
  by_cases hx5 : (g 37 0 v2.toNatClampNeg) = (nI 5)
  · rw [if_pos hx5] at hM
    refine v_tblIn C 95 5 dX7_does_6 (by rw [hx5]; rfl) (by decide) (by decide) rfl rfl ?_
    refine v_aload_n C 0 dX7_does_95 rfl rfl ?_
    refine gf_RX7_53 C hX dX7_does_96 ?_
    refine v_iload_n C 1 dX7_does_99 rfl rfl ?_
    refine v_iconst C (nI 1) dX7_does_100 zk_1 ?_
    obtain ⟨x20, g21, e22, hM⟩ := zc_elim hM
    refine v_callSi (rest := [(.inr (.inl (43, 0)))]) C (c_X7_coreAt hX  e22) mw_X7_coreAt ms_X7_coreAt ml_RX7_244 ⟨by decide, Nat.le_of_ble_eq_true rfl⟩ rfl (Nat.le_of_ble_eq_true rfl) dX7_does_101 rfl ?_
    refine v_aload_n C 0 dX7_does_104 rfl rfl ?_
    refine gf_RX7_53 C hX dX7_does_105 ?_
    refine v_iload_n C 1 dX7_does_108 rfl rfl ?_
    refine v_iconst C (nI 1) dX7_does_109 zk_1 ?_
    obtain ⟨x23, g24, e25, hM⟩ := zc_elim hM
    refine v_callSi (rest := [(.inr (.inl (43, 0))), (.inl x20), (.inr (.inl (43, 0)))]) C (c_X7_coreAt hX  e25) mw_X7_coreAt ms_X7_coreAt ml_RX7_244 ⟨by decide, Nat.le_of_ble_eq_true rfl⟩ rfl (Nat.le_of_ble_eq_true rfl) dX7_does_110 rfl ?_
    refine ia_43 C hX dX7_does_113 hM (fun hM _ => ?_)
    refine v_aload_n C 0 dX7_does_114 rfl rfl ?_
    refine gf_RX7_41 C hX dX7_does_115 ?_
    refine v_iload_n C 2 dX7_does_118 rfl rfl ?_
    refine ia_39 C hX dX7_does_119 hM (fun hM _ => ?_)
    obtain ⟨x26, g27, e28, hM⟩ := zc_elim hM
    refine v_callSi (rest := [(.inl x20), (.inr (.inl (43, 0)))]) C (c_X7_plus hX  e28) mw_X7_plus ms_X7_plus ml_RX7_299 ⟨by decide, Nat.le_of_ble_eq_true rfl⟩ rfl (Nat.le_of_ble_eq_true rfl) dX7_does_120 rfl ?_
    refine is_43 C hX dX7_does_123 hM (fun g29 hM => ?_)
    refine v_goto C 157 dX7_does_124 rfl ?_
    refine v_iconst C (nI 1) dX7_does_157 zk_1 ?_
    exact v_iret2 C hr dX7_does_158 hM
  rw [if_neg hx5] at hM
  refine v_tblOut C 127 dX7_does_6 (ztbl 6 rfl (by intro k hk; match k, hk with | 0, _ => exact hx0 | 1, _ => exact hx1 | 2, _ => exact hx2 | 3, _ => exact hx3 | 4, _ => exact hx4 | 5, _ => exact hx5 | k + 6, hk => omega)) rfl ?_
  refine v_aload_n C 0 dX7_does_127 rfl rfl ?_
  refine gf_RX7_53 C hX dX7_does_128 ?_
  refine v_iload_n C 1 dX7_does_131 rfl rfl ?_
  refine v_iconst C (nI 1) dX7_does_132 zk_1 ?_
  obtain ⟨x30, g31, e32, hM⟩ := zc_elim hM
  refine v_callSi (rest := [(.inr (.inl (43, 0)))]) C (c_X7_coreAt hX  e32) mw_X7_coreAt ms_X7_coreAt ml_RX7_244 ⟨by decide, Nat.le_of_ble_eq_true rfl⟩ rfl (Nat.le_of_ble_eq_true rfl) dX7_does_133 rfl ?_
  refine v_aload_n C 0 dX7_does_136 rfl rfl ?_
  refine gf_RX7_53 C hX dX7_does_137 ?_
  refine v_iload_n C 1 dX7_does_140 rfl rfl ?_
  refine v_iconst C (nI 1) dX7_does_141 zk_1 ?_
  obtain ⟨x33, g34, e35, hM⟩ := zc_elim hM
  refine v_callSi (rest := [(.inr (.inl (43, 0))), (.inl x30), (.inr (.inl (43, 0)))]) C (c_X7_coreAt hX  e35) mw_X7_coreAt ms_X7_coreAt ml_RX7_244 ⟨by decide, Nat.le_of_ble_eq_true rfl⟩ rfl (Nat.le_of_ble_eq_true rfl) dX7_does_142 rfl ?_
  refine ia_43 C hX dX7_does_145 hM (fun hM _ => ?_)
  refine v_aload_n C 0 dX7_does_146 rfl rfl ?_
  refine gf_RX7_41 C hX dX7_does_147 ?_
  refine v_iload_n C 2 dX7_does_150 rfl rfl ?_
  refine ia_39 C hX dX7_does_151 hM (fun hM _ => ?_)
  refine v_ineg C dX7_does_152 ?_
  obtain ⟨x36, g37, e38, hM⟩ := zc_elim hM
  refine v_callSi (rest := [(.inl x30), (.inr (.inl (43, 0)))]) C (c_X7_plus hX  e38) mw_X7_plus ms_X7_plus ml_RX7_299 ⟨by decide, Nat.le_of_ble_eq_true rfl⟩ rfl (Nat.le_of_ble_eq_true rfl) dX7_does_153 rfl ?_
  refine is_43 C hX dX7_does_156 hM (fun g39 hM => ?_)
  refine v_iconst C (nI 1) dX7_does_157 zk_1 ?_
  exact v_iret2 C hr dX7_does_158 hM

theorem c_X7_hasLeft {X : zX} (hX : zfl X = true) {v1 : Int32} {g gr : zG} {rr : Int32}  (hM : X7_hasLeft v1 g = some (rr, gr)) : MC X yX7_hasLeft cX7_hasLeft 2 (some .boolean) 1 [.inr (.inl (7, 0)), .inl v1] (some (.inl rr)) g gr := by
  refine MC.mk (own := RX7) (L := [some (.inr (.inl (7, 0))), some (.inl v1)]) (by decide) rfl trivial (Nat.le_of_ble_eq_true rfl) rfl ?_
  intro p l e s m args below meth c C hr
  unfold X7_hasLeft at hM
  refine v_aload_n C 0 dX7_hasLeft_0 rfl rfl ?_
  refine gf_RX7_53 C hX dX7_hasLeft_1 ?_
  refine v_iload_n C 1 dX7_hasLeft_4 rfl rfl ?_
  refine v_iconst C (nI 0) dX7_hasLeft_5 zk_0 ?_
  obtain ⟨x1, g2, e3, hM⟩ := zc_elim hM
  refine v_callSi (rest := [(.inr (.inl (43, 0)))]) C (c_X7_coreAt hX  e3) mw_X7_coreAt ms_X7_coreAt ml_RX7_244 ⟨by decide, Nat.le_of_ble_eq_true rfl⟩ rfl (Nat.le_of_ble_eq_true rfl) dX7_hasLeft_6 rfl ?_
  refine ia_43 C hX dX7_hasLeft_9 hM (fun hM _ => ?_)
  refine v_aload_n C 0 dX7_hasLeft_10 rfl rfl ?_
  refine gf_RX7_29 C hX dX7_hasLeft_11 ?_
  refine v_iload_n C 1 dX7_hasLeft_14 rfl rfl ?_
  refine ia_35 C hX dX7_hasLeft_15 hM (fun hM _ => ?_)
  refine v_icmp_ge C 23 dX7_hasLeft_16 rfl hM (fun hM => ?_) (fun hM => ?_)
  · refine v_iconst C (nI 0) dX7_hasLeft_23 zk_0 ?_
    exact v_zret2 C hr (zbo_n (Or.inl rfl)) dX7_hasLeft_24 hM
  · refine v_iconst C (nI 1) dX7_hasLeft_19 zk_1 ?_
    refine v_goto C 24 dX7_hasLeft_20 rfl ?_
    exact v_zret2 C hr (zbo_n (Or.inr rfl)) dX7_hasLeft_24 hM

theorem c_X7_steps {X : zX} (hX : zfl X = true) {v1 : Int32} {g gr : zG} {rr : Int32}  (hM : X7_steps v1 g = some (rr, gr)) : MC X yX7_steps cX7_steps 3 (some .int) 7 [.inr (.inl (7, 0)), .inl v1] (some (.inl rr)) g gr := by
  refine MC.mk (own := RX7) (L := [some (.inr (.inl (7, 0))), some (.inl v1), none]) (by decide) rfl trivial (Nat.le_of_ble_eq_true rfl) rfl ?_
  intro p l e s m args below meth c C hr
  unfold X7_steps at hM
  refine v_aload_n C 0 dX7_steps_0 rfl rfl ?_
  refine v_iconst C (nI 0) dX7_steps_1 zk_0 ?_
  refine pf_RX7_254 C hX dX7_steps_2 hM (fun g1 hM => ?_)
  refine v_aload_n C 0 dX7_steps_5 rfl rfl ?_
  refine v_iload_n C 1 dX7_steps_6 rfl rfl ?_
  obtain ⟨x2, g3, e4, hM⟩ := zc_elim hM
  refine v_callVi (ci := 7) (rest := []) C (c_X7_hasLeft hX  e4) mw_X7_hasLeft mi_X7_hasLeft ml_RX7_301 hX.symm zm7 rfl rfl ⟨by decide, Nat.le_of_ble_eq_true rfl⟩ rfl (Nat.le_of_ble_eq_true rfl) dX7_steps_7 rfl ?_
  refine v_if_ne C 15 dX7_steps_10 rfl hM (fun hM => ?_) (fun hM => ?_)
  · refine v_aload_n C 0 dX7_steps_15 rfl rfl ?_
    refine gf_RX7_53 C hX dX7_steps_16 ?_
    refine v_iconst C (nI 0) dX7_steps_19 zk_0 ?_
    refine v_dup2 C dX7_steps_20 ?_
    refine ia_43 C hX dX7_steps_21 hM (fun hM _ => ?_)
    refine v_iconst C (nI 1) dX7_steps_22 zk_1 ?_
    refine v_iadd C dX7_steps_23 ?_
    refine is_43 C hX dX7_steps_24 hM (fun g5 hM => ?_)
    refine v_aload_n C 0 dX7_steps_25 rfl rfl ?_
    refine v_iload_n C 1 dX7_steps_26 rfl rfl ?_
    refine v_bipush C (nI 24) dX7_steps_27 zkb_24 ?_
    refine v_iload_n C 1 dX7_steps_29 rfl rfl ?_
    refine v_imul C dX7_steps_30 ?_
    refine v_aload_n C 0 dX7_steps_31 rfl rfl ?_
    refine gf_RX7_53 C hX dX7_steps_32 ?_
    refine v_iload_n C 1 dX7_steps_35 rfl rfl ?_
    refine v_iconst C (nI 0) dX7_steps_36 zk_0 ?_
    obtain ⟨x6, g7, e8, hM⟩ := zc_elim hM
    refine v_callSi (rest := [(.inr (.inl (43, 0))), (.inl ((nI 24) * v1)), (.inl v1), (.inr (.inl (7, 0)))]) C (c_X7_coreAt hX  e8) mw_X7_coreAt ms_X7_coreAt ml_RX7_244 ⟨by decide, Nat.le_of_ble_eq_true rfl⟩ rfl (Nat.le_of_ble_eq_true rfl) dX7_steps_37 rfl ?_
    refine ia_43 C hX dX7_steps_40 hM (fun hM _ => ?_)
    refine v_iadd C dX7_steps_41 ?_
    obtain ⟨x9, g10, e11, hM⟩ := zc_elim hM
    refine v_callVi (ci := 7) (rest := []) C (c_X7_does hX  e11) mw_X7_does mi_X7_does ml_RX7_305 hX.symm zm7 rfl rfl ⟨by decide, Nat.le_of_ble_eq_true rfl⟩ rfl (Nat.le_of_ble_eq_true rfl) dX7_steps_42 rfl ?_
    refine v_istore_n (L' := [some (.inr (.inl (7, 0))), some (.inl v1), some (.inl x9)]) C 2 dX7_steps_45 rfl (by decide) rfl ?_
    refine v_iload_n C 2 dX7_steps_46 rfl rfl ?_
    refine v_iconst C (nI 1) dX7_steps_47 zk_1 ?_
    refine v_icmp_ne C 65 dX7_steps_48 rfl hM (fun hM => ?_) (fun hM => ?_)
    · refine v_iload_n C 2 dX7_steps_65 rfl rfl ?_
      exact v_iret2 C hr dX7_steps_66 hM
    · refine v_aload_n C 0 dX7_steps_51 rfl rfl ?_
      refine gf_RX7_53 C hX dX7_steps_52 ?_
      refine v_iload_n C 1 dX7_steps_55 rfl rfl ?_
      refine v_iconst C (nI 0) dX7_steps_56 zk_0 ?_
      obtain ⟨x12, g13, e14, hM⟩ := zc_elim hM
      refine v_callSi (rest := [(.inr (.inl (43, 0)))]) C (c_X7_coreAt hX  e14) mw_X7_coreAt ms_X7_coreAt ml_RX7_244 ⟨by decide, Nat.le_of_ble_eq_true rfl⟩ rfl (Nat.le_of_ble_eq_true rfl) dX7_steps_57 rfl ?_
      refine v_dup2 C dX7_steps_60 ?_
      refine ia_43 C hX dX7_steps_61 hM (fun hM _ => ?_)
      refine v_iconst C (nI 1) dX7_steps_62 zk_1 ?_
      refine v_iadd C dX7_steps_63 ?_
      refine is_43 C hX dX7_steps_64 hM (fun g15 hM => ?_)
      refine v_iload_n C 2 dX7_steps_65 rfl rfl ?_
      exact v_iret2 C hr dX7_steps_66 hM
  · refine v_iconst C (nI 0) dX7_steps_13 zk_0 ?_
    exact v_iret2 C hr dX7_steps_14 hM

theorem c_X7_isCore {X : zX} (hX : zfl X = true) {v1 : Int32} {g gr : zG} {rr : Int32}  (hM : X7_isCore v1 g = some (rr, gr)) : MC X yX7_isCore cX7_isCore 2 (some .boolean) 1 [.inr (.inl (7, 0)), .inl v1] (some (.inl rr)) g gr := by
  refine MC.mk (own := RX7) (L := [some (.inr (.inl (7, 0))), some (.inl v1)]) (by decide) rfl trivial (Nat.le_of_ble_eq_true rfl) rfl ?_
  intro p l e s m args below meth c C hr
  unfold X7_isCore at hM
  refine v_aload_n C 0 dX7_isCore_0 rfl rfl ?_
  refine gf_RX7_226 C hX dX7_isCore_1 ?_
  refine v_if_eq C 27 dX7_isCore_4 rfl hM (fun hM => ?_) (fun hM => ?_)
  · refine v_iconst C (nI 0) dX7_isCore_27 zk_0 ?_
    exact v_zret2 C hr (zbo_n (Or.inl rfl)) dX7_isCore_28 hM
  · refine v_iload_n C 1 dX7_isCore_7 rfl rfl ?_
    refine v_iconst C (nI 0) dX7_isCore_8 zk_0 ?_
    refine v_aload_n C 0 dX7_isCore_9 rfl rfl ?_
    refine gf_RX7_17 C hX dX7_isCore_10 ?_
    refine v_iconst C (nI 5) dX7_isCore_13 zk_5 ?_
    refine ia_31 C hX dX7_isCore_14 hM (fun hM _ => ?_)
    refine v_iconst C (nI 1) dX7_isCore_15 zk_1 ?_
    refine v_isub C dX7_isCore_16 ?_
    obtain ⟨x1, g2, e3, hM⟩ := zc_elim hM
    refine v_callSi (rest := []) C (c_X7_in hX  e3) mw_X7_in ms_X7_in ml_RX7_94 ⟨by decide, Nat.le_of_ble_eq_true rfl⟩ rfl (Nat.le_of_ble_eq_true rfl) dX7_isCore_17 rfl ?_
    refine v_if_eq C 27 dX7_isCore_20 rfl hM (fun hM => ?_) (fun hM => ?_)
    · refine v_iconst C (nI 0) dX7_isCore_27 zk_0 ?_
      exact v_zret2 C hr (zbo_n (Or.inl rfl)) dX7_isCore_28 hM
    · refine v_iconst C (nI 1) dX7_isCore_23 zk_1 ?_
      refine v_goto C 28 dX7_isCore_24 rfl ?_
      exact v_zret2 C hr (zbo_n (Or.inr rfl)) dX7_isCore_28 hM

theorem c_X7_isAddress {X : zX} (hX : zfl X = true) {v1 : Int32} {g gr : zG} {rr : Int32}  (hM : X7_isAddress v1 g = some (rr, gr)) : MC X yX7_isAddress cX7_isAddress 2 (some .boolean) 1 [.inr (.inl (7, 0)), .inl v1] (some (.inl rr)) g gr := by
  refine MC.mk (own := RX7) (L := [some (.inr (.inl (7, 0))), some (.inl v1)]) (by decide) rfl trivial (Nat.le_of_ble_eq_true rfl) rfl ?_
  intro p l e s m args below meth c C hr
  unfold X7_isAddress at hM
  refine v_aload_n C 0 dX7_isAddress_0 rfl rfl ?_
  refine gf_RX7_226 C hX dX7_isAddress_1 ?_
  refine v_if_eq C 31 dX7_isAddress_4 rfl hM (fun hM => ?_) (fun hM => ?_)
  · refine v_iconst C (nI 0) dX7_isAddress_31 zk_0 ?_
    exact v_zret2 C hr (zbo_n (Or.inl rfl)) dX7_isAddress_32 hM
  · refine v_iload_n C 1 dX7_isAddress_7 rfl rfl ?_
    refine v_iconst C (nI 0) dX7_isAddress_8 zk_0 ?_
    refine v_aload_n C 0 dX7_isAddress_9 rfl rfl ?_
    refine v_aload_n C 0 dX7_isAddress_10 rfl rfl ?_
    refine gf_RX7_17 C hX dX7_isAddress_11 ?_
    refine v_iconst C (nI 2) dX7_isAddress_14 zk_2 ?_
    refine ia_31 C hX dX7_isAddress_15 hM (fun hM _ => ?_)
    obtain ⟨x1, g2, e3, hM⟩ := zc_elim hM
    refine v_callVi (ci := 7) (rest := [(.inl (nI 0)), (.inl v1)]) C (c_X7_addresses hX  e3) mw_X7_addresses mi_X7_addresses ml_RX7_165 hX.symm zm7 rfl rfl ⟨by decide, Nat.le_of_ble_eq_true rfl⟩ rfl (Nat.le_of_ble_eq_true rfl) dX7_isAddress_16 rfl ?_
    refine v_iconst C (nI 1) dX7_isAddress_19 zk_1 ?_
    refine v_isub C dX7_isAddress_20 ?_
    obtain ⟨x4, g5, e6, hM⟩ := zc_elim hM
    refine v_callSi (rest := []) C (c_X7_in hX  e6) mw_X7_in ms_X7_in ml_RX7_94 ⟨by decide, Nat.le_of_ble_eq_true rfl⟩ rfl (Nat.le_of_ble_eq_true rfl) dX7_isAddress_21 rfl ?_
    refine v_if_eq C 31 dX7_isAddress_24 rfl hM (fun hM => ?_) (fun hM => ?_)
    · refine v_iconst C (nI 0) dX7_isAddress_31 zk_0 ?_
      exact v_zret2 C hr (zbo_n (Or.inl rfl)) dX7_isAddress_32 hM
    · refine v_iconst C (nI 1) dX7_isAddress_27 zk_1 ?_
      refine v_goto C 32 dX7_isAddress_28 rfl ?_
      exact v_zret2 C hr (zbo_n (Or.inr rfl)) dX7_isAddress_32 hM

theorem c_X7_about {X : zX} (hX : zfl X = true) {v1 : Int32} {g gr : zG} {rr : Int32}  (hM : X7_about v1 g = some (rr, gr)) : MC X yX7_about cX7_about 2 (some .int) 1 [.inr (.inl (7, 0)), .inl v1] (some (.inl rr)) g gr := by
  refine MC.mk (own := RX7) (L := [some (.inr (.inl (7, 0))), some (.inl v1)]) (by decide) rfl trivial (Nat.le_of_ble_eq_true rfl) rfl ?_
  intro p l e s m args below meth c C hr
  unfold X7_about at hM
  refine v_aload_n C 0 dX7_about_0 rfl rfl ?_
  obtain ⟨x1, g2, e3, hM⟩ := zc_elim hM
  refine v_callVv (ci := 7) (rest := []) C (c_X7_anew hX  e3) mw_X7_anew mi_X7_anew ml_RX7_211 hX.symm zm7 rfl rfl ⟨by decide, Nat.le_of_ble_eq_true rfl⟩ rfl (Nat.le_of_ble_eq_true rfl) dX7_about_1 rfl ?_
  refine v_aload_n C 0 dX7_about_4 rfl rfl ?_
  refine gf_RX7_226 C hX dX7_about_5 ?_
  refine v_if_ne C 17 dX7_about_8 rfl hM (fun hM => ?_) (fun hM => ?_)
  · refine v_iload_n C 1 dX7_about_17 rfl rfl ?_
    by_cases hx0 : v1 = (nI 0)
    · rw [if_pos hx0] at hM
      refine v_tblIn C 68 0 dX7_about_18 (by rw [hx0]; rfl) (by decide) (by decide) rfl rfl ?_
      refine v_aload_n C 0 dX7_about_68 rfl rfl ?_
      refine gf_RX7_17 C hX dX7_about_69 ?_
      refine v_iconst C (nI 0) dX7_about_72 zk_0 ?_
      refine ia_31 C hX dX7_about_73 hM (fun hM _ => ?_)
      exact v_iret2 C hr dX7_about_74 hM
    rw [if_neg hx0] at hM
    by_cases hx1 : v1 = (nI 1)
    · rw [if_pos hx1] at hM
      refine v_tblIn C 75 1 dX7_about_18 (by rw [hx1]; rfl) (by decide) (by decide) rfl rfl ?_
      refine v_aload_n C 0 dX7_about_75 rfl rfl ?_
      refine gf_RX7_17 C hX dX7_about_76 ?_
      refine v_iconst C (nI 1) dX7_about_79 zk_1 ?_
      refine ia_31 C hX dX7_about_80 hM (fun hM _ => ?_)
      exact v_iret2 C hr dX7_about_81 hM
    rw [if_neg hx1] at hM
    by_cases hx2 : v1 = (nI 2)
    · rw [if_pos hx2] at hM
      refine v_tblIn C 82 2 dX7_about_18 (by rw [hx2]; rfl) (by decide) (by decide) rfl rfl ?_
      refine v_aload_n C 0 dX7_about_82 rfl rfl ?_
      refine gf_RX7_17 C hX dX7_about_83 ?_
      refine v_iconst C (nI 2) dX7_about_86 zk_2 ?_
      refine ia_31 C hX dX7_about_87 hM (fun hM _ => ?_)
      exact v_iret2 C hr dX7_about_88 hM
    rw [if_neg hx2] at hM
    by_cases hx3 : v1 = (nI 3)
    · rw [if_pos hx3] at hM
      refine v_tblIn C 89 3 dX7_about_18 (by rw [hx3]; rfl) (by decide) (by decide) rfl rfl ?_
      refine v_aload_n C 0 dX7_about_89 rfl rfl ?_
      refine gf_RX7_17 C hX dX7_about_90 ?_
      refine v_iconst C (nI 3) dX7_about_93 zk_3 ?_
      refine ia_31 C hX dX7_about_94 hM (fun hM _ => ?_)
      exact v_iret2 C hr dX7_about_95 hM
    rw [if_neg hx3] at hM
    by_cases hx4 : v1 = (nI 4)
    · rw [if_pos hx4] at hM
      refine v_tblIn C 96 4 dX7_about_18 (by rw [hx4]; rfl) (by decide) (by decide) rfl rfl ?_
      refine v_aload_n C 0 dX7_about_96 rfl rfl ?_
      refine gf_RX7_17 C hX dX7_about_97 ?_
      refine v_iconst C (nI 4) dX7_about_100 zk_4 ?_
      refine ia_31 C hX dX7_about_101 hM (fun hM _ => ?_)
      exact v_iret2 C hr dX7_about_102 hM
    rw [if_neg hx4] at hM
    by_cases hx5 : v1 = (nI 5)
    · rw [if_pos hx5] at hM
      refine v_tblIn C 103 5 dX7_about_18 (by rw [hx5]; rfl) (by decide) (by decide) rfl rfl ?_
      refine v_aload_n C 0 dX7_about_103 rfl rfl ?_
      refine gf_RX7_17 C hX dX7_about_104 ?_
      refine v_iconst C (nI 5) dX7_about_107 zk_5 ?_
      refine ia_31 C hX dX7_about_108 hM (fun hM _ => ?_)
      exact v_iret2 C hr dX7_about_109 hM
    rw [if_neg hx5] at hM
    by_cases hx6 : v1 = (nI 6)
    · rw [if_pos hx6] at hM
      refine v_tblIn C 110 6 dX7_about_18 (by rw [hx6]; rfl) (by decide) (by decide) rfl rfl ?_
      refine v_aload_n C 0 dX7_about_110 rfl rfl ?_
      refine v_aload_n C 0 dX7_about_111 rfl rfl ?_
      refine gf_RX7_17 C hX dX7_about_112 ?_
      refine v_iconst C (nI 2) dX7_about_115 zk_2 ?_
      refine ia_31 C hX dX7_about_116 hM (fun hM _ => ?_)
      obtain ⟨x4, g5, e6, hM⟩ := zc_elim hM
      refine v_callVi (ci := 7) (rest := []) C (c_X7_addresses hX  e6) mw_X7_addresses mi_X7_addresses ml_RX7_165 hX.symm zm7 rfl rfl ⟨by decide, Nat.le_of_ble_eq_true rfl⟩ rfl (Nat.le_of_ble_eq_true rfl) dX7_about_117 rfl ?_
      exact v_iret2 C hr dX7_about_120 hM
    rw [if_neg hx6] at hM
    by_cases hx7 : v1 = (nI 7)
    · rw [if_pos hx7] at hM
      refine v_tblIn C 121 7 dX7_about_18 (by rw [hx7]; rfl) (by decide) (by decide) rfl rfl ?_
      refine v_aload_n C 0 dX7_about_121 rfl rfl ?_
      refine gf_RX7_53 C hX dX7_about_122 ?_
      refine v_iconst C (nI 0) dX7_about_125 zk_0 ?_
      refine ia_43 C hX dX7_about_126 hM (fun hM _ => ?_)
      exact v_iret2 C hr dX7_about_127 hM
    rw [if_neg hx7] at hM
    by_cases hx8 : v1 = (nI 8)
    · rw [if_pos hx8] at hM
      refine v_tblIn C 128 8 dX7_about_18 (by rw [hx8]; rfl) (by decide) (by decide) rfl rfl ?_
      refine v_aload_n C 0 dX7_about_128 rfl rfl ?_
      refine gf_RX7_53 C hX dX7_about_129 ?_
      refine v_iconst C (nI 4) dX7_about_132 zk_4 ?_
      refine ia_43 C hX dX7_about_133 hM (fun hM _ => ?_)
      exact v_iret2 C hr dX7_about_134 hM
    rw [if_neg hx8] at hM
    refine v_tblOut C 135 dX7_about_18 (ztbl 9 rfl (by intro k hk; match k, hk with | 0, _ => exact hx0 | 1, _ => exact hx1 | 2, _ => exact hx2 | 3, _ => exact hx3 | 4, _ => exact hx4 | 5, _ => exact hx5 | 6, _ => exact hx6 | 7, _ => exact hx7 | 8, _ => exact hx8 | k + 9, hk => omega)) rfl ?_
    refine v_aload_n C 0 dX7_about_135 rfl rfl ?_
    refine v_iconst C (nI 1) dX7_about_136 zk_1 ?_
    obtain ⟨x7, g8, e9, hM⟩ := zc_elim hM
    refine v_callVi (ci := 7) (rest := []) C (c_X7_no hX  e9) mw_X7_no mi_X7_no ml_RX7_214 hX.symm zm7 rfl rfl ⟨by decide, Nat.le_of_ble_eq_true rfl⟩ rfl (Nat.le_of_ble_eq_true rfl) dX7_about_137 rfl ?_
    exact v_iret2 C hr dX7_about_140 hM
  · refine v_aload_n C 0 dX7_about_11 rfl rfl ?_
    refine v_iconst C (nI 1) dX7_about_12 zk_1 ?_
    obtain ⟨x10, g11, e12, hM⟩ := zc_elim hM
    refine v_callVi (ci := 7) (rest := []) C (c_X7_no hX  e12) mw_X7_no mi_X7_no ml_RX7_214 hX.symm zm7 rfl rfl ⟨by decide, Nat.le_of_ble_eq_true rfl⟩ rfl (Nat.le_of_ble_eq_true rfl) dX7_about_13 rfl ?_
    exact v_iret2 C hr dX7_about_16 hM

theorem t_X7_deed_b28   {g : zG} (hX : zfl X = true) (C : Cx X p (zrm 2) s m args meth c cX7_deed 5 RX7 0 0) (hr : meth.sig.returnType = (some .int))   (hM : X7_deed_b28   g = some (rr, gr)) : V X p l e (zrm 2) s m args below meth c 5 0 0 (MQ below (zQ X (Option.map (zM X) (some (.inl rr))) gr) args s 0 0 (zF X)) g 28 [some (.inr (.inl (7, 0))), none, none, none, none] [] := by
  unfold X7_deed_b28 at hM
  refine v_aload_n C 0 dX7_deed_28 rfl rfl ?_
  refine v_iconst C (nI 1) dX7_deed_29 zk_1 ?_
  obtain ⟨x1, g2, e3, hM⟩ := zc_elim hM
  refine v_callVi (ci := 7) (rest := []) C (c_X7_no hX  e3) mw_X7_no mi_X7_no ml_RX7_214 hX.symm zm7 rfl rfl ⟨by decide, Nat.le_of_ble_eq_true rfl⟩ rfl (Nat.le_of_ble_eq_true rfl) dX7_deed_30 rfl ?_
  exact v_iret2 C hr dX7_deed_33 hM

theorem c_X7_deed {X : zX} (hX : zfl X = true) {v1 : Int32} {v2 : Int32} {v3 : Int32} {g gr : zG} {rr : Int32}  (hM : X7_deed v1 v2 v3 g = some (rr, gr)) : MC X yX7_deed cX7_deed 5 (some .int) 2 [.inr (.inl (7, 0)), .inl v1, .inl v2, .inl v3] (some (.inl rr)) g gr := by
  refine MC.mk (own := RX7) (L := [some (.inr (.inl (7, 0))), some (.inl v1), some (.inl v2), some (.inl v3), none]) (by decide) rfl trivial (Nat.le_of_ble_eq_true rfl) rfl ?_
  intro p l e s m args below meth c C hr
  unfold X7_deed at hM
  refine v_aload_n C 0 dX7_deed_0 rfl rfl ?_
  obtain ⟨x1, g2, e3, hM⟩ := zc_elim hM
  refine v_callVv (ci := 7) (rest := []) C (c_X7_anew hX  e3) mw_X7_anew mi_X7_anew ml_RX7_211 hX.symm zm7 rfl rfl ⟨by decide, Nat.le_of_ble_eq_true rfl⟩ rfl (Nat.le_of_ble_eq_true rfl) dX7_deed_1 rfl ?_
  refine v_aload_n C 0 dX7_deed_4 rfl rfl ?_
  refine v_iload_n C 1 dX7_deed_5 rfl rfl ?_
  obtain ⟨x4, g5, e6, hM⟩ := zc_elim hM
  refine v_callVi (ci := 7) (rest := []) C (c_X7_isCore hX  e6) mw_X7_isCore mi_X7_isCore ml_RX7_308 hX.symm zm7 rfl rfl ⟨by decide, Nat.le_of_ble_eq_true rfl⟩ rfl (Nat.le_of_ble_eq_true rfl) dX7_deed_6 rfl ?_
  refine v_if_eq C 28 dX7_deed_9 rfl hM (fun hM => ?_) (fun hM => ?_)
  · exact v_weak (t_X7_deed_b28 hX C hr   hM) (show zsub [some (.inr (.inl (7, 0))), none, none, none, none] [some (.inr (.inl (7, 0))), some (.inl v1), some (.inl v2), some (.inl v3), none] from ⟨rfl, trivial⟩)
  · refine v_iload_n C 2 dX7_deed_12 rfl rfl ?_
    refine v_iconst C (nI 0) dX7_deed_13 zk_0 ?_
    refine v_aload_n C 0 dX7_deed_14 rfl rfl ?_
    refine gf_RX7_29 C hX dX7_deed_15 ?_
    refine v_iload_n C 1 dX7_deed_18 rfl rfl ?_
    refine ia_35 C hX dX7_deed_19 hM (fun hM _ => ?_)
    refine v_iconst C (nI 1) dX7_deed_20 zk_1 ?_
    refine v_isub C dX7_deed_21 ?_
    obtain ⟨x7, g8, e9, hM⟩ := zc_elim hM
    refine v_callSi (rest := []) C (c_X7_in hX  e9) mw_X7_in ms_X7_in ml_RX7_94 ⟨by decide, Nat.le_of_ble_eq_true rfl⟩ rfl (Nat.le_of_ble_eq_true rfl) dX7_deed_22 rfl ?_
    refine v_if_ne C 34 dX7_deed_25 rfl hM (fun hM => ?_) (fun hM => ?_)
    · refine v_bipush C (nI 24) dX7_deed_34 zkb_24 ?_
      refine v_iload_n C 1 dX7_deed_36 rfl rfl ?_
      refine v_imul C dX7_deed_37 ?_
      refine v_iload_n C 2 dX7_deed_38 rfl rfl ?_
      refine v_iadd C dX7_deed_39 ?_
      refine v_istore (L' := [some (.inr (.inl (7, 0))), some (.inl v1), some (.inl v2), some (.inl v3), some (.inl (((nI 24) * v1) + v2))]) C 4 dX7_deed_40 (by decide) rfl ?_
      refine v_iload_n C 3 dX7_deed_42 rfl rfl ?_
      by_cases hx0 : v3 = (nI 0)
      · rw [if_pos hx0] at hM
        refine v_tblIn C 68 0 dX7_deed_43 (by rw [hx0]; rfl) (by decide) (by decide) rfl rfl ?_
        refine v_aload_n C 0 dX7_deed_68 rfl rfl ?_
        refine gf_RX7_35 C hX dX7_deed_69 ?_
        refine v_iload C 4 dX7_deed_72 rfl ?_
        refine ia_37 C hX dX7_deed_74 hM (fun hM _ => ?_)
        exact v_iret2 C hr dX7_deed_75 hM
      rw [if_neg hx0] at hM
      by_cases hx1 : v3 = (nI 1)
      · rw [if_pos hx1] at hM
        refine v_tblIn C 76 1 dX7_deed_43 (by rw [hx1]; rfl) (by decide) (by decide) rfl rfl ?_
        refine v_aload_n C 0 dX7_deed_76 rfl rfl ?_
        refine gf_RX7_41 C hX dX7_deed_77 ?_
        refine v_iload C 4 dX7_deed_80 rfl ?_
        refine ia_39 C hX dX7_deed_82 hM (fun hM _ => ?_)
        exact v_iret2 C hr dX7_deed_83 hM
      rw [if_neg hx1] at hM
      by_cases hx2 : v3 = (nI 2)
      · rw [if_pos hx2] at hM
        refine v_tblIn C 84 2 dX7_deed_43 (by rw [hx2]; rfl) (by decide) (by decide) rfl rfl ?_
        refine v_aload_n C 0 dX7_deed_84 rfl rfl ?_
        refine gf_RX7_47 C hX dX7_deed_85 ?_
        refine v_iload C 4 dX7_deed_88 rfl ?_
        refine ia_41 C hX dX7_deed_90 hM (fun hM _ => ?_)
        exact v_iret2 C hr dX7_deed_91 hM
      rw [if_neg hx2] at hM
      refine v_tblOut C 92 dX7_deed_43 (ztbl 3 rfl (by intro k hk; match k, hk with | 0, _ => exact hx0 | 1, _ => exact hx1 | 2, _ => exact hx2 | k + 3, hk => omega)) rfl ?_
      refine v_aload_n C 0 dX7_deed_92 rfl rfl ?_
      refine v_iconst C (nI 1) dX7_deed_93 zk_1 ?_
      obtain ⟨x10, g11, e12, hM⟩ := zc_elim hM
      refine v_callVi (ci := 7) (rest := []) C (c_X7_no hX  e12) mw_X7_no mi_X7_no ml_RX7_214 hX.symm zm7 rfl rfl ⟨by decide, Nat.le_of_ble_eq_true rfl⟩ rfl (Nat.le_of_ble_eq_true rfl) dX7_deed_94 rfl ?_
      exact v_iret2 C hr dX7_deed_97 hM
    · exact v_weak (t_X7_deed_b28 hX C hr   hM) (show zsub [some (.inr (.inl (7, 0))), none, none, none, none] [some (.inr (.inl (7, 0))), some (.inl v1), some (.inl v2), some (.inl v3), none] from ⟨rfl, trivial⟩)

theorem t_X7_wordNow_b72 {v1 : Int32} {v2 : Int32} {k2 : Int32 → Int32 → zG → Option (Int32 × zG)} {g : zG} (hX : zfl X = true) (C : Cx X p (zrm 2) s m args meth c cX7_wordNow 4 RX7 0 0) (hr : meth.sig.returnType = (some .int))  (hk2 : ∀ (v1 : Int32) (v2 : Int32) (g : zG),  k2 v1 v2 g = some (rr, gr) → V X p l e (zrm 2) s m args below meth c 4 0 0 (MQ below (zQ X (Option.map (zM X) (some (.inl rr))) gr) args s 0 0 (zF X)) g 2 [some (.inr (.inl (7, 0))), some (.inl v1), some (.inl v2), none] []) (hM : X7_wordNow_b72 k2 v1 v2 g = some (rr, gr)) : V X p l e (zrm 2) s m args below meth c 4 0 0 (MQ below (zQ X (Option.map (zM X) (some (.inl rr))) gr) args s 0 0 (zF X)) g 72 [some (.inr (.inl (7, 0))), some (.inl v1), some (.inl v2), none] [] := by
  unfold X7_wordNow_b72 at hM
  refine v_iinc (L' := [some (.inr (.inl (7, 0))), some (.inl v1), some (.inl (v2 + (nI 1))), none]) C 2 (nI 1) dX7_wordNow_72 zk_1 (by decide) rfl rfl ?_
  refine v_goto C 2 dX7_wordNow_75 rfl ?_
  exact hk2 v1 (v2 + (nI 1)) g  hM

theorem t_X7_wordNow_l2  (hX : zfl X = true) (C : Cx X p (zrm 2) s m args meth c cX7_wordNow 4 RX7 0 0) (hr : meth.sig.returnType = (some .int))  : ∀ (n : Nat) {v1 : Int32} {v2 : Int32} (g : zG), X7_wordNow_l2  n v1 v2 g = some (rr, gr) → V X p l e (zrm 2) s m args below meth c 4 0 0 (MQ below (zQ X (Option.map (zM X) (some (.inl rr))) gr) args s 0 0 (zF X)) g 2 [some (.inr (.inl (7, 0))), some (.inl v1), some (.inl v2), none] [] := by
  intro n
  induction n with
  | zero =>
    intro v1 v2 g  hM
    exact absurd (show (none : Option (Int32 × zG)) = some (rr, gr) from hM) (by simp)
  | succ n ih =>
    intro v1 v2 g  hM
    rw [X7_wordNow_l2.eq_2] at hM
    refine v_iload_n C 2 dX7_wordNow_2 rfl rfl ?_
    refine v_aload_n C 0 dX7_wordNow_3 rfl rfl ?_
    refine gf_RX7_17 C hX dX7_wordNow_4 ?_
    refine v_iconst C (nI 5) dX7_wordNow_7 zk_5 ?_
    refine ia_31 C hX dX7_wordNow_8 hM (fun hM _ => ?_)
    refine v_icmp_ge C 78 dX7_wordNow_9 rfl hM (fun hM => ?_) (fun hM => ?_)
    · refine v_aload_n C 0 dX7_wordNow_78 rfl rfl ?_
      refine gf_RX7_53 C hX dX7_wordNow_79 ?_
      refine v_sipush C (nI 254) dX7_wordNow_82 zks_254 ?_
      refine v_iload_n C 1 dX7_wordNow_85 rfl rfl ?_
      refine v_iadd C dX7_wordNow_86 ?_
      refine ia_43 C hX dX7_wordNow_87 hM (fun hM _ => ?_)
      exact v_iret2 C hr dX7_wordNow_88 hM
    · refine v_aload_n C 0 dX7_wordNow_12 rfl rfl ?_
      refine v_iload_n C 2 dX7_wordNow_13 rfl rfl ?_
      refine v_iload_n C 1 dX7_wordNow_14 rfl rfl ?_
      refine v_aload_n C 0 dX7_wordNow_15 rfl rfl ?_
      refine gf_RX7_17 C hX dX7_wordNow_16 ?_
      refine v_iconst C (nI 2) dX7_wordNow_19 zk_2 ?_
      refine ia_31 C hX dX7_wordNow_20 hM (fun hM _ => ?_)
      refine v_idiv C dX7_wordNow_21 hM (fun hM => ?_)
      obtain ⟨x1, g2, e3, hM⟩ := zc_elim hM
      refine v_callVi (ci := 7) (rest := []) C (c_X7_find hX  e3) mw_X7_find mi_X7_find ml_RX7_257 hX.symm zm7 rfl rfl ⟨by decide, Nat.le_of_ble_eq_true rfl⟩ rfl (Nat.le_of_ble_eq_true rfl) dX7_wordNow_22 rfl ?_
      refine v_istore_n (L' := [some (.inr (.inl (7, 0))), some (.inl v1), some (.inl v2), some (.inl x1)]) C 3 dX7_wordNow_25 rfl (by decide) rfl ?_
      refine v_iload_n C 3 dX7_wordNow_26 rfl rfl ?_
      refine v_iconst C (-1) dX7_wordNow_27 zk_m1 ?_
      refine v_icmp_eq C 72 dX7_wordNow_28 rfl hM (fun hM => ?_) (fun hM => ?_)
      · exact v_weak (t_X7_wordNow_b72 hX C hr  (fun v1 v2 g  hM => ih g  hM) hM) (show zsub [some (.inr (.inl (7, 0))), some (.inl v1), some (.inl v2), none] [some (.inr (.inl (7, 0))), some (.inl v1), some (.inl v2), some (.inl x1)] from ⟨rfl, ⟨rfl, ⟨rfl, trivial⟩⟩⟩)
      · refine v_aload_n C 0 dX7_wordNow_31 rfl rfl ?_
        refine gf_RX7_53 C hX dX7_wordNow_32 ?_
        refine v_iload_n C 3 dX7_wordNow_35 rfl rfl ?_
        refine v_iconst C (nI 1) dX7_wordNow_36 zk_1 ?_
        refine v_iadd C dX7_wordNow_37 ?_
        refine ia_43 C hX dX7_wordNow_38 hM (fun hM _ => ?_)
        refine v_iconst C (nI 3) dX7_wordNow_39 zk_3 ?_
        refine v_icmp_ne C 72 dX7_wordNow_40 rfl hM (fun hM => ?_) (fun hM => ?_)
        · exact v_weak (t_X7_wordNow_b72 hX C hr  (fun v1 v2 g  hM => ih g  hM) hM) (show zsub [some (.inr (.inl (7, 0))), some (.inl v1), some (.inl v2), none] [some (.inr (.inl (7, 0))), some (.inl v1), some (.inl v2), some (.inl x1)] from ⟨rfl, ⟨rfl, ⟨rfl, trivial⟩⟩⟩)
        · refine v_aload_n C 0 dX7_wordNow_43 rfl rfl ?_
          refine gf_RX7_53 C hX dX7_wordNow_44 ?_
          refine v_iload_n C 3 dX7_wordNow_47 rfl rfl ?_
          refine v_iconst C (nI 3) dX7_wordNow_48 zk_3 ?_
          refine v_iadd C dX7_wordNow_49 ?_
          refine ia_43 C hX dX7_wordNow_50 hM (fun hM _ => ?_)
          refine v_if_ne C 72 dX7_wordNow_51 rfl hM (fun hM => ?_) (fun hM => ?_)
          · exact v_weak (t_X7_wordNow_b72 hX C hr  (fun v1 v2 g  hM => ih g  hM) hM) (show zsub [some (.inr (.inl (7, 0))), some (.inl v1), some (.inl v2), none] [some (.inr (.inl (7, 0))), some (.inl v1), some (.inl v2), some (.inl x1)] from ⟨rfl, ⟨rfl, ⟨rfl, trivial⟩⟩⟩)
          · refine v_aload_n C 0 dX7_wordNow_54 rfl rfl ?_
            refine gf_RX7_53 C hX dX7_wordNow_55 ?_
            refine v_iload_n C 3 dX7_wordNow_58 rfl rfl ?_
            refine v_iconst C (nI 5) dX7_wordNow_59 zk_5 ?_
            refine v_iadd C dX7_wordNow_60 ?_
            refine v_iload_n C 1 dX7_wordNow_61 rfl rfl ?_
            refine v_aload_n C 0 dX7_wordNow_62 rfl rfl ?_
            refine gf_RX7_17 C hX dX7_wordNow_63 ?_
            refine v_iconst C (nI 2) dX7_wordNow_66 zk_2 ?_
            refine ia_31 C hX dX7_wordNow_67 hM (fun hM _ => ?_)
            refine v_irem C dX7_wordNow_68 hM (fun hM => ?_)
            refine v_iadd C dX7_wordNow_69 ?_
            refine ia_43 C hX dX7_wordNow_70 hM (fun hM _ => ?_)
            exact v_iret2 C hr dX7_wordNow_71 hM

theorem c_X7_wordNow {X : zX} (hX : zfl X = true) {v1 : Int32} {g gr : zG} {rr : Int32}  (hM : X7_wordNow v1 g = some (rr, gr)) : MC X yX7_wordNow cX7_wordNow 4 (some .int) 2 [.inr (.inl (7, 0)), .inl v1] (some (.inl rr)) g gr := by
  refine MC.mk (own := RX7) (L := [some (.inr (.inl (7, 0))), some (.inl v1), none, none]) (by decide) rfl trivial (Nat.le_of_ble_eq_true rfl) rfl ?_
  intro p l e s m args below meth c C hr
  unfold X7_wordNow at hM
  refine v_iconst C (nI 0) dX7_wordNow_0 zk_0 ?_
  refine v_istore_n (L' := [some (.inr (.inl (7, 0))), some (.inl v1), some (.inl (nI 0)), none]) C 2 dX7_wordNow_1 rfl (by decide) rfl ?_
  exact t_X7_wordNow_l2 hX C hr  _ g  hM

theorem c_X7_word {X : zX} (hX : zfl X = true) {v1 : Int32} {g gr : zG} {rr : Int32}  (hM : X7_word v1 g = some (rr, gr)) : MC X yX7_word cX7_word 2 (some .int) 3 [.inr (.inl (7, 0)), .inl v1] (some (.inl rr)) g gr := by
  refine MC.mk (own := RX7) (L := [some (.inr (.inl (7, 0))), some (.inl v1)]) (by decide) rfl trivial (Nat.le_of_ble_eq_true rfl) rfl ?_
  intro p l e s m args below meth c C hr
  unfold X7_word at hM
  refine v_aload_n C 0 dX7_word_0 rfl rfl ?_
  obtain ⟨x1, g2, e3, hM⟩ := zc_elim hM
  refine v_callVv (ci := 7) (rest := []) C (c_X7_anew hX  e3) mw_X7_anew mi_X7_anew ml_RX7_211 hX.symm zm7 rfl rfl ⟨by decide, Nat.le_of_ble_eq_true rfl⟩ rfl (Nat.le_of_ble_eq_true rfl) dX7_word_1 rfl ?_
  refine v_aload_n C 0 dX7_word_4 rfl rfl ?_
  refine v_iload_n C 1 dX7_word_5 rfl rfl ?_
  obtain ⟨x4, g5, e6, hM⟩ := zc_elim hM
  refine v_callVi (ci := 7) (rest := []) C (c_X7_isAddress hX  e6) mw_X7_isAddress mi_X7_isAddress ml_RX7_311 hX.symm zm7 rfl rfl ⟨by decide, Nat.le_of_ble_eq_true rfl⟩ rfl (Nat.le_of_ble_eq_true rfl) dX7_word_6 rfl ?_
  refine v_if_eq C 20 dX7_word_9 rfl hM (fun hM => ?_) (fun hM => ?_)
  · refine v_aload_n C 0 dX7_word_20 rfl rfl ?_
    refine v_iconst C (nI 1) dX7_word_21 zk_1 ?_
    obtain ⟨x7, g8, e9, hM⟩ := zc_elim hM
    refine v_callVi (ci := 7) (rest := []) C (c_X7_no hX  e9) mw_X7_no mi_X7_no ml_RX7_214 hX.symm zm7 rfl rfl ⟨by decide, Nat.le_of_ble_eq_true rfl⟩ rfl (Nat.le_of_ble_eq_true rfl) dX7_word_22 rfl ?_
    exact v_iret2 C hr dX7_word_25 hM
  · refine v_aload_n C 0 dX7_word_12 rfl rfl ?_
    refine v_iload_n C 1 dX7_word_13 rfl rfl ?_
    obtain ⟨x10, g11, e12, hM⟩ := zc_elim hM
    refine v_callVi (ci := 7) (rest := []) C (c_X7_wordNow hX  e12) mw_X7_wordNow mi_X7_wordNow ml_RX7_314 hX.symm zm7 rfl rfl ⟨by decide, Nat.le_of_ble_eq_true rfl⟩ rfl (Nat.le_of_ble_eq_true rfl) dX7_word_14 rfl ?_
    refine v_goto C 25 dX7_word_17 rfl ?_
    exact v_iret2 C hr dX7_word_25 hM

theorem c_X7_memory {X : zX} (hX : zfl X = true) {v1 : Int32} {g gr : zG} {rr : Int32}  (hM : X7_memory v1 g = some (rr, gr)) : MC X yX7_memory cX7_memory 2 (some .int) 2 [.inr (.inl (7, 0)), .inl v1] (some (.inl rr)) g gr := by
  refine MC.mk (own := RX7) (L := [some (.inr (.inl (7, 0))), some (.inl v1)]) (by decide) rfl trivial (Nat.le_of_ble_eq_true rfl) rfl ?_
  intro p l e s m args below meth c C hr
  unfold X7_memory at hM
  refine v_aload_n C 0 dX7_memory_0 rfl rfl ?_
  obtain ⟨x1, g2, e3, hM⟩ := zc_elim hM
  refine v_callVv (ci := 7) (rest := []) C (c_X7_anew hX  e3) mw_X7_anew mi_X7_anew ml_RX7_211 hX.symm zm7 rfl rfl ⟨by decide, Nat.le_of_ble_eq_true rfl⟩ rfl (Nat.le_of_ble_eq_true rfl) dX7_memory_1 rfl ?_
  refine v_aload_n C 0 dX7_memory_4 rfl rfl ?_
  refine v_iload_n C 1 dX7_memory_5 rfl rfl ?_
  obtain ⟨x4, g5, e6, hM⟩ := zc_elim hM
  refine v_callVi (ci := 7) (rest := []) C (c_X7_isAddress hX  e6) mw_X7_isAddress mi_X7_isAddress ml_RX7_311 hX.symm zm7 rfl rfl ⟨by decide, Nat.le_of_ble_eq_true rfl⟩ rfl (Nat.le_of_ble_eq_true rfl) dX7_memory_6 rfl ?_
  refine v_if_eq C 25 dX7_memory_9 rfl hM (fun hM => ?_) (fun hM => ?_)
  · refine v_aload_n C 0 dX7_memory_25 rfl rfl ?_
    refine v_iconst C (nI 1) dX7_memory_26 zk_1 ?_
    obtain ⟨x7, g8, e9, hM⟩ := zc_elim hM
    refine v_callVi (ci := 7) (rest := []) C (c_X7_no hX  e9) mw_X7_no mi_X7_no ml_RX7_214 hX.symm zm7 rfl rfl ⟨by decide, Nat.le_of_ble_eq_true rfl⟩ rfl (Nat.le_of_ble_eq_true rfl) dX7_memory_27 rfl ?_
    exact v_iret2 C hr dX7_memory_30 hM
  · refine v_aload_n C 0 dX7_memory_12 rfl rfl ?_
    refine gf_RX7_53 C hX dX7_memory_13 ?_
    refine v_sipush C (nI 254) dX7_memory_16 zks_254 ?_
    refine v_iload_n C 1 dX7_memory_19 rfl rfl ?_
    refine v_iadd C dX7_memory_20 ?_
    refine ia_43 C hX dX7_memory_21 hM (fun hM _ => ?_)
    refine v_goto C 30 dX7_memory_22 rfl ?_
    exact v_iret2 C hr dX7_memory_30 hM

theorem t_X7_plainBegins_l2  (hX : zfl X = true) (C : Cx X p (zrm 0) s m args meth c cX7_plainBegins 2 RX7 0 0) (hr : meth.sig.returnType = none)  : ∀ (n : Nat) {v1 : Int32} (g : zG), X7_plainBegins_l2  n v1 g = some (rr, gr) → V X p l e (zrm 0) s m args below meth c 2 0 0 (MQ below (zQ X (Option.map (zM X) none) gr) args s 0 0 (zF X)) g 2 [some (.inr (.inl (7, 0))), some (.inl v1)] [] := by
  intro n
  induction n with
  | zero =>
    intro v1 g  hM
    exact absurd (show (none : Option (Int32 × zG)) = some (rr, gr) from hM) (by simp)
  | succ n ih =>
    intro v1 g  hM
    rw [X7_plainBegins_l2.eq_2] at hM
    refine v_iload_n C 1 dX7_plainBegins_2 rfl rfl ?_
    refine v_bipush C (nI 64) dX7_plainBegins_3 zkb_64 ?_
    refine v_icmp_ge C 26 dX7_plainBegins_5 rfl hM (fun hM => ?_) (fun hM => ?_)
    · exact v_vret2 C hr dX7_plainBegins_26 hM
    · refine v_aload_n C 0 dX7_plainBegins_8 rfl rfl ?_
      refine gf_RX7_62 C hX dX7_plainBegins_9 ?_
      refine v_iload_n C 1 dX7_plainBegins_12 rfl rfl ?_
      refine v_aload_n C 0 dX7_plainBegins_13 rfl rfl ?_
      refine gf_RX7_23 C hX dX7_plainBegins_14 ?_
      refine v_iload_n C 1 dX7_plainBegins_17 rfl rfl ?_
      refine ia_33 C hX dX7_plainBegins_18 hM (fun hM _ => ?_)
      refine is_46 C hX dX7_plainBegins_19 hM (fun g1 hM => ?_)
      refine v_iinc (L' := [some (.inr (.inl (7, 0))), some (.inl (v1 + (nI 1)))]) C 1 (nI 1) dX7_plainBegins_20 zk_1 (by decide) rfl rfl ?_
      refine v_goto C 2 dX7_plainBegins_23 rfl ?_
      exact ih g1  hM

theorem c_X7_plainBegins {X : zX} (hX : zfl X = true)  {g gr : zG} {rr : Int32}  (hM : X7_plainBegins  g = some (rr, gr)) : MC X yX7_plainBegins cX7_plainBegins 2 none 0 [.inr (.inl (7, 0))] none g gr := by
  refine MC.mk (own := RX7) (L := [some (.inr (.inl (7, 0))), none]) (by decide) rfl trivial (Nat.le_of_ble_eq_true rfl) rfl ?_
  intro p l e s m args below meth c C hr
  unfold X7_plainBegins at hM
  refine v_iconst C (nI 0) dX7_plainBegins_0 zk_0 ?_
  refine v_istore_n (L' := [some (.inr (.inl (7, 0))), some (.inl (nI 0))]) C 1 dX7_plainBegins_1 rfl (by decide) rfl ?_
  exact t_X7_plainBegins_l2 hX C hr  _ g  hM

theorem t_X7_plainly_b24 {v1 : Int32} {s0 : Int32} {s1 : Int32}  {g : zG} (hX : zfl X = true) (C : Cx X p (zrm 1) s m args meth c cX7_plainly 3 RX7 0 0) (hr : meth.sig.returnType = none)   (hM : X7_plainly_b24  v1 s0 s1 g = some (rr, gr)) : V X p l e (zrm 1) s m args below meth c 3 0 0 (MQ below (zQ X (Option.map (zM X) none) gr) args s 0 0 (zF X)) g 24 [some (.inr (.inl (7, 0))), some (.inl v1), none] [(.inl s1), (.inl s0)] := by
  unfold X7_plainly_b24 at hM
  refine v_iadd C dX7_plainly_24 ?_
  refine v_aload_n C 0 dX7_plainly_25 rfl rfl ?_
  refine v_aload_n C 0 dX7_plainly_26 rfl rfl ?_
  refine gf_RX7_17 C hX dX7_plainly_27 ?_
  refine v_iconst C (nI 2) dX7_plainly_30 zk_2 ?_
  refine ia_31 C hX dX7_plainly_31 hM (fun hM _ => ?_)
  obtain ⟨x1, g2, e3, hM⟩ := zc_elim hM
  refine v_callVi (ci := 7) (rest := [(.inl (s0 + s1))]) C (c_X7_addresses hX  e3) mw_X7_addresses mi_X7_addresses ml_RX7_165 hX.symm zm7 rfl rfl ⟨by decide, Nat.le_of_ble_eq_true rfl⟩ rfl (Nat.le_of_ble_eq_true rfl) dX7_plainly_32 rfl ?_
  refine v_irem C dX7_plainly_35 hM (fun hM => ?_)
  refine v_istore_n (L' := [some (.inr (.inl (7, 0))), some (.inl v1), some (.inl ((s0 + s1) - (s0 + s1) / x1 * x1))]) C 2 dX7_plainly_36 rfl (by decide) rfl ?_
  refine v_aload_n C 0 dX7_plainly_37 rfl rfl ?_
  refine gf_RX7_35 C hX dX7_plainly_38 ?_
  refine v_iload_n C 1 dX7_plainly_41 rfl rfl ?_
  refine ia_37 C hX dX7_plainly_42 hM (fun hM _ => ?_)
  by_cases hx0 : (g2 37 0 v1.toNatClampNeg) = (nI 0)
  · rw [if_pos hx0] at hM
    refine v_tblIn C 84 0 dX7_plainly_43 (by rw [hx0]; rfl) (by decide) (by decide) rfl rfl ?_
    refine v_aload_n C 0 dX7_plainly_84 rfl rfl ?_
    refine v_iconst C (nI 0) dX7_plainly_85 zk_0 ?_
    refine pf_RX7_320 C hX dX7_plainly_86 hM (fun g4 hM => ?_)
    refine v_aload_n C 0 dX7_plainly_89 rfl rfl ?_
    refine v_iconst C (nI 0) dX7_plainly_90 zk_0 ?_
    refine pf_RX7_317 C hX dX7_plainly_91 hM (fun g5 hM => ?_)
    refine v_goto C 175 dX7_plainly_94 rfl ?_
    exact v_vret2 C hr dX7_plainly_175 hM
  rw [if_neg hx0] at hM
  by_cases hx1 : (g2 37 0 v1.toNatClampNeg) = (nI 1)
  · rw [if_pos hx1] at hM
    refine v_tblIn C 175 1 dX7_plainly_43 (by rw [hx1]; rfl) (by decide) (by decide) rfl rfl ?_
    exact v_vret2 C hr dX7_plainly_175 hM
  rw [if_neg hx1] at hM
  by_cases hx2 : (g2 37 0 v1.toNatClampNeg) = (nI 2)
  · rw [if_pos hx2] at hM
    refine v_tblIn C 97 2 dX7_plainly_43 (by rw [hx2]; rfl) (by decide) (by decide) rfl rfl ?_
    refine v_aload_n C 0 dX7_plainly_97 rfl rfl ?_
    refine v_aload_n C 0 dX7_plainly_98 rfl rfl ?_
    refine gf_RX7_320 C hX dX7_plainly_99 ?_
    refine pf_RX7_317 C hX dX7_plainly_102 hM (fun g6 hM => ?_)
    refine v_goto C 175 dX7_plainly_105 rfl ?_
    exact v_vret2 C hr dX7_plainly_175 hM
  rw [if_neg hx2] at hM
  by_cases hx3 : (g2 37 0 v1.toNatClampNeg) = (nI 3)
  · rw [if_pos hx3] at hM
    refine v_tblIn C 108 3 dX7_plainly_43 (by rw [hx3]; rfl) (by decide) (by decide) rfl rfl ?_
    refine v_aload_n C 0 dX7_plainly_108 rfl rfl ?_
    refine v_aload_n C 0 dX7_plainly_109 rfl rfl ?_
    refine gf_RX7_62 C hX dX7_plainly_110 ?_
    refine v_iload_n C 2 dX7_plainly_113 rfl rfl ?_
    refine ia_46 C hX dX7_plainly_114 hM (fun hM _ => ?_)
    refine pf_RX7_320 C hX dX7_plainly_115 hM (fun g7 hM => ?_)
    refine v_goto C 175 dX7_plainly_118 rfl ?_
    exact v_vret2 C hr dX7_plainly_175 hM
  rw [if_neg hx3] at hM
  by_cases hx4 : (g2 37 0 v1.toNatClampNeg) = (nI 4)
  · rw [if_pos hx4] at hM
    refine v_tblIn C 121 4 dX7_plainly_43 (by rw [hx4]; rfl) (by decide) (by decide) rfl rfl ?_
    refine v_aload_n C 0 dX7_plainly_121 rfl rfl ?_
    refine gf_RX7_62 C hX dX7_plainly_122 ?_
    refine v_iload_n C 2 dX7_plainly_125 rfl rfl ?_
    refine v_aload_n C 0 dX7_plainly_126 rfl rfl ?_
    refine gf_RX7_320 C hX dX7_plainly_127 ?_
    refine is_46 C hX dX7_plainly_130 hM (fun g8 hM => ?_)
    refine v_goto C 175 dX7_plainly_131 rfl ?_
    exact v_vret2 C hr dX7_plainly_175 hM
  rw [if_neg hx4] at hM
  by_cases hx5 : (g2 37 0 v1.toNatClampNeg) = (nI 5)
  · rw [if_pos hx5] at hM
    refine v_tblIn C 134 5 dX7_plainly_43 (by rw [hx5]; rfl) (by decide) (by decide) rfl rfl ?_
    refine v_aload_n C 0 dX7_plainly_134 rfl rfl ?_
    refine v_aload_n C 0 dX7_plainly_135 rfl rfl ?_
    refine gf_RX7_320 C hX dX7_plainly_136 ?_
    refine v_aload_n C 0 dX7_plainly_139 rfl rfl ?_
    refine gf_RX7_41 C hX dX7_plainly_140 ?_
    refine v_iload_n C 1 dX7_plainly_143 rfl rfl ?_
    refine ia_39 C hX dX7_plainly_144 hM (fun hM _ => ?_)
    obtain ⟨x9, g10, e11, hM⟩ := zc_elim hM
    refine v_callSi (rest := [(.inr (.inl (7, 0)))]) C (c_X7_plus hX  e11) mw_X7_plus ms_X7_plus ml_RX7_299 ⟨by decide, Nat.le_of_ble_eq_true rfl⟩ rfl (Nat.le_of_ble_eq_true rfl) dX7_plainly_145 rfl ?_
    refine pf_RX7_320 C hX dX7_plainly_148 hM (fun g12 hM => ?_)
    refine v_goto C 175 dX7_plainly_151 rfl ?_
    exact v_vret2 C hr dX7_plainly_175 hM
  rw [if_neg hx5] at hM
  by_cases hx6 : (g2 37 0 v1.toNatClampNeg) = (nI 6)
  · rw [if_pos hx6] at hM
    refine v_tblIn C 154 6 dX7_plainly_43 (by rw [hx6]; rfl) (by decide) (by decide) rfl rfl ?_
    refine v_aload_n C 0 dX7_plainly_154 rfl rfl ?_
    refine v_aload_n C 0 dX7_plainly_155 rfl rfl ?_
    refine gf_RX7_320 C hX dX7_plainly_156 ?_
    refine v_aload_n C 0 dX7_plainly_159 rfl rfl ?_
    refine gf_RX7_41 C hX dX7_plainly_160 ?_
    refine v_iload_n C 1 dX7_plainly_163 rfl rfl ?_
    refine ia_39 C hX dX7_plainly_164 hM (fun hM _ => ?_)
    refine v_ineg C dX7_plainly_165 ?_
    obtain ⟨x13, g14, e15, hM⟩ := zc_elim hM
    refine v_callSi (rest := [(.inr (.inl (7, 0)))]) C (c_X7_plus hX  e15) mw_X7_plus ms_X7_plus ml_RX7_299 ⟨by decide, Nat.le_of_ble_eq_true rfl⟩ rfl (Nat.le_of_ble_eq_true rfl) dX7_plainly_166 rfl ?_
    refine pf_RX7_320 C hX dX7_plainly_169 hM (fun g16 hM => ?_)
    refine v_goto C 175 dX7_plainly_172 rfl ?_
    exact v_vret2 C hr dX7_plainly_175 hM
  rw [if_neg hx6] at hM
  refine v_tblOut C 175 dX7_plainly_43 (ztbl 7 rfl (by intro k hk; match k, hk with | 0, _ => exact hx0 | 1, _ => exact hx1 | 2, _ => exact hx2 | 3, _ => exact hx3 | 4, _ => exact hx4 | 5, _ => exact hx5 | 6, _ => exact hx6 | k + 7, hk => omega)) rfl ?_
  exact v_vret2 C hr dX7_plainly_175 hM

theorem c_X7_plainly {X : zX} (hX : zfl X = true) {v1 : Int32} {g gr : zG} {rr : Int32}  (hM : X7_plainly v1 g = some (rr, gr)) : MC X yX7_plainly cX7_plainly 3 none 1 [.inr (.inl (7, 0)), .inl v1] none g gr := by
  refine MC.mk (own := RX7) (L := [some (.inr (.inl (7, 0))), some (.inl v1), none]) (by decide) rfl trivial (Nat.le_of_ble_eq_true rfl) rfl ?_
  intro p l e s m args below meth c C hr
  unfold X7_plainly at hM
  refine v_aload_n C 0 dX7_plainly_0 rfl rfl ?_
  refine gf_RX7_41 C hX dX7_plainly_1 ?_
  refine v_iload_n C 1 dX7_plainly_4 rfl rfl ?_
  refine ia_39 C hX dX7_plainly_5 hM (fun hM _ => ?_)
  refine v_aload_n C 0 dX7_plainly_6 rfl rfl ?_
  refine gf_RX7_47 C hX dX7_plainly_7 ?_
  refine v_iload_n C 1 dX7_plainly_10 rfl rfl ?_
  refine ia_41 C hX dX7_plainly_11 hM (fun hM _ => ?_)
  refine v_iconst C (nI 1) dX7_plainly_12 zk_1 ?_
  refine v_icmp_ne C 23 dX7_plainly_13 rfl hM (fun hM => ?_) (fun hM => ?_)
  · refine v_iconst C (nI 0) dX7_plainly_23 zk_0 ?_
    exact t_X7_plainly_b24 hX C hr   hM
  · refine v_aload_n C 0 dX7_plainly_16 rfl rfl ?_
    refine gf_RX7_317 C hX dX7_plainly_17 ?_
    refine v_goto C 24 dX7_plainly_20 rfl ?_
    exact t_X7_plainly_b24 hX C hr   hM

theorem t_X7_serially_l45 {k6 : Int32 → zG → Option (Int32 × zG)} (hX : zfl X = true) (C : Cx X p (zrm 2) s m args meth c cX7_serially 3 RX7 0 0) (hr : meth.sig.returnType = none) (hk6 : ∀ (v1 : Int32) (g : zG),  k6 v1 g = some (rr, gr) → V X p l e (zrm 2) s m args below meth c 3 0 0 (MQ below (zQ X (Option.map (zM X) none) gr) args s 0 0 (zF X)) g 6 [some (.inr (.inl (7, 0))), some (.inl v1), none] []) : ∀ (n : Nat) {v1 : Int32} {v2 : Int32} (g : zG), X7_serially_l45 k6 n v1 v2 g = some (rr, gr) → V X p l e (zrm 2) s m args below meth c 3 0 0 (MQ below (zQ X (Option.map (zM X) none) gr) args s 0 0 (zF X)) g 45 [some (.inr (.inl (7, 0))), some (.inl v1), some (.inl v2)] [] := by
  intro n
  induction n with
  | zero =>
    intro v1 v2 g  hM
    exact absurd (show (none : Option (Int32 × zG)) = some (rr, gr) from hM) (by simp)
  | succ n ih =>
    intro v1 v2 g  hM
    rw [X7_serially_l45.eq_2] at hM
    refine v_aload_n C 0 dX7_serially_45 rfl rfl ?_
    refine gf_RX7_35 C hX dX7_serially_46 ?_
    refine v_iload_n C 2 dX7_serially_49 rfl rfl ?_
    refine ia_37 C hX dX7_serially_50 hM (fun hM _ => ?_)
    refine v_iconst C (nI 1) dX7_serially_51 zk_1 ?_
    refine v_icmp_eq C 66 dX7_serially_52 rfl hM (fun hM => ?_) (fun hM => ?_)
    · refine v_iinc (L' := [some (.inr (.inl (7, 0))), some (.inl (v1 + (nI 1))), some (.inl v2)]) C 1 (nI 1) dX7_serially_66 zk_1 (by decide) rfl rfl ?_
      refine v_goto C 6 dX7_serially_69 rfl ?_
      exact v_weak (hk6 (v1 + (nI 1)) g  hM) (show zsub [some (.inr (.inl (7, 0))), some (.inl (v1 + (nI 1))), none] [some (.inr (.inl (7, 0))), some (.inl (v1 + (nI 1))), some (.inl v2)] from ⟨rfl, ⟨rfl, trivial⟩⟩)
    · refine v_aload_n C 0 dX7_serially_55 rfl rfl ?_
      refine v_iload_n C 2 dX7_serially_56 rfl rfl ?_
      obtain ⟨x1, g2, e3, hM⟩ := zc_elim hM
      refine v_callVv (ci := 7) (rest := []) C (c_X7_plainly hX  e3) mw_X7_plainly mi_X7_plainly ml_RX7_326 hX.symm zm7 rfl rfl ⟨by decide, Nat.le_of_ble_eq_true rfl⟩ rfl (Nat.le_of_ble_eq_true rfl) dX7_serially_57 rfl ?_
      refine v_iinc (L' := [some (.inr (.inl (7, 0))), some (.inl v1), some (.inl (v2 + (nI 1)))]) C 2 (nI 1) dX7_serially_60 zk_1 (by decide) rfl rfl ?_
      refine v_goto C 45 dX7_serially_63 rfl ?_
      exact ih g2  hM

theorem t_X7_serially_l6  (hX : zfl X = true) (C : Cx X p (zrm 2) s m args meth c cX7_serially 3 RX7 0 0) (hr : meth.sig.returnType = none)  : ∀ (n : Nat) {v1 : Int32} (g : zG), X7_serially_l6  n v1 g = some (rr, gr) → V X p l e (zrm 2) s m args below meth c 3 0 0 (MQ below (zQ X (Option.map (zM X) none) gr) args s 0 0 (zF X)) g 6 [some (.inr (.inl (7, 0))), some (.inl v1), none] [] := by
  intro n
  induction n with
  | zero =>
    intro v1 g  hM
    exact absurd (show (none : Option (Int32 × zG)) = some (rr, gr) from hM) (by simp)
  | succ n ih =>
    intro v1 g  hM
    rw [X7_serially_l6.eq_2] at hM
    refine v_iload_n C 1 dX7_serially_6 rfl rfl ?_
    refine v_aload_n C 0 dX7_serially_7 rfl rfl ?_
    refine gf_RX7_53 C hX dX7_serially_8 ?_
    refine v_iconst C (nI 4) dX7_serially_11 zk_4 ?_
    refine ia_43 C hX dX7_serially_12 hM (fun hM _ => ?_)
    refine v_icmp_ge C 72 dX7_serially_13 rfl hM (fun hM => ?_) (fun hM => ?_)
    · exact v_vret2 C hr dX7_serially_72 hM
    · refine v_bipush C (nI 24) dX7_serially_16 zkb_24 ?_
      refine v_aload_n C 0 dX7_serially_18 rfl rfl ?_
      refine gf_RX7_53 C hX dX7_serially_19 ?_
      refine v_bipush C (nI 62) dX7_serially_22 zkb_62 ?_
      refine v_iconst C (nI 4) dX7_serially_24 zk_4 ?_
      refine v_iload_n C 1 dX7_serially_25 rfl rfl ?_
      refine v_imul C dX7_serially_26 ?_
      refine v_iadd C dX7_serially_27 ?_
      refine ia_43 C hX dX7_serially_28 hM (fun hM _ => ?_)
      refine v_imul C dX7_serially_29 ?_
      refine v_aload_n C 0 dX7_serially_30 rfl rfl ?_
      refine gf_RX7_53 C hX dX7_serially_31 ?_
      refine v_bipush C (nI 62) dX7_serially_34 zkb_62 ?_
      refine v_iconst C (nI 4) dX7_serially_36 zk_4 ?_
      refine v_iload_n C 1 dX7_serially_37 rfl rfl ?_
      refine v_imul C dX7_serially_38 ?_
      refine v_iadd C dX7_serially_39 ?_
      refine v_iconst C (nI 1) dX7_serially_40 zk_1 ?_
      refine v_iadd C dX7_serially_41 ?_
      refine ia_43 C hX dX7_serially_42 hM (fun hM _ => ?_)
      refine v_iadd C dX7_serially_43 ?_
      refine v_istore_n (L' := [some (.inr (.inl (7, 0))), some (.inl v1), some (.inl (((nI 24) * (g 43 0 ((nI 62) + ((nI 4) * v1)).toNatClampNeg)) + (g 43 0 (((nI 62) + ((nI 4) * v1)) + (nI 1)).toNatClampNeg)))]) C 2 dX7_serially_44 rfl (by decide) rfl ?_
      exact t_X7_serially_l45 hX C hr (fun v1 g  hM => ih g  hM) _ g  hM

theorem c_X7_serially {X : zX} (hX : zfl X = true)  {g gr : zG} {rr : Int32}  (hM : X7_serially  g = some (rr, gr)) : MC X yX7_serially cX7_serially 3 none 2 [.inr (.inl (7, 0))] none g gr := by
  refine MC.mk (own := RX7) (L := [some (.inr (.inl (7, 0))), none, none]) (by decide) rfl trivial (Nat.le_of_ble_eq_true rfl) rfl ?_
  intro p l e s m args below meth c C hr
  unfold X7_serially at hM
  refine v_aload_n C 0 dX7_serially_0 rfl rfl ?_
  obtain ⟨x1, g2, e3, hM⟩ := zc_elim hM
  refine v_callVv (ci := 7) (rest := []) C (c_X7_plainBegins hX  e3) mw_X7_plainBegins mi_X7_plainBegins ml_RX7_323 hX.symm zm7 rfl rfl ⟨by decide, Nat.le_of_ble_eq_true rfl⟩ rfl (Nat.le_of_ble_eq_true rfl) dX7_serially_1 rfl ?_
  refine v_iconst C (nI 0) dX7_serially_4 zk_0 ?_
  refine v_istore_n (L' := [some (.inr (.inl (7, 0))), some (.inl (nI 0)), none]) C 1 dX7_serially_5 rfl (by decide) rfl ?_
  exact t_X7_serially_l6 hX C hr  _ g2  hM

end ZL
