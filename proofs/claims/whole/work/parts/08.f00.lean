noncomputable def f_X5_byteAt (k : Nat) (a0 : Int) (m : tg_Mem) : tg_R :=
  tg_jn (γ := tg_R) (some ((-1), m)) (fun j27 =>
    if a0 < 0 then
      j27
    else
      if m k 1 ≤ a0 then
        j27
      else
        if 40 ≤ a0 then
          j27
        else
          tg_ck (0 ≤ a0 ∧ a0 < 40) (
            some (m (k + 1) (a0).toNat, m)))
theorem hy_X5_byteAt : yX5_byteAt.cls = RX5 ∧ yX5_byteAt.cls ≠ "java/lang/invoke/MethodHandle" ∧ yX5_byteAt.cls ≠ "java/lang/invoke/VarHandle" ∧ (parseMethodDescriptor yX5_byteAt.desc).map (fun q => q.parameters.length) = some 1 := by decide +kernel
set_option maxRecDepth 100000 in
set_option maxHeartbeats 4000000 in
theorem k_X5_byteAt {k : Nat} (hk : tg_okT k) (a0 : Int) (m : tg_Mem) : tg_C yX5_byteAt cX5_byteAt 2 (some .int) 1 LX [tr_ k, ti_ a0] (f_X5_byteAt k a0 m) m := by
  refine ta_enter2 (own := RX5) (by decide +kernel) rfl rfl (Nat.le_of_ble_eq_true rfl) rfl (fun E hE => ?_)
  unfold f_X5_byteAt
  refine ta_iloadn hE dX5_byteAt_0 rfl ?_
  refine ta_join (γ := tg_R) (fun J => tg_AW E LX (some .int) J 27 [tj_, tj_] [] m) ?_ (fun j27 hj27 => ?_)
  · refine ta_iconst (v := (-1)) hE dX5_byteAt_27 rfl ⟨by decide, by decide⟩ ?_
    exact ta_iret hE dX5_byteAt_28
  · refine ta_if_lt (tgt := 27) hE dX5_byteAt_1 (by decide) (fun c1 => ?_) (fun c1 => ?_)
    · exact (ta_wk (i := 0) (lv2 := [tj_, ti_ a0]) rfl (ta_wk (i := 1) (lv2 := [tj_, tj_]) rfl hj27))
    · refine ta_iloadn hE dX5_byteAt_4 rfl ?_
      refine ta_aloadn hE dX5_byteAt_5 rfl ?_
      refine gf_X5_15 hE dX5_byteAt_6 (hk.1) rfl ?_
      refine ta_icmp_ge (tgt := 27) hE dX5_byteAt_9 (by decide) (fun c9 => ?_) (fun c9 => ?_)
      · exact (ta_wk (i := 0) (lv2 := [tj_, ti_ a0]) rfl (ta_wk (i := 1) (lv2 := [tj_, tj_]) rfl hj27))
      · refine ta_iloadn hE dX5_byteAt_12 rfl ?_
        refine bp_40 hE dX5_byteAt_13 ?_
        refine ta_icmp_ge (tgt := 27) hE dX5_byteAt_15 (by decide) (fun c15 => ?_) (fun c15 => ?_)
        · exact (ta_wk (i := 0) (lv2 := [tj_, ti_ a0]) rfl (ta_wk (i := 1) (lv2 := [tj_, tj_]) rfl hj27))
        · refine ta_aloadn hE dX5_byteAt_18 rfl ?_
          refine gr_X5_9 hE dX5_byteAt_19 (hk.1) rfl ?_
          refine ta_iloadn hE dX5_byteAt_22 rfl ?_
          refine ta_iald (n' := 40) hE dX5_byteAt_23 (hk.2) rfl (fun _ _ => ?_)
          refine ta_goto (tgt := 28) hE dX5_byteAt_24 (by decide) ?_
          exact ta_iret hE dX5_byteAt_28
noncomputable def f_X2_figure (a0 : Int) (a1 : Int) (m : tg_Mem) : tg_R :=
  tg_bd (f_X5_byteAt 2 (tg_wi ((tg_wi (4 * a0)) + a1)) m) (fun r9 m9 =>
    some (tg_wi (r9 - 48), m9))
theorem hy_X2_figure : yX2_figure.cls = RX2 ∧ yX2_figure.cls ≠ "java/lang/invoke/MethodHandle" ∧ yX2_figure.cls ≠ "java/lang/invoke/VarHandle" ∧ (parseMethodDescriptor yX2_figure.desc).map (fun q => q.parameters.length) = some 2 := by decide +kernel
set_option maxRecDepth 100000 in
set_option maxHeartbeats 4000000 in
theorem k_X2_figure   (a0 : Int) (a1 : Int) (m : tg_Mem) : tg_C yX2_figure cX2_figure 3 (some .int) 2 LX [tr_ 1, ti_ a0, ti_ a1] (f_X2_figure a0 a1 m) m := by
  refine ta_enter2 (own := RX2) (by decide +kernel) rfl rfl (Nat.le_of_ble_eq_true rfl) rfl (fun E hE => ?_)
  unfold f_X2_figure
  refine ta_aloadn hE dX2_figure_0 rfl ?_
  refine gr_X2_12 hE dX2_figure_1 lx_1 rfl ?_
  refine ta_iconst (v := 4) hE dX2_figure_4 rfl ⟨by decide, by decide⟩ ?_
  refine ta_iloadn hE dX2_figure_5 rfl ?_
  refine ta_imul hE dX2_figure_6 ?_
  refine ta_iloadn hE dX2_figure_7 rfl ?_
  refine ta_iadd hE dX2_figure_8 ?_
  refine ta_callV (C := RX5) (T := TX5) (st := []) hE dX2_figure_9 (k_X5_byteAt ok_2 (tg_wi ((tg_wi (4 * a0)) + a1)) m) ml_X2_62 im_X5_byteAt se_X5_byteAt in_X5 co_X5_byteAt hy_X5_byteAt ⟨Nat.le_of_ble_eq_true rfl, Nat.le_of_ble_eq_true rfl⟩ (ok_2.1) rfl rfl rfl (fun _ => Nat.le_of_ble_eq_true rfl) (fun r9 m9 hx9 hr9 => ?_)
  change tg_AW E _ _ _ _ _ (ti_ r9 :: _) _
  refine bp_48 hE dX2_figure_12 ?_
  refine ta_isub hE dX2_figure_14 ?_
  exact ta_iret hE dX2_figure_15
noncomputable def f_X2_isPlace (a0 : Int) (m : tg_Mem) : tg_R :=
  tg_jn (γ := tg_R) (some (0, m)) (fun j16 =>
    if a0 < 48 then
      j16
    else
      if 55 < a0 then
        j16
      else
        some (1, m))
theorem hy_X2_isPlace : yX2_isPlace.cls = RX2 ∧ yX2_isPlace.cls ≠ "java/lang/invoke/MethodHandle" ∧ yX2_isPlace.cls ≠ "java/lang/invoke/VarHandle" ∧ (parseMethodDescriptor yX2_isPlace.desc).map (fun q => q.parameters.length) = some 1 := by decide +kernel
set_option maxRecDepth 100000 in
set_option maxHeartbeats 4000000 in
theorem k_X2_isPlace   (a0 : Int) (m : tg_Mem) : tg_C yX2_isPlace cX2_isPlace 1 (some .boolean) 1 LX [ti_ a0] (f_X2_isPlace a0 m) m := by
  refine ta_enter2 (own := RX2) (by decide +kernel) rfl rfl (Nat.le_of_ble_eq_true rfl) rfl (fun E hE => ?_)
  unfold f_X2_isPlace
  refine ta_iloadn hE dX2_isPlace_0 rfl ?_
  refine bp_48 hE dX2_isPlace_1 ?_
  refine ta_join (γ := tg_R) (fun J => tg_AW E LX (some .boolean) J 16 [tj_] [] m) ?_ (fun j16 hj16 => ?_)
  · refine ta_iconst (v := 0) hE dX2_isPlace_16 rfl ⟨by decide, by decide⟩ ?_
    exact ta_zret hE dX2_isPlace_17 (Or.inl rfl)
  · refine ta_icmp_lt (tgt := 16) hE dX2_isPlace_3 (by decide) (fun c3 => ?_) (fun c3 => ?_)
    · exact (ta_wk (i := 0) (lv2 := [tj_]) rfl hj16)
    · refine ta_iloadn hE dX2_isPlace_6 rfl ?_
      refine bp_55 hE dX2_isPlace_7 ?_
      refine ta_icmp_gt (tgt := 16) hE dX2_isPlace_9 (by decide) (fun c9 => ?_) (fun c9 => ?_)
      · exact (ta_wk (i := 0) (lv2 := [tj_]) rfl hj16)
      · refine ta_iconst (v := 1) hE dX2_isPlace_12 rfl ⟨by decide, by decide⟩ ?_
        refine ta_goto (tgt := 17) hE dX2_isPlace_13 (by decide) ?_
        exact ta_zret hE dX2_isPlace_17 (Or.inr rfl)
noncomputable def f_X2_fits (a0 : Int) (m : tg_Mem) : tg_R :=
  tg_bd (f_X5_byteAt 2 a0 m) (fun r5 m5 =>
    if tg_iand a0 3 = 0 then
      tg_jn (γ := tg_Mem → tg_R) (fun (m_57 : tg_Mem) => some (0, m_57)) (fun j57 =>
        if 32 ≤ a0 then
          j57 m5
        else
          tg_bd (f_X2_isPlace r5 m5) (fun r47 m47 =>
            if r47 = 0 then
              j57 m47
            else
              some (1, m47)))
    else
      if tg_iand a0 3 = 1 then
        tg_bd (f_X2_isPlace r5 m5) (fun r60 m60 =>
          tg_jn (γ := tg_Mem → tg_R) (fun (m_84 : tg_Mem) => some (0, m_84)) (fun j84 =>
            if r60 = 0 then
              j84 m60
            else
              tg_bd (f_X5_byteAt 2 (tg_wi (a0 - 1)) m60) (fun r74 m74 =>
                if r5 = r74 then
                  j84 m74
                else
                  some (1, m74))))
      else
        if tg_iand a0 3 = 2 then
          tg_jn (γ := tg_R) (some (0, m5)) (fun j102 =>
            if r5 < 49 then
              j102
            else
              if 57 < r5 then
                j102
              else
                some (1, m5))
        else
          if r5 ≠ 59 then
            some (0, m5)
          else
            some (1, m5))
theorem hy_X2_fits : yX2_fits.cls = RX2 ∧ yX2_fits.cls ≠ "java/lang/invoke/MethodHandle" ∧ yX2_fits.cls ≠ "java/lang/invoke/VarHandle" ∧ (parseMethodDescriptor yX2_fits.desc).map (fun q => q.parameters.length) = some 1 := by decide +kernel
set_option maxRecDepth 100000 in
set_option maxHeartbeats 4000000 in
theorem k_X2_fits   (a0 : Int) (m : tg_Mem) : tg_C yX2_fits cX2_fits 3 (some .boolean) 2 LX [tr_ 1, ti_ a0] (f_X2_fits a0 m) m := by
  refine ta_enter2 (own := RX2) (by decide +kernel) rfl rfl (Nat.le_of_ble_eq_true rfl) rfl (fun E hE => ?_)
  unfold f_X2_fits
  refine ta_aloadn hE dX2_fits_0 rfl ?_
  refine gr_X2_12 hE dX2_fits_1 lx_1 rfl ?_
  refine ta_iloadn hE dX2_fits_4 rfl ?_
  refine ta_callV (C := RX5) (T := TX5) (st := []) hE dX2_fits_5 (k_X5_byteAt ok_2 a0 m) ml_X2_62 im_X5_byteAt se_X5_byteAt in_X5 co_X5_byteAt hy_X5_byteAt ⟨Nat.le_of_ble_eq_true rfl, Nat.le_of_ble_eq_true rfl⟩ (ok_2.1) rfl rfl rfl (fun _ => Nat.le_of_ble_eq_true rfl) (fun r5 m5 hx5 hr5 => ?_)
  change tg_AW E _ _ _ _ _ (ti_ r5 :: _) _
  refine ta_istoren (lv2 := [tr_ 1, ti_ a0, ti_ r5]) hE dX2_fits_8 (Nat.le_of_ble_eq_true rfl) rfl rfl ?_
  refine ta_iloadn hE dX2_fits_9 rfl ?_
  refine ta_iconst (v := 3) hE dX2_fits_10 rfl ⟨by decide, by decide⟩ ?_
  refine ta_iand hE dX2_fits_11 ?_
  refine ta_ite (fun q0 => ?_) (fun q0 => ?_)
  · refine ta_swc (tgt := 40) 0 hE dX2_fits_12 q0 (by decide) (by decide) rfl (by decide) ?_
    refine ta_iloadn hE dX2_fits_40 rfl ?_
    refine bp_32 hE dX2_fits_41 ?_
    refine ta_join (γ := tg_Mem → tg_R) (fun J => ∀ (m_57 : tg_Mem), tg_AW E LX (some .boolean) (J m_57) 57 [tj_, tj_, tj_] [] m_57) ?_ (fun j57 hj57 => ?_)
    · intro m_57
      refine ta_iconst (v := 0) hE dX2_fits_57 rfl ⟨by decide, by decide⟩ ?_
      exact ta_zret hE dX2_fits_58 (Or.inl rfl)
    · refine ta_icmp_ge (tgt := 57) hE dX2_fits_43 (by decide) (fun c43 => ?_) (fun c43 => ?_)
      · exact (ta_wk (i := 0) (lv2 := [tj_, ti_ a0, ti_ r5]) rfl (ta_wk (i := 1) (lv2 := [tj_, tj_, ti_ r5]) rfl (ta_wk (i := 2) (lv2 := [tj_, tj_, tj_]) rfl (hj57 m5))))
      · refine ta_iloadn hE dX2_fits_46 rfl ?_
        refine ta_callS (st := []) hE dX2_fits_47 (k_X2_isPlace r5 m5) ml_X2_66 st_X2_isPlace in_X2 co_X2_isPlace hy_X2_isPlace.2 ⟨Nat.le_of_ble_eq_true rfl, Nat.le_of_ble_eq_true rfl⟩ rfl rfl (fun _ => Nat.le_of_ble_eq_true rfl) (fun r47 m47 hx47 hr47 => ?_)
        change tg_AW E _ _ _ _ _ (ti_ r47 :: _) _
        refine ta_if_eq (tgt := 57) hE dX2_fits_50 (by decide) (fun c50 => ?_) (fun c50 => ?_)
        · exact (ta_wk (i := 0) (lv2 := [tj_, ti_ a0, ti_ r5]) rfl (ta_wk (i := 1) (lv2 := [tj_, tj_, ti_ r5]) rfl (ta_wk (i := 2) (lv2 := [tj_, tj_, tj_]) rfl (hj57 m47))))
        · refine ta_iconst (v := 1) hE dX2_fits_53 rfl ⟨by decide, by decide⟩ ?_
          refine ta_goto (tgt := 58) hE dX2_fits_54 (by decide) ?_
          exact ta_zret hE dX2_fits_58 (Or.inr rfl)
  · refine ta_ite (fun q1 => ?_) (fun q1 => ?_)
    · refine ta_swc (tgt := 59) 1 hE dX2_fits_12 q1 (by decide) (by decide) rfl (by decide) ?_
      refine ta_iloadn hE dX2_fits_59 rfl ?_
      refine ta_callS (st := []) hE dX2_fits_60 (k_X2_isPlace r5 m5) ml_X2_66 st_X2_isPlace in_X2 co_X2_isPlace hy_X2_isPlace.2 ⟨Nat.le_of_ble_eq_true rfl, Nat.le_of_ble_eq_true rfl⟩ rfl rfl (fun _ => Nat.le_of_ble_eq_true rfl) (fun r60 m60 hx60 hr60 => ?_)
      change tg_AW E _ _ _ _ _ (ti_ r60 :: _) _
      refine ta_join (γ := tg_Mem → tg_R) (fun J => ∀ (m_84 : tg_Mem), tg_AW E LX (some .boolean) (J m_84) 84 [tj_, tj_, tj_] [] m_84) ?_ (fun j84 hj84 => ?_)
      · intro m_84
        refine ta_iconst (v := 0) hE dX2_fits_84 rfl ⟨by decide, by decide⟩ ?_
        exact ta_zret hE dX2_fits_85 (Or.inl rfl)
      · refine ta_if_eq (tgt := 84) hE dX2_fits_63 (by decide) (fun c63 => ?_) (fun c63 => ?_)
        · exact (ta_wk (i := 0) (lv2 := [tj_, ti_ a0, ti_ r5]) rfl (ta_wk (i := 1) (lv2 := [tj_, tj_, ti_ r5]) rfl (ta_wk (i := 2) (lv2 := [tj_, tj_, tj_]) rfl (hj84 m60))))
        · refine ta_iloadn hE dX2_fits_66 rfl ?_
          refine ta_aloadn hE dX2_fits_67 rfl ?_
          refine gr_X2_12 hE dX2_fits_68 lx_1 rfl ?_
          refine ta_iloadn hE dX2_fits_71 rfl ?_
          refine ta_iconst (v := 1) hE dX2_fits_72 rfl ⟨by decide, by decide⟩ ?_
          refine ta_isub hE dX2_fits_73 ?_
          refine ta_callV (C := RX5) (T := TX5) (st := [ti_ r5]) hE dX2_fits_74 (k_X5_byteAt ok_2 (tg_wi (a0 - 1)) m60) ml_X2_62 im_X5_byteAt se_X5_byteAt in_X5 co_X5_byteAt hy_X5_byteAt ⟨Nat.le_of_ble_eq_true rfl, Nat.le_of_ble_eq_true rfl⟩ (ok_2.1) rfl rfl rfl (fun _ => Nat.le_of_ble_eq_true rfl) (fun r74 m74 hx74 hr74 => ?_)
          change tg_AW E _ _ _ _ _ (ti_ r74 :: _) _
          refine ta_icmp_eq (tgt := 84) hE dX2_fits_77 (by decide) (fun c77 => ?_) (fun c77 => ?_)
          · exact (ta_wk (i := 0) (lv2 := [tj_, ti_ a0, ti_ r5]) rfl (ta_wk (i := 1) (lv2 := [tj_, tj_, ti_ r5]) rfl (ta_wk (i := 2) (lv2 := [tj_, tj_, tj_]) rfl (hj84 m74))))
          · refine ta_iconst (v := 1) hE dX2_fits_80 rfl ⟨by decide, by decide⟩ ?_
            refine ta_goto (tgt := 85) hE dX2_fits_81 (by decide) ?_
            exact ta_zret hE dX2_fits_85 (Or.inr rfl)
    · refine ta_ite (fun q2 => ?_) (fun q2 => ?_)
      · refine ta_swc (tgt := 86) 2 hE dX2_fits_12 q2 (by decide) (by decide) rfl (by decide) ?_
        refine ta_iloadn hE dX2_fits_86 rfl ?_
        refine bp_49 hE dX2_fits_87 ?_
        refine ta_join (γ := tg_R) (fun J => tg_AW E LX (some .boolean) J 102 [tj_, tj_, tj_] [] m5) ?_ (fun j102 hj102 => ?_)
        · refine ta_iconst (v := 0) hE dX2_fits_102 rfl ⟨by decide, by decide⟩ ?_
          exact ta_zret hE dX2_fits_103 (Or.inl rfl)
        · refine ta_icmp_lt (tgt := 102) hE dX2_fits_89 (by decide) (fun c89 => ?_) (fun c89 => ?_)
          · exact (ta_wk (i := 0) (lv2 := [tj_, ti_ a0, ti_ r5]) rfl (ta_wk (i := 1) (lv2 := [tj_, tj_, ti_ r5]) rfl (ta_wk (i := 2) (lv2 := [tj_, tj_, tj_]) rfl hj102)))
          · refine ta_iloadn hE dX2_fits_92 rfl ?_
            refine bp_57 hE dX2_fits_93 ?_
            refine ta_icmp_gt (tgt := 102) hE dX2_fits_95 (by decide) (fun c95 => ?_) (fun c95 => ?_)
            · exact (ta_wk (i := 0) (lv2 := [tj_, ti_ a0, ti_ r5]) rfl (ta_wk (i := 1) (lv2 := [tj_, tj_, ti_ r5]) rfl (ta_wk (i := 2) (lv2 := [tj_, tj_, tj_]) rfl hj102)))
            · refine ta_iconst (v := 1) hE dX2_fits_98 rfl ⟨by decide, by decide⟩ ?_
              refine ta_goto (tgt := 103) hE dX2_fits_99 (by decide) ?_
              exact ta_zret hE dX2_fits_103 (Or.inr rfl)
      · refine ta_swd (tgt := 104) hE dX2_fits_12 (by omega) (by decide) ?_
        refine ta_iloadn hE dX2_fits_104 rfl ?_
        refine bp_59 hE dX2_fits_105 ?_
        refine ta_icmp_ne (tgt := 114) hE dX2_fits_107 (by decide) (fun c107 => ?_) (fun c107 => ?_)
        · refine ta_iconst (v := 0) hE dX2_fits_114 rfl ⟨by decide, by decide⟩ ?_
          exact ta_zret hE dX2_fits_115 (Or.inl rfl)
        · refine ta_iconst (v := 1) hE dX2_fits_110 rfl ⟨by decide, by decide⟩ ?_
          refine ta_goto (tgt := 115) hE dX2_fits_111 (by decide) ?_
          exact ta_zret hE dX2_fits_115 (Or.inr rfl)
noncomputable def f_X2_firstFault_B2 (j29 : tg_Mem → tg_R) (self2 : Int → tg_Mem → tg_R) (v1_2 : Int) (m_2 : tg_Mem) : tg_R :=
  if m_2 2 1 ≤ v1_2 then
    j29 m_2
  else
    tg_bd (f_X2_fits v1_2 m_2) (fun r15 m15 =>
      if r15 ≠ 0 then
        tg_lt (tg_wi (v1_2 + 1)) (fun v1_23 =>
          self2 v1_23 m15)
      else
        some (v1_2, m15))
noncomputable def f_X2_firstFault  (m : tg_Mem) : tg_R :=
  tg_jn (γ := tg_Mem → tg_R) (fun (m_29 : tg_Mem) => tg_jn (γ := tg_R) (some ((-1), m_29)) (fun j52 =>
    if m_29 2 1 = 0 then
      j52
    else
      if tg_iand (m_29 2 1) 3 ≠ 3 then
        some (m_29 2 1, m_29)
      else
        j52)) (fun j29 =>
    tg_fx (γ := Int → tg_Mem → tg_R) (f_X2_firstFault_B2 j29) (fun _ _ => none) tg_FU 0 m)
theorem hy_X2_firstFault : yX2_firstFault.cls = RX2 ∧ yX2_firstFault.cls ≠ "java/lang/invoke/MethodHandle" ∧ yX2_firstFault.cls ≠ "java/lang/invoke/VarHandle" ∧ (parseMethodDescriptor yX2_firstFault.desc).map (fun q => q.parameters.length) = some 0 := by decide +kernel
set_option maxRecDepth 100000 in
set_option maxHeartbeats 4000000 in
theorem k_X2_firstFault    (m : tg_Mem) : tg_C yX2_firstFault cX2_firstFault 2 (some .int) 3 LX [tr_ 1] (f_X2_firstFault  m) m := by
  refine ta_enter2 (own := RX2) (by decide +kernel) rfl rfl (Nat.le_of_ble_eq_true rfl) rfl (fun E hE => ?_)
  unfold f_X2_firstFault
  refine ta_iconst (v := 0) hE dX2_firstFault_0 rfl ⟨by decide, by decide⟩ ?_
  refine ta_istoren (lv2 := [tr_ 1, ti_ 0]) hE dX2_firstFault_1 (Nat.le_of_ble_eq_true rfl) rfl rfl ?_
  refine ta_join (γ := tg_Mem → tg_R) (fun J => ∀ (m_29 : tg_Mem), tg_AW E LX (some .int) (J m_29) 29 [tr_ 1, tj_] [] m_29) ?_ (fun j29 hj29 => ?_)
  · intro m_29
    refine ta_aloadn hE dX2_firstFault_29 rfl ?_
    refine gr_X2_12 hE dX2_firstFault_30 lx_1 rfl ?_
    refine gf_X2_51 hE dX2_firstFault_33 (ok_2.1) rfl ?_
    refine ta_join (γ := tg_R) (fun J => tg_AW E LX (some .int) J 52 [tj_, tj_] [] m_29) ?_ (fun j52 hj52 => ?_)
    · refine ta_iconst (v := (-1)) hE dX2_firstFault_52 rfl ⟨by decide, by decide⟩ ?_
      refine ta_goto (tgt := 63) hE dX2_firstFault_53 (by decide) ?_
      exact ta_iret hE dX2_firstFault_63
    · refine ta_if_eq (tgt := 52) hE dX2_firstFault_36 (by decide) (fun c36 => ?_) (fun c36 => ?_)
      · exact (ta_wk (i := 0) (lv2 := [tj_, tj_]) rfl hj52)
      · refine ta_aloadn hE dX2_firstFault_39 rfl ?_
        refine gr_X2_12 hE dX2_firstFault_40 lx_1 rfl ?_
        refine gf_X2_51 hE dX2_firstFault_43 (ok_2.1) rfl ?_
        refine ta_iconst (v := 3) hE dX2_firstFault_46 rfl ⟨by decide, by decide⟩ ?_
        refine ta_iand hE dX2_firstFault_47 ?_
        refine ta_iconst (v := 3) hE dX2_firstFault_48 rfl ⟨by decide, by decide⟩ ?_
        refine ta_icmp_ne (tgt := 56) hE dX2_firstFault_49 (by decide) (fun c49 => ?_) (fun c49 => ?_)
        · refine ta_aloadn hE dX2_firstFault_56 rfl ?_
          refine gr_X2_12 hE dX2_firstFault_57 lx_1 rfl ?_
          refine gf_X2_51 hE dX2_firstFault_60 (ok_2.1) rfl ?_
          exact ta_iret hE dX2_firstFault_63
        · exact (ta_wk (i := 0) (lv2 := [tj_, tj_]) rfl hj52)
  · have hl2 := ta_fx (γ := Int → tg_Mem → tg_R) (F := (f_X2_firstFault_B2 j29)) (z := (fun _ _ => none)) (fun J => ∀ (v1_2 : Int) (m_2 : tg_Mem), tg_AW E LX (some .int) (J v1_2 m_2) 2 [tr_ 1, ti_ v1_2] [] m_2) (by intros; exact ta_none) (fun self2 hself2 => by
        intro v1_2 m_2
        unfold f_X2_firstFault_B2
        refine ta_iloadn hE dX2_firstFault_2 rfl ?_
        refine ta_aloadn hE dX2_firstFault_3 rfl ?_
        refine gr_X2_12 hE dX2_firstFault_4 lx_1 rfl ?_
        refine gf_X2_51 hE dX2_firstFault_7 (ok_2.1) rfl ?_
        refine ta_icmp_ge (tgt := 29) hE dX2_firstFault_10 (by decide) (fun c10 => ?_) (fun c10 => ?_)
        · exact (ta_wk (i := 1) (lv2 := [tr_ 1, tj_]) rfl (hj29 m_2))
        · refine ta_aloadn hE dX2_firstFault_13 rfl ?_
          refine ta_iloadn hE dX2_firstFault_14 rfl ?_
          refine ta_callV (C := RX2) (T := TX2) (st := []) hE dX2_firstFault_15 (k_X2_fits v1_2 m_2) ml_X2_58 im_X2_fits se_X2_fits in_X2 co_X2_fits hy_X2_fits ⟨Nat.le_of_ble_eq_true rfl, Nat.le_of_ble_eq_true rfl⟩ lx_1 rfl rfl rfl (fun _ => Nat.le_of_ble_eq_true rfl) (fun r15 m15 hx15 hr15 => ?_)
          change tg_AW E _ _ _ _ _ (ti_ r15 :: _) _
          refine ta_if_ne (tgt := 23) hE dX2_firstFault_18 (by decide) (fun c18 => ?_) (fun c18 => ?_)
          · refine ta_iincn (lv2 := fun v1_23 => [tr_ 1, ti_ v1_23]) hE dX2_firstFault_23 rfl rfl rfl (fun v1_23 => ?_)
            refine ta_goto (tgt := 2) hE dX2_firstFault_26 (by decide) ?_
            exact (hself2 v1_23 m15)
          · refine ta_iloadn hE dX2_firstFault_21 rfl ?_
            exact ta_iret hE dX2_firstFault_22)
    exact (hl2 tg_FU 0 m)
noncomputable def f_X2_survey_B37  (self37 : Int → tg_Mem → tg_R) (v1_37 : Int) (m_37 : tg_Mem) : tg_R :=
  if m_37 1 8 ≤ v1_37 then
    some (0, m_37)
  else
    if 8 ≤ v1_37 then
      some (0, m_37)
    else
      tg_bd (f_X2_figure v1_37 0 m_37) (fun r59 m59 =>
        tg_ck (0 ≤ v1_37 ∧ v1_37 < 8) (
          tg_lt (tg_up m59 7 (v1_37).toNat r59) (fun m62 =>
            tg_bd (f_X2_figure v1_37 1 m62) (fun r71 m71 =>
              tg_ck (0 ≤ v1_37 ∧ v1_37 < 8) (
                tg_lt (tg_up m71 8 (v1_37).toNat r71) (fun m74 =>
                  tg_bd (f_X2_figure v1_37 2 m74) (fun r83 m83 =>
                    tg_ck (0 ≤ v1_37 ∧ v1_37 < 8) (
                      tg_lt (tg_up m83 9 (v1_37).toNat r83) (fun m86 =>
                        tg_lt (tg_wi (v1_37 + 1)) (fun v1_87 =>
                          self37 v1_87 m86))))))))))
noncomputable def f_X2_survey  (m : tg_Mem) : tg_R :=
  tg_bd (f_X2_firstFault  m) (fun r2 m2 =>
    tg_lt (tg_up m2 1 9 r2) (fun m5 =>
      tg_jn (γ := Int → tg_R) (fun (s0_32 : Int) => tg_lt (tg_up m5 1 8 s0_32) (fun m32 =>
        tg_fx (γ := Int → tg_Mem → tg_R) (f_X2_survey_B37) (fun _ _ => none) tg_FU 0 m32)) (fun j32 =>
        if m5 1 9 ≠ (-1) then
          j32 0
        else
          j32 (tg_ishr (tg_wi ((m5 2 1) + 1)) 2))))
theorem hy_X2_survey : yX2_survey.cls = RX2 ∧ yX2_survey.cls ≠ "java/lang/invoke/MethodHandle" ∧ yX2_survey.cls ≠ "java/lang/invoke/VarHandle" ∧ (parseMethodDescriptor yX2_survey.desc).map (fun q => q.parameters.length) = some 0 := by decide +kernel
set_option maxRecDepth 100000 in
set_option maxHeartbeats 4000000 in
theorem k_X2_survey    (m : tg_Mem) : tg_C yX2_survey cX2_survey 2 none 4 LX [tr_ 1] (f_X2_survey  m) m := by
  refine ta_enter2 (own := RX2) (by decide +kernel) rfl rfl (Nat.le_of_ble_eq_true rfl) rfl (fun E hE => ?_)
  unfold f_X2_survey
  refine ta_aloadn hE dX2_survey_0 rfl ?_
  refine ta_aloadn hE dX2_survey_1 rfl ?_
  refine ta_callV (C := RX2) (T := TX2) (st := [tr_ 1]) hE dX2_survey_2 (k_X2_firstFault m) ml_X2_47 im_X2_firstFault se_X2_firstFault in_X2 co_X2_firstFault hy_X2_firstFault ⟨Nat.le_of_ble_eq_true rfl, Nat.le_of_ble_eq_true rfl⟩ lx_1 rfl rfl rfl (fun _ => Nat.le_of_ble_eq_true rfl) (fun r2 m2 hx2 hr2 => ?_)
  change tg_AW E _ _ _ _ _ (ti_ r2 :: _) _
  refine pf_X2_44 hE dX2_survey_5 lx_1 rfl ?_
  refine ta_nmm (fun m5 => ?_)
  refine ta_aloadn hE dX2_survey_8 rfl ?_
  refine ta_aloadn hE dX2_survey_9 rfl ?_
  refine gf_X2_44 hE dX2_survey_10 lx_1 rfl ?_
  refine ta_iconst (v := (-1)) hE dX2_survey_13 rfl ⟨by decide, by decide⟩ ?_
  refine ta_join (γ := Int → tg_R) (fun J => ∀ (s0_32 : Int), tg_AW E LX none (J s0_32) 32 [tr_ 1, tj_] [ti_ s0_32, tr_ 1] m5) ?_ (fun j32 hj32 => ?_)
  · intro s0_32
    refine pf_X2_41 hE dX2_survey_32 lx_1 rfl ?_
    refine ta_nmm (fun m32 => ?_)
    refine ta_iconst (v := 0) hE dX2_survey_35 rfl ⟨by decide, by decide⟩ ?_
    refine ta_istoren (lv2 := [tr_ 1, ti_ 0]) hE dX2_survey_36 (Nat.le_of_ble_eq_true rfl) rfl rfl ?_
    have hl37 := ta_fx (γ := Int → tg_Mem → tg_R) (F := (f_X2_survey_B37)) (z := (fun _ _ => none)) (fun J => ∀ (v1_37 : Int) (m_37 : tg_Mem), tg_AW E LX none (J v1_37 m_37) 37 [tr_ 1, ti_ v1_37] [] m_37) (by intros; exact ta_none) (fun self37 hself37 => by
        intro v1_37 m_37
        unfold f_X2_survey_B37
        refine ta_iloadn hE dX2_survey_37 rfl ?_
        refine ta_aloadn hE dX2_survey_38 rfl ?_
        refine gf_X2_41 hE dX2_survey_39 lx_1 rfl ?_
        refine ta_icmp_ge (tgt := 93) hE dX2_survey_42 (by decide) (fun c42 => ?_) (fun c42 => ?_)
        · exact ta_vret hE dX2_survey_93
        · refine ta_iloadn hE dX2_survey_45 rfl ?_
          refine bp_8 hE dX2_survey_46 ?_
          refine ta_icmp_ge (tgt := 93) hE dX2_survey_48 (by decide) (fun c48 => ?_) (fun c48 => ?_)
          · exact ta_vret hE dX2_survey_93
          · refine ta_aloadn hE dX2_survey_51 rfl ?_
            refine gr_X2_28 hE dX2_survey_52 lx_1 rfl ?_
            refine ta_iloadn hE dX2_survey_55 rfl ?_
            refine ta_aloadn hE dX2_survey_56 rfl ?_
            refine ta_iloadn hE dX2_survey_57 rfl ?_
            refine ta_iconst (v := 0) hE dX2_survey_58 rfl ⟨by decide, by decide⟩ ?_
            refine ta_callV (C := RX2) (T := TX2) (st := [ti_ v1_37, tr_ 7]) hE dX2_survey_59 (k_X2_figure v1_37 0 m_37) ml_X2_54 im_X2_figure se_X2_figure in_X2 co_X2_figure hy_X2_figure ⟨Nat.le_of_ble_eq_true rfl, Nat.le_of_ble_eq_true rfl⟩ lx_1 rfl rfl rfl (fun _ => Nat.le_of_ble_eq_true rfl) (fun r59 m59 hx59 hr59 => ?_)
            change tg_AW E _ _ _ _ _ (ti_ r59 :: _) _
            refine ta_iast (n' := 8) hE dX2_survey_62 lx_7 rfl (fun _ _ => ?_)
            refine ta_nmm (fun m62 => ?_)
            refine ta_aloadn hE dX2_survey_63 rfl ?_
            refine gr_X2_31 hE dX2_survey_64 lx_1 rfl ?_
            refine ta_iloadn hE dX2_survey_67 rfl ?_
            refine ta_aloadn hE dX2_survey_68 rfl ?_
            refine ta_iloadn hE dX2_survey_69 rfl ?_
            refine ta_iconst (v := 1) hE dX2_survey_70 rfl ⟨by decide, by decide⟩ ?_
            refine ta_callV (C := RX2) (T := TX2) (st := [ti_ v1_37, tr_ 8]) hE dX2_survey_71 (k_X2_figure v1_37 1 m62) ml_X2_54 im_X2_figure se_X2_figure in_X2 co_X2_figure hy_X2_figure ⟨Nat.le_of_ble_eq_true rfl, Nat.le_of_ble_eq_true rfl⟩ lx_1 rfl rfl rfl (fun _ => Nat.le_of_ble_eq_true rfl) (fun r71 m71 hx71 hr71 => ?_)
            change tg_AW E _ _ _ _ _ (ti_ r71 :: _) _
            refine ta_iast (n' := 8) hE dX2_survey_74 lx_8 rfl (fun _ _ => ?_)
            refine ta_nmm (fun m74 => ?_)
            refine ta_aloadn hE dX2_survey_75 rfl ?_
            refine gr_X2_34 hE dX2_survey_76 lx_1 rfl ?_
            refine ta_iloadn hE dX2_survey_79 rfl ?_
            refine ta_aloadn hE dX2_survey_80 rfl ?_
            refine ta_iloadn hE dX2_survey_81 rfl ?_
            refine ta_iconst (v := 2) hE dX2_survey_82 rfl ⟨by decide, by decide⟩ ?_
            refine ta_callV (C := RX2) (T := TX2) (st := [ti_ v1_37, tr_ 9]) hE dX2_survey_83 (k_X2_figure v1_37 2 m74) ml_X2_54 im_X2_figure se_X2_figure in_X2 co_X2_figure hy_X2_figure ⟨Nat.le_of_ble_eq_true rfl, Nat.le_of_ble_eq_true rfl⟩ lx_1 rfl rfl rfl (fun _ => Nat.le_of_ble_eq_true rfl) (fun r83 m83 hx83 hr83 => ?_)
            change tg_AW E _ _ _ _ _ (ti_ r83 :: _) _
            refine ta_iast (n' := 8) hE dX2_survey_86 lx_9 rfl (fun _ _ => ?_)
            refine ta_nmm (fun m86 => ?_)
            refine ta_iincn (lv2 := fun v1_87 => [tr_ 1, ti_ v1_87]) hE dX2_survey_87 rfl rfl rfl (fun v1_87 => ?_)
            refine ta_goto (tgt := 37) hE dX2_survey_90 (by decide) ?_
            exact (hself37 v1_87 m86))
    exact (hl37 tg_FU 0 m32)
  · refine ta_icmp_ne (tgt := 31) hE dX2_survey_14 (by decide) (fun c14 => ?_) (fun c14 => ?_)
    · refine ta_iconst (v := 0) hE dX2_survey_31 rfl ⟨by decide, by decide⟩ ?_
      exact (hj32 0)
    · refine ta_aloadn hE dX2_survey_17 rfl ?_
      refine gr_X2_12 hE dX2_survey_18 lx_1 rfl ?_
      refine gf_X2_51 hE dX2_survey_21 (ok_2.1) rfl ?_
      refine ta_iconst (v := 1) hE dX2_survey_24 rfl ⟨by decide, by decide⟩ ?_
      refine ta_iadd hE dX2_survey_25 ?_
      refine ta_iconst (v := 2) hE dX2_survey_26 rfl ⟨by decide, by decide⟩ ?_
      refine ta_ishr hE dX2_survey_27 ?_
      refine ta_goto (tgt := 32) hE dX2_survey_28 (by decide) ?_
      exact (hj32 (tg_ishr (tg_wi ((m5 2 1) + 1)) 2))
noncomputable def f_X7_isBelow (a0 : Int) (a1 : Int) (m : tg_Mem) : tg_R :=
  tg_jn (γ := tg_R) (some (0, m)) (fun j13 =>
    if a0 < 0 then
      j13
    else
      if a1 ≤ a0 then
        j13
      else
        some (1, m))
theorem hy_X7_isBelow : yX7_isBelow.cls = RX7 ∧ yX7_isBelow.cls ≠ "java/lang/invoke/MethodHandle" ∧ yX7_isBelow.cls ≠ "java/lang/invoke/VarHandle" ∧ (parseMethodDescriptor yX7_isBelow.desc).map (fun q => q.parameters.length) = some 2 := by decide +kernel
set_option maxRecDepth 100000 in
set_option maxHeartbeats 4000000 in
theorem k_X7_isBelow   (a0 : Int) (a1 : Int) (m : tg_Mem) : tg_C yX7_isBelow cX7_isBelow 2 (some .boolean) 1 LX [ti_ a0, ti_ a1] (f_X7_isBelow a0 a1 m) m := by
  refine ta_enter2 (own := RX7) (by decide +kernel) rfl rfl (Nat.le_of_ble_eq_true rfl) rfl (fun E hE => ?_)
  unfold f_X7_isBelow
  refine ta_iloadn hE dX7_isBelow_0 rfl ?_
  refine ta_join (γ := tg_R) (fun J => tg_AW E LX (some .boolean) J 13 [tj_, tj_] [] m) ?_ (fun j13 hj13 => ?_)
  · refine ta_iconst (v := 0) hE dX7_isBelow_13 rfl ⟨by decide, by decide⟩ ?_
    exact ta_zret hE dX7_isBelow_14 (Or.inl rfl)
  · refine ta_if_lt (tgt := 13) hE dX7_isBelow_1 (by decide) (fun c1 => ?_) (fun c1 => ?_)
    · exact (ta_wk (i := 0) (lv2 := [tj_, ti_ a1]) rfl (ta_wk (i := 1) (lv2 := [tj_, tj_]) rfl hj13))
    · refine ta_iloadn hE dX7_isBelow_4 rfl ?_
      refine ta_iloadn hE dX7_isBelow_5 rfl ?_
      refine ta_icmp_ge (tgt := 13) hE dX7_isBelow_6 (by decide) (fun c6 => ?_) (fun c6 => ?_)
      · exact (ta_wk (i := 0) (lv2 := [tj_, ti_ a1]) rfl (ta_wk (i := 1) (lv2 := [tj_, tj_]) rfl hj13))
      · refine ta_iconst (v := 1) hE dX7_isBelow_9 rfl ⟨by decide, by decide⟩ ?_
        refine ta_goto (tgt := 14) hE dX7_isBelow_10 (by decide) ?_
        exact ta_zret hE dX7_isBelow_14 (Or.inr rfl)
noncomputable def f_X5_add (k : Nat) (a0 : Int) (m : tg_Mem) : tg_R :=
  tg_bd (f_X7_isBelow (m k 1) 40 m) (fun r6 m6 =>
    if r6 = 0 then
      some (0, m6)
    else
      tg_ck (0 ≤ m6 k 1 ∧ m6 k 1 < 40) (
        tg_lt (tg_up m6 (k + 1) (m6 k 1).toNat a0) (fun m21 =>
          tg_lt (tg_up m21 k 1 (tg_wi ((m21 k 1) + 1))) (fun m29 =>
            some (0, m29)))))
theorem hy_X5_add : yX5_add.cls = RX5 ∧ yX5_add.cls ≠ "java/lang/invoke/MethodHandle" ∧ yX5_add.cls ≠ "java/lang/invoke/VarHandle" ∧ (parseMethodDescriptor yX5_add.desc).map (fun q => q.parameters.length) = some 1 := by decide +kernel
set_option maxRecDepth 100000 in
set_option maxHeartbeats 4000000 in
theorem k_X5_add {k : Nat} (hk : tg_okT k) (a0 : Int) (m : tg_Mem) : tg_C yX5_add cX5_add 2 none 2 LX [tr_ k, ti_ a0] (f_X5_add k a0 m) m := by
  refine ta_enter2 (own := RX5) (by decide +kernel) rfl rfl (Nat.le_of_ble_eq_true rfl) rfl (fun E hE => ?_)
  unfold f_X5_add
  refine ta_aloadn hE dX5_add_0 rfl ?_
  refine gf_X5_15 hE dX5_add_1 (hk.1) rfl ?_
  refine bp_40 hE dX5_add_4 ?_
  refine ta_callN (host := RX7) (st := []) hE dX5_add_6 (k_X7_isBelow (m k 1) 40 m) nn_X5_19 st_X7_isBelow in_X7 co_X7_isBelow hy_X7_isBelow.2 ⟨Nat.le_of_ble_eq_true rfl, Nat.le_of_ble_eq_true rfl⟩ rfl rfl (fun _ => Nat.le_of_ble_eq_true rfl) (fun r6 m6 hx6 hr6 => ?_)
  change tg_AW E _ _ _ _ _ (ti_ r6 :: _) _
  refine ta_if_eq (tgt := 32) hE dX5_add_9 (by decide) (fun c9 => ?_) (fun c9 => ?_)
  · exact ta_vret hE dX5_add_32
  · refine ta_aloadn hE dX5_add_12 rfl ?_
    refine gr_X5_9 hE dX5_add_13 (hk.1) rfl ?_
    refine ta_aloadn hE dX5_add_16 rfl ?_
    refine gf_X5_15 hE dX5_add_17 (hk.1) rfl ?_
    refine ta_iloadn hE dX5_add_20 rfl ?_
    refine ta_iast (n' := 40) hE dX5_add_21 (hk.2) rfl (fun _ _ => ?_)
    refine ta_nmm (fun m21 => ?_)
    refine ta_aloadn hE dX5_add_22 rfl ?_
    refine ta_dup hE dX5_add_23 (fun _ => rfl) ?_
    refine gf_X5_15 hE dX5_add_24 (hk.1) rfl ?_
    refine ta_iconst (v := 1) hE dX5_add_27 rfl ⟨by decide, by decide⟩ ?_
    refine ta_iadd hE dX5_add_28 ?_
    refine pf_X5_15 hE dX5_add_29 (hk.1) rfl ?_
    refine ta_nmm (fun m29 => ?_)
    exact ta_vret hE dX5_add_32
noncomputable def f_X7_dayOf (a0 : Int) (m : tg_Mem) : tg_R :=
  if a0 ≠ 0 then
    some (((18 : Nat) : Int), m)
  else
    some (((10 : Nat) : Int), m)
theorem hy_X7_dayOf : yX7_dayOf.cls = RX7 ∧ yX7_dayOf.cls ≠ "java/lang/invoke/MethodHandle" ∧ yX7_dayOf.cls ≠ "java/lang/invoke/VarHandle" ∧ (parseMethodDescriptor yX7_dayOf.desc).map (fun q => q.parameters.length) = some 1 := by decide +kernel
set_option maxRecDepth 100000 in
set_option maxHeartbeats 4000000 in
theorem k_X7_dayOf   (a0 : Int) (m : tg_Mem) : tg_C yX7_dayOf cX7_dayOf 2 (some (.object "TwoGoats$Day")) 1 LX [tr_ 0, ti_ a0] (f_X7_dayOf a0 m) m := by
  refine ta_enter2 (own := RX7) (by decide +kernel) rfl rfl (Nat.le_of_ble_eq_true rfl) rfl (fun E hE => ?_)
  unfold f_X7_dayOf
  refine ta_iloadn hE dX7_dayOf_0 rfl ?_
  refine ta_if_ne (tgt := 11) hE dX7_dayOf_1 (by decide) (fun c1 => ?_) (fun c1 => ?_)
  · refine ta_aloadn hE dX7_dayOf_11 rfl ?_
    refine gr_X7_25 hE dX7_dayOf_12 lx_0 rfl ?_
    exact ta_aret hE dX7_dayOf_15
  · refine ta_aloadn hE dX7_dayOf_4 rfl ?_
    refine gr_X7_21 hE dX7_dayOf_5 lx_0 rfl ?_
    refine ta_goto (tgt := 15) hE dX7_dayOf_8 (by decide) ?_
    exact ta_aret hE dX7_dayOf_15
theorem ok_X7_dayOf {a : Int} {m m2 : tg_Mem} {r : Int} (h : f_X7_dayOf a m = some (r, m2)) : tg_okD r.toNat := by
  unfold f_X7_dayOf at h
  by_cases ha : a = 0
  · simp [ha, tg_jn] at h
    rw [← h.1]; exact ok_10
  · simp [ha, tg_jn] at h
    rw [← h.1]; exact ok_18
noncomputable def f_X7_textOf (a0 : Int) (m : tg_Mem) : tg_R :=
  if a0 ≠ 0 then
    tg_bd (f_X7_dayOf (tg_wi (a0 - 1)) m) (fun r18 m18 =>
      some ((((r18.toNat + 1) : Nat) : Int), m18))
  else
    some (((2 : Nat) : Int), m)
theorem hy_X7_textOf : yX7_textOf.cls = RX7 ∧ yX7_textOf.cls ≠ "java/lang/invoke/MethodHandle" ∧ yX7_textOf.cls ≠ "java/lang/invoke/VarHandle" ∧ (parseMethodDescriptor yX7_textOf.desc).map (fun q => q.parameters.length) = some 1 := by decide +kernel
set_option maxRecDepth 100000 in
set_option maxHeartbeats 4000000 in
theorem k_X7_textOf   (a0 : Int) (m : tg_Mem) : tg_C yX7_textOf cX7_textOf 2 (some (.object "TwoGoats$Text")) 2 LX [tr_ 0, ti_ a0] (f_X7_textOf a0 m) m := by
  refine ta_enter2 (own := RX7) (by decide +kernel) rfl rfl (Nat.le_of_ble_eq_true rfl) rfl (fun E hE => ?_)
  unfold f_X7_textOf
  refine ta_iloadn hE dX7_textOf_0 rfl ?_
  refine ta_if_ne (tgt := 14) hE dX7_textOf_1 (by decide) (fun c1 => ?_) (fun c1 => ?_)
  · refine ta_aloadn hE dX7_textOf_14 rfl ?_
    refine ta_iloadn hE dX7_textOf_15 rfl ?_
    refine ta_iconst (v := 1) hE dX7_textOf_16 rfl ⟨by decide, by decide⟩ ?_
    refine ta_isub hE dX7_textOf_17 ?_
    refine ta_callV (C := RX7) (T := TX7) (st := []) hE dX7_textOf_18 (k_X7_dayOf (tg_wi (a0 - 1)) m) ml_X7_90 im_X7_dayOf se_X7_dayOf in_X7 co_X7_dayOf hy_X7_dayOf ⟨Nat.le_of_ble_eq_true rfl, Nat.le_of_ble_eq_true rfl⟩ lx_0 rfl rfl rfl (fun _ => Nat.le_of_ble_eq_true rfl) (fun r18 m18 hx18 hr18 => ?_)
    change tg_AW E _ _ _ _ _ (tr_ r18.toNat :: _) _
    refine gr_X7_117 hE dX7_textOf_21 ((ok_X7_dayOf hx18).1) rfl ?_
    exact ta_aret hE dX7_textOf_24
  · refine ta_aloadn hE dX7_textOf_4 rfl ?_
    refine gr_X7_12 hE dX7_textOf_5 lx_0 rfl ?_
    refine gr_X7_261 hE dX7_textOf_8 lx_1 rfl ?_
    refine ta_goto (tgt := 24) hE dX7_textOf_11 (by decide) ?_
    exact ta_aret hE dX7_textOf_24
theorem ok_X7_textOf {a : Int} {m m2 : tg_Mem} {r : Int} (h : f_X7_textOf a m = some (r, m2)) : tg_okT r.toNat := by
  unfold f_X7_textOf at h
  by_cases ha : a = 0
  · simp [ha, tg_jn] at h
    rw [← h.1]; exact ok_2
  · simp only [ha, tg_jn, if_false, ne_eq, not_false_eq_true, if_true, ite_true, ite_false] at h
    obtain ⟨q, m3, h1, h2⟩ := tg_bd_of h
    cases h2
    have h9 := (ok_X7_dayOf h1).2.1
    exact h9
noncomputable def f_X7_type (a0 : Int) (a1 : Int) (m : tg_Mem) : tg_R :=
  tg_bd (f_X7_isBelow a0 3 m) (fun r2 m2 =>
    if r2 = 0 then
      some ((-2), m2)
    else
      tg_bd (f_X7_isBelow a1 256 m2) (fun r12 m12 =>
        if r12 ≠ 0 then
          tg_bd (f_X7_textOf a0 m12) (fun r23 m23 =>
            if m23 (r23.toNat) 1 < 40 then
              tg_bd (f_X5_add (r23.toNat) a1 m23) (fun _ m41 =>
                tg_bd (f_X2_survey  m41) (fun _ m48 =>
                  some (m48 (r23.toNat) 1, m48)))
            else
              some ((-4), m23))
        else
          some ((-2), m12)))
theorem hy_X7_type : yX7_type.cls = RX7 ∧ yX7_type.cls ≠ "java/lang/invoke/MethodHandle" ∧ yX7_type.cls ≠ "java/lang/invoke/VarHandle" ∧ (parseMethodDescriptor yX7_type.desc).map (fun q => q.parameters.length) = some 2 := by decide +kernel
set_option maxRecDepth 100000 in
set_option maxHeartbeats 4000000 in
theorem k_X7_type   (a0 : Int) (a1 : Int) (m : tg_Mem) : tg_C yX7_type cX7_type 4 (some .int) 5 LX [tr_ 0, ti_ a0, ti_ a1] (f_X7_type a0 a1 m) m := by
  refine ta_enter2 (own := RX7) (by decide +kernel) rfl rfl (Nat.le_of_ble_eq_true rfl) rfl (fun E hE => ?_)
  unfold f_X7_type
  refine ta_iloadn hE dX7_type_0 rfl ?_
  refine ta_iconst (v := 3) hE dX7_type_1 rfl ⟨by decide, by decide⟩ ?_
  refine ta_callS (st := []) hE dX7_type_2 (k_X7_isBelow a0 3 m) ml_X7_60 st_X7_isBelow in_X7 co_X7_isBelow hy_X7_isBelow.2 ⟨Nat.le_of_ble_eq_true rfl, Nat.le_of_ble_eq_true rfl⟩ rfl rfl (fun _ => Nat.le_of_ble_eq_true rfl) (fun r2 m2 hx2 hr2 => ?_)
  change tg_AW E _ _ _ _ _ (ti_ r2 :: _) _
  refine ta_if_eq (tgt := 18) hE dX7_type_5 (by decide) (fun c5 => ?_) (fun c5 => ?_)
  · refine bp_n2 hE dX7_type_18 ?_
    exact ta_iret hE dX7_type_20
  · refine ta_iloadn hE dX7_type_8 rfl ?_
    refine sp_256 hE dX7_type_9 ?_
    refine ta_callS (st := []) hE dX7_type_12 (k_X7_isBelow a1 256 m2) ml_X7_60 st_X7_isBelow in_X7 co_X7_isBelow hy_X7_isBelow.2 ⟨Nat.le_of_ble_eq_true rfl, Nat.le_of_ble_eq_true rfl⟩ rfl rfl (fun _ => Nat.le_of_ble_eq_true rfl) (fun r12 m12 hx12 hr12 => ?_)
    change tg_AW E _ _ _ _ _ (ti_ r12 :: _) _
    refine ta_if_ne (tgt := 21) hE dX7_type_15 (by decide) (fun c15 => ?_) (fun c15 => ?_)
    · refine ta_aloadn hE dX7_type_21 rfl ?_
      refine ta_iloadn hE dX7_type_22 rfl ?_
      refine ta_callV (C := RX7) (T := TX7) (st := []) hE dX7_type_23 (k_X7_textOf a0 m12) ml_X7_64 im_X7_textOf se_X7_textOf in_X7 co_X7_textOf hy_X7_textOf ⟨Nat.le_of_ble_eq_true rfl, Nat.le_of_ble_eq_true rfl⟩ lx_0 rfl rfl rfl (fun _ => Nat.le_of_ble_eq_true rfl) (fun r23 m23 hx23 hr23 => ?_)
      change tg_AW E _ _ _ _ _ (tr_ r23.toNat :: _) _
      refine ta_astoren (lv2 := [tr_ 0, ti_ a0, ti_ a1, tr_ (r23.toNat)]) hE dX7_type_26 (Nat.le_of_ble_eq_true rfl) rfl rfl ?_
      refine ta_aloadn hE dX7_type_27 rfl ?_
      refine gf_X7_68 hE dX7_type_28 ((ok_X7_textOf hx23).1) rfl ?_
      refine bp_40 hE dX7_type_31 ?_
      refine ta_icmp_lt (tgt := 39) hE dX7_type_33 (by decide) (fun c33 => ?_) (fun c33 => ?_)
      · refine ta_aloadn hE dX7_type_39 rfl ?_
        refine ta_iloadn hE dX7_type_40 rfl ?_
        refine ta_callV (C := RX5) (T := TX5) (st := []) hE dX7_type_41 (k_X5_add (ok_X7_textOf hx23) a1 m23) ml_X7_73 im_X5_add se_X5_add in_X5 co_X5_add hy_X5_add ⟨Nat.le_of_ble_eq_true rfl, Nat.le_of_ble_eq_true rfl⟩ ((ok_X7_textOf hx23).1) rfl rfl rfl (fun _ => Nat.le_of_ble_eq_true rfl) (fun r41 m41 hx41 hr41 => ?_)
        change tg_AW E _ _ _ _ _ [] _
        refine ta_aloadn hE dX7_type_44 rfl ?_
        refine gr_X7_12 hE dX7_type_45 lx_0 rfl ?_
        refine ta_callV (C := RX2) (T := TX2) (st := []) hE dX7_type_48 (k_X2_survey m41) ml_X7_77 im_X2_survey se_X2_survey in_X2 co_X2_survey hy_X2_survey ⟨Nat.le_of_ble_eq_true rfl, Nat.le_of_ble_eq_true rfl⟩ lx_1 rfl rfl rfl (fun _ => Nat.le_of_ble_eq_true rfl) (fun r48 m48 hx48 hr48 => ?_)
        change tg_AW E _ _ _ _ _ [] _
        refine ta_aloadn hE dX7_type_51 rfl ?_
        refine gf_X7_68 hE dX7_type_52 ((ok_X7_textOf hx23).1) rfl ?_
        exact ta_iret hE dX7_type_55
      · refine bp_n4 hE dX7_type_36 ?_
        exact ta_iret hE dX7_type_38
    · refine bp_n2 hE dX7_type_18 ?_
      exact ta_iret hE dX7_type_20
noncomputable def f_X7_wipe (a0 : Int) (m : tg_Mem) : tg_R :=
  tg_bd (f_X7_isBelow a0 3 m) (fun r2 m2 =>
    if r2 ≠ 0 then
      tg_bd (f_X7_textOf a0 m2) (fun r13 m13 =>
        tg_lt (m13 (r13.toNat) 1) (fun v3_21 =>
          tg_lt (tg_up m13 (r13.toNat) 1 0) (fun m24 =>
            tg_bd (f_X2_survey  m24) (fun _ m31 =>
              some (v3_21, m31)))))
    else
      some ((-2), m2))
theorem hy_X7_wipe : yX7_wipe.cls = RX7 ∧ yX7_wipe.cls ≠ "java/lang/invoke/MethodHandle" ∧ yX7_wipe.cls ≠ "java/lang/invoke/VarHandle" ∧ (parseMethodDescriptor yX7_wipe.desc).map (fun q => q.parameters.length) = some 1 := by decide +kernel
set_option maxRecDepth 100000 in
set_option maxHeartbeats 4000000 in
theorem k_X7_wipe   (a0 : Int) (m : tg_Mem) : tg_C yX7_wipe cX7_wipe 4 (some .int) 5 LX [tr_ 0, ti_ a0] (f_X7_wipe a0 m) m := by
  refine ta_enter2 (own := RX7) (by decide +kernel) rfl rfl (Nat.le_of_ble_eq_true rfl) rfl (fun E hE => ?_)
  unfold f_X7_wipe
  refine ta_iloadn hE dX7_wipe_0 rfl ?_
  refine ta_iconst (v := 3) hE dX7_wipe_1 rfl ⟨by decide, by decide⟩ ?_
  refine ta_callS (st := []) hE dX7_wipe_2 (k_X7_isBelow a0 3 m) ml_X7_60 st_X7_isBelow in_X7 co_X7_isBelow hy_X7_isBelow.2 ⟨Nat.le_of_ble_eq_true rfl, Nat.le_of_ble_eq_true rfl⟩ rfl rfl (fun _ => Nat.le_of_ble_eq_true rfl) (fun r2 m2 hx2 hr2 => ?_)
  change tg_AW E _ _ _ _ _ (ti_ r2 :: _) _
  refine ta_if_ne (tgt := 11) hE dX7_wipe_5 (by decide) (fun c5 => ?_) (fun c5 => ?_)
  · refine ta_aloadn hE dX7_wipe_11 rfl ?_
    refine ta_iloadn hE dX7_wipe_12 rfl ?_
    refine ta_callV (C := RX7) (T := TX7) (st := []) hE dX7_wipe_13 (k_X7_textOf a0 m2) ml_X7_64 im_X7_textOf se_X7_textOf in_X7 co_X7_textOf hy_X7_textOf ⟨Nat.le_of_ble_eq_true rfl, Nat.le_of_ble_eq_true rfl⟩ lx_0 rfl rfl rfl (fun _ => Nat.le_of_ble_eq_true rfl) (fun r13 m13 hx13 hr13 => ?_)
    change tg_AW E _ _ _ _ _ (tr_ r13.toNat :: _) _
    refine ta_astoren (lv2 := [tr_ 0, ti_ a0, tr_ (r13.toNat), tj_]) hE dX7_wipe_16 (Nat.le_of_ble_eq_true rfl) rfl rfl ?_
    refine ta_aloadn hE dX7_wipe_17 rfl ?_
    refine gf_X7_68 hE dX7_wipe_18 ((ok_X7_textOf hx13).1) rfl ?_
    refine ta_nmi (fun v3_21 => ?_)
    refine ta_istoren (lv2 := [tr_ 0, ti_ a0, tr_ (r13.toNat), ti_ v3_21]) hE dX7_wipe_21 (Nat.le_of_ble_eq_true rfl) rfl rfl ?_
    refine ta_aloadn hE dX7_wipe_22 rfl ?_
    refine ta_iconst (v := 0) hE dX7_wipe_23 rfl ⟨by decide, by decide⟩ ?_
    refine pf_X7_68 hE dX7_wipe_24 ((ok_X7_textOf hx13).1) rfl ?_
    refine ta_nmm (fun m24 => ?_)
    refine ta_aloadn hE dX7_wipe_27 rfl ?_
    refine gr_X7_12 hE dX7_wipe_28 lx_0 rfl ?_
    refine ta_callV (C := RX2) (T := TX2) (st := []) hE dX7_wipe_31 (k_X2_survey m24) ml_X7_77 im_X2_survey se_X2_survey in_X2 co_X2_survey hy_X2_survey ⟨Nat.le_of_ble_eq_true rfl, Nat.le_of_ble_eq_true rfl⟩ lx_1 rfl rfl rfl (fun _ => Nat.le_of_ble_eq_true rfl) (fun r31 m31 hx31 hr31 => ?_)
    change tg_AW E _ _ _ _ _ [] _
    refine ta_iloadn hE dX7_wipe_34 rfl ?_
    exact ta_iret hE dX7_wipe_35
  · refine bp_n2 hE dX7_wipe_8 ?_
    exact ta_iret hE dX7_wipe_10
noncomputable def f_X7_fault  (m : tg_Mem) : tg_R :=
  some (m 1 9, m)
theorem hy_X7_fault : yX7_fault.cls = RX7 ∧ yX7_fault.cls ≠ "java/lang/invoke/MethodHandle" ∧ yX7_fault.cls ≠ "java/lang/invoke/VarHandle" ∧ (parseMethodDescriptor yX7_fault.desc).map (fun q => q.parameters.length) = some 0 := by decide +kernel
set_option maxRecDepth 100000 in
set_option maxHeartbeats 4000000 in
theorem k_X7_fault    (m : tg_Mem) : tg_C yX7_fault cX7_fault 1 (some .int) 1 LX [tr_ 0] (f_X7_fault  m) m := by
  refine ta_enter2 (own := RX7) (by decide +kernel) rfl rfl (Nat.le_of_ble_eq_true rfl) rfl (fun E hE => ?_)
  unfold f_X7_fault
  refine ta_aloadn hE dX7_fault_0 rfl ?_
  refine gr_X7_12 hE dX7_fault_1 lx_0 rfl ?_
  refine gf_X7_80 hE dX7_fault_4 lx_1 rfl ?_
  exact ta_iret hE dX7_fault_7
noncomputable def f_X7_path (a0 : Int) (a1 : Int) (m : tg_Mem) : tg_R :=
  tg_bd (f_X7_isBelow a0 (m 1 8) m) (fun r8 m8 =>
    if r8 = 0 then
      some ((-2), m8)
    else
      tg_bd (f_X7_isBelow a1 3 m8) (fun r16 m16 =>
        if r16 ≠ 0 then
          tg_bd (f_X2_figure a0 a1 m16) (fun r31 m31 =>
            some (r31, m31))
        else
          some ((-2), m16)))
theorem hy_X7_path : yX7_path.cls = RX7 ∧ yX7_path.cls ≠ "java/lang/invoke/MethodHandle" ∧ yX7_path.cls ≠ "java/lang/invoke/VarHandle" ∧ (parseMethodDescriptor yX7_path.desc).map (fun q => q.parameters.length) = some 2 := by decide +kernel
set_option maxRecDepth 100000 in
set_option maxHeartbeats 4000000 in
theorem k_X7_path   (a0 : Int) (a1 : Int) (m : tg_Mem) : tg_C yX7_path cX7_path 3 (some .int) 3 LX [tr_ 0, ti_ a0, ti_ a1] (f_X7_path a0 a1 m) m := by
  refine ta_enter2 (own := RX7) (by decide +kernel) rfl rfl (Nat.le_of_ble_eq_true rfl) rfl (fun E hE => ?_)
  unfold f_X7_path
  refine ta_iloadn hE dX7_path_0 rfl ?_
  refine ta_aloadn hE dX7_path_1 rfl ?_
  refine gr_X7_12 hE dX7_path_2 lx_0 rfl ?_
  refine gf_X7_83 hE dX7_path_5 lx_1 rfl ?_
  refine ta_callS (st := []) hE dX7_path_8 (k_X7_isBelow a0 (m 1 8) m) ml_X7_60 st_X7_isBelow in_X7 co_X7_isBelow hy_X7_isBelow.2 ⟨Nat.le_of_ble_eq_true rfl, Nat.le_of_ble_eq_true rfl⟩ rfl rfl (fun _ => Nat.le_of_ble_eq_true rfl) (fun r8 m8 hx8 hr8 => ?_)
  change tg_AW E _ _ _ _ _ (ti_ r8 :: _) _
  refine ta_if_eq (tgt := 22) hE dX7_path_11 (by decide) (fun c11 => ?_) (fun c11 => ?_)
  · refine bp_n2 hE dX7_path_22 ?_
    exact ta_iret hE dX7_path_24
  · refine ta_iloadn hE dX7_path_14 rfl ?_
    refine ta_iconst (v := 3) hE dX7_path_15 rfl ⟨by decide, by decide⟩ ?_
    refine ta_callS (st := []) hE dX7_path_16 (k_X7_isBelow a1 3 m8) ml_X7_60 st_X7_isBelow in_X7 co_X7_isBelow hy_X7_isBelow.2 ⟨Nat.le_of_ble_eq_true rfl, Nat.le_of_ble_eq_true rfl⟩ rfl rfl (fun _ => Nat.le_of_ble_eq_true rfl) (fun r16 m16 hx16 hr16 => ?_)
    change tg_AW E _ _ _ _ _ (ti_ r16 :: _) _
    refine ta_if_ne (tgt := 25) hE dX7_path_19 (by decide) (fun c19 => ?_) (fun c19 => ?_)
    · refine ta_aloadn hE dX7_path_25 rfl ?_
      refine gr_X7_12 hE dX7_path_26 lx_0 rfl ?_
      refine ta_iloadn hE dX7_path_29 rfl ?_
      refine ta_iloadn hE dX7_path_30 rfl ?_
      refine ta_callV (C := RX2) (T := TX2) (st := []) hE dX7_path_31 (k_X2_figure a0 a1 m16) ml_X7_86 im_X2_figure se_X2_figure in_X2 co_X2_figure hy_X2_figure ⟨Nat.le_of_ble_eq_true rfl, Nat.le_of_ble_eq_true rfl⟩ lx_1 rfl rfl rfl (fun _ => Nat.le_of_ble_eq_true rfl) (fun r31 m31 hx31 hr31 => ?_)
      change tg_AW E _ _ _ _ _ (ti_ r31 :: _) _
      exact ta_iret hE dX7_path_34
    · refine bp_n2 hE dX7_path_22 ?_
      exact ta_iret hE dX7_path_24
noncomputable def f_X7_start (a0 : Int) (a1 : Int) (m : tg_Mem) : tg_R :=
  tg_bd (f_X7_isBelow a0 2 m) (fun r2 m2 =>
    if r2 = 0 then
      some ((-2), m2)
    else
      tg_bd (f_X7_isBelow a1 8 m2) (fun r11 m11 =>
        if r11 ≠ 0 then
          tg_bd (f_X7_dayOf a0 m11) (fun r22 m22 =>
            tg_lt (m22 (r22.toNat) 5) (fun v4_30 =>
              tg_lt (tg_up m22 (r22.toNat) 5 a1) (fun m34 =>
                some (v4_30, m34))))
        else
          some ((-2), m11)))
theorem hy_X7_start : yX7_start.cls = RX7 ∧ yX7_start.cls ≠ "java/lang/invoke/MethodHandle" ∧ yX7_start.cls ≠ "java/lang/invoke/VarHandle" ∧ (parseMethodDescriptor yX7_start.desc).map (fun q => q.parameters.length) = some 2 := by decide +kernel
set_option maxRecDepth 100000 in
set_option maxHeartbeats 4000000 in
theorem k_X7_start   (a0 : Int) (a1 : Int) (m : tg_Mem) : tg_C yX7_start cX7_start 5 (some .int) 2 LX [tr_ 0, ti_ a0, ti_ a1] (f_X7_start a0 a1 m) m := by
  refine ta_enter2 (own := RX7) (by decide +kernel) rfl rfl (Nat.le_of_ble_eq_true rfl) rfl (fun E hE => ?_)
  unfold f_X7_start
  refine ta_iloadn hE dX7_start_0 rfl ?_
  refine ta_iconst (v := 2) hE dX7_start_1 rfl ⟨by decide, by decide⟩ ?_
  refine ta_callS (st := []) hE dX7_start_2 (k_X7_isBelow a0 2 m) ml_X7_60 st_X7_isBelow in_X7 co_X7_isBelow hy_X7_isBelow.2 ⟨Nat.le_of_ble_eq_true rfl, Nat.le_of_ble_eq_true rfl⟩ rfl rfl (fun _ => Nat.le_of_ble_eq_true rfl) (fun r2 m2 hx2 hr2 => ?_)
  change tg_AW E _ _ _ _ _ (ti_ r2 :: _) _
  refine ta_if_eq (tgt := 17) hE dX7_start_5 (by decide) (fun c5 => ?_) (fun c5 => ?_)
  · refine bp_n2 hE dX7_start_17 ?_
    exact ta_iret hE dX7_start_19
  · refine ta_iloadn hE dX7_start_8 rfl ?_
    refine bp_8 hE dX7_start_9 ?_
    refine ta_callS (st := []) hE dX7_start_11 (k_X7_isBelow a1 8 m2) ml_X7_60 st_X7_isBelow in_X7 co_X7_isBelow hy_X7_isBelow.2 ⟨Nat.le_of_ble_eq_true rfl, Nat.le_of_ble_eq_true rfl⟩ rfl rfl (fun _ => Nat.le_of_ble_eq_true rfl) (fun r11 m11 hx11 hr11 => ?_)
    change tg_AW E _ _ _ _ _ (ti_ r11 :: _) _
    refine ta_if_ne (tgt := 20) hE dX7_start_14 (by decide) (fun c14 => ?_) (fun c14 => ?_)
    · refine ta_aloadn hE dX7_start_20 rfl ?_
      refine ta_iloadn hE dX7_start_21 rfl ?_
      refine ta_callV (C := RX7) (T := TX7) (st := []) hE dX7_start_22 (k_X7_dayOf a0 m11) ml_X7_90 im_X7_dayOf se_X7_dayOf in_X7 co_X7_dayOf hy_X7_dayOf ⟨Nat.le_of_ble_eq_true rfl, Nat.le_of_ble_eq_true rfl⟩ lx_0 rfl rfl rfl (fun _ => Nat.le_of_ble_eq_true rfl) (fun r22 m22 hx22 hr22 => ?_)
      change tg_AW E _ _ _ _ _ (tr_ r22.toNat :: _) _
      refine ta_astoren (lv2 := [tr_ 0, ti_ a0, ti_ a1, tr_ (r22.toNat), tj_]) hE dX7_start_25 (Nat.le_of_ble_eq_true rfl) rfl rfl ?_
      refine ta_aloadn hE dX7_start_26 rfl ?_
      refine gf_X7_94 hE dX7_start_27 ((ok_X7_dayOf hx22).1) rfl ?_
      refine ta_nmi (fun v4_30 => ?_)
      refine ta_istore (lv2 := [tr_ 0, ti_ a0, ti_ a1, tr_ (r22.toNat), ti_ v4_30]) hE dX7_start_30 (Nat.le_of_ble_eq_true rfl) rfl rfl ?_
      refine ta_aloadn hE dX7_start_32 rfl ?_
      refine ta_iloadn hE dX7_start_33 rfl ?_
      refine pf_X7_94 hE dX7_start_34 ((ok_X7_dayOf hx22).1) rfl ?_
      refine ta_nmm (fun m34 => ?_)
      refine ta_iload hE dX7_start_37 rfl ?_
      exact ta_iret hE dX7_start_39
    · refine bp_n2 hE dX7_start_17 ?_
      exact ta_iret hE dX7_start_19
noncomputable def f_X7_setHeavy (a0 : Int) (a1 : Int) (m : tg_Mem) : tg_R :=
  tg_bd (f_X7_isBelow a0 2 m) (fun r2 m2 =>
    if r2 = 0 then
      some ((-2), m2)
    else
      if a1 < 0 then
        some ((-2), m2)
      else
        if a1 ≤ 9 then
          tg_ck (0 ≤ a0 ∧ a0 < 2) (
            tg_lt (m2 4 (a0).toNat) (fun v3_30 =>
              tg_ck (0 ≤ a0 ∧ a0 < 2) (
                tg_lt (tg_up m2 4 (a0).toNat a1) (fun m40 =>
                  some (v3_30, m40)))))
        else
          some ((-2), m2))
theorem hy_X7_setHeavy : yX7_setHeavy.cls = RX7 ∧ yX7_setHeavy.cls ≠ "java/lang/invoke/MethodHandle" ∧ yX7_setHeavy.cls ≠ "java/lang/invoke/VarHandle" ∧ (parseMethodDescriptor yX7_setHeavy.desc).map (fun q => q.parameters.length) = some 2 := by decide +kernel
set_option maxRecDepth 100000 in
set_option maxHeartbeats 4000000 in
theorem k_X7_setHeavy   (a0 : Int) (a1 : Int) (m : tg_Mem) : tg_C yX7_setHeavy cX7_setHeavy 4 (some .int) 2 LX [tr_ 0, ti_ a0, ti_ a1] (f_X7_setHeavy a0 a1 m) m := by
  refine ta_enter2 (own := RX7) (by decide +kernel) rfl rfl (Nat.le_of_ble_eq_true rfl) rfl (fun E hE => ?_)
  unfold f_X7_setHeavy
  refine ta_iloadn hE dX7_setHeavy_0 rfl ?_
  refine ta_iconst (v := 2) hE dX7_setHeavy_1 rfl ⟨by decide, by decide⟩ ?_
  refine ta_callS (st := []) hE dX7_setHeavy_2 (k_X7_isBelow a0 2 m) ml_X7_60 st_X7_isBelow in_X7 co_X7_isBelow hy_X7_isBelow.2 ⟨Nat.le_of_ble_eq_true rfl, Nat.le_of_ble_eq_true rfl⟩ rfl rfl (fun _ => Nat.le_of_ble_eq_true rfl) (fun r2 m2 hx2 hr2 => ?_)
  change tg_AW E _ _ _ _ _ (ti_ r2 :: _) _
  refine ta_if_eq (tgt := 18) hE dX7_setHeavy_5 (by decide) (fun c5 => ?_) (fun c5 => ?_)
  · refine bp_n2 hE dX7_setHeavy_18 ?_
    exact ta_iret hE dX7_setHeavy_20
  · refine ta_iloadn hE dX7_setHeavy_8 rfl ?_
    refine ta_if_lt (tgt := 18) hE dX7_setHeavy_9 (by decide) (fun c9 => ?_) (fun c9 => ?_)
    · refine bp_n2 hE dX7_setHeavy_18 ?_
      exact ta_iret hE dX7_setHeavy_20
    · refine ta_iloadn hE dX7_setHeavy_12 rfl ?_
      refine bp_9 hE dX7_setHeavy_13 ?_
      refine ta_icmp_le (tgt := 21) hE dX7_setHeavy_15 (by decide) (fun c15 => ?_) (fun c15 => ?_)
      · refine ta_aloadn hE dX7_setHeavy_21 rfl ?_
        refine gr_X7_12 hE dX7_setHeavy_22 lx_0 rfl ?_
        refine gr_X7_103 hE dX7_setHeavy_25 lx_1 rfl ?_
        refine ta_iloadn hE dX7_setHeavy_28 rfl ?_
        refine ta_iald (n' := 2) hE dX7_setHeavy_29 lx_4 rfl (fun _ _ => ?_)
        refine ta_nmi (fun v3_30 => ?_)
        refine ta_istoren (lv2 := [tr_ 0, ti_ a0, ti_ a1, ti_ v3_30]) hE dX7_setHeavy_30 (Nat.le_of_ble_eq_true rfl) rfl rfl ?_
        refine ta_aloadn hE dX7_setHeavy_31 rfl ?_
        refine gr_X7_12 hE dX7_setHeavy_32 lx_0 rfl ?_
        refine gr_X7_103 hE dX7_setHeavy_35 lx_1 rfl ?_
        refine ta_iloadn hE dX7_setHeavy_38 rfl ?_
        refine ta_iloadn hE dX7_setHeavy_39 rfl ?_
        refine ta_iast (n' := 2) hE dX7_setHeavy_40 lx_4 rfl (fun _ _ => ?_)
        refine ta_nmm (fun m40 => ?_)
        refine ta_iloadn hE dX7_setHeavy_41 rfl ?_
        exact ta_iret hE dX7_setHeavy_42
      · refine bp_n2 hE dX7_setHeavy_18 ?_
        exact ta_iret hE dX7_setHeavy_20
noncomputable def f_X7_set (a0 : Int) (a1 : Int) (m : tg_Mem) : tg_R :=
  tg_jn (γ := tg_R) (tg_bd (f_X7_setHeavy a0 a1 m) (fun r12 m12 =>
    some (r12, m12))) (fun j9 =>
    if a0 = 0 then
      j9
    else
      if a0 ≠ 1 then
        if a0 ≠ 2 then
          some ((-2), m)
        else
          if a1 < 1 then
            some ((-2), m)
          else
            if a1 ≤ 18 then
              tg_lt (m 1 7) (fun v3_42 =>
                tg_lt (tg_up m 1 7 a1) (fun m48 =>
                  some (v3_42, m48)))
            else
              some ((-2), m)
      else
        j9)
theorem hy_X7_set : yX7_set.cls = RX7 ∧ yX7_set.cls ≠ "java/lang/invoke/MethodHandle" ∧ yX7_set.cls ≠ "java/lang/invoke/VarHandle" ∧ (parseMethodDescriptor yX7_set.desc).map (fun q => q.parameters.length) = some 2 := by decide +kernel
set_option maxRecDepth 100000 in
set_option maxHeartbeats 4000000 in
theorem k_X7_set   (a0 : Int) (a1 : Int) (m : tg_Mem) : tg_C yX7_set cX7_set 4 (some .int) 3 LX [tr_ 0, ti_ a0, ti_ a1] (f_X7_set a0 a1 m) m := by
  refine ta_enter2 (own := RX7) (by decide +kernel) rfl rfl (Nat.le_of_ble_eq_true rfl) rfl (fun E hE => ?_)
  unfold f_X7_set
  refine ta_iloadn hE dX7_set_0 rfl ?_
  refine ta_join (γ := tg_R) (fun J => tg_AW E LX (some .int) J 9 [tr_ 0, ti_ a0, ti_ a1, tj_] [] m) ?_ (fun j9 hj9 => ?_)
  · refine ta_aloadn hE dX7_set_9 rfl ?_
    refine ta_iloadn hE dX7_set_10 rfl ?_
    refine ta_iloadn hE dX7_set_11 rfl ?_
    refine ta_callV (C := RX7) (T := TX7) (st := []) hE dX7_set_12 (k_X7_setHeavy a0 a1 m) ml_X7_97 im_X7_setHeavy se_X7_setHeavy in_X7 co_X7_setHeavy hy_X7_setHeavy ⟨Nat.le_of_ble_eq_true rfl, Nat.le_of_ble_eq_true rfl⟩ lx_0 rfl rfl rfl (fun _ => Nat.le_of_ble_eq_true rfl) (fun r12 m12 hx12 hr12 => ?_)
    change tg_AW E _ _ _ _ _ (ti_ r12 :: _) _
    exact ta_iret hE dX7_set_15
  · refine ta_if_eq (tgt := 9) hE dX7_set_1 (by decide) (fun c1 => ?_) (fun c1 => ?_)
    · exact hj9
    · refine ta_iloadn hE dX7_set_4 rfl ?_
      refine ta_iconst (v := 1) hE dX7_set_5 rfl ⟨by decide, by decide⟩ ?_
      refine ta_icmp_ne (tgt := 16) hE dX7_set_6 (by decide) (fun c6 => ?_) (fun c6 => ?_)
      · refine ta_iloadn hE dX7_set_16 rfl ?_
        refine ta_iconst (v := 2) hE dX7_set_17 rfl ⟨by decide, by decide⟩ ?_
        refine ta_icmp_ne (tgt := 32) hE dX7_set_18 (by decide) (fun c18 => ?_) (fun c18 => ?_)
        · refine bp_n2 hE dX7_set_32 ?_
          exact ta_iret hE dX7_set_34
        · refine ta_iloadn hE dX7_set_21 rfl ?_
          refine ta_iconst (v := 1) hE dX7_set_22 rfl ⟨by decide, by decide⟩ ?_
          refine ta_icmp_lt (tgt := 32) hE dX7_set_23 (by decide) (fun c23 => ?_) (fun c23 => ?_)
          · refine bp_n2 hE dX7_set_32 ?_
            exact ta_iret hE dX7_set_34
          · refine ta_iloadn hE dX7_set_26 rfl ?_
            refine bp_18 hE dX7_set_27 ?_
            refine ta_icmp_le (tgt := 35) hE dX7_set_29 (by decide) (fun c29 => ?_) (fun c29 => ?_)
            · refine ta_aloadn hE dX7_set_35 rfl ?_
              refine gr_X7_12 hE dX7_set_36 lx_0 rfl ?_
              refine gf_X7_100 hE dX7_set_39 lx_1 rfl ?_
              refine ta_nmi (fun v3_42 => ?_)
              refine ta_istoren (lv2 := [tr_ 0, ti_ a0, ti_ a1, ti_ v3_42]) hE dX7_set_42 (Nat.le_of_ble_eq_true rfl) rfl rfl ?_
              refine ta_aloadn hE dX7_set_43 rfl ?_
              refine gr_X7_12 hE dX7_set_44 lx_0 rfl ?_
              refine ta_iloadn hE dX7_set_47 rfl ?_
              refine pf_X7_100 hE dX7_set_48 lx_1 rfl ?_
              refine ta_nmm (fun m48 => ?_)
              refine ta_iloadn hE dX7_set_51 rfl ?_
              exact ta_iret hE dX7_set_52
            · refine bp_n2 hE dX7_set_32 ?_
              exact ta_iret hE dX7_set_34
      · exact hj9
noncomputable def f_X7_thistle (a0 : Int) (a1 : Int) (m : tg_Mem) : tg_R :=
  tg_bd (f_X7_isBelow a0 8 m) (fun r3 m3 =>
    if r3 = 0 then
      some ((-2), m3)
    else
      if a1 < 0 then
        some ((-2), m3)
      else
        if a1 ≤ 99 then
          tg_ck (0 ≤ a0 ∧ a0 < 8) (
            tg_lt (m3 5 (a0).toNat) (fun v3_31 =>
              tg_ck (0 ≤ a0 ∧ a0 < 8) (
                tg_lt (tg_up m3 5 (a0).toNat a1) (fun m41 =>
                  some (v3_31, m41)))))
        else
          some ((-2), m3))
theorem hy_X7_thistle : yX7_thistle.cls = RX7 ∧ yX7_thistle.cls ≠ "java/lang/invoke/MethodHandle" ∧ yX7_thistle.cls ≠ "java/lang/invoke/VarHandle" ∧ (parseMethodDescriptor yX7_thistle.desc).map (fun q => q.parameters.length) = some 2 := by decide +kernel
set_option maxRecDepth 100000 in
set_option maxHeartbeats 4000000 in
theorem k_X7_thistle   (a0 : Int) (a1 : Int) (m : tg_Mem) : tg_C yX7_thistle cX7_thistle 4 (some .int) 2 LX [tr_ 0, ti_ a0, ti_ a1] (f_X7_thistle a0 a1 m) m := by
  refine ta_enter2 (own := RX7) (by decide +kernel) rfl rfl (Nat.le_of_ble_eq_true rfl) rfl (fun E hE => ?_)
  unfold f_X7_thistle
  refine ta_iloadn hE dX7_thistle_0 rfl ?_
  refine bp_8 hE dX7_thistle_1 ?_
  refine ta_callS (st := []) hE dX7_thistle_3 (k_X7_isBelow a0 8 m) ml_X7_60 st_X7_isBelow in_X7 co_X7_isBelow hy_X7_isBelow.2 ⟨Nat.le_of_ble_eq_true rfl, Nat.le_of_ble_eq_true rfl⟩ rfl rfl (fun _ => Nat.le_of_ble_eq_true rfl) (fun r3 m3 hx3 hr3 => ?_)
  change tg_AW E _ _ _ _ _ (ti_ r3 :: _) _
  refine ta_if_eq (tgt := 19) hE dX7_thistle_6 (by decide) (fun c6 => ?_) (fun c6 => ?_)
  · refine bp_n2 hE dX7_thistle_19 ?_
    exact ta_iret hE dX7_thistle_21
  · refine ta_iloadn hE dX7_thistle_9 rfl ?_
    refine ta_if_lt (tgt := 19) hE dX7_thistle_10 (by decide) (fun c10 => ?_) (fun c10 => ?_)
    · refine bp_n2 hE dX7_thistle_19 ?_
      exact ta_iret hE dX7_thistle_21
    · refine ta_iloadn hE dX7_thistle_13 rfl ?_
      refine bp_99 hE dX7_thistle_14 ?_
      refine ta_icmp_le (tgt := 22) hE dX7_thistle_16 (by decide) (fun c16 => ?_) (fun c16 => ?_)
      · refine ta_aloadn hE dX7_thistle_22 rfl ?_
        refine gr_X7_12 hE dX7_thistle_23 lx_0 rfl ?_
        refine gr_X7_107 hE dX7_thistle_26 lx_1 rfl ?_
        refine ta_iloadn hE dX7_thistle_29 rfl ?_
        refine ta_iald (n' := 8) hE dX7_thistle_30 lx_5 rfl (fun _ _ => ?_)
        refine ta_nmi (fun v3_31 => ?_)
        refine ta_istoren (lv2 := [tr_ 0, ti_ a0, ti_ a1, ti_ v3_31]) hE dX7_thistle_31 (Nat.le_of_ble_eq_true rfl) rfl rfl ?_
        refine ta_aloadn hE dX7_thistle_32 rfl ?_
        refine gr_X7_12 hE dX7_thistle_33 lx_0 rfl ?_
        refine gr_X7_107 hE dX7_thistle_36 lx_1 rfl ?_
        refine ta_iloadn hE dX7_thistle_39 rfl ?_
        refine ta_iloadn hE dX7_thistle_40 rfl ?_
        refine ta_iast (n' := 8) hE dX7_thistle_41 lx_5 rfl (fun _ _ => ?_)
        refine ta_nmm (fun m41 => ?_)
        refine ta_iloadn hE dX7_thistle_42 rfl ?_
        exact ta_iret hE dX7_thistle_43
      · refine bp_n2 hE dX7_thistle_19 ?_
        exact ta_iret hE dX7_thistle_21
noncomputable def f_X7_byteOfCode (a0 : Int) (m : tg_Mem) : tg_R :=
  if 8 ≤ a0 then
    some (tg_wi ((tg_wi (65 + a0)) - 8), m)
  else
    some (tg_wi (97 + a0), m)
theorem hy_X7_byteOfCode : yX7_byteOfCode.cls = RX7 ∧ yX7_byteOfCode.cls ≠ "java/lang/invoke/MethodHandle" ∧ yX7_byteOfCode.cls ≠ "java/lang/invoke/VarHandle" ∧ (parseMethodDescriptor yX7_byteOfCode.desc).map (fun q => q.parameters.length) = some 1 := by decide +kernel
set_option maxRecDepth 100000 in
set_option maxHeartbeats 4000000 in
theorem k_X7_byteOfCode   (a0 : Int) (m : tg_Mem) : tg_C yX7_byteOfCode cX7_byteOfCode 1 (some .int) 1 LX [ti_ a0] (f_X7_byteOfCode a0 m) m := by
  refine ta_enter2 (own := RX7) (by decide +kernel) rfl rfl (Nat.le_of_ble_eq_true rfl) rfl (fun E hE => ?_)
  unfold f_X7_byteOfCode
  refine ta_iloadn hE dX7_byteOfCode_0 rfl ?_
  refine bp_8 hE dX7_byteOfCode_1 ?_
  refine ta_icmp_ge (tgt := 13) hE dX7_byteOfCode_3 (by decide) (fun c3 => ?_) (fun c3 => ?_)
  · refine bp_65 hE dX7_byteOfCode_13 ?_
    refine ta_iloadn hE dX7_byteOfCode_15 rfl ?_
    refine ta_iadd hE dX7_byteOfCode_16 ?_
    refine bp_8 hE dX7_byteOfCode_17 ?_
    refine ta_isub hE dX7_byteOfCode_19 ?_
    exact ta_iret hE dX7_byteOfCode_20
  · refine bp_97 hE dX7_byteOfCode_6 ?_
    refine ta_iloadn hE dX7_byteOfCode_8 rfl ?_
    refine ta_iadd hE dX7_byteOfCode_9 ?_
    refine ta_goto (tgt := 20) hE dX7_byteOfCode_10 (by decide) ?_
    exact ta_iret hE dX7_byteOfCode_20
noncomputable def f_X7_found (a0 : Int) (m : tg_Mem) : tg_R :=
  tg_lt (tg_up m 0 7 a0) (fun m2 =>
    some (tg_wi ((-10) - a0), m2))
theorem hy_X7_found : yX7_found.cls = RX7 ∧ yX7_found.cls ≠ "java/lang/invoke/MethodHandle" ∧ yX7_found.cls ≠ "java/lang/invoke/VarHandle" ∧ (parseMethodDescriptor yX7_found.desc).map (fun q => q.parameters.length) = some 1 := by decide +kernel
set_option maxRecDepth 100000 in
set_option maxHeartbeats 4000000 in
theorem k_X7_found   (a0 : Int) (m : tg_Mem) : tg_C yX7_found cX7_found 2 (some .int) 1 LX [tr_ 0, ti_ a0] (f_X7_found a0 m) m := by
  refine ta_enter2 (own := RX7) (by decide +kernel) rfl rfl (Nat.le_of_ble_eq_true rfl) rfl (fun E hE => ?_)
  unfold f_X7_found
  refine ta_aloadn hE dX7_found_0 rfl ?_
  refine ta_iloadn hE dX7_found_1 rfl ?_
  refine pf_X7_55 hE dX7_found_2 lx_0 rfl ?_
  refine ta_nmm (fun m2 => ?_)
  refine bp_n10 hE dX7_found_5 ?_
  refine ta_iloadn hE dX7_found_7 rfl ?_
  refine ta_isub hE dX7_found_8 ?_
  exact ta_iret hE dX7_found_9
noncomputable def f_X7_read_B59 (a0 : Int) (r42 : Int) (j113 : tg_Mem → tg_R) (j94 : tg_Mem → tg_R) (self59 : Int → tg_Mem → tg_R) (v5_59 : Int) (m_59 : tg_Mem) : tg_R :=
  if m_59 (tg_sh a0) 2 ≤ v5_59 then
    j113 m_59
  else
    if 40 ≤ v5_59 then
      j113 m_59
    else
      tg_ck (0 ≤ v5_59 ∧ v5_59 < 60) (
        tg_lt (m_59 (tg_sh a0 + 1) (v5_59).toNat) (fun v6_82 =>
          tg_bd (f_X7_isBelow v6_82 16 m_59) (fun r88 m88 =>
            if r88 ≠ 0 then
              tg_bd (f_X7_byteOfCode v6_82 m88) (fun r101 m101 =>
                tg_bd (f_X5_add (r42.toNat + 1) r101 m101) (fun _ m104 =>
                  tg_lt (tg_wi (v5_59 + 1)) (fun v5_107 =>
                    self59 v5_107 m104)))
            else
              j94 m88)))
noncomputable def f_X7_read (a0 : Int) (a1 : Int) (m : tg_Mem) : tg_R :=
  tg_bd (f_X7_isBelow a0 4 m) (fun r2 m2 =>
    if r2 = 0 then
      some ((-2), m2)
    else
      tg_bd (f_X7_isBelow a1 2 m2) (fun r10 m10 =>
        if r10 ≠ 0 then
          tg_ck (0 ≤ a0 ∧ a0 < 4) (
            if m10 (tg_sh a0) 1 ≠ (-1) then
              tg_bd (f_X7_dayOf a1 m10) (fun r42 m42 =>
                tg_lt (tg_up m42 (r42.toNat + 1) 1 0) (fun m53 =>
                  tg_jn (γ := tg_Mem → tg_R) (fun (m_113 : tg_Mem) => some (m_113 (r42.toNat + 1) 1, m_113)) (fun j113 =>
                    tg_jn (γ := tg_Mem → tg_R) (fun (m_94 : tg_Mem) => j113 m_94) (fun j94 =>
                      tg_fx (γ := Int → tg_Mem → tg_R) (f_X7_read_B59 a0 r42 j113 j94) (fun _ _ => none) tg_FU 0 m53))))
            else
              tg_bd (f_X7_found 1 m10) (fun r36 m36 =>
                some (r36, m36)))
        else
          some ((-2), m10)))
theorem hy_X7_read : yX7_read.cls = RX7 ∧ yX7_read.cls ≠ "java/lang/invoke/MethodHandle" ∧ yX7_read.cls ≠ "java/lang/invoke/VarHandle" ∧ (parseMethodDescriptor yX7_read.desc).map (fun q => q.parameters.length) = some 2 := by decide +kernel
set_option maxRecDepth 100000 in
set_option maxHeartbeats 4000000 in
theorem k_X7_read   (a0 : Int) (a1 : Int) (m : tg_Mem) : tg_C yX7_read cX7_read 7 (some .int) 3 LX [tr_ 0, ti_ a0, ti_ a1] (f_X7_read a0 a1 m) m := by
  refine ta_enter2 (own := RX7) (by decide +kernel) rfl rfl (Nat.le_of_ble_eq_true rfl) rfl (fun E hE => ?_)
  unfold f_X7_read
  refine ta_iloadn hE dX7_read_0 rfl ?_
  refine ta_iconst (v := 4) hE dX7_read_1 rfl ⟨by decide, by decide⟩ ?_
  refine ta_callS (st := []) hE dX7_read_2 (k_X7_isBelow a0 4 m) ml_X7_60 st_X7_isBelow in_X7 co_X7_isBelow hy_X7_isBelow.2 ⟨Nat.le_of_ble_eq_true rfl, Nat.le_of_ble_eq_true rfl⟩ rfl rfl (fun _ => Nat.le_of_ble_eq_true rfl) (fun r2 m2 hx2 hr2 => ?_)
  change tg_AW E _ _ _ _ _ (ti_ r2 :: _) _
  refine ta_if_eq (tgt := 16) hE dX7_read_5 (by decide) (fun c5 => ?_) (fun c5 => ?_)
  · refine bp_n2 hE dX7_read_16 ?_
    exact ta_iret hE dX7_read_18
  · refine ta_iloadn hE dX7_read_8 rfl ?_
    refine ta_iconst (v := 2) hE dX7_read_9 rfl ⟨by decide, by decide⟩ ?_
    refine ta_callS (st := []) hE dX7_read_10 (k_X7_isBelow a1 2 m2) ml_X7_60 st_X7_isBelow in_X7 co_X7_isBelow hy_X7_isBelow.2 ⟨Nat.le_of_ble_eq_true rfl, Nat.le_of_ble_eq_true rfl⟩ rfl rfl (fun _ => Nat.le_of_ble_eq_true rfl) (fun r10 m10 hx10 hr10 => ?_)
    change tg_AW E _ _ _ _ _ (ti_ r10 :: _) _
    refine ta_if_ne (tgt := 19) hE dX7_read_13 (by decide) (fun c13 => ?_) (fun c13 => ?_)
    · refine ta_aloadn hE dX7_read_19 rfl ?_
      refine gr_X7_51 hE dX7_read_20 lx_0 rfl ?_
      refine ta_iloadn hE dX7_read_23 rfl ?_
      refine ta_aald (n' := 4) hE dX7_read_24 lx_39 rfl rfl (fun h24a h24b => ?_)
      change tg_AW E _ _ _ _ _ (tr_ (tg_sh a0) :: _) _
      refine ta_astoren (lv2 := [tr_ 0, ti_ a0, ti_ a1, tr_ (tg_sh a0), tj_, tj_, tj_]) hE dX7_read_25 (Nat.le_of_ble_eq_true rfl) rfl rfl ?_
      refine ta_aloadn hE dX7_read_26 rfl ?_
      refine gf_X7_110 hE dX7_read_27 ((ok_sh h24a h24b).1) rfl ?_
      refine ta_iconst (v := (-1)) hE dX7_read_30 rfl ⟨by decide, by decide⟩ ?_
      refine ta_icmp_ne (tgt := 40) hE dX7_read_31 (by decide) (fun c31 => ?_) (fun c31 => ?_)
      · refine ta_aloadn hE dX7_read_40 rfl ?_
        refine ta_iloadn hE dX7_read_41 rfl ?_
        refine ta_callV (C := RX7) (T := TX7) (st := []) hE dX7_read_42 (k_X7_dayOf a1 m10) ml_X7_90 im_X7_dayOf se_X7_dayOf in_X7 co_X7_dayOf hy_X7_dayOf ⟨Nat.le_of_ble_eq_true rfl, Nat.le_of_ble_eq_true rfl⟩ lx_0 rfl rfl rfl (fun _ => Nat.le_of_ble_eq_true rfl) (fun r42 m42 hx42 hr42 => ?_)
        change tg_AW E _ _ _ _ _ (tr_ r42.toNat :: _) _
        refine gr_X7_117 hE dX7_read_45 ((ok_X7_dayOf hx42).1) rfl ?_
        refine ta_astore (lv2 := [tr_ 0, ti_ a0, ti_ a1, tr_ (tg_sh a0), tr_ (r42.toNat + 1), tj_, tj_]) hE dX7_read_48 (Nat.le_of_ble_eq_true rfl) rfl rfl ?_
        refine ta_aload hE dX7_read_50 rfl ?_
        refine ta_iconst (v := 0) hE dX7_read_52 rfl ⟨by decide, by decide⟩ ?_
        refine pf_X7_68 hE dX7_read_53 ((ok_X7_dayOf hx42).2.1.1) rfl ?_
        refine ta_nmm (fun m53 => ?_)
        refine ta_iconst (v := 0) hE dX7_read_56 rfl ⟨by decide, by decide⟩ ?_
        refine ta_istore (lv2 := [tr_ 0, ti_ a0, ti_ a1, tr_ (tg_sh a0), tr_ (r42.toNat + 1), ti_ 0, tj_]) hE dX7_read_57 (Nat.le_of_ble_eq_true rfl) rfl rfl ?_
        refine ta_join (γ := tg_Mem → tg_R) (fun J => ∀ (m_113 : tg_Mem), tg_AW E LX (some .int) (J m_113) 113 [tj_, tj_, tj_, tj_, tr_ (r42.toNat + 1), tj_, tj_] [] m_113) ?_ (fun j113 hj113 => ?_)
        · intro m_113
          refine ta_aload hE dX7_read_113 rfl ?_
          refine gf_X7_68 hE dX7_read_115 ((ok_X7_dayOf hx42).2.1.1) rfl ?_
          exact ta_iret hE dX7_read_118
        · refine ta_join (γ := tg_Mem → tg_R) (fun J => ∀ (m_94 : tg_Mem), tg_AW E LX (some .int) (J m_94) 94 [tj_, tj_, tj_, tj_, tr_ (r42.toNat + 1), tj_, tj_] [] m_94) ?_ (fun j94 hj94 => ?_)
          · intro m_94
            refine ta_goto (tgt := 113) hE dX7_read_94 (by decide) ?_
            exact (hj113 m_94)
          · have hl59 := ta_fx (γ := Int → tg_Mem → tg_R) (F := (f_X7_read_B59 a0 r42 j113 j94)) (z := (fun _ _ => none)) (fun J => ∀ (v5_59 : Int) (m_59 : tg_Mem), tg_AW E LX (some .int) (J v5_59 m_59) 59 [tj_, tj_, tj_, tr_ (tg_sh a0), tr_ (r42.toNat + 1), ti_ v5_59, tj_] [] m_59) (by intros; exact ta_none) (fun self59 hself59 => by
                intro v5_59 m_59
                unfold f_X7_read_B59
                refine ta_iload hE dX7_read_59 rfl ?_
                refine ta_aloadn hE dX7_read_61 rfl ?_
                refine gf_X7_121 hE dX7_read_62 ((ok_sh h24a h24b).1) rfl ?_
                refine ta_icmp_ge (tgt := 113) hE dX7_read_65 (by decide) (fun c65 => ?_) (fun c65 => ?_)
                · exact (ta_wk (i := 3) (lv2 := [tj_, tj_, tj_, tj_, tr_ (r42.toNat + 1), ti_ v5_59, tj_]) rfl (ta_wk (i := 5) (lv2 := [tj_, tj_, tj_, tj_, tr_ (r42.toNat + 1), tj_, tj_]) rfl (hj113 m_59)))
                · refine ta_iload hE dX7_read_68 rfl ?_
                  refine bp_40 hE dX7_read_70 ?_
                  refine ta_icmp_ge (tgt := 113) hE dX7_read_72 (by decide) (fun c72 => ?_) (fun c72 => ?_)
                  · exact (ta_wk (i := 3) (lv2 := [tj_, tj_, tj_, tj_, tr_ (r42.toNat + 1), ti_ v5_59, tj_]) rfl (ta_wk (i := 5) (lv2 := [tj_, tj_, tj_, tj_, tr_ (r42.toNat + 1), tj_, tj_]) rfl (hj113 m_59)))
                  · refine ta_aloadn hE dX7_read_75 rfl ?_
                    refine gr_X7_122 hE dX7_read_76 ((ok_sh h24a h24b).1) rfl ?_
                    refine ta_iload hE dX7_read_79 rfl ?_
                    refine ta_iald (n' := 60) hE dX7_read_81 ((ok_sh h24a h24b).2) rfl (fun _ _ => ?_)
                    refine ta_nmi (fun v6_82 => ?_)
                    refine ta_istore (lv2 := [tj_, tj_, tj_, tr_ (tg_sh a0), tr_ (r42.toNat + 1), ti_ v5_59, ti_ v6_82]) hE dX7_read_82 (Nat.le_of_ble_eq_true rfl) rfl rfl ?_
                    refine ta_iload hE dX7_read_84 rfl ?_
                    refine bp_16 hE dX7_read_86 ?_
                    refine ta_callS (st := []) hE dX7_read_88 (k_X7_isBelow v6_82 16 m_59) ml_X7_60 st_X7_isBelow in_X7 co_X7_isBelow hy_X7_isBelow.2 ⟨Nat.le_of_ble_eq_true rfl, Nat.le_of_ble_eq_true rfl⟩ rfl rfl (fun _ => Nat.le_of_ble_eq_true rfl) (fun r88 m88 hx88 hr88 => ?_)
                    change tg_AW E _ _ _ _ _ (ti_ r88 :: _) _
                    refine ta_if_ne (tgt := 97) hE dX7_read_91 (by decide) (fun c91 => ?_) (fun c91 => ?_)
                    · refine ta_aload hE dX7_read_97 rfl ?_
                      refine ta_iload hE dX7_read_99 rfl ?_
                      refine ta_callS (st := [tr_ (r42.toNat + 1)]) hE dX7_read_101 (k_X7_byteOfCode v6_82 m88) ml_X7_125 st_X7_byteOfCode in_X7 co_X7_byteOfCode hy_X7_byteOfCode.2 ⟨Nat.le_of_ble_eq_true rfl, Nat.le_of_ble_eq_true rfl⟩ rfl rfl (fun _ => Nat.le_of_ble_eq_true rfl) (fun r101 m101 hx101 hr101 => ?_)
                      change tg_AW E _ _ _ _ _ (ti_ r101 :: _) _
                      refine ta_callV (C := RX5) (T := TX5) (st := []) hE dX7_read_104 (k_X5_add ((ok_X7_dayOf hx42).2.1) r101 m101) ml_X7_73 im_X5_add se_X5_add in_X5 co_X5_add hy_X5_add ⟨Nat.le_of_ble_eq_true rfl, Nat.le_of_ble_eq_true rfl⟩ ((ok_X7_dayOf hx42).2.1.1) rfl rfl rfl (fun _ => Nat.le_of_ble_eq_true rfl) (fun r104 m104 hx104 hr104 => ?_)
                      change tg_AW E _ _ _ _ _ [] _
                      refine ta_iincn (lv2 := fun v5_107 => [tj_, tj_, tj_, tr_ (tg_sh a0), tr_ (r42.toNat + 1), ti_ v5_107, ti_ v6_82]) hE dX7_read_107 rfl rfl rfl (fun v5_107 => ?_)
                      refine ta_goto (tgt := 59) hE dX7_read_110 (by decide) ?_
                      exact (ta_wk (i := 6) (lv2 := [tj_, tj_, tj_, tr_ (tg_sh a0), tr_ (r42.toNat + 1), ti_ v5_107, tj_]) rfl (hself59 v5_107 m104))
                    · exact (ta_wk (i := 3) (lv2 := [tj_, tj_, tj_, tj_, tr_ (r42.toNat + 1), ti_ v5_59, ti_ v6_82]) rfl (ta_wk (i := 5) (lv2 := [tj_, tj_, tj_, tj_, tr_ (r42.toNat + 1), tj_, ti_ v6_82]) rfl (ta_wk (i := 6) (lv2 := [tj_, tj_, tj_, tj_, tr_ (r42.toNat + 1), tj_, tj_]) rfl (hj94 m88)))))
            exact (ta_wk (i := 0) (lv2 := [tj_, ti_ a0, ti_ a1, tr_ (tg_sh a0), tr_ (r42.toNat + 1), ti_ 0, tj_]) rfl (ta_wk (i := 1) (lv2 := [tj_, tj_, ti_ a1, tr_ (tg_sh a0), tr_ (r42.toNat + 1), ti_ 0, tj_]) rfl (ta_wk (i := 2) (lv2 := [tj_, tj_, tj_, tr_ (tg_sh a0), tr_ (r42.toNat + 1), ti_ 0, tj_]) rfl (hl59 tg_FU 0 m53))))
      · refine ta_aloadn hE dX7_read_34 rfl ?_
        refine ta_iconst (v := 1) hE dX7_read_35 rfl ⟨by decide, by decide⟩ ?_
        refine ta_callV (C := RX7) (T := TX7) (st := []) hE dX7_read_36 (k_X7_found 1 m10) ml_X7_113 im_X7_found se_X7_found in_X7 co_X7_found hy_X7_found ⟨Nat.le_of_ble_eq_true rfl, Nat.le_of_ble_eq_true rfl⟩ lx_0 rfl rfl rfl (fun _ => Nat.le_of_ble_eq_true rfl) (fun r36 m36 hx36 hr36 => ?_)
        change tg_AW E _ _ _ _ _ (ti_ r36 :: _) _
        exact ta_iret hE dX7_read_39
    · refine bp_n2 hE dX7_read_16 ?_
      exact ta_iret hE dX7_read_18
noncomputable def f_X7_undo (a0 : Int) (m : tg_Mem) : tg_R :=
  tg_bd (f_X7_isBelow a0 2 m) (fun r2 m2 =>
    if r2 ≠ 0 then
      tg_bd (f_X7_dayOf a0 m2) (fun r13 m13 =>
        if 0 < m13 (r13.toNat + 1) 1 then
          tg_lt (tg_up m13 (r13.toNat + 1) 1 (tg_wi ((m13 (r13.toNat + 1) 1) - 1))) (fun m37 =>
            some (m37 (r13.toNat + 1) 1, m37))
        else
          some ((-3), m13))
    else
      some ((-2), m2))
theorem hy_X7_undo : yX7_undo.cls = RX7 ∧ yX7_undo.cls ≠ "java/lang/invoke/MethodHandle" ∧ yX7_undo.cls ≠ "java/lang/invoke/VarHandle" ∧ (parseMethodDescriptor yX7_undo.desc).map (fun q => q.parameters.length) = some 1 := by decide +kernel
set_option maxRecDepth 100000 in
set_option maxHeartbeats 4000000 in
theorem k_X7_undo   (a0 : Int) (m : tg_Mem) : tg_C yX7_undo cX7_undo 3 (some .int) 2 LX [tr_ 0, ti_ a0] (f_X7_undo a0 m) m := by
  refine ta_enter2 (own := RX7) (by decide +kernel) rfl rfl (Nat.le_of_ble_eq_true rfl) rfl (fun E hE => ?_)
  unfold f_X7_undo
  refine ta_iloadn hE dX7_undo_0 rfl ?_
  refine ta_iconst (v := 2) hE dX7_undo_1 rfl ⟨by decide, by decide⟩ ?_
  refine ta_callS (st := []) hE dX7_undo_2 (k_X7_isBelow a0 2 m) ml_X7_60 st_X7_isBelow in_X7 co_X7_isBelow hy_X7_isBelow.2 ⟨Nat.le_of_ble_eq_true rfl, Nat.le_of_ble_eq_true rfl⟩ rfl rfl (fun _ => Nat.le_of_ble_eq_true rfl) (fun r2 m2 hx2 hr2 => ?_)
  change tg_AW E _ _ _ _ _ (ti_ r2 :: _) _
  refine ta_if_ne (tgt := 11) hE dX7_undo_5 (by decide) (fun c5 => ?_) (fun c5 => ?_)
  · refine ta_aloadn hE dX7_undo_11 rfl ?_
    refine ta_iloadn hE dX7_undo_12 rfl ?_
    refine ta_callV (C := RX7) (T := TX7) (st := []) hE dX7_undo_13 (k_X7_dayOf a0 m2) ml_X7_90 im_X7_dayOf se_X7_dayOf in_X7 co_X7_dayOf hy_X7_dayOf ⟨Nat.le_of_ble_eq_true rfl, Nat.le_of_ble_eq_true rfl⟩ lx_0 rfl rfl rfl (fun _ => Nat.le_of_ble_eq_true rfl) (fun r13 m13 hx13 hr13 => ?_)
    change tg_AW E _ _ _ _ _ (tr_ r13.toNat :: _) _
    refine gr_X7_117 hE dX7_undo_16 ((ok_X7_dayOf hx13).1) rfl ?_
    refine ta_astoren (lv2 := [tr_ 0, ti_ a0, tr_ (r13.toNat + 1)]) hE dX7_undo_19 (Nat.le_of_ble_eq_true rfl) rfl rfl ?_
    refine ta_aloadn hE dX7_undo_20 rfl ?_
    refine gf_X7_68 hE dX7_undo_21 ((ok_X7_dayOf hx13).2.1.1) rfl ?_
    refine ta_if_gt (tgt := 30) hE dX7_undo_24 (by decide) (fun c24 => ?_) (fun c24 => ?_)
    · refine ta_aloadn hE dX7_undo_30 rfl ?_
      refine ta_dup hE dX7_undo_31 (fun _ => rfl) ?_
      refine gf_X7_68 hE dX7_undo_32 ((ok_X7_dayOf hx13).2.1.1) rfl ?_
      refine ta_iconst (v := 1) hE dX7_undo_35 rfl ⟨by decide, by decide⟩ ?_
      refine ta_isub hE dX7_undo_36 ?_
      refine pf_X7_68 hE dX7_undo_37 ((ok_X7_dayOf hx13).2.1.1) rfl ?_
      refine ta_nmm (fun m37 => ?_)
      refine ta_aloadn hE dX7_undo_40 rfl ?_
      refine gf_X7_68 hE dX7_undo_41 ((ok_X7_dayOf hx13).2.1.1) rfl ?_
      exact ta_iret hE dX7_undo_44
    · refine bp_n3 hE dX7_undo_27 ?_
      exact ta_iret hE dX7_undo_29
  · refine bp_n2 hE dX7_undo_8 ?_
    exact ta_iret hE dX7_undo_10
