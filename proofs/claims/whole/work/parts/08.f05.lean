noncomputable def f_X8_lose (a0 : Int) (m : tg_Mem) : tg_R :=
  tg_bd (f_X8_isSheet a0 m) (fun r1 m1 =>
    if r1 ≠ 0 then
      tg_ck (0 ≤ a0 ∧ a0 < 4) (
        if 0 ≤ m1 1 (a0).toNat then
          tg_ck (0 ≤ a0 ∧ a0 < 4) (
            tg_lt (tg_up m1 1 (a0).toNat (-1)) (fun m31 =>
              tg_ck (0 ≤ a0 ∧ a0 < 4) (
                some (m31 2 (a0).toNat, m31))))
        else
          tg_bd (f_X8_met 1 m1) (fun r21 m21 =>
            some (r21, m21)))
    else
      some ((-2), m1))
theorem hy_X8_lose : yX8_lose.cls = RX8 ∧ yX8_lose.cls ≠ "java/lang/invoke/MethodHandle" ∧ yX8_lose.cls ≠ "java/lang/invoke/VarHandle" ∧ (parseMethodDescriptor yX8_lose.desc).map (fun q => q.parameters.length) = some 1 := by decide +kernel
set_option maxRecDepth 100000 in
set_option maxHeartbeats 4000000 in
theorem k_X8_lose   (a0 : Int) (m : tg_Mem) : tg_C yX8_lose cX8_lose 2 (some .int) 3 LM [tr_ 0, ti_ a0] (f_X8_lose a0 m) m := by
  refine ta_enter2 (own := RX8) (by decide +kernel) rfl rfl (Nat.le_of_ble_eq_true rfl) rfl (fun E hE => ?_)
  unfold f_X8_lose
  refine ta_iloadn hE dX8_lose_0 rfl ?_
  refine ta_callS (st := []) hE dX8_lose_1 (k_X8_isSheet a0 m) ml_X8_87 st_X8_isSheet in_X8 co_X8_isSheet hy_X8_isSheet.2 ⟨Nat.le_of_ble_eq_true rfl, Nat.le_of_ble_eq_true rfl⟩ rfl rfl (fun _ => Nat.le_of_ble_eq_true rfl) (fun r1 m1 hx1 hr1 => ?_)
  change tg_AW E _ _ _ _ _ (ti_ r1 :: _) _
  refine ta_if_ne (tgt := 10) hE dX8_lose_4 (by decide) (fun c4 => ?_) (fun c4 => ?_)
  · refine ta_aloadn hE dX8_lose_10 rfl ?_
    refine gr_X8_7 hE dX8_lose_11 lm_0 rfl ?_
    refine ta_iloadn hE dX8_lose_14 rfl ?_
    refine ta_iald (n' := 4) hE dX8_lose_15 lm_1 rfl (fun _ _ => ?_)
    refine ta_if_ge (tgt := 25) hE dX8_lose_16 (by decide) (fun c16 => ?_) (fun c16 => ?_)
    · refine ta_aloadn hE dX8_lose_25 rfl ?_
      refine gr_X8_7 hE dX8_lose_26 lm_0 rfl ?_
      refine ta_iloadn hE dX8_lose_29 rfl ?_
      refine ta_iconst (v := (-1)) hE dX8_lose_30 rfl ⟨by decide, by decide⟩ ?_
      refine ta_iast (n' := 4) hE dX8_lose_31 lm_1 rfl (fun _ _ => ?_)
      refine ta_nmm (fun m31 => ?_)
      refine ta_aloadn hE dX8_lose_32 rfl ?_
      refine gr_X8_13 hE dX8_lose_33 lm_0 rfl ?_
      refine ta_iloadn hE dX8_lose_36 rfl ?_
      refine ta_iald (n' := 4) hE dX8_lose_37 lm_2 rfl (fun _ _ => ?_)
      exact ta_iret hE dX8_lose_38
    · refine ta_aloadn hE dX8_lose_19 rfl ?_
      refine ta_iconst (v := 1) hE dX8_lose_20 rfl ⟨by decide, by decide⟩ ?_
      refine ta_callV (C := RX8) (T := TX8) (st := []) hE dX8_lose_21 (k_X8_met 1 m1) ml_X8_93 im_X8_met se_X8_met in_X8 co_X8_met hy_X8_met ⟨Nat.le_of_ble_eq_true rfl, Nat.le_of_ble_eq_true rfl⟩ lm_0 rfl rfl rfl (fun _ => Nat.le_of_ble_eq_true rfl) (fun r21 m21 hx21 hr21 => ?_)
      change tg_AW E _ _ _ _ _ (ti_ r21 :: _) _
      exact ta_iret hE dX8_lose_24
  · refine bp_n2 hE dX8_lose_7 ?_
    exact ta_iret hE dX8_lose_9
noncomputable def f_X8_cut (a0 : Int) (a1 : Int) (m : tg_Mem) : tg_R :=
  if a0 ≠ 0 then
    if a0 ≠ 1 then
      some (a1, m)
    else
      some (tg_i2s a1, m)
  else
    some (tg_i2b a1, m)
theorem hy_X8_cut : yX8_cut.cls = RX8 ∧ yX8_cut.cls ≠ "java/lang/invoke/MethodHandle" ∧ yX8_cut.cls ≠ "java/lang/invoke/VarHandle" ∧ (parseMethodDescriptor yX8_cut.desc).map (fun q => q.parameters.length) = some 2 := by decide +kernel
set_option maxRecDepth 100000 in
set_option maxHeartbeats 4000000 in
theorem k_X8_cut   (a0 : Int) (a1 : Int) (m : tg_Mem) : tg_C yX8_cut cX8_cut 2 (some .int) 1 LM [ti_ a0, ti_ a1] (f_X8_cut a0 a1 m) m := by
  refine ta_enter2 (own := RX8) (by decide +kernel) rfl rfl (Nat.le_of_ble_eq_true rfl) rfl (fun E hE => ?_)
  unfold f_X8_cut
  refine ta_iloadn hE dX8_cut_0 rfl ?_
  refine ta_if_ne (tgt := 9) hE dX8_cut_1 (by decide) (fun c1 => ?_) (fun c1 => ?_)
  · refine ta_iloadn hE dX8_cut_9 rfl ?_
    refine ta_iconst (v := 1) hE dX8_cut_10 rfl ⟨by decide, by decide⟩ ?_
    refine ta_icmp_ne (tgt := 19) hE dX8_cut_11 (by decide) (fun c11 => ?_) (fun c11 => ?_)
    · refine ta_iloadn hE dX8_cut_19 rfl ?_
      exact ta_iret hE dX8_cut_20
    · refine ta_iloadn hE dX8_cut_14 rfl ?_
      refine ta_i2s hE dX8_cut_15 ?_
      refine ta_goto (tgt := 20) hE dX8_cut_16 (by decide) ?_
      exact ta_iret hE dX8_cut_20
  · refine ta_iloadn hE dX8_cut_4 rfl ?_
    refine ta_i2b hE dX8_cut_5 ?_
    refine ta_goto (tgt := 20) hE dX8_cut_6 (by decide) ?_
    exact ta_iret hE dX8_cut_20
noncomputable def f_X8_lacks (a0 : Int) (a1 : Int) (a2 : Int) (m : tg_Mem) : tg_R :=
  tg_ck (0 ≤ a0 ∧ a0 < 4) (
    if 0 ≤ m 1 (a0).toNat then
      tg_ck (0 ≤ a0 ∧ a0 < 4) (
        if m 1 (a0).toNat = a1 then
          tg_ck (0 ≤ a0 ∧ a0 < 4) (
            tg_bd (f_X8_in a2 0 (tg_wi ((m 2 (a0).toNat) - 1)) m) (fun r43 m43 =>
              if r43 = 0 then
                tg_bd (f_X8_met 2 m43) (fun r55 m55 =>
                  some (r55, m55))
              else
                some (0, m43)))
        else
          tg_bd (f_X8_met 3 m) (fun r27 m27 =>
            some (r27, m27)))
    else
      tg_bd (f_X8_met 1 m) (fun r11 m11 =>
        some (r11, m11)))
theorem hy_X8_lacks : yX8_lacks.cls = RX8 ∧ yX8_lacks.cls ≠ "java/lang/invoke/MethodHandle" ∧ yX8_lacks.cls ≠ "java/lang/invoke/VarHandle" ∧ (parseMethodDescriptor yX8_lacks.desc).map (fun q => q.parameters.length) = some 3 := by decide +kernel
set_option maxRecDepth 100000 in
set_option maxHeartbeats 4000000 in
theorem k_X8_lacks   (a0 : Int) (a1 : Int) (a2 : Int) (m : tg_Mem) : tg_C yX8_lacks cX8_lacks 4 (some .int) 2 LM [tr_ 0, ti_ a0, ti_ a1, ti_ a2] (f_X8_lacks a0 a1 a2 m) m := by
  refine ta_enter2 (own := RX8) (by decide +kernel) rfl rfl (Nat.le_of_ble_eq_true rfl) rfl (fun E hE => ?_)
  unfold f_X8_lacks
  refine ta_aloadn hE dX8_lacks_0 rfl ?_
  refine gr_X8_7 hE dX8_lacks_1 lm_0 rfl ?_
  refine ta_iloadn hE dX8_lacks_4 rfl ?_
  refine ta_iald (n' := 4) hE dX8_lacks_5 lm_1 rfl (fun _ _ => ?_)
  refine ta_if_ge (tgt := 15) hE dX8_lacks_6 (by decide) (fun c6 => ?_) (fun c6 => ?_)
  · refine ta_aloadn hE dX8_lacks_15 rfl ?_
    refine gr_X8_7 hE dX8_lacks_16 lm_0 rfl ?_
    refine ta_iloadn hE dX8_lacks_19 rfl ?_
    refine ta_iald (n' := 4) hE dX8_lacks_20 lm_1 rfl (fun _ _ => ?_)
    refine ta_iloadn hE dX8_lacks_21 rfl ?_
    refine ta_icmp_eq (tgt := 31) hE dX8_lacks_22 (by decide) (fun c22 => ?_) (fun c22 => ?_)
    · refine ta_iloadn hE dX8_lacks_31 rfl ?_
      refine ta_i2l hE dX8_lacks_32 ?_
      refine ta_lconst (v := 0) hE dX8_lacks_33 rfl ⟨by decide, by decide⟩ ?_
      refine ta_aloadn hE dX8_lacks_34 rfl ?_
      refine gr_X8_13 hE dX8_lacks_35 lm_0 rfl ?_
      refine ta_iloadn hE dX8_lacks_38 rfl ?_
      refine ta_iald (n' := 4) hE dX8_lacks_39 lm_2 rfl (fun _ _ => ?_)
      refine ta_iconst (v := 1) hE dX8_lacks_40 rfl ⟨by decide, by decide⟩ ?_
      refine ta_isub hE dX8_lacks_41 ?_
      refine ta_i2l hE dX8_lacks_42 ?_
      refine ta_callS (st := []) hE dX8_lacks_43 (k_X8_in a2 0 (tg_wi ((m 2 (a0).toNat) - 1)) m) ml_X8_77 st_X8_in in_X8 co_X8_in hy_X8_in.2 ⟨Nat.le_of_ble_eq_true rfl, Nat.le_of_ble_eq_true rfl⟩ rfl rfl (fun _ => Nat.le_of_ble_eq_true rfl) (fun r43 m43 hx43 hr43 => ?_)
      change tg_AW E _ _ _ _ _ (ti_ r43 :: _) _
      refine ta_if_eq (tgt := 53) hE dX8_lacks_46 (by decide) (fun c46 => ?_) (fun c46 => ?_)
      · refine ta_aloadn hE dX8_lacks_53 rfl ?_
        refine ta_iconst (v := 2) hE dX8_lacks_54 rfl ⟨by decide, by decide⟩ ?_
        refine ta_callV (C := RX8) (T := TX8) (st := []) hE dX8_lacks_55 (k_X8_met 2 m43) ml_X8_93 im_X8_met se_X8_met in_X8 co_X8_met hy_X8_met ⟨Nat.le_of_ble_eq_true rfl, Nat.le_of_ble_eq_true rfl⟩ lm_0 rfl rfl rfl (fun _ => Nat.le_of_ble_eq_true rfl) (fun r55 m55 hx55 hr55 => ?_)
        change tg_AW E _ _ _ _ _ (ti_ r55 :: _) _
        exact ta_iret hE dX8_lacks_58
      · refine ta_iconst (v := 0) hE dX8_lacks_49 rfl ⟨by decide, by decide⟩ ?_
        refine ta_goto (tgt := 58) hE dX8_lacks_50 (by decide) ?_
        exact ta_iret hE dX8_lacks_58
    · refine ta_aloadn hE dX8_lacks_25 rfl ?_
      refine ta_iconst (v := 3) hE dX8_lacks_26 rfl ⟨by decide, by decide⟩ ?_
      refine ta_callV (C := RX8) (T := TX8) (st := []) hE dX8_lacks_27 (k_X8_met 3 m) ml_X8_93 im_X8_met se_X8_met in_X8 co_X8_met hy_X8_met ⟨Nat.le_of_ble_eq_true rfl, Nat.le_of_ble_eq_true rfl⟩ lm_0 rfl rfl rfl (fun _ => Nat.le_of_ble_eq_true rfl) (fun r27 m27 hx27 hr27 => ?_)
      change tg_AW E _ _ _ _ _ (ti_ r27 :: _) _
      exact ta_iret hE dX8_lacks_30
  · refine ta_aloadn hE dX8_lacks_9 rfl ?_
    refine ta_iconst (v := 1) hE dX8_lacks_10 rfl ⟨by decide, by decide⟩ ?_
    refine ta_callV (C := RX8) (T := TX8) (st := []) hE dX8_lacks_11 (k_X8_met 1 m) ml_X8_93 im_X8_met se_X8_met in_X8 co_X8_met hy_X8_met ⟨Nat.le_of_ble_eq_true rfl, Nat.le_of_ble_eq_true rfl⟩ lm_0 rfl rfl rfl (fun _ => Nat.le_of_ble_eq_true rfl) (fun r11 m11 hx11 hr11 => ?_)
    change tg_AW E _ _ _ _ _ (ti_ r11 :: _) _
    exact ta_iret hE dX8_lacks_14
noncomputable def f_X8_lay (a0 : Int) (a1 : Int) (a2 : Int) (a3 : Int) (m : tg_Mem) : tg_R :=
  tg_bd (f_X8_isSheet a0 m) (fun r1 m1 =>
    if r1 = 0 then
      some ((-2), m1)
    else
      tg_bd (f_X8_in a1 0 2 m1) (fun r13 m13 =>
        if r13 ≠ 0 then
          tg_bd (f_X8_lacks a0 a1 a2 m13) (fun r26 m26 =>
            if r26 = 0 then
              tg_bd (f_X8_cut a1 a3 m26) (fun r52 m52 =>
                tg_ck (0 ≤ tg_wi ((tg_wi (60 * a0)) + a2) ∧ tg_wi ((tg_wi (60 * a0)) + a2) < 240) (
                  tg_lt (tg_up m52 3 (tg_wi ((tg_wi (60 * a0)) + a2)).toNat r52) (fun m55 =>
                    some (1, m55))))
            else
              some (r26, m26))
        else
          some ((-2), m13)))
theorem hy_X8_lay : yX8_lay.cls = RX8 ∧ yX8_lay.cls ≠ "java/lang/invoke/MethodHandle" ∧ yX8_lay.cls ≠ "java/lang/invoke/VarHandle" ∧ (parseMethodDescriptor yX8_lay.desc).map (fun q => q.parameters.length) = some 4 := by decide +kernel
set_option maxRecDepth 100000 in
set_option maxHeartbeats 4000000 in
theorem k_X8_lay   (a0 : Int) (a1 : Int) (a2 : Int) (a3 : Int) (m : tg_Mem) : tg_C yX8_lay cX8_lay 6 (some .int) 3 LM [tr_ 0, ti_ a0, ti_ a1, ti_ a2, ti_ a3] (f_X8_lay a0 a1 a2 a3 m) m := by
  refine ta_enter2 (own := RX8) (by decide +kernel) rfl rfl (Nat.le_of_ble_eq_true rfl) rfl (fun E hE => ?_)
  unfold f_X8_lay
  refine ta_iloadn hE dX8_lay_0 rfl ?_
  refine ta_callS (st := []) hE dX8_lay_1 (k_X8_isSheet a0 m) ml_X8_87 st_X8_isSheet in_X8 co_X8_isSheet hy_X8_isSheet.2 ⟨Nat.le_of_ble_eq_true rfl, Nat.le_of_ble_eq_true rfl⟩ rfl rfl (fun _ => Nat.le_of_ble_eq_true rfl) (fun r1 m1 hx1 hr1 => ?_)
  change tg_AW E _ _ _ _ _ (ti_ r1 :: _) _
  refine ta_if_eq (tgt := 19) hE dX8_lay_4 (by decide) (fun c4 => ?_) (fun c4 => ?_)
  · refine bp_n2 hE dX8_lay_19 ?_
    exact ta_iret hE dX8_lay_21
  · refine ta_iloadn hE dX8_lay_7 rfl ?_
    refine ta_i2l hE dX8_lay_8 ?_
    refine ta_lconst (v := 0) hE dX8_lay_9 rfl ⟨by decide, by decide⟩ ?_
    refine ta_ldc2 (v := 2) hE dX8_lay_10 lc_X8_91 ⟨by decide, by decide⟩ ?_
    refine ta_callS (st := []) hE dX8_lay_13 (k_X8_in a1 0 2 m1) ml_X8_77 st_X8_in in_X8 co_X8_in hy_X8_in.2 ⟨Nat.le_of_ble_eq_true rfl, Nat.le_of_ble_eq_true rfl⟩ rfl rfl (fun _ => Nat.le_of_ble_eq_true rfl) (fun r13 m13 hx13 hr13 => ?_)
    change tg_AW E _ _ _ _ _ (ti_ r13 :: _) _
    refine ta_if_ne (tgt := 22) hE dX8_lay_16 (by decide) (fun c16 => ?_) (fun c16 => ?_)
    · refine ta_aloadn hE dX8_lay_22 rfl ?_
      refine ta_iloadn hE dX8_lay_23 rfl ?_
      refine ta_iloadn hE dX8_lay_24 rfl ?_
      refine ta_iloadn hE dX8_lay_25 rfl ?_
      refine ta_callV (C := RX8) (T := TX8) (st := []) hE dX8_lay_26 (k_X8_lacks a0 a1 a2 m13) ml_X8_97 im_X8_lacks se_X8_lacks in_X8 co_X8_lacks hy_X8_lacks ⟨Nat.le_of_ble_eq_true rfl, Nat.le_of_ble_eq_true rfl⟩ lm_0 rfl rfl rfl (fun _ => Nat.le_of_ble_eq_true rfl) (fun r26 m26 hx26 hr26 => ?_)
      change tg_AW E _ _ _ _ _ (ti_ r26 :: _) _
      refine ta_istore (lv2 := [tr_ 0, ti_ a0, ti_ a1, ti_ a2, ti_ a3, ti_ r26]) hE dX8_lay_29 (Nat.le_of_ble_eq_true rfl) rfl rfl ?_
      refine ta_iload hE dX8_lay_31 rfl ?_
      refine ta_if_eq (tgt := 39) hE dX8_lay_33 (by decide) (fun c33 => ?_) (fun c33 => ?_)
      · refine ta_aloadn hE dX8_lay_39 rfl ?_
        refine gr_X8_16 hE dX8_lay_40 lm_0 rfl ?_
        refine bp_60 hE dX8_lay_43 ?_
        refine ta_iloadn hE dX8_lay_45 rfl ?_
        refine ta_imul hE dX8_lay_46 ?_
        refine ta_iloadn hE dX8_lay_47 rfl ?_
        refine ta_iadd hE dX8_lay_48 ?_
        refine ta_iloadn hE dX8_lay_49 rfl ?_
        refine ta_iload hE dX8_lay_50 rfl ?_
        refine ta_callS (st := [ti_ (tg_wi ((tg_wi (60 * a0)) + a2)), tr_ 3]) hE dX8_lay_52 (k_X8_cut a1 a3 m26) ml_X8_101 st_X8_cut in_X8 co_X8_cut hy_X8_cut.2 ⟨Nat.le_of_ble_eq_true rfl, Nat.le_of_ble_eq_true rfl⟩ rfl rfl (fun _ => Nat.le_of_ble_eq_true rfl) (fun r52 m52 hx52 hr52 => ?_)
        change tg_AW E _ _ _ _ _ (ti_ r52 :: _) _
        refine ta_iast (n' := 240) hE dX8_lay_55 lm_3 rfl (fun _ _ => ?_)
        refine ta_nmm (fun m55 => ?_)
        refine ta_iconst (v := 1) hE dX8_lay_56 rfl ⟨by decide, by decide⟩ ?_
        exact ta_iret hE dX8_lay_57
      · refine ta_iload hE dX8_lay_36 rfl ?_
        exact ta_iret hE dX8_lay_38
    · refine bp_n2 hE dX8_lay_19 ?_
      exact ta_iret hE dX8_lay_21
noncomputable def f_X8_get (a0 : Int) (a1 : Int) (a2 : Int) (m : tg_Mem) : tg_R :=
  tg_bd (f_X8_isSheet a0 m) (fun r1 m1 =>
    if r1 = 0 then
      some ((-2147483648), m1)
    else
      tg_bd (f_X8_in a1 0 2 m1) (fun r13 m13 =>
        if r13 = 0 then
          some ((-2147483648), m13)
        else
          tg_bd (f_X8_lacks a0 a1 a2 m13) (fun r23 m23 =>
            if r23 = 0 then
              tg_ck (0 ≤ tg_wi ((tg_wi (60 * a0)) + a2) ∧ tg_wi ((tg_wi (60 * a0)) + a2) < 240) (
                some (m23 3 (tg_wi ((tg_wi (60 * a0)) + a2)).toNat, m23))
            else
              some ((-2147483648), m23))))
theorem hy_X8_get : yX8_get.cls = RX8 ∧ yX8_get.cls ≠ "java/lang/invoke/MethodHandle" ∧ yX8_get.cls ≠ "java/lang/invoke/VarHandle" ∧ (parseMethodDescriptor yX8_get.desc).map (fun q => q.parameters.length) = some 3 := by decide +kernel
set_option maxRecDepth 100000 in
set_option maxHeartbeats 4000000 in
theorem k_X8_get   (a0 : Int) (a1 : Int) (a2 : Int) (m : tg_Mem) : tg_C yX8_get cX8_get 4 (some .int) 3 LM [tr_ 0, ti_ a0, ti_ a1, ti_ a2] (f_X8_get a0 a1 a2 m) m := by
  refine ta_enter2 (own := RX8) (by decide +kernel) rfl rfl (Nat.le_of_ble_eq_true rfl) rfl (fun E hE => ?_)
  unfold f_X8_get
  refine ta_iloadn hE dX8_get_0 rfl ?_
  refine ta_callS (st := []) hE dX8_get_1 (k_X8_isSheet a0 m) ml_X8_87 st_X8_isSheet in_X8 co_X8_isSheet hy_X8_isSheet.2 ⟨Nat.le_of_ble_eq_true rfl, Nat.le_of_ble_eq_true rfl⟩ rfl rfl (fun _ => Nat.le_of_ble_eq_true rfl) (fun r1 m1 hx1 hr1 => ?_)
  change tg_AW E _ _ _ _ _ (ti_ r1 :: _) _
  refine ta_if_eq (tgt := 29) hE dX8_get_4 (by decide) (fun c4 => ?_) (fun c4 => ?_)
  · refine ta_ldc (v := (-2147483648)) hE dX8_get_29 ic_X8_105 ⟨by decide, by decide⟩ ?_
    exact ta_iret hE dX8_get_31
  · refine ta_iloadn hE dX8_get_7 rfl ?_
    refine ta_i2l hE dX8_get_8 ?_
    refine ta_lconst (v := 0) hE dX8_get_9 rfl ⟨by decide, by decide⟩ ?_
    refine ta_ldc2 (v := 2) hE dX8_get_10 lc_X8_91 ⟨by decide, by decide⟩ ?_
    refine ta_callS (st := []) hE dX8_get_13 (k_X8_in a1 0 2 m1) ml_X8_77 st_X8_in in_X8 co_X8_in hy_X8_in.2 ⟨Nat.le_of_ble_eq_true rfl, Nat.le_of_ble_eq_true rfl⟩ rfl rfl (fun _ => Nat.le_of_ble_eq_true rfl) (fun r13 m13 hx13 hr13 => ?_)
    change tg_AW E _ _ _ _ _ (ti_ r13 :: _) _
    refine ta_if_eq (tgt := 29) hE dX8_get_16 (by decide) (fun c16 => ?_) (fun c16 => ?_)
    · refine ta_ldc (v := (-2147483648)) hE dX8_get_29 ic_X8_105 ⟨by decide, by decide⟩ ?_
      exact ta_iret hE dX8_get_31
    · refine ta_aloadn hE dX8_get_19 rfl ?_
      refine ta_iloadn hE dX8_get_20 rfl ?_
      refine ta_iloadn hE dX8_get_21 rfl ?_
      refine ta_iloadn hE dX8_get_22 rfl ?_
      refine ta_callV (C := RX8) (T := TX8) (st := []) hE dX8_get_23 (k_X8_lacks a0 a1 a2 m13) ml_X8_97 im_X8_lacks se_X8_lacks in_X8 co_X8_lacks hy_X8_lacks ⟨Nat.le_of_ble_eq_true rfl, Nat.le_of_ble_eq_true rfl⟩ lm_0 rfl rfl rfl (fun _ => Nat.le_of_ble_eq_true rfl) (fun r23 m23 hx23 hr23 => ?_)
      change tg_AW E _ _ _ _ _ (ti_ r23 :: _) _
      refine ta_if_eq (tgt := 32) hE dX8_get_26 (by decide) (fun c26 => ?_) (fun c26 => ?_)
      · refine ta_aloadn hE dX8_get_32 rfl ?_
        refine gr_X8_16 hE dX8_get_33 lm_0 rfl ?_
        refine bp_60 hE dX8_get_36 ?_
        refine ta_iloadn hE dX8_get_38 rfl ?_
        refine ta_imul hE dX8_get_39 ?_
        refine ta_iloadn hE dX8_get_40 rfl ?_
        refine ta_iadd hE dX8_get_41 ?_
        refine ta_iald (n' := 240) hE dX8_get_42 lm_3 rfl (fun _ _ => ?_)
        exact ta_iret hE dX8_get_43
      · refine ta_ldc (v := (-2147483648)) hE dX8_get_29 ic_X8_105 ⟨by decide, by decide⟩ ?_
        exact ta_iret hE dX8_get_31
noncomputable def f_X8_copy_B157 (a2 : Int) (a3 : Int) (a4 : Int) (self157 : Int → tg_Mem → tg_R) (v6_157 : Int) (m_157 : tg_Mem) : tg_R :=
  if a4 ≤ v6_157 then
    some (1, m_157)
  else
    tg_ck (0 ≤ v6_157 ∧ v6_157 < 60) (
      tg_ck (0 ≤ tg_wi ((tg_wi ((tg_wi (60 * a2)) + a3)) + v6_157) ∧ tg_wi ((tg_wi ((tg_wi (60 * a2)) + a3)) + v6_157) < 240) (
        tg_lt (tg_up m_157 3 (tg_wi ((tg_wi ((tg_wi (60 * a2)) + a3)) + v6_157)).toNat (m_157 4 (v6_157).toNat)) (fun m185 =>
          tg_lt (tg_wi (v6_157 + 1)) (fun v6_186 =>
            self157 v6_186 m185))))
noncomputable def f_X8_copy_B120 (a0 : Int) (a1 : Int) (a4 : Int) (j154 : tg_Mem → tg_R) (self120 : Int → tg_Mem → tg_R) (v6_120 : Int) (m_120 : tg_Mem) : tg_R :=
  if a4 ≤ v6_120 then
    j154 m_120
  else
    tg_ck (0 ≤ tg_wi ((tg_wi ((tg_wi (60 * a0)) + a1)) + v6_120) ∧ tg_wi ((tg_wi ((tg_wi (60 * a0)) + a1)) + v6_120) < 240) (
      tg_ck (0 ≤ v6_120 ∧ v6_120 < 60) (
        tg_lt (tg_up m_120 4 (v6_120).toNat (m_120 3 (tg_wi ((tg_wi ((tg_wi (60 * a0)) + a1)) + v6_120)).toNat)) (fun m147 =>
          tg_lt (tg_wi (v6_120 + 1)) (fun v6_148 =>
            self120 v6_148 m147))))
noncomputable def f_X8_copy (a0 : Int) (a1 : Int) (a2 : Int) (a3 : Int) (a4 : Int) (m : tg_Mem) : tg_R :=
  tg_bd (f_X8_isSheet a0 m) (fun r1 m1 =>
    if r1 = 0 then
      some ((-2), m1)
    else
      tg_bd (f_X8_isSheet a2 m1) (fun r8 m8 =>
        if r8 ≠ 0 then
          tg_ck (0 ≤ a0 ∧ a0 < 4) (
            tg_jn (γ := tg_R) (tg_bd (f_X8_met 1 m8) (fun r37 m37 =>
              some (r37, m37))) (fun j35 =>
              if m8 1 (a0).toNat < 0 then
                j35
              else
                tg_ck (0 ≤ a2 ∧ a2 < 4) (
                  if 0 ≤ m8 1 (a2).toNat then
                    tg_ck (0 ≤ a0 ∧ a0 < 4) (
                      tg_ck (0 ≤ a2 ∧ a2 < 4) (
                        if m8 1 (a0).toNat = m8 1 (a2).toNat then
                          tg_jn (γ := tg_R) (tg_bd (f_X8_met 2 m8) (fun r113 m113 =>
                            some (r113, m113))) (fun j111 =>
                            if a1 < 0 then
                              j111
                            else
                              if a3 < 0 then
                                j111
                              else
                                if a4 < 0 then
                                  j111
                                else
                                  tg_ck (0 ≤ a0 ∧ a0 < 4) (
                                    if m8 2 (a0).toNat < tg_wl (a1 + a4) then
                                      j111
                                    else
                                      tg_ck (0 ≤ a2 ∧ a2 < 4) (
                                        if tg_wl (a3 + a4) ≤ m8 2 (a2).toNat then
                                          tg_jn (γ := tg_Mem → tg_R) (fun (m_154 : tg_Mem) => tg_fx (γ := Int → tg_Mem → tg_R) (f_X8_copy_B157 a2 a3 a4) (fun _ _ => none) tg_FU 0 m_154) (fun j154 =>
                                            tg_fx (γ := Int → tg_Mem → tg_R) (f_X8_copy_B120 a0 a1 a4 j154) (fun _ _ => none) tg_FU 0 m8)
                                        else
                                          j111)))
                        else
                          tg_bd (f_X8_met 4 m8) (fun r58 m58 =>
                            some (r58, m58))))
                  else
                    j35)))
        else
          some ((-2), m8)))
theorem hy_X8_copy : yX8_copy.cls = RX8 ∧ yX8_copy.cls ≠ "java/lang/invoke/MethodHandle" ∧ yX8_copy.cls ≠ "java/lang/invoke/VarHandle" ∧ (parseMethodDescriptor yX8_copy.desc).map (fun q => q.parameters.length) = some 5 := by decide +kernel
set_option maxRecDepth 100000 in
set_option maxHeartbeats 4000000 in
theorem k_X8_copy   (a0 : Int) (a1 : Int) (a2 : Int) (a3 : Int) (a4 : Int) (m : tg_Mem) : tg_C yX8_copy cX8_copy 7 (some .int) 3 LM [tr_ 0, ti_ a0, ti_ a1, ti_ a2, ti_ a3, ti_ a4] (f_X8_copy a0 a1 a2 a3 a4 m) m := by
  refine ta_enter2 (own := RX8) (by decide +kernel) rfl rfl (Nat.le_of_ble_eq_true rfl) rfl (fun E hE => ?_)
  unfold f_X8_copy
  refine ta_iloadn hE dX8_copy_0 rfl ?_
  refine ta_callS (st := []) hE dX8_copy_1 (k_X8_isSheet a0 m) ml_X8_87 st_X8_isSheet in_X8 co_X8_isSheet hy_X8_isSheet.2 ⟨Nat.le_of_ble_eq_true rfl, Nat.le_of_ble_eq_true rfl⟩ rfl rfl (fun _ => Nat.le_of_ble_eq_true rfl) (fun r1 m1 hx1 hr1 => ?_)
  change tg_AW E _ _ _ _ _ (ti_ r1 :: _) _
  refine ta_if_eq (tgt := 14) hE dX8_copy_4 (by decide) (fun c4 => ?_) (fun c4 => ?_)
  · refine bp_n2 hE dX8_copy_14 ?_
    exact ta_iret hE dX8_copy_16
  · refine ta_iloadn hE dX8_copy_7 rfl ?_
    refine ta_callS (st := []) hE dX8_copy_8 (k_X8_isSheet a2 m1) ml_X8_87 st_X8_isSheet in_X8 co_X8_isSheet hy_X8_isSheet.2 ⟨Nat.le_of_ble_eq_true rfl, Nat.le_of_ble_eq_true rfl⟩ rfl rfl (fun _ => Nat.le_of_ble_eq_true rfl) (fun r8 m8 hx8 hr8 => ?_)
    change tg_AW E _ _ _ _ _ (ti_ r8 :: _) _
    refine ta_if_ne (tgt := 17) hE dX8_copy_11 (by decide) (fun c11 => ?_) (fun c11 => ?_)
    · refine ta_aloadn hE dX8_copy_17 rfl ?_
      refine gr_X8_7 hE dX8_copy_18 lm_0 rfl ?_
      refine ta_iloadn hE dX8_copy_21 rfl ?_
      refine ta_iald (n' := 4) hE dX8_copy_22 lm_1 rfl (fun _ _ => ?_)
      refine ta_join (γ := tg_R) (fun J => tg_AW E LM (some .int) J 35 [tr_ 0, tj_, tj_, tj_, tj_, tj_, tj_] [] m8) ?_ (fun j35 hj35 => ?_)
      · refine ta_aloadn hE dX8_copy_35 rfl ?_
        refine ta_iconst (v := 1) hE dX8_copy_36 rfl ⟨by decide, by decide⟩ ?_
        refine ta_callV (C := RX8) (T := TX8) (st := []) hE dX8_copy_37 (k_X8_met 1 m8) ml_X8_93 im_X8_met se_X8_met in_X8 co_X8_met hy_X8_met ⟨Nat.le_of_ble_eq_true rfl, Nat.le_of_ble_eq_true rfl⟩ lm_0 rfl rfl rfl (fun _ => Nat.le_of_ble_eq_true rfl) (fun r37 m37 hx37 hr37 => ?_)
        change tg_AW E _ _ _ _ _ (ti_ r37 :: _) _
        exact ta_iret hE dX8_copy_40
      · refine ta_if_lt (tgt := 35) hE dX8_copy_23 (by decide) (fun c23 => ?_) (fun c23 => ?_)
        · exact (ta_wk (i := 1) (lv2 := [tr_ 0, tj_, ti_ a1, ti_ a2, ti_ a3, ti_ a4, tj_]) rfl (ta_wk (i := 2) (lv2 := [tr_ 0, tj_, tj_, ti_ a2, ti_ a3, ti_ a4, tj_]) rfl (ta_wk (i := 3) (lv2 := [tr_ 0, tj_, tj_, tj_, ti_ a3, ti_ a4, tj_]) rfl (ta_wk (i := 4) (lv2 := [tr_ 0, tj_, tj_, tj_, tj_, ti_ a4, tj_]) rfl (ta_wk (i := 5) (lv2 := [tr_ 0, tj_, tj_, tj_, tj_, tj_, tj_]) rfl hj35)))))
        · refine ta_aloadn hE dX8_copy_26 rfl ?_
          refine gr_X8_7 hE dX8_copy_27 lm_0 rfl ?_
          refine ta_iloadn hE dX8_copy_30 rfl ?_
          refine ta_iald (n' := 4) hE dX8_copy_31 lm_1 rfl (fun _ _ => ?_)
          refine ta_if_ge (tgt := 41) hE dX8_copy_32 (by decide) (fun c32 => ?_) (fun c32 => ?_)
          · refine ta_aloadn hE dX8_copy_41 rfl ?_
            refine gr_X8_7 hE dX8_copy_42 lm_0 rfl ?_
            refine ta_iloadn hE dX8_copy_45 rfl ?_
            refine ta_iald (n' := 4) hE dX8_copy_46 lm_1 rfl (fun _ _ => ?_)
            refine ta_aloadn hE dX8_copy_47 rfl ?_
            refine gr_X8_7 hE dX8_copy_48 lm_0 rfl ?_
            refine ta_iloadn hE dX8_copy_51 rfl ?_
            refine ta_iald (n' := 4) hE dX8_copy_52 lm_1 rfl (fun _ _ => ?_)
            refine ta_icmp_eq (tgt := 62) hE dX8_copy_53 (by decide) (fun c53 => ?_) (fun c53 => ?_)
            · refine ta_iloadn hE dX8_copy_62 rfl ?_
              refine ta_join (γ := tg_R) (fun J => tg_AW E LM (some .int) J 111 [tr_ 0, tj_, tj_, tj_, tj_, tj_, tj_] [] m8) ?_ (fun j111 hj111 => ?_)
              · refine ta_aloadn hE dX8_copy_111 rfl ?_
                refine ta_iconst (v := 2) hE dX8_copy_112 rfl ⟨by decide, by decide⟩ ?_
                refine ta_callV (C := RX8) (T := TX8) (st := []) hE dX8_copy_113 (k_X8_met 2 m8) ml_X8_93 im_X8_met se_X8_met in_X8 co_X8_met hy_X8_met ⟨Nat.le_of_ble_eq_true rfl, Nat.le_of_ble_eq_true rfl⟩ lm_0 rfl rfl rfl (fun _ => Nat.le_of_ble_eq_true rfl) (fun r113 m113 hx113 hr113 => ?_)
                change tg_AW E _ _ _ _ _ (ti_ r113 :: _) _
                exact ta_iret hE dX8_copy_116
              · refine ta_if_lt (tgt := 111) hE dX8_copy_63 (by decide) (fun c63 => ?_) (fun c63 => ?_)
                · exact (ta_wk (i := 1) (lv2 := [tr_ 0, tj_, ti_ a1, ti_ a2, ti_ a3, ti_ a4, tj_]) rfl (ta_wk (i := 2) (lv2 := [tr_ 0, tj_, tj_, ti_ a2, ti_ a3, ti_ a4, tj_]) rfl (ta_wk (i := 3) (lv2 := [tr_ 0, tj_, tj_, tj_, ti_ a3, ti_ a4, tj_]) rfl (ta_wk (i := 4) (lv2 := [tr_ 0, tj_, tj_, tj_, tj_, ti_ a4, tj_]) rfl (ta_wk (i := 5) (lv2 := [tr_ 0, tj_, tj_, tj_, tj_, tj_, tj_]) rfl hj111)))))
                · refine ta_iload hE dX8_copy_66 rfl ?_
                  refine ta_if_lt (tgt := 111) hE dX8_copy_68 (by decide) (fun c68 => ?_) (fun c68 => ?_)
                  · exact (ta_wk (i := 1) (lv2 := [tr_ 0, tj_, ti_ a1, ti_ a2, ti_ a3, ti_ a4, tj_]) rfl (ta_wk (i := 2) (lv2 := [tr_ 0, tj_, tj_, ti_ a2, ti_ a3, ti_ a4, tj_]) rfl (ta_wk (i := 3) (lv2 := [tr_ 0, tj_, tj_, tj_, ti_ a3, ti_ a4, tj_]) rfl (ta_wk (i := 4) (lv2 := [tr_ 0, tj_, tj_, tj_, tj_, ti_ a4, tj_]) rfl (ta_wk (i := 5) (lv2 := [tr_ 0, tj_, tj_, tj_, tj_, tj_, tj_]) rfl hj111)))))
                  · refine ta_iload hE dX8_copy_71 rfl ?_
                    refine ta_if_lt (tgt := 111) hE dX8_copy_73 (by decide) (fun c73 => ?_) (fun c73 => ?_)
                    · exact (ta_wk (i := 1) (lv2 := [tr_ 0, tj_, ti_ a1, ti_ a2, ti_ a3, ti_ a4, tj_]) rfl (ta_wk (i := 2) (lv2 := [tr_ 0, tj_, tj_, ti_ a2, ti_ a3, ti_ a4, tj_]) rfl (ta_wk (i := 3) (lv2 := [tr_ 0, tj_, tj_, tj_, ti_ a3, ti_ a4, tj_]) rfl (ta_wk (i := 4) (lv2 := [tr_ 0, tj_, tj_, tj_, tj_, ti_ a4, tj_]) rfl (ta_wk (i := 5) (lv2 := [tr_ 0, tj_, tj_, tj_, tj_, tj_, tj_]) rfl hj111)))))
                    · refine ta_iloadn hE dX8_copy_76 rfl ?_
                      refine ta_i2l hE dX8_copy_77 ?_
                      refine ta_iload hE dX8_copy_78 rfl ?_
                      refine ta_i2l hE dX8_copy_80 ?_
                      refine ta_ladd hE dX8_copy_81 ?_
                      refine ta_aloadn hE dX8_copy_82 rfl ?_
                      refine gr_X8_13 hE dX8_copy_83 lm_0 rfl ?_
                      refine ta_iloadn hE dX8_copy_86 rfl ?_
                      refine ta_iald (n' := 4) hE dX8_copy_87 lm_2 rfl (fun _ _ => ?_)
                      refine ta_i2l hE dX8_copy_88 ?_
                      refine ta_lcmp_gt (tgt := 111) hE dX8_copy_89 dX8_copy_90 (by decide) (fun c89 => ?_) (fun c89 => ?_)
                      · exact (ta_wk (i := 1) (lv2 := [tr_ 0, tj_, ti_ a1, ti_ a2, ti_ a3, ti_ a4, tj_]) rfl (ta_wk (i := 2) (lv2 := [tr_ 0, tj_, tj_, ti_ a2, ti_ a3, ti_ a4, tj_]) rfl (ta_wk (i := 3) (lv2 := [tr_ 0, tj_, tj_, tj_, ti_ a3, ti_ a4, tj_]) rfl (ta_wk (i := 4) (lv2 := [tr_ 0, tj_, tj_, tj_, tj_, ti_ a4, tj_]) rfl (ta_wk (i := 5) (lv2 := [tr_ 0, tj_, tj_, tj_, tj_, tj_, tj_]) rfl hj111)))))
                      · refine ta_iload hE dX8_copy_93 rfl ?_
                        refine ta_i2l hE dX8_copy_95 ?_
                        refine ta_iload hE dX8_copy_96 rfl ?_
                        refine ta_i2l hE dX8_copy_98 ?_
                        refine ta_ladd hE dX8_copy_99 ?_
                        refine ta_aloadn hE dX8_copy_100 rfl ?_
                        refine gr_X8_13 hE dX8_copy_101 lm_0 rfl ?_
                        refine ta_iloadn hE dX8_copy_104 rfl ?_
                        refine ta_iald (n' := 4) hE dX8_copy_105 lm_2 rfl (fun _ _ => ?_)
                        refine ta_i2l hE dX8_copy_106 ?_
                        refine ta_lcmp_le (tgt := 117) hE dX8_copy_107 dX8_copy_108 (by decide) (fun c107 => ?_) (fun c107 => ?_)
                        · refine ta_iconst (v := 0) hE dX8_copy_117 rfl ⟨by decide, by decide⟩ ?_
                          refine ta_istore (lv2 := [tr_ 0, ti_ a0, ti_ a1, ti_ a2, ti_ a3, ti_ a4, ti_ 0]) hE dX8_copy_118 (Nat.le_of_ble_eq_true rfl) rfl rfl ?_
                          refine ta_join (γ := tg_Mem → tg_R) (fun J => ∀ (m_154 : tg_Mem), tg_AW E LM (some .int) (J m_154) 154 [tr_ 0, tj_, tj_, ti_ a2, ti_ a3, ti_ a4, tj_] [] m_154) ?_ (fun j154 hj154 => ?_)
                          · intro m_154
                            refine ta_iconst (v := 0) hE dX8_copy_154 rfl ⟨by decide, by decide⟩ ?_
                            refine ta_istore (lv2 := [tr_ 0, tj_, tj_, ti_ a2, ti_ a3, ti_ a4, ti_ 0]) hE dX8_copy_155 (Nat.le_of_ble_eq_true rfl) rfl rfl ?_
                            have hl157 := ta_fx (γ := Int → tg_Mem → tg_R) (F := (f_X8_copy_B157 a2 a3 a4)) (z := (fun _ _ => none)) (fun J => ∀ (v6_157 : Int) (m_157 : tg_Mem), tg_AW E LM (some .int) (J v6_157 m_157) 157 [tr_ 0, tj_, tj_, ti_ a2, ti_ a3, ti_ a4, ti_ v6_157] [] m_157) (by intros; exact ta_none) (fun self157 hself157 => by
                                intro v6_157 m_157
                                unfold f_X8_copy_B157
                                refine ta_iload hE dX8_copy_157 rfl ?_
                                refine ta_iload hE dX8_copy_159 rfl ?_
                                refine ta_icmp_ge (tgt := 192) hE dX8_copy_161 (by decide) (fun c161 => ?_) (fun c161 => ?_)
                                · refine ta_iconst (v := 1) hE dX8_copy_192 rfl ⟨by decide, by decide⟩ ?_
                                  exact ta_iret hE dX8_copy_193
                                · refine ta_aloadn hE dX8_copy_164 rfl ?_
                                  refine gr_X8_16 hE dX8_copy_165 lm_0 rfl ?_
                                  refine bp_60 hE dX8_copy_168 ?_
                                  refine ta_iloadn hE dX8_copy_170 rfl ?_
                                  refine ta_imul hE dX8_copy_171 ?_
                                  refine ta_iload hE dX8_copy_172 rfl ?_
                                  refine ta_iadd hE dX8_copy_174 ?_
                                  refine ta_iload hE dX8_copy_175 rfl ?_
                                  refine ta_iadd hE dX8_copy_177 ?_
                                  refine ta_aloadn hE dX8_copy_178 rfl ?_
                                  refine gr_X8_19 hE dX8_copy_179 lm_0 rfl ?_
                                  refine ta_iload hE dX8_copy_182 rfl ?_
                                  refine ta_iald (n' := 60) hE dX8_copy_184 lm_4 rfl (fun _ _ => ?_)
                                  refine ta_iast (n' := 240) hE dX8_copy_185 lm_3 rfl (fun _ _ => ?_)
                                  refine ta_nmm (fun m185 => ?_)
                                  refine ta_iincn (lv2 := fun v6_186 => [tr_ 0, tj_, tj_, ti_ a2, ti_ a3, ti_ a4, ti_ v6_186]) hE dX8_copy_186 rfl rfl rfl (fun v6_186 => ?_)
                                  refine ta_goto (tgt := 157) hE dX8_copy_189 (by decide) ?_
                                  exact (hself157 v6_186 m185))
                            exact (hl157 tg_FU 0 m_154)
                          · have hl120 := ta_fx (γ := Int → tg_Mem → tg_R) (F := (f_X8_copy_B120 a0 a1 a4 j154)) (z := (fun _ _ => none)) (fun J => ∀ (v6_120 : Int) (m_120 : tg_Mem), tg_AW E LM (some .int) (J v6_120 m_120) 120 [tr_ 0, ti_ a0, ti_ a1, ti_ a2, ti_ a3, ti_ a4, ti_ v6_120] [] m_120) (by intros; exact ta_none) (fun self120 hself120 => by
                                intro v6_120 m_120
                                unfold f_X8_copy_B120
                                refine ta_iload hE dX8_copy_120 rfl ?_
                                refine ta_iload hE dX8_copy_122 rfl ?_
                                refine ta_icmp_ge (tgt := 154) hE dX8_copy_124 (by decide) (fun c124 => ?_) (fun c124 => ?_)
                                · exact (ta_wk (i := 1) (lv2 := [tr_ 0, tj_, ti_ a1, ti_ a2, ti_ a3, ti_ a4, ti_ v6_120]) rfl (ta_wk (i := 2) (lv2 := [tr_ 0, tj_, tj_, ti_ a2, ti_ a3, ti_ a4, ti_ v6_120]) rfl (ta_wk (i := 6) (lv2 := [tr_ 0, tj_, tj_, ti_ a2, ti_ a3, ti_ a4, tj_]) rfl (hj154 m_120))))
                                · refine ta_aloadn hE dX8_copy_127 rfl ?_
                                  refine gr_X8_19 hE dX8_copy_128 lm_0 rfl ?_
                                  refine ta_iload hE dX8_copy_131 rfl ?_
                                  refine ta_aloadn hE dX8_copy_133 rfl ?_
                                  refine gr_X8_16 hE dX8_copy_134 lm_0 rfl ?_
                                  refine bp_60 hE dX8_copy_137 ?_
                                  refine ta_iloadn hE dX8_copy_139 rfl ?_
                                  refine ta_imul hE dX8_copy_140 ?_
                                  refine ta_iloadn hE dX8_copy_141 rfl ?_
                                  refine ta_iadd hE dX8_copy_142 ?_
                                  refine ta_iload hE dX8_copy_143 rfl ?_
                                  refine ta_iadd hE dX8_copy_145 ?_
                                  refine ta_iald (n' := 240) hE dX8_copy_146 lm_3 rfl (fun _ _ => ?_)
                                  refine ta_iast (n' := 60) hE dX8_copy_147 lm_4 rfl (fun _ _ => ?_)
                                  refine ta_nmm (fun m147 => ?_)
                                  refine ta_iincn (lv2 := fun v6_148 => [tr_ 0, ti_ a0, ti_ a1, ti_ a2, ti_ a3, ti_ a4, ti_ v6_148]) hE dX8_copy_148 rfl rfl rfl (fun v6_148 => ?_)
                                  refine ta_goto (tgt := 120) hE dX8_copy_151 (by decide) ?_
                                  exact (hself120 v6_148 m147))
                            exact (hl120 tg_FU 0 m8)
                        · exact (ta_wk (i := 1) (lv2 := [tr_ 0, tj_, ti_ a1, ti_ a2, ti_ a3, ti_ a4, tj_]) rfl (ta_wk (i := 2) (lv2 := [tr_ 0, tj_, tj_, ti_ a2, ti_ a3, ti_ a4, tj_]) rfl (ta_wk (i := 3) (lv2 := [tr_ 0, tj_, tj_, tj_, ti_ a3, ti_ a4, tj_]) rfl (ta_wk (i := 4) (lv2 := [tr_ 0, tj_, tj_, tj_, tj_, ti_ a4, tj_]) rfl (ta_wk (i := 5) (lv2 := [tr_ 0, tj_, tj_, tj_, tj_, tj_, tj_]) rfl hj111)))))
            · refine ta_aloadn hE dX8_copy_56 rfl ?_
              refine ta_iconst (v := 4) hE dX8_copy_57 rfl ⟨by decide, by decide⟩ ?_
              refine ta_callV (C := RX8) (T := TX8) (st := []) hE dX8_copy_58 (k_X8_met 4 m8) ml_X8_93 im_X8_met se_X8_met in_X8 co_X8_met hy_X8_met ⟨Nat.le_of_ble_eq_true rfl, Nat.le_of_ble_eq_true rfl⟩ lm_0 rfl rfl rfl (fun _ => Nat.le_of_ble_eq_true rfl) (fun r58 m58 hx58 hr58 => ?_)
              change tg_AW E _ _ _ _ _ (ti_ r58 :: _) _
              exact ta_iret hE dX8_copy_61
          · exact (ta_wk (i := 1) (lv2 := [tr_ 0, tj_, ti_ a1, ti_ a2, ti_ a3, ti_ a4, tj_]) rfl (ta_wk (i := 2) (lv2 := [tr_ 0, tj_, tj_, ti_ a2, ti_ a3, ti_ a4, tj_]) rfl (ta_wk (i := 3) (lv2 := [tr_ 0, tj_, tj_, tj_, ti_ a3, ti_ a4, tj_]) rfl (ta_wk (i := 4) (lv2 := [tr_ 0, tj_, tj_, tj_, tj_, ti_ a4, tj_]) rfl (ta_wk (i := 5) (lv2 := [tr_ 0, tj_, tj_, tj_, tj_, tj_, tj_]) rfl hj35)))))
    · refine bp_n2 hE dX8_copy_14 ?_
      exact ta_iret hE dX8_copy_16
noncomputable def f_X8_type (a0 : Int) (a1 : Int) (m : tg_Mem) : tg_R :=
  tg_bd (f_X8_in a0 0 2 m) (fun r6 m6 =>
    if r6 = 0 then
      some ((-2), m6)
    else
      tg_bd (f_X8_in a1 0 255 m6) (fun r18 m18 =>
        if r18 ≠ 0 then
          tg_ck (0 ≤ a0 ∧ a0 < 3) (
            if m18 6 (a0).toNat ≠ 40 then
              tg_ck (0 ≤ a0 ∧ a0 < 3) (
                tg_ck (0 ≤ tg_wi ((tg_wi (40 * a0)) + (m18 6 (a0).toNat)) ∧ tg_wi ((tg_wi (40 * a0)) + (m18 6 (a0).toNat)) < 120) (
                  tg_lt (tg_up m18 5 (tg_wi ((tg_wi (40 * a0)) + (m18 6 (a0).toNat))).toNat a1) (fun m57 =>
                    tg_ck (0 ≤ a0 ∧ a0 < 3) (
                      tg_ck (0 ≤ a0 ∧ a0 < 3) (
                        tg_lt (tg_up m57 6 (a0).toNat (tg_wi ((m57 6 (a0).toNat) + 1))) (fun m67 =>
                          tg_ck (0 ≤ a0 ∧ a0 < 3) (
                            some (m67 6 (a0).toNat, m67))))))))
            else
              some ((-4), m18))
        else
          some ((-2), m18)))
theorem hy_X8_type : yX8_type.cls = RX8 ∧ yX8_type.cls ≠ "java/lang/invoke/MethodHandle" ∧ yX8_type.cls ≠ "java/lang/invoke/VarHandle" ∧ (parseMethodDescriptor yX8_type.desc).map (fun q => q.parameters.length) = some 2 := by decide +kernel
set_option maxRecDepth 100000 in
set_option maxHeartbeats 4000000 in
theorem k_X8_type   (a0 : Int) (a1 : Int) (m : tg_Mem) : tg_C yX8_type cX8_type 3 (some .int) 2 LM [tr_ 0, ti_ a0, ti_ a1] (f_X8_type a0 a1 m) m := by
  refine ta_enter2 (own := RX8) (by decide +kernel) rfl rfl (Nat.le_of_ble_eq_true rfl) rfl (fun E hE => ?_)
  unfold f_X8_type
  refine ta_iloadn hE dX8_type_0 rfl ?_
  refine ta_i2l hE dX8_type_1 ?_
  refine ta_lconst (v := 0) hE dX8_type_2 rfl ⟨by decide, by decide⟩ ?_
  refine ta_ldc2 (v := 2) hE dX8_type_3 lc_X8_91 ⟨by decide, by decide⟩ ?_
  refine ta_callS (st := []) hE dX8_type_6 (k_X8_in a0 0 2 m) ml_X8_77 st_X8_in in_X8 co_X8_in hy_X8_in.2 ⟨Nat.le_of_ble_eq_true rfl, Nat.le_of_ble_eq_true rfl⟩ rfl rfl (fun _ => Nat.le_of_ble_eq_true rfl) (fun r6 m6 hx6 hr6 => ?_)
  change tg_AW E _ _ _ _ _ (ti_ r6 :: _) _
  refine ta_if_eq (tgt := 24) hE dX8_type_9 (by decide) (fun c9 => ?_) (fun c9 => ?_)
  · refine bp_n2 hE dX8_type_24 ?_
    exact ta_iret hE dX8_type_26
  · refine ta_iloadn hE dX8_type_12 rfl ?_
    refine ta_i2l hE dX8_type_13 ?_
    refine ta_lconst (v := 0) hE dX8_type_14 rfl ⟨by decide, by decide⟩ ?_
    refine ta_ldc2 (v := 255) hE dX8_type_15 lc_X8_106 ⟨by decide, by decide⟩ ?_
    refine ta_callS (st := []) hE dX8_type_18 (k_X8_in a1 0 255 m6) ml_X8_77 st_X8_in in_X8 co_X8_in hy_X8_in.2 ⟨Nat.le_of_ble_eq_true rfl, Nat.le_of_ble_eq_true rfl⟩ rfl rfl (fun _ => Nat.le_of_ble_eq_true rfl) (fun r18 m18 hx18 hr18 => ?_)
    change tg_AW E _ _ _ _ _ (ti_ r18 :: _) _
    refine ta_if_ne (tgt := 27) hE dX8_type_21 (by decide) (fun c21 => ?_) (fun c21 => ?_)
    · refine ta_aloadn hE dX8_type_27 rfl ?_
      refine gr_X8_25 hE dX8_type_28 lm_0 rfl ?_
      refine ta_iloadn hE dX8_type_31 rfl ?_
      refine ta_iald (n' := 3) hE dX8_type_32 lm_6 rfl (fun _ _ => ?_)
      refine bp_40 hE dX8_type_33 ?_
      refine ta_icmp_ne (tgt := 41) hE dX8_type_35 (by decide) (fun c35 => ?_) (fun c35 => ?_)
      · refine ta_aloadn hE dX8_type_41 rfl ?_
        refine gr_X8_22 hE dX8_type_42 lm_0 rfl ?_
        refine bp_40 hE dX8_type_45 ?_
        refine ta_iloadn hE dX8_type_47 rfl ?_
        refine ta_imul hE dX8_type_48 ?_
        refine ta_aloadn hE dX8_type_49 rfl ?_
        refine gr_X8_25 hE dX8_type_50 lm_0 rfl ?_
        refine ta_iloadn hE dX8_type_53 rfl ?_
        refine ta_iald (n' := 3) hE dX8_type_54 lm_6 rfl (fun _ _ => ?_)
        refine ta_iadd hE dX8_type_55 ?_
        refine ta_iloadn hE dX8_type_56 rfl ?_
        refine ta_iast (n' := 120) hE dX8_type_57 lm_5 rfl (fun _ _ => ?_)
        refine ta_nmm (fun m57 => ?_)
        refine ta_aloadn hE dX8_type_58 rfl ?_
        refine gr_X8_25 hE dX8_type_59 lm_0 rfl ?_
        refine ta_iloadn hE dX8_type_62 rfl ?_
        refine ta_dup2 hE dX8_type_63 (fun _ => rfl) (fun _ => rfl) ?_
        refine ta_iald (n' := 3) hE dX8_type_64 lm_6 rfl (fun _ _ => ?_)
        refine ta_iconst (v := 1) hE dX8_type_65 rfl ⟨by decide, by decide⟩ ?_
        refine ta_iadd hE dX8_type_66 ?_
        refine ta_iast (n' := 3) hE dX8_type_67 lm_6 rfl (fun _ _ => ?_)
        refine ta_nmm (fun m67 => ?_)
        refine ta_aloadn hE dX8_type_68 rfl ?_
        refine gr_X8_25 hE dX8_type_69 lm_0 rfl ?_
        refine ta_iloadn hE dX8_type_72 rfl ?_
        refine ta_iald (n' := 3) hE dX8_type_73 lm_6 rfl (fun _ _ => ?_)
        exact ta_iret hE dX8_type_74
      · refine bp_n4 hE dX8_type_38 ?_
        exact ta_iret hE dX8_type_40
    · refine bp_n2 hE dX8_type_24 ?_
      exact ta_iret hE dX8_type_26
noncomputable def f_X8_wipe (a0 : Int) (m : tg_Mem) : tg_R :=
  tg_bd (f_X8_in a0 0 2 m) (fun r6 m6 =>
    if r6 ≠ 0 then
      tg_ck (0 ≤ a0 ∧ a0 < 3) (
        tg_lt (m6 6 (a0).toNat) (fun v2_21 =>
          tg_ck (0 ≤ a0 ∧ a0 < 3) (
            tg_lt (tg_up m6 6 (a0).toNat 0) (fun m28 =>
              some (v2_21, m28)))))
    else
      some ((-2), m6))
theorem hy_X8_wipe : yX8_wipe.cls = RX8 ∧ yX8_wipe.cls ≠ "java/lang/invoke/MethodHandle" ∧ yX8_wipe.cls ≠ "java/lang/invoke/VarHandle" ∧ (parseMethodDescriptor yX8_wipe.desc).map (fun q => q.parameters.length) = some 1 := by decide +kernel
set_option maxRecDepth 100000 in
set_option maxHeartbeats 4000000 in
theorem k_X8_wipe   (a0 : Int) (m : tg_Mem) : tg_C yX8_wipe cX8_wipe 3 (some .int) 2 LM [tr_ 0, ti_ a0] (f_X8_wipe a0 m) m := by
  refine ta_enter2 (own := RX8) (by decide +kernel) rfl rfl (Nat.le_of_ble_eq_true rfl) rfl (fun E hE => ?_)
  unfold f_X8_wipe
  refine ta_iloadn hE dX8_wipe_0 rfl ?_
  refine ta_i2l hE dX8_wipe_1 ?_
  refine ta_lconst (v := 0) hE dX8_wipe_2 rfl ⟨by decide, by decide⟩ ?_
  refine ta_ldc2 (v := 2) hE dX8_wipe_3 lc_X8_91 ⟨by decide, by decide⟩ ?_
  refine ta_callS (st := []) hE dX8_wipe_6 (k_X8_in a0 0 2 m) ml_X8_77 st_X8_in in_X8 co_X8_in hy_X8_in.2 ⟨Nat.le_of_ble_eq_true rfl, Nat.le_of_ble_eq_true rfl⟩ rfl rfl (fun _ => Nat.le_of_ble_eq_true rfl) (fun r6 m6 hx6 hr6 => ?_)
  change tg_AW E _ _ _ _ _ (ti_ r6 :: _) _
  refine ta_if_ne (tgt := 15) hE dX8_wipe_9 (by decide) (fun c9 => ?_) (fun c9 => ?_)
  · refine ta_aloadn hE dX8_wipe_15 rfl ?_
    refine gr_X8_25 hE dX8_wipe_16 lm_0 rfl ?_
    refine ta_iloadn hE dX8_wipe_19 rfl ?_
    refine ta_iald (n' := 3) hE dX8_wipe_20 lm_6 rfl (fun _ _ => ?_)
    refine ta_nmi (fun v2_21 => ?_)
    refine ta_istoren (lv2 := [tr_ 0, ti_ a0, ti_ v2_21]) hE dX8_wipe_21 (Nat.le_of_ble_eq_true rfl) rfl rfl ?_
    refine ta_aloadn hE dX8_wipe_22 rfl ?_
    refine gr_X8_25 hE dX8_wipe_23 lm_0 rfl ?_
    refine ta_iloadn hE dX8_wipe_26 rfl ?_
    refine ta_iconst (v := 0) hE dX8_wipe_27 rfl ⟨by decide, by decide⟩ ?_
    refine ta_iast (n' := 3) hE dX8_wipe_28 lm_6 rfl (fun _ _ => ?_)
    refine ta_nmm (fun m28 => ?_)
    refine ta_iloadn hE dX8_wipe_29 rfl ?_
    exact ta_iret hE dX8_wipe_30
  · refine bp_n2 hE dX8_wipe_12 ?_
    exact ta_iret hE dX8_wipe_14
noncomputable def f_X8_here  (m : tg_Mem) : tg_R :=
  tg_ck (0 ≤ 0 ∧ 0 < 3) (
    if m 6 0 ≤ m 0 7 then
      some ((-1), m)
    else
      tg_ck (0 ≤ m 0 7 ∧ m 0 7 < 120) (
        some (m 5 (m 0 7).toNat, m)))
theorem hy_X8_here : yX8_here.cls = RX8 ∧ yX8_here.cls ≠ "java/lang/invoke/MethodHandle" ∧ yX8_here.cls ≠ "java/lang/invoke/VarHandle" ∧ (parseMethodDescriptor yX8_here.desc).map (fun q => q.parameters.length) = some 0 := by decide +kernel
set_option maxRecDepth 100000 in
set_option maxHeartbeats 4000000 in
theorem k_X8_here    (m : tg_Mem) : tg_C yX8_here cX8_here 1 (some .int) 1 LM [tr_ 0] (f_X8_here  m) m := by
  refine ta_enter2 (own := RX8) (by decide +kernel) rfl rfl (Nat.le_of_ble_eq_true rfl) rfl (fun E hE => ?_)
  unfold f_X8_here
  refine ta_aloadn hE dX8_here_0 rfl ?_
  refine gf_X8_108 hE dX8_here_1 lm_0 rfl ?_
  refine ta_aloadn hE dX8_here_4 rfl ?_
  refine gr_X8_25 hE dX8_here_5 lm_0 rfl ?_
  refine ta_iconst (v := 0) hE dX8_here_8 rfl ⟨by decide, by decide⟩ ?_
  refine ta_iald (n' := 3) hE dX8_here_9 lm_6 rfl (fun _ _ => ?_)
  refine ta_icmp_ge (tgt := 25) hE dX8_here_10 (by decide) (fun c10 => ?_) (fun c10 => ?_)
  · refine ta_iconst (v := (-1)) hE dX8_here_25 rfl ⟨by decide, by decide⟩ ?_
    exact ta_iret hE dX8_here_26
  · refine ta_aloadn hE dX8_here_13 rfl ?_
    refine gr_X8_22 hE dX8_here_14 lm_0 rfl ?_
    refine ta_aloadn hE dX8_here_17 rfl ?_
    refine gf_X8_108 hE dX8_here_18 lm_0 rfl ?_
    refine ta_iald (n' := 120) hE dX8_here_21 lm_5 rfl (fun _ _ => ?_)
    refine ta_goto (tgt := 26) hE dX8_here_22 (by decide) ?_
    exact ta_iret hE dX8_here_26
noncomputable def f_X8_none  (m : tg_Mem) : tg_R :=
  tg_lt (tg_up m 0 8 0) (fun m2 =>
    some (m2 0 7, m2))
theorem hy_X8_none : yX8_none.cls = RX8 ∧ yX8_none.cls ≠ "java/lang/invoke/MethodHandle" ∧ yX8_none.cls ≠ "java/lang/invoke/VarHandle" ∧ (parseMethodDescriptor yX8_none.desc).map (fun q => q.parameters.length) = some 0 := by decide +kernel
set_option maxRecDepth 100000 in
set_option maxHeartbeats 4000000 in
theorem k_X8_none    (m : tg_Mem) : tg_C yX8_none cX8_none 1 (some .int) 1 LM [tr_ 0] (f_X8_none  m) m := by
  refine ta_enter2 (own := RX8) (by decide +kernel) rfl rfl (Nat.le_of_ble_eq_true rfl) rfl (fun E hE => ?_)
  unfold f_X8_none
  refine ta_aloadn hE dX8_none_0 rfl ?_
  refine ta_iconst (v := 0) hE dX8_none_1 rfl ⟨by decide, by decide⟩ ?_
  refine pf_X8_111 hE dX8_none_2 lm_0 rfl ?_
  refine ta_nmm (fun m2 => ?_)
  refine ta_aloadn hE dX8_none_5 rfl ?_
  refine gf_X8_108 hE dX8_none_6 lm_0 rfl ?_
  exact ta_iret hE dX8_none_9
noncomputable def f_X8_readsPart_B13 (j109 : tg_Mem → tg_R) (self13 : Int → tg_Mem → tg_R) (v1_13 : Int) (m_13 : tg_Mem) : tg_R :=
  if 3 ≤ v1_13 then
    j109 m_13
  else
    tg_bd (f_X8_here  m_13) (fun r19 m19 =>
      tg_lt (tg_wi (r19 - 48)) (fun v2_25 =>
        tg_jn (γ := Int → tg_Mem → tg_R) (fun (s0_52 : Int) (m_52 : tg_Mem) => if s0_52 = 0 then
          some (0, m_52)
        else
          tg_jn (γ := tg_R) (tg_ck (0 ≤ tg_wi ((tg_wi (3 * (m_52 0 8))) + v1_13) ∧ tg_wi ((tg_wi (3 * (m_52 0 8))) + v1_13) < 24) (
            tg_lt (tg_up m_52 7 (tg_wi ((tg_wi (3 * (m_52 0 8))) + v1_13)).toNat v2_25) (fun m92 =>
              tg_lt (tg_up m92 0 7 (tg_wi ((m92 0 7) + 1))) (fun m100 =>
                tg_lt (tg_wi (v1_13 + 1)) (fun v1_103 =>
                  self13 v1_103 m100))))) (fun j79 =>
            if v1_13 ≠ 1 then
              j79
            else
              tg_ck (0 ≤ tg_wi (3 * (m_52 0 8)) ∧ tg_wi (3 * (m_52 0 8)) < 24) (
                if v2_25 ≠ m_52 7 (tg_wi (3 * (m_52 0 8))).toNat then
                  j79
                else
                  some (0, m_52)))) (fun j52 =>
          if 2 ≤ v1_13 then
            tg_bd (f_X8_in v2_25 1 9 m19) (fun r49 m49 =>
              j52 r49 m49)
          else
            tg_bd (f_X8_in v2_25 0 7 m19) (fun r37 m37 =>
              j52 r37 m37))))
noncomputable def f_X8_readsPart  (m : tg_Mem) : tg_R :=
  if m 0 8 ≠ 8 then
    tg_jn (γ := tg_Mem → tg_R) (fun (m_109 : tg_Mem) => tg_lt (tg_up m_109 0 8 (tg_wi ((m_109 0 8) + 1))) (fun m116 =>
      some (1, m116))) (fun j109 =>
      tg_fx (γ := Int → tg_Mem → tg_R) (f_X8_readsPart_B13 j109) (fun _ _ => none) tg_FU 0 m)
  else
    some (0, m)
theorem hy_X8_readsPart : yX8_readsPart.cls = RX8 ∧ yX8_readsPart.cls ≠ "java/lang/invoke/MethodHandle" ∧ yX8_readsPart.cls ≠ "java/lang/invoke/VarHandle" ∧ (parseMethodDescriptor yX8_readsPart.desc).map (fun q => q.parameters.length) = some 0 := by decide +kernel
set_option maxRecDepth 100000 in
set_option maxHeartbeats 4000000 in
theorem k_X8_readsPart    (m : tg_Mem) : tg_C yX8_readsPart cX8_readsPart 4 (some .boolean) 2 LM [tr_ 0] (f_X8_readsPart  m) m := by
  refine ta_enter2 (own := RX8) (by decide +kernel) rfl rfl (Nat.le_of_ble_eq_true rfl) rfl (fun E hE => ?_)
  unfold f_X8_readsPart
  refine ta_aloadn hE dX8_readsPart_0 rfl ?_
  refine gf_X8_111 hE dX8_readsPart_1 lm_0 rfl ?_
  refine bp_8 hE dX8_readsPart_4 ?_
  refine ta_icmp_ne (tgt := 11) hE dX8_readsPart_6 (by decide) (fun c6 => ?_) (fun c6 => ?_)
  · refine ta_iconst (v := 0) hE dX8_readsPart_11 rfl ⟨by decide, by decide⟩ ?_
    refine ta_istoren (lv2 := [tr_ 0, ti_ 0, tj_, tj_]) hE dX8_readsPart_12 (Nat.le_of_ble_eq_true rfl) rfl rfl ?_
    refine ta_join (γ := tg_Mem → tg_R) (fun J => ∀ (m_109 : tg_Mem), tg_AW E LM (some .boolean) (J m_109) 109 [tr_ 0, tj_, tj_, tj_] [] m_109) ?_ (fun j109 hj109 => ?_)
    · intro m_109
      refine ta_aloadn hE dX8_readsPart_109 rfl ?_
      refine ta_dup hE dX8_readsPart_110 (fun _ => rfl) ?_
      refine gf_X8_111 hE dX8_readsPart_111 lm_0 rfl ?_
      refine ta_iconst (v := 1) hE dX8_readsPart_114 rfl ⟨by decide, by decide⟩ ?_
      refine ta_iadd hE dX8_readsPart_115 ?_
      refine pf_X8_111 hE dX8_readsPart_116 lm_0 rfl ?_
      refine ta_nmm (fun m116 => ?_)
      refine ta_iconst (v := 1) hE dX8_readsPart_119 rfl ⟨by decide, by decide⟩ ?_
      exact ta_zret hE dX8_readsPart_120 (Or.inr rfl)
    · have hl13 := ta_fx (γ := Int → tg_Mem → tg_R) (F := (f_X8_readsPart_B13 j109)) (z := (fun _ _ => none)) (fun J => ∀ (v1_13 : Int) (m_13 : tg_Mem), tg_AW E LM (some .boolean) (J v1_13 m_13) 13 [tr_ 0, ti_ v1_13, tj_, tj_] [] m_13) (by intros; exact ta_none) (fun self13 hself13 => by
          intro v1_13 m_13
          unfold f_X8_readsPart_B13
          refine ta_iloadn hE dX8_readsPart_13 rfl ?_
          refine ta_iconst (v := 3) hE dX8_readsPart_14 rfl ⟨by decide, by decide⟩ ?_
          refine ta_icmp_ge (tgt := 109) hE dX8_readsPart_15 (by decide) (fun c15 => ?_) (fun c15 => ?_)
          · exact (ta_wk (i := 1) (lv2 := [tr_ 0, tj_, tj_, tj_]) rfl (hj109 m_13))
          · refine ta_aloadn hE dX8_readsPart_18 rfl ?_
            refine ta_callV (C := RX8) (T := TX8) (st := []) hE dX8_readsPart_19 (k_X8_here m_13) ml_X8_114 im_X8_here se_X8_here in_X8 co_X8_here hy_X8_here ⟨Nat.le_of_ble_eq_true rfl, Nat.le_of_ble_eq_true rfl⟩ lm_0 rfl rfl rfl (fun _ => Nat.le_of_ble_eq_true rfl) (fun r19 m19 hx19 hr19 => ?_)
            change tg_AW E _ _ _ _ _ (ti_ r19 :: _) _
            refine bp_48 hE dX8_readsPart_22 ?_
            refine ta_isub hE dX8_readsPart_24 ?_
            refine ta_nmi (fun v2_25 => ?_)
            refine ta_istoren (lv2 := [tr_ 0, ti_ v1_13, ti_ v2_25, tj_]) hE dX8_readsPart_25 (Nat.le_of_ble_eq_true rfl) rfl rfl ?_
            refine ta_iloadn hE dX8_readsPart_26 rfl ?_
            refine ta_iconst (v := 2) hE dX8_readsPart_27 rfl ⟨by decide, by decide⟩ ?_
            refine ta_join (γ := Int → tg_Mem → tg_R) (fun J => ∀ (s0_52 : Int) (m_52 : tg_Mem), tg_AW E LM (some .boolean) (J s0_52 m_52) 52 [tr_ 0, ti_ v1_13, ti_ v2_25, tj_] [ti_ s0_52] m_52) ?_ (fun j52 hj52 => ?_)
            · intro s0_52 m_52
              refine ta_istoren (lv2 := [tr_ 0, ti_ v1_13, ti_ v2_25, ti_ s0_52]) hE dX8_readsPart_52 (Nat.le_of_ble_eq_true rfl) rfl rfl ?_
              refine ta_iloadn hE dX8_readsPart_53 rfl ?_
              refine ta_if_eq (tgt := 77) hE dX8_readsPart_54 (by decide) (fun c54 => ?_) (fun c54 => ?_)
              · refine ta_iconst (v := 0) hE dX8_readsPart_77 rfl ⟨by decide, by decide⟩ ?_
                exact ta_zret hE dX8_readsPart_78 (Or.inl rfl)
              · refine ta_iloadn hE dX8_readsPart_57 rfl ?_
                refine ta_iconst (v := 1) hE dX8_readsPart_58 rfl ⟨by decide, by decide⟩ ?_
                refine ta_join (γ := tg_R) (fun J => tg_AW E LM (some .boolean) J 79 [tr_ 0, ti_ v1_13, ti_ v2_25, tj_] [] m_52) ?_ (fun j79 hj79 => ?_)
                · refine ta_aloadn hE dX8_readsPart_79 rfl ?_
                  refine gr_X8_28 hE dX8_readsPart_80 lm_0 rfl ?_
                  refine ta_iconst (v := 3) hE dX8_readsPart_83 rfl ⟨by decide, by decide⟩ ?_
                  refine ta_aloadn hE dX8_readsPart_84 rfl ?_
                  refine gf_X8_111 hE dX8_readsPart_85 lm_0 rfl ?_
                  refine ta_imul hE dX8_readsPart_88 ?_
                  refine ta_iloadn hE dX8_readsPart_89 rfl ?_
                  refine ta_iadd hE dX8_readsPart_90 ?_
                  refine ta_iloadn hE dX8_readsPart_91 rfl ?_
                  refine ta_iast (n' := 24) hE dX8_readsPart_92 lm_7 rfl (fun _ _ => ?_)
                  refine ta_nmm (fun m92 => ?_)
                  refine ta_aloadn hE dX8_readsPart_93 rfl ?_
                  refine ta_dup hE dX8_readsPart_94 (fun _ => rfl) ?_
                  refine gf_X8_108 hE dX8_readsPart_95 lm_0 rfl ?_
                  refine ta_iconst (v := 1) hE dX8_readsPart_98 rfl ⟨by decide, by decide⟩ ?_
                  refine ta_iadd hE dX8_readsPart_99 ?_
                  refine pf_X8_108 hE dX8_readsPart_100 lm_0 rfl ?_
                  refine ta_nmm (fun m100 => ?_)
                  refine ta_iincn (lv2 := fun v1_103 => [tr_ 0, ti_ v1_103, ti_ v2_25, tj_]) hE dX8_readsPart_103 rfl rfl rfl (fun v1_103 => ?_)
                  refine ta_goto (tgt := 13) hE dX8_readsPart_106 (by decide) ?_
                  exact (ta_wk (i := 2) (lv2 := [tr_ 0, ti_ v1_103, tj_, tj_]) rfl (hself13 v1_103 m100))
                · refine ta_icmp_ne (tgt := 79) hE dX8_readsPart_59 (by decide) (fun c59 => ?_) (fun c59 => ?_)
                  · exact (ta_wk (i := 3) (lv2 := [tr_ 0, ti_ v1_13, ti_ v2_25, tj_]) rfl hj79)
                  · refine ta_iloadn hE dX8_readsPart_62 rfl ?_
                    refine ta_aloadn hE dX8_readsPart_63 rfl ?_
                    refine gr_X8_28 hE dX8_readsPart_64 lm_0 rfl ?_
                    refine ta_iconst (v := 3) hE dX8_readsPart_67 rfl ⟨by decide, by decide⟩ ?_
                    refine ta_aloadn hE dX8_readsPart_68 rfl ?_
                    refine gf_X8_111 hE dX8_readsPart_69 lm_0 rfl ?_
                    refine ta_imul hE dX8_readsPart_72 ?_
                    refine ta_iald (n' := 24) hE dX8_readsPart_73 lm_7 rfl (fun _ _ => ?_)
                    refine ta_icmp_ne (tgt := 79) hE dX8_readsPart_74 (by decide) (fun c74 => ?_) (fun c74 => ?_)
                    · exact (ta_wk (i := 3) (lv2 := [tr_ 0, ti_ v1_13, ti_ v2_25, tj_]) rfl hj79)
                    · refine ta_iconst (v := 0) hE dX8_readsPart_77 rfl ⟨by decide, by decide⟩ ?_
                      exact ta_zret hE dX8_readsPart_78 (Or.inl rfl)
            · refine ta_icmp_ge (tgt := 43) hE dX8_readsPart_28 (by decide) (fun c28 => ?_) (fun c28 => ?_)
              · refine ta_iloadn hE dX8_readsPart_43 rfl ?_
                refine ta_i2l hE dX8_readsPart_44 ?_
                refine ta_lconst (v := 1) hE dX8_readsPart_45 rfl ⟨by decide, by decide⟩ ?_
                refine ta_ldc2 (v := 9) hE dX8_readsPart_46 lc_X8_120 ⟨by decide, by decide⟩ ?_
                refine ta_callS (st := []) hE dX8_readsPart_49 (k_X8_in v2_25 1 9 m19) ml_X8_77 st_X8_in in_X8 co_X8_in hy_X8_in.2 ⟨Nat.le_of_ble_eq_true rfl, Nat.le_of_ble_eq_true rfl⟩ rfl rfl (fun _ => Nat.le_of_ble_eq_true rfl) (fun r49 m49 hx49 hr49 => ?_)
                change tg_AW E _ _ _ _ _ (ti_ r49 :: _) _
                exact (hj52 r49 m49)
              · refine ta_iloadn hE dX8_readsPart_31 rfl ?_
                refine ta_i2l hE dX8_readsPart_32 ?_
                refine ta_lconst (v := 0) hE dX8_readsPart_33 rfl ⟨by decide, by decide⟩ ?_
                refine ta_ldc2 (v := 7) hE dX8_readsPart_34 lc_X8_118 ⟨by decide, by decide⟩ ?_
                refine ta_callS (st := []) hE dX8_readsPart_37 (k_X8_in v2_25 0 7 m19) ml_X8_77 st_X8_in in_X8 co_X8_in hy_X8_in.2 ⟨Nat.le_of_ble_eq_true rfl, Nat.le_of_ble_eq_true rfl⟩ rfl rfl (fun _ => Nat.le_of_ble_eq_true rfl) (fun r37 m37 hx37 hr37 => ?_)
                change tg_AW E _ _ _ _ _ (ti_ r37 :: _) _
                refine ta_goto (tgt := 52) hE dX8_readsPart_40 (by decide) ?_
                exact (hj52 r37 m37))
      exact (hl13 tg_FU 0 m)
  · refine ta_iconst (v := 0) hE dX8_readsPart_9 rfl ⟨by decide, by decide⟩ ?_
    exact ta_zret hE dX8_readsPart_10 (Or.inl rfl)
noncomputable def f_X8_reads_B25 (j73 : tg_Mem → tg_R) (j36 : tg_Mem → tg_R) (self25 : Int → tg_Mem → tg_R) (v1_25 : Int) (m_25 : tg_Mem) : tg_R :=
  if v1_25 = 0 then
    some ((-1), m_25)
  else
    tg_bd (f_X8_readsPart  m_25) (fun r30 m30 =>
      if r30 ≠ 0 then
        tg_ck (0 ≤ 0 ∧ 0 < 3) (
          tg_jn (γ := Int → tg_R) (fun (s0_59 : Int) => tg_jn (γ := tg_Mem → tg_R) (fun (m_78 : tg_Mem) => tg_jn (γ := Int → tg_R) (fun (s0_92 : Int) => tg_lt (tg_up m_78 0 7 (tg_wi ((m_78 0 7) + s0_92))) (fun m93 =>
            self25 s0_59 m93)) (fun j92 =>
            if s0_59 = 0 then
              j92 0
            else
              j92 1)) (fun j78 =>
            if s0_59 = 0 then
              j78 m30
            else
              tg_bd (f_X8_here  m30) (fun r65 m65 =>
                if r65 = 59 then
                  j78 m65
                else
                  j73 m65))) (fun j59 =>
            if m30 6 0 ≤ m30 0 7 then
              j59 0
            else
              j59 1))
      else
        j36 m30)
noncomputable def f_X8_reads  (m : tg_Mem) : tg_R :=
  tg_lt (tg_up m 0 7 0) (fun m2 =>
    tg_lt (tg_up m2 0 8 0) (fun m7 =>
      tg_ck (0 ≤ 0 ∧ 0 < 3) (
        tg_jn (γ := Int → tg_R) (fun (s0_24 : Int) => tg_jn (γ := tg_Mem → tg_R) (fun (m_73 : tg_Mem) => tg_bd (f_X8_none  m_73) (fun r74 m74 =>
          some (r74, m74))) (fun j73 =>
          tg_jn (γ := tg_Mem → tg_R) (fun (m_36 : tg_Mem) => tg_bd (f_X8_none  m_36) (fun r37 m37 =>
            some (r37, m37))) (fun j36 =>
            tg_fx (γ := Int → tg_Mem → tg_R) (f_X8_reads_B25 j73 j36) (fun _ _ => none) tg_FU s0_24 m7))) (fun j24 =>
          if m7 6 0 ≤ 0 then
            j24 0
          else
            j24 1))))
theorem hy_X8_reads : yX8_reads.cls = RX8 ∧ yX8_reads.cls ≠ "java/lang/invoke/MethodHandle" ∧ yX8_reads.cls ≠ "java/lang/invoke/VarHandle" ∧ (parseMethodDescriptor yX8_reads.desc).map (fun q => q.parameters.length) = some 0 := by decide +kernel
set_option maxRecDepth 100000 in
set_option maxHeartbeats 4000000 in
theorem k_X8_reads    (m : tg_Mem) : tg_C yX8_reads cX8_reads 2 (some .int) 3 LM [tr_ 0] (f_X8_reads  m) m := by
  refine ta_enter2 (own := RX8) (by decide +kernel) rfl rfl (Nat.le_of_ble_eq_true rfl) rfl (fun E hE => ?_)
  unfold f_X8_reads
  refine ta_aloadn hE dX8_reads_0 rfl ?_
  refine ta_iconst (v := 0) hE dX8_reads_1 rfl ⟨by decide, by decide⟩ ?_
  refine pf_X8_108 hE dX8_reads_2 lm_0 rfl ?_
  refine ta_nmm (fun m2 => ?_)
  refine ta_aloadn hE dX8_reads_5 rfl ?_
  refine ta_iconst (v := 0) hE dX8_reads_6 rfl ⟨by decide, by decide⟩ ?_
  refine pf_X8_111 hE dX8_reads_7 lm_0 rfl ?_
  refine ta_nmm (fun m7 => ?_)
  refine ta_aloadn hE dX8_reads_10 rfl ?_
  refine gr_X8_25 hE dX8_reads_11 lm_0 rfl ?_
  refine ta_iconst (v := 0) hE dX8_reads_14 rfl ⟨by decide, by decide⟩ ?_
  refine ta_iald (n' := 3) hE dX8_reads_15 lm_6 rfl (fun _ _ => ?_)
  refine ta_join (γ := Int → tg_R) (fun J => ∀ (s0_24 : Int), tg_AW E LM (some .int) (J s0_24) 24 [tr_ 0, tj_] [ti_ s0_24] m7) ?_ (fun j24 hj24 => ?_)
  · intro s0_24
    refine ta_istoren (lv2 := [tr_ 0, ti_ s0_24]) hE dX8_reads_24 (Nat.le_of_ble_eq_true rfl) rfl rfl ?_
    refine ta_join (γ := tg_Mem → tg_R) (fun J => ∀ (m_73 : tg_Mem), tg_AW E LM (some .int) (J m_73) 73 [tr_ 0, tj_] [] m_73) ?_ (fun j73 hj73 => ?_)
    · intro m_73
      refine ta_aloadn hE dX8_reads_73 rfl ?_
      refine ta_callV (C := RX8) (T := TX8) (st := []) hE dX8_reads_74 (k_X8_none m_73) ml_X8_126 im_X8_none se_X8_none in_X8 co_X8_none hy_X8_none ⟨Nat.le_of_ble_eq_true rfl, Nat.le_of_ble_eq_true rfl⟩ lm_0 rfl rfl rfl (fun _ => Nat.le_of_ble_eq_true rfl) (fun r74 m74 hx74 hr74 => ?_)
      change tg_AW E _ _ _ _ _ (ti_ r74 :: _) _
      exact ta_iret hE dX8_reads_77
    · refine ta_join (γ := tg_Mem → tg_R) (fun J => ∀ (m_36 : tg_Mem), tg_AW E LM (some .int) (J m_36) 36 [tr_ 0, tj_] [] m_36) ?_ (fun j36 hj36 => ?_)
      · intro m_36
        refine ta_aloadn hE dX8_reads_36 rfl ?_
        refine ta_callV (C := RX8) (T := TX8) (st := []) hE dX8_reads_37 (k_X8_none m_36) ml_X8_126 im_X8_none se_X8_none in_X8 co_X8_none hy_X8_none ⟨Nat.le_of_ble_eq_true rfl, Nat.le_of_ble_eq_true rfl⟩ lm_0 rfl rfl rfl (fun _ => Nat.le_of_ble_eq_true rfl) (fun r37 m37 hx37 hr37 => ?_)
        change tg_AW E _ _ _ _ _ (ti_ r37 :: _) _
        exact ta_iret hE dX8_reads_40
      · have hl25 := ta_fx (γ := Int → tg_Mem → tg_R) (F := (f_X8_reads_B25 j73 j36)) (z := (fun _ _ => none)) (fun J => ∀ (v1_25 : Int) (m_25 : tg_Mem), tg_AW E LM (some .int) (J v1_25 m_25) 25 [tr_ 0, ti_ v1_25] [] m_25) (by intros; exact ta_none) (fun self25 hself25 => by
            intro v1_25 m_25
            unfold f_X8_reads_B25
            refine ta_iloadn hE dX8_reads_25 rfl ?_
            refine ta_if_eq (tgt := 99) hE dX8_reads_26 (by decide) (fun c26 => ?_) (fun c26 => ?_)
            · refine ta_iconst (v := (-1)) hE dX8_reads_99 rfl ⟨by decide, by decide⟩ ?_
              exact ta_iret hE dX8_reads_100
            · refine ta_aloadn hE dX8_reads_29 rfl ?_
              refine ta_callV (C := RX8) (T := TX8) (st := []) hE dX8_reads_30 (k_X8_readsPart m_25) ml_X8_122 im_X8_readsPart se_X8_readsPart in_X8 co_X8_readsPart hy_X8_readsPart ⟨Nat.le_of_ble_eq_true rfl, Nat.le_of_ble_eq_true rfl⟩ lm_0 rfl rfl rfl (fun _ => Nat.le_of_ble_eq_true rfl) (fun r30 m30 hx30 hr30 => ?_)
              change tg_AW E _ _ _ _ _ (ti_ r30 :: _) _
              refine ta_if_ne (tgt := 41) hE dX8_reads_33 (by decide) (fun c33 => ?_) (fun c33 => ?_)
              · refine ta_aloadn hE dX8_reads_41 rfl ?_
                refine gf_X8_108 hE dX8_reads_42 lm_0 rfl ?_
                refine ta_aloadn hE dX8_reads_45 rfl ?_
                refine gr_X8_25 hE dX8_reads_46 lm_0 rfl ?_
                refine ta_iconst (v := 0) hE dX8_reads_49 rfl ⟨by decide, by decide⟩ ?_
                refine ta_iald (n' := 3) hE dX8_reads_50 lm_6 rfl (fun _ _ => ?_)
                refine ta_join (γ := Int → tg_R) (fun J => ∀ (s0_59 : Int), tg_AW E LM (some .int) (J s0_59) 59 [tr_ 0, tj_] [ti_ s0_59] m30) ?_ (fun j59 hj59 => ?_)
                · intro s0_59
                  refine ta_istoren (lv2 := [tr_ 0, ti_ s0_59]) hE dX8_reads_59 (Nat.le_of_ble_eq_true rfl) rfl rfl ?_
                  refine ta_iloadn hE dX8_reads_60 rfl ?_
                  refine ta_join (γ := tg_Mem → tg_R) (fun J => ∀ (m_78 : tg_Mem), tg_AW E LM (some .int) (J m_78) 78 [tr_ 0, ti_ s0_59] [] m_78) ?_ (fun j78 hj78 => ?_)
                  · intro m_78
                    refine ta_aloadn hE dX8_reads_78 rfl ?_
                    refine ta_dup hE dX8_reads_79 (fun _ => rfl) ?_
                    refine gf_X8_108 hE dX8_reads_80 lm_0 rfl ?_
                    refine ta_iloadn hE dX8_reads_83 rfl ?_
                    refine ta_join (γ := Int → tg_R) (fun J => ∀ (s0_92 : Int), tg_AW E LM (some .int) (J s0_92) 92 [tr_ 0, ti_ s0_59] [ti_ s0_92, ti_ (m_78 0 7), tr_ 0] m_78) ?_ (fun j92 hj92 => ?_)
                    · intro s0_92
                      refine ta_iadd hE dX8_reads_92 ?_
                      refine pf_X8_108 hE dX8_reads_93 lm_0 rfl ?_
                      refine ta_nmm (fun m93 => ?_)
                      refine ta_goto (tgt := 25) hE dX8_reads_96 (by decide) ?_
                      exact (hself25 s0_59 m93)
                    · refine ta_if_eq (tgt := 91) hE dX8_reads_84 (by decide) (fun c84 => ?_) (fun c84 => ?_)
                      · refine ta_iconst (v := 0) hE dX8_reads_91 rfl ⟨by decide, by decide⟩ ?_
                        exact (hj92 0)
                      · refine ta_iconst (v := 1) hE dX8_reads_87 rfl ⟨by decide, by decide⟩ ?_
                        refine ta_goto (tgt := 92) hE dX8_reads_88 (by decide) ?_
                        exact (hj92 1)
                  · refine ta_if_eq (tgt := 78) hE dX8_reads_61 (by decide) (fun c61 => ?_) (fun c61 => ?_)
                    · exact (hj78 m30)
                    · refine ta_aloadn hE dX8_reads_64 rfl ?_
                      refine ta_callV (C := RX8) (T := TX8) (st := []) hE dX8_reads_65 (k_X8_here m30) ml_X8_114 im_X8_here se_X8_here in_X8 co_X8_here hy_X8_here ⟨Nat.le_of_ble_eq_true rfl, Nat.le_of_ble_eq_true rfl⟩ lm_0 rfl rfl rfl (fun _ => Nat.le_of_ble_eq_true rfl) (fun r65 m65 hx65 hr65 => ?_)
                      change tg_AW E _ _ _ _ _ (ti_ r65 :: _) _
                      refine bp_59 hE dX8_reads_68 ?_
                      refine ta_icmp_eq (tgt := 78) hE dX8_reads_70 (by decide) (fun c70 => ?_) (fun c70 => ?_)
                      · exact (hj78 m65)
                      · exact (ta_wk (i := 1) (lv2 := [tr_ 0, tj_]) rfl (hj73 m65))
                · refine ta_icmp_ge (tgt := 58) hE dX8_reads_51 (by decide) (fun c51 => ?_) (fun c51 => ?_)
                  · refine ta_iconst (v := 0) hE dX8_reads_58 rfl ⟨by decide, by decide⟩ ?_
                    exact (ta_wk (i := 1) (lv2 := [tr_ 0, tj_]) rfl (hj59 0))
                  · refine ta_iconst (v := 1) hE dX8_reads_54 rfl ⟨by decide, by decide⟩ ?_
                    refine ta_goto (tgt := 59) hE dX8_reads_55 (by decide) ?_
                    exact (ta_wk (i := 1) (lv2 := [tr_ 0, tj_]) rfl (hj59 1))
              · exact (ta_wk (i := 1) (lv2 := [tr_ 0, tj_]) rfl (hj36 m30)))
        exact (hl25 tg_FU s0_24 m7)
  · refine ta_if_le (tgt := 23) hE dX8_reads_16 (by decide) (fun c16 => ?_) (fun c16 => ?_)
    · refine ta_iconst (v := 0) hE dX8_reads_23 rfl ⟨by decide, by decide⟩ ?_
      exact (hj24 0)
    · refine ta_iconst (v := 1) hE dX8_reads_19 rfl ⟨by decide, by decide⟩ ?_
      refine ta_goto (tgt := 24) hE dX8_reads_20 (by decide) ?_
      exact (hj24 1)
noncomputable def f_X8_fault  (m : tg_Mem) : tg_R :=
  tg_bd (f_X8_reads  m) (fun r1 m1 =>
    some (r1, m1))
theorem hy_X8_fault : yX8_fault.cls = RX8 ∧ yX8_fault.cls ≠ "java/lang/invoke/MethodHandle" ∧ yX8_fault.cls ≠ "java/lang/invoke/VarHandle" ∧ (parseMethodDescriptor yX8_fault.desc).map (fun q => q.parameters.length) = some 0 := by decide +kernel
set_option maxRecDepth 100000 in
set_option maxHeartbeats 4000000 in
theorem k_X8_fault    (m : tg_Mem) : tg_C yX8_fault cX8_fault 1 (some .int) 4 LM [tr_ 0] (f_X8_fault  m) m := by
  refine ta_enter2 (own := RX8) (by decide +kernel) rfl rfl (Nat.le_of_ble_eq_true rfl) rfl (fun E hE => ?_)
  unfold f_X8_fault
  refine ta_aloadn hE dX8_fault_0 rfl ?_
  refine ta_callV (C := RX8) (T := TX8) (st := []) hE dX8_fault_1 (k_X8_reads m) ml_X8_129 im_X8_reads se_X8_reads in_X8 co_X8_reads hy_X8_reads ⟨Nat.le_of_ble_eq_true rfl, Nat.le_of_ble_eq_true rfl⟩ lm_0 rfl rfl rfl (fun _ => Nat.le_of_ble_eq_true rfl) (fun r1 m1 hx1 hr1 => ?_)
  change tg_AW E _ _ _ _ _ (ti_ r1 :: _) _
  exact ta_iret hE dX8_fault_4
noncomputable def f_X8_isPath (a0 : Int) (m : tg_Mem) : tg_R :=
  tg_bd (f_X8_reads  m) (fun _ m1 =>
    tg_bd (f_X8_in a0 0 (tg_wi ((m1 0 8) - 1)) m1) (fun r15 m15 =>
      some (r15, m15)))
theorem hy_X8_isPath : yX8_isPath.cls = RX8 ∧ yX8_isPath.cls ≠ "java/lang/invoke/MethodHandle" ∧ yX8_isPath.cls ≠ "java/lang/invoke/VarHandle" ∧ (parseMethodDescriptor yX8_isPath.desc).map (fun q => q.parameters.length) = some 1 := by decide +kernel
set_option maxRecDepth 100000 in
set_option maxHeartbeats 4000000 in
theorem k_X8_isPath   (a0 : Int) (m : tg_Mem) : tg_C yX8_isPath cX8_isPath 2 (some .boolean) 4 LM [tr_ 0, ti_ a0] (f_X8_isPath a0 m) m := by
  refine ta_enter2 (own := RX8) (by decide +kernel) rfl rfl (Nat.le_of_ble_eq_true rfl) rfl (fun E hE => ?_)
  unfold f_X8_isPath
  refine ta_aloadn hE dX8_isPath_0 rfl ?_
  refine ta_callV (C := RX8) (T := TX8) (st := []) hE dX8_isPath_1 (k_X8_reads m) ml_X8_129 im_X8_reads se_X8_reads in_X8 co_X8_reads hy_X8_reads ⟨Nat.le_of_ble_eq_true rfl, Nat.le_of_ble_eq_true rfl⟩ lm_0 rfl rfl rfl (fun _ => Nat.le_of_ble_eq_true rfl) (fun r1 m1 hx1 hr1 => ?_)
  change tg_AW E _ _ _ _ _ (ti_ r1 :: _) _
  refine ta_pop hE dX8_isPath_4 (fun _ => rfl) ?_
  refine ta_iloadn hE dX8_isPath_5 rfl ?_
  refine ta_i2l hE dX8_isPath_6 ?_
  refine ta_lconst (v := 0) hE dX8_isPath_7 rfl ⟨by decide, by decide⟩ ?_
  refine ta_aloadn hE dX8_isPath_8 rfl ?_
  refine gf_X8_111 hE dX8_isPath_9 lm_0 rfl ?_
  refine ta_iconst (v := 1) hE dX8_isPath_12 rfl ⟨by decide, by decide⟩ ?_
  refine ta_isub hE dX8_isPath_13 ?_
  refine ta_i2l hE dX8_isPath_14 ?_
  refine ta_callS (st := []) hE dX8_isPath_15 (k_X8_in a0 0 (tg_wi ((m1 0 8) - 1)) m1) ml_X8_77 st_X8_in in_X8 co_X8_in hy_X8_in.2 ⟨Nat.le_of_ble_eq_true rfl, Nat.le_of_ble_eq_true rfl⟩ rfl rfl (fun _ => Nat.le_of_ble_eq_true rfl) (fun r15 m15 hx15 hr15 => ?_)
  change tg_AW E _ _ _ _ _ (ti_ r15 :: _) _
  exact ta_zret hE dX8_isPath_18 hr15
noncomputable def f_X8_path (a0 : Int) (a1 : Int) (m : tg_Mem) : tg_R :=
  tg_bd (f_X8_isPath a0 m) (fun r2 m2 =>
    tg_jn (γ := tg_Mem → tg_R) (fun (m_33 : tg_Mem) => some ((-2), m_33)) (fun j33 =>
      if r2 = 0 then
        j33 m2
      else
        tg_bd (f_X8_in a1 0 2 m2) (fun r14 m14 =>
          if r14 = 0 then
            j33 m14
          else
            tg_ck (0 ≤ tg_wi ((tg_wi (3 * a0)) + a1) ∧ tg_wi ((tg_wi (3 * a0)) + a1) < 24) (
              some (m14 7 (tg_wi ((tg_wi (3 * a0)) + a1)).toNat, m14)))))
theorem hy_X8_path : yX8_path.cls = RX8 ∧ yX8_path.cls ≠ "java/lang/invoke/MethodHandle" ∧ yX8_path.cls ≠ "java/lang/invoke/VarHandle" ∧ (parseMethodDescriptor yX8_path.desc).map (fun q => q.parameters.length) = some 2 := by decide +kernel
set_option maxRecDepth 100000 in
set_option maxHeartbeats 4000000 in
theorem k_X8_path   (a0 : Int) (a1 : Int) (m : tg_Mem) : tg_C yX8_path cX8_path 3 (some .int) 5 LM [tr_ 0, ti_ a0, ti_ a1] (f_X8_path a0 a1 m) m := by
  refine ta_enter2 (own := RX8) (by decide +kernel) rfl rfl (Nat.le_of_ble_eq_true rfl) rfl (fun E hE => ?_)
  unfold f_X8_path
  refine ta_aloadn hE dX8_path_0 rfl ?_
  refine ta_iloadn hE dX8_path_1 rfl ?_
  refine ta_callV (C := RX8) (T := TX8) (st := []) hE dX8_path_2 (k_X8_isPath a0 m) ml_X8_132 im_X8_isPath se_X8_isPath in_X8 co_X8_isPath hy_X8_isPath ⟨Nat.le_of_ble_eq_true rfl, Nat.le_of_ble_eq_true rfl⟩ lm_0 rfl rfl rfl (fun _ => Nat.le_of_ble_eq_true rfl) (fun r2 m2 hx2 hr2 => ?_)
  change tg_AW E _ _ _ _ _ (ti_ r2 :: _) _
  refine ta_join (γ := tg_Mem → tg_R) (fun J => ∀ (m_33 : tg_Mem), tg_AW E LM (some .int) (J m_33) 33 [tj_, tj_, tj_] [] m_33) ?_ (fun j33 hj33 => ?_)
  · intro m_33
    refine bp_n2 hE dX8_path_33 ?_
    exact ta_iret hE dX8_path_35
  · refine ta_if_eq (tgt := 33) hE dX8_path_5 (by decide) (fun c5 => ?_) (fun c5 => ?_)
    · exact (ta_wk (i := 0) (lv2 := [tj_, ti_ a0, ti_ a1]) rfl (ta_wk (i := 1) (lv2 := [tj_, tj_, ti_ a1]) rfl (ta_wk (i := 2) (lv2 := [tj_, tj_, tj_]) rfl (hj33 m2))))
    · refine ta_iloadn hE dX8_path_8 rfl ?_
      refine ta_i2l hE dX8_path_9 ?_
      refine ta_lconst (v := 0) hE dX8_path_10 rfl ⟨by decide, by decide⟩ ?_
      refine ta_ldc2 (v := 2) hE dX8_path_11 lc_X8_91 ⟨by decide, by decide⟩ ?_
      refine ta_callS (st := []) hE dX8_path_14 (k_X8_in a1 0 2 m2) ml_X8_77 st_X8_in in_X8 co_X8_in hy_X8_in.2 ⟨Nat.le_of_ble_eq_true rfl, Nat.le_of_ble_eq_true rfl⟩ rfl rfl (fun _ => Nat.le_of_ble_eq_true rfl) (fun r14 m14 hx14 hr14 => ?_)
      change tg_AW E _ _ _ _ _ (ti_ r14 :: _) _
      refine ta_if_eq (tgt := 33) hE dX8_path_17 (by decide) (fun c17 => ?_) (fun c17 => ?_)
      · exact (ta_wk (i := 0) (lv2 := [tj_, ti_ a0, ti_ a1]) rfl (ta_wk (i := 1) (lv2 := [tj_, tj_, ti_ a1]) rfl (ta_wk (i := 2) (lv2 := [tj_, tj_, tj_]) rfl (hj33 m14))))
      · refine ta_aloadn hE dX8_path_20 rfl ?_
        refine gr_X8_28 hE dX8_path_21 lm_0 rfl ?_
        refine ta_iconst (v := 3) hE dX8_path_24 rfl ⟨by decide, by decide⟩ ?_
        refine ta_iloadn hE dX8_path_25 rfl ?_
        refine ta_imul hE dX8_path_26 ?_
        refine ta_iloadn hE dX8_path_27 rfl ?_
        refine ta_iadd hE dX8_path_28 ?_
        refine ta_iald (n' := 24) hE dX8_path_29 lm_7 rfl (fun _ _ => ?_)
        refine ta_goto (tgt := 35) hE dX8_path_30 (by decide) ?_
        exact ta_iret hE dX8_path_35
noncomputable def f_X8_isPlace (a0 : Int) (m : tg_Mem) : tg_R :=
  tg_bd (f_X8_in a0 0 7 m) (fun r6 m6 =>
    some (r6, m6))
theorem hy_X8_isPlace : yX8_isPlace.cls = RX8 ∧ yX8_isPlace.cls ≠ "java/lang/invoke/MethodHandle" ∧ yX8_isPlace.cls ≠ "java/lang/invoke/VarHandle" ∧ (parseMethodDescriptor yX8_isPlace.desc).map (fun q => q.parameters.length) = some 1 := by decide +kernel
set_option maxRecDepth 100000 in
set_option maxHeartbeats 4000000 in
theorem k_X8_isPlace   (a0 : Int) (m : tg_Mem) : tg_C yX8_isPlace cX8_isPlace 1 (some .boolean) 2 LM [ti_ a0] (f_X8_isPlace a0 m) m := by
  refine ta_enter2 (own := RX8) (by decide +kernel) rfl rfl (Nat.le_of_ble_eq_true rfl) rfl (fun E hE => ?_)
  unfold f_X8_isPlace
  refine ta_iloadn hE dX8_isPlace_0 rfl ?_
  refine ta_i2l hE dX8_isPlace_1 ?_
  refine ta_lconst (v := 0) hE dX8_isPlace_2 rfl ⟨by decide, by decide⟩ ?_
  refine ta_ldc2 (v := 7) hE dX8_isPlace_3 lc_X8_118 ⟨by decide, by decide⟩ ?_
  refine ta_callS (st := []) hE dX8_isPlace_6 (k_X8_in a0 0 7 m) ml_X8_77 st_X8_in in_X8 co_X8_in hy_X8_in.2 ⟨Nat.le_of_ble_eq_true rfl, Nat.le_of_ble_eq_true rfl⟩ rfl rfl (fun _ => Nat.le_of_ble_eq_true rfl) (fun r6 m6 hx6 hr6 => ?_)
  change tg_AW E _ _ _ _ _ (ti_ r6 :: _) _
  exact ta_zret hE dX8_isPlace_9 hr6
noncomputable def f_X8_isTwo (a0 : Int) (m : tg_Mem) : tg_R :=
  tg_bd (f_X8_in a0 0 1 m) (fun r4 m4 =>
    some (r4, m4))
theorem hy_X8_isTwo : yX8_isTwo.cls = RX8 ∧ yX8_isTwo.cls ≠ "java/lang/invoke/MethodHandle" ∧ yX8_isTwo.cls ≠ "java/lang/invoke/VarHandle" ∧ (parseMethodDescriptor yX8_isTwo.desc).map (fun q => q.parameters.length) = some 1 := by decide +kernel
set_option maxRecDepth 100000 in
set_option maxHeartbeats 4000000 in
theorem k_X8_isTwo   (a0 : Int) (m : tg_Mem) : tg_C yX8_isTwo cX8_isTwo 1 (some .boolean) 2 LM [ti_ a0] (f_X8_isTwo a0 m) m := by
  refine ta_enter2 (own := RX8) (by decide +kernel) rfl rfl (Nat.le_of_ble_eq_true rfl) rfl (fun E hE => ?_)
  unfold f_X8_isTwo
  refine ta_iloadn hE dX8_isTwo_0 rfl ?_
  refine ta_i2l hE dX8_isTwo_1 ?_
  refine ta_lconst (v := 0) hE dX8_isTwo_2 rfl ⟨by decide, by decide⟩ ?_
  refine ta_lconst (v := 1) hE dX8_isTwo_3 rfl ⟨by decide, by decide⟩ ?_
  refine ta_callS (st := []) hE dX8_isTwo_4 (k_X8_in a0 0 1 m) ml_X8_77 st_X8_in in_X8 co_X8_in hy_X8_in.2 ⟨Nat.le_of_ble_eq_true rfl, Nat.le_of_ble_eq_true rfl⟩ rfl rfl (fun _ => Nat.le_of_ble_eq_true rfl) (fun r4 m4 hx4 hr4 => ?_)
  change tg_AW E _ _ _ _ _ (ti_ r4 :: _) _
  exact ta_zret hE dX8_isTwo_7 hr4
noncomputable def f_X8_start (a0 : Int) (a1 : Int) (m : tg_Mem) : tg_R :=
  tg_bd (f_X8_isTwo a0 m) (fun r1 m1 =>
    if r1 = 0 then
      some ((-2), m1)
    else
      tg_bd (f_X8_isPlace a1 m1) (fun r8 m8 =>
        if r8 ≠ 0 then
          tg_ck (0 ≤ a0 ∧ a0 < 2) (
            tg_lt (m8 8 (a0).toNat) (fun v3_23 =>
              tg_ck (0 ≤ a0 ∧ a0 < 2) (
                tg_lt (tg_up m8 8 (a0).toNat a1) (fun m30 =>
                  some (v3_23, m30)))))
        else
          some ((-2), m8)))
theorem hy_X8_start : yX8_start.cls = RX8 ∧ yX8_start.cls ≠ "java/lang/invoke/MethodHandle" ∧ yX8_start.cls ≠ "java/lang/invoke/VarHandle" ∧ (parseMethodDescriptor yX8_start.desc).map (fun q => q.parameters.length) = some 2 := by decide +kernel
set_option maxRecDepth 100000 in
set_option maxHeartbeats 4000000 in
theorem k_X8_start   (a0 : Int) (a1 : Int) (m : tg_Mem) : tg_C yX8_start cX8_start 4 (some .int) 3 LM [tr_ 0, ti_ a0, ti_ a1] (f_X8_start a0 a1 m) m := by
  refine ta_enter2 (own := RX8) (by decide +kernel) rfl rfl (Nat.le_of_ble_eq_true rfl) rfl (fun E hE => ?_)
  unfold f_X8_start
  refine ta_iloadn hE dX8_start_0 rfl ?_
  refine ta_callS (st := []) hE dX8_start_1 (k_X8_isTwo a0 m) ml_X8_135 st_X8_isTwo in_X8 co_X8_isTwo hy_X8_isTwo.2 ⟨Nat.le_of_ble_eq_true rfl, Nat.le_of_ble_eq_true rfl⟩ rfl rfl (fun _ => Nat.le_of_ble_eq_true rfl) (fun r1 m1 hx1 hr1 => ?_)
  change tg_AW E _ _ _ _ _ (ti_ r1 :: _) _
  refine ta_if_eq (tgt := 14) hE dX8_start_4 (by decide) (fun c4 => ?_) (fun c4 => ?_)
  · refine bp_n2 hE dX8_start_14 ?_
    exact ta_iret hE dX8_start_16
  · refine ta_iloadn hE dX8_start_7 rfl ?_
    refine ta_callS (st := []) hE dX8_start_8 (k_X8_isPlace a1 m1) ml_X8_138 st_X8_isPlace in_X8 co_X8_isPlace hy_X8_isPlace.2 ⟨Nat.le_of_ble_eq_true rfl, Nat.le_of_ble_eq_true rfl⟩ rfl rfl (fun _ => Nat.le_of_ble_eq_true rfl) (fun r8 m8 hx8 hr8 => ?_)
    change tg_AW E _ _ _ _ _ (ti_ r8 :: _) _
    refine ta_if_ne (tgt := 17) hE dX8_start_11 (by decide) (fun c11 => ?_) (fun c11 => ?_)
    · refine ta_aloadn hE dX8_start_17 rfl ?_
      refine gr_X8_31 hE dX8_start_18 lm_0 rfl ?_
      refine ta_iloadn hE dX8_start_21 rfl ?_
      refine ta_iald (n' := 2) hE dX8_start_22 lm_8 rfl (fun _ _ => ?_)
      refine ta_nmi (fun v3_23 => ?_)
      refine ta_istoren (lv2 := [tr_ 0, ti_ a0, ti_ a1, ti_ v3_23]) hE dX8_start_23 (Nat.le_of_ble_eq_true rfl) rfl rfl ?_
      refine ta_aloadn hE dX8_start_24 rfl ?_
      refine gr_X8_31 hE dX8_start_25 lm_0 rfl ?_
      refine ta_iloadn hE dX8_start_28 rfl ?_
      refine ta_iloadn hE dX8_start_29 rfl ?_
      refine ta_iast (n' := 2) hE dX8_start_30 lm_8 rfl (fun _ _ => ?_)
      refine ta_nmm (fun m30 => ?_)
      refine ta_iloadn hE dX8_start_31 rfl ?_
      exact ta_iret hE dX8_start_32
    · refine bp_n2 hE dX8_start_14 ?_
      exact ta_iret hE dX8_start_16
noncomputable def f_X8_set (a0 : Int) (a1 : Int) (m : tg_Mem) : tg_R :=
  tg_bd (f_X8_in a0 0 2 m) (fun r6 m6 =>
    if r6 = 0 then
      some ((-2), m6)
    else
      tg_jn (γ := Int → tg_R) (fun (s0_24 : Int) => tg_jn (γ := Int → tg_R) (fun (s0_38 : Int) => tg_bd (f_X8_in a1 s0_24 s0_38 m6) (fun r38 m38 =>
        if r38 ≠ 0 then
          tg_ck (0 ≤ a0 ∧ a0 < 3) (
            tg_lt (m38 9 (a0).toNat) (fun v3_53 =>
              tg_ck (0 ≤ a0 ∧ a0 < 3) (
                tg_lt (tg_up m38 9 (a0).toNat a1) (fun m60 =>
                  some (v3_53, m60)))))
        else
          some ((-2), m38))) (fun j38 =>
        if a0 ≠ 2 then
          j38 9
        else
          j38 18)) (fun j24 =>
        if a0 ≠ 2 then
          j24 0
        else
          j24 1))
theorem hy_X8_set : yX8_set.cls = RX8 ∧ yX8_set.cls ≠ "java/lang/invoke/MethodHandle" ∧ yX8_set.cls ≠ "java/lang/invoke/VarHandle" ∧ (parseMethodDescriptor yX8_set.desc).map (fun q => q.parameters.length) = some 2 := by decide +kernel
set_option maxRecDepth 100000 in
set_option maxHeartbeats 4000000 in
theorem k_X8_set   (a0 : Int) (a1 : Int) (m : tg_Mem) : tg_C yX8_set cX8_set 4 (some .int) 2 LM [tr_ 0, ti_ a0, ti_ a1] (f_X8_set a0 a1 m) m := by
  refine ta_enter2 (own := RX8) (by decide +kernel) rfl rfl (Nat.le_of_ble_eq_true rfl) rfl (fun E hE => ?_)
  unfold f_X8_set
  refine ta_iloadn hE dX8_set_0 rfl ?_
  refine ta_i2l hE dX8_set_1 ?_
  refine ta_lconst (v := 0) hE dX8_set_2 rfl ⟨by decide, by decide⟩ ?_
  refine ta_ldc2 (v := 2) hE dX8_set_3 lc_X8_91 ⟨by decide, by decide⟩ ?_
  refine ta_callS (st := []) hE dX8_set_6 (k_X8_in a0 0 2 m) ml_X8_77 st_X8_in in_X8 co_X8_in hy_X8_in.2 ⟨Nat.le_of_ble_eq_true rfl, Nat.le_of_ble_eq_true rfl⟩ rfl rfl (fun _ => Nat.le_of_ble_eq_true rfl) (fun r6 m6 hx6 hr6 => ?_)
  change tg_AW E _ _ _ _ _ (ti_ r6 :: _) _
  refine ta_if_eq (tgt := 44) hE dX8_set_9 (by decide) (fun c9 => ?_) (fun c9 => ?_)
  · refine bp_n2 hE dX8_set_44 ?_
    exact ta_iret hE dX8_set_46
  · refine ta_iloadn hE dX8_set_12 rfl ?_
    refine ta_i2l hE dX8_set_13 ?_
    refine ta_iloadn hE dX8_set_14 rfl ?_
    refine ta_iconst (v := 2) hE dX8_set_15 rfl ⟨by decide, by decide⟩ ?_
    refine ta_join (γ := Int → tg_R) (fun J => ∀ (s0_24 : Int), tg_AW E LM (some .int) (J s0_24) 24 [tr_ 0, ti_ a0, ti_ a1, tj_] [tl_ s0_24, tl_ a1] m6) ?_ (fun j24 hj24 => ?_)
    · intro s0_24
      refine ta_iloadn hE dX8_set_24 rfl ?_
      refine ta_iconst (v := 2) hE dX8_set_25 rfl ⟨by decide, by decide⟩ ?_
      refine ta_join (γ := Int → tg_R) (fun J => ∀ (s0_38 : Int), tg_AW E LM (some .int) (J s0_38) 38 [tr_ 0, ti_ a0, ti_ a1, tj_] [tl_ s0_38, tl_ s0_24, tl_ a1] m6) ?_ (fun j38 hj38 => ?_)
      · intro s0_38
        refine ta_callS (st := []) hE dX8_set_38 (k_X8_in a1 s0_24 s0_38 m6) ml_X8_77 st_X8_in in_X8 co_X8_in hy_X8_in.2 ⟨Nat.le_of_ble_eq_true rfl, Nat.le_of_ble_eq_true rfl⟩ rfl rfl (fun _ => Nat.le_of_ble_eq_true rfl) (fun r38 m38 hx38 hr38 => ?_)
        change tg_AW E _ _ _ _ _ (ti_ r38 :: _) _
        refine ta_if_ne (tgt := 47) hE dX8_set_41 (by decide) (fun c41 => ?_) (fun c41 => ?_)
        · refine ta_aloadn hE dX8_set_47 rfl ?_
          refine gr_X8_34 hE dX8_set_48 lm_0 rfl ?_
          refine ta_iloadn hE dX8_set_51 rfl ?_
          refine ta_iald (n' := 3) hE dX8_set_52 lm_9 rfl (fun _ _ => ?_)
          refine ta_nmi (fun v3_53 => ?_)
          refine ta_istoren (lv2 := [tr_ 0, ti_ a0, ti_ a1, ti_ v3_53]) hE dX8_set_53 (Nat.le_of_ble_eq_true rfl) rfl rfl ?_
          refine ta_aloadn hE dX8_set_54 rfl ?_
          refine gr_X8_34 hE dX8_set_55 lm_0 rfl ?_
          refine ta_iloadn hE dX8_set_58 rfl ?_
          refine ta_iloadn hE dX8_set_59 rfl ?_
          refine ta_iast (n' := 3) hE dX8_set_60 lm_9 rfl (fun _ _ => ?_)
          refine ta_nmm (fun m60 => ?_)
          refine ta_iloadn hE dX8_set_61 rfl ?_
          exact ta_iret hE dX8_set_62
        · refine bp_n2 hE dX8_set_44 ?_
          exact ta_iret hE dX8_set_46
      · refine ta_icmp_ne (tgt := 35) hE dX8_set_26 (by decide) (fun c26 => ?_) (fun c26 => ?_)
        · refine ta_ldc2 (v := 9) hE dX8_set_35 lc_X8_120 ⟨by decide, by decide⟩ ?_
          exact (hj38 9)
        · refine ta_ldc2 (v := 18) hE dX8_set_29 lc_X8_141 ⟨by decide, by decide⟩ ?_
          refine ta_goto (tgt := 38) hE dX8_set_32 (by decide) ?_
          exact (hj38 18)
    · refine ta_icmp_ne (tgt := 23) hE dX8_set_16 (by decide) (fun c16 => ?_) (fun c16 => ?_)
      · refine ta_lconst (v := 0) hE dX8_set_23 rfl ⟨by decide, by decide⟩ ?_
        exact (hj24 0)
      · refine ta_lconst (v := 1) hE dX8_set_19 rfl ⟨by decide, by decide⟩ ?_
        refine ta_goto (tgt := 24) hE dX8_set_20 (by decide) ?_
        exact (hj24 1)
