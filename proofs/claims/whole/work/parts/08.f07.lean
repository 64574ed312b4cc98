noncomputable def f_X8_judgedOf (a0 : Int) (m : tg_Mem) : tg_R :=
  tg_bd (f_X8_done a0 m) (fun r2 m2 =>
    tg_ck (0 ≤ tg_wi (1 + a0) ∧ tg_wi (1 + a0) < 3) (
      if m2 6 (tg_wi (1 + a0)).toNat ≤ r2 then
        some ((-1), m2)
      else
        some (r2, m2)))
theorem hy_X8_judgedOf : yX8_judgedOf.cls = RX8 ∧ yX8_judgedOf.cls ≠ "java/lang/invoke/MethodHandle" ∧ yX8_judgedOf.cls ≠ "java/lang/invoke/VarHandle" ∧ (parseMethodDescriptor yX8_judgedOf.desc).map (fun q => q.parameters.length) = some 1 := by decide +kernel
set_option maxRecDepth 100000 in
set_option maxHeartbeats 4000000 in
theorem k_X8_judgedOf   (a0 : Int) (m : tg_Mem) : tg_C yX8_judgedOf cX8_judgedOf 3 (some .int) 6 LM [tr_ 0, ti_ a0] (f_X8_judgedOf a0 m) m := by
  refine ta_enter2 (own := RX8) (by decide +kernel) rfl rfl (Nat.le_of_ble_eq_true rfl) rfl (fun E hE => ?_)
  unfold f_X8_judgedOf
  refine ta_aloadn hE dX8_judgedOf_0 rfl ?_
  refine ta_iloadn hE dX8_judgedOf_1 rfl ?_
  refine ta_callV (C := RX8) (T := TX8) (st := []) hE dX8_judgedOf_2 (k_X8_done a0 m) ml_X8_200 im_X8_done se_X8_done in_X8 co_X8_done hy_X8_done ⟨Nat.le_of_ble_eq_true rfl, Nat.le_of_ble_eq_true rfl⟩ lm_0 rfl rfl rfl (fun _ => Nat.le_of_ble_eq_true rfl) (fun r2 m2 hx2 hr2 => ?_)
  change tg_AW E _ _ _ _ _ (ti_ r2 :: _) _
  refine ta_istoren (lv2 := [tr_ 0, ti_ a0, ti_ r2]) hE dX8_judgedOf_5 (Nat.le_of_ble_eq_true rfl) rfl rfl ?_
  refine ta_iloadn hE dX8_judgedOf_6 rfl ?_
  refine ta_aloadn hE dX8_judgedOf_7 rfl ?_
  refine gr_X8_25 hE dX8_judgedOf_8 lm_0 rfl ?_
  refine ta_iconst (v := 1) hE dX8_judgedOf_11 rfl ⟨by decide, by decide⟩ ?_
  refine ta_iloadn hE dX8_judgedOf_12 rfl ?_
  refine ta_iadd hE dX8_judgedOf_13 ?_
  refine ta_iald (n' := 3) hE dX8_judgedOf_14 lm_6 rfl (fun _ _ => ?_)
  refine ta_icmp_ge (tgt := 22) hE dX8_judgedOf_15 (by decide) (fun c15 => ?_) (fun c15 => ?_)
  · refine ta_iconst (v := (-1)) hE dX8_judgedOf_22 rfl ⟨by decide, by decide⟩ ?_
    exact ta_iret hE dX8_judgedOf_23
  · refine ta_iloadn hE dX8_judgedOf_18 rfl ?_
    refine ta_goto (tgt := 23) hE dX8_judgedOf_19 (by decide) ?_
    exact ta_iret hE dX8_judgedOf_23
noncomputable def f_X8_judged (a0 : Int) (m : tg_Mem) : tg_R :=
  tg_bd (f_X8_reads  m) (fun _ m1 =>
    tg_bd (f_X8_isTwo a0 m1) (fun r6 m6 =>
      if r6 = 0 then
        some ((-2), m6)
      else
        tg_bd (f_X8_judgedOf a0 m6) (fun r14 m14 =>
          some (r14, m14))))
theorem hy_X8_judged : yX8_judged.cls = RX8 ∧ yX8_judged.cls ≠ "java/lang/invoke/MethodHandle" ∧ yX8_judged.cls ≠ "java/lang/invoke/VarHandle" ∧ (parseMethodDescriptor yX8_judged.desc).map (fun q => q.parameters.length) = some 1 := by decide +kernel
set_option maxRecDepth 100000 in
set_option maxHeartbeats 4000000 in
theorem k_X8_judged   (a0 : Int) (m : tg_Mem) : tg_C yX8_judged cX8_judged 2 (some .int) 7 LM [tr_ 0, ti_ a0] (f_X8_judged a0 m) m := by
  refine ta_enter2 (own := RX8) (by decide +kernel) rfl rfl (Nat.le_of_ble_eq_true rfl) rfl (fun E hE => ?_)
  unfold f_X8_judged
  refine ta_aloadn hE dX8_judged_0 rfl ?_
  refine ta_callV (C := RX8) (T := TX8) (st := []) hE dX8_judged_1 (k_X8_reads m) ml_X8_129 im_X8_reads se_X8_reads in_X8 co_X8_reads hy_X8_reads ⟨Nat.le_of_ble_eq_true rfl, Nat.le_of_ble_eq_true rfl⟩ lm_0 rfl rfl rfl (fun _ => Nat.le_of_ble_eq_true rfl) (fun r1 m1 hx1 hr1 => ?_)
  change tg_AW E _ _ _ _ _ (ti_ r1 :: _) _
  refine ta_pop hE dX8_judged_4 (fun _ => rfl) ?_
  refine ta_iloadn hE dX8_judged_5 rfl ?_
  refine ta_callS (st := []) hE dX8_judged_6 (k_X8_isTwo a0 m1) ml_X8_135 st_X8_isTwo in_X8 co_X8_isTwo hy_X8_isTwo.2 ⟨Nat.le_of_ble_eq_true rfl, Nat.le_of_ble_eq_true rfl⟩ rfl rfl (fun _ => Nat.le_of_ble_eq_true rfl) (fun r6 m6 hx6 hr6 => ?_)
  change tg_AW E _ _ _ _ _ (ti_ r6 :: _) _
  refine ta_if_eq (tgt := 20) hE dX8_judged_9 (by decide) (fun c9 => ?_) (fun c9 => ?_)
  · refine bp_n2 hE dX8_judged_20 ?_
    exact ta_iret hE dX8_judged_22
  · refine ta_aloadn hE dX8_judged_12 rfl ?_
    refine ta_iloadn hE dX8_judged_13 rfl ?_
    refine ta_callV (C := RX8) (T := TX8) (st := []) hE dX8_judged_14 (k_X8_judgedOf a0 m6) ml_X8_203 im_X8_judgedOf se_X8_judgedOf in_X8 co_X8_judgedOf hy_X8_judgedOf ⟨Nat.le_of_ble_eq_true rfl, Nat.le_of_ble_eq_true rfl⟩ lm_0 rfl rfl rfl (fun _ => Nat.le_of_ble_eq_true rfl) (fun r14 m14 hx14 hr14 => ?_)
    change tg_AW E _ _ _ _ _ (ti_ r14 :: _) _
    refine ta_goto (tgt := 22) hE dX8_judged_17 (by decide) ?_
    exact ta_iret hE dX8_judged_22
noncomputable def f_X8_isSo (a0 : Int) (a1 : Int) (m : tg_Mem) : tg_R :=
  tg_bd (f_X8_reads  m) (fun _ m1 =>
    tg_bd (f_X8_isTwo a0 m1) (fun r6 m6 =>
      tg_jn (γ := tg_Mem → tg_R) (fun (m_31 : tg_Mem) => some (0, m_31)) (fun j31 =>
        if r6 = 0 then
          j31 m6
        else
          tg_bd (f_X8_done a0 m6) (fun r17 m17 =>
            tg_bd (f_X8_in a1 0 r17 m17) (fun r21 m21 =>
              if r21 = 0 then
                j31 m21
              else
                some (1, m21))))))
theorem hy_X8_isSo : yX8_isSo.cls = RX8 ∧ yX8_isSo.cls ≠ "java/lang/invoke/MethodHandle" ∧ yX8_isSo.cls ≠ "java/lang/invoke/VarHandle" ∧ (parseMethodDescriptor yX8_isSo.desc).map (fun q => q.parameters.length) = some 2 := by decide +kernel
set_option maxRecDepth 100000 in
set_option maxHeartbeats 4000000 in
theorem k_X8_isSo   (a0 : Int) (a1 : Int) (m : tg_Mem) : tg_C yX8_isSo cX8_isSo 3 (some .boolean) 6 LM [tr_ 0, ti_ a0, ti_ a1] (f_X8_isSo a0 a1 m) m := by
  refine ta_enter2 (own := RX8) (by decide +kernel) rfl rfl (Nat.le_of_ble_eq_true rfl) rfl (fun E hE => ?_)
  unfold f_X8_isSo
  refine ta_aloadn hE dX8_isSo_0 rfl ?_
  refine ta_callV (C := RX8) (T := TX8) (st := []) hE dX8_isSo_1 (k_X8_reads m) ml_X8_129 im_X8_reads se_X8_reads in_X8 co_X8_reads hy_X8_reads ⟨Nat.le_of_ble_eq_true rfl, Nat.le_of_ble_eq_true rfl⟩ lm_0 rfl rfl rfl (fun _ => Nat.le_of_ble_eq_true rfl) (fun r1 m1 hx1 hr1 => ?_)
  change tg_AW E _ _ _ _ _ (ti_ r1 :: _) _
  refine ta_pop hE dX8_isSo_4 (fun _ => rfl) ?_
  refine ta_iloadn hE dX8_isSo_5 rfl ?_
  refine ta_callS (st := []) hE dX8_isSo_6 (k_X8_isTwo a0 m1) ml_X8_135 st_X8_isTwo in_X8 co_X8_isTwo hy_X8_isTwo.2 ⟨Nat.le_of_ble_eq_true rfl, Nat.le_of_ble_eq_true rfl⟩ rfl rfl (fun _ => Nat.le_of_ble_eq_true rfl) (fun r6 m6 hx6 hr6 => ?_)
  change tg_AW E _ _ _ _ _ (ti_ r6 :: _) _
  refine ta_join (γ := tg_Mem → tg_R) (fun J => ∀ (m_31 : tg_Mem), tg_AW E LM (some .boolean) (J m_31) 31 [tj_, tj_, tj_] [] m_31) ?_ (fun j31 hj31 => ?_)
  · intro m_31
    refine ta_iconst (v := 0) hE dX8_isSo_31 rfl ⟨by decide, by decide⟩ ?_
    exact ta_zret hE dX8_isSo_32 (Or.inl rfl)
  · refine ta_if_eq (tgt := 31) hE dX8_isSo_9 (by decide) (fun c9 => ?_) (fun c9 => ?_)
    · exact (ta_wk (i := 0) (lv2 := [tj_, ti_ a0, ti_ a1]) rfl (ta_wk (i := 1) (lv2 := [tj_, tj_, ti_ a1]) rfl (ta_wk (i := 2) (lv2 := [tj_, tj_, tj_]) rfl (hj31 m6))))
    · refine ta_iloadn hE dX8_isSo_12 rfl ?_
      refine ta_i2l hE dX8_isSo_13 ?_
      refine ta_lconst (v := 0) hE dX8_isSo_14 rfl ⟨by decide, by decide⟩ ?_
      refine ta_aloadn hE dX8_isSo_15 rfl ?_
      refine ta_iloadn hE dX8_isSo_16 rfl ?_
      refine ta_callV (C := RX8) (T := TX8) (st := [tl_ 0, tl_ a1]) hE dX8_isSo_17 (k_X8_done a0 m6) ml_X8_200 im_X8_done se_X8_done in_X8 co_X8_done hy_X8_done ⟨Nat.le_of_ble_eq_true rfl, Nat.le_of_ble_eq_true rfl⟩ lm_0 rfl rfl rfl (fun _ => Nat.le_of_ble_eq_true rfl) (fun r17 m17 hx17 hr17 => ?_)
      change tg_AW E _ _ _ _ _ (ti_ r17 :: _) _
      refine ta_i2l hE dX8_isSo_20 ?_
      refine ta_callS (st := []) hE dX8_isSo_21 (k_X8_in a1 0 r17 m17) ml_X8_77 st_X8_in in_X8 co_X8_in hy_X8_in.2 ⟨Nat.le_of_ble_eq_true rfl, Nat.le_of_ble_eq_true rfl⟩ rfl rfl (fun _ => Nat.le_of_ble_eq_true rfl) (fun r21 m21 hx21 hr21 => ?_)
      change tg_AW E _ _ _ _ _ (ti_ r21 :: _) _
      refine ta_if_eq (tgt := 31) hE dX8_isSo_24 (by decide) (fun c24 => ?_) (fun c24 => ?_)
      · exact (ta_wk (i := 0) (lv2 := [tj_, ti_ a0, ti_ a1]) rfl (ta_wk (i := 1) (lv2 := [tj_, tj_, ti_ a1]) rfl (ta_wk (i := 2) (lv2 := [tj_, tj_, tj_]) rfl (hj31 m21))))
      · refine ta_iconst (v := 1) hE dX8_isSo_27 rfl ⟨by decide, by decide⟩ ?_
        refine ta_goto (tgt := 32) hE dX8_isSo_28 (by decide) ?_
        exact ta_zret hE dX8_isSo_32 (Or.inr rfl)
noncomputable def f_X8_stateNow (a0 : Int) (m : tg_Mem) : tg_R :=
  if 2 ≤ a0 then
    if a0 ≠ 2 then
      if a0 ≠ 3 then
        if 6 ≤ a0 then
          tg_ck (0 ≤ tg_wi (a0 - 6) ∧ tg_wi (a0 - 6) < 2) (
            some (m 14 (tg_wi (a0 - 6)).toNat, m))
        else
          tg_ck (0 ≤ tg_wi (a0 - 4) ∧ tg_wi (a0 - 4) < 2) (
            some (m 13 (tg_wi (a0 - 4)).toNat, m))
      else
        some (m 0 16, m)
    else
      some (m 0 15, m)
  else
    tg_ck (0 ≤ a0 ∧ a0 < 2) (
      some (m 11 (a0).toNat, m))
theorem hy_X8_stateNow : yX8_stateNow.cls = RX8 ∧ yX8_stateNow.cls ≠ "java/lang/invoke/MethodHandle" ∧ yX8_stateNow.cls ≠ "java/lang/invoke/VarHandle" ∧ (parseMethodDescriptor yX8_stateNow.desc).map (fun q => q.parameters.length) = some 1 := by decide +kernel
set_option maxRecDepth 100000 in
set_option maxHeartbeats 4000000 in
theorem k_X8_stateNow   (a0 : Int) (m : tg_Mem) : tg_C yX8_stateNow cX8_stateNow 2 (some .int) 1 LM [tr_ 0, ti_ a0] (f_X8_stateNow a0 m) m := by
  refine ta_enter2 (own := RX8) (by decide +kernel) rfl rfl (Nat.le_of_ble_eq_true rfl) rfl (fun E hE => ?_)
  unfold f_X8_stateNow
  refine ta_iloadn hE dX8_stateNow_0 rfl ?_
  refine ta_iconst (v := 2) hE dX8_stateNow_1 rfl ⟨by decide, by decide⟩ ?_
  refine ta_icmp_ge (tgt := 14) hE dX8_stateNow_2 (by decide) (fun c2 => ?_) (fun c2 => ?_)
  · refine ta_iloadn hE dX8_stateNow_14 rfl ?_
    refine ta_iconst (v := 2) hE dX8_stateNow_15 rfl ⟨by decide, by decide⟩ ?_
    refine ta_icmp_ne (tgt := 26) hE dX8_stateNow_16 (by decide) (fun c16 => ?_) (fun c16 => ?_)
    · refine ta_iloadn hE dX8_stateNow_26 rfl ?_
      refine ta_iconst (v := 3) hE dX8_stateNow_27 rfl ⟨by decide, by decide⟩ ?_
      refine ta_icmp_ne (tgt := 38) hE dX8_stateNow_28 (by decide) (fun c28 => ?_) (fun c28 => ?_)
      · refine ta_iloadn hE dX8_stateNow_38 rfl ?_
        refine bp_6 hE dX8_stateNow_39 ?_
        refine ta_icmp_ge (tgt := 55) hE dX8_stateNow_41 (by decide) (fun c41 => ?_) (fun c41 => ?_)
        · refine ta_aloadn hE dX8_stateNow_55 rfl ?_
          refine gr_X8_49 hE dX8_stateNow_56 lm_0 rfl ?_
          refine ta_iloadn hE dX8_stateNow_59 rfl ?_
          refine bp_6 hE dX8_stateNow_60 ?_
          refine ta_isub hE dX8_stateNow_62 ?_
          refine ta_iald (n' := 2) hE dX8_stateNow_63 lm_14 rfl (fun _ _ => ?_)
          exact ta_iret hE dX8_stateNow_64
        · refine ta_aloadn hE dX8_stateNow_44 rfl ?_
          refine gr_X8_46 hE dX8_stateNow_45 lm_0 rfl ?_
          refine ta_iloadn hE dX8_stateNow_48 rfl ?_
          refine ta_iconst (v := 4) hE dX8_stateNow_49 rfl ⟨by decide, by decide⟩ ?_
          refine ta_isub hE dX8_stateNow_50 ?_
          refine ta_iald (n' := 2) hE dX8_stateNow_51 lm_13 rfl (fun _ _ => ?_)
          refine ta_goto (tgt := 64) hE dX8_stateNow_52 (by decide) ?_
          exact ta_iret hE dX8_stateNow_64
      · refine ta_aloadn hE dX8_stateNow_31 rfl ?_
        refine gf_X8_159 hE dX8_stateNow_32 lm_0 rfl ?_
        refine ta_goto (tgt := 64) hE dX8_stateNow_35 (by decide) ?_
        exact ta_iret hE dX8_stateNow_64
    · refine ta_aloadn hE dX8_stateNow_19 rfl ?_
      refine gf_X8_150 hE dX8_stateNow_20 lm_0 rfl ?_
      refine ta_goto (tgt := 64) hE dX8_stateNow_23 (by decide) ?_
      exact ta_iret hE dX8_stateNow_64
  · refine ta_aloadn hE dX8_stateNow_5 rfl ?_
    refine gr_X8_40 hE dX8_stateNow_6 lm_0 rfl ?_
    refine ta_iloadn hE dX8_stateNow_9 rfl ?_
    refine ta_iald (n' := 2) hE dX8_stateNow_10 lm_11 rfl (fun _ _ => ?_)
    refine ta_goto (tgt := 64) hE dX8_stateNow_11 (by decide) ?_
    exact ta_iret hE dX8_stateNow_64
noncomputable def f_X8_state (a0 : Int) (a1 : Int) (a2 : Int) (m : tg_Mem) : tg_R :=
  tg_bd (f_X8_isSo a0 a1 m) (fun r3 m3 =>
    if r3 = 0 then
      some ((-2), m3)
    else
      tg_bd (f_X8_in a2 0 7 m3) (fun r15 m15 =>
        if r15 ≠ 0 then
          tg_bd (f_X8_runs a0 a1 m15) (fun _ m27 =>
            tg_bd (f_X8_stateNow a2 m27) (fun r33 m33 =>
              some (r33, m33)))
        else
          some ((-2), m15)))
theorem hy_X8_state : yX8_state.cls = RX8 ∧ yX8_state.cls ≠ "java/lang/invoke/MethodHandle" ∧ yX8_state.cls ≠ "java/lang/invoke/VarHandle" ∧ (parseMethodDescriptor yX8_state.desc).map (fun q => q.parameters.length) = some 3 := by decide +kernel
set_option maxRecDepth 100000 in
set_option maxHeartbeats 4000000 in
theorem k_X8_state   (a0 : Int) (a1 : Int) (a2 : Int) (m : tg_Mem) : tg_C yX8_state cX8_state 4 (some .int) 7 LM [tr_ 0, ti_ a0, ti_ a1, ti_ a2] (f_X8_state a0 a1 a2 m) m := by
  refine ta_enter2 (own := RX8) (by decide +kernel) rfl rfl (Nat.le_of_ble_eq_true rfl) rfl (fun E hE => ?_)
  unfold f_X8_state
  refine ta_aloadn hE dX8_state_0 rfl ?_
  refine ta_iloadn hE dX8_state_1 rfl ?_
  refine ta_iloadn hE dX8_state_2 rfl ?_
  refine ta_callV (C := RX8) (T := TX8) (st := []) hE dX8_state_3 (k_X8_isSo a0 a1 m) ml_X8_206 im_X8_isSo se_X8_isSo in_X8 co_X8_isSo hy_X8_isSo ⟨Nat.le_of_ble_eq_true rfl, Nat.le_of_ble_eq_true rfl⟩ lm_0 rfl rfl rfl (fun _ => Nat.le_of_ble_eq_true rfl) (fun r3 m3 hx3 hr3 => ?_)
  change tg_AW E _ _ _ _ _ (ti_ r3 :: _) _
  refine ta_if_eq (tgt := 21) hE dX8_state_6 (by decide) (fun c6 => ?_) (fun c6 => ?_)
  · refine bp_n2 hE dX8_state_21 ?_
    exact ta_iret hE dX8_state_23
  · refine ta_iloadn hE dX8_state_9 rfl ?_
    refine ta_i2l hE dX8_state_10 ?_
    refine ta_lconst (v := 0) hE dX8_state_11 rfl ⟨by decide, by decide⟩ ?_
    refine ta_ldc2 (v := 7) hE dX8_state_12 lc_X8_118 ⟨by decide, by decide⟩ ?_
    refine ta_callS (st := []) hE dX8_state_15 (k_X8_in a2 0 7 m3) ml_X8_77 st_X8_in in_X8 co_X8_in hy_X8_in.2 ⟨Nat.le_of_ble_eq_true rfl, Nat.le_of_ble_eq_true rfl⟩ rfl rfl (fun _ => Nat.le_of_ble_eq_true rfl) (fun r15 m15 hx15 hr15 => ?_)
    change tg_AW E _ _ _ _ _ (ti_ r15 :: _) _
    refine ta_if_ne (tgt := 24) hE dX8_state_18 (by decide) (fun c18 => ?_) (fun c18 => ?_)
    · refine ta_aloadn hE dX8_state_24 rfl ?_
      refine ta_iloadn hE dX8_state_25 rfl ?_
      refine ta_iloadn hE dX8_state_26 rfl ?_
      refine ta_callV (C := RX8) (T := TX8) (st := []) hE dX8_state_27 (k_X8_runs a0 a1 m15) ml_X8_197 im_X8_runs se_X8_runs in_X8 co_X8_runs hy_X8_runs ⟨Nat.le_of_ble_eq_true rfl, Nat.le_of_ble_eq_true rfl⟩ lm_0 rfl rfl rfl (fun _ => Nat.le_of_ble_eq_true rfl) (fun r27 m27 hx27 hr27 => ?_)
      change tg_AW E _ _ _ _ _ (ti_ r27 :: _) _
      refine ta_pop hE dX8_state_30 (fun _ => rfl) ?_
      refine ta_aloadn hE dX8_state_31 rfl ?_
      refine ta_iloadn hE dX8_state_32 rfl ?_
      refine ta_callV (C := RX8) (T := TX8) (st := []) hE dX8_state_33 (k_X8_stateNow a2 m27) ml_X8_209 im_X8_stateNow se_X8_stateNow in_X8 co_X8_stateNow hy_X8_stateNow ⟨Nat.le_of_ble_eq_true rfl, Nat.le_of_ble_eq_true rfl⟩ lm_0 rfl rfl rfl (fun _ => Nat.le_of_ble_eq_true rfl) (fun r33 m33 hx33 hr33 => ?_)
      change tg_AW E _ _ _ _ _ (ti_ r33 :: _) _
      exact ta_iret hE dX8_state_36
    · refine bp_n2 hE dX8_state_21 ?_
      exact ta_iret hE dX8_state_23
noncomputable def f_X8_rope (a0 : Int) (a1 : Int) (a2 : Int) (m : tg_Mem) : tg_R :=
  tg_bd (f_X8_isSo a0 a1 m) (fun r3 m3 =>
    if r3 = 0 then
      some ((-2), m3)
    else
      if 0 ≤ a2 then
        tg_bd (f_X8_runs a0 a1 m3) (fun _ m19 =>
          if m19 0 15 ≤ a2 then
            some ((-1), m19)
          else
            tg_ck (0 ≤ a2 ∧ a2 < 64) (
              some (m19 12 (a2).toNat, m19)))
      else
        some ((-2), m3))
theorem hy_X8_rope : yX8_rope.cls = RX8 ∧ yX8_rope.cls ≠ "java/lang/invoke/MethodHandle" ∧ yX8_rope.cls ≠ "java/lang/invoke/VarHandle" ∧ (parseMethodDescriptor yX8_rope.desc).map (fun q => q.parameters.length) = some 3 := by decide +kernel
set_option maxRecDepth 100000 in
set_option maxHeartbeats 4000000 in
theorem k_X8_rope   (a0 : Int) (a1 : Int) (a2 : Int) (m : tg_Mem) : tg_C yX8_rope cX8_rope 4 (some .int) 7 LM [tr_ 0, ti_ a0, ti_ a1, ti_ a2] (f_X8_rope a0 a1 a2 m) m := by
  refine ta_enter2 (own := RX8) (by decide +kernel) rfl rfl (Nat.le_of_ble_eq_true rfl) rfl (fun E hE => ?_)
  unfold f_X8_rope
  refine ta_aloadn hE dX8_rope_0 rfl ?_
  refine ta_iloadn hE dX8_rope_1 rfl ?_
  refine ta_iloadn hE dX8_rope_2 rfl ?_
  refine ta_callV (C := RX8) (T := TX8) (st := []) hE dX8_rope_3 (k_X8_isSo a0 a1 m) ml_X8_206 im_X8_isSo se_X8_isSo in_X8 co_X8_isSo hy_X8_isSo ⟨Nat.le_of_ble_eq_true rfl, Nat.le_of_ble_eq_true rfl⟩ lm_0 rfl rfl rfl (fun _ => Nat.le_of_ble_eq_true rfl) (fun r3 m3 hx3 hr3 => ?_)
  change tg_AW E _ _ _ _ _ (ti_ r3 :: _) _
  refine ta_if_eq (tgt := 13) hE dX8_rope_6 (by decide) (fun c6 => ?_) (fun c6 => ?_)
  · refine bp_n2 hE dX8_rope_13 ?_
    exact ta_iret hE dX8_rope_15
  · refine ta_iloadn hE dX8_rope_9 rfl ?_
    refine ta_if_ge (tgt := 16) hE dX8_rope_10 (by decide) (fun c10 => ?_) (fun c10 => ?_)
    · refine ta_aloadn hE dX8_rope_16 rfl ?_
      refine ta_iloadn hE dX8_rope_17 rfl ?_
      refine ta_iloadn hE dX8_rope_18 rfl ?_
      refine ta_callV (C := RX8) (T := TX8) (st := []) hE dX8_rope_19 (k_X8_runs a0 a1 m3) ml_X8_197 im_X8_runs se_X8_runs in_X8 co_X8_runs hy_X8_runs ⟨Nat.le_of_ble_eq_true rfl, Nat.le_of_ble_eq_true rfl⟩ lm_0 rfl rfl rfl (fun _ => Nat.le_of_ble_eq_true rfl) (fun r19 m19 hx19 hr19 => ?_)
      change tg_AW E _ _ _ _ _ (ti_ r19 :: _) _
      refine ta_pop hE dX8_rope_22 (fun _ => rfl) ?_
      refine ta_iloadn hE dX8_rope_23 rfl ?_
      refine ta_aloadn hE dX8_rope_24 rfl ?_
      refine gf_X8_150 hE dX8_rope_25 lm_0 rfl ?_
      refine ta_icmp_ge (tgt := 40) hE dX8_rope_28 (by decide) (fun c28 => ?_) (fun c28 => ?_)
      · refine ta_iconst (v := (-1)) hE dX8_rope_40 rfl ⟨by decide, by decide⟩ ?_
        exact ta_iret hE dX8_rope_41
      · refine ta_aloadn hE dX8_rope_31 rfl ?_
        refine gr_X8_43 hE dX8_rope_32 lm_0 rfl ?_
        refine ta_iloadn hE dX8_rope_35 rfl ?_
        refine ta_iald (n' := 64) hE dX8_rope_36 lm_12 rfl (fun _ _ => ?_)
        refine ta_goto (tgt := 41) hE dX8_rope_37 (by decide) ?_
        exact ta_iret hE dX8_rope_41
    · refine bp_n2 hE dX8_rope_13 ?_
      exact ta_iret hE dX8_rope_15
noncomputable def f_X8_needsOf_B9 (a0 : Int) (self9 : Int → Int → tg_Mem → tg_R) (v2_9 : Int) (v3_9 : Int) (m_9 : tg_Mem) : tg_R :=
  tg_ck (0 ≤ tg_wi (1 + a0) ∧ tg_wi (1 + a0) < 3) (
    if m_9 6 (tg_wi (1 + a0)).toNat ≤ v3_9 then
      some (v2_9, m_9)
    else
      tg_bd (f_X8_stepOf a0 v3_9 m_9) (fun r24 m24 =>
        if r24 = (-1) then
          some (v2_9, m24)
        else
          tg_bd (f_X8_stepOf a0 v3_9 m24) (fun r34 m34 =>
            tg_bd (f_X8_goes (tg_idiv r34 8) (tg_irem r34 8) m34) (fun _ m50 =>
              tg_jn (γ := Int → tg_R) (fun (s0_69 : Int) => tg_lt (tg_wi (v3_9 + 1)) (fun v3_70 =>
                self9 s0_69 v3_70 m50)) (fun j69 =>
                if m50 0 16 ≤ v2_9 then
                  j69 v2_9
                else
                  j69 (m50 0 16))))))
noncomputable def f_X8_needsOf (a0 : Int) (m : tg_Mem) : tg_R :=
  tg_bd (f_X8_begins a0 m) (fun _ m2 =>
    tg_fx (γ := Int → Int → tg_Mem → tg_R) (f_X8_needsOf_B9 a0) (fun _ _ _ => none) tg_FU 0 0 m2)
theorem hy_X8_needsOf : yX8_needsOf.cls = RX8 ∧ yX8_needsOf.cls ≠ "java/lang/invoke/MethodHandle" ∧ yX8_needsOf.cls ≠ "java/lang/invoke/VarHandle" ∧ (parseMethodDescriptor yX8_needsOf.desc).map (fun q => q.parameters.length) = some 1 := by decide +kernel
set_option maxRecDepth 100000 in
set_option maxHeartbeats 4000000 in
theorem k_X8_needsOf   (a0 : Int) (m : tg_Mem) : tg_C yX8_needsOf cX8_needsOf 5 (some .int) 3 LM [tr_ 0, ti_ a0] (f_X8_needsOf a0 m) m := by
  refine ta_enter2 (own := RX8) (by decide +kernel) rfl rfl (Nat.le_of_ble_eq_true rfl) rfl (fun E hE => ?_)
  unfold f_X8_needsOf
  refine ta_aloadn hE dX8_needsOf_0 rfl ?_
  refine ta_iloadn hE dX8_needsOf_1 rfl ?_
  refine ta_callV (C := RX8) (T := TX8) (st := []) hE dX8_needsOf_2 (k_X8_begins a0 m) ml_X8_184 im_X8_begins se_X8_begins in_X8 co_X8_begins hy_X8_begins ⟨Nat.le_of_ble_eq_true rfl, Nat.le_of_ble_eq_true rfl⟩ lm_0 rfl rfl rfl (fun _ => Nat.le_of_ble_eq_true rfl) (fun r2 m2 hx2 hr2 => ?_)
  change tg_AW E _ _ _ _ _ [] _
  refine ta_iconst (v := 0) hE dX8_needsOf_5 rfl ⟨by decide, by decide⟩ ?_
  refine ta_istoren (lv2 := [tr_ 0, ti_ a0, ti_ 0, tj_, tj_]) hE dX8_needsOf_6 (Nat.le_of_ble_eq_true rfl) rfl rfl ?_
  refine ta_iconst (v := 0) hE dX8_needsOf_7 rfl ⟨by decide, by decide⟩ ?_
  refine ta_istoren (lv2 := [tr_ 0, ti_ a0, ti_ 0, ti_ 0, tj_]) hE dX8_needsOf_8 (Nat.le_of_ble_eq_true rfl) rfl rfl ?_
  have hl9 := ta_fx (γ := Int → Int → tg_Mem → tg_R) (F := (f_X8_needsOf_B9 a0)) (z := (fun _ _ _ => none)) (fun J => ∀ (v2_9 : Int) (v3_9 : Int) (m_9 : tg_Mem), tg_AW E LM (some .int) (J v2_9 v3_9 m_9) 9 [tr_ 0, ti_ a0, ti_ v2_9, ti_ v3_9, tj_] [] m_9) (by intros; exact ta_none) (fun self9 hself9 => by
      intro v2_9 v3_9 m_9
      unfold f_X8_needsOf_B9
      refine ta_iloadn hE dX8_needsOf_9 rfl ?_
      refine ta_aloadn hE dX8_needsOf_10 rfl ?_
      refine gr_X8_25 hE dX8_needsOf_11 lm_0 rfl ?_
      refine ta_iconst (v := 1) hE dX8_needsOf_14 rfl ⟨by decide, by decide⟩ ?_
      refine ta_iloadn hE dX8_needsOf_15 rfl ?_
      refine ta_iadd hE dX8_needsOf_16 ?_
      refine ta_iald (n' := 3) hE dX8_needsOf_17 lm_6 rfl (fun _ _ => ?_)
      refine ta_icmp_ge (tgt := 76) hE dX8_needsOf_18 (by decide) (fun c18 => ?_) (fun c18 => ?_)
      · refine ta_iloadn hE dX8_needsOf_76 rfl ?_
        exact ta_iret hE dX8_needsOf_77
      · refine ta_aloadn hE dX8_needsOf_21 rfl ?_
        refine ta_iloadn hE dX8_needsOf_22 rfl ?_
        refine ta_iloadn hE dX8_needsOf_23 rfl ?_
        refine ta_callV (C := RX8) (T := TX8) (st := []) hE dX8_needsOf_24 (k_X8_stepOf a0 v3_9 m_9) ml_X8_188 im_X8_stepOf se_X8_stepOf in_X8 co_X8_stepOf hy_X8_stepOf ⟨Nat.le_of_ble_eq_true rfl, Nat.le_of_ble_eq_true rfl⟩ lm_0 rfl rfl rfl (fun _ => Nat.le_of_ble_eq_true rfl) (fun r24 m24 hx24 hr24 => ?_)
        change tg_AW E _ _ _ _ _ (ti_ r24 :: _) _
        refine ta_iconst (v := (-1)) hE dX8_needsOf_27 rfl ⟨by decide, by decide⟩ ?_
        refine ta_icmp_eq (tgt := 76) hE dX8_needsOf_28 (by decide) (fun c28 => ?_) (fun c28 => ?_)
        · refine ta_iloadn hE dX8_needsOf_76 rfl ?_
          exact ta_iret hE dX8_needsOf_77
        · refine ta_aloadn hE dX8_needsOf_31 rfl ?_
          refine ta_iloadn hE dX8_needsOf_32 rfl ?_
          refine ta_iloadn hE dX8_needsOf_33 rfl ?_
          refine ta_callV (C := RX8) (T := TX8) (st := []) hE dX8_needsOf_34 (k_X8_stepOf a0 v3_9 m24) ml_X8_188 im_X8_stepOf se_X8_stepOf in_X8 co_X8_stepOf hy_X8_stepOf ⟨Nat.le_of_ble_eq_true rfl, Nat.le_of_ble_eq_true rfl⟩ lm_0 rfl rfl rfl (fun _ => Nat.le_of_ble_eq_true rfl) (fun r34 m34 hx34 hr34 => ?_)
          change tg_AW E _ _ _ _ _ (ti_ r34 :: _) _
          refine ta_istore (lv2 := [tr_ 0, ti_ a0, ti_ v2_9, ti_ v3_9, ti_ r34]) hE dX8_needsOf_37 (Nat.le_of_ble_eq_true rfl) rfl rfl ?_
          refine ta_aloadn hE dX8_needsOf_39 rfl ?_
          refine ta_iload hE dX8_needsOf_40 rfl ?_
          refine bp_8 hE dX8_needsOf_42 ?_
          refine ta_idiv hE dX8_needsOf_44 (by decide +kernel) ?_
          refine ta_iload hE dX8_needsOf_45 rfl ?_
          refine bp_8 hE dX8_needsOf_47 ?_
          refine ta_irem hE dX8_needsOf_49 (by decide +kernel) ?_
          refine ta_callV (C := RX8) (T := TX8) (st := []) hE dX8_needsOf_50 (k_X8_goes (tg_idiv r34 8) (tg_irem r34 8) m34) ml_X8_180 im_X8_goes se_X8_goes in_X8 co_X8_goes hy_X8_goes ⟨Nat.le_of_ble_eq_true rfl, Nat.le_of_ble_eq_true rfl⟩ lm_0 rfl rfl rfl (fun _ => Nat.le_of_ble_eq_true rfl) (fun r50 m50 hx50 hr50 => ?_)
          change tg_AW E _ _ _ _ _ [] _
          refine ta_aloadn hE dX8_needsOf_53 rfl ?_
          refine gf_X8_159 hE dX8_needsOf_54 lm_0 rfl ?_
          refine ta_iloadn hE dX8_needsOf_57 rfl ?_
          refine ta_join (γ := Int → tg_R) (fun J => ∀ (s0_69 : Int), tg_AW E LM (some .int) (J s0_69) 69 [tr_ 0, ti_ a0, tj_, ti_ v3_9, tj_] [ti_ s0_69] m50) ?_ (fun j69 hj69 => ?_)
          · intro s0_69
            refine ta_istoren (lv2 := [tr_ 0, ti_ a0, ti_ s0_69, ti_ v3_9, tj_]) hE dX8_needsOf_69 (Nat.le_of_ble_eq_true rfl) rfl rfl ?_
            refine ta_iincn (lv2 := fun v3_70 => [tr_ 0, ti_ a0, ti_ s0_69, ti_ v3_70, tj_]) hE dX8_needsOf_70 rfl rfl rfl (fun v3_70 => ?_)
            refine ta_goto (tgt := 9) hE dX8_needsOf_73 (by decide) ?_
            exact (hself9 s0_69 v3_70 m50)
          · refine ta_icmp_le (tgt := 68) hE dX8_needsOf_58 (by decide) (fun c58 => ?_) (fun c58 => ?_)
            · refine ta_iloadn hE dX8_needsOf_68 rfl ?_
              exact (ta_wk (i := 2) (lv2 := [tr_ 0, ti_ a0, tj_, ti_ v3_9, ti_ r34]) rfl (ta_wk (i := 4) (lv2 := [tr_ 0, ti_ a0, tj_, ti_ v3_9, tj_]) rfl (hj69 v2_9)))
            · refine ta_aloadn hE dX8_needsOf_61 rfl ?_
              refine gf_X8_159 hE dX8_needsOf_62 lm_0 rfl ?_
              refine ta_goto (tgt := 69) hE dX8_needsOf_65 (by decide) ?_
              exact (ta_wk (i := 2) (lv2 := [tr_ 0, ti_ a0, tj_, ti_ v3_9, ti_ r34]) rfl (ta_wk (i := 4) (lv2 := [tr_ 0, ti_ a0, tj_, ti_ v3_9, tj_]) rfl (hj69 (m50 0 16)))))
  exact (hl9 tg_FU 0 0 m2)
noncomputable def f_X8_needs (a0 : Int) (m : tg_Mem) : tg_R :=
  tg_bd (f_X8_reads  m) (fun _ m1 =>
    tg_bd (f_X8_isTwo a0 m1) (fun r6 m6 =>
      if r6 = 0 then
        some ((-2), m6)
      else
        tg_bd (f_X8_needsOf a0 m6) (fun r14 m14 =>
          some (r14, m14))))
theorem hy_X8_needs : yX8_needs.cls = RX8 ∧ yX8_needs.cls ≠ "java/lang/invoke/MethodHandle" ∧ yX8_needs.cls ≠ "java/lang/invoke/VarHandle" ∧ (parseMethodDescriptor yX8_needs.desc).map (fun q => q.parameters.length) = some 1 := by decide +kernel
set_option maxRecDepth 100000 in
set_option maxHeartbeats 4000000 in
theorem k_X8_needs   (a0 : Int) (m : tg_Mem) : tg_C yX8_needs cX8_needs 2 (some .int) 4 LM [tr_ 0, ti_ a0] (f_X8_needs a0 m) m := by
  refine ta_enter2 (own := RX8) (by decide +kernel) rfl rfl (Nat.le_of_ble_eq_true rfl) rfl (fun E hE => ?_)
  unfold f_X8_needs
  refine ta_aloadn hE dX8_needs_0 rfl ?_
  refine ta_callV (C := RX8) (T := TX8) (st := []) hE dX8_needs_1 (k_X8_reads m) ml_X8_129 im_X8_reads se_X8_reads in_X8 co_X8_reads hy_X8_reads ⟨Nat.le_of_ble_eq_true rfl, Nat.le_of_ble_eq_true rfl⟩ lm_0 rfl rfl rfl (fun _ => Nat.le_of_ble_eq_true rfl) (fun r1 m1 hx1 hr1 => ?_)
  change tg_AW E _ _ _ _ _ (ti_ r1 :: _) _
  refine ta_pop hE dX8_needs_4 (fun _ => rfl) ?_
  refine ta_iloadn hE dX8_needs_5 rfl ?_
  refine ta_callS (st := []) hE dX8_needs_6 (k_X8_isTwo a0 m1) ml_X8_135 st_X8_isTwo in_X8 co_X8_isTwo hy_X8_isTwo.2 ⟨Nat.le_of_ble_eq_true rfl, Nat.le_of_ble_eq_true rfl⟩ rfl rfl (fun _ => Nat.le_of_ble_eq_true rfl) (fun r6 m6 hx6 hr6 => ?_)
  change tg_AW E _ _ _ _ _ (ti_ r6 :: _) _
  refine ta_if_eq (tgt := 20) hE dX8_needs_9 (by decide) (fun c9 => ?_) (fun c9 => ?_)
  · refine bp_n2 hE dX8_needs_20 ?_
    exact ta_iret hE dX8_needs_22
  · refine ta_aloadn hE dX8_needs_12 rfl ?_
    refine ta_iloadn hE dX8_needs_13 rfl ?_
    refine ta_callV (C := RX8) (T := TX8) (st := []) hE dX8_needs_14 (k_X8_needsOf a0 m6) ml_X8_212 im_X8_needsOf se_X8_needsOf in_X8 co_X8_needsOf hy_X8_needsOf ⟨Nat.le_of_ble_eq_true rfl, Nat.le_of_ble_eq_true rfl⟩ lm_0 rfl rfl rfl (fun _ => Nat.le_of_ble_eq_true rfl) (fun r14 m14 hx14 hr14 => ?_)
    change tg_AW E _ _ _ _ _ (ti_ r14 :: _) _
    refine ta_goto (tgt := 22) hE dX8_needs_17 (by decide) ?_
    exact ta_iret hE dX8_needs_22
noncomputable def f_X8_comesTo_B39 (a0 : Int) (j113 : Int → tg_Mem → tg_R) (self39 : Int → Int → tg_Mem → tg_R) (v3_39 : Int) (v4_39 : Int) (m_39 : tg_Mem) : tg_R :=
  if m_39 0 15 ≤ v4_39 then
    j113 v3_39 m_39
  else
    tg_ck (0 ≤ v4_39 ∧ v4_39 < 64) (
      tg_lt (tg_up m_39 12 (v4_39).toNat (tg_l2i (tg_land (tg_lshr a0 (tg_wi (8 + (tg_wi (3 * v4_39))))) 7))) (fun m68 =>
        tg_ck (0 ≤ v4_39 ∧ v4_39 < 64) (
          tg_bd (f_X8_otherEnd (m68 12 (v4_39).toNat) v3_39 m68) (fun r78 m78 =>
            tg_ck (0 ≤ v4_39 ∧ v4_39 < 64) (
              tg_ck (0 ≤ tg_wi ((tg_wi (3 * (m78 12 (v4_39).toNat))) + 2) ∧ tg_wi ((tg_wi (3 * (m78 12 (v4_39).toNat))) + 2) < 24) (
                tg_lt (tg_up m78 0 16 (tg_wi ((m78 0 16) + (m78 7 (tg_wi ((tg_wi (3 * (m78 12 (v4_39).toNat))) + 2)).toNat)))) (fun m104 =>
                  tg_lt (tg_wi (v4_39 + 1)) (fun v4_107 =>
                    self39 r78 v4_107 m104))))))))
noncomputable def f_X8_comesTo (a0 : Int) (m : tg_Mem) : tg_R :=
  tg_ck (0 ≤ 0 ∧ 0 < 2) (
    tg_lt (tg_up m 11 0 (tg_l2i (tg_land a0 7))) (fun m11 =>
      tg_lt (tg_up m11 0 15 (tg_l2i (tg_land (tg_lshr a0 3) 31))) (fun m21 =>
        tg_ck (0 ≤ 0 ∧ 0 < 2) (
          tg_lt (m21 11 0) (fun v3_30 =>
            tg_lt (tg_up m21 0 16 0) (fun m33 =>
              tg_jn (γ := Int → tg_Mem → tg_R) (fun (v3_113 : Int) (m_113 : tg_Mem) => tg_ck (0 ≤ 1 ∧ 1 < 2) (
                tg_lt (tg_up m_113 11 1 v3_113) (fun m119 =>
                  some (0, m119)))) (fun j113 =>
                tg_fx (γ := Int → Int → tg_Mem → tg_R) (f_X8_comesTo_B39 a0 j113) (fun _ _ _ => none) tg_FU v3_30 0 m33)))))))
theorem hy_X8_comesTo : yX8_comesTo.cls = RX8 ∧ yX8_comesTo.cls ≠ "java/lang/invoke/MethodHandle" ∧ yX8_comesTo.cls ≠ "java/lang/invoke/VarHandle" ∧ (parseMethodDescriptor yX8_comesTo.desc).map (fun q => q.parameters.length) = some 1 := by decide +kernel
set_option maxRecDepth 100000 in
set_option maxHeartbeats 4000000 in
theorem k_X8_comesTo   (a0 : Int) (m : tg_Mem) : tg_C yX8_comesTo cX8_comesTo 5 none 2 LM [tr_ 0, tl_ a0] (f_X8_comesTo a0 m) m := by
  refine ta_enter2 (own := RX8) (by decide +kernel) rfl rfl (Nat.le_of_ble_eq_true rfl) rfl (fun E hE => ?_)
  unfold f_X8_comesTo
  refine ta_aloadn hE dX8_comesTo_0 rfl ?_
  refine gr_X8_40 hE dX8_comesTo_1 lm_0 rfl ?_
  refine ta_iconst (v := 0) hE dX8_comesTo_4 rfl ⟨by decide, by decide⟩ ?_
  refine ta_lloadn hE dX8_comesTo_5 rfl ?_
  refine ta_ldc2 (v := 7) hE dX8_comesTo_6 lc_X8_118 ⟨by decide, by decide⟩ ?_
  refine ta_land hE dX8_comesTo_9 ?_
  refine ta_l2i hE dX8_comesTo_10 ?_
  refine ta_iast (n' := 2) hE dX8_comesTo_11 lm_11 rfl (fun _ _ => ?_)
  refine ta_nmm (fun m11 => ?_)
  refine ta_aloadn hE dX8_comesTo_12 rfl ?_
  refine ta_lloadn hE dX8_comesTo_13 rfl ?_
  refine ta_iconst (v := 3) hE dX8_comesTo_14 rfl ⟨by decide, by decide⟩ ?_
  refine ta_lshr' hE dX8_comesTo_15 ?_
  refine ta_ldc2 (v := 31) hE dX8_comesTo_16 lc_X8_215 ⟨by decide, by decide⟩ ?_
  refine ta_land hE dX8_comesTo_19 ?_
  refine ta_l2i hE dX8_comesTo_20 ?_
  refine pf_X8_150 hE dX8_comesTo_21 lm_0 rfl ?_
  refine ta_nmm (fun m21 => ?_)
  refine ta_aloadn hE dX8_comesTo_24 rfl ?_
  refine gr_X8_40 hE dX8_comesTo_25 lm_0 rfl ?_
  refine ta_iconst (v := 0) hE dX8_comesTo_28 rfl ⟨by decide, by decide⟩ ?_
  refine ta_iald (n' := 2) hE dX8_comesTo_29 lm_11 rfl (fun _ _ => ?_)
  refine ta_nmi (fun v3_30 => ?_)
  refine ta_istoren (lv2 := [tr_ 0, tl_ a0, tj_, ti_ v3_30, tj_]) hE dX8_comesTo_30 (Nat.le_of_ble_eq_true rfl) rfl rfl ?_
  refine ta_aloadn hE dX8_comesTo_31 rfl ?_
  refine ta_iconst (v := 0) hE dX8_comesTo_32 rfl ⟨by decide, by decide⟩ ?_
  refine pf_X8_159 hE dX8_comesTo_33 lm_0 rfl ?_
  refine ta_nmm (fun m33 => ?_)
  refine ta_iconst (v := 0) hE dX8_comesTo_36 rfl ⟨by decide, by decide⟩ ?_
  refine ta_istore (lv2 := [tr_ 0, tl_ a0, tj_, ti_ v3_30, ti_ 0]) hE dX8_comesTo_37 (Nat.le_of_ble_eq_true rfl) rfl rfl ?_
  refine ta_join (γ := Int → tg_Mem → tg_R) (fun J => ∀ (v3_113 : Int) (m_113 : tg_Mem), tg_AW E LM none (J v3_113 m_113) 113 [tr_ 0, tj_, tj_, ti_ v3_113, tj_] [] m_113) ?_ (fun j113 hj113 => ?_)
  · intro v3_113 m_113
    refine ta_aloadn hE dX8_comesTo_113 rfl ?_
    refine gr_X8_40 hE dX8_comesTo_114 lm_0 rfl ?_
    refine ta_iconst (v := 1) hE dX8_comesTo_117 rfl ⟨by decide, by decide⟩ ?_
    refine ta_iloadn hE dX8_comesTo_118 rfl ?_
    refine ta_iast (n' := 2) hE dX8_comesTo_119 lm_11 rfl (fun _ _ => ?_)
    refine ta_nmm (fun m119 => ?_)
    exact ta_vret hE dX8_comesTo_120
  · have hl39 := ta_fx (γ := Int → Int → tg_Mem → tg_R) (F := (f_X8_comesTo_B39 a0 j113)) (z := (fun _ _ _ => none)) (fun J => ∀ (v3_39 : Int) (v4_39 : Int) (m_39 : tg_Mem), tg_AW E LM none (J v3_39 v4_39 m_39) 39 [tr_ 0, tl_ a0, tj_, ti_ v3_39, ti_ v4_39] [] m_39) (by intros; exact ta_none) (fun self39 hself39 => by
        intro v3_39 v4_39 m_39
        unfold f_X8_comesTo_B39
        refine ta_iload hE dX8_comesTo_39 rfl ?_
        refine ta_aloadn hE dX8_comesTo_41 rfl ?_
        refine gf_X8_150 hE dX8_comesTo_42 lm_0 rfl ?_
        refine ta_icmp_ge (tgt := 113) hE dX8_comesTo_45 (by decide) (fun c45 => ?_) (fun c45 => ?_)
        · exact (ta_wk (i := 1) (lv2 := [tr_ 0, tj_, tj_, ti_ v3_39, ti_ v4_39]) rfl (ta_wk (i := 4) (lv2 := [tr_ 0, tj_, tj_, ti_ v3_39, tj_]) rfl (hj113 v3_39 m_39)))
        · refine ta_aloadn hE dX8_comesTo_48 rfl ?_
          refine gr_X8_43 hE dX8_comesTo_49 lm_0 rfl ?_
          refine ta_iload hE dX8_comesTo_52 rfl ?_
          refine ta_lloadn hE dX8_comesTo_54 rfl ?_
          refine bp_8 hE dX8_comesTo_55 ?_
          refine ta_iconst (v := 3) hE dX8_comesTo_57 rfl ⟨by decide, by decide⟩ ?_
          refine ta_iload hE dX8_comesTo_58 rfl ?_
          refine ta_imul hE dX8_comesTo_60 ?_
          refine ta_iadd hE dX8_comesTo_61 ?_
          refine ta_lshr' hE dX8_comesTo_62 ?_
          refine ta_ldc2 (v := 7) hE dX8_comesTo_63 lc_X8_118 ⟨by decide, by decide⟩ ?_
          refine ta_land hE dX8_comesTo_66 ?_
          refine ta_l2i hE dX8_comesTo_67 ?_
          refine ta_iast (n' := 64) hE dX8_comesTo_68 lm_12 rfl (fun _ _ => ?_)
          refine ta_nmm (fun m68 => ?_)
          refine ta_aloadn hE dX8_comesTo_69 rfl ?_
          refine ta_aloadn hE dX8_comesTo_70 rfl ?_
          refine gr_X8_43 hE dX8_comesTo_71 lm_0 rfl ?_
          refine ta_iload hE dX8_comesTo_74 rfl ?_
          refine ta_iald (n' := 64) hE dX8_comesTo_76 lm_12 rfl (fun _ _ => ?_)
          refine ta_iloadn hE dX8_comesTo_77 rfl ?_
          refine ta_callV (C := RX8) (T := TX8) (st := []) hE dX8_comesTo_78 (k_X8_otherEnd (m68 12 (v4_39).toNat) v3_39 m68) ml_X8_156 im_X8_otherEnd se_X8_otherEnd in_X8 co_X8_otherEnd hy_X8_otherEnd ⟨Nat.le_of_ble_eq_true rfl, Nat.le_of_ble_eq_true rfl⟩ lm_0 rfl rfl rfl (fun _ => Nat.le_of_ble_eq_true rfl) (fun r78 m78 hx78 hr78 => ?_)
          change tg_AW E _ _ _ _ _ (ti_ r78 :: _) _
          refine ta_istoren (lv2 := [tr_ 0, tl_ a0, tj_, ti_ r78, ti_ v4_39]) hE dX8_comesTo_81 (Nat.le_of_ble_eq_true rfl) rfl rfl ?_
          refine ta_aloadn hE dX8_comesTo_82 rfl ?_
          refine ta_dup hE dX8_comesTo_83 (fun _ => rfl) ?_
          refine gf_X8_159 hE dX8_comesTo_84 lm_0 rfl ?_
          refine ta_aloadn hE dX8_comesTo_87 rfl ?_
          refine gr_X8_28 hE dX8_comesTo_88 lm_0 rfl ?_
          refine ta_iconst (v := 3) hE dX8_comesTo_91 rfl ⟨by decide, by decide⟩ ?_
          refine ta_aloadn hE dX8_comesTo_92 rfl ?_
          refine gr_X8_43 hE dX8_comesTo_93 lm_0 rfl ?_
          refine ta_iload hE dX8_comesTo_96 rfl ?_
          refine ta_iald (n' := 64) hE dX8_comesTo_98 lm_12 rfl (fun _ _ => ?_)
          refine ta_imul hE dX8_comesTo_99 ?_
          refine ta_iconst (v := 2) hE dX8_comesTo_100 rfl ⟨by decide, by decide⟩ ?_
          refine ta_iadd hE dX8_comesTo_101 ?_
          refine ta_iald (n' := 24) hE dX8_comesTo_102 lm_7 rfl (fun _ _ => ?_)
          refine ta_iadd hE dX8_comesTo_103 ?_
          refine pf_X8_159 hE dX8_comesTo_104 lm_0 rfl ?_
          refine ta_nmm (fun m104 => ?_)
          refine ta_iincn (lv2 := fun v4_107 => [tr_ 0, tl_ a0, tj_, ti_ r78, ti_ v4_107]) hE dX8_comesTo_107 rfl rfl rfl (fun v4_107 => ?_)
          refine ta_goto (tgt := 39) hE dX8_comesTo_110 (by decide) ?_
          exact (hself39 r78 v4_107 m104))
    exact (hl39 tg_FU v3_30 0 m33)
noncomputable def f_X8_keepsWay_B2 (a0 : Int) (m : tg_Mem) (j28 : tg_R) (self2 : Int → tg_R) (v3_2 : Int) : tg_R :=
  if m 0 21 ≤ v3_2 then
    j28
  else
    tg_ck (0 ≤ v3_2 ∧ v3_2 < 1024) (
      if m 15 (v3_2).toNat ≠ a0 then
        tg_lt (tg_wi (v3_2 + 1)) (fun v3_22 =>
          self2 v3_22)
      else
        some (0, m))
noncomputable def f_X8_keepsWay (a0 : Int) (m : tg_Mem) : tg_R :=
  tg_jn (γ := tg_R) (if 1000 < m 0 21 then
    some (0, m)
  else
    tg_ck (0 ≤ m 0 21 ∧ m 0 21 < 1024) (
      tg_lt (tg_up m 15 (m 0 21).toNat a0) (fun m47 =>
        tg_lt (tg_up m47 0 21 (tg_wi ((m47 0 21) + 1))) (fun m55 =>
          some (0, m55))))) (fun j28 =>
    tg_fx (γ := Int → tg_R) (f_X8_keepsWay_B2 a0 m j28) (fun _ => none) tg_FU 0)
theorem hy_X8_keepsWay : yX8_keepsWay.cls = RX8 ∧ yX8_keepsWay.cls ≠ "java/lang/invoke/MethodHandle" ∧ yX8_keepsWay.cls ≠ "java/lang/invoke/VarHandle" ∧ (parseMethodDescriptor yX8_keepsWay.desc).map (fun q => q.parameters.length) = some 1 := by decide +kernel
set_option maxRecDepth 100000 in
set_option maxHeartbeats 4000000 in
theorem k_X8_keepsWay   (a0 : Int) (m : tg_Mem) : tg_C yX8_keepsWay cX8_keepsWay 4 none 1 LM [tr_ 0, tl_ a0] (f_X8_keepsWay a0 m) m := by
  refine ta_enter2 (own := RX8) (by decide +kernel) rfl rfl (Nat.le_of_ble_eq_true rfl) rfl (fun E hE => ?_)
  unfold f_X8_keepsWay
  refine ta_iconst (v := 0) hE dX8_keepsWay_0 rfl ⟨by decide, by decide⟩ ?_
  refine ta_istoren (lv2 := [tr_ 0, tl_ a0, tj_, ti_ 0]) hE dX8_keepsWay_1 (Nat.le_of_ble_eq_true rfl) rfl rfl ?_
  refine ta_join (γ := tg_R) (fun J => tg_AW E LM none J 28 [tr_ 0, tl_ a0, tj_, tj_] [] m) ?_ (fun j28 hj28 => ?_)
  · refine ta_aloadn hE dX8_keepsWay_28 rfl ?_
    refine gf_X8_217 hE dX8_keepsWay_29 lm_0 rfl ?_
    refine sp_1000 hE dX8_keepsWay_32 ?_
    refine ta_icmp_gt (tgt := 58) hE dX8_keepsWay_35 (by decide) (fun c35 => ?_) (fun c35 => ?_)
    · exact ta_vret hE dX8_keepsWay_58
    · refine ta_aloadn hE dX8_keepsWay_38 rfl ?_
      refine gr_X8_52 hE dX8_keepsWay_39 lm_0 rfl ?_
      refine ta_aloadn hE dX8_keepsWay_42 rfl ?_
      refine gf_X8_217 hE dX8_keepsWay_43 lm_0 rfl ?_
      refine ta_lloadn hE dX8_keepsWay_46 rfl ?_
      refine ta_last (n' := 1024) hE dX8_keepsWay_47 lm_15 rfl (fun _ _ => ?_)
      refine ta_nmm (fun m47 => ?_)
      refine ta_aloadn hE dX8_keepsWay_48 rfl ?_
      refine ta_dup hE dX8_keepsWay_49 (fun _ => rfl) ?_
      refine gf_X8_217 hE dX8_keepsWay_50 lm_0 rfl ?_
      refine ta_iconst (v := 1) hE dX8_keepsWay_53 rfl ⟨by decide, by decide⟩ ?_
      refine ta_iadd hE dX8_keepsWay_54 ?_
      refine pf_X8_217 hE dX8_keepsWay_55 lm_0 rfl ?_
      refine ta_nmm (fun m55 => ?_)
      exact ta_vret hE dX8_keepsWay_58
  · have hl2 := ta_fx (γ := Int → tg_R) (F := (f_X8_keepsWay_B2 a0 m j28)) (z := (fun _ => none)) (fun J => ∀ (v3_2 : Int), tg_AW E LM none (J v3_2) 2 [tr_ 0, tl_ a0, tj_, ti_ v3_2] [] m) (by intros; exact ta_none) (fun self2 hself2 => by
        intro v3_2
        unfold f_X8_keepsWay_B2
        refine ta_iloadn hE dX8_keepsWay_2 rfl ?_
        refine ta_aloadn hE dX8_keepsWay_3 rfl ?_
        refine gf_X8_217 hE dX8_keepsWay_4 lm_0 rfl ?_
        refine ta_icmp_ge (tgt := 28) hE dX8_keepsWay_7 (by decide) (fun c7 => ?_) (fun c7 => ?_)
        · exact (ta_wk (i := 3) (lv2 := [tr_ 0, tl_ a0, tj_, tj_]) rfl hj28)
        · refine ta_aloadn hE dX8_keepsWay_10 rfl ?_
          refine gr_X8_52 hE dX8_keepsWay_11 lm_0 rfl ?_
          refine ta_iloadn hE dX8_keepsWay_14 rfl ?_
          refine ta_lald (n' := 1024) hE dX8_keepsWay_15 lm_15 rfl (fun _ _ => ?_)
          refine ta_lloadn hE dX8_keepsWay_16 rfl ?_
          refine ta_lcmp_ne (tgt := 22) hE dX8_keepsWay_17 dX8_keepsWay_18 (by decide) (fun c17 => ?_) (fun c17 => ?_)
          · refine ta_iincn (lv2 := fun v3_22 => [tr_ 0, tl_ a0, tj_, ti_ v3_22]) hE dX8_keepsWay_22 rfl rfl rfl (fun v3_22 => ?_)
            refine ta_goto (tgt := 2) hE dX8_keepsWay_25 (by decide) ?_
            exact (hself2 v3_22)
          · exact ta_vret hE dX8_keepsWay_21)
    exact (hl2 tg_FU 0)
noncomputable def f_X8_wayNow_B9 (m : tg_Mem) (j31 : Int → tg_R) (self9 : Int → Int → tg_R) (v1_9 : Int) (v3_9 : Int) : tg_R :=
  if v3_9 < 0 then
    j31 v1_9
  else
    tg_ck (0 ≤ v3_9 ∧ v3_9 < 64) (
      tg_lt (tg_lor (tg_lshl v1_9 3) (m 12 (v3_9).toNat)) (fun v1_24 =>
        tg_lt (tg_wi (v3_9 + (-1))) (fun v3_25 =>
          self9 v1_24 v3_25)))
noncomputable def f_X8_wayNow  (m : tg_Mem) : tg_R :=
  tg_lt (tg_wi ((m 0 15) - 1)) (fun v3_8 =>
    tg_jn (γ := Int → tg_R) (fun (v1_31 : Int) => tg_ck (0 ≤ 0 ∧ 0 < 2) (
      some (tg_lor (tg_lor (tg_lshl v1_31 8) (tg_ishl (m 0 15) 3)) (m 11 0), m))) (fun j31 =>
      tg_fx (γ := Int → Int → tg_R) (f_X8_wayNow_B9 m j31) (fun _ _ => none) tg_FU 0 v3_8))
theorem hy_X8_wayNow : yX8_wayNow.cls = RX8 ∧ yX8_wayNow.cls ≠ "java/lang/invoke/MethodHandle" ∧ yX8_wayNow.cls ≠ "java/lang/invoke/VarHandle" ∧ (parseMethodDescriptor yX8_wayNow.desc).map (fun q => q.parameters.length) = some 0 := by decide +kernel
set_option maxRecDepth 100000 in
set_option maxHeartbeats 4000000 in
theorem k_X8_wayNow    (m : tg_Mem) : tg_C yX8_wayNow cX8_wayNow 4 (some .long) 1 LM [tr_ 0] (f_X8_wayNow  m) m := by
  refine ta_enter2 (own := RX8) (by decide +kernel) rfl rfl (Nat.le_of_ble_eq_true rfl) rfl (fun E hE => ?_)
  unfold f_X8_wayNow
  refine ta_lconst (v := 0) hE dX8_wayNow_0 rfl ⟨by decide, by decide⟩ ?_
  refine ta_lstoren (lv2 := [tr_ 0, tl_ 0, tj_, tj_]) hE dX8_wayNow_1 (Nat.le_of_ble_eq_true rfl) rfl rfl ?_
  refine ta_aloadn hE dX8_wayNow_2 rfl ?_
  refine gf_X8_150 hE dX8_wayNow_3 lm_0 rfl ?_
  refine ta_iconst (v := 1) hE dX8_wayNow_6 rfl ⟨by decide, by decide⟩ ?_
  refine ta_isub hE dX8_wayNow_7 ?_
  refine ta_nmi (fun v3_8 => ?_)
  refine ta_istoren (lv2 := [tr_ 0, tl_ 0, tj_, ti_ v3_8]) hE dX8_wayNow_8 (Nat.le_of_ble_eq_true rfl) rfl rfl ?_
  refine ta_join (γ := Int → tg_R) (fun J => ∀ (v1_31 : Int), tg_AW E LM (some .long) (J v1_31) 31 [tr_ 0, tl_ v1_31, tj_, tj_] [] m) ?_ (fun j31 hj31 => ?_)
  · intro v1_31
    refine ta_lloadn hE dX8_wayNow_31 rfl ?_
    refine bp_8 hE dX8_wayNow_32 ?_
    refine ta_lshl' hE dX8_wayNow_34 ?_
    refine ta_aloadn hE dX8_wayNow_35 rfl ?_
    refine gf_X8_150 hE dX8_wayNow_36 lm_0 rfl ?_
    refine ta_iconst (v := 3) hE dX8_wayNow_39 rfl ⟨by decide, by decide⟩ ?_
    refine ta_ishl hE dX8_wayNow_40 ?_
    refine ta_i2l hE dX8_wayNow_41 ?_
    refine ta_lor hE dX8_wayNow_42 ?_
    refine ta_aloadn hE dX8_wayNow_43 rfl ?_
    refine gr_X8_40 hE dX8_wayNow_44 lm_0 rfl ?_
    refine ta_iconst (v := 0) hE dX8_wayNow_47 rfl ⟨by decide, by decide⟩ ?_
    refine ta_iald (n' := 2) hE dX8_wayNow_48 lm_11 rfl (fun _ _ => ?_)
    refine ta_i2l hE dX8_wayNow_49 ?_
    refine ta_lor hE dX8_wayNow_50 ?_
    exact ta_lret hE dX8_wayNow_51
  · have hl9 := ta_fx (γ := Int → Int → tg_R) (F := (f_X8_wayNow_B9 m j31)) (z := (fun _ _ => none)) (fun J => ∀ (v1_9 : Int) (v3_9 : Int), tg_AW E LM (some .long) (J v1_9 v3_9) 9 [tr_ 0, tl_ v1_9, tj_, ti_ v3_9] [] m) (by intros; exact ta_none) (fun self9 hself9 => by
        intro v1_9 v3_9
        unfold f_X8_wayNow_B9
        refine ta_iloadn hE dX8_wayNow_9 rfl ?_
        refine ta_if_lt (tgt := 31) hE dX8_wayNow_10 (by decide) (fun c10 => ?_) (fun c10 => ?_)
        · exact (ta_wk (i := 3) (lv2 := [tr_ 0, tl_ v1_9, tj_, tj_]) rfl (hj31 v1_9))
        · refine ta_lloadn hE dX8_wayNow_13 rfl ?_
          refine ta_iconst (v := 3) hE dX8_wayNow_14 rfl ⟨by decide, by decide⟩ ?_
          refine ta_lshl' hE dX8_wayNow_15 ?_
          refine ta_aloadn hE dX8_wayNow_16 rfl ?_
          refine gr_X8_43 hE dX8_wayNow_17 lm_0 rfl ?_
          refine ta_iloadn hE dX8_wayNow_20 rfl ?_
          refine ta_iald (n' := 64) hE dX8_wayNow_21 lm_12 rfl (fun _ _ => ?_)
          refine ta_i2l hE dX8_wayNow_22 ?_
          refine ta_lor hE dX8_wayNow_23 ?_
          refine ta_nml (fun v1_24 => ?_)
          refine ta_lstoren (lv2 := [tr_ 0, tl_ v1_24, tj_, ti_ v3_9]) hE dX8_wayNow_24 (Nat.le_of_ble_eq_true rfl) rfl rfl ?_
          refine ta_iincn (lv2 := fun v3_25 => [tr_ 0, tl_ v1_24, tj_, ti_ v3_25]) hE dX8_wayNow_25 rfl rfl rfl (fun v3_25 => ?_)
          refine ta_goto (tgt := 9) hE dX8_wayNow_28 (by decide) ?_
          exact (hself9 v1_24 v3_25))
    exact (hl9 tg_FU 0 v3_8)
noncomputable def f_X8_soonOf_B91 (a1 : Int) (a2 : Int) (v9_86 : Int) (j231 : Int → tg_Mem → tg_R) (self91 : Int → Int → tg_Mem → tg_R) (v7_91 : Int) (v11_91 : Int) (m_91 : tg_Mem) : tg_R :=
  if 16 ≤ v11_91 then
    j231 v7_91 m_91
  else
    tg_bd (f_X8_comesTo v9_86 m_91) (fun _ m101 =>
      tg_lt (tg_idiv v11_91 8) (fun v12_109 =>
        tg_jn (γ := Int → tg_Mem → tg_R) (fun (s0_167 : Int) (m_167 : tg_Mem) => tg_jn (γ := Int → tg_Mem → tg_R) (fun (v7_225 : Int) (m_225 : tg_Mem) => tg_lt (tg_wi (v11_91 + 1)) (fun v11_225 =>
          self91 v7_225 v11_225 m_225)) (fun j225 =>
          if s0_167 = 0 then
            j225 v7_91 m_167
          else
            tg_bd (f_X8_goes v12_109 (tg_irem v11_91 8) m_167) (fun _ m182 =>
              tg_jn (γ := Int → tg_R) (fun (s0_215 : Int) => tg_bd (f_X8_wayNow  m182) (fun r219 m219 =>
                tg_bd (f_X8_keepsWay r219 m219) (fun _ m222 =>
                  j225 s0_215 m222))) (fun j215 =>
                tg_jn (γ := tg_R) (j215 1) (fun j210 =>
                  if v7_91 ≠ 0 then
                    j210
                  else
                    tg_ck (0 ≤ 0 ∧ 0 < 2) (
                      tg_jn (γ := tg_R) (j215 0) (fun j214 =>
                        if m182 11 0 ≠ a1 then
                          j214
                        else
                          tg_ck (0 ≤ 1 ∧ 1 < 2) (
                            if m182 11 1 ≠ a2 then
                              j214
                            else
                              j210)))))))) (fun j167 =>
          tg_jn (γ := tg_Mem → tg_R) (fun (m_166 : tg_Mem) => j167 0 m_166) (fun j166 =>
            if m101 0 8 ≤ tg_irem v11_91 8 then
              j166 m101
            else
              tg_ck (0 ≤ v12_109 ∧ v12_109 < 2) (
                tg_bd (f_X8_touches (tg_irem v11_91 8) (m101 11 (v12_109).toNat) m101) (fun r136 m136 =>
                  if r136 = 0 then
                    j166 m136
                  else
                    tg_bd (f_X8_lengthBehind v12_109 (tg_irem v11_91 8) m136) (fun r150 m150 =>
                      tg_ck (0 ≤ 2 ∧ 2 < 3) (
                        if m150 9 2 < r150 then
                          j166 m150
                        else
                          j167 1 m150))))))))
noncomputable def f_X8_soonOf_B72 (a1 : Int) (a2 : Int) (v6_60 : Int) (j237 : Int → tg_Mem → tg_R) (self72 : Int → Int → tg_Mem → tg_R) (v7_72 : Int) (v8_72 : Int) (m_72 : tg_Mem) : tg_R :=
  if v6_60 ≤ v8_72 then
    j237 v7_72 m_72
  else
    tg_ck (0 ≤ v8_72 ∧ v8_72 < 1024) (
      tg_lt (m_72 15 (v8_72).toNat) (fun v9_86 =>
        tg_jn (γ := Int → tg_Mem → tg_R) (fun (v7_231 : Int) (m_231 : tg_Mem) => tg_lt (tg_wi (v8_72 + 1)) (fun v8_231 =>
          self72 v7_231 v8_231 m_231)) (fun j231 =>
          tg_fx (γ := Int → Int → tg_Mem → tg_R) (f_X8_soonOf_B91 a1 a2 v9_86 j231) (fun _ _ _ => none) tg_FU v7_72 0 m_72)))
noncomputable def f_X8_soonOf_B47 (a1 : Int) (a2 : Int) (self47 : Int → Int → tg_Mem → tg_R) (v4_47 : Int) (v5_47 : Int) (m_47 : tg_Mem) : tg_R :=
  if m_47 0 21 ≤ v4_47 then
    some ((-1), m_47)
  else
    tg_lt (m_47 0 21) (fun v6_60 =>
      tg_lt (tg_wi (v5_47 + 1)) (fun v5_65 =>
        tg_jn (γ := Int → tg_Mem → tg_R) (fun (v7_237 : Int) (m_237 : tg_Mem) => if v7_237 = 0 then
          if m_237 0 21 ≤ 1000 then
            self47 v6_60 v5_65 m_237
          else
            some ((-4), m_237)
        else
          some (v5_65, m_237)) (fun j237 =>
          tg_fx (γ := Int → Int → tg_Mem → tg_R) (f_X8_soonOf_B72 a1 a2 v6_60 j237) (fun _ _ _ => none) tg_FU 0 v4_47 m_47)))
noncomputable def f_X8_soonOf (a0 : Int) (a1 : Int) (a2 : Int) (m : tg_Mem) : tg_R :=
  tg_bd (f_X8_done a0 m) (fun _ m2 =>
    tg_ck (0 ≤ 0 ∧ 0 < 2) (
      tg_jn (γ := tg_R) (tg_lt (tg_up m2 0 21 0) (fun m30 =>
        tg_bd (f_X8_wayNow  m30) (fun r35 m35 =>
          tg_bd (f_X8_keepsWay r35 m35) (fun _ m38 =>
            tg_fx (γ := Int → Int → tg_Mem → tg_R) (f_X8_soonOf_B47 a1 a2) (fun _ _ _ => none) tg_FU 0 0 m38)))) (fun j28 =>
        if m2 11 0 ≠ a1 then
          j28
        else
          tg_ck (0 ≤ 1 ∧ 1 < 2) (
            if m2 11 1 ≠ a2 then
              j28
            else
              some (0, m2)))))
theorem hy_X8_soonOf : yX8_soonOf.cls = RX8 ∧ yX8_soonOf.cls ≠ "java/lang/invoke/MethodHandle" ∧ yX8_soonOf.cls ≠ "java/lang/invoke/VarHandle" ∧ (parseMethodDescriptor yX8_soonOf.desc).map (fun q => q.parameters.length) = some 3 := by decide +kernel
set_option maxRecDepth 100000 in
set_option maxHeartbeats 4000000 in
theorem k_X8_soonOf   (a0 : Int) (a1 : Int) (a2 : Int) (m : tg_Mem) : tg_C yX8_soonOf cX8_soonOf 14 (some .int) 6 LM [tr_ 0, ti_ a0, ti_ a1, ti_ a2] (f_X8_soonOf a0 a1 a2 m) m := by
  refine ta_enter2 (own := RX8) (by decide +kernel) rfl rfl (Nat.le_of_ble_eq_true rfl) rfl (fun E hE => ?_)
  unfold f_X8_soonOf
  refine ta_aloadn hE dX8_soonOf_0 rfl ?_
  refine ta_iloadn hE dX8_soonOf_1 rfl ?_
  refine ta_callV (C := RX8) (T := TX8) (st := []) hE dX8_soonOf_2 (k_X8_done a0 m) ml_X8_200 im_X8_done se_X8_done in_X8 co_X8_done hy_X8_done ⟨Nat.le_of_ble_eq_true rfl, Nat.le_of_ble_eq_true rfl⟩ lm_0 rfl rfl rfl (fun _ => Nat.le_of_ble_eq_true rfl) (fun r2 m2 hx2 hr2 => ?_)
  change tg_AW E _ _ _ _ _ (ti_ r2 :: _) _
  refine ta_pop hE dX8_soonOf_5 (fun _ => rfl) ?_
  refine ta_aloadn hE dX8_soonOf_6 rfl ?_
  refine gr_X8_40 hE dX8_soonOf_7 lm_0 rfl ?_
  refine ta_iconst (v := 0) hE dX8_soonOf_10 rfl ⟨by decide, by decide⟩ ?_
  refine ta_iald (n' := 2) hE dX8_soonOf_11 lm_11 rfl (fun _ _ => ?_)
  refine ta_iloadn hE dX8_soonOf_12 rfl ?_
  refine ta_join (γ := tg_R) (fun J => tg_AW E LM (some .int) J 28 [tr_ 0, tj_, ti_ a1, ti_ a2, tj_, tj_, tj_, tj_, tj_, tj_, tj_, tj_, tj_, tj_] [] m2) ?_ (fun j28 hj28 => ?_)
  · refine ta_aloadn hE dX8_soonOf_28 rfl ?_
    refine ta_iconst (v := 0) hE dX8_soonOf_29 rfl ⟨by decide, by decide⟩ ?_
    refine pf_X8_217 hE dX8_soonOf_30 lm_0 rfl ?_
    refine ta_nmm (fun m30 => ?_)
    refine ta_aloadn hE dX8_soonOf_33 rfl ?_
    refine ta_aloadn hE dX8_soonOf_34 rfl ?_
    refine ta_callV (C := RX8) (T := TX8) (st := [tr_ 0]) hE dX8_soonOf_35 (k_X8_wayNow m30) ml_X8_220 im_X8_wayNow se_X8_wayNow in_X8 co_X8_wayNow hy_X8_wayNow ⟨Nat.le_of_ble_eq_true rfl, Nat.le_of_ble_eq_true rfl⟩ lm_0 rfl rfl rfl (fun _ => Nat.le_of_ble_eq_true rfl) (fun r35 m35 hx35 hr35 => ?_)
    change tg_AW E _ _ _ _ _ (tl_ r35 :: _) _
    refine ta_callV (C := RX8) (T := TX8) (st := []) hE dX8_soonOf_38 (k_X8_keepsWay r35 m35) ml_X8_224 im_X8_keepsWay se_X8_keepsWay in_X8 co_X8_keepsWay hy_X8_keepsWay ⟨Nat.le_of_ble_eq_true rfl, Nat.le_of_ble_eq_true rfl⟩ lm_0 rfl rfl rfl (fun _ => Nat.le_of_ble_eq_true rfl) (fun r38 m38 hx38 hr38 => ?_)
    change tg_AW E _ _ _ _ _ [] _
    refine ta_iconst (v := 0) hE dX8_soonOf_41 rfl ⟨by decide, by decide⟩ ?_
    refine ta_istore (lv2 := [tr_ 0, tj_, ti_ a1, ti_ a2, ti_ 0, tj_, tj_, tj_, tj_, tj_, tj_, tj_, tj_, tj_]) hE dX8_soonOf_42 (Nat.le_of_ble_eq_true rfl) rfl rfl ?_
    refine ta_iconst (v := 0) hE dX8_soonOf_44 rfl ⟨by decide, by decide⟩ ?_
    refine ta_istore (lv2 := [tr_ 0, tj_, ti_ a1, ti_ a2, ti_ 0, ti_ 0, tj_, tj_, tj_, tj_, tj_, tj_, tj_, tj_]) hE dX8_soonOf_45 (Nat.le_of_ble_eq_true rfl) rfl rfl ?_
    have hl47 := ta_fx (γ := Int → Int → tg_Mem → tg_R) (F := (f_X8_soonOf_B47 a1 a2)) (z := (fun _ _ _ => none)) (fun J => ∀ (v4_47 : Int) (v5_47 : Int) (m_47 : tg_Mem), tg_AW E LM (some .int) (J v4_47 v5_47 m_47) 47 [tr_ 0, tj_, ti_ a1, ti_ a2, ti_ v4_47, ti_ v5_47, tj_, tj_, tj_, tj_, tj_, tj_, tj_, tj_] [] m_47) (by intros; exact ta_none) (fun self47 hself47 => by
        intro v4_47 v5_47 m_47
        unfold f_X8_soonOf_B47
        refine ta_iload hE dX8_soonOf_47 rfl ?_
        refine ta_aloadn hE dX8_soonOf_49 rfl ?_
        refine gf_X8_217 hE dX8_soonOf_50 lm_0 rfl ?_
        refine ta_icmp_ge (tgt := 265) hE dX8_soonOf_53 (by decide) (fun c53 => ?_) (fun c53 => ?_)
        · refine ta_iconst (v := (-1)) hE dX8_soonOf_265 rfl ⟨by decide, by decide⟩ ?_
          exact ta_iret hE dX8_soonOf_266
        · refine ta_aloadn hE dX8_soonOf_56 rfl ?_
          refine gf_X8_217 hE dX8_soonOf_57 lm_0 rfl ?_
          refine ta_nmi (fun v6_60 => ?_)
          refine ta_istore (lv2 := [tr_ 0, tj_, ti_ a1, ti_ a2, ti_ v4_47, ti_ v5_47, ti_ v6_60, tj_, tj_, tj_, tj_, tj_, tj_, tj_]) hE dX8_soonOf_60 (Nat.le_of_ble_eq_true rfl) rfl rfl ?_
          refine ta_iconst (v := 0) hE dX8_soonOf_62 rfl ⟨by decide, by decide⟩ ?_
          refine ta_istore (lv2 := [tr_ 0, tj_, ti_ a1, ti_ a2, ti_ v4_47, ti_ v5_47, ti_ v6_60, ti_ 0, tj_, tj_, tj_, tj_, tj_, tj_]) hE dX8_soonOf_63 (Nat.le_of_ble_eq_true rfl) rfl rfl ?_
          refine ta_iincn (lv2 := fun v5_65 => [tr_ 0, tj_, ti_ a1, ti_ a2, ti_ v4_47, ti_ v5_65, ti_ v6_60, ti_ 0, tj_, tj_, tj_, tj_, tj_, tj_]) hE dX8_soonOf_65 rfl rfl rfl (fun v5_65 => ?_)
          refine ta_iload hE dX8_soonOf_68 rfl ?_
          refine ta_istore (lv2 := [tr_ 0, tj_, ti_ a1, ti_ a2, ti_ v4_47, ti_ v5_65, ti_ v6_60, ti_ 0, ti_ v4_47, tj_, tj_, tj_, tj_, tj_]) hE dX8_soonOf_70 (Nat.le_of_ble_eq_true rfl) rfl rfl ?_
          refine ta_join (γ := Int → tg_Mem → tg_R) (fun J => ∀ (v7_237 : Int) (m_237 : tg_Mem), tg_AW E LM (some .int) (J v7_237 m_237) 237 [tr_ 0, tj_, ti_ a1, ti_ a2, tj_, ti_ v5_65, ti_ v6_60, ti_ v7_237, tj_, tj_, tj_, tj_, tj_, tj_] [] m_237) ?_ (fun j237 hj237 => ?_)
          · intro v7_237 m_237
            refine ta_iload hE dX8_soonOf_237 rfl ?_
            refine ta_if_eq (tgt := 245) hE dX8_soonOf_239 (by decide) (fun c239 => ?_) (fun c239 => ?_)
            · refine ta_aloadn hE dX8_soonOf_245 rfl ?_
              refine gf_X8_217 hE dX8_soonOf_246 lm_0 rfl ?_
              refine sp_1000 hE dX8_soonOf_249 ?_
              refine ta_icmp_le (tgt := 258) hE dX8_soonOf_252 (by decide) (fun c252 => ?_) (fun c252 => ?_)
              · refine ta_iload hE dX8_soonOf_258 rfl ?_
                refine ta_istore (lv2 := [tr_ 0, tj_, ti_ a1, ti_ a2, ti_ v6_60, ti_ v5_65, ti_ v6_60, ti_ v7_237, tj_, tj_, tj_, tj_, tj_, tj_]) hE dX8_soonOf_260 (Nat.le_of_ble_eq_true rfl) rfl rfl ?_
                refine ta_goto (tgt := 47) hE dX8_soonOf_262 (by decide) ?_
                exact (ta_wk (i := 6) (lv2 := [tr_ 0, tj_, ti_ a1, ti_ a2, ti_ v6_60, ti_ v5_65, tj_, ti_ v7_237, tj_, tj_, tj_, tj_, tj_, tj_]) rfl (ta_wk (i := 7) (lv2 := [tr_ 0, tj_, ti_ a1, ti_ a2, ti_ v6_60, ti_ v5_65, tj_, tj_, tj_, tj_, tj_, tj_, tj_, tj_]) rfl (hself47 v6_60 v5_65 m_237)))
              · refine bp_n4 hE dX8_soonOf_255 ?_
                exact ta_iret hE dX8_soonOf_257
            · refine ta_iload hE dX8_soonOf_242 rfl ?_
              exact ta_iret hE dX8_soonOf_244
          · have hl72 := ta_fx (γ := Int → Int → tg_Mem → tg_R) (F := (f_X8_soonOf_B72 a1 a2 v6_60 j237)) (z := (fun _ _ _ => none)) (fun J => ∀ (v7_72 : Int) (v8_72 : Int) (m_72 : tg_Mem), tg_AW E LM (some .int) (J v7_72 v8_72 m_72) 72 [tr_ 0, tj_, ti_ a1, ti_ a2, tj_, ti_ v5_65, ti_ v6_60, ti_ v7_72, ti_ v8_72, tj_, tj_, tj_, tj_, tj_] [] m_72) (by intros; exact ta_none) (fun self72 hself72 => by
                intro v7_72 v8_72 m_72
                unfold f_X8_soonOf_B72
                refine ta_iload hE dX8_soonOf_72 rfl ?_
                refine ta_iload hE dX8_soonOf_74 rfl ?_
                refine ta_icmp_ge (tgt := 237) hE dX8_soonOf_76 (by decide) (fun c76 => ?_) (fun c76 => ?_)
                · exact (ta_wk (i := 8) (lv2 := [tr_ 0, tj_, ti_ a1, ti_ a2, tj_, ti_ v5_65, ti_ v6_60, ti_ v7_72, tj_, tj_, tj_, tj_, tj_, tj_]) rfl (hj237 v7_72 m_72))
                · refine ta_aloadn hE dX8_soonOf_79 rfl ?_
                  refine gr_X8_52 hE dX8_soonOf_80 lm_0 rfl ?_
                  refine ta_iload hE dX8_soonOf_83 rfl ?_
                  refine ta_lald (n' := 1024) hE dX8_soonOf_85 lm_15 rfl (fun _ _ => ?_)
                  refine ta_nml (fun v9_86 => ?_)
                  refine ta_lstore (lv2 := [tr_ 0, tj_, ti_ a1, ti_ a2, tj_, ti_ v5_65, ti_ v6_60, ti_ v7_72, ti_ v8_72, tl_ v9_86, tj_, tj_, tj_, tj_]) hE dX8_soonOf_86 (Nat.le_of_ble_eq_true rfl) rfl rfl ?_
                  refine ta_iconst (v := 0) hE dX8_soonOf_88 rfl ⟨by decide, by decide⟩ ?_
                  refine ta_istore (lv2 := [tr_ 0, tj_, ti_ a1, ti_ a2, tj_, ti_ v5_65, ti_ v6_60, ti_ v7_72, ti_ v8_72, tl_ v9_86, tj_, ti_ 0, tj_, tj_]) hE dX8_soonOf_89 (Nat.le_of_ble_eq_true rfl) rfl rfl ?_
                  refine ta_join (γ := Int → tg_Mem → tg_R) (fun J => ∀ (v7_231 : Int) (m_231 : tg_Mem), tg_AW E LM (some .int) (J v7_231 m_231) 231 [tr_ 0, tj_, ti_ a1, ti_ a2, tj_, ti_ v5_65, ti_ v6_60, ti_ v7_231, ti_ v8_72, tj_, tj_, tj_, tj_, tj_] [] m_231) ?_ (fun j231 hj231 => ?_)
                  · intro v7_231 m_231
                    refine ta_iincn (lv2 := fun v8_231 => [tr_ 0, tj_, ti_ a1, ti_ a2, tj_, ti_ v5_65, ti_ v6_60, ti_ v7_231, ti_ v8_231, tj_, tj_, tj_, tj_, tj_]) hE dX8_soonOf_231 rfl rfl rfl (fun v8_231 => ?_)
                    refine ta_goto (tgt := 72) hE dX8_soonOf_234 (by decide) ?_
                    exact (hself72 v7_231 v8_231 m_231)
                  · have hl91 := ta_fx (γ := Int → Int → tg_Mem → tg_R) (F := (f_X8_soonOf_B91 a1 a2 v9_86 j231)) (z := (fun _ _ _ => none)) (fun J => ∀ (v7_91 : Int) (v11_91 : Int) (m_91 : tg_Mem), tg_AW E LM (some .int) (J v7_91 v11_91 m_91) 91 [tr_ 0, tj_, ti_ a1, ti_ a2, tj_, ti_ v5_65, ti_ v6_60, ti_ v7_91, ti_ v8_72, tl_ v9_86, tj_, ti_ v11_91, tj_, tj_] [] m_91) (by intros; exact ta_none) (fun self91 hself91 => by
                        intro v7_91 v11_91 m_91
                        unfold f_X8_soonOf_B91
                        refine ta_iload hE dX8_soonOf_91 rfl ?_
                        refine bp_16 hE dX8_soonOf_93 ?_
                        refine ta_icmp_ge (tgt := 231) hE dX8_soonOf_95 (by decide) (fun c95 => ?_) (fun c95 => ?_)
                        · exact (ta_wk (i := 9) (lv2 := [tr_ 0, tj_, ti_ a1, ti_ a2, tj_, ti_ v5_65, ti_ v6_60, ti_ v7_91, ti_ v8_72, tj_, tj_, ti_ v11_91, tj_, tj_]) rfl (ta_wk (i := 11) (lv2 := [tr_ 0, tj_, ti_ a1, ti_ a2, tj_, ti_ v5_65, ti_ v6_60, ti_ v7_91, ti_ v8_72, tj_, tj_, tj_, tj_, tj_]) rfl (hj231 v7_91 m_91)))
                        · refine ta_aloadn hE dX8_soonOf_98 rfl ?_
                          refine ta_lload hE dX8_soonOf_99 rfl ?_
                          refine ta_callV (C := RX8) (T := TX8) (st := []) hE dX8_soonOf_101 (k_X8_comesTo v9_86 m_91) ml_X8_228 im_X8_comesTo se_X8_comesTo in_X8 co_X8_comesTo hy_X8_comesTo ⟨Nat.le_of_ble_eq_true rfl, Nat.le_of_ble_eq_true rfl⟩ lm_0 rfl rfl rfl (fun _ => Nat.le_of_ble_eq_true rfl) (fun r101 m101 hx101 hr101 => ?_)
                          change tg_AW E _ _ _ _ _ [] _
                          refine ta_iload hE dX8_soonOf_104 rfl ?_
                          refine bp_8 hE dX8_soonOf_106 ?_
                          refine ta_idiv hE dX8_soonOf_108 (by decide +kernel) ?_
                          refine ta_nmi (fun v12_109 => ?_)
                          refine ta_istore (lv2 := [tr_ 0, tj_, ti_ a1, ti_ a2, tj_, ti_ v5_65, ti_ v6_60, ti_ v7_91, ti_ v8_72, tl_ v9_86, tj_, ti_ v11_91, ti_ v12_109, tj_]) hE dX8_soonOf_109 (Nat.le_of_ble_eq_true rfl) rfl rfl ?_
                          refine ta_iload hE dX8_soonOf_111 rfl ?_
                          refine bp_8 hE dX8_soonOf_113 ?_
                          refine ta_irem hE dX8_soonOf_115 (by decide +kernel) ?_
                          refine ta_aloadn hE dX8_soonOf_116 rfl ?_
                          refine gf_X8_111 hE dX8_soonOf_117 lm_0 rfl ?_
                          refine ta_join (γ := Int → tg_Mem → tg_R) (fun J => ∀ (s0_167 : Int) (m_167 : tg_Mem), tg_AW E LM (some .int) (J s0_167 m_167) 167 [tr_ 0, tj_, ti_ a1, ti_ a2, tj_, ti_ v5_65, ti_ v6_60, ti_ v7_91, ti_ v8_72, tl_ v9_86, tj_, ti_ v11_91, ti_ v12_109, tj_] [ti_ s0_167] m_167) ?_ (fun j167 hj167 => ?_)
                          · intro s0_167 m_167
                            refine ta_istore (lv2 := [tr_ 0, tj_, ti_ a1, ti_ a2, tj_, ti_ v5_65, ti_ v6_60, ti_ v7_91, ti_ v8_72, tl_ v9_86, tj_, ti_ v11_91, ti_ v12_109, ti_ s0_167]) hE dX8_soonOf_167 (Nat.le_of_ble_eq_true rfl) rfl rfl ?_
                            refine ta_iload hE dX8_soonOf_169 rfl ?_
                            refine ta_join (γ := Int → tg_Mem → tg_R) (fun J => ∀ (v7_225 : Int) (m_225 : tg_Mem), tg_AW E LM (some .int) (J v7_225 m_225) 225 [tr_ 0, tj_, ti_ a1, ti_ a2, tj_, ti_ v5_65, ti_ v6_60, ti_ v7_225, ti_ v8_72, tl_ v9_86, tj_, ti_ v11_91, tj_, tj_] [] m_225) ?_ (fun j225 hj225 => ?_)
                            · intro v7_225 m_225
                              refine ta_iincn (lv2 := fun v11_225 => [tr_ 0, tj_, ti_ a1, ti_ a2, tj_, ti_ v5_65, ti_ v6_60, ti_ v7_225, ti_ v8_72, tl_ v9_86, tj_, ti_ v11_225, tj_, tj_]) hE dX8_soonOf_225 rfl rfl rfl (fun v11_225 => ?_)
                              refine ta_goto (tgt := 91) hE dX8_soonOf_228 (by decide) ?_
                              exact (hself91 v7_225 v11_225 m_225)
                            · refine ta_if_eq (tgt := 225) hE dX8_soonOf_171 (by decide) (fun c171 => ?_) (fun c171 => ?_)
                              · exact (ta_wk (i := 12) (lv2 := [tr_ 0, tj_, ti_ a1, ti_ a2, tj_, ti_ v5_65, ti_ v6_60, ti_ v7_91, ti_ v8_72, tl_ v9_86, tj_, ti_ v11_91, tj_, ti_ s0_167]) rfl (ta_wk (i := 13) (lv2 := [tr_ 0, tj_, ti_ a1, ti_ a2, tj_, ti_ v5_65, ti_ v6_60, ti_ v7_91, ti_ v8_72, tl_ v9_86, tj_, ti_ v11_91, tj_, tj_]) rfl (hj225 v7_91 m_167)))
                              · refine ta_aloadn hE dX8_soonOf_174 rfl ?_
                                refine ta_iload hE dX8_soonOf_175 rfl ?_
                                refine ta_iload hE dX8_soonOf_177 rfl ?_
                                refine bp_8 hE dX8_soonOf_179 ?_
                                refine ta_irem hE dX8_soonOf_181 (by decide +kernel) ?_
                                refine ta_callV (C := RX8) (T := TX8) (st := []) hE dX8_soonOf_182 (k_X8_goes v12_109 (tg_irem v11_91 8) m_167) ml_X8_180 im_X8_goes se_X8_goes in_X8 co_X8_goes hy_X8_goes ⟨Nat.le_of_ble_eq_true rfl, Nat.le_of_ble_eq_true rfl⟩ lm_0 rfl rfl rfl (fun _ => Nat.le_of_ble_eq_true rfl) (fun r182 m182 hx182 hr182 => ?_)
                                change tg_AW E _ _ _ _ _ [] _
                                refine ta_iload hE dX8_soonOf_185 rfl ?_
                                refine ta_join (γ := Int → tg_R) (fun J => ∀ (s0_215 : Int), tg_AW E LM (some .int) (J s0_215) 215 [tr_ 0, tj_, ti_ a1, ti_ a2, tj_, ti_ v5_65, ti_ v6_60, tj_, ti_ v8_72, tl_ v9_86, tj_, ti_ v11_91, tj_, tj_] [ti_ s0_215] m182) ?_ (fun j215 hj215 => ?_)
                                · intro s0_215
                                  refine ta_istore (lv2 := [tr_ 0, tj_, ti_ a1, ti_ a2, tj_, ti_ v5_65, ti_ v6_60, ti_ s0_215, ti_ v8_72, tl_ v9_86, tj_, ti_ v11_91, tj_, tj_]) hE dX8_soonOf_215 (Nat.le_of_ble_eq_true rfl) rfl rfl ?_
                                  refine ta_aloadn hE dX8_soonOf_217 rfl ?_
                                  refine ta_aloadn hE dX8_soonOf_218 rfl ?_
                                  refine ta_callV (C := RX8) (T := TX8) (st := [tr_ 0]) hE dX8_soonOf_219 (k_X8_wayNow m182) ml_X8_220 im_X8_wayNow se_X8_wayNow in_X8 co_X8_wayNow hy_X8_wayNow ⟨Nat.le_of_ble_eq_true rfl, Nat.le_of_ble_eq_true rfl⟩ lm_0 rfl rfl rfl (fun _ => Nat.le_of_ble_eq_true rfl) (fun r219 m219 hx219 hr219 => ?_)
                                  change tg_AW E _ _ _ _ _ (tl_ r219 :: _) _
                                  refine ta_callV (C := RX8) (T := TX8) (st := []) hE dX8_soonOf_222 (k_X8_keepsWay r219 m219) ml_X8_224 im_X8_keepsWay se_X8_keepsWay in_X8 co_X8_keepsWay hy_X8_keepsWay ⟨Nat.le_of_ble_eq_true rfl, Nat.le_of_ble_eq_true rfl⟩ lm_0 rfl rfl rfl (fun _ => Nat.le_of_ble_eq_true rfl) (fun r222 m222 hx222 hr222 => ?_)
                                  change tg_AW E _ _ _ _ _ [] _
                                  exact (hj225 s0_215 m222)
                                · refine ta_join (γ := tg_R) (fun J => tg_AW E LM (some .int) J 210 [tr_ 0, tj_, ti_ a1, ti_ a2, tj_, ti_ v5_65, ti_ v6_60, tj_, ti_ v8_72, tl_ v9_86, tj_, ti_ v11_91, tj_, tj_] [] m182) ?_ (fun j210 hj210 => ?_)
                                  · refine ta_iconst (v := 1) hE dX8_soonOf_210 rfl ⟨by decide, by decide⟩ ?_
                                    refine ta_goto (tgt := 215) hE dX8_soonOf_211 (by decide) ?_
                                    exact (hj215 1)
                                  · refine ta_if_ne (tgt := 210) hE dX8_soonOf_187 (by decide) (fun c187 => ?_) (fun c187 => ?_)
                                    · exact (ta_wk (i := 7) (lv2 := [tr_ 0, tj_, ti_ a1, ti_ a2, tj_, ti_ v5_65, ti_ v6_60, tj_, ti_ v8_72, tl_ v9_86, tj_, ti_ v11_91, ti_ v12_109, ti_ s0_167]) rfl (ta_wk (i := 12) (lv2 := [tr_ 0, tj_, ti_ a1, ti_ a2, tj_, ti_ v5_65, ti_ v6_60, tj_, ti_ v8_72, tl_ v9_86, tj_, ti_ v11_91, tj_, ti_ s0_167]) rfl (ta_wk (i := 13) (lv2 := [tr_ 0, tj_, ti_ a1, ti_ a2, tj_, ti_ v5_65, ti_ v6_60, tj_, ti_ v8_72, tl_ v9_86, tj_, ti_ v11_91, tj_, tj_]) rfl hj210)))
                                    · refine ta_aloadn hE dX8_soonOf_190 rfl ?_
                                      refine gr_X8_40 hE dX8_soonOf_191 lm_0 rfl ?_
                                      refine ta_iconst (v := 0) hE dX8_soonOf_194 rfl ⟨by decide, by decide⟩ ?_
                                      refine ta_iald (n' := 2) hE dX8_soonOf_195 lm_11 rfl (fun _ _ => ?_)
                                      refine ta_iloadn hE dX8_soonOf_196 rfl ?_
                                      refine ta_join (γ := tg_R) (fun J => tg_AW E LM (some .int) J 214 [tr_ 0, tj_, ti_ a1, ti_ a2, tj_, ti_ v5_65, ti_ v6_60, tj_, ti_ v8_72, tl_ v9_86, tj_, ti_ v11_91, tj_, tj_] [] m182) ?_ (fun j214 hj214 => ?_)
                                      · refine ta_iconst (v := 0) hE dX8_soonOf_214 rfl ⟨by decide, by decide⟩ ?_
                                        exact (hj215 0)
                                      · refine ta_icmp_ne (tgt := 214) hE dX8_soonOf_197 (by decide) (fun c197 => ?_) (fun c197 => ?_)
                                        · exact (ta_wk (i := 7) (lv2 := [tr_ 0, tj_, ti_ a1, ti_ a2, tj_, ti_ v5_65, ti_ v6_60, tj_, ti_ v8_72, tl_ v9_86, tj_, ti_ v11_91, ti_ v12_109, ti_ s0_167]) rfl (ta_wk (i := 12) (lv2 := [tr_ 0, tj_, ti_ a1, ti_ a2, tj_, ti_ v5_65, ti_ v6_60, tj_, ti_ v8_72, tl_ v9_86, tj_, ti_ v11_91, tj_, ti_ s0_167]) rfl (ta_wk (i := 13) (lv2 := [tr_ 0, tj_, ti_ a1, ti_ a2, tj_, ti_ v5_65, ti_ v6_60, tj_, ti_ v8_72, tl_ v9_86, tj_, ti_ v11_91, tj_, tj_]) rfl hj214)))
                                        · refine ta_aloadn hE dX8_soonOf_200 rfl ?_
                                          refine gr_X8_40 hE dX8_soonOf_201 lm_0 rfl ?_
                                          refine ta_iconst (v := 1) hE dX8_soonOf_204 rfl ⟨by decide, by decide⟩ ?_
                                          refine ta_iald (n' := 2) hE dX8_soonOf_205 lm_11 rfl (fun _ _ => ?_)
                                          refine ta_iloadn hE dX8_soonOf_206 rfl ?_
                                          refine ta_icmp_ne (tgt := 214) hE dX8_soonOf_207 (by decide) (fun c207 => ?_) (fun c207 => ?_)
                                          · exact (ta_wk (i := 7) (lv2 := [tr_ 0, tj_, ti_ a1, ti_ a2, tj_, ti_ v5_65, ti_ v6_60, tj_, ti_ v8_72, tl_ v9_86, tj_, ti_ v11_91, ti_ v12_109, ti_ s0_167]) rfl (ta_wk (i := 12) (lv2 := [tr_ 0, tj_, ti_ a1, ti_ a2, tj_, ti_ v5_65, ti_ v6_60, tj_, ti_ v8_72, tl_ v9_86, tj_, ti_ v11_91, tj_, ti_ s0_167]) rfl (ta_wk (i := 13) (lv2 := [tr_ 0, tj_, ti_ a1, ti_ a2, tj_, ti_ v5_65, ti_ v6_60, tj_, ti_ v8_72, tl_ v9_86, tj_, ti_ v11_91, tj_, tj_]) rfl hj214)))
                                          · exact (ta_wk (i := 7) (lv2 := [tr_ 0, tj_, ti_ a1, ti_ a2, tj_, ti_ v5_65, ti_ v6_60, tj_, ti_ v8_72, tl_ v9_86, tj_, ti_ v11_91, ti_ v12_109, ti_ s0_167]) rfl (ta_wk (i := 12) (lv2 := [tr_ 0, tj_, ti_ a1, ti_ a2, tj_, ti_ v5_65, ti_ v6_60, tj_, ti_ v8_72, tl_ v9_86, tj_, ti_ v11_91, tj_, ti_ s0_167]) rfl (ta_wk (i := 13) (lv2 := [tr_ 0, tj_, ti_ a1, ti_ a2, tj_, ti_ v5_65, ti_ v6_60, tj_, ti_ v8_72, tl_ v9_86, tj_, ti_ v11_91, tj_, tj_]) rfl hj210)))
                          · refine ta_join (γ := tg_Mem → tg_R) (fun J => ∀ (m_166 : tg_Mem), tg_AW E LM (some .int) (J m_166) 166 [tr_ 0, tj_, ti_ a1, ti_ a2, tj_, ti_ v5_65, ti_ v6_60, ti_ v7_91, ti_ v8_72, tl_ v9_86, tj_, ti_ v11_91, ti_ v12_109, tj_] [] m_166) ?_ (fun j166 hj166 => ?_)
                            · intro m_166
                              refine ta_iconst (v := 0) hE dX8_soonOf_166 rfl ⟨by decide, by decide⟩ ?_
                              exact (hj167 0 m_166)
                            · refine ta_icmp_ge (tgt := 166) hE dX8_soonOf_120 (by decide) (fun c120 => ?_) (fun c120 => ?_)
                              · exact (hj166 m101)
                              · refine ta_aloadn hE dX8_soonOf_123 rfl ?_
                                refine ta_iload hE dX8_soonOf_124 rfl ?_
                                refine bp_8 hE dX8_soonOf_126 ?_
                                refine ta_irem hE dX8_soonOf_128 (by decide +kernel) ?_
                                refine ta_aloadn hE dX8_soonOf_129 rfl ?_
                                refine gr_X8_40 hE dX8_soonOf_130 lm_0 rfl ?_
                                refine ta_iload hE dX8_soonOf_133 rfl ?_
                                refine ta_iald (n' := 2) hE dX8_soonOf_135 lm_11 rfl (fun _ _ => ?_)
                                refine ta_callV (C := RX8) (T := TX8) (st := []) hE dX8_soonOf_136 (k_X8_touches (tg_irem v11_91 8) (m101 11 (v12_109).toNat) m101) ml_X8_173 im_X8_touches se_X8_touches in_X8 co_X8_touches hy_X8_touches ⟨Nat.le_of_ble_eq_true rfl, Nat.le_of_ble_eq_true rfl⟩ lm_0 rfl rfl rfl (fun _ => Nat.le_of_ble_eq_true rfl) (fun r136 m136 hx136 hr136 => ?_)
                                change tg_AW E _ _ _ _ _ (ti_ r136 :: _) _
                                refine ta_if_eq (tgt := 166) hE dX8_soonOf_139 (by decide) (fun c139 => ?_) (fun c139 => ?_)
                                · exact (hj166 m136)
                                · refine ta_aloadn hE dX8_soonOf_142 rfl ?_
                                  refine ta_iload hE dX8_soonOf_143 rfl ?_
                                  refine ta_iload hE dX8_soonOf_145 rfl ?_
                                  refine bp_8 hE dX8_soonOf_147 ?_
                                  refine ta_irem hE dX8_soonOf_149 (by decide +kernel) ?_
                                  refine ta_callV (C := RX8) (T := TX8) (st := []) hE dX8_soonOf_150 (k_X8_lengthBehind v12_109 (tg_irem v11_91 8) m136) ml_X8_177 im_X8_lengthBehind se_X8_lengthBehind in_X8 co_X8_lengthBehind hy_X8_lengthBehind ⟨Nat.le_of_ble_eq_true rfl, Nat.le_of_ble_eq_true rfl⟩ lm_0 rfl rfl rfl (fun _ => Nat.le_of_ble_eq_true rfl) (fun r150 m150 hx150 hr150 => ?_)
                                  change tg_AW E _ _ _ _ _ (ti_ r150 :: _) _
                                  refine ta_aloadn hE dX8_soonOf_153 rfl ?_
                                  refine gr_X8_34 hE dX8_soonOf_154 lm_0 rfl ?_
                                  refine ta_iconst (v := 2) hE dX8_soonOf_157 rfl ⟨by decide, by decide⟩ ?_
                                  refine ta_iald (n' := 3) hE dX8_soonOf_158 lm_9 rfl (fun _ _ => ?_)
                                  refine ta_icmp_gt (tgt := 166) hE dX8_soonOf_159 (by decide) (fun c159 => ?_) (fun c159 => ?_)
                                  · exact (hj166 m150)
                                  · refine ta_iconst (v := 1) hE dX8_soonOf_162 rfl ⟨by decide, by decide⟩ ?_
                                    refine ta_goto (tgt := 167) hE dX8_soonOf_163 (by decide) ?_
                                    exact (hj167 1 m150))
                    exact (hl91 tg_FU v7_72 0 m_72))
            exact (ta_wk (i := 4) (lv2 := [tr_ 0, tj_, ti_ a1, ti_ a2, tj_, ti_ v5_65, ti_ v6_60, ti_ 0, ti_ v4_47, tj_, tj_, tj_, tj_, tj_]) rfl (hl72 tg_FU 0 v4_47 m_47)))
    exact (hl47 tg_FU 0 0 m38)
  · refine ta_icmp_ne (tgt := 28) hE dX8_soonOf_13 (by decide) (fun c13 => ?_) (fun c13 => ?_)
    · exact (ta_wk (i := 1) (lv2 := [tr_ 0, tj_, ti_ a1, ti_ a2, tj_, tj_, tj_, tj_, tj_, tj_, tj_, tj_, tj_, tj_]) rfl hj28)
    · refine ta_aloadn hE dX8_soonOf_16 rfl ?_
      refine gr_X8_40 hE dX8_soonOf_17 lm_0 rfl ?_
      refine ta_iconst (v := 1) hE dX8_soonOf_20 rfl ⟨by decide, by decide⟩ ?_
      refine ta_iald (n' := 2) hE dX8_soonOf_21 lm_11 rfl (fun _ _ => ?_)
      refine ta_iloadn hE dX8_soonOf_22 rfl ?_
      refine ta_icmp_ne (tgt := 28) hE dX8_soonOf_23 (by decide) (fun c23 => ?_) (fun c23 => ?_)
      · exact (ta_wk (i := 1) (lv2 := [tr_ 0, tj_, ti_ a1, ti_ a2, tj_, tj_, tj_, tj_, tj_, tj_, tj_, tj_, tj_, tj_]) rfl hj28)
      · refine ta_iconst (v := 0) hE dX8_soonOf_26 rfl ⟨by decide, by decide⟩ ?_
        exact ta_iret hE dX8_soonOf_27
noncomputable def f_X8_soon (a0 : Int) (a1 : Int) (a2 : Int) (m : tg_Mem) : tg_R :=
  tg_bd (f_X8_reads  m) (fun _ m1 =>
    tg_bd (f_X8_isTwo a0 m1) (fun r6 m6 =>
      tg_jn (γ := tg_Mem → tg_R) (fun (m_36 : tg_Mem) => some ((-2), m_36)) (fun j36 =>
        if r6 = 0 then
          j36 m6
        else
          tg_bd (f_X8_isPlace a1 m6) (fun r13 m13 =>
            if r13 = 0 then
              j36 m13
            else
              tg_bd (f_X8_isPlace a2 m13) (fun r20 m20 =>
                if r20 = 0 then
                  j36 m20
                else
                  tg_bd (f_X8_soonOf a0 a1 a2 m20) (fun r30 m30 =>
                    some (r30, m30)))))))
theorem hy_X8_soon : yX8_soon.cls = RX8 ∧ yX8_soon.cls ≠ "java/lang/invoke/MethodHandle" ∧ yX8_soon.cls ≠ "java/lang/invoke/VarHandle" ∧ (parseMethodDescriptor yX8_soon.desc).map (fun q => q.parameters.length) = some 3 := by decide +kernel
set_option maxRecDepth 100000 in
set_option maxHeartbeats 4000000 in
theorem k_X8_soon   (a0 : Int) (a1 : Int) (a2 : Int) (m : tg_Mem) : tg_C yX8_soon cX8_soon 4 (some .int) 7 LM [tr_ 0, ti_ a0, ti_ a1, ti_ a2] (f_X8_soon a0 a1 a2 m) m := by
  refine ta_enter2 (own := RX8) (by decide +kernel) rfl rfl (Nat.le_of_ble_eq_true rfl) rfl (fun E hE => ?_)
  unfold f_X8_soon
  refine ta_aloadn hE dX8_soon_0 rfl ?_
  refine ta_callV (C := RX8) (T := TX8) (st := []) hE dX8_soon_1 (k_X8_reads m) ml_X8_129 im_X8_reads se_X8_reads in_X8 co_X8_reads hy_X8_reads ⟨Nat.le_of_ble_eq_true rfl, Nat.le_of_ble_eq_true rfl⟩ lm_0 rfl rfl rfl (fun _ => Nat.le_of_ble_eq_true rfl) (fun r1 m1 hx1 hr1 => ?_)
  change tg_AW E _ _ _ _ _ (ti_ r1 :: _) _
  refine ta_pop hE dX8_soon_4 (fun _ => rfl) ?_
  refine ta_iloadn hE dX8_soon_5 rfl ?_
  refine ta_callS (st := []) hE dX8_soon_6 (k_X8_isTwo a0 m1) ml_X8_135 st_X8_isTwo in_X8 co_X8_isTwo hy_X8_isTwo.2 ⟨Nat.le_of_ble_eq_true rfl, Nat.le_of_ble_eq_true rfl⟩ rfl rfl (fun _ => Nat.le_of_ble_eq_true rfl) (fun r6 m6 hx6 hr6 => ?_)
  change tg_AW E _ _ _ _ _ (ti_ r6 :: _) _
  refine ta_join (γ := tg_Mem → tg_R) (fun J => ∀ (m_36 : tg_Mem), tg_AW E LM (some .int) (J m_36) 36 [tj_, tj_, tj_, tj_] [] m_36) ?_ (fun j36 hj36 => ?_)
  · intro m_36
    refine bp_n2 hE dX8_soon_36 ?_
    exact ta_iret hE dX8_soon_38
  · refine ta_if_eq (tgt := 36) hE dX8_soon_9 (by decide) (fun c9 => ?_) (fun c9 => ?_)
    · exact (ta_wk (i := 0) (lv2 := [tj_, ti_ a0, ti_ a1, ti_ a2]) rfl (ta_wk (i := 1) (lv2 := [tj_, tj_, ti_ a1, ti_ a2]) rfl (ta_wk (i := 2) (lv2 := [tj_, tj_, tj_, ti_ a2]) rfl (ta_wk (i := 3) (lv2 := [tj_, tj_, tj_, tj_]) rfl (hj36 m6)))))
    · refine ta_iloadn hE dX8_soon_12 rfl ?_
      refine ta_callS (st := []) hE dX8_soon_13 (k_X8_isPlace a1 m6) ml_X8_138 st_X8_isPlace in_X8 co_X8_isPlace hy_X8_isPlace.2 ⟨Nat.le_of_ble_eq_true rfl, Nat.le_of_ble_eq_true rfl⟩ rfl rfl (fun _ => Nat.le_of_ble_eq_true rfl) (fun r13 m13 hx13 hr13 => ?_)
      change tg_AW E _ _ _ _ _ (ti_ r13 :: _) _
      refine ta_if_eq (tgt := 36) hE dX8_soon_16 (by decide) (fun c16 => ?_) (fun c16 => ?_)
      · exact (ta_wk (i := 0) (lv2 := [tj_, ti_ a0, ti_ a1, ti_ a2]) rfl (ta_wk (i := 1) (lv2 := [tj_, tj_, ti_ a1, ti_ a2]) rfl (ta_wk (i := 2) (lv2 := [tj_, tj_, tj_, ti_ a2]) rfl (ta_wk (i := 3) (lv2 := [tj_, tj_, tj_, tj_]) rfl (hj36 m13)))))
      · refine ta_iloadn hE dX8_soon_19 rfl ?_
        refine ta_callS (st := []) hE dX8_soon_20 (k_X8_isPlace a2 m13) ml_X8_138 st_X8_isPlace in_X8 co_X8_isPlace hy_X8_isPlace.2 ⟨Nat.le_of_ble_eq_true rfl, Nat.le_of_ble_eq_true rfl⟩ rfl rfl (fun _ => Nat.le_of_ble_eq_true rfl) (fun r20 m20 hx20 hr20 => ?_)
        change tg_AW E _ _ _ _ _ (ti_ r20 :: _) _
        refine ta_if_eq (tgt := 36) hE dX8_soon_23 (by decide) (fun c23 => ?_) (fun c23 => ?_)
        · exact (ta_wk (i := 0) (lv2 := [tj_, ti_ a0, ti_ a1, ti_ a2]) rfl (ta_wk (i := 1) (lv2 := [tj_, tj_, ti_ a1, ti_ a2]) rfl (ta_wk (i := 2) (lv2 := [tj_, tj_, tj_, ti_ a2]) rfl (ta_wk (i := 3) (lv2 := [tj_, tj_, tj_, tj_]) rfl (hj36 m20)))))
        · refine ta_aloadn hE dX8_soon_26 rfl ?_
          refine ta_iloadn hE dX8_soon_27 rfl ?_
          refine ta_iloadn hE dX8_soon_28 rfl ?_
          refine ta_iloadn hE dX8_soon_29 rfl ?_
          refine ta_callV (C := RX8) (T := TX8) (st := []) hE dX8_soon_30 (k_X8_soonOf a0 a1 a2 m20) ml_X8_231 im_X8_soonOf se_X8_soonOf in_X8 co_X8_soonOf hy_X8_soonOf ⟨Nat.le_of_ble_eq_true rfl, Nat.le_of_ble_eq_true rfl⟩ lm_0 rfl rfl rfl (fun _ => Nat.le_of_ble_eq_true rfl) (fun r30 m30 hx30 hr30 => ?_)
          change tg_AW E _ _ _ _ _ (ti_ r30 :: _) _
          refine ta_goto (tgt := 38) hE dX8_soon_33 (by decide) ?_
          exact ta_iret hE dX8_soon_38
noncomputable def f_X8_looseOf (a0 : Int) (m : tg_Mem) : tg_R :=
  tg_bd (f_X8_done a0 m) (fun _ m2 =>
    some (m2 0 15, m2))
theorem hy_X8_looseOf : yX8_looseOf.cls = RX8 ∧ yX8_looseOf.cls ≠ "java/lang/invoke/MethodHandle" ∧ yX8_looseOf.cls ≠ "java/lang/invoke/VarHandle" ∧ (parseMethodDescriptor yX8_looseOf.desc).map (fun q => q.parameters.length) = some 1 := by decide +kernel
set_option maxRecDepth 100000 in
set_option maxHeartbeats 4000000 in
theorem k_X8_looseOf   (a0 : Int) (m : tg_Mem) : tg_C yX8_looseOf cX8_looseOf 2 (some .int) 6 LM [tr_ 0, ti_ a0] (f_X8_looseOf a0 m) m := by
  refine ta_enter2 (own := RX8) (by decide +kernel) rfl rfl (Nat.le_of_ble_eq_true rfl) rfl (fun E hE => ?_)
  unfold f_X8_looseOf
  refine ta_aloadn hE dX8_looseOf_0 rfl ?_
  refine ta_iloadn hE dX8_looseOf_1 rfl ?_
  refine ta_callV (C := RX8) (T := TX8) (st := []) hE dX8_looseOf_2 (k_X8_done a0 m) ml_X8_200 im_X8_done se_X8_done in_X8 co_X8_done hy_X8_done ⟨Nat.le_of_ble_eq_true rfl, Nat.le_of_ble_eq_true rfl⟩ lm_0 rfl rfl rfl (fun _ => Nat.le_of_ble_eq_true rfl) (fun r2 m2 hx2 hr2 => ?_)
  change tg_AW E _ _ _ _ _ (ti_ r2 :: _) _
  refine ta_pop hE dX8_looseOf_5 (fun _ => rfl) ?_
  refine ta_aloadn hE dX8_looseOf_6 rfl ?_
  refine gf_X8_150 hE dX8_looseOf_7 lm_0 rfl ?_
  exact ta_iret hE dX8_looseOf_10
noncomputable def f_X8_loose (a0 : Int) (m : tg_Mem) : tg_R :=
  tg_bd (f_X8_reads  m) (fun _ m1 =>
    tg_bd (f_X8_isTwo a0 m1) (fun r6 m6 =>
      if r6 = 0 then
        some ((-2), m6)
      else
        tg_bd (f_X8_looseOf a0 m6) (fun r14 m14 =>
          some (r14, m14))))
theorem hy_X8_loose : yX8_loose.cls = RX8 ∧ yX8_loose.cls ≠ "java/lang/invoke/MethodHandle" ∧ yX8_loose.cls ≠ "java/lang/invoke/VarHandle" ∧ (parseMethodDescriptor yX8_loose.desc).map (fun q => q.parameters.length) = some 1 := by decide +kernel
set_option maxRecDepth 100000 in
set_option maxHeartbeats 4000000 in
theorem k_X8_loose   (a0 : Int) (m : tg_Mem) : tg_C yX8_loose cX8_loose 2 (some .int) 7 LM [tr_ 0, ti_ a0] (f_X8_loose a0 m) m := by
  refine ta_enter2 (own := RX8) (by decide +kernel) rfl rfl (Nat.le_of_ble_eq_true rfl) rfl (fun E hE => ?_)
  unfold f_X8_loose
  refine ta_aloadn hE dX8_loose_0 rfl ?_
  refine ta_callV (C := RX8) (T := TX8) (st := []) hE dX8_loose_1 (k_X8_reads m) ml_X8_129 im_X8_reads se_X8_reads in_X8 co_X8_reads hy_X8_reads ⟨Nat.le_of_ble_eq_true rfl, Nat.le_of_ble_eq_true rfl⟩ lm_0 rfl rfl rfl (fun _ => Nat.le_of_ble_eq_true rfl) (fun r1 m1 hx1 hr1 => ?_)
  change tg_AW E _ _ _ _ _ (ti_ r1 :: _) _
  refine ta_pop hE dX8_loose_4 (fun _ => rfl) ?_
  refine ta_iloadn hE dX8_loose_5 rfl ?_
  refine ta_callS (st := []) hE dX8_loose_6 (k_X8_isTwo a0 m1) ml_X8_135 st_X8_isTwo in_X8 co_X8_isTwo hy_X8_isTwo.2 ⟨Nat.le_of_ble_eq_true rfl, Nat.le_of_ble_eq_true rfl⟩ rfl rfl (fun _ => Nat.le_of_ble_eq_true rfl) (fun r6 m6 hx6 hr6 => ?_)
  change tg_AW E _ _ _ _ _ (ti_ r6 :: _) _
  refine ta_if_eq (tgt := 20) hE dX8_loose_9 (by decide) (fun c9 => ?_) (fun c9 => ?_)
  · refine bp_n2 hE dX8_loose_20 ?_
    exact ta_iret hE dX8_loose_22
  · refine ta_aloadn hE dX8_loose_12 rfl ?_
    refine ta_iloadn hE dX8_loose_13 rfl ?_
    refine ta_callV (C := RX8) (T := TX8) (st := []) hE dX8_loose_14 (k_X8_looseOf a0 m6) ml_X8_234 im_X8_looseOf se_X8_looseOf in_X8 co_X8_looseOf hy_X8_looseOf ⟨Nat.le_of_ble_eq_true rfl, Nat.le_of_ble_eq_true rfl⟩ lm_0 rfl rfl rfl (fun _ => Nat.le_of_ble_eq_true rfl) (fun r14 m14 hx14 hr14 => ?_)
    change tg_AW E _ _ _ _ _ (ti_ r14 :: _) _
    refine ta_goto (tgt := 22) hE dX8_loose_17 (by decide) ?_
    exact ta_iret hE dX8_loose_22
noncomputable def f_X8_haveLikeEnds (a0 : Int) (a1 : Int) (m : tg_Mem) : tg_R :=
  tg_ck (0 ≤ tg_wi (3 * a0) ∧ tg_wi (3 * a0) < 24) (
    tg_bd (f_X8_touches a1 (m 7 (tg_wi (3 * a0)).toNat) m) (fun r10 m10 =>
      tg_jn (γ := tg_Mem → tg_R) (fun (m_38 : tg_Mem) => some (0, m_38)) (fun j38 =>
        if r10 = 0 then
          j38 m10
        else
          tg_ck (0 ≤ tg_wi ((tg_wi (3 * a0)) + 1) ∧ tg_wi ((tg_wi (3 * a0)) + 1) < 24) (
            tg_bd (f_X8_touches a1 (m10 7 (tg_wi ((tg_wi (3 * a0)) + 1)).toNat) m10) (fun r28 m28 =>
              if r28 = 0 then
                j38 m28
              else
                some (1, m28))))))
theorem hy_X8_haveLikeEnds : yX8_haveLikeEnds.cls = RX8 ∧ yX8_haveLikeEnds.cls ≠ "java/lang/invoke/MethodHandle" ∧ yX8_haveLikeEnds.cls ≠ "java/lang/invoke/VarHandle" ∧ (parseMethodDescriptor yX8_haveLikeEnds.desc).map (fun q => q.parameters.length) = some 2 := by decide +kernel
set_option maxRecDepth 100000 in
set_option maxHeartbeats 4000000 in
theorem k_X8_haveLikeEnds   (a0 : Int) (a1 : Int) (m : tg_Mem) : tg_C yX8_haveLikeEnds cX8_haveLikeEnds 3 (some .boolean) 2 LM [tr_ 0, ti_ a0, ti_ a1] (f_X8_haveLikeEnds a0 a1 m) m := by
  refine ta_enter2 (own := RX8) (by decide +kernel) rfl rfl (Nat.le_of_ble_eq_true rfl) rfl (fun E hE => ?_)
  unfold f_X8_haveLikeEnds
  refine ta_aloadn hE dX8_haveLikeEnds_0 rfl ?_
  refine ta_iloadn hE dX8_haveLikeEnds_1 rfl ?_
  refine ta_aloadn hE dX8_haveLikeEnds_2 rfl ?_
  refine gr_X8_28 hE dX8_haveLikeEnds_3 lm_0 rfl ?_
  refine ta_iconst (v := 3) hE dX8_haveLikeEnds_6 rfl ⟨by decide, by decide⟩ ?_
  refine ta_iloadn hE dX8_haveLikeEnds_7 rfl ?_
  refine ta_imul hE dX8_haveLikeEnds_8 ?_
  refine ta_iald (n' := 24) hE dX8_haveLikeEnds_9 lm_7 rfl (fun _ _ => ?_)
  refine ta_callV (C := RX8) (T := TX8) (st := []) hE dX8_haveLikeEnds_10 (k_X8_touches a1 (m 7 (tg_wi (3 * a0)).toNat) m) ml_X8_173 im_X8_touches se_X8_touches in_X8 co_X8_touches hy_X8_touches ⟨Nat.le_of_ble_eq_true rfl, Nat.le_of_ble_eq_true rfl⟩ lm_0 rfl rfl rfl (fun _ => Nat.le_of_ble_eq_true rfl) (fun r10 m10 hx10 hr10 => ?_)
  change tg_AW E _ _ _ _ _ (ti_ r10 :: _) _
  refine ta_join (γ := tg_Mem → tg_R) (fun J => ∀ (m_38 : tg_Mem), tg_AW E LM (some .boolean) (J m_38) 38 [tj_, tj_, tj_] [] m_38) ?_ (fun j38 hj38 => ?_)
  · intro m_38
    refine ta_iconst (v := 0) hE dX8_haveLikeEnds_38 rfl ⟨by decide, by decide⟩ ?_
    exact ta_zret hE dX8_haveLikeEnds_39 (Or.inl rfl)
  · refine ta_if_eq (tgt := 38) hE dX8_haveLikeEnds_13 (by decide) (fun c13 => ?_) (fun c13 => ?_)
    · exact (ta_wk (i := 0) (lv2 := [tj_, ti_ a0, ti_ a1]) rfl (ta_wk (i := 1) (lv2 := [tj_, tj_, ti_ a1]) rfl (ta_wk (i := 2) (lv2 := [tj_, tj_, tj_]) rfl (hj38 m10))))
    · refine ta_aloadn hE dX8_haveLikeEnds_16 rfl ?_
      refine ta_iloadn hE dX8_haveLikeEnds_17 rfl ?_
      refine ta_aloadn hE dX8_haveLikeEnds_18 rfl ?_
      refine gr_X8_28 hE dX8_haveLikeEnds_19 lm_0 rfl ?_
      refine ta_iconst (v := 3) hE dX8_haveLikeEnds_22 rfl ⟨by decide, by decide⟩ ?_
      refine ta_iloadn hE dX8_haveLikeEnds_23 rfl ?_
      refine ta_imul hE dX8_haveLikeEnds_24 ?_
      refine ta_iconst (v := 1) hE dX8_haveLikeEnds_25 rfl ⟨by decide, by decide⟩ ?_
      refine ta_iadd hE dX8_haveLikeEnds_26 ?_
      refine ta_iald (n' := 24) hE dX8_haveLikeEnds_27 lm_7 rfl (fun _ _ => ?_)
      refine ta_callV (C := RX8) (T := TX8) (st := []) hE dX8_haveLikeEnds_28 (k_X8_touches a1 (m10 7 (tg_wi ((tg_wi (3 * a0)) + 1)).toNat) m10) ml_X8_173 im_X8_touches se_X8_touches in_X8 co_X8_touches hy_X8_touches ⟨Nat.le_of_ble_eq_true rfl, Nat.le_of_ble_eq_true rfl⟩ lm_0 rfl rfl rfl (fun _ => Nat.le_of_ble_eq_true rfl) (fun r28 m28 hx28 hr28 => ?_)
      change tg_AW E _ _ _ _ _ (ti_ r28 :: _) _
      refine ta_if_eq (tgt := 38) hE dX8_haveLikeEnds_31 (by decide) (fun c31 => ?_) (fun c31 => ?_)
      · exact (ta_wk (i := 0) (lv2 := [tj_, ti_ a0, ti_ a1]) rfl (ta_wk (i := 1) (lv2 := [tj_, tj_, ti_ a1]) rfl (ta_wk (i := 2) (lv2 := [tj_, tj_, tj_]) rfl (hj38 m28))))
      · refine ta_iconst (v := 1) hE dX8_haveLikeEnds_34 rfl ⟨by decide, by decide⟩ ?_
        refine ta_goto (tgt := 39) hE dX8_haveLikeEnds_35 (by decide) ?_
        exact ta_zret hE dX8_haveLikeEnds_39 (Or.inr rfl)
noncomputable def f_X8_pulledOf_B85 (a1 : Int) (a2 : Int) (s0_68 : Int) (j237 : Int → Int → tg_Mem → tg_R) (self85 : Int → Int → Int → tg_Mem → tg_R) (v8_85 : Int) (v9_85 : Int) (v10_85 : Int) (m_85 : tg_Mem) : tg_R :=
  if m_85 0 15 ≤ v10_85 then
    j237 v8_85 v9_85 m_85
  else
    tg_ck (0 ≤ v10_85 ∧ v10_85 < 64) (
      tg_jn (γ := Int → tg_R) (fun (s0_128 : Int) => tg_jn (γ := Int → tg_R) (fun (s0_154 : Int) => tg_jn (γ := Int → tg_R) (fun (s0_189 : Int) => tg_lt (tg_wi (v9_85 + s0_189)) (fun v9_190 =>
        tg_jn (γ := Int → tg_R) (fun (s0_215 : Int) => tg_ck (0 ≤ v8_85 ∧ v8_85 < 64) (
          tg_lt (tg_up m_85 16 (v8_85).toNat s0_215) (fun m215 =>
            tg_jn (γ := Int → tg_R) (fun (s0_228 : Int) => tg_lt (tg_wi (v8_85 + s0_228)) (fun v8_229 =>
              tg_lt (tg_wi (v10_85 + 1)) (fun v10_231 =>
                self85 v8_229 v9_190 v10_231 m215))) (fun j228 =>
              if s0_154 = 0 then
                j228 1
              else
                j228 (-1))))) (fun j215 =>
          if s0_154 = 0 then
            j215 s0_128
          else
            tg_ck (0 ≤ v8_85 ∧ v8_85 < 64) (
              j215 (m_85 16 (v8_85).toNat))))) (fun j189 =>
        if s0_154 = 0 then
          tg_ck (0 ≤ tg_wi ((tg_wi (3 * s0_128)) + 2) ∧ tg_wi ((tg_wi (3 * s0_128)) + 2) < 24) (
            j189 (m_85 7 (tg_wi ((tg_wi (3 * s0_128)) + 2)).toNat))
        else
          tg_ck (0 ≤ tg_wi ((tg_wi (3 * s0_128)) + 2) ∧ tg_wi ((tg_wi (3 * s0_128)) + 2) < 24) (
            j189 (tg_wi (-(m_85 7 (tg_wi ((tg_wi (3 * s0_128)) + 2)).toNat)))))) (fun j154 =>
        tg_jn (γ := tg_R) (j154 0) (fun j153 =>
          if v8_85 ≤ 0 then
            j153
          else
            tg_ck (0 ≤ tg_wi (v8_85 - 1) ∧ tg_wi (v8_85 - 1) < 64) (
              if m_85 16 (tg_wi (v8_85 - 1)).toNat ≠ s0_128 then
                j153
              else
                j154 1)))) (fun j128 =>
        tg_jn (γ := tg_R) (j128 s0_68) (fun j116 =>
          if m_85 12 (v10_85).toNat = a1 then
            j116
          else
            tg_ck (0 ≤ v10_85 ∧ v10_85 < 64) (
              if m_85 12 (v10_85).toNat ≠ a2 then
                tg_ck (0 ≤ v10_85 ∧ v10_85 < 64) (
                  j128 (m_85 12 (v10_85).toNat))
              else
                j116))))
noncomputable def f_X8_pulledOf (a0 : Int) (a1 : Int) (a2 : Int) (a3 : Int) (m : tg_Mem) : tg_R :=
  tg_bd (f_X8_haveLikeEnds a1 a2 m) (fun r3 m3 =>
    if r3 ≠ 0 then
      tg_jn (γ := Int → tg_R) (fun (s0_22 : Int) => tg_jn (γ := Int → tg_R) (fun (s0_34 : Int) => tg_ck (0 ≤ tg_wi ((tg_wi (3 * s0_34)) + 2) ∧ tg_wi ((tg_wi (3 * s0_34)) + 2) < 24) (
        tg_ck (0 ≤ tg_wi ((tg_wi (3 * s0_22)) + 2) ∧ tg_wi ((tg_wi (3 * s0_22)) + 2) < 24) (
          tg_jn (γ := Int → tg_R) (fun (s0_68 : Int) => tg_bd (f_X8_done a0 m3) (fun _ m72 =>
            tg_jn (γ := Int → Int → tg_Mem → tg_R) (fun (v8_237 : Int) (v9_237 : Int) (m_237 : tg_Mem) => if a3 ≠ 0 then
              some (v9_237, m_237)
            else
              some (v8_237, m_237)) (fun j237 =>
              tg_fx (γ := Int → Int → Int → tg_Mem → tg_R) (f_X8_pulledOf_B85 a1 a2 s0_68 j237) (fun _ _ _ _ => none) tg_FU 0 0 0 m72))) (fun j68 =>
            if m3 7 (tg_wi ((tg_wi (3 * s0_22)) + 2)).toNat ≤ m3 7 (tg_wi ((tg_wi (3 * s0_34)) + 2)).toNat then
              j68 s0_22
            else
              j68 s0_34)))) (fun j34 =>
        if a2 ≤ a1 then
          j34 a1
        else
          j34 a2)) (fun j22 =>
        if a2 ≤ a1 then
          j22 a2
        else
          j22 a1)
    else
      some ((-3), m3))
theorem hy_X8_pulledOf : yX8_pulledOf.cls = RX8 ∧ yX8_pulledOf.cls ≠ "java/lang/invoke/MethodHandle" ∧ yX8_pulledOf.cls ≠ "java/lang/invoke/VarHandle" ∧ (parseMethodDescriptor yX8_pulledOf.desc).map (fun q => q.parameters.length) = some 4 := by decide +kernel
set_option maxRecDepth 100000 in
set_option maxHeartbeats 4000000 in
theorem k_X8_pulledOf   (a0 : Int) (a1 : Int) (a2 : Int) (a3 : Int) (m : tg_Mem) : tg_C yX8_pulledOf cX8_pulledOf 13 (some .int) 6 LM [tr_ 0, ti_ a0, ti_ a1, ti_ a2, ti_ a3] (f_X8_pulledOf a0 a1 a2 a3 m) m := by
  refine ta_enter2 (own := RX8) (by decide +kernel) rfl rfl (Nat.le_of_ble_eq_true rfl) rfl (fun E hE => ?_)
  unfold f_X8_pulledOf
  refine ta_aloadn hE dX8_pulledOf_0 rfl ?_
  refine ta_iloadn hE dX8_pulledOf_1 rfl ?_
  refine ta_iloadn hE dX8_pulledOf_2 rfl ?_
  refine ta_callV (C := RX8) (T := TX8) (st := []) hE dX8_pulledOf_3 (k_X8_haveLikeEnds a1 a2 m) ml_X8_237 im_X8_haveLikeEnds se_X8_haveLikeEnds in_X8 co_X8_haveLikeEnds hy_X8_haveLikeEnds ⟨Nat.le_of_ble_eq_true rfl, Nat.le_of_ble_eq_true rfl⟩ lm_0 rfl rfl rfl (fun _ => Nat.le_of_ble_eq_true rfl) (fun r3 m3 hx3 hr3 => ?_)
  change tg_AW E _ _ _ _ _ (ti_ r3 :: _) _
  refine ta_if_ne (tgt := 12) hE dX8_pulledOf_6 (by decide) (fun c6 => ?_) (fun c6 => ?_)
  · refine ta_iloadn hE dX8_pulledOf_12 rfl ?_
    refine ta_iloadn hE dX8_pulledOf_13 rfl ?_
    refine ta_join (γ := Int → tg_R) (fun J => ∀ (s0_22 : Int), tg_AW E LM (some .int) (J s0_22) 22 [tr_ 0, ti_ a0, ti_ a1, ti_ a2, ti_ a3, tj_, tj_, tj_, tj_, tj_, tj_, tj_, tj_] [ti_ s0_22] m3) ?_ (fun j22 hj22 => ?_)
    · intro s0_22
      refine ta_istore (lv2 := [tr_ 0, ti_ a0, ti_ a1, ti_ a2, ti_ a3, ti_ s0_22, tj_, tj_, tj_, tj_, tj_, tj_, tj_]) hE dX8_pulledOf_22 (Nat.le_of_ble_eq_true rfl) rfl rfl ?_
      refine ta_iloadn hE dX8_pulledOf_24 rfl ?_
      refine ta_iloadn hE dX8_pulledOf_25 rfl ?_
      refine ta_join (γ := Int → tg_R) (fun J => ∀ (s0_34 : Int), tg_AW E LM (some .int) (J s0_34) 34 [tr_ 0, ti_ a0, ti_ a1, ti_ a2, ti_ a3, ti_ s0_22, tj_, tj_, tj_, tj_, tj_, tj_, tj_] [ti_ s0_34] m3) ?_ (fun j34 hj34 => ?_)
      · intro s0_34
        refine ta_istore (lv2 := [tr_ 0, ti_ a0, ti_ a1, ti_ a2, ti_ a3, ti_ s0_22, ti_ s0_34, tj_, tj_, tj_, tj_, tj_, tj_]) hE dX8_pulledOf_34 (Nat.le_of_ble_eq_true rfl) rfl rfl ?_
        refine ta_aloadn hE dX8_pulledOf_36 rfl ?_
        refine gr_X8_28 hE dX8_pulledOf_37 lm_0 rfl ?_
        refine ta_iconst (v := 3) hE dX8_pulledOf_40 rfl ⟨by decide, by decide⟩ ?_
        refine ta_iload hE dX8_pulledOf_41 rfl ?_
        refine ta_imul hE dX8_pulledOf_43 ?_
        refine ta_iconst (v := 2) hE dX8_pulledOf_44 rfl ⟨by decide, by decide⟩ ?_
        refine ta_iadd hE dX8_pulledOf_45 ?_
        refine ta_iald (n' := 24) hE dX8_pulledOf_46 lm_7 rfl (fun _ _ => ?_)
        refine ta_aloadn hE dX8_pulledOf_47 rfl ?_
        refine gr_X8_28 hE dX8_pulledOf_48 lm_0 rfl ?_
        refine ta_iconst (v := 3) hE dX8_pulledOf_51 rfl ⟨by decide, by decide⟩ ?_
        refine ta_iload hE dX8_pulledOf_52 rfl ?_
        refine ta_imul hE dX8_pulledOf_54 ?_
        refine ta_iconst (v := 2) hE dX8_pulledOf_55 rfl ⟨by decide, by decide⟩ ?_
        refine ta_iadd hE dX8_pulledOf_56 ?_
        refine ta_iald (n' := 24) hE dX8_pulledOf_57 lm_7 rfl (fun _ _ => ?_)
        refine ta_join (γ := Int → tg_R) (fun J => ∀ (s0_68 : Int), tg_AW E LM (some .int) (J s0_68) 68 [tr_ 0, ti_ a0, ti_ a1, ti_ a2, ti_ a3, tj_, tj_, tj_, tj_, tj_, tj_, tj_, tj_] [ti_ s0_68] m3) ?_ (fun j68 hj68 => ?_)
        · intro s0_68
          refine ta_istore (lv2 := [tr_ 0, ti_ a0, ti_ a1, ti_ a2, ti_ a3, tj_, tj_, ti_ s0_68, tj_, tj_, tj_, tj_, tj_]) hE dX8_pulledOf_68 (Nat.le_of_ble_eq_true rfl) rfl rfl ?_
          refine ta_aloadn hE dX8_pulledOf_70 rfl ?_
          refine ta_iloadn hE dX8_pulledOf_71 rfl ?_
          refine ta_callV (C := RX8) (T := TX8) (st := []) hE dX8_pulledOf_72 (k_X8_done a0 m3) ml_X8_200 im_X8_done se_X8_done in_X8 co_X8_done hy_X8_done ⟨Nat.le_of_ble_eq_true rfl, Nat.le_of_ble_eq_true rfl⟩ lm_0 rfl rfl rfl (fun _ => Nat.le_of_ble_eq_true rfl) (fun r72 m72 hx72 hr72 => ?_)
          change tg_AW E _ _ _ _ _ (ti_ r72 :: _) _
          refine ta_pop hE dX8_pulledOf_75 (fun _ => rfl) ?_
          refine ta_iconst (v := 0) hE dX8_pulledOf_76 rfl ⟨by decide, by decide⟩ ?_
          refine ta_istore (lv2 := [tr_ 0, ti_ a0, ti_ a1, ti_ a2, ti_ a3, tj_, tj_, ti_ s0_68, ti_ 0, tj_, tj_, tj_, tj_]) hE dX8_pulledOf_77 (Nat.le_of_ble_eq_true rfl) rfl rfl ?_
          refine ta_iconst (v := 0) hE dX8_pulledOf_79 rfl ⟨by decide, by decide⟩ ?_
          refine ta_istore (lv2 := [tr_ 0, ti_ a0, ti_ a1, ti_ a2, ti_ a3, tj_, tj_, ti_ s0_68, ti_ 0, ti_ 0, tj_, tj_, tj_]) hE dX8_pulledOf_80 (Nat.le_of_ble_eq_true rfl) rfl rfl ?_
          refine ta_iconst (v := 0) hE dX8_pulledOf_82 rfl ⟨by decide, by decide⟩ ?_
          refine ta_istore (lv2 := [tr_ 0, ti_ a0, ti_ a1, ti_ a2, ti_ a3, tj_, tj_, ti_ s0_68, ti_ 0, ti_ 0, ti_ 0, tj_, tj_]) hE dX8_pulledOf_83 (Nat.le_of_ble_eq_true rfl) rfl rfl ?_
          refine ta_join (γ := Int → Int → tg_Mem → tg_R) (fun J => ∀ (v8_237 : Int) (v9_237 : Int) (m_237 : tg_Mem), tg_AW E LM (some .int) (J v8_237 v9_237 m_237) 237 [tj_, tj_, tj_, tj_, ti_ a3, tj_, tj_, tj_, ti_ v8_237, ti_ v9_237, tj_, tj_, tj_] [] m_237) ?_ (fun j237 hj237 => ?_)
          · intro v8_237 v9_237 m_237
            refine ta_iload hE dX8_pulledOf_237 rfl ?_
            refine ta_if_ne (tgt := 247) hE dX8_pulledOf_239 (by decide) (fun c239 => ?_) (fun c239 => ?_)
            · refine ta_iload hE dX8_pulledOf_247 rfl ?_
              exact ta_iret hE dX8_pulledOf_249
            · refine ta_iload hE dX8_pulledOf_242 rfl ?_
              refine ta_goto (tgt := 249) hE dX8_pulledOf_244 (by decide) ?_
              exact ta_iret hE dX8_pulledOf_249
          · have hl85 := ta_fx (γ := Int → Int → Int → tg_Mem → tg_R) (F := (f_X8_pulledOf_B85 a1 a2 s0_68 j237)) (z := (fun _ _ _ _ => none)) (fun J => ∀ (v8_85 : Int) (v9_85 : Int) (v10_85 : Int) (m_85 : tg_Mem), tg_AW E LM (some .int) (J v8_85 v9_85 v10_85 m_85) 85 [tr_ 0, tj_, ti_ a1, ti_ a2, ti_ a3, tj_, tj_, ti_ s0_68, ti_ v8_85, ti_ v9_85, ti_ v10_85, tj_, tj_] [] m_85) (by intros; exact ta_none) (fun self85 hself85 => by
                intro v8_85 v9_85 v10_85 m_85
                unfold f_X8_pulledOf_B85
                refine ta_iload hE dX8_pulledOf_85 rfl ?_
                refine ta_aloadn hE dX8_pulledOf_87 rfl ?_
                refine gf_X8_150 hE dX8_pulledOf_88 lm_0 rfl ?_
                refine ta_icmp_ge (tgt := 237) hE dX8_pulledOf_91 (by decide) (fun c91 => ?_) (fun c91 => ?_)
                · exact (ta_wk (i := 0) (lv2 := [tj_, tj_, ti_ a1, ti_ a2, ti_ a3, tj_, tj_, ti_ s0_68, ti_ v8_85, ti_ v9_85, ti_ v10_85, tj_, tj_]) rfl (ta_wk (i := 2) (lv2 := [tj_, tj_, tj_, ti_ a2, ti_ a3, tj_, tj_, ti_ s0_68, ti_ v8_85, ti_ v9_85, ti_ v10_85, tj_, tj_]) rfl (ta_wk (i := 3) (lv2 := [tj_, tj_, tj_, tj_, ti_ a3, tj_, tj_, ti_ s0_68, ti_ v8_85, ti_ v9_85, ti_ v10_85, tj_, tj_]) rfl (ta_wk (i := 7) (lv2 := [tj_, tj_, tj_, tj_, ti_ a3, tj_, tj_, tj_, ti_ v8_85, ti_ v9_85, ti_ v10_85, tj_, tj_]) rfl (ta_wk (i := 10) (lv2 := [tj_, tj_, tj_, tj_, ti_ a3, tj_, tj_, tj_, ti_ v8_85, ti_ v9_85, tj_, tj_, tj_]) rfl (hj237 v8_85 v9_85 m_85))))))
                · refine ta_aloadn hE dX8_pulledOf_94 rfl ?_
                  refine gr_X8_43 hE dX8_pulledOf_95 lm_0 rfl ?_
                  refine ta_iload hE dX8_pulledOf_98 rfl ?_
                  refine ta_iald (n' := 64) hE dX8_pulledOf_100 lm_12 rfl (fun _ _ => ?_)
                  refine ta_iloadn hE dX8_pulledOf_101 rfl ?_
                  refine ta_join (γ := Int → tg_R) (fun J => ∀ (s0_128 : Int), tg_AW E LM (some .int) (J s0_128) 128 [tr_ 0, tj_, ti_ a1, ti_ a2, ti_ a3, tj_, tj_, ti_ s0_68, ti_ v8_85, ti_ v9_85, ti_ v10_85, tj_, tj_] [ti_ s0_128] m_85) ?_ (fun j128 hj128 => ?_)
                  · intro s0_128
                    refine ta_istore (lv2 := [tr_ 0, tj_, ti_ a1, ti_ a2, ti_ a3, tj_, tj_, ti_ s0_68, ti_ v8_85, ti_ v9_85, ti_ v10_85, ti_ s0_128, tj_]) hE dX8_pulledOf_128 (Nat.le_of_ble_eq_true rfl) rfl rfl ?_
                    refine ta_iload hE dX8_pulledOf_130 rfl ?_
                    refine ta_join (γ := Int → tg_R) (fun J => ∀ (s0_154 : Int), tg_AW E LM (some .int) (J s0_154) 154 [tr_ 0, tj_, ti_ a1, ti_ a2, ti_ a3, tj_, tj_, ti_ s0_68, ti_ v8_85, ti_ v9_85, ti_ v10_85, ti_ s0_128, tj_] [ti_ s0_154] m_85) ?_ (fun j154 hj154 => ?_)
                    · intro s0_154
                      refine ta_istore (lv2 := [tr_ 0, tj_, ti_ a1, ti_ a2, ti_ a3, tj_, tj_, ti_ s0_68, ti_ v8_85, ti_ v9_85, ti_ v10_85, ti_ s0_128, ti_ s0_154]) hE dX8_pulledOf_154 (Nat.le_of_ble_eq_true rfl) rfl rfl ?_
                      refine ta_iload hE dX8_pulledOf_156 rfl ?_
                      refine ta_iload hE dX8_pulledOf_158 rfl ?_
                      refine ta_join (γ := Int → tg_R) (fun J => ∀ (s0_189 : Int), tg_AW E LM (some .int) (J s0_189) 189 [tr_ 0, tj_, ti_ a1, ti_ a2, ti_ a3, tj_, tj_, ti_ s0_68, ti_ v8_85, tj_, ti_ v10_85, ti_ s0_128, ti_ s0_154] [ti_ s0_189, ti_ v9_85] m_85) ?_ (fun j189 hj189 => ?_)
                      · intro s0_189
                        refine ta_iadd hE dX8_pulledOf_189 ?_
                        refine ta_nmi (fun v9_190 => ?_)
                        refine ta_istore (lv2 := [tr_ 0, tj_, ti_ a1, ti_ a2, ti_ a3, tj_, tj_, ti_ s0_68, ti_ v8_85, ti_ v9_190, ti_ v10_85, ti_ s0_128, ti_ s0_154]) hE dX8_pulledOf_190 (Nat.le_of_ble_eq_true rfl) rfl rfl ?_
                        refine ta_aloadn hE dX8_pulledOf_192 rfl ?_
                        refine gr_X8_56 hE dX8_pulledOf_193 lm_0 rfl ?_
                        refine ta_iload hE dX8_pulledOf_196 rfl ?_
                        refine ta_iload hE dX8_pulledOf_198 rfl ?_
                        refine ta_join (γ := Int → tg_R) (fun J => ∀ (s0_215 : Int), tg_AW E LM (some .int) (J s0_215) 215 [tr_ 0, tj_, ti_ a1, ti_ a2, ti_ a3, tj_, tj_, ti_ s0_68, ti_ v8_85, ti_ v9_190, ti_ v10_85, tj_, ti_ s0_154] [ti_ s0_215, ti_ v8_85, tr_ 16] m_85) ?_ (fun j215 hj215 => ?_)
                        · intro s0_215
                          refine ta_iast (n' := 64) hE dX8_pulledOf_215 lm_16 rfl (fun _ _ => ?_)
                          refine ta_nmm (fun m215 => ?_)
                          refine ta_iload hE dX8_pulledOf_216 rfl ?_
                          refine ta_iload hE dX8_pulledOf_218 rfl ?_
                          refine ta_join (γ := Int → tg_R) (fun J => ∀ (s0_228 : Int), tg_AW E LM (some .int) (J s0_228) 228 [tr_ 0, tj_, ti_ a1, ti_ a2, ti_ a3, tj_, tj_, ti_ s0_68, tj_, ti_ v9_190, ti_ v10_85, tj_, tj_] [ti_ s0_228, ti_ v8_85] m215) ?_ (fun j228 hj228 => ?_)
                          · intro s0_228
                            refine ta_iadd hE dX8_pulledOf_228 ?_
                            refine ta_nmi (fun v8_229 => ?_)
                            refine ta_istore (lv2 := [tr_ 0, tj_, ti_ a1, ti_ a2, ti_ a3, tj_, tj_, ti_ s0_68, ti_ v8_229, ti_ v9_190, ti_ v10_85, tj_, tj_]) hE dX8_pulledOf_229 (Nat.le_of_ble_eq_true rfl) rfl rfl ?_
                            refine ta_iincn (lv2 := fun v10_231 => [tr_ 0, tj_, ti_ a1, ti_ a2, ti_ a3, tj_, tj_, ti_ s0_68, ti_ v8_229, ti_ v9_190, ti_ v10_231, tj_, tj_]) hE dX8_pulledOf_231 rfl rfl rfl (fun v10_231 => ?_)
                            refine ta_goto (tgt := 85) hE dX8_pulledOf_234 (by decide) ?_
                            exact (hself85 v8_229 v9_190 v10_231 m215)
                          · refine ta_if_eq (tgt := 227) hE dX8_pulledOf_220 (by decide) (fun c220 => ?_) (fun c220 => ?_)
                            · refine ta_iconst (v := 1) hE dX8_pulledOf_227 rfl ⟨by decide, by decide⟩ ?_
                              exact (ta_wk (i := 8) (lv2 := [tr_ 0, tj_, ti_ a1, ti_ a2, ti_ a3, tj_, tj_, ti_ s0_68, tj_, ti_ v9_190, ti_ v10_85, tj_, ti_ s0_154]) rfl (ta_wk (i := 12) (lv2 := [tr_ 0, tj_, ti_ a1, ti_ a2, ti_ a3, tj_, tj_, ti_ s0_68, tj_, ti_ v9_190, ti_ v10_85, tj_, tj_]) rfl (hj228 1)))
                            · refine ta_iconst (v := (-1)) hE dX8_pulledOf_223 rfl ⟨by decide, by decide⟩ ?_
                              refine ta_goto (tgt := 228) hE dX8_pulledOf_224 (by decide) ?_
                              exact (ta_wk (i := 8) (lv2 := [tr_ 0, tj_, ti_ a1, ti_ a2, ti_ a3, tj_, tj_, ti_ s0_68, tj_, ti_ v9_190, ti_ v10_85, tj_, ti_ s0_154]) rfl (ta_wk (i := 12) (lv2 := [tr_ 0, tj_, ti_ a1, ti_ a2, ti_ a3, tj_, tj_, ti_ s0_68, tj_, ti_ v9_190, ti_ v10_85, tj_, tj_]) rfl (hj228 (-1))))
                        · refine ta_if_eq (tgt := 213) hE dX8_pulledOf_200 (by decide) (fun c200 => ?_) (fun c200 => ?_)
                          · refine ta_iload hE dX8_pulledOf_213 rfl ?_
                            exact (ta_wk (i := 11) (lv2 := [tr_ 0, tj_, ti_ a1, ti_ a2, ti_ a3, tj_, tj_, ti_ s0_68, ti_ v8_85, ti_ v9_190, ti_ v10_85, tj_, ti_ s0_154]) rfl (hj215 s0_128))
                          · refine ta_aloadn hE dX8_pulledOf_203 rfl ?_
                            refine gr_X8_56 hE dX8_pulledOf_204 lm_0 rfl ?_
                            refine ta_iload hE dX8_pulledOf_207 rfl ?_
                            refine ta_iald (n' := 64) hE dX8_pulledOf_209 lm_16 rfl (fun _ _ => ?_)
                            refine ta_goto (tgt := 215) hE dX8_pulledOf_210 (by decide) ?_
                            exact (ta_wk (i := 11) (lv2 := [tr_ 0, tj_, ti_ a1, ti_ a2, ti_ a3, tj_, tj_, ti_ s0_68, ti_ v8_85, ti_ v9_190, ti_ v10_85, tj_, ti_ s0_154]) rfl (hj215 (m_85 16 (v8_85).toNat)))
                      · refine ta_if_eq (tgt := 178) hE dX8_pulledOf_160 (by decide) (fun c160 => ?_) (fun c160 => ?_)
                        · refine ta_aloadn hE dX8_pulledOf_178 rfl ?_
                          refine gr_X8_28 hE dX8_pulledOf_179 lm_0 rfl ?_
                          refine ta_iconst (v := 3) hE dX8_pulledOf_182 rfl ⟨by decide, by decide⟩ ?_
                          refine ta_iload hE dX8_pulledOf_183 rfl ?_
                          refine ta_imul hE dX8_pulledOf_185 ?_
                          refine ta_iconst (v := 2) hE dX8_pulledOf_186 rfl ⟨by decide, by decide⟩ ?_
                          refine ta_iadd hE dX8_pulledOf_187 ?_
                          refine ta_iald (n' := 24) hE dX8_pulledOf_188 lm_7 rfl (fun _ _ => ?_)
                          exact (ta_wk (i := 9) (lv2 := [tr_ 0, tj_, ti_ a1, ti_ a2, ti_ a3, tj_, tj_, ti_ s0_68, ti_ v8_85, tj_, ti_ v10_85, ti_ s0_128, ti_ s0_154]) rfl (hj189 (m_85 7 (tg_wi ((tg_wi (3 * s0_128)) + 2)).toNat)))
                        · refine ta_aloadn hE dX8_pulledOf_163 rfl ?_
                          refine gr_X8_28 hE dX8_pulledOf_164 lm_0 rfl ?_
                          refine ta_iconst (v := 3) hE dX8_pulledOf_167 rfl ⟨by decide, by decide⟩ ?_
                          refine ta_iload hE dX8_pulledOf_168 rfl ?_
                          refine ta_imul hE dX8_pulledOf_170 ?_
                          refine ta_iconst (v := 2) hE dX8_pulledOf_171 rfl ⟨by decide, by decide⟩ ?_
                          refine ta_iadd hE dX8_pulledOf_172 ?_
                          refine ta_iald (n' := 24) hE dX8_pulledOf_173 lm_7 rfl (fun _ _ => ?_)
                          refine ta_ineg hE dX8_pulledOf_174 ?_
                          refine ta_goto (tgt := 189) hE dX8_pulledOf_175 (by decide) ?_
                          exact (ta_wk (i := 9) (lv2 := [tr_ 0, tj_, ti_ a1, ti_ a2, ti_ a3, tj_, tj_, ti_ s0_68, ti_ v8_85, tj_, ti_ v10_85, ti_ s0_128, ti_ s0_154]) rfl (hj189 (tg_wi (-(m_85 7 (tg_wi ((tg_wi (3 * s0_128)) + 2)).toNat)))))
                    · refine ta_join (γ := tg_R) (fun J => tg_AW E LM (some .int) J 153 [tr_ 0, tj_, ti_ a1, ti_ a2, ti_ a3, tj_, tj_, ti_ s0_68, ti_ v8_85, ti_ v9_85, ti_ v10_85, ti_ s0_128, tj_] [] m_85) ?_ (fun j153 hj153 => ?_)
                      · refine ta_iconst (v := 0) hE dX8_pulledOf_153 rfl ⟨by decide, by decide⟩ ?_
                        exact (hj154 0)
                      · refine ta_if_le (tgt := 153) hE dX8_pulledOf_132 (by decide) (fun c132 => ?_) (fun c132 => ?_)
                        · exact hj153
                        · refine ta_aloadn hE dX8_pulledOf_135 rfl ?_
                          refine gr_X8_56 hE dX8_pulledOf_136 lm_0 rfl ?_
                          refine ta_iload hE dX8_pulledOf_139 rfl ?_
                          refine ta_iconst (v := 1) hE dX8_pulledOf_141 rfl ⟨by decide, by decide⟩ ?_
                          refine ta_isub hE dX8_pulledOf_142 ?_
                          refine ta_iald (n' := 64) hE dX8_pulledOf_143 lm_16 rfl (fun _ _ => ?_)
                          refine ta_iload hE dX8_pulledOf_144 rfl ?_
                          refine ta_icmp_ne (tgt := 153) hE dX8_pulledOf_146 (by decide) (fun c146 => ?_) (fun c146 => ?_)
                          · exact hj153
                          · refine ta_iconst (v := 1) hE dX8_pulledOf_149 rfl ⟨by decide, by decide⟩ ?_
                            refine ta_goto (tgt := 154) hE dX8_pulledOf_150 (by decide) ?_
                            exact (hj154 1)
                  · refine ta_join (γ := tg_R) (fun J => tg_AW E LM (some .int) J 116 [tr_ 0, tj_, ti_ a1, ti_ a2, ti_ a3, tj_, tj_, ti_ s0_68, ti_ v8_85, ti_ v9_85, ti_ v10_85, tj_, tj_] [] m_85) ?_ (fun j116 hj116 => ?_)
                    · refine ta_iload hE dX8_pulledOf_116 rfl ?_
                      refine ta_goto (tgt := 128) hE dX8_pulledOf_118 (by decide) ?_
                      exact (hj128 s0_68)
                    · refine ta_icmp_eq (tgt := 116) hE dX8_pulledOf_102 (by decide) (fun c102 => ?_) (fun c102 => ?_)
                      · exact hj116
                      · refine ta_aloadn hE dX8_pulledOf_105 rfl ?_
                        refine gr_X8_43 hE dX8_pulledOf_106 lm_0 rfl ?_
                        refine ta_iload hE dX8_pulledOf_109 rfl ?_
                        refine ta_iald (n' := 64) hE dX8_pulledOf_111 lm_12 rfl (fun _ _ => ?_)
                        refine ta_iloadn hE dX8_pulledOf_112 rfl ?_
                        refine ta_icmp_ne (tgt := 121) hE dX8_pulledOf_113 (by decide) (fun c113 => ?_) (fun c113 => ?_)
                        · refine ta_aloadn hE dX8_pulledOf_121 rfl ?_
                          refine gr_X8_43 hE dX8_pulledOf_122 lm_0 rfl ?_
                          refine ta_iload hE dX8_pulledOf_125 rfl ?_
                          refine ta_iald (n' := 64) hE dX8_pulledOf_127 lm_12 rfl (fun _ _ => ?_)
                          exact (hj128 (m_85 12 (v10_85).toNat))
                        · exact hj116)
            exact (ta_wk (i := 1) (lv2 := [tr_ 0, tj_, ti_ a1, ti_ a2, ti_ a3, tj_, tj_, ti_ s0_68, ti_ 0, ti_ 0, ti_ 0, tj_, tj_]) rfl (hl85 tg_FU 0 0 0 m72))
        · refine ta_icmp_ge (tgt := 66) hE dX8_pulledOf_58 (by decide) (fun c58 => ?_) (fun c58 => ?_)
          · refine ta_iload hE dX8_pulledOf_66 rfl ?_
            exact (ta_wk (i := 5) (lv2 := [tr_ 0, ti_ a0, ti_ a1, ti_ a2, ti_ a3, tj_, ti_ s0_34, tj_, tj_, tj_, tj_, tj_, tj_]) rfl (ta_wk (i := 6) (lv2 := [tr_ 0, ti_ a0, ti_ a1, ti_ a2, ti_ a3, tj_, tj_, tj_, tj_, tj_, tj_, tj_, tj_]) rfl (hj68 s0_22)))
          · refine ta_iload hE dX8_pulledOf_61 rfl ?_
            refine ta_goto (tgt := 68) hE dX8_pulledOf_63 (by decide) ?_
            exact (ta_wk (i := 5) (lv2 := [tr_ 0, ti_ a0, ti_ a1, ti_ a2, ti_ a3, tj_, ti_ s0_34, tj_, tj_, tj_, tj_, tj_, tj_]) rfl (ta_wk (i := 6) (lv2 := [tr_ 0, ti_ a0, ti_ a1, ti_ a2, ti_ a3, tj_, tj_, tj_, tj_, tj_, tj_, tj_, tj_]) rfl (hj68 s0_34)))
      · refine ta_icmp_ge (tgt := 33) hE dX8_pulledOf_26 (by decide) (fun c26 => ?_) (fun c26 => ?_)
        · refine ta_iloadn hE dX8_pulledOf_33 rfl ?_
          exact (hj34 a1)
        · refine ta_iloadn hE dX8_pulledOf_29 rfl ?_
          refine ta_goto (tgt := 34) hE dX8_pulledOf_30 (by decide) ?_
          exact (hj34 a2)
    · refine ta_icmp_ge (tgt := 21) hE dX8_pulledOf_14 (by decide) (fun c14 => ?_) (fun c14 => ?_)
      · refine ta_iloadn hE dX8_pulledOf_21 rfl ?_
        exact (hj22 a2)
      · refine ta_iloadn hE dX8_pulledOf_17 rfl ?_
        refine ta_goto (tgt := 22) hE dX8_pulledOf_18 (by decide) ?_
        exact (hj22 a1)
  · refine bp_n3 hE dX8_pulledOf_9 ?_
    exact ta_iret hE dX8_pulledOf_11
