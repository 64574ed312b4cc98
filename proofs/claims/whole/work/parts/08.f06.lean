noncomputable def f_X8_thistle (a0 : Int) (a1 : Int) (m : tg_Mem) : tg_R :=
  tg_bd (f_X8_isPlace a0 m) (fun r1 m1 =>
    if r1 = 0 then
      some ((-2), m1)
    else
      tg_bd (f_X8_in a1 0 99 m1) (fun r13 m13 =>
        if r13 ≠ 0 then
          tg_ck (0 ≤ a0 ∧ a0 < 8) (
            tg_lt (m13 10 (a0).toNat) (fun v3_28 =>
              tg_ck (0 ≤ a0 ∧ a0 < 8) (
                tg_lt (tg_up m13 10 (a0).toNat a1) (fun m35 =>
                  some (v3_28, m35)))))
        else
          some ((-2), m13)))
theorem hy_X8_thistle : yX8_thistle.cls = RX8 ∧ yX8_thistle.cls ≠ "java/lang/invoke/MethodHandle" ∧ yX8_thistle.cls ≠ "java/lang/invoke/VarHandle" ∧ (parseMethodDescriptor yX8_thistle.desc).map (fun q => q.parameters.length) = some 2 := by decide +kernel
set_option maxRecDepth 100000 in
set_option maxHeartbeats 4000000 in
theorem k_X8_thistle   (a0 : Int) (a1 : Int) (m : tg_Mem) : tg_C yX8_thistle cX8_thistle 4 (some .int) 3 LM [tr_ 0, ti_ a0, ti_ a1] (f_X8_thistle a0 a1 m) m := by
  refine ta_enter2 (own := RX8) (by decide +kernel) rfl rfl (Nat.le_of_ble_eq_true rfl) rfl (fun E hE => ?_)
  unfold f_X8_thistle
  refine ta_iloadn hE dX8_thistle_0 rfl ?_
  refine ta_callS (st := []) hE dX8_thistle_1 (k_X8_isPlace a0 m) ml_X8_138 st_X8_isPlace in_X8 co_X8_isPlace hy_X8_isPlace.2 ⟨Nat.le_of_ble_eq_true rfl, Nat.le_of_ble_eq_true rfl⟩ rfl rfl (fun _ => Nat.le_of_ble_eq_true rfl) (fun r1 m1 hx1 hr1 => ?_)
  change tg_AW E _ _ _ _ _ (ti_ r1 :: _) _
  refine ta_if_eq (tgt := 19) hE dX8_thistle_4 (by decide) (fun c4 => ?_) (fun c4 => ?_)
  · refine bp_n2 hE dX8_thistle_19 ?_
    exact ta_iret hE dX8_thistle_21
  · refine ta_iloadn hE dX8_thistle_7 rfl ?_
    refine ta_i2l hE dX8_thistle_8 ?_
    refine ta_lconst (v := 0) hE dX8_thistle_9 rfl ⟨by decide, by decide⟩ ?_
    refine ta_ldc2 (v := 99) hE dX8_thistle_10 lc_X8_143 ⟨by decide, by decide⟩ ?_
    refine ta_callS (st := []) hE dX8_thistle_13 (k_X8_in a1 0 99 m1) ml_X8_77 st_X8_in in_X8 co_X8_in hy_X8_in.2 ⟨Nat.le_of_ble_eq_true rfl, Nat.le_of_ble_eq_true rfl⟩ rfl rfl (fun _ => Nat.le_of_ble_eq_true rfl) (fun r13 m13 hx13 hr13 => ?_)
    change tg_AW E _ _ _ _ _ (ti_ r13 :: _) _
    refine ta_if_ne (tgt := 22) hE dX8_thistle_16 (by decide) (fun c16 => ?_) (fun c16 => ?_)
    · refine ta_aloadn hE dX8_thistle_22 rfl ?_
      refine gr_X8_37 hE dX8_thistle_23 lm_0 rfl ?_
      refine ta_iloadn hE dX8_thistle_26 rfl ?_
      refine ta_iald (n' := 8) hE dX8_thistle_27 lm_10 rfl (fun _ _ => ?_)
      refine ta_nmi (fun v3_28 => ?_)
      refine ta_istoren (lv2 := [tr_ 0, ti_ a0, ti_ a1, ti_ v3_28]) hE dX8_thistle_28 (Nat.le_of_ble_eq_true rfl) rfl rfl ?_
      refine ta_aloadn hE dX8_thistle_29 rfl ?_
      refine gr_X8_37 hE dX8_thistle_30 lm_0 rfl ?_
      refine ta_iloadn hE dX8_thistle_33 rfl ?_
      refine ta_iloadn hE dX8_thistle_34 rfl ?_
      refine ta_iast (n' := 8) hE dX8_thistle_35 lm_10 rfl (fun _ _ => ?_)
      refine ta_nmm (fun m35 => ?_)
      refine ta_iloadn hE dX8_thistle_36 rfl ?_
      exact ta_iret hE dX8_thistle_37
    · refine bp_n2 hE dX8_thistle_19 ?_
      exact ta_iret hE dX8_thistle_21
noncomputable def f_X8_read_B43 (a0 : Int) (a1 : Int) (self43 : Int → tg_Mem → tg_R) (v3_43 : Int) (m_43 : tg_Mem) : tg_R :=
  tg_ck (0 ≤ a0 ∧ a0 < 4) (
    if m_43 2 (a0).toNat ≤ v3_43 then
      some (v3_43, m_43)
    else
      if 40 ≤ v3_43 then
        some (v3_43, m_43)
      else
        tg_ck (0 ≤ tg_wi ((tg_wi (60 * a0)) + v3_43) ∧ tg_wi ((tg_wi (60 * a0)) + v3_43) < 240) (
          tg_bd (f_X8_in (m_43 3 (tg_wi ((tg_wi (60 * a0)) + v3_43)).toNat) 0 15 m_43) (fun r75 m75 =>
            if r75 = 0 then
              some (v3_43, m75)
            else
              tg_ck (0 ≤ tg_wi ((tg_wi (60 * a0)) + v3_43) ∧ tg_wi ((tg_wi (60 * a0)) + v3_43) < 240) (
                tg_lt (m75 3 (tg_wi ((tg_wi (60 * a0)) + v3_43)).toNat) (fun v4_92 =>
                  tg_jn (γ := Int → tg_R) (fun (s0_121 : Int) => tg_bd (f_X8_type (tg_wi (1 + a1)) s0_121 m75) (fun _ m121 =>
                    tg_lt (tg_wi (v3_43 + 1)) (fun v3_125 =>
                      self43 v3_125 m121))) (fun j121 =>
                    if 8 ≤ v4_92 then
                      j121 (tg_wi ((tg_wi (65 + v4_92)) - 8))
                    else
                      j121 (tg_wi (97 + v4_92))))))))
noncomputable def f_X8_read (a0 : Int) (a1 : Int) (m : tg_Mem) : tg_R :=
  tg_bd (f_X8_isSheet a0 m) (fun r1 m1 =>
    if r1 = 0 then
      some ((-2), m1)
    else
      tg_bd (f_X8_isTwo a1 m1) (fun r8 m8 =>
        if r8 ≠ 0 then
          tg_ck (0 ≤ a0 ∧ a0 < 4) (
            if 0 ≤ m8 1 (a0).toNat then
              tg_ck (0 ≤ tg_wi (1 + a1) ∧ tg_wi (1 + a1) < 3) (
                tg_lt (tg_up m8 6 (tg_wi (1 + a1)).toNat 0) (fun m40 =>
                  tg_fx (γ := Int → tg_Mem → tg_R) (f_X8_read_B43 a0 a1) (fun _ _ => none) tg_FU 0 m40))
            else
              tg_bd (f_X8_met 1 m8) (fun r28 m28 =>
                some (r28, m28)))
        else
          some ((-2), m8)))
theorem hy_X8_read : yX8_read.cls = RX8 ∧ yX8_read.cls ≠ "java/lang/invoke/MethodHandle" ∧ yX8_read.cls ≠ "java/lang/invoke/VarHandle" ∧ (parseMethodDescriptor yX8_read.desc).map (fun q => q.parameters.length) = some 2 := by decide +kernel
set_option maxRecDepth 100000 in
set_option maxHeartbeats 4000000 in
theorem k_X8_read   (a0 : Int) (a1 : Int) (m : tg_Mem) : tg_C yX8_read cX8_read 5 (some .int) 3 LM [tr_ 0, ti_ a0, ti_ a1] (f_X8_read a0 a1 m) m := by
  refine ta_enter2 (own := RX8) (by decide +kernel) rfl rfl (Nat.le_of_ble_eq_true rfl) rfl (fun E hE => ?_)
  unfold f_X8_read
  refine ta_iloadn hE dX8_read_0 rfl ?_
  refine ta_callS (st := []) hE dX8_read_1 (k_X8_isSheet a0 m) ml_X8_87 st_X8_isSheet in_X8 co_X8_isSheet hy_X8_isSheet.2 ⟨Nat.le_of_ble_eq_true rfl, Nat.le_of_ble_eq_true rfl⟩ rfl rfl (fun _ => Nat.le_of_ble_eq_true rfl) (fun r1 m1 hx1 hr1 => ?_)
  change tg_AW E _ _ _ _ _ (ti_ r1 :: _) _
  refine ta_if_eq (tgt := 14) hE dX8_read_4 (by decide) (fun c4 => ?_) (fun c4 => ?_)
  · refine bp_n2 hE dX8_read_14 ?_
    exact ta_iret hE dX8_read_16
  · refine ta_iloadn hE dX8_read_7 rfl ?_
    refine ta_callS (st := []) hE dX8_read_8 (k_X8_isTwo a1 m1) ml_X8_135 st_X8_isTwo in_X8 co_X8_isTwo hy_X8_isTwo.2 ⟨Nat.le_of_ble_eq_true rfl, Nat.le_of_ble_eq_true rfl⟩ rfl rfl (fun _ => Nat.le_of_ble_eq_true rfl) (fun r8 m8 hx8 hr8 => ?_)
    change tg_AW E _ _ _ _ _ (ti_ r8 :: _) _
    refine ta_if_ne (tgt := 17) hE dX8_read_11 (by decide) (fun c11 => ?_) (fun c11 => ?_)
    · refine ta_aloadn hE dX8_read_17 rfl ?_
      refine gr_X8_7 hE dX8_read_18 lm_0 rfl ?_
      refine ta_iloadn hE dX8_read_21 rfl ?_
      refine ta_iald (n' := 4) hE dX8_read_22 lm_1 rfl (fun _ _ => ?_)
      refine ta_if_ge (tgt := 32) hE dX8_read_23 (by decide) (fun c23 => ?_) (fun c23 => ?_)
      · refine ta_aloadn hE dX8_read_32 rfl ?_
        refine gr_X8_25 hE dX8_read_33 lm_0 rfl ?_
        refine ta_iconst (v := 1) hE dX8_read_36 rfl ⟨by decide, by decide⟩ ?_
        refine ta_iloadn hE dX8_read_37 rfl ?_
        refine ta_iadd hE dX8_read_38 ?_
        refine ta_iconst (v := 0) hE dX8_read_39 rfl ⟨by decide, by decide⟩ ?_
        refine ta_iast (n' := 3) hE dX8_read_40 lm_6 rfl (fun _ _ => ?_)
        refine ta_nmm (fun m40 => ?_)
        refine ta_iconst (v := 0) hE dX8_read_41 rfl ⟨by decide, by decide⟩ ?_
        refine ta_istoren (lv2 := [tr_ 0, ti_ a0, ti_ a1, ti_ 0, tj_]) hE dX8_read_42 (Nat.le_of_ble_eq_true rfl) rfl rfl ?_
        have hl43 := ta_fx (γ := Int → tg_Mem → tg_R) (F := (f_X8_read_B43 a0 a1)) (z := (fun _ _ => none)) (fun J => ∀ (v3_43 : Int) (m_43 : tg_Mem), tg_AW E LM (some .int) (J v3_43 m_43) 43 [tr_ 0, ti_ a0, ti_ a1, ti_ v3_43, tj_] [] m_43) (by intros; exact ta_none) (fun self43 hself43 => by
            intro v3_43 m_43
            unfold f_X8_read_B43
            refine ta_iloadn hE dX8_read_43 rfl ?_
            refine ta_aloadn hE dX8_read_44 rfl ?_
            refine gr_X8_13 hE dX8_read_45 lm_0 rfl ?_
            refine ta_iloadn hE dX8_read_48 rfl ?_
            refine ta_iald (n' := 4) hE dX8_read_49 lm_2 rfl (fun _ _ => ?_)
            refine ta_icmp_ge (tgt := 131) hE dX8_read_50 (by decide) (fun c50 => ?_) (fun c50 => ?_)
            · refine ta_iloadn hE dX8_read_131 rfl ?_
              exact ta_iret hE dX8_read_132
            · refine ta_iloadn hE dX8_read_53 rfl ?_
              refine bp_40 hE dX8_read_54 ?_
              refine ta_icmp_ge (tgt := 131) hE dX8_read_56 (by decide) (fun c56 => ?_) (fun c56 => ?_)
              · refine ta_iloadn hE dX8_read_131 rfl ?_
                exact ta_iret hE dX8_read_132
              · refine ta_aloadn hE dX8_read_59 rfl ?_
                refine gr_X8_16 hE dX8_read_60 lm_0 rfl ?_
                refine bp_60 hE dX8_read_63 ?_
                refine ta_iloadn hE dX8_read_65 rfl ?_
                refine ta_imul hE dX8_read_66 ?_
                refine ta_iloadn hE dX8_read_67 rfl ?_
                refine ta_iadd hE dX8_read_68 ?_
                refine ta_iald (n' := 240) hE dX8_read_69 lm_3 rfl (fun _ _ => ?_)
                refine ta_i2l hE dX8_read_70 ?_
                refine ta_lconst (v := 0) hE dX8_read_71 rfl ⟨by decide, by decide⟩ ?_
                refine ta_ldc2 (v := 15) hE dX8_read_72 lc_X8_145 ⟨by decide, by decide⟩ ?_
                refine ta_callS (st := []) hE dX8_read_75 (k_X8_in (m_43 3 (tg_wi ((tg_wi (60 * a0)) + v3_43)).toNat) 0 15 m_43) ml_X8_77 st_X8_in in_X8 co_X8_in hy_X8_in.2 ⟨Nat.le_of_ble_eq_true rfl, Nat.le_of_ble_eq_true rfl⟩ rfl rfl (fun _ => Nat.le_of_ble_eq_true rfl) (fun r75 m75 hx75 hr75 => ?_)
                change tg_AW E _ _ _ _ _ (ti_ r75 :: _) _
                refine ta_if_eq (tgt := 131) hE dX8_read_78 (by decide) (fun c78 => ?_) (fun c78 => ?_)
                · refine ta_iloadn hE dX8_read_131 rfl ?_
                  exact ta_iret hE dX8_read_132
                · refine ta_aloadn hE dX8_read_81 rfl ?_
                  refine gr_X8_16 hE dX8_read_82 lm_0 rfl ?_
                  refine bp_60 hE dX8_read_85 ?_
                  refine ta_iloadn hE dX8_read_87 rfl ?_
                  refine ta_imul hE dX8_read_88 ?_
                  refine ta_iloadn hE dX8_read_89 rfl ?_
                  refine ta_iadd hE dX8_read_90 ?_
                  refine ta_iald (n' := 240) hE dX8_read_91 lm_3 rfl (fun _ _ => ?_)
                  refine ta_nmi (fun v4_92 => ?_)
                  refine ta_istore (lv2 := [tr_ 0, ti_ a0, ti_ a1, ti_ v3_43, ti_ v4_92]) hE dX8_read_92 (Nat.le_of_ble_eq_true rfl) rfl rfl ?_
                  refine ta_aloadn hE dX8_read_94 rfl ?_
                  refine ta_iconst (v := 1) hE dX8_read_95 rfl ⟨by decide, by decide⟩ ?_
                  refine ta_iloadn hE dX8_read_96 rfl ?_
                  refine ta_iadd hE dX8_read_97 ?_
                  refine ta_iload hE dX8_read_98 rfl ?_
                  refine bp_8 hE dX8_read_100 ?_
                  refine ta_join (γ := Int → tg_R) (fun J => ∀ (s0_121 : Int), tg_AW E LM (some .int) (J s0_121) 121 [tr_ 0, ti_ a0, ti_ a1, ti_ v3_43, tj_] [ti_ s0_121, ti_ (tg_wi (1 + a1)), tr_ 0] m75) ?_ (fun j121 hj121 => ?_)
                  · intro s0_121
                    refine ta_callV (C := RX8) (T := TX8) (st := []) hE dX8_read_121 (k_X8_type (tg_wi (1 + a1)) s0_121 m75) ml_X8_147 im_X8_type se_X8_type in_X8 co_X8_type hy_X8_type ⟨Nat.le_of_ble_eq_true rfl, Nat.le_of_ble_eq_true rfl⟩ lm_0 rfl rfl rfl (fun _ => Nat.le_of_ble_eq_true rfl) (fun r121 m121 hx121 hr121 => ?_)
                    change tg_AW E _ _ _ _ _ (ti_ r121 :: _) _
                    refine ta_pop hE dX8_read_124 (fun _ => rfl) ?_
                    refine ta_iincn (lv2 := fun v3_125 => [tr_ 0, ti_ a0, ti_ a1, ti_ v3_125, tj_]) hE dX8_read_125 rfl rfl rfl (fun v3_125 => ?_)
                    refine ta_goto (tgt := 43) hE dX8_read_128 (by decide) ?_
                    exact (hself43 v3_125 m121)
                  · refine ta_icmp_ge (tgt := 113) hE dX8_read_102 (by decide) (fun c102 => ?_) (fun c102 => ?_)
                    · refine bp_65 hE dX8_read_113 ?_
                      refine ta_iload hE dX8_read_115 rfl ?_
                      refine ta_iadd hE dX8_read_117 ?_
                      refine bp_8 hE dX8_read_118 ?_
                      refine ta_isub hE dX8_read_120 ?_
                      exact (ta_wk (i := 4) (lv2 := [tr_ 0, ti_ a0, ti_ a1, ti_ v3_43, tj_]) rfl (hj121 (tg_wi ((tg_wi (65 + v4_92)) - 8))))
                    · refine bp_97 hE dX8_read_105 ?_
                      refine ta_iload hE dX8_read_107 rfl ?_
                      refine ta_iadd hE dX8_read_109 ?_
                      refine ta_goto (tgt := 121) hE dX8_read_110 (by decide) ?_
                      exact (ta_wk (i := 4) (lv2 := [tr_ 0, ti_ a0, ti_ a1, ti_ v3_43, tj_]) rfl (hj121 (tg_wi (97 + v4_92)))))
        exact (hl43 tg_FU 0 m40)
      · refine ta_aloadn hE dX8_read_26 rfl ?_
        refine ta_iconst (v := 1) hE dX8_read_27 rfl ⟨by decide, by decide⟩ ?_
        refine ta_callV (C := RX8) (T := TX8) (st := []) hE dX8_read_28 (k_X8_met 1 m8) ml_X8_93 im_X8_met se_X8_met in_X8 co_X8_met hy_X8_met ⟨Nat.le_of_ble_eq_true rfl, Nat.le_of_ble_eq_true rfl⟩ lm_0 rfl rfl rfl (fun _ => Nat.le_of_ble_eq_true rfl) (fun r28 m28 hx28 hr28 => ?_)
        change tg_AW E _ _ _ _ _ (ti_ r28 :: _) _
        exact ta_iret hE dX8_read_31
    · refine bp_n2 hE dX8_read_14 ?_
      exact ta_iret hE dX8_read_16
noncomputable def f_X8_undo (a0 : Int) (m : tg_Mem) : tg_R :=
  tg_bd (f_X8_isTwo a0 m) (fun r1 m1 =>
    if r1 ≠ 0 then
      tg_ck (0 ≤ tg_wi (1 + a0) ∧ tg_wi (1 + a0) < 3) (
        if m1 6 (tg_wi (1 + a0)).toNat ≠ 0 then
          tg_ck (0 ≤ tg_wi (1 + a0) ∧ tg_wi (1 + a0) < 3) (
            tg_ck (0 ≤ tg_wi (1 + a0) ∧ tg_wi (1 + a0) < 3) (
              tg_lt (tg_up m1 6 (tg_wi (1 + a0)).toNat (tg_wi ((m1 6 (tg_wi (1 + a0)).toNat) - 1))) (fun m35 =>
                tg_ck (0 ≤ tg_wi (1 + a0) ∧ tg_wi (1 + a0) < 3) (
                  some (m35 6 (tg_wi (1 + a0)).toNat, m35)))))
        else
          some ((-3), m1))
    else
      some ((-2), m1))
theorem hy_X8_undo : yX8_undo.cls = RX8 ∧ yX8_undo.cls ≠ "java/lang/invoke/MethodHandle" ∧ yX8_undo.cls ≠ "java/lang/invoke/VarHandle" ∧ (parseMethodDescriptor yX8_undo.desc).map (fun q => q.parameters.length) = some 1 := by decide +kernel
set_option maxRecDepth 100000 in
set_option maxHeartbeats 4000000 in
theorem k_X8_undo   (a0 : Int) (m : tg_Mem) : tg_C yX8_undo cX8_undo 2 (some .int) 3 LM [tr_ 0, ti_ a0] (f_X8_undo a0 m) m := by
  refine ta_enter2 (own := RX8) (by decide +kernel) rfl rfl (Nat.le_of_ble_eq_true rfl) rfl (fun E hE => ?_)
  unfold f_X8_undo
  refine ta_iloadn hE dX8_undo_0 rfl ?_
  refine ta_callS (st := []) hE dX8_undo_1 (k_X8_isTwo a0 m) ml_X8_135 st_X8_isTwo in_X8 co_X8_isTwo hy_X8_isTwo.2 ⟨Nat.le_of_ble_eq_true rfl, Nat.le_of_ble_eq_true rfl⟩ rfl rfl (fun _ => Nat.le_of_ble_eq_true rfl) (fun r1 m1 hx1 hr1 => ?_)
  change tg_AW E _ _ _ _ _ (ti_ r1 :: _) _
  refine ta_if_ne (tgt := 10) hE dX8_undo_4 (by decide) (fun c4 => ?_) (fun c4 => ?_)
  · refine ta_aloadn hE dX8_undo_10 rfl ?_
    refine gr_X8_25 hE dX8_undo_11 lm_0 rfl ?_
    refine ta_iconst (v := 1) hE dX8_undo_14 rfl ⟨by decide, by decide⟩ ?_
    refine ta_iloadn hE dX8_undo_15 rfl ?_
    refine ta_iadd hE dX8_undo_16 ?_
    refine ta_iald (n' := 3) hE dX8_undo_17 lm_6 rfl (fun _ _ => ?_)
    refine ta_if_ne (tgt := 24) hE dX8_undo_18 (by decide) (fun c18 => ?_) (fun c18 => ?_)
    · refine ta_aloadn hE dX8_undo_24 rfl ?_
      refine gr_X8_25 hE dX8_undo_25 lm_0 rfl ?_
      refine ta_iconst (v := 1) hE dX8_undo_28 rfl ⟨by decide, by decide⟩ ?_
      refine ta_iloadn hE dX8_undo_29 rfl ?_
      refine ta_iadd hE dX8_undo_30 ?_
      refine ta_dup2 hE dX8_undo_31 (fun _ => rfl) (fun _ => rfl) ?_
      refine ta_iald (n' := 3) hE dX8_undo_32 lm_6 rfl (fun _ _ => ?_)
      refine ta_iconst (v := 1) hE dX8_undo_33 rfl ⟨by decide, by decide⟩ ?_
      refine ta_isub hE dX8_undo_34 ?_
      refine ta_iast (n' := 3) hE dX8_undo_35 lm_6 rfl (fun _ _ => ?_)
      refine ta_nmm (fun m35 => ?_)
      refine ta_aloadn hE dX8_undo_36 rfl ?_
      refine gr_X8_25 hE dX8_undo_37 lm_0 rfl ?_
      refine ta_iconst (v := 1) hE dX8_undo_40 rfl ⟨by decide, by decide⟩ ?_
      refine ta_iloadn hE dX8_undo_41 rfl ?_
      refine ta_iadd hE dX8_undo_42 ?_
      refine ta_iald (n' := 3) hE dX8_undo_43 lm_6 rfl (fun _ _ => ?_)
      exact ta_iret hE dX8_undo_44
    · refine bp_n3 hE dX8_undo_21 ?_
      exact ta_iret hE dX8_undo_23
  · refine bp_n2 hE dX8_undo_7 ?_
    exact ta_iret hE dX8_undo_9
noncomputable def f_X8_begins_B41  (self41 : Int → tg_Mem → tg_R) (v2_41 : Int) (m_41 : tg_Mem) : tg_R :=
  if 2 ≤ v2_41 then
    some (0, m_41)
  else
    tg_ck (0 ≤ v2_41 ∧ v2_41 < 2) (
      tg_lt (tg_up m_41 13 (v2_41).toNat 0) (fun m52 =>
        tg_ck (0 ≤ v2_41 ∧ v2_41 < 2) (
          tg_lt (tg_up m52 14 (v2_41).toNat 0) (fun m59 =>
            tg_lt (tg_wi (v2_41 + 1)) (fun v2_60 =>
              self41 v2_60 m59)))))
noncomputable def f_X8_begins (a0 : Int) (m : tg_Mem) : tg_R :=
  tg_ck (0 ≤ a0 ∧ a0 < 2) (
    tg_ck (0 ≤ 0 ∧ 0 < 2) (
      tg_lt (tg_up m 11 0 (m 8 (a0).toNat)) (fun m11 =>
        tg_ck (0 ≤ a0 ∧ a0 < 2) (
          tg_ck (0 ≤ 1 ∧ 1 < 2) (
            tg_lt (tg_up m11 11 1 (m11 8 (a0).toNat)) (fun m23 =>
              tg_lt (tg_up m23 0 15 0) (fun m26 =>
                tg_lt (tg_up m26 0 16 0) (fun m31 =>
                  tg_lt (tg_up m31 0 19 0) (fun m36 =>
                    tg_fx (γ := Int → tg_Mem → tg_R) (f_X8_begins_B41) (fun _ _ => none) tg_FU 0 m36)))))))))
theorem hy_X8_begins : yX8_begins.cls = RX8 ∧ yX8_begins.cls ≠ "java/lang/invoke/MethodHandle" ∧ yX8_begins.cls ≠ "java/lang/invoke/VarHandle" ∧ (parseMethodDescriptor yX8_begins.desc).map (fun q => q.parameters.length) = some 1 := by decide +kernel
set_option maxRecDepth 100000 in
set_option maxHeartbeats 4000000 in
theorem k_X8_begins   (a0 : Int) (m : tg_Mem) : tg_C yX8_begins cX8_begins 3 none 1 LM [tr_ 0, ti_ a0] (f_X8_begins a0 m) m := by
  refine ta_enter2 (own := RX8) (by decide +kernel) rfl rfl (Nat.le_of_ble_eq_true rfl) rfl (fun E hE => ?_)
  unfold f_X8_begins
  refine ta_aloadn hE dX8_begins_0 rfl ?_
  refine gr_X8_40 hE dX8_begins_1 lm_0 rfl ?_
  refine ta_iconst (v := 0) hE dX8_begins_4 rfl ⟨by decide, by decide⟩ ?_
  refine ta_aloadn hE dX8_begins_5 rfl ?_
  refine gr_X8_31 hE dX8_begins_6 lm_0 rfl ?_
  refine ta_iloadn hE dX8_begins_9 rfl ?_
  refine ta_iald (n' := 2) hE dX8_begins_10 lm_8 rfl (fun _ _ => ?_)
  refine ta_iast (n' := 2) hE dX8_begins_11 lm_11 rfl (fun _ _ => ?_)
  refine ta_nmm (fun m11 => ?_)
  refine ta_aloadn hE dX8_begins_12 rfl ?_
  refine gr_X8_40 hE dX8_begins_13 lm_0 rfl ?_
  refine ta_iconst (v := 1) hE dX8_begins_16 rfl ⟨by decide, by decide⟩ ?_
  refine ta_aloadn hE dX8_begins_17 rfl ?_
  refine gr_X8_31 hE dX8_begins_18 lm_0 rfl ?_
  refine ta_iloadn hE dX8_begins_21 rfl ?_
  refine ta_iald (n' := 2) hE dX8_begins_22 lm_8 rfl (fun _ _ => ?_)
  refine ta_iast (n' := 2) hE dX8_begins_23 lm_11 rfl (fun _ _ => ?_)
  refine ta_nmm (fun m23 => ?_)
  refine ta_aloadn hE dX8_begins_24 rfl ?_
  refine ta_iconst (v := 0) hE dX8_begins_25 rfl ⟨by decide, by decide⟩ ?_
  refine pf_X8_150 hE dX8_begins_26 lm_0 rfl ?_
  refine ta_nmm (fun m26 => ?_)
  refine ta_aloadn hE dX8_begins_29 rfl ?_
  refine ta_iconst (v := 0) hE dX8_begins_30 rfl ⟨by decide, by decide⟩ ?_
  refine pf_X8_159 hE dX8_begins_31 lm_0 rfl ?_
  refine ta_nmm (fun m31 => ?_)
  refine ta_aloadn hE dX8_begins_34 rfl ?_
  refine ta_iconst (v := 0) hE dX8_begins_35 rfl ⟨by decide, by decide⟩ ?_
  refine pf_X8_162 hE dX8_begins_36 lm_0 rfl ?_
  refine ta_nmm (fun m36 => ?_)
  refine ta_iconst (v := 0) hE dX8_begins_39 rfl ⟨by decide, by decide⟩ ?_
  refine ta_istoren (lv2 := [tr_ 0, ti_ a0, ti_ 0]) hE dX8_begins_40 (Nat.le_of_ble_eq_true rfl) rfl rfl ?_
  have hl41 := ta_fx (γ := Int → tg_Mem → tg_R) (F := (f_X8_begins_B41)) (z := (fun _ _ => none)) (fun J => ∀ (v2_41 : Int) (m_41 : tg_Mem), tg_AW E LM none (J v2_41 m_41) 41 [tr_ 0, tj_, ti_ v2_41] [] m_41) (by intros; exact ta_none) (fun self41 hself41 => by
      intro v2_41 m_41
      unfold f_X8_begins_B41
      refine ta_iloadn hE dX8_begins_41 rfl ?_
      refine ta_iconst (v := 2) hE dX8_begins_42 rfl ⟨by decide, by decide⟩ ?_
      refine ta_icmp_ge (tgt := 66) hE dX8_begins_43 (by decide) (fun c43 => ?_) (fun c43 => ?_)
      · exact ta_vret hE dX8_begins_66
      · refine ta_aloadn hE dX8_begins_46 rfl ?_
        refine gr_X8_46 hE dX8_begins_47 lm_0 rfl ?_
        refine ta_iloadn hE dX8_begins_50 rfl ?_
        refine ta_iconst (v := 0) hE dX8_begins_51 rfl ⟨by decide, by decide⟩ ?_
        refine ta_iast (n' := 2) hE dX8_begins_52 lm_13 rfl (fun _ _ => ?_)
        refine ta_nmm (fun m52 => ?_)
        refine ta_aloadn hE dX8_begins_53 rfl ?_
        refine gr_X8_49 hE dX8_begins_54 lm_0 rfl ?_
        refine ta_iloadn hE dX8_begins_57 rfl ?_
        refine ta_iconst (v := 0) hE dX8_begins_58 rfl ⟨by decide, by decide⟩ ?_
        refine ta_iast (n' := 2) hE dX8_begins_59 lm_14 rfl (fun _ _ => ?_)
        refine ta_nmm (fun m59 => ?_)
        refine ta_iincn (lv2 := fun v2_60 => [tr_ 0, tj_, ti_ v2_60]) hE dX8_begins_60 rfl rfl rfl (fun v2_60 => ?_)
        refine ta_goto (tgt := 41) hE dX8_begins_63 (by decide) ?_
        exact (hself41 v2_60 m59))
  exact (ta_wk (i := 1) (lv2 := [tr_ 0, tj_, ti_ 0]) rfl (hl41 tg_FU 0 m36))
noncomputable def f_X8_next (a0 : Int) (m : tg_Mem) : tg_R :=
  if m 0 15 ≠ 0 then
    if a0 ≠ 0 then
      tg_ck (0 ≤ tg_wi ((m 0 15) - 1) ∧ tg_wi ((m 0 15) - 1) < 64) (
        some (m 12 (tg_wi ((m 0 15) - 1)).toNat, m))
    else
      tg_ck (0 ≤ 0 ∧ 0 < 64) (
        some (m 12 0, m))
  else
    some ((-1), m)
theorem hy_X8_next : yX8_next.cls = RX8 ∧ yX8_next.cls ≠ "java/lang/invoke/MethodHandle" ∧ yX8_next.cls ≠ "java/lang/invoke/VarHandle" ∧ (parseMethodDescriptor yX8_next.desc).map (fun q => q.parameters.length) = some 1 := by decide +kernel
set_option maxRecDepth 100000 in
set_option maxHeartbeats 4000000 in
theorem k_X8_next   (a0 : Int) (m : tg_Mem) : tg_C yX8_next cX8_next 2 (some .int) 1 LM [tr_ 0, ti_ a0] (f_X8_next a0 m) m := by
  refine ta_enter2 (own := RX8) (by decide +kernel) rfl rfl (Nat.le_of_ble_eq_true rfl) rfl (fun E hE => ?_)
  unfold f_X8_next
  refine ta_aloadn hE dX8_next_0 rfl ?_
  refine gf_X8_150 hE dX8_next_1 lm_0 rfl ?_
  refine ta_if_ne (tgt := 11) hE dX8_next_4 (by decide) (fun c4 => ?_) (fun c4 => ?_)
  · refine ta_iloadn hE dX8_next_11 rfl ?_
    refine ta_if_ne (tgt := 24) hE dX8_next_12 (by decide) (fun c12 => ?_) (fun c12 => ?_)
    · refine ta_aloadn hE dX8_next_24 rfl ?_
      refine gr_X8_43 hE dX8_next_25 lm_0 rfl ?_
      refine ta_aloadn hE dX8_next_28 rfl ?_
      refine gf_X8_150 hE dX8_next_29 lm_0 rfl ?_
      refine ta_iconst (v := 1) hE dX8_next_32 rfl ⟨by decide, by decide⟩ ?_
      refine ta_isub hE dX8_next_33 ?_
      refine ta_iald (n' := 64) hE dX8_next_34 lm_12 rfl (fun _ _ => ?_)
      exact ta_iret hE dX8_next_35
    · refine ta_aloadn hE dX8_next_15 rfl ?_
      refine gr_X8_43 hE dX8_next_16 lm_0 rfl ?_
      refine ta_iconst (v := 0) hE dX8_next_19 rfl ⟨by decide, by decide⟩ ?_
      refine ta_iald (n' := 64) hE dX8_next_20 lm_12 rfl (fun _ _ => ?_)
      refine ta_goto (tgt := 35) hE dX8_next_21 (by decide) ?_
      exact ta_iret hE dX8_next_35
  · refine ta_iconst (v := (-1)) hE dX8_next_7 rfl ⟨by decide, by decide⟩ ?_
    refine ta_goto (tgt := 35) hE dX8_next_8 (by decide) ?_
    exact ta_iret hE dX8_next_35
noncomputable def f_X8_otherEnd (a0 : Int) (a1 : Int) (m : tg_Mem) : tg_R :=
  tg_ck (0 ≤ tg_wi (3 * a0) ∧ tg_wi (3 * a0) < 24) (
    tg_ck (0 ≤ tg_wi ((tg_wi (3 * a0)) + 1) ∧ tg_wi ((tg_wi (3 * a0)) + 1) < 24) (
      some (tg_wi ((tg_wi ((m 7 (tg_wi (3 * a0)).toNat) + (m 7 (tg_wi ((tg_wi (3 * a0)) + 1)).toNat))) - a1), m)))
theorem hy_X8_otherEnd : yX8_otherEnd.cls = RX8 ∧ yX8_otherEnd.cls ≠ "java/lang/invoke/MethodHandle" ∧ yX8_otherEnd.cls ≠ "java/lang/invoke/VarHandle" ∧ (parseMethodDescriptor yX8_otherEnd.desc).map (fun q => q.parameters.length) = some 2 := by decide +kernel
set_option maxRecDepth 100000 in
set_option maxHeartbeats 4000000 in
theorem k_X8_otherEnd   (a0 : Int) (a1 : Int) (m : tg_Mem) : tg_C yX8_otherEnd cX8_otherEnd 3 (some .int) 1 LM [tr_ 0, ti_ a0, ti_ a1] (f_X8_otherEnd a0 a1 m) m := by
  refine ta_enter2 (own := RX8) (by decide +kernel) rfl rfl (Nat.le_of_ble_eq_true rfl) rfl (fun E hE => ?_)
  unfold f_X8_otherEnd
  refine ta_aloadn hE dX8_otherEnd_0 rfl ?_
  refine gr_X8_28 hE dX8_otherEnd_1 lm_0 rfl ?_
  refine ta_iconst (v := 3) hE dX8_otherEnd_4 rfl ⟨by decide, by decide⟩ ?_
  refine ta_iloadn hE dX8_otherEnd_5 rfl ?_
  refine ta_imul hE dX8_otherEnd_6 ?_
  refine ta_iald (n' := 24) hE dX8_otherEnd_7 lm_7 rfl (fun _ _ => ?_)
  refine ta_aloadn hE dX8_otherEnd_8 rfl ?_
  refine gr_X8_28 hE dX8_otherEnd_9 lm_0 rfl ?_
  refine ta_iconst (v := 3) hE dX8_otherEnd_12 rfl ⟨by decide, by decide⟩ ?_
  refine ta_iloadn hE dX8_otherEnd_13 rfl ?_
  refine ta_imul hE dX8_otherEnd_14 ?_
  refine ta_iconst (v := 1) hE dX8_otherEnd_15 rfl ⟨by decide, by decide⟩ ?_
  refine ta_iadd hE dX8_otherEnd_16 ?_
  refine ta_iald (n' := 24) hE dX8_otherEnd_17 lm_7 rfl (fun _ _ => ?_)
  refine ta_iadd hE dX8_otherEnd_18 ?_
  refine ta_iloadn hE dX8_otherEnd_19 rfl ?_
  refine ta_isub hE dX8_otherEnd_20 ?_
  exact ta_iret hE dX8_otherEnd_21
noncomputable def f_X8_goes_B125 (j152 : tg_Mem → tg_R) (self125 : Int → tg_Mem → tg_R) (v4_125 : Int) (m_125 : tg_Mem) : tg_R :=
  if v4_125 ≤ 0 then
    j152 m_125
  else
    tg_ck (0 ≤ tg_wi (v4_125 - 1) ∧ tg_wi (v4_125 - 1) < 64) (
      tg_ck (0 ≤ v4_125 ∧ v4_125 < 64) (
        tg_lt (tg_up m_125 12 (v4_125).toNat (m_125 12 (tg_wi (v4_125 - 1)).toNat)) (fun m145 =>
          tg_lt (tg_wi (v4_125 + (-1))) (fun v4_146 =>
            self125 v4_146 m145))))
noncomputable def f_X8_goes_B80 (j111 : tg_Mem → tg_R) (self80 : Int → tg_Mem → tg_R) (v4_80 : Int) (m_80 : tg_Mem) : tg_R :=
  if m_80 0 15 ≤ v4_80 then
    j111 m_80
  else
    tg_ck (0 ≤ v4_80 ∧ v4_80 < 64) (
      tg_ck (0 ≤ tg_wi (v4_80 - 1) ∧ tg_wi (v4_80 - 1) < 64) (
        tg_lt (tg_up m_80 12 (tg_wi (v4_80 - 1)).toNat (m_80 12 (v4_80).toNat)) (fun m104 =>
          tg_lt (tg_wi (v4_80 + 1)) (fun v4_105 =>
            self80 v4_105 m104))))
noncomputable def f_X8_goes (a0 : Int) (a1 : Int) (m : tg_Mem) : tg_R :=
  tg_bd (f_X8_next a0 m) (fun r2 m2 =>
    tg_jn (γ := Int → tg_R) (fun (s0_14 : Int) => tg_ck (0 ≤ a0 ∧ a0 < 2) (
      tg_bd (f_X8_otherEnd a1 (m2 11 (a0).toNat) m2) (fun r28 m28 =>
        tg_ck (0 ≤ a0 ∧ a0 < 2) (
          tg_lt (tg_up m28 11 (a0).toNat r28) (fun m31 =>
            tg_jn (γ := Int → tg_R) (fun (s0_65 : Int) => tg_lt (tg_up m31 0 16 (tg_wi ((m31 0 16) + s0_65))) (fun m66 =>
              tg_jn (γ := tg_Mem → tg_R) (fun (m_111 : tg_Mem) => tg_jn (γ := tg_Mem → tg_R) (fun (m_159 : tg_Mem) => tg_jn (γ := tg_Mem → tg_R) (fun (m_178 : tg_Mem) => tg_jn (γ := Int → tg_R) (fun (s0_192 : Int) => tg_lt (tg_up m_178 0 15 (tg_wi ((m_178 0 15) + s0_192))) (fun m193 =>
                some (0, m193))) (fun j192 =>
                if s0_14 = 0 then
                  j192 1
                else
                  j192 (-1))) (fun j178 =>
                if a0 ≠ 1 then
                  j178 m_159
                else
                  if s0_14 ≠ 0 then
                    j178 m_159
                  else
                    tg_ck (0 ≤ m_159 0 15 ∧ m_159 0 15 < 64) (
                      tg_lt (tg_up m_159 12 (m_159 0 15).toNat a1) (fun m177 =>
                        j178 m177)))) (fun j159 =>
                if a0 ≠ 0 then
                  j159 m_111
                else
                  if s0_14 ≠ 0 then
                    j159 m_111
                  else
                    tg_lt (m_111 0 15) (fun v4_123 =>
                      tg_jn (γ := tg_Mem → tg_R) (fun (m_152 : tg_Mem) => tg_ck (0 ≤ 0 ∧ 0 < 64) (
                        tg_lt (tg_up m_152 12 0 a1) (fun m158 =>
                          j159 m158))) (fun j152 =>
                        tg_fx (γ := Int → tg_Mem → tg_R) (f_X8_goes_B125 j152) (fun _ _ => none) tg_FU v4_123 m_111)))) (fun j111 =>
                if a0 ≠ 0 then
                  j111 m66
                else
                  if s0_14 = 0 then
                    j111 m66
                  else
                    tg_fx (γ := Int → tg_Mem → tg_R) (f_X8_goes_B80 j111) (fun _ _ => none) tg_FU 1 m66))) (fun j65 =>
              if s0_14 = 0 then
                tg_ck (0 ≤ tg_wi ((tg_wi (3 * a1)) + 2) ∧ tg_wi ((tg_wi (3 * a1)) + 2) < 24) (
                  j65 (m31 7 (tg_wi ((tg_wi (3 * a1)) + 2)).toNat))
              else
                tg_ck (0 ≤ tg_wi ((tg_wi (3 * a1)) + 2) ∧ tg_wi ((tg_wi (3 * a1)) + 2) < 24) (
                  j65 (tg_wi (-(m31 7 (tg_wi ((tg_wi (3 * a1)) + 2)).toNat)))))))))) (fun j14 =>
      if r2 ≠ a1 then
        j14 0
      else
        j14 1))
theorem hy_X8_goes : yX8_goes.cls = RX8 ∧ yX8_goes.cls ≠ "java/lang/invoke/MethodHandle" ∧ yX8_goes.cls ≠ "java/lang/invoke/VarHandle" ∧ (parseMethodDescriptor yX8_goes.desc).map (fun q => q.parameters.length) = some 2 := by decide +kernel
set_option maxRecDepth 100000 in
set_option maxHeartbeats 4000000 in
theorem k_X8_goes   (a0 : Int) (a1 : Int) (m : tg_Mem) : tg_C yX8_goes cX8_goes 5 none 2 LM [tr_ 0, ti_ a0, ti_ a1] (f_X8_goes a0 a1 m) m := by
  refine ta_enter2 (own := RX8) (by decide +kernel) rfl rfl (Nat.le_of_ble_eq_true rfl) rfl (fun E hE => ?_)
  unfold f_X8_goes
  refine ta_aloadn hE dX8_goes_0 rfl ?_
  refine ta_iloadn hE dX8_goes_1 rfl ?_
  refine ta_callV (C := RX8) (T := TX8) (st := []) hE dX8_goes_2 (k_X8_next a0 m) ml_X8_153 im_X8_next se_X8_next in_X8 co_X8_next hy_X8_next ⟨Nat.le_of_ble_eq_true rfl, Nat.le_of_ble_eq_true rfl⟩ lm_0 rfl rfl rfl (fun _ => Nat.le_of_ble_eq_true rfl) (fun r2 m2 hx2 hr2 => ?_)
  change tg_AW E _ _ _ _ _ (ti_ r2 :: _) _
  refine ta_iloadn hE dX8_goes_5 rfl ?_
  refine ta_join (γ := Int → tg_R) (fun J => ∀ (s0_14 : Int), tg_AW E LM none (J s0_14) 14 [tr_ 0, ti_ a0, ti_ a1, tj_, tj_] [ti_ s0_14] m2) ?_ (fun j14 hj14 => ?_)
  · intro s0_14
    refine ta_istoren (lv2 := [tr_ 0, ti_ a0, ti_ a1, ti_ s0_14, tj_]) hE dX8_goes_14 (Nat.le_of_ble_eq_true rfl) rfl rfl ?_
    refine ta_aloadn hE dX8_goes_15 rfl ?_
    refine gr_X8_40 hE dX8_goes_16 lm_0 rfl ?_
    refine ta_iloadn hE dX8_goes_19 rfl ?_
    refine ta_aloadn hE dX8_goes_20 rfl ?_
    refine ta_iloadn hE dX8_goes_21 rfl ?_
    refine ta_aloadn hE dX8_goes_22 rfl ?_
    refine gr_X8_40 hE dX8_goes_23 lm_0 rfl ?_
    refine ta_iloadn hE dX8_goes_26 rfl ?_
    refine ta_iald (n' := 2) hE dX8_goes_27 lm_11 rfl (fun _ _ => ?_)
    refine ta_callV (C := RX8) (T := TX8) (st := [ti_ a0, tr_ 11]) hE dX8_goes_28 (k_X8_otherEnd a1 (m2 11 (a0).toNat) m2) ml_X8_156 im_X8_otherEnd se_X8_otherEnd in_X8 co_X8_otherEnd hy_X8_otherEnd ⟨Nat.le_of_ble_eq_true rfl, Nat.le_of_ble_eq_true rfl⟩ lm_0 rfl rfl rfl (fun _ => Nat.le_of_ble_eq_true rfl) (fun r28 m28 hx28 hr28 => ?_)
    change tg_AW E _ _ _ _ _ (ti_ r28 :: _) _
    refine ta_iast (n' := 2) hE dX8_goes_31 lm_11 rfl (fun _ _ => ?_)
    refine ta_nmm (fun m31 => ?_)
    refine ta_aloadn hE dX8_goes_32 rfl ?_
    refine ta_dup hE dX8_goes_33 (fun _ => rfl) ?_
    refine gf_X8_159 hE dX8_goes_34 lm_0 rfl ?_
    refine ta_iloadn hE dX8_goes_37 rfl ?_
    refine ta_join (γ := Int → tg_R) (fun J => ∀ (s0_65 : Int), tg_AW E LM none (J s0_65) 65 [tr_ 0, ti_ a0, ti_ a1, ti_ s0_14, tj_] [ti_ s0_65, ti_ (m31 0 16), tr_ 0] m31) ?_ (fun j65 hj65 => ?_)
    · intro s0_65
      refine ta_iadd hE dX8_goes_65 ?_
      refine pf_X8_159 hE dX8_goes_66 lm_0 rfl ?_
      refine ta_nmm (fun m66 => ?_)
      refine ta_iloadn hE dX8_goes_69 rfl ?_
      refine ta_join (γ := tg_Mem → tg_R) (fun J => ∀ (m_111 : tg_Mem), tg_AW E LM none (J m_111) 111 [tr_ 0, ti_ a0, ti_ a1, ti_ s0_14, tj_] [] m_111) ?_ (fun j111 hj111 => ?_)
      · intro m_111
        refine ta_iloadn hE dX8_goes_111 rfl ?_
        refine ta_join (γ := tg_Mem → tg_R) (fun J => ∀ (m_159 : tg_Mem), tg_AW E LM none (J m_159) 159 [tr_ 0, ti_ a0, ti_ a1, ti_ s0_14, tj_] [] m_159) ?_ (fun j159 hj159 => ?_)
        · intro m_159
          refine ta_iloadn hE dX8_goes_159 rfl ?_
          refine ta_iconst (v := 1) hE dX8_goes_160 rfl ⟨by decide, by decide⟩ ?_
          refine ta_join (γ := tg_Mem → tg_R) (fun J => ∀ (m_178 : tg_Mem), tg_AW E LM none (J m_178) 178 [tr_ 0, tj_, tj_, ti_ s0_14, tj_] [] m_178) ?_ (fun j178 hj178 => ?_)
          · intro m_178
            refine ta_aloadn hE dX8_goes_178 rfl ?_
            refine ta_dup hE dX8_goes_179 (fun _ => rfl) ?_
            refine gf_X8_150 hE dX8_goes_180 lm_0 rfl ?_
            refine ta_iloadn hE dX8_goes_183 rfl ?_
            refine ta_join (γ := Int → tg_R) (fun J => ∀ (s0_192 : Int), tg_AW E LM none (J s0_192) 192 [tj_, tj_, tj_, tj_, tj_] [ti_ s0_192, ti_ (m_178 0 15), tr_ 0] m_178) ?_ (fun j192 hj192 => ?_)
            · intro s0_192
              refine ta_iadd hE dX8_goes_192 ?_
              refine pf_X8_150 hE dX8_goes_193 lm_0 rfl ?_
              refine ta_nmm (fun m193 => ?_)
              exact ta_vret hE dX8_goes_196
            · refine ta_if_eq (tgt := 191) hE dX8_goes_184 (by decide) (fun c184 => ?_) (fun c184 => ?_)
              · refine ta_iconst (v := 1) hE dX8_goes_191 rfl ⟨by decide, by decide⟩ ?_
                exact (ta_wk (i := 0) (lv2 := [tj_, tj_, tj_, ti_ s0_14, tj_]) rfl (ta_wk (i := 3) (lv2 := [tj_, tj_, tj_, tj_, tj_]) rfl (hj192 1)))
              · refine ta_iconst (v := (-1)) hE dX8_goes_187 rfl ⟨by decide, by decide⟩ ?_
                refine ta_goto (tgt := 192) hE dX8_goes_188 (by decide) ?_
                exact (ta_wk (i := 0) (lv2 := [tj_, tj_, tj_, ti_ s0_14, tj_]) rfl (ta_wk (i := 3) (lv2 := [tj_, tj_, tj_, tj_, tj_]) rfl (hj192 (-1))))
          · refine ta_icmp_ne (tgt := 178) hE dX8_goes_161 (by decide) (fun c161 => ?_) (fun c161 => ?_)
            · exact (ta_wk (i := 1) (lv2 := [tr_ 0, tj_, ti_ a1, ti_ s0_14, tj_]) rfl (ta_wk (i := 2) (lv2 := [tr_ 0, tj_, tj_, ti_ s0_14, tj_]) rfl (hj178 m_159)))
            · refine ta_iloadn hE dX8_goes_164 rfl ?_
              refine ta_if_ne (tgt := 178) hE dX8_goes_165 (by decide) (fun c165 => ?_) (fun c165 => ?_)
              · exact (ta_wk (i := 1) (lv2 := [tr_ 0, tj_, ti_ a1, ti_ s0_14, tj_]) rfl (ta_wk (i := 2) (lv2 := [tr_ 0, tj_, tj_, ti_ s0_14, tj_]) rfl (hj178 m_159)))
              · refine ta_aloadn hE dX8_goes_168 rfl ?_
                refine gr_X8_43 hE dX8_goes_169 lm_0 rfl ?_
                refine ta_aloadn hE dX8_goes_172 rfl ?_
                refine gf_X8_150 hE dX8_goes_173 lm_0 rfl ?_
                refine ta_iloadn hE dX8_goes_176 rfl ?_
                refine ta_iast (n' := 64) hE dX8_goes_177 lm_12 rfl (fun _ _ => ?_)
                refine ta_nmm (fun m177 => ?_)
                exact (ta_wk (i := 1) (lv2 := [tr_ 0, tj_, ti_ a1, ti_ s0_14, tj_]) rfl (ta_wk (i := 2) (lv2 := [tr_ 0, tj_, tj_, ti_ s0_14, tj_]) rfl (hj178 m177)))
        · refine ta_if_ne (tgt := 159) hE dX8_goes_112 (by decide) (fun c112 => ?_) (fun c112 => ?_)
          · exact (hj159 m_111)
          · refine ta_iloadn hE dX8_goes_115 rfl ?_
            refine ta_if_ne (tgt := 159) hE dX8_goes_116 (by decide) (fun c116 => ?_) (fun c116 => ?_)
            · exact (hj159 m_111)
            · refine ta_aloadn hE dX8_goes_119 rfl ?_
              refine gf_X8_150 hE dX8_goes_120 lm_0 rfl ?_
              refine ta_nmi (fun v4_123 => ?_)
              refine ta_istore (lv2 := [tr_ 0, ti_ a0, ti_ a1, ti_ s0_14, ti_ v4_123]) hE dX8_goes_123 (Nat.le_of_ble_eq_true rfl) rfl rfl ?_
              refine ta_join (γ := tg_Mem → tg_R) (fun J => ∀ (m_152 : tg_Mem), tg_AW E LM none (J m_152) 152 [tr_ 0, ti_ a0, ti_ a1, ti_ s0_14, tj_] [] m_152) ?_ (fun j152 hj152 => ?_)
              · intro m_152
                refine ta_aloadn hE dX8_goes_152 rfl ?_
                refine gr_X8_43 hE dX8_goes_153 lm_0 rfl ?_
                refine ta_iconst (v := 0) hE dX8_goes_156 rfl ⟨by decide, by decide⟩ ?_
                refine ta_iloadn hE dX8_goes_157 rfl ?_
                refine ta_iast (n' := 64) hE dX8_goes_158 lm_12 rfl (fun _ _ => ?_)
                refine ta_nmm (fun m158 => ?_)
                exact (hj159 m158)
              · have hl125 := ta_fx (γ := Int → tg_Mem → tg_R) (F := (f_X8_goes_B125 j152)) (z := (fun _ _ => none)) (fun J => ∀ (v4_125 : Int) (m_125 : tg_Mem), tg_AW E LM none (J v4_125 m_125) 125 [tr_ 0, ti_ a0, ti_ a1, ti_ s0_14, ti_ v4_125] [] m_125) (by intros; exact ta_none) (fun self125 hself125 => by
                    intro v4_125 m_125
                    unfold f_X8_goes_B125
                    refine ta_iload hE dX8_goes_125 rfl ?_
                    refine ta_if_le (tgt := 152) hE dX8_goes_127 (by decide) (fun c127 => ?_) (fun c127 => ?_)
                    · exact (ta_wk (i := 4) (lv2 := [tr_ 0, ti_ a0, ti_ a1, ti_ s0_14, tj_]) rfl (hj152 m_125))
                    · refine ta_aloadn hE dX8_goes_130 rfl ?_
                      refine gr_X8_43 hE dX8_goes_131 lm_0 rfl ?_
                      refine ta_iload hE dX8_goes_134 rfl ?_
                      refine ta_aloadn hE dX8_goes_136 rfl ?_
                      refine gr_X8_43 hE dX8_goes_137 lm_0 rfl ?_
                      refine ta_iload hE dX8_goes_140 rfl ?_
                      refine ta_iconst (v := 1) hE dX8_goes_142 rfl ⟨by decide, by decide⟩ ?_
                      refine ta_isub hE dX8_goes_143 ?_
                      refine ta_iald (n' := 64) hE dX8_goes_144 lm_12 rfl (fun _ _ => ?_)
                      refine ta_iast (n' := 64) hE dX8_goes_145 lm_12 rfl (fun _ _ => ?_)
                      refine ta_nmm (fun m145 => ?_)
                      refine ta_iincn (lv2 := fun v4_146 => [tr_ 0, ti_ a0, ti_ a1, ti_ s0_14, ti_ v4_146]) hE dX8_goes_146 rfl rfl rfl (fun v4_146 => ?_)
                      refine ta_goto (tgt := 125) hE dX8_goes_149 (by decide) ?_
                      exact (hself125 v4_146 m145))
                exact (hl125 tg_FU v4_123 m_111)
      · refine ta_if_ne (tgt := 111) hE dX8_goes_70 (by decide) (fun c70 => ?_) (fun c70 => ?_)
        · exact (hj111 m66)
        · refine ta_iloadn hE dX8_goes_73 rfl ?_
          refine ta_if_eq (tgt := 111) hE dX8_goes_74 (by decide) (fun c74 => ?_) (fun c74 => ?_)
          · exact (hj111 m66)
          · refine ta_iconst (v := 1) hE dX8_goes_77 rfl ⟨by decide, by decide⟩ ?_
            refine ta_istore (lv2 := [tr_ 0, ti_ a0, ti_ a1, ti_ s0_14, ti_ 1]) hE dX8_goes_78 (Nat.le_of_ble_eq_true rfl) rfl rfl ?_
            have hl80 := ta_fx (γ := Int → tg_Mem → tg_R) (F := (f_X8_goes_B80 j111)) (z := (fun _ _ => none)) (fun J => ∀ (v4_80 : Int) (m_80 : tg_Mem), tg_AW E LM none (J v4_80 m_80) 80 [tr_ 0, ti_ a0, ti_ a1, ti_ s0_14, ti_ v4_80] [] m_80) (by intros; exact ta_none) (fun self80 hself80 => by
                intro v4_80 m_80
                unfold f_X8_goes_B80
                refine ta_iload hE dX8_goes_80 rfl ?_
                refine ta_aloadn hE dX8_goes_82 rfl ?_
                refine gf_X8_150 hE dX8_goes_83 lm_0 rfl ?_
                refine ta_icmp_ge (tgt := 111) hE dX8_goes_86 (by decide) (fun c86 => ?_) (fun c86 => ?_)
                · exact (ta_wk (i := 4) (lv2 := [tr_ 0, ti_ a0, ti_ a1, ti_ s0_14, tj_]) rfl (hj111 m_80))
                · refine ta_aloadn hE dX8_goes_89 rfl ?_
                  refine gr_X8_43 hE dX8_goes_90 lm_0 rfl ?_
                  refine ta_iload hE dX8_goes_93 rfl ?_
                  refine ta_iconst (v := 1) hE dX8_goes_95 rfl ⟨by decide, by decide⟩ ?_
                  refine ta_isub hE dX8_goes_96 ?_
                  refine ta_aloadn hE dX8_goes_97 rfl ?_
                  refine gr_X8_43 hE dX8_goes_98 lm_0 rfl ?_
                  refine ta_iload hE dX8_goes_101 rfl ?_
                  refine ta_iald (n' := 64) hE dX8_goes_103 lm_12 rfl (fun _ _ => ?_)
                  refine ta_iast (n' := 64) hE dX8_goes_104 lm_12 rfl (fun _ _ => ?_)
                  refine ta_nmm (fun m104 => ?_)
                  refine ta_iincn (lv2 := fun v4_105 => [tr_ 0, ti_ a0, ti_ a1, ti_ s0_14, ti_ v4_105]) hE dX8_goes_105 rfl rfl rfl (fun v4_105 => ?_)
                  refine ta_goto (tgt := 80) hE dX8_goes_108 (by decide) ?_
                  exact (hself80 v4_105 m104))
            exact (hl80 tg_FU 1 m66)
    · refine ta_if_eq (tgt := 55) hE dX8_goes_38 (by decide) (fun c38 => ?_) (fun c38 => ?_)
      · refine ta_aloadn hE dX8_goes_55 rfl ?_
        refine gr_X8_28 hE dX8_goes_56 lm_0 rfl ?_
        refine ta_iconst (v := 3) hE dX8_goes_59 rfl ⟨by decide, by decide⟩ ?_
        refine ta_iloadn hE dX8_goes_60 rfl ?_
        refine ta_imul hE dX8_goes_61 ?_
        refine ta_iconst (v := 2) hE dX8_goes_62 rfl ⟨by decide, by decide⟩ ?_
        refine ta_iadd hE dX8_goes_63 ?_
        refine ta_iald (n' := 24) hE dX8_goes_64 lm_7 rfl (fun _ _ => ?_)
        exact (hj65 (m31 7 (tg_wi ((tg_wi (3 * a1)) + 2)).toNat))
      · refine ta_aloadn hE dX8_goes_41 rfl ?_
        refine gr_X8_28 hE dX8_goes_42 lm_0 rfl ?_
        refine ta_iconst (v := 3) hE dX8_goes_45 rfl ⟨by decide, by decide⟩ ?_
        refine ta_iloadn hE dX8_goes_46 rfl ?_
        refine ta_imul hE dX8_goes_47 ?_
        refine ta_iconst (v := 2) hE dX8_goes_48 rfl ⟨by decide, by decide⟩ ?_
        refine ta_iadd hE dX8_goes_49 ?_
        refine ta_iald (n' := 24) hE dX8_goes_50 lm_7 rfl (fun _ _ => ?_)
        refine ta_ineg hE dX8_goes_51 ?_
        refine ta_goto (tgt := 65) hE dX8_goes_52 (by decide) ?_
        exact (hj65 (tg_wi (-(m31 7 (tg_wi ((tg_wi (3 * a1)) + 2)).toNat))))
  · refine ta_icmp_ne (tgt := 13) hE dX8_goes_6 (by decide) (fun c6 => ?_) (fun c6 => ?_)
    · refine ta_iconst (v := 0) hE dX8_goes_13 rfl ⟨by decide, by decide⟩ ?_
      exact (hj14 0)
    · refine ta_iconst (v := 1) hE dX8_goes_9 rfl ⟨by decide, by decide⟩ ?_
      refine ta_goto (tgt := 14) hE dX8_goes_10 (by decide) ?_
      exact (hj14 1)
noncomputable def f_X8_does_B14 (v2_4 : Int) (j56 : tg_Mem → tg_R) (self14 : tg_Mem → tg_R) (m_14 : tg_Mem) : tg_R :=
  tg_ck (0 ≤ 2 ∧ 2 < 3) (
    if m_14 0 16 ≤ m_14 9 2 then
      j56 m_14
    else
      tg_bd (f_X8_next (tg_wi (1 - v2_4)) m_14) (fun r35 m35 =>
        tg_bd (f_X8_goes (tg_wi (1 - v2_4)) r35 m35) (fun _ m38 =>
          tg_ck (0 ≤ tg_wi (1 - v2_4) ∧ tg_wi (1 - v2_4) < 2) (
            tg_ck (0 ≤ tg_wi (1 - v2_4) ∧ tg_wi (1 - v2_4) < 2) (
              tg_lt (tg_up m38 14 (tg_wi (1 - v2_4)).toNat (tg_wi ((m38 14 (tg_wi (1 - v2_4)).toNat) + 1))) (fun m52 =>
                self14 m52))))))
noncomputable def f_X8_does (a0 : Int) (m : tg_Mem) : tg_R :=
  tg_lt (tg_idiv a0 8) (fun v2_4 =>
    tg_bd (f_X8_goes v2_4 (tg_irem a0 8) m) (fun _ m11 =>
      tg_jn (γ := tg_Mem → tg_R) (fun (m_56 : tg_Mem) => tg_ck (0 ≤ v2_4 ∧ v2_4 < 2) (
        tg_lt (m_56 11 (v2_4).toNat) (fun v3_62 =>
          tg_ck (0 ≤ v2_4 ∧ v2_4 < 2) (
            tg_jn (γ := Int → tg_R) (fun (s0_91 : Int) => tg_ck (0 ≤ v2_4 ∧ v2_4 < 2) (
              tg_lt (tg_up m_56 13 (v2_4).toNat (tg_wi ((m_56 13 (v2_4).toNat) + s0_91))) (fun m92 =>
                tg_lt (tg_up m92 0 19 (tg_ior (m92 0 19) (tg_ishl 1 v3_62))) (fun m102 =>
                  some (0, m102))))) (fun j91 =>
              if tg_iand (tg_ishr (m_56 0 19) v3_62) 1 ≠ 0 then
                j91 0
              else
                tg_ck (0 ≤ v3_62 ∧ v3_62 < 8) (
                  j91 (m_56 10 (v3_62).toNat))))))) (fun j56 =>
        tg_fx (γ := tg_Mem → tg_R) (f_X8_does_B14 v2_4 j56) (fun _ => none) tg_FU m11)))
theorem hy_X8_does : yX8_does.cls = RX8 ∧ yX8_does.cls ≠ "java/lang/invoke/MethodHandle" ∧ yX8_does.cls ≠ "java/lang/invoke/VarHandle" ∧ (parseMethodDescriptor yX8_does.desc).map (fun q => q.parameters.length) = some 1 := by decide +kernel
set_option maxRecDepth 100000 in
set_option maxHeartbeats 4000000 in
theorem k_X8_does   (a0 : Int) (m : tg_Mem) : tg_C yX8_does cX8_does 4 none 3 LM [tr_ 0, ti_ a0] (f_X8_does a0 m) m := by
  refine ta_enter2 (own := RX8) (by decide +kernel) rfl rfl (Nat.le_of_ble_eq_true rfl) rfl (fun E hE => ?_)
  unfold f_X8_does
  refine ta_iloadn hE dX8_does_0 rfl ?_
  refine bp_8 hE dX8_does_1 ?_
  refine ta_idiv hE dX8_does_3 (by decide +kernel) ?_
  refine ta_nmi (fun v2_4 => ?_)
  refine ta_istoren (lv2 := [tr_ 0, ti_ a0, ti_ v2_4, tj_]) hE dX8_does_4 (Nat.le_of_ble_eq_true rfl) rfl rfl ?_
  refine ta_aloadn hE dX8_does_5 rfl ?_
  refine ta_iloadn hE dX8_does_6 rfl ?_
  refine ta_iloadn hE dX8_does_7 rfl ?_
  refine bp_8 hE dX8_does_8 ?_
  refine ta_irem hE dX8_does_10 (by decide +kernel) ?_
  refine ta_callV (C := RX8) (T := TX8) (st := []) hE dX8_does_11 (k_X8_goes v2_4 (tg_irem a0 8) m) ml_X8_180 im_X8_goes se_X8_goes in_X8 co_X8_goes hy_X8_goes ⟨Nat.le_of_ble_eq_true rfl, Nat.le_of_ble_eq_true rfl⟩ lm_0 rfl rfl rfl (fun _ => Nat.le_of_ble_eq_true rfl) (fun r11 m11 hx11 hr11 => ?_)
  change tg_AW E _ _ _ _ _ [] _
  refine ta_join (γ := tg_Mem → tg_R) (fun J => ∀ (m_56 : tg_Mem), tg_AW E LM none (J m_56) 56 [tr_ 0, tj_, ti_ v2_4, tj_] [] m_56) ?_ (fun j56 hj56 => ?_)
  · intro m_56
    refine ta_aloadn hE dX8_does_56 rfl ?_
    refine gr_X8_40 hE dX8_does_57 lm_0 rfl ?_
    refine ta_iloadn hE dX8_does_60 rfl ?_
    refine ta_iald (n' := 2) hE dX8_does_61 lm_11 rfl (fun _ _ => ?_)
    refine ta_nmi (fun v3_62 => ?_)
    refine ta_istoren (lv2 := [tr_ 0, tj_, ti_ v2_4, ti_ v3_62]) hE dX8_does_62 (Nat.le_of_ble_eq_true rfl) rfl rfl ?_
    refine ta_aloadn hE dX8_does_63 rfl ?_
    refine gr_X8_46 hE dX8_does_64 lm_0 rfl ?_
    refine ta_iloadn hE dX8_does_67 rfl ?_
    refine ta_dup2 hE dX8_does_68 (fun _ => rfl) (fun _ => rfl) ?_
    refine ta_iald (n' := 2) hE dX8_does_69 lm_13 rfl (fun _ _ => ?_)
    refine ta_aloadn hE dX8_does_70 rfl ?_
    refine gf_X8_162 hE dX8_does_71 lm_0 rfl ?_
    refine ta_iloadn hE dX8_does_74 rfl ?_
    refine ta_ishr hE dX8_does_75 ?_
    refine ta_iconst (v := 1) hE dX8_does_76 rfl ⟨by decide, by decide⟩ ?_
    refine ta_iand hE dX8_does_77 ?_
    refine ta_join (γ := Int → tg_R) (fun J => ∀ (s0_91 : Int), tg_AW E LM none (J s0_91) 91 [tr_ 0, tj_, tj_, ti_ v3_62] [ti_ s0_91, ti_ (m_56 13 (v2_4).toNat), ti_ v2_4, tr_ 13] m_56) ?_ (fun j91 hj91 => ?_)
    · intro s0_91
      refine ta_iadd hE dX8_does_91 ?_
      refine ta_iast (n' := 2) hE dX8_does_92 lm_13 rfl (fun _ _ => ?_)
      refine ta_nmm (fun m92 => ?_)
      refine ta_aloadn hE dX8_does_93 rfl ?_
      refine ta_dup hE dX8_does_94 (fun _ => rfl) ?_
      refine gf_X8_162 hE dX8_does_95 lm_0 rfl ?_
      refine ta_iconst (v := 1) hE dX8_does_98 rfl ⟨by decide, by decide⟩ ?_
      refine ta_iloadn hE dX8_does_99 rfl ?_
      refine ta_ishl hE dX8_does_100 ?_
      refine ta_ior hE dX8_does_101 ?_
      refine pf_X8_162 hE dX8_does_102 lm_0 rfl ?_
      refine ta_nmm (fun m102 => ?_)
      exact ta_vret hE dX8_does_105
    · refine ta_if_ne (tgt := 90) hE dX8_does_78 (by decide) (fun c78 => ?_) (fun c78 => ?_)
      · refine ta_iconst (v := 0) hE dX8_does_90 rfl ⟨by decide, by decide⟩ ?_
        exact (ta_wk (i := 2) (lv2 := [tr_ 0, tj_, tj_, ti_ v3_62]) rfl (hj91 0))
      · refine ta_aloadn hE dX8_does_81 rfl ?_
        refine gr_X8_37 hE dX8_does_82 lm_0 rfl ?_
        refine ta_iloadn hE dX8_does_85 rfl ?_
        refine ta_iald (n' := 8) hE dX8_does_86 lm_10 rfl (fun _ _ => ?_)
        refine ta_goto (tgt := 91) hE dX8_does_87 (by decide) ?_
        exact (ta_wk (i := 2) (lv2 := [tr_ 0, tj_, tj_, ti_ v3_62]) rfl (hj91 (m_56 10 (v3_62).toNat)))
  · have hl14 := ta_fx (γ := tg_Mem → tg_R) (F := (f_X8_does_B14 v2_4 j56)) (z := (fun _ => none)) (fun J => ∀ (m_14 : tg_Mem), tg_AW E LM none (J m_14) 14 [tr_ 0, tj_, ti_ v2_4, tj_] [] m_14) (by intros; exact ta_none) (fun self14 hself14 => by
        intro m_14
        unfold f_X8_does_B14
        refine ta_aloadn hE dX8_does_14 rfl ?_
        refine gf_X8_159 hE dX8_does_15 lm_0 rfl ?_
        refine ta_aloadn hE dX8_does_18 rfl ?_
        refine gr_X8_34 hE dX8_does_19 lm_0 rfl ?_
        refine ta_iconst (v := 2) hE dX8_does_22 rfl ⟨by decide, by decide⟩ ?_
        refine ta_iald (n' := 3) hE dX8_does_23 lm_9 rfl (fun _ _ => ?_)
        refine ta_icmp_le (tgt := 56) hE dX8_does_24 (by decide) (fun c24 => ?_) (fun c24 => ?_)
        · exact (hj56 m_14)
        · refine ta_aloadn hE dX8_does_27 rfl ?_
          refine ta_iconst (v := 1) hE dX8_does_28 rfl ⟨by decide, by decide⟩ ?_
          refine ta_iloadn hE dX8_does_29 rfl ?_
          refine ta_isub hE dX8_does_30 ?_
          refine ta_aloadn hE dX8_does_31 rfl ?_
          refine ta_iconst (v := 1) hE dX8_does_32 rfl ⟨by decide, by decide⟩ ?_
          refine ta_iloadn hE dX8_does_33 rfl ?_
          refine ta_isub hE dX8_does_34 ?_
          refine ta_callV (C := RX8) (T := TX8) (st := [ti_ (tg_wi (1 - v2_4)), tr_ 0]) hE dX8_does_35 (k_X8_next (tg_wi (1 - v2_4)) m_14) ml_X8_153 im_X8_next se_X8_next in_X8 co_X8_next hy_X8_next ⟨Nat.le_of_ble_eq_true rfl, Nat.le_of_ble_eq_true rfl⟩ lm_0 rfl rfl rfl (fun _ => Nat.le_of_ble_eq_true rfl) (fun r35 m35 hx35 hr35 => ?_)
          change tg_AW E _ _ _ _ _ (ti_ r35 :: _) _
          refine ta_callV (C := RX8) (T := TX8) (st := []) hE dX8_does_38 (k_X8_goes (tg_wi (1 - v2_4)) r35 m35) ml_X8_180 im_X8_goes se_X8_goes in_X8 co_X8_goes hy_X8_goes ⟨Nat.le_of_ble_eq_true rfl, Nat.le_of_ble_eq_true rfl⟩ lm_0 rfl rfl rfl (fun _ => Nat.le_of_ble_eq_true rfl) (fun r38 m38 hx38 hr38 => ?_)
          change tg_AW E _ _ _ _ _ [] _
          refine ta_aloadn hE dX8_does_41 rfl ?_
          refine gr_X8_49 hE dX8_does_42 lm_0 rfl ?_
          refine ta_iconst (v := 1) hE dX8_does_45 rfl ⟨by decide, by decide⟩ ?_
          refine ta_iloadn hE dX8_does_46 rfl ?_
          refine ta_isub hE dX8_does_47 ?_
          refine ta_dup2 hE dX8_does_48 (fun _ => rfl) (fun _ => rfl) ?_
          refine ta_iald (n' := 2) hE dX8_does_49 lm_14 rfl (fun _ _ => ?_)
          refine ta_iconst (v := 1) hE dX8_does_50 rfl ⟨by decide, by decide⟩ ?_
          refine ta_iadd hE dX8_does_51 ?_
          refine ta_iast (n' := 2) hE dX8_does_52 lm_14 rfl (fun _ _ => ?_)
          refine ta_nmm (fun m52 => ?_)
          refine ta_goto (tgt := 14) hE dX8_does_53 (by decide) ?_
          exact (hself14 m52))
    exact (ta_wk (i := 1) (lv2 := [tr_ 0, tj_, ti_ v2_4, tj_]) rfl (hl14 tg_FU m11))
noncomputable def f_X8_lengthBehind (a0 : Int) (a1 : Int) (m : tg_Mem) : tg_R :=
  tg_bd (f_X8_next a0 m) (fun r2 m2 =>
    if r2 ≠ a1 then
      tg_ck (0 ≤ tg_wi ((tg_wi (3 * a1)) + 2) ∧ tg_wi ((tg_wi (3 * a1)) + 2) < 24) (
        some (tg_wi ((m2 0 16) + (m2 7 (tg_wi ((tg_wi (3 * a1)) + 2)).toNat)), m2))
    else
      tg_ck (0 ≤ tg_wi ((tg_wi (3 * a1)) + 2) ∧ tg_wi ((tg_wi (3 * a1)) + 2) < 24) (
        some (tg_wi ((m2 0 16) - (m2 7 (tg_wi ((tg_wi (3 * a1)) + 2)).toNat)), m2)))
theorem hy_X8_lengthBehind : yX8_lengthBehind.cls = RX8 ∧ yX8_lengthBehind.cls ≠ "java/lang/invoke/MethodHandle" ∧ yX8_lengthBehind.cls ≠ "java/lang/invoke/VarHandle" ∧ (parseMethodDescriptor yX8_lengthBehind.desc).map (fun q => q.parameters.length) = some 2 := by decide +kernel
set_option maxRecDepth 100000 in
set_option maxHeartbeats 4000000 in
theorem k_X8_lengthBehind   (a0 : Int) (a1 : Int) (m : tg_Mem) : tg_C yX8_lengthBehind cX8_lengthBehind 3 (some .int) 2 LM [tr_ 0, ti_ a0, ti_ a1] (f_X8_lengthBehind a0 a1 m) m := by
  refine ta_enter2 (own := RX8) (by decide +kernel) rfl rfl (Nat.le_of_ble_eq_true rfl) rfl (fun E hE => ?_)
  unfold f_X8_lengthBehind
  refine ta_aloadn hE dX8_lengthBehind_0 rfl ?_
  refine ta_iloadn hE dX8_lengthBehind_1 rfl ?_
  refine ta_callV (C := RX8) (T := TX8) (st := []) hE dX8_lengthBehind_2 (k_X8_next a0 m) ml_X8_153 im_X8_next se_X8_next in_X8 co_X8_next hy_X8_next ⟨Nat.le_of_ble_eq_true rfl, Nat.le_of_ble_eq_true rfl⟩ lm_0 rfl rfl rfl (fun _ => Nat.le_of_ble_eq_true rfl) (fun r2 m2 hx2 hr2 => ?_)
  change tg_AW E _ _ _ _ _ (ti_ r2 :: _) _
  refine ta_iloadn hE dX8_lengthBehind_5 rfl ?_
  refine ta_icmp_ne (tgt := 27) hE dX8_lengthBehind_6 (by decide) (fun c6 => ?_) (fun c6 => ?_)
  · refine ta_aloadn hE dX8_lengthBehind_27 rfl ?_
    refine gf_X8_159 hE dX8_lengthBehind_28 lm_0 rfl ?_
    refine ta_aloadn hE dX8_lengthBehind_31 rfl ?_
    refine gr_X8_28 hE dX8_lengthBehind_32 lm_0 rfl ?_
    refine ta_iconst (v := 3) hE dX8_lengthBehind_35 rfl ⟨by decide, by decide⟩ ?_
    refine ta_iloadn hE dX8_lengthBehind_36 rfl ?_
    refine ta_imul hE dX8_lengthBehind_37 ?_
    refine ta_iconst (v := 2) hE dX8_lengthBehind_38 rfl ⟨by decide, by decide⟩ ?_
    refine ta_iadd hE dX8_lengthBehind_39 ?_
    refine ta_iald (n' := 24) hE dX8_lengthBehind_40 lm_7 rfl (fun _ _ => ?_)
    refine ta_iadd hE dX8_lengthBehind_41 ?_
    exact ta_iret hE dX8_lengthBehind_42
  · refine ta_aloadn hE dX8_lengthBehind_9 rfl ?_
    refine gf_X8_159 hE dX8_lengthBehind_10 lm_0 rfl ?_
    refine ta_aloadn hE dX8_lengthBehind_13 rfl ?_
    refine gr_X8_28 hE dX8_lengthBehind_14 lm_0 rfl ?_
    refine ta_iconst (v := 3) hE dX8_lengthBehind_17 rfl ⟨by decide, by decide⟩ ?_
    refine ta_iloadn hE dX8_lengthBehind_18 rfl ?_
    refine ta_imul hE dX8_lengthBehind_19 ?_
    refine ta_iconst (v := 2) hE dX8_lengthBehind_20 rfl ⟨by decide, by decide⟩ ?_
    refine ta_iadd hE dX8_lengthBehind_21 ?_
    refine ta_iald (n' := 24) hE dX8_lengthBehind_22 lm_7 rfl (fun _ _ => ?_)
    refine ta_isub hE dX8_lengthBehind_23 ?_
    refine ta_goto (tgt := 42) hE dX8_lengthBehind_24 (by decide) ?_
    exact ta_iret hE dX8_lengthBehind_42
noncomputable def f_X8_isBorne (a0 : Int) (m : tg_Mem) : tg_R :=
  tg_jn (γ := tg_Mem → tg_R) (fun (m_53 : tg_Mem) => some (0, m_53)) (fun j53 =>
    if a0 = (-1) then
      j53 m
    else
      tg_bd (f_X8_lengthBehind (tg_idiv a0 8) (tg_irem a0 8) m) (fun r14 m14 =>
        tg_ck (0 ≤ 2 ∧ 2 < 3) (
          tg_jn (γ := tg_R) (some (1, m14)) (fun j49 =>
            if r14 ≤ m14 9 2 then
              j49
            else
              tg_ck (0 ≤ tg_idiv a0 8 ∧ tg_idiv a0 8 < 3) (
                tg_ck (0 ≤ tg_wi (1 - (tg_idiv a0 8)) ∧ tg_wi (1 - (tg_idiv a0 8)) < 3) (
                  if m14 9 (tg_idiv a0 8).toNat ≤ m14 9 (tg_wi (1 - (tg_idiv a0 8))).toNat then
                    j53 m14
                  else
                    j49))))))
theorem hy_X8_isBorne : yX8_isBorne.cls = RX8 ∧ yX8_isBorne.cls ≠ "java/lang/invoke/MethodHandle" ∧ yX8_isBorne.cls ≠ "java/lang/invoke/VarHandle" ∧ (parseMethodDescriptor yX8_isBorne.desc).map (fun q => q.parameters.length) = some 1 := by decide +kernel
set_option maxRecDepth 100000 in
set_option maxHeartbeats 4000000 in
theorem k_X8_isBorne   (a0 : Int) (m : tg_Mem) : tg_C yX8_isBorne cX8_isBorne 2 (some .boolean) 3 LM [tr_ 0, ti_ a0] (f_X8_isBorne a0 m) m := by
  refine ta_enter2 (own := RX8) (by decide +kernel) rfl rfl (Nat.le_of_ble_eq_true rfl) rfl (fun E hE => ?_)
  unfold f_X8_isBorne
  refine ta_iloadn hE dX8_isBorne_0 rfl ?_
  refine ta_iconst (v := (-1)) hE dX8_isBorne_1 rfl ⟨by decide, by decide⟩ ?_
  refine ta_join (γ := tg_Mem → tg_R) (fun J => ∀ (m_53 : tg_Mem), tg_AW E LM (some .boolean) (J m_53) 53 [tj_, tj_] [] m_53) ?_ (fun j53 hj53 => ?_)
  · intro m_53
    refine ta_iconst (v := 0) hE dX8_isBorne_53 rfl ⟨by decide, by decide⟩ ?_
    exact ta_zret hE dX8_isBorne_54 (Or.inl rfl)
  · refine ta_icmp_eq (tgt := 53) hE dX8_isBorne_2 (by decide) (fun c2 => ?_) (fun c2 => ?_)
    · exact (ta_wk (i := 0) (lv2 := [tj_, ti_ a0]) rfl (ta_wk (i := 1) (lv2 := [tj_, tj_]) rfl (hj53 m)))
    · refine ta_aloadn hE dX8_isBorne_5 rfl ?_
      refine ta_iloadn hE dX8_isBorne_6 rfl ?_
      refine bp_8 hE dX8_isBorne_7 ?_
      refine ta_idiv hE dX8_isBorne_9 (by decide +kernel) ?_
      refine ta_iloadn hE dX8_isBorne_10 rfl ?_
      refine bp_8 hE dX8_isBorne_11 ?_
      refine ta_irem hE dX8_isBorne_13 (by decide +kernel) ?_
      refine ta_callV (C := RX8) (T := TX8) (st := []) hE dX8_isBorne_14 (k_X8_lengthBehind (tg_idiv a0 8) (tg_irem a0 8) m) ml_X8_177 im_X8_lengthBehind se_X8_lengthBehind in_X8 co_X8_lengthBehind hy_X8_lengthBehind ⟨Nat.le_of_ble_eq_true rfl, Nat.le_of_ble_eq_true rfl⟩ lm_0 rfl rfl rfl (fun _ => Nat.le_of_ble_eq_true rfl) (fun r14 m14 hx14 hr14 => ?_)
      change tg_AW E _ _ _ _ _ (ti_ r14 :: _) _
      refine ta_aloadn hE dX8_isBorne_17 rfl ?_
      refine gr_X8_34 hE dX8_isBorne_18 lm_0 rfl ?_
      refine ta_iconst (v := 2) hE dX8_isBorne_21 rfl ⟨by decide, by decide⟩ ?_
      refine ta_iald (n' := 3) hE dX8_isBorne_22 lm_9 rfl (fun _ _ => ?_)
      refine ta_join (γ := tg_R) (fun J => tg_AW E LM (some .boolean) J 49 [tj_, tj_] [] m14) ?_ (fun j49 hj49 => ?_)
      · refine ta_iconst (v := 1) hE dX8_isBorne_49 rfl ⟨by decide, by decide⟩ ?_
        refine ta_goto (tgt := 54) hE dX8_isBorne_50 (by decide) ?_
        exact ta_zret hE dX8_isBorne_54 (Or.inr rfl)
      · refine ta_icmp_le (tgt := 49) hE dX8_isBorne_23 (by decide) (fun c23 => ?_) (fun c23 => ?_)
        · exact (ta_wk (i := 0) (lv2 := [tj_, ti_ a0]) rfl (ta_wk (i := 1) (lv2 := [tj_, tj_]) rfl hj49))
        · refine ta_aloadn hE dX8_isBorne_26 rfl ?_
          refine gr_X8_34 hE dX8_isBorne_27 lm_0 rfl ?_
          refine ta_iloadn hE dX8_isBorne_30 rfl ?_
          refine bp_8 hE dX8_isBorne_31 ?_
          refine ta_idiv hE dX8_isBorne_33 (by decide +kernel) ?_
          refine ta_iald (n' := 3) hE dX8_isBorne_34 lm_9 rfl (fun _ _ => ?_)
          refine ta_aloadn hE dX8_isBorne_35 rfl ?_
          refine gr_X8_34 hE dX8_isBorne_36 lm_0 rfl ?_
          refine ta_iconst (v := 1) hE dX8_isBorne_39 rfl ⟨by decide, by decide⟩ ?_
          refine ta_iloadn hE dX8_isBorne_40 rfl ?_
          refine bp_8 hE dX8_isBorne_41 ?_
          refine ta_idiv hE dX8_isBorne_43 (by decide +kernel) ?_
          refine ta_isub hE dX8_isBorne_44 ?_
          refine ta_iald (n' := 3) hE dX8_isBorne_45 lm_9 rfl (fun _ _ => ?_)
          refine ta_icmp_le (tgt := 53) hE dX8_isBorne_46 (by decide) (fun c46 => ?_) (fun c46 => ?_)
          · exact (ta_wk (i := 0) (lv2 := [tj_, ti_ a0]) rfl (ta_wk (i := 1) (lv2 := [tj_, tj_]) rfl (hj53 m14)))
          · exact (ta_wk (i := 0) (lv2 := [tj_, ti_ a0]) rfl (ta_wk (i := 1) (lv2 := [tj_, tj_]) rfl hj49))
noncomputable def f_X8_touches (a0 : Int) (a1 : Int) (m : tg_Mem) : tg_R :=
  tg_ck (0 ≤ tg_wi (3 * a0) ∧ tg_wi (3 * a0) < 24) (
    tg_jn (γ := tg_R) (some (1, m)) (fun j26 =>
      if m 7 (tg_wi (3 * a0)).toNat = a1 then
        j26
      else
        tg_ck (0 ≤ tg_wi ((tg_wi (3 * a0)) + 1) ∧ tg_wi ((tg_wi (3 * a0)) + 1) < 24) (
          if m 7 (tg_wi ((tg_wi (3 * a0)) + 1)).toNat ≠ a1 then
            some (0, m)
          else
            j26)))
theorem hy_X8_touches : yX8_touches.cls = RX8 ∧ yX8_touches.cls ≠ "java/lang/invoke/MethodHandle" ∧ yX8_touches.cls ≠ "java/lang/invoke/VarHandle" ∧ (parseMethodDescriptor yX8_touches.desc).map (fun q => q.parameters.length) = some 2 := by decide +kernel
set_option maxRecDepth 100000 in
set_option maxHeartbeats 4000000 in
theorem k_X8_touches   (a0 : Int) (a1 : Int) (m : tg_Mem) : tg_C yX8_touches cX8_touches 3 (some .boolean) 1 LM [tr_ 0, ti_ a0, ti_ a1] (f_X8_touches a0 a1 m) m := by
  refine ta_enter2 (own := RX8) (by decide +kernel) rfl rfl (Nat.le_of_ble_eq_true rfl) rfl (fun E hE => ?_)
  unfold f_X8_touches
  refine ta_aloadn hE dX8_touches_0 rfl ?_
  refine gr_X8_28 hE dX8_touches_1 lm_0 rfl ?_
  refine ta_iconst (v := 3) hE dX8_touches_4 rfl ⟨by decide, by decide⟩ ?_
  refine ta_iloadn hE dX8_touches_5 rfl ?_
  refine ta_imul hE dX8_touches_6 ?_
  refine ta_iald (n' := 24) hE dX8_touches_7 lm_7 rfl (fun _ _ => ?_)
  refine ta_iloadn hE dX8_touches_8 rfl ?_
  refine ta_join (γ := tg_R) (fun J => tg_AW E LM (some .boolean) J 26 [tj_, tj_, tj_] [] m) ?_ (fun j26 hj26 => ?_)
  · refine ta_iconst (v := 1) hE dX8_touches_26 rfl ⟨by decide, by decide⟩ ?_
    refine ta_goto (tgt := 31) hE dX8_touches_27 (by decide) ?_
    exact ta_zret hE dX8_touches_31 (Or.inr rfl)
  · refine ta_icmp_eq (tgt := 26) hE dX8_touches_9 (by decide) (fun c9 => ?_) (fun c9 => ?_)
    · exact (ta_wk (i := 0) (lv2 := [tj_, ti_ a0, ti_ a1]) rfl (ta_wk (i := 1) (lv2 := [tj_, tj_, ti_ a1]) rfl (ta_wk (i := 2) (lv2 := [tj_, tj_, tj_]) rfl hj26)))
    · refine ta_aloadn hE dX8_touches_12 rfl ?_
      refine gr_X8_28 hE dX8_touches_13 lm_0 rfl ?_
      refine ta_iconst (v := 3) hE dX8_touches_16 rfl ⟨by decide, by decide⟩ ?_
      refine ta_iloadn hE dX8_touches_17 rfl ?_
      refine ta_imul hE dX8_touches_18 ?_
      refine ta_iconst (v := 1) hE dX8_touches_19 rfl ⟨by decide, by decide⟩ ?_
      refine ta_iadd hE dX8_touches_20 ?_
      refine ta_iald (n' := 24) hE dX8_touches_21 lm_7 rfl (fun _ _ => ?_)
      refine ta_iloadn hE dX8_touches_22 rfl ?_
      refine ta_icmp_ne (tgt := 30) hE dX8_touches_23 (by decide) (fun c23 => ?_) (fun c23 => ?_)
      · refine ta_iconst (v := 0) hE dX8_touches_30 rfl ⟨by decide, by decide⟩ ?_
        exact ta_zret hE dX8_touches_31 (Or.inl rfl)
      · exact (ta_wk (i := 0) (lv2 := [tj_, ti_ a0, ti_ a1]) rfl (ta_wk (i := 1) (lv2 := [tj_, tj_, ti_ a1]) rfl (ta_wk (i := 2) (lv2 := [tj_, tj_, tj_]) rfl hj26)))
noncomputable def f_X8_stepOf (a0 : Int) (a1 : Int) (m : tg_Mem) : tg_R :=
  tg_ck (0 ≤ tg_wi ((tg_wi (40 + (tg_wi (40 * a0)))) + a1) ∧ tg_wi ((tg_wi (40 + (tg_wi (40 * a0)))) + a1) < 120) (
    tg_lt (m 5 (tg_wi ((tg_wi (40 + (tg_wi (40 * a0)))) + a1)).toNat) (fun v3_14 =>
      tg_bd (f_X8_in v3_14 97 104 m) (fun r23 m23 =>
        tg_jn (γ := Int → tg_Mem → tg_R) (fun (s0_61 : Int) (m_61 : tg_Mem) => tg_jn (γ := tg_Mem → tg_R) (fun (m_108 : tg_Mem) => some ((-1), m_108)) (fun j108 =>
          if s0_61 = (-1) then
            j108 m_61
          else
            if m_61 0 8 ≤ tg_irem s0_61 8 then
              j108 m_61
            else
              tg_ck (0 ≤ tg_idiv s0_61 8 ∧ tg_idiv s0_61 8 < 2) (
                tg_bd (f_X8_touches (tg_irem s0_61 8) (m_61 11 (tg_idiv s0_61 8).toNat) m_61) (fun r97 m97 =>
                  if r97 = 0 then
                    j108 m97
                  else
                    some (s0_61, m97))))) (fun j61 =>
          if r23 = 0 then
            tg_bd (f_X8_in v3_14 65 72 m23) (fun r44 m44 =>
              if r44 = 0 then
                j61 (-1) m44
              else
                j61 (tg_wi ((tg_wi (8 + v3_14)) - 65)) m44)
          else
            j61 (tg_wi (v3_14 - 97)) m23))))
theorem hy_X8_stepOf : yX8_stepOf.cls = RX8 ∧ yX8_stepOf.cls ≠ "java/lang/invoke/MethodHandle" ∧ yX8_stepOf.cls ≠ "java/lang/invoke/VarHandle" ∧ (parseMethodDescriptor yX8_stepOf.desc).map (fun q => q.parameters.length) = some 2 := by decide +kernel
set_option maxRecDepth 100000 in
set_option maxHeartbeats 4000000 in
theorem k_X8_stepOf   (a0 : Int) (a1 : Int) (m : tg_Mem) : tg_C yX8_stepOf cX8_stepOf 5 (some .int) 2 LM [tr_ 0, ti_ a0, ti_ a1] (f_X8_stepOf a0 a1 m) m := by
  refine ta_enter2 (own := RX8) (by decide +kernel) rfl rfl (Nat.le_of_ble_eq_true rfl) rfl (fun E hE => ?_)
  unfold f_X8_stepOf
  refine ta_aloadn hE dX8_stepOf_0 rfl ?_
  refine gr_X8_22 hE dX8_stepOf_1 lm_0 rfl ?_
  refine bp_40 hE dX8_stepOf_4 ?_
  refine bp_40 hE dX8_stepOf_6 ?_
  refine ta_iloadn hE dX8_stepOf_8 rfl ?_
  refine ta_imul hE dX8_stepOf_9 ?_
  refine ta_iadd hE dX8_stepOf_10 ?_
  refine ta_iloadn hE dX8_stepOf_11 rfl ?_
  refine ta_iadd hE dX8_stepOf_12 ?_
  refine ta_iald (n' := 120) hE dX8_stepOf_13 lm_5 rfl (fun _ _ => ?_)
  refine ta_nmi (fun v3_14 => ?_)
  refine ta_istoren (lv2 := [tr_ 0, ti_ a0, ti_ a1, ti_ v3_14, tj_]) hE dX8_stepOf_14 (Nat.le_of_ble_eq_true rfl) rfl rfl ?_
  refine ta_iloadn hE dX8_stepOf_15 rfl ?_
  refine ta_i2l hE dX8_stepOf_16 ?_
  refine ta_ldc2 (v := 97) hE dX8_stepOf_17 lc_X8_165 ⟨by decide, by decide⟩ ?_
  refine ta_ldc2 (v := 104) hE dX8_stepOf_20 lc_X8_167 ⟨by decide, by decide⟩ ?_
  refine ta_callS (st := []) hE dX8_stepOf_23 (k_X8_in v3_14 97 104 m) ml_X8_77 st_X8_in in_X8 co_X8_in hy_X8_in.2 ⟨Nat.le_of_ble_eq_true rfl, Nat.le_of_ble_eq_true rfl⟩ rfl rfl (fun _ => Nat.le_of_ble_eq_true rfl) (fun r23 m23 hx23 hr23 => ?_)
  change tg_AW E _ _ _ _ _ (ti_ r23 :: _) _
  refine ta_join (γ := Int → tg_Mem → tg_R) (fun J => ∀ (s0_61 : Int) (m_61 : tg_Mem), tg_AW E LM (some .int) (J s0_61 m_61) 61 [tr_ 0, tj_, tj_, tj_, tj_] [ti_ s0_61] m_61) ?_ (fun j61 hj61 => ?_)
  · intro s0_61 m_61
    refine ta_istore (lv2 := [tr_ 0, tj_, tj_, tj_, ti_ s0_61]) hE dX8_stepOf_61 (Nat.le_of_ble_eq_true rfl) rfl rfl ?_
    refine ta_iload hE dX8_stepOf_63 rfl ?_
    refine ta_iconst (v := (-1)) hE dX8_stepOf_65 rfl ⟨by decide, by decide⟩ ?_
    refine ta_join (γ := tg_Mem → tg_R) (fun J => ∀ (m_108 : tg_Mem), tg_AW E LM (some .int) (J m_108) 108 [tj_, tj_, tj_, tj_, tj_] [] m_108) ?_ (fun j108 hj108 => ?_)
    · intro m_108
      refine ta_iconst (v := (-1)) hE dX8_stepOf_108 rfl ⟨by decide, by decide⟩ ?_
      exact ta_iret hE dX8_stepOf_109
    · refine ta_icmp_eq (tgt := 108) hE dX8_stepOf_66 (by decide) (fun c66 => ?_) (fun c66 => ?_)
      · exact (ta_wk (i := 0) (lv2 := [tj_, tj_, tj_, tj_, ti_ s0_61]) rfl (ta_wk (i := 4) (lv2 := [tj_, tj_, tj_, tj_, tj_]) rfl (hj108 m_61)))
      · refine ta_iload hE dX8_stepOf_69 rfl ?_
        refine bp_8 hE dX8_stepOf_71 ?_
        refine ta_irem hE dX8_stepOf_73 (by decide +kernel) ?_
        refine ta_aloadn hE dX8_stepOf_74 rfl ?_
        refine gf_X8_111 hE dX8_stepOf_75 lm_0 rfl ?_
        refine ta_icmp_ge (tgt := 108) hE dX8_stepOf_78 (by decide) (fun c78 => ?_) (fun c78 => ?_)
        · exact (ta_wk (i := 0) (lv2 := [tj_, tj_, tj_, tj_, ti_ s0_61]) rfl (ta_wk (i := 4) (lv2 := [tj_, tj_, tj_, tj_, tj_]) rfl (hj108 m_61)))
        · refine ta_aloadn hE dX8_stepOf_81 rfl ?_
          refine ta_iload hE dX8_stepOf_82 rfl ?_
          refine bp_8 hE dX8_stepOf_84 ?_
          refine ta_irem hE dX8_stepOf_86 (by decide +kernel) ?_
          refine ta_aloadn hE dX8_stepOf_87 rfl ?_
          refine gr_X8_40 hE dX8_stepOf_88 lm_0 rfl ?_
          refine ta_iload hE dX8_stepOf_91 rfl ?_
          refine bp_8 hE dX8_stepOf_93 ?_
          refine ta_idiv hE dX8_stepOf_95 (by decide +kernel) ?_
          refine ta_iald (n' := 2) hE dX8_stepOf_96 lm_11 rfl (fun _ _ => ?_)
          refine ta_callV (C := RX8) (T := TX8) (st := []) hE dX8_stepOf_97 (k_X8_touches (tg_irem s0_61 8) (m_61 11 (tg_idiv s0_61 8).toNat) m_61) ml_X8_173 im_X8_touches se_X8_touches in_X8 co_X8_touches hy_X8_touches ⟨Nat.le_of_ble_eq_true rfl, Nat.le_of_ble_eq_true rfl⟩ lm_0 rfl rfl rfl (fun _ => Nat.le_of_ble_eq_true rfl) (fun r97 m97 hx97 hr97 => ?_)
          change tg_AW E _ _ _ _ _ (ti_ r97 :: _) _
          refine ta_if_eq (tgt := 108) hE dX8_stepOf_100 (by decide) (fun c100 => ?_) (fun c100 => ?_)
          · exact (ta_wk (i := 0) (lv2 := [tj_, tj_, tj_, tj_, ti_ s0_61]) rfl (ta_wk (i := 4) (lv2 := [tj_, tj_, tj_, tj_, tj_]) rfl (hj108 m97)))
          · refine ta_iload hE dX8_stepOf_103 rfl ?_
            refine ta_goto (tgt := 109) hE dX8_stepOf_105 (by decide) ?_
            exact ta_iret hE dX8_stepOf_109
  · refine ta_if_eq (tgt := 36) hE dX8_stepOf_26 (by decide) (fun c26 => ?_) (fun c26 => ?_)
    · refine ta_iloadn hE dX8_stepOf_36 rfl ?_
      refine ta_i2l hE dX8_stepOf_37 ?_
      refine ta_ldc2 (v := 65) hE dX8_stepOf_38 lc_X8_169 ⟨by decide, by decide⟩ ?_
      refine ta_ldc2 (v := 72) hE dX8_stepOf_41 lc_X8_171 ⟨by decide, by decide⟩ ?_
      refine ta_callS (st := []) hE dX8_stepOf_44 (k_X8_in v3_14 65 72 m23) ml_X8_77 st_X8_in in_X8 co_X8_in hy_X8_in.2 ⟨Nat.le_of_ble_eq_true rfl, Nat.le_of_ble_eq_true rfl⟩ rfl rfl (fun _ => Nat.le_of_ble_eq_true rfl) (fun r44 m44 hx44 hr44 => ?_)
      change tg_AW E _ _ _ _ _ (ti_ r44 :: _) _
      refine ta_if_eq (tgt := 60) hE dX8_stepOf_47 (by decide) (fun c47 => ?_) (fun c47 => ?_)
      · refine ta_iconst (v := (-1)) hE dX8_stepOf_60 rfl ⟨by decide, by decide⟩ ?_
        exact (ta_wk (i := 1) (lv2 := [tr_ 0, tj_, ti_ a1, ti_ v3_14, tj_]) rfl (ta_wk (i := 2) (lv2 := [tr_ 0, tj_, tj_, ti_ v3_14, tj_]) rfl (ta_wk (i := 3) (lv2 := [tr_ 0, tj_, tj_, tj_, tj_]) rfl (hj61 (-1) m44))))
      · refine bp_8 hE dX8_stepOf_50 ?_
        refine ta_iloadn hE dX8_stepOf_52 rfl ?_
        refine ta_iadd hE dX8_stepOf_53 ?_
        refine bp_65 hE dX8_stepOf_54 ?_
        refine ta_isub hE dX8_stepOf_56 ?_
        refine ta_goto (tgt := 61) hE dX8_stepOf_57 (by decide) ?_
        exact (ta_wk (i := 1) (lv2 := [tr_ 0, tj_, ti_ a1, ti_ v3_14, tj_]) rfl (ta_wk (i := 2) (lv2 := [tr_ 0, tj_, tj_, ti_ v3_14, tj_]) rfl (ta_wk (i := 3) (lv2 := [tr_ 0, tj_, tj_, tj_, tj_]) rfl (hj61 (tg_wi ((tg_wi (8 + v3_14)) - 65)) m44))))
    · refine ta_iloadn hE dX8_stepOf_29 rfl ?_
      refine bp_97 hE dX8_stepOf_30 ?_
      refine ta_isub hE dX8_stepOf_32 ?_
      refine ta_goto (tgt := 61) hE dX8_stepOf_33 (by decide) ?_
      exact (ta_wk (i := 1) (lv2 := [tr_ 0, tj_, ti_ a1, ti_ v3_14, tj_]) rfl (ta_wk (i := 2) (lv2 := [tr_ 0, tj_, tj_, ti_ v3_14, tj_]) rfl (ta_wk (i := 3) (lv2 := [tr_ 0, tj_, tj_, tj_, tj_]) rfl (hj61 (tg_wi (v3_14 - 97)) m23))))
noncomputable def f_X8_runs_B7 (a0 : Int) (a1 : Int) (self7 : Int → tg_Mem → tg_R) (v3_7 : Int) (m_7 : tg_Mem) : tg_R :=
  if a1 ≤ v3_7 then
    some (v3_7, m_7)
  else
    tg_ck (0 ≤ tg_wi (1 + a0) ∧ tg_wi (1 + a0) < 3) (
      if m_7 6 (tg_wi (1 + a0)).toNat ≤ v3_7 then
        some (v3_7, m_7)
      else
        tg_bd (f_X8_stepOf a0 v3_7 m_7) (fun r28 m28 =>
          tg_bd (f_X8_isBorne r28 m28) (fun r31 m31 =>
            if r31 = 0 then
              some (v3_7, m31)
            else
              tg_bd (f_X8_stepOf a0 v3_7 m31) (fun r41 m41 =>
                tg_bd (f_X8_does r41 m41) (fun _ m44 =>
                  tg_lt (tg_wi (v3_7 + 1)) (fun v3_47 =>
                    self7 v3_47 m44))))))
noncomputable def f_X8_runs (a0 : Int) (a1 : Int) (m : tg_Mem) : tg_R :=
  tg_bd (f_X8_begins a0 m) (fun _ m2 =>
    tg_fx (γ := Int → tg_Mem → tg_R) (f_X8_runs_B7 a0 a1) (fun _ _ => none) tg_FU 0 m2)
theorem hy_X8_runs : yX8_runs.cls = RX8 ∧ yX8_runs.cls ≠ "java/lang/invoke/MethodHandle" ∧ yX8_runs.cls ≠ "java/lang/invoke/VarHandle" ∧ (parseMethodDescriptor yX8_runs.desc).map (fun q => q.parameters.length) = some 2 := by decide +kernel
set_option maxRecDepth 100000 in
set_option maxHeartbeats 4000000 in
theorem k_X8_runs   (a0 : Int) (a1 : Int) (m : tg_Mem) : tg_C yX8_runs cX8_runs 4 (some .int) 4 LM [tr_ 0, ti_ a0, ti_ a1] (f_X8_runs a0 a1 m) m := by
  refine ta_enter2 (own := RX8) (by decide +kernel) rfl rfl (Nat.le_of_ble_eq_true rfl) rfl (fun E hE => ?_)
  unfold f_X8_runs
  refine ta_aloadn hE dX8_runs_0 rfl ?_
  refine ta_iloadn hE dX8_runs_1 rfl ?_
  refine ta_callV (C := RX8) (T := TX8) (st := []) hE dX8_runs_2 (k_X8_begins a0 m) ml_X8_184 im_X8_begins se_X8_begins in_X8 co_X8_begins hy_X8_begins ⟨Nat.le_of_ble_eq_true rfl, Nat.le_of_ble_eq_true rfl⟩ lm_0 rfl rfl rfl (fun _ => Nat.le_of_ble_eq_true rfl) (fun r2 m2 hx2 hr2 => ?_)
  change tg_AW E _ _ _ _ _ [] _
  refine ta_iconst (v := 0) hE dX8_runs_5 rfl ⟨by decide, by decide⟩ ?_
  refine ta_istoren (lv2 := [tr_ 0, ti_ a0, ti_ a1, ti_ 0]) hE dX8_runs_6 (Nat.le_of_ble_eq_true rfl) rfl rfl ?_
  have hl7 := ta_fx (γ := Int → tg_Mem → tg_R) (F := (f_X8_runs_B7 a0 a1)) (z := (fun _ _ => none)) (fun J => ∀ (v3_7 : Int) (m_7 : tg_Mem), tg_AW E LM (some .int) (J v3_7 m_7) 7 [tr_ 0, ti_ a0, ti_ a1, ti_ v3_7] [] m_7) (by intros; exact ta_none) (fun self7 hself7 => by
      intro v3_7 m_7
      unfold f_X8_runs_B7
      refine ta_iloadn hE dX8_runs_7 rfl ?_
      refine ta_iloadn hE dX8_runs_8 rfl ?_
      refine ta_icmp_ge (tgt := 53) hE dX8_runs_9 (by decide) (fun c9 => ?_) (fun c9 => ?_)
      · refine ta_iloadn hE dX8_runs_53 rfl ?_
        exact ta_iret hE dX8_runs_54
      · refine ta_iloadn hE dX8_runs_12 rfl ?_
        refine ta_aloadn hE dX8_runs_13 rfl ?_
        refine gr_X8_25 hE dX8_runs_14 lm_0 rfl ?_
        refine ta_iconst (v := 1) hE dX8_runs_17 rfl ⟨by decide, by decide⟩ ?_
        refine ta_iloadn hE dX8_runs_18 rfl ?_
        refine ta_iadd hE dX8_runs_19 ?_
        refine ta_iald (n' := 3) hE dX8_runs_20 lm_6 rfl (fun _ _ => ?_)
        refine ta_icmp_ge (tgt := 53) hE dX8_runs_21 (by decide) (fun c21 => ?_) (fun c21 => ?_)
        · refine ta_iloadn hE dX8_runs_53 rfl ?_
          exact ta_iret hE dX8_runs_54
        · refine ta_aloadn hE dX8_runs_24 rfl ?_
          refine ta_aloadn hE dX8_runs_25 rfl ?_
          refine ta_iloadn hE dX8_runs_26 rfl ?_
          refine ta_iloadn hE dX8_runs_27 rfl ?_
          refine ta_callV (C := RX8) (T := TX8) (st := [tr_ 0]) hE dX8_runs_28 (k_X8_stepOf a0 v3_7 m_7) ml_X8_188 im_X8_stepOf se_X8_stepOf in_X8 co_X8_stepOf hy_X8_stepOf ⟨Nat.le_of_ble_eq_true rfl, Nat.le_of_ble_eq_true rfl⟩ lm_0 rfl rfl rfl (fun _ => Nat.le_of_ble_eq_true rfl) (fun r28 m28 hx28 hr28 => ?_)
          change tg_AW E _ _ _ _ _ (ti_ r28 :: _) _
          refine ta_callV (C := RX8) (T := TX8) (st := []) hE dX8_runs_31 (k_X8_isBorne r28 m28) ml_X8_191 im_X8_isBorne se_X8_isBorne in_X8 co_X8_isBorne hy_X8_isBorne ⟨Nat.le_of_ble_eq_true rfl, Nat.le_of_ble_eq_true rfl⟩ lm_0 rfl rfl rfl (fun _ => Nat.le_of_ble_eq_true rfl) (fun r31 m31 hx31 hr31 => ?_)
          change tg_AW E _ _ _ _ _ (ti_ r31 :: _) _
          refine ta_if_eq (tgt := 53) hE dX8_runs_34 (by decide) (fun c34 => ?_) (fun c34 => ?_)
          · refine ta_iloadn hE dX8_runs_53 rfl ?_
            exact ta_iret hE dX8_runs_54
          · refine ta_aloadn hE dX8_runs_37 rfl ?_
            refine ta_aloadn hE dX8_runs_38 rfl ?_
            refine ta_iloadn hE dX8_runs_39 rfl ?_
            refine ta_iloadn hE dX8_runs_40 rfl ?_
            refine ta_callV (C := RX8) (T := TX8) (st := [tr_ 0]) hE dX8_runs_41 (k_X8_stepOf a0 v3_7 m31) ml_X8_188 im_X8_stepOf se_X8_stepOf in_X8 co_X8_stepOf hy_X8_stepOf ⟨Nat.le_of_ble_eq_true rfl, Nat.le_of_ble_eq_true rfl⟩ lm_0 rfl rfl rfl (fun _ => Nat.le_of_ble_eq_true rfl) (fun r41 m41 hx41 hr41 => ?_)
            change tg_AW E _ _ _ _ _ (ti_ r41 :: _) _
            refine ta_callV (C := RX8) (T := TX8) (st := []) hE dX8_runs_44 (k_X8_does r41 m41) ml_X8_194 im_X8_does se_X8_does in_X8 co_X8_does hy_X8_does ⟨Nat.le_of_ble_eq_true rfl, Nat.le_of_ble_eq_true rfl⟩ lm_0 rfl rfl rfl (fun _ => Nat.le_of_ble_eq_true rfl) (fun r44 m44 hx44 hr44 => ?_)
            change tg_AW E _ _ _ _ _ [] _
            refine ta_iincn (lv2 := fun v3_47 => [tr_ 0, ti_ a0, ti_ a1, ti_ v3_47]) hE dX8_runs_47 rfl rfl rfl (fun v3_47 => ?_)
            refine ta_goto (tgt := 7) hE dX8_runs_50 (by decide) ?_
            exact (hself7 v3_47 m44))
  exact (hl7 tg_FU 0 m2)
noncomputable def f_X8_done (a0 : Int) (m : tg_Mem) : tg_R :=
  tg_bd (f_X8_runs a0 40 m) (fun r4 m4 =>
    some (r4, m4))
theorem hy_X8_done : yX8_done.cls = RX8 ∧ yX8_done.cls ≠ "java/lang/invoke/MethodHandle" ∧ yX8_done.cls ≠ "java/lang/invoke/VarHandle" ∧ (parseMethodDescriptor yX8_done.desc).map (fun q => q.parameters.length) = some 1 := by decide +kernel
set_option maxRecDepth 100000 in
set_option maxHeartbeats 4000000 in
theorem k_X8_done   (a0 : Int) (m : tg_Mem) : tg_C yX8_done cX8_done 2 (some .int) 5 LM [tr_ 0, ti_ a0] (f_X8_done a0 m) m := by
  refine ta_enter2 (own := RX8) (by decide +kernel) rfl rfl (Nat.le_of_ble_eq_true rfl) rfl (fun E hE => ?_)
  unfold f_X8_done
  refine ta_aloadn hE dX8_done_0 rfl ?_
  refine ta_iloadn hE dX8_done_1 rfl ?_
  refine bp_40 hE dX8_done_2 ?_
  refine ta_callV (C := RX8) (T := TX8) (st := []) hE dX8_done_4 (k_X8_runs a0 40 m) ml_X8_197 im_X8_runs se_X8_runs in_X8 co_X8_runs hy_X8_runs ⟨Nat.le_of_ble_eq_true rfl, Nat.le_of_ble_eq_true rfl⟩ lm_0 rfl rfl rfl (fun _ => Nat.le_of_ble_eq_true rfl) (fun r4 m4 hx4 hr4 => ?_)
  change tg_AW E _ _ _ _ _ (ti_ r4 :: _) _
  exact ta_iret hE dX8_done_7
