noncomputable def f_X8_alike  (m : tg_Mem) : tg_R :=
  tg_bd (f_X8_reads  m) (fun _ m1 =>
    tg_bd (f_X8_alikeNow  m1) (fun r6 m6 =>
      some (r6, m6)))
theorem hy_X8_alike : yX8_alike.cls = RX8 ∧ yX8_alike.cls ≠ "java/lang/invoke/MethodHandle" ∧ yX8_alike.cls ≠ "java/lang/invoke/VarHandle" ∧ (parseMethodDescriptor yX8_alike.desc).map (fun q => q.parameters.length) = some 0 := by decide +kernel
set_option maxRecDepth 100000 in
set_option maxHeartbeats 4000000 in
theorem k_X8_alike    (m : tg_Mem) : tg_C yX8_alike cX8_alike 1 (some .int) 7 LM [tr_ 0] (f_X8_alike  m) m := by
  refine ta_enter2 (own := RX8) (by decide +kernel) rfl rfl (Nat.le_of_ble_eq_true rfl) rfl (fun E hE => ?_)
  unfold f_X8_alike
  refine ta_aloadn hE dX8_alike_0 rfl ?_
  refine ta_callV (C := RX8) (T := TX8) (st := []) hE dX8_alike_1 (k_X8_reads m) ml_X8_129 im_X8_reads se_X8_reads in_X8 co_X8_reads hy_X8_reads ⟨Nat.le_of_ble_eq_true rfl, Nat.le_of_ble_eq_true rfl⟩ lm_0 rfl rfl rfl (fun _ => Nat.le_of_ble_eq_true rfl) (fun r1 m1 hx1 hr1 => ?_)
  change tg_AW E _ _ _ _ _ (ti_ r1 :: _) _
  refine ta_pop hE dX8_alike_4 (fun _ => rfl) ?_
  refine ta_aloadn hE dX8_alike_5 rfl ?_
  refine ta_callV (C := RX8) (T := TX8) (st := []) hE dX8_alike_6 (k_X8_alikeNow m1) ml_X8_260 im_X8_alikeNow se_X8_alikeNow in_X8 co_X8_alikeNow hy_X8_alikeNow ⟨Nat.le_of_ble_eq_true rfl, Nat.le_of_ble_eq_true rfl⟩ lm_0 rfl rfl rfl (fun _ => Nat.le_of_ble_eq_true rfl) (fun r6 m6 hx6 hr6 => ?_)
  change tg_AW E _ _ _ _ _ (ti_ r6 :: _) _
  exact ta_iret hE dX8_alike_9
noncomputable def f_X8_write_B73 (a1 : Int) (s0_69 : Int) (self73 : Int → tg_Mem → tg_R) (v4_73 : Int) (m_73 : tg_Mem) : tg_R :=
  if s0_69 ≤ v4_73 then
    some (s0_69, m_73)
  else
    tg_ck (0 ≤ a1 ∧ a1 < 4) (
      tg_ck (0 ≤ v4_73 ∧ v4_73 < 64) (
        tg_bd (f_X8_cut (m_73 1 (a1).toNat) (m_73 12 (v4_73).toNat) m_73) (fun r103 m103 =>
          tg_ck (0 ≤ tg_wi ((tg_wi (60 * a1)) + v4_73) ∧ tg_wi ((tg_wi (60 * a1)) + v4_73) < 240) (
            tg_lt (tg_up m103 3 (tg_wi ((tg_wi (60 * a1)) + v4_73)).toNat r103) (fun m106 =>
              tg_lt (tg_wi (v4_73 + 1)) (fun v4_107 =>
                self73 v4_107 m106))))))
noncomputable def f_X8_write (a0 : Int) (a1 : Int) (m : tg_Mem) : tg_R :=
  tg_bd (f_X8_isTwo a0 m) (fun r1 m1 =>
    if r1 = 0 then
      some ((-2), m1)
    else
      tg_bd (f_X8_isSheet a1 m1) (fun r8 m8 =>
        if r8 ≠ 0 then
          tg_ck (0 ≤ a1 ∧ a1 < 4) (
            if 0 ≤ m8 1 (a1).toNat then
              tg_bd (f_X8_reads  m8) (fun _ m33 =>
                tg_bd (f_X8_done a0 m33) (fun _ m39 =>
                  tg_ck (0 ≤ a1 ∧ a1 < 4) (
                    tg_jn (γ := Int → tg_R) (fun (s0_69 : Int) => tg_fx (γ := Int → tg_Mem → tg_R) (f_X8_write_B73 a1 s0_69) (fun _ _ => none) tg_FU 0 m39) (fun j69 =>
                      if m39 0 15 ≤ m39 2 (a1).toNat then
                        j69 (m39 0 15)
                      else
                        tg_ck (0 ≤ a1 ∧ a1 < 4) (
                          j69 (m39 2 (a1).toNat))))))
            else
              tg_bd (f_X8_met 1 m8) (fun r28 m28 =>
                some (r28, m28)))
        else
          some ((-2), m8)))
theorem hy_X8_write : yX8_write.cls = RX8 ∧ yX8_write.cls ≠ "java/lang/invoke/MethodHandle" ∧ yX8_write.cls ≠ "java/lang/invoke/VarHandle" ∧ (parseMethodDescriptor yX8_write.desc).map (fun q => q.parameters.length) = some 2 := by decide +kernel
set_option maxRecDepth 100000 in
set_option maxHeartbeats 4000000 in
theorem k_X8_write   (a0 : Int) (a1 : Int) (m : tg_Mem) : tg_C yX8_write cX8_write 5 (some .int) 6 LM [tr_ 0, ti_ a0, ti_ a1] (f_X8_write a0 a1 m) m := by
  refine ta_enter2 (own := RX8) (by decide +kernel) rfl rfl (Nat.le_of_ble_eq_true rfl) rfl (fun E hE => ?_)
  unfold f_X8_write
  refine ta_iloadn hE dX8_write_0 rfl ?_
  refine ta_callS (st := []) hE dX8_write_1 (k_X8_isTwo a0 m) ml_X8_135 st_X8_isTwo in_X8 co_X8_isTwo hy_X8_isTwo.2 ⟨Nat.le_of_ble_eq_true rfl, Nat.le_of_ble_eq_true rfl⟩ rfl rfl (fun _ => Nat.le_of_ble_eq_true rfl) (fun r1 m1 hx1 hr1 => ?_)
  change tg_AW E _ _ _ _ _ (ti_ r1 :: _) _
  refine ta_if_eq (tgt := 14) hE dX8_write_4 (by decide) (fun c4 => ?_) (fun c4 => ?_)
  · refine bp_n2 hE dX8_write_14 ?_
    exact ta_iret hE dX8_write_16
  · refine ta_iloadn hE dX8_write_7 rfl ?_
    refine ta_callS (st := []) hE dX8_write_8 (k_X8_isSheet a1 m1) ml_X8_87 st_X8_isSheet in_X8 co_X8_isSheet hy_X8_isSheet.2 ⟨Nat.le_of_ble_eq_true rfl, Nat.le_of_ble_eq_true rfl⟩ rfl rfl (fun _ => Nat.le_of_ble_eq_true rfl) (fun r8 m8 hx8 hr8 => ?_)
    change tg_AW E _ _ _ _ _ (ti_ r8 :: _) _
    refine ta_if_ne (tgt := 17) hE dX8_write_11 (by decide) (fun c11 => ?_) (fun c11 => ?_)
    · refine ta_aloadn hE dX8_write_17 rfl ?_
      refine gr_X8_7 hE dX8_write_18 lm_0 rfl ?_
      refine ta_iloadn hE dX8_write_21 rfl ?_
      refine ta_iald (n' := 4) hE dX8_write_22 lm_1 rfl (fun _ _ => ?_)
      refine ta_if_ge (tgt := 32) hE dX8_write_23 (by decide) (fun c23 => ?_) (fun c23 => ?_)
      · refine ta_aloadn hE dX8_write_32 rfl ?_
        refine ta_callV (C := RX8) (T := TX8) (st := []) hE dX8_write_33 (k_X8_reads m8) ml_X8_129 im_X8_reads se_X8_reads in_X8 co_X8_reads hy_X8_reads ⟨Nat.le_of_ble_eq_true rfl, Nat.le_of_ble_eq_true rfl⟩ lm_0 rfl rfl rfl (fun _ => Nat.le_of_ble_eq_true rfl) (fun r33 m33 hx33 hr33 => ?_)
        change tg_AW E _ _ _ _ _ (ti_ r33 :: _) _
        refine ta_pop hE dX8_write_36 (fun _ => rfl) ?_
        refine ta_aloadn hE dX8_write_37 rfl ?_
        refine ta_iloadn hE dX8_write_38 rfl ?_
        refine ta_callV (C := RX8) (T := TX8) (st := []) hE dX8_write_39 (k_X8_done a0 m33) ml_X8_200 im_X8_done se_X8_done in_X8 co_X8_done hy_X8_done ⟨Nat.le_of_ble_eq_true rfl, Nat.le_of_ble_eq_true rfl⟩ lm_0 rfl rfl rfl (fun _ => Nat.le_of_ble_eq_true rfl) (fun r39 m39 hx39 hr39 => ?_)
        change tg_AW E _ _ _ _ _ (ti_ r39 :: _) _
        refine ta_pop hE dX8_write_42 (fun _ => rfl) ?_
        refine ta_aloadn hE dX8_write_43 rfl ?_
        refine gr_X8_13 hE dX8_write_44 lm_0 rfl ?_
        refine ta_iloadn hE dX8_write_47 rfl ?_
        refine ta_iald (n' := 4) hE dX8_write_48 lm_2 rfl (fun _ _ => ?_)
        refine ta_aloadn hE dX8_write_49 rfl ?_
        refine gf_X8_150 hE dX8_write_50 lm_0 rfl ?_
        refine ta_join (γ := Int → tg_R) (fun J => ∀ (s0_69 : Int), tg_AW E LM (some .int) (J s0_69) 69 [tr_ 0, tj_, ti_ a1, tj_, tj_] [ti_ s0_69] m39) ?_ (fun j69 hj69 => ?_)
        · intro s0_69
          refine ta_istoren (lv2 := [tr_ 0, tj_, ti_ a1, ti_ s0_69, tj_]) hE dX8_write_69 (Nat.le_of_ble_eq_true rfl) rfl rfl ?_
          refine ta_iconst (v := 0) hE dX8_write_70 rfl ⟨by decide, by decide⟩ ?_
          refine ta_istore (lv2 := [tr_ 0, tj_, ti_ a1, ti_ s0_69, ti_ 0]) hE dX8_write_71 (Nat.le_of_ble_eq_true rfl) rfl rfl ?_
          have hl73 := ta_fx (γ := Int → tg_Mem → tg_R) (F := (f_X8_write_B73 a1 s0_69)) (z := (fun _ _ => none)) (fun J => ∀ (v4_73 : Int) (m_73 : tg_Mem), tg_AW E LM (some .int) (J v4_73 m_73) 73 [tr_ 0, tj_, ti_ a1, ti_ s0_69, ti_ v4_73] [] m_73) (by intros; exact ta_none) (fun self73 hself73 => by
              intro v4_73 m_73
              unfold f_X8_write_B73
              refine ta_iload hE dX8_write_73 rfl ?_
              refine ta_iloadn hE dX8_write_75 rfl ?_
              refine ta_icmp_ge (tgt := 113) hE dX8_write_76 (by decide) (fun c76 => ?_) (fun c76 => ?_)
              · refine ta_iloadn hE dX8_write_113 rfl ?_
                exact ta_iret hE dX8_write_114
              · refine ta_aloadn hE dX8_write_79 rfl ?_
                refine gr_X8_16 hE dX8_write_80 lm_0 rfl ?_
                refine bp_60 hE dX8_write_83 ?_
                refine ta_iloadn hE dX8_write_85 rfl ?_
                refine ta_imul hE dX8_write_86 ?_
                refine ta_iload hE dX8_write_87 rfl ?_
                refine ta_iadd hE dX8_write_89 ?_
                refine ta_aloadn hE dX8_write_90 rfl ?_
                refine gr_X8_7 hE dX8_write_91 lm_0 rfl ?_
                refine ta_iloadn hE dX8_write_94 rfl ?_
                refine ta_iald (n' := 4) hE dX8_write_95 lm_1 rfl (fun _ _ => ?_)
                refine ta_aloadn hE dX8_write_96 rfl ?_
                refine gr_X8_43 hE dX8_write_97 lm_0 rfl ?_
                refine ta_iload hE dX8_write_100 rfl ?_
                refine ta_iald (n' := 64) hE dX8_write_102 lm_12 rfl (fun _ _ => ?_)
                refine ta_callS (st := [ti_ (tg_wi ((tg_wi (60 * a1)) + v4_73)), tr_ 3]) hE dX8_write_103 (k_X8_cut (m_73 1 (a1).toNat) (m_73 12 (v4_73).toNat) m_73) ml_X8_101 st_X8_cut in_X8 co_X8_cut hy_X8_cut.2 ⟨Nat.le_of_ble_eq_true rfl, Nat.le_of_ble_eq_true rfl⟩ rfl rfl (fun _ => Nat.le_of_ble_eq_true rfl) (fun r103 m103 hx103 hr103 => ?_)
                change tg_AW E _ _ _ _ _ (ti_ r103 :: _) _
                refine ta_iast (n' := 240) hE dX8_write_106 lm_3 rfl (fun _ _ => ?_)
                refine ta_nmm (fun m106 => ?_)
                refine ta_iincn (lv2 := fun v4_107 => [tr_ 0, tj_, ti_ a1, ti_ s0_69, ti_ v4_107]) hE dX8_write_107 rfl rfl rfl (fun v4_107 => ?_)
                refine ta_goto (tgt := 73) hE dX8_write_110 (by decide) ?_
                exact (hself73 v4_107 m106))
          exact (hl73 tg_FU 0 m39)
        · refine ta_icmp_ge (tgt := 65) hE dX8_write_53 (by decide) (fun c53 => ?_) (fun c53 => ?_)
          · refine ta_aloadn hE dX8_write_65 rfl ?_
            refine gf_X8_150 hE dX8_write_66 lm_0 rfl ?_
            exact (ta_wk (i := 1) (lv2 := [tr_ 0, tj_, ti_ a1, tj_, tj_]) rfl (hj69 (m39 0 15)))
          · refine ta_aloadn hE dX8_write_56 rfl ?_
            refine gr_X8_13 hE dX8_write_57 lm_0 rfl ?_
            refine ta_iloadn hE dX8_write_60 rfl ?_
            refine ta_iald (n' := 4) hE dX8_write_61 lm_2 rfl (fun _ _ => ?_)
            refine ta_goto (tgt := 69) hE dX8_write_62 (by decide) ?_
            exact (ta_wk (i := 1) (lv2 := [tr_ 0, tj_, ti_ a1, tj_, tj_]) rfl (hj69 (m39 2 (a1).toNat)))
      · refine ta_aloadn hE dX8_write_26 rfl ?_
        refine ta_iconst (v := 1) hE dX8_write_27 rfl ⟨by decide, by decide⟩ ?_
        refine ta_callV (C := RX8) (T := TX8) (st := []) hE dX8_write_28 (k_X8_met 1 m8) ml_X8_93 im_X8_met se_X8_met in_X8 co_X8_met hy_X8_met ⟨Nat.le_of_ble_eq_true rfl, Nat.le_of_ble_eq_true rfl⟩ lm_0 rfl rfl rfl (fun _ => Nat.le_of_ble_eq_true rfl) (fun r28 m28 hx28 hr28 => ?_)
        change tg_AW E _ _ _ _ _ (ti_ r28 :: _) _
        exact ta_iret hE dX8_write_31
    · refine bp_n2 hE dX8_write_14 ?_
      exact ta_iret hE dX8_write_16
noncomputable def f_X8_count_B76 (m3 : tg_Mem) (self76 : Int → Int → tg_R) (v2_76 : Int) (v3_76 : Int) : tg_R :=
  if m3 0 8 ≤ v3_76 then
    some (v2_76, m3)
  else
    tg_ck (0 ≤ tg_wi ((tg_wi (3 * v3_76)) + 2) ∧ tg_wi ((tg_wi (3 * v3_76)) + 2) < 24) (
      tg_lt (tg_wi (v2_76 + (m3 7 (tg_wi ((tg_wi (3 * v3_76)) + 2)).toNat))) (fun v2_96 =>
        tg_lt (tg_wi (v3_76 + 1)) (fun v3_97 =>
          self76 v2_96 v3_97)))
noncomputable def f_X8_count_B107 (m3 : tg_Mem) (self107 : Int → Int → tg_R) (v2_107 : Int) (v3_107 : Int) : tg_R :=
  if 8 ≤ v3_107 then
    some (v2_107, m3)
  else
    tg_ck (0 ≤ v3_107 ∧ v3_107 < 8) (
      tg_lt (tg_wi (v2_107 + (m3 10 (v3_107).toNat))) (fun v2_121 =>
        tg_lt (tg_wi (v3_107 + 1)) (fun v3_122 =>
          self107 v2_121 v3_122)))
noncomputable def f_X8_count (a0 : Int) (m : tg_Mem) : tg_R :=
  tg_bd (f_X8_reads  m) (fun _ m3 =>
    tg_jn (γ := tg_R) (tg_ck (0 ≤ tg_wi (a0 - 1) ∧ tg_wi (a0 - 1) < 3) (
      some (m3 6 (tg_wi (a0 - 1)).toNat, m3))) (fun j65 =>
      tg_jn (γ := tg_R) (tg_bd (f_X8_done (tg_wi (a0 - 6)) m3) (fun r135 m135 =>
        some (r135, m135))) (fun j130 =>
        if a0 = 0 then
          some (m3 0 8, m3)
        else
          if a0 = 1 then
            j65
          else
            if a0 = 2 then
              j65
            else
              if a0 = 3 then
                j65
              else
                if a0 = 4 then
                  tg_fx (γ := Int → Int → tg_R) (f_X8_count_B76 m3) (fun _ _ => none) tg_FU 0 0
                else
                  if a0 = 5 then
                    tg_fx (γ := Int → Int → tg_R) (f_X8_count_B107 m3) (fun _ _ => none) tg_FU 0 0
                  else
                    if a0 = 6 then
                      j130
                    else
                      if a0 = 7 then
                        j130
                      else
                        if a0 = 8 then
                          some (m3 0 4, m3)
                        else
                          some ((-2), m3))))
theorem hy_X8_count : yX8_count.cls = RX8 ∧ yX8_count.cls ≠ "java/lang/invoke/MethodHandle" ∧ yX8_count.cls ≠ "java/lang/invoke/VarHandle" ∧ (parseMethodDescriptor yX8_count.desc).map (fun q => q.parameters.length) = some 1 := by decide +kernel
set_option maxRecDepth 100000 in
set_option maxHeartbeats 4000000 in
theorem k_X8_count   (a0 : Int) (m : tg_Mem) : tg_C yX8_count cX8_count 4 (some .int) 6 LM [tr_ 0, ti_ a0] (f_X8_count a0 m) m := by
  refine ta_enter2 (own := RX8) (by decide +kernel) rfl rfl (Nat.le_of_ble_eq_true rfl) rfl (fun E hE => ?_)
  unfold f_X8_count
  refine ta_iconst (v := 0) hE dX8_count_0 rfl ⟨by decide, by decide⟩ ?_
  refine ta_istoren (lv2 := [tr_ 0, ti_ a0, ti_ 0, tj_]) hE dX8_count_1 (Nat.le_of_ble_eq_true rfl) rfl rfl ?_
  refine ta_aloadn hE dX8_count_2 rfl ?_
  refine ta_callV (C := RX8) (T := TX8) (st := []) hE dX8_count_3 (k_X8_reads m) ml_X8_129 im_X8_reads se_X8_reads in_X8 co_X8_reads hy_X8_reads ⟨Nat.le_of_ble_eq_true rfl, Nat.le_of_ble_eq_true rfl⟩ lm_0 rfl rfl rfl (fun _ => Nat.le_of_ble_eq_true rfl) (fun r3 m3 hx3 hr3 => ?_)
  change tg_AW E _ _ _ _ _ (ti_ r3 :: _) _
  refine ta_pop hE dX8_count_6 (fun _ => rfl) ?_
  refine ta_iloadn hE dX8_count_7 rfl ?_
  refine ta_join (γ := tg_R) (fun J => tg_AW E LM (some .int) J 65 [tr_ 0, ti_ a0, tj_, tj_] [] m3) ?_ (fun j65 hj65 => ?_)
  · refine ta_aloadn hE dX8_count_65 rfl ?_
    refine gr_X8_25 hE dX8_count_66 lm_0 rfl ?_
    refine ta_iloadn hE dX8_count_69 rfl ?_
    refine ta_iconst (v := 1) hE dX8_count_70 rfl ⟨by decide, by decide⟩ ?_
    refine ta_isub hE dX8_count_71 ?_
    refine ta_iald (n' := 3) hE dX8_count_72 lm_6 rfl (fun _ _ => ?_)
    exact ta_iret hE dX8_count_73
  · refine ta_join (γ := tg_R) (fun J => tg_AW E LM (some .int) J 130 [tr_ 0, ti_ a0, tj_, tj_] [] m3) ?_ (fun j130 hj130 => ?_)
    · refine ta_aloadn hE dX8_count_130 rfl ?_
      refine ta_iloadn hE dX8_count_131 rfl ?_
      refine bp_6 hE dX8_count_132 ?_
      refine ta_isub hE dX8_count_134 ?_
      refine ta_callV (C := RX8) (T := TX8) (st := []) hE dX8_count_135 (k_X8_done (tg_wi (a0 - 6)) m3) ml_X8_200 im_X8_done se_X8_done in_X8 co_X8_done hy_X8_done ⟨Nat.le_of_ble_eq_true rfl, Nat.le_of_ble_eq_true rfl⟩ lm_0 rfl rfl rfl (fun _ => Nat.le_of_ble_eq_true rfl) (fun r135 m135 hx135 hr135 => ?_)
      change tg_AW E _ _ _ _ _ (ti_ r135 :: _) _
      exact ta_iret hE dX8_count_138
    · refine ta_ite (fun q0 => ?_) (fun q0 => ?_)
      · refine ta_swc (tgt := 60) 0 hE dX8_count_8 q0 (by decide) (by decide) rfl (by decide) ?_
        refine ta_aloadn hE dX8_count_60 rfl ?_
        refine gf_X8_111 hE dX8_count_61 lm_0 rfl ?_
        exact ta_iret hE dX8_count_64
      · refine ta_ite (fun q1 => ?_) (fun q1 => ?_)
        · refine ta_swc (tgt := 65) 1 hE dX8_count_8 q1 (by decide) (by decide) rfl (by decide) ?_
          exact (ta_wk (i := 2) (lv2 := [tr_ 0, ti_ a0, tj_, tj_]) rfl hj65)
        · refine ta_ite (fun q2 => ?_) (fun q2 => ?_)
          · refine ta_swc (tgt := 65) 2 hE dX8_count_8 q2 (by decide) (by decide) rfl (by decide) ?_
            exact (ta_wk (i := 2) (lv2 := [tr_ 0, ti_ a0, tj_, tj_]) rfl hj65)
          · refine ta_ite (fun q3 => ?_) (fun q3 => ?_)
            · refine ta_swc (tgt := 65) 3 hE dX8_count_8 q3 (by decide) (by decide) rfl (by decide) ?_
              exact (ta_wk (i := 2) (lv2 := [tr_ 0, ti_ a0, tj_, tj_]) rfl hj65)
            · refine ta_ite (fun q4 => ?_) (fun q4 => ?_)
              · refine ta_swc (tgt := 74) 4 hE dX8_count_8 q4 (by decide) (by decide) rfl (by decide) ?_
                refine ta_iconst (v := 0) hE dX8_count_74 rfl ⟨by decide, by decide⟩ ?_
                refine ta_istoren (lv2 := [tr_ 0, ti_ a0, ti_ 0, ti_ 0]) hE dX8_count_75 (Nat.le_of_ble_eq_true rfl) rfl rfl ?_
                have hl76 := ta_fx (γ := Int → Int → tg_R) (F := (f_X8_count_B76 m3)) (z := (fun _ _ => none)) (fun J => ∀ (v2_76 : Int) (v3_76 : Int), tg_AW E LM (some .int) (J v2_76 v3_76) 76 [tr_ 0, tj_, ti_ v2_76, ti_ v3_76] [] m3) (by intros; exact ta_none) (fun self76 hself76 => by
                    intro v2_76 v3_76
                    unfold f_X8_count_B76
                    refine ta_iloadn hE dX8_count_76 rfl ?_
                    refine ta_aloadn hE dX8_count_77 rfl ?_
                    refine gf_X8_111 hE dX8_count_78 lm_0 rfl ?_
                    refine ta_icmp_ge (tgt := 103) hE dX8_count_81 (by decide) (fun c81 => ?_) (fun c81 => ?_)
                    · refine ta_iloadn hE dX8_count_103 rfl ?_
                      exact ta_iret hE dX8_count_104
                    · refine ta_iloadn hE dX8_count_84 rfl ?_
                      refine ta_aloadn hE dX8_count_85 rfl ?_
                      refine gr_X8_28 hE dX8_count_86 lm_0 rfl ?_
                      refine ta_iconst (v := 3) hE dX8_count_89 rfl ⟨by decide, by decide⟩ ?_
                      refine ta_iloadn hE dX8_count_90 rfl ?_
                      refine ta_imul hE dX8_count_91 ?_
                      refine ta_iconst (v := 2) hE dX8_count_92 rfl ⟨by decide, by decide⟩ ?_
                      refine ta_iadd hE dX8_count_93 ?_
                      refine ta_iald (n' := 24) hE dX8_count_94 lm_7 rfl (fun _ _ => ?_)
                      refine ta_iadd hE dX8_count_95 ?_
                      refine ta_nmi (fun v2_96 => ?_)
                      refine ta_istoren (lv2 := [tr_ 0, tj_, ti_ v2_96, ti_ v3_76]) hE dX8_count_96 (Nat.le_of_ble_eq_true rfl) rfl rfl ?_
                      refine ta_iincn (lv2 := fun v3_97 => [tr_ 0, tj_, ti_ v2_96, ti_ v3_97]) hE dX8_count_97 rfl rfl rfl (fun v3_97 => ?_)
                      refine ta_goto (tgt := 76) hE dX8_count_100 (by decide) ?_
                      exact (hself76 v2_96 v3_97))
                exact (ta_wk (i := 1) (lv2 := [tr_ 0, tj_, ti_ 0, ti_ 0]) rfl (hl76 tg_FU 0 0))
              · refine ta_ite (fun q5 => ?_) (fun q5 => ?_)
                · refine ta_swc (tgt := 105) 5 hE dX8_count_8 q5 (by decide) (by decide) rfl (by decide) ?_
                  refine ta_iconst (v := 0) hE dX8_count_105 rfl ⟨by decide, by decide⟩ ?_
                  refine ta_istoren (lv2 := [tr_ 0, ti_ a0, ti_ 0, ti_ 0]) hE dX8_count_106 (Nat.le_of_ble_eq_true rfl) rfl rfl ?_
                  have hl107 := ta_fx (γ := Int → Int → tg_R) (F := (f_X8_count_B107 m3)) (z := (fun _ _ => none)) (fun J => ∀ (v2_107 : Int) (v3_107 : Int), tg_AW E LM (some .int) (J v2_107 v3_107) 107 [tr_ 0, tj_, ti_ v2_107, ti_ v3_107] [] m3) (by intros; exact ta_none) (fun self107 hself107 => by
                      intro v2_107 v3_107
                      unfold f_X8_count_B107
                      refine ta_iloadn hE dX8_count_107 rfl ?_
                      refine bp_8 hE dX8_count_108 ?_
                      refine ta_icmp_ge (tgt := 128) hE dX8_count_110 (by decide) (fun c110 => ?_) (fun c110 => ?_)
                      · refine ta_iloadn hE dX8_count_128 rfl ?_
                        exact ta_iret hE dX8_count_129
                      · refine ta_iloadn hE dX8_count_113 rfl ?_
                        refine ta_aloadn hE dX8_count_114 rfl ?_
                        refine gr_X8_37 hE dX8_count_115 lm_0 rfl ?_
                        refine ta_iloadn hE dX8_count_118 rfl ?_
                        refine ta_iald (n' := 8) hE dX8_count_119 lm_10 rfl (fun _ _ => ?_)
                        refine ta_iadd hE dX8_count_120 ?_
                        refine ta_nmi (fun v2_121 => ?_)
                        refine ta_istoren (lv2 := [tr_ 0, tj_, ti_ v2_121, ti_ v3_107]) hE dX8_count_121 (Nat.le_of_ble_eq_true rfl) rfl rfl ?_
                        refine ta_iincn (lv2 := fun v3_122 => [tr_ 0, tj_, ti_ v2_121, ti_ v3_122]) hE dX8_count_122 rfl rfl rfl (fun v3_122 => ?_)
                        refine ta_goto (tgt := 107) hE dX8_count_125 (by decide) ?_
                        exact (hself107 v2_121 v3_122))
                  exact (ta_wk (i := 1) (lv2 := [tr_ 0, tj_, ti_ 0, ti_ 0]) rfl (hl107 tg_FU 0 0))
                · refine ta_ite (fun q6 => ?_) (fun q6 => ?_)
                  · refine ta_swc (tgt := 130) 6 hE dX8_count_8 q6 (by decide) (by decide) rfl (by decide) ?_
                    exact (ta_wk (i := 2) (lv2 := [tr_ 0, ti_ a0, tj_, tj_]) rfl hj130)
                  · refine ta_ite (fun q7 => ?_) (fun q7 => ?_)
                    · refine ta_swc (tgt := 130) 7 hE dX8_count_8 q7 (by decide) (by decide) rfl (by decide) ?_
                      exact (ta_wk (i := 2) (lv2 := [tr_ 0, ti_ a0, tj_, tj_]) rfl hj130)
                    · refine ta_ite (fun q8 => ?_) (fun q8 => ?_)
                      · refine ta_swc (tgt := 139) 8 hE dX8_count_8 q8 (by decide) (by decide) rfl (by decide) ?_
                        refine ta_aloadn hE dX8_count_139 rfl ?_
                        refine gf_X8_81 hE dX8_count_140 lm_0 rfl ?_
                        exact ta_iret hE dX8_count_143
                      · refine ta_swd (tgt := 144) hE dX8_count_8 (by omega) (by decide) ?_
                        refine bp_n2 hE dX8_count_144 ?_
                        exact ta_iret hE dX8_count_146
noncomputable def f_X8_digest_B122 (j149 : Int → tg_Mem → tg_R) (self122 : Int → Int → tg_Mem → tg_R) (v1_122 : Int) (v4_122 : Int) (m_122 : tg_Mem) : tg_R :=
  if 8 ≤ v4_122 then
    j149 v1_122 m_122
  else
    tg_bd (f_X8_stateNow v4_122 m_122) (fun r137 m137 =>
      tg_lt (tg_wl ((tg_wl (31 * v1_122)) + r137)) (fun v1_142 =>
        tg_lt (tg_wi (v4_122 + 1)) (fun v4_143 =>
          self122 v1_142 v4_143 m137)))
noncomputable def f_X8_digest_B95 (j294 : Int → tg_Mem → tg_R) (self95 : Int → Int → tg_Mem → tg_R) (v1_95 : Int) (v3_95 : Int) (m_95 : tg_Mem) : tg_R :=
  if 2 ≤ v3_95 then
    j294 v1_95 m_95
  else
    tg_bd (f_X8_judgedOf v3_95 m_95) (fun r107 m107 =>
      tg_lt (tg_wl ((tg_wl (31 * v1_95)) + r107)) (fun v1_112 =>
        tg_bd (f_X8_done v3_95 m107) (fun _ m115 =>
          tg_jn (γ := Int → tg_Mem → tg_R) (fun (v1_149 : Int) (m_149 : tg_Mem) => tg_jn (γ := Int → tg_R) (fun (s0_171 : Int) => tg_lt (tg_wl ((tg_wl (31 * v1_149)) + s0_171)) (fun v1_173 =>
            tg_bd (f_X8_needsOf v3_95 m_149) (fun r181 m181 =>
              tg_lt (tg_wl ((tg_wl (31 * v1_173)) + r181)) (fun v1_186 =>
                tg_bd (f_X8_soonOf v3_95 0 1 m181) (fun r196 m196 =>
                  tg_lt (tg_wl ((tg_wl (31 * v1_186)) + r196)) (fun v1_201 =>
                    tg_bd (f_X8_soonOf v3_95 2 2 m196) (fun r211 m211 =>
                      tg_lt (tg_wl ((tg_wl (31 * v1_201)) + r211)) (fun v1_216 =>
                        tg_bd (f_X8_looseOf v3_95 m211) (fun r224 m224 =>
                          tg_lt (tg_wl ((tg_wl (31 * v1_216)) + r224)) (fun v1_229 =>
                            tg_bd (f_X8_beganOf v3_95 0 m224) (fun r238 m238 =>
                              tg_lt (tg_wl ((tg_wl (31 * v1_229)) + r238)) (fun v1_243 =>
                                tg_bd (f_X8_beganOf v3_95 1 m238) (fun r252 m252 =>
                                  tg_lt (tg_wl ((tg_wl (31 * v1_243)) + r252)) (fun v1_257 =>
                                    tg_bd (f_X8_gameOf v3_95 3 0 m252) (fun r267 m267 =>
                                      tg_lt (tg_wl ((tg_wl (31 * v1_257)) + r267)) (fun v1_272 =>
                                        tg_bd (f_X8_gameOf v3_95 3 1 m267) (fun r282 m282 =>
                                          tg_lt (tg_wl ((tg_wl (31 * v1_272)) + r282)) (fun v1_287 =>
                                            tg_lt (tg_wi (v3_95 + 1)) (fun v3_288 =>
                                              self95 v1_287 v3_288 m282))))))))))))))))))) (fun j171 =>
            if m_149 0 15 ≤ 0 then
              j171 (-1)
            else
              tg_ck (0 ≤ 0 ∧ 0 < 64) (
                j171 (m_149 12 0)))) (fun j149 =>
            tg_fx (γ := Int → Int → tg_Mem → tg_R) (f_X8_digest_B122 j149) (fun _ _ _ => none) tg_FU v1_112 0 m115))))
noncomputable def f_X8_digest_B56 (m37 : tg_Mem) (v3_45 : Int) (j87 : Int → tg_R) (self56 : Int → Int → tg_R) (v1_56 : Int) (v4_56 : Int) : tg_R :=
  if 3 ≤ v4_56 then
    j87 v1_56
  else
    tg_ck (0 ≤ tg_wi ((tg_wi (3 * v3_45)) + v4_56) ∧ tg_wi ((tg_wi (3 * v3_45)) + v4_56) < 24) (
      tg_lt (tg_wl ((tg_wl (31 * v1_56)) + (m37 7 (tg_wi ((tg_wi (3 * v3_45)) + v4_56)).toNat))) (fun v1_80 =>
        tg_lt (tg_wi (v4_56 + 1)) (fun v4_81 =>
          self56 v1_80 v4_81)))
noncomputable def f_X8_digest_B45 (m37 : tg_Mem) (j93 : Int → tg_R) (self45 : Int → Int → tg_R) (v1_45 : Int) (v3_45 : Int) : tg_R :=
  if m37 0 8 ≤ v3_45 then
    j93 v1_45
  else
    tg_jn (γ := Int → tg_R) (fun (v1_87 : Int) => tg_lt (tg_wi (v3_45 + 1)) (fun v3_87 =>
      self45 v1_87 v3_87)) (fun j87 =>
      tg_fx (γ := Int → Int → tg_R) (f_X8_digest_B56 m37 v3_45 j87) (fun _ _ => none) tg_FU v1_45 0)
noncomputable def f_X8_digest_B6 (j31 : Int → tg_Mem → tg_R) (self6 : Int → Int → tg_Mem → tg_R) (v1_6 : Int) (v3_6 : Int) (m_6 : tg_Mem) : tg_R :=
  if 8 ≤ v3_6 then
    j31 v1_6 m_6
  else
    tg_bd (f_X8_count v3_6 m_6) (fun r19 m19 =>
      tg_lt (tg_wl ((tg_wl (31 * v1_6)) + r19)) (fun v1_24 =>
        tg_lt (tg_wi (v3_6 + 1)) (fun v3_25 =>
          self6 v1_24 v3_25 m19)))
noncomputable def f_X8_digest  (m : tg_Mem) : tg_R :=
  tg_jn (γ := Int → tg_Mem → tg_R) (fun (v1_31 : Int) (m_31 : tg_Mem) => tg_bd (f_X8_reads  m_31) (fun r37 m37 =>
    tg_lt (tg_wl ((tg_wl (31 * v1_31)) + r37)) (fun v1_42 =>
      tg_jn (γ := Int → tg_R) (fun (v1_93 : Int) => tg_jn (γ := Int → tg_Mem → tg_R) (fun (v1_294 : Int) (m_294 : tg_Mem) => tg_bd (f_X8_pulled 0 0 1 0 m_294) (fun r304 m304 =>
        tg_lt (tg_wl ((tg_wl (31 * v1_294)) + r304)) (fun v1_309 =>
          tg_bd (f_X8_pulled 0 0 1 1 m304) (fun r320 m320 =>
            tg_lt (tg_wl ((tg_wl (31 * v1_309)) + r320)) (fun v1_325 =>
              tg_bd (f_X8_alikeNow  m320) (fun r332 m332 =>
                some (tg_wl ((tg_wl (31 * v1_325)) + r332), m332))))))) (fun j294 =>
        tg_fx (γ := Int → Int → tg_Mem → tg_R) (f_X8_digest_B95 j294) (fun _ _ _ => none) tg_FU v1_93 0 m37)) (fun j93 =>
        tg_fx (γ := Int → Int → tg_R) (f_X8_digest_B45 m37 j93) (fun _ _ => none) tg_FU v1_42 0)))) (fun j31 =>
    tg_fx (γ := Int → Int → tg_Mem → tg_R) (f_X8_digest_B6 j31) (fun _ _ _ => none) tg_FU 17 0 m)
theorem hy_X8_digest : yX8_digest.cls = RX8 ∧ yX8_digest.cls ≠ "java/lang/invoke/MethodHandle" ∧ yX8_digest.cls ≠ "java/lang/invoke/VarHandle" ∧ (parseMethodDescriptor yX8_digest.desc).map (fun q => q.parameters.length) = some 0 := by decide +kernel
set_option maxRecDepth 100000 in
set_option maxHeartbeats 4000000 in
theorem k_X8_digest    (m : tg_Mem) : tg_C yX8_digest cX8_digest 5 (some .long) 8 LM [tr_ 0] (f_X8_digest  m) m := by
  refine ta_enter2 (own := RX8) (by decide +kernel) rfl rfl (Nat.le_of_ble_eq_true rfl) rfl (fun E hE => ?_)
  unfold f_X8_digest
  refine ta_ldc2 (v := 17) hE dX8_digest_0 lc_X8_263 ⟨by decide, by decide⟩ ?_
  refine ta_lstoren (lv2 := [tr_ 0, tl_ 17, tj_, tj_, tj_]) hE dX8_digest_3 (Nat.le_of_ble_eq_true rfl) rfl rfl ?_
  refine ta_iconst (v := 0) hE dX8_digest_4 rfl ⟨by decide, by decide⟩ ?_
  refine ta_istoren (lv2 := [tr_ 0, tl_ 17, tj_, ti_ 0, tj_]) hE dX8_digest_5 (Nat.le_of_ble_eq_true rfl) rfl rfl ?_
  refine ta_join (γ := Int → tg_Mem → tg_R) (fun J => ∀ (v1_31 : Int) (m_31 : tg_Mem), tg_AW E LM (some .long) (J v1_31 m_31) 31 [tr_ 0, tl_ v1_31, tj_, tj_, tj_] [] m_31) ?_ (fun j31 hj31 => ?_)
  · intro v1_31 m_31
    refine ta_ldc2 (v := 31) hE dX8_digest_31 lc_X8_215 ⟨by decide, by decide⟩ ?_
    refine ta_lloadn hE dX8_digest_34 rfl ?_
    refine ta_lmul hE dX8_digest_35 ?_
    refine ta_aloadn hE dX8_digest_36 rfl ?_
    refine ta_callV (C := RX8) (T := TX8) (st := [tl_ (tg_wl (31 * v1_31))]) hE dX8_digest_37 (k_X8_reads m_31) ml_X8_129 im_X8_reads se_X8_reads in_X8 co_X8_reads hy_X8_reads ⟨Nat.le_of_ble_eq_true rfl, Nat.le_of_ble_eq_true rfl⟩ lm_0 rfl rfl rfl (fun _ => Nat.le_of_ble_eq_true rfl) (fun r37 m37 hx37 hr37 => ?_)
    change tg_AW E _ _ _ _ _ (ti_ r37 :: _) _
    refine ta_i2l hE dX8_digest_40 ?_
    refine ta_ladd hE dX8_digest_41 ?_
    refine ta_nml (fun v1_42 => ?_)
    refine ta_lstoren (lv2 := [tr_ 0, tl_ v1_42, tj_, tj_, tj_]) hE dX8_digest_42 (Nat.le_of_ble_eq_true rfl) rfl rfl ?_
    refine ta_iconst (v := 0) hE dX8_digest_43 rfl ⟨by decide, by decide⟩ ?_
    refine ta_istoren (lv2 := [tr_ 0, tl_ v1_42, tj_, ti_ 0, tj_]) hE dX8_digest_44 (Nat.le_of_ble_eq_true rfl) rfl rfl ?_
    refine ta_join (γ := Int → tg_R) (fun J => ∀ (v1_93 : Int), tg_AW E LM (some .long) (J v1_93) 93 [tr_ 0, tl_ v1_93, tj_, tj_, tj_] [] m37) ?_ (fun j93 hj93 => ?_)
    · intro v1_93
      refine ta_iconst (v := 0) hE dX8_digest_93 rfl ⟨by decide, by decide⟩ ?_
      refine ta_istoren (lv2 := [tr_ 0, tl_ v1_93, tj_, ti_ 0, tj_]) hE dX8_digest_94 (Nat.le_of_ble_eq_true rfl) rfl rfl ?_
      refine ta_join (γ := Int → tg_Mem → tg_R) (fun J => ∀ (v1_294 : Int) (m_294 : tg_Mem), tg_AW E LM (some .long) (J v1_294 m_294) 294 [tr_ 0, tl_ v1_294, tj_, tj_, tj_] [] m_294) ?_ (fun j294 hj294 => ?_)
      · intro v1_294 m_294
        refine ta_ldc2 (v := 31) hE dX8_digest_294 lc_X8_215 ⟨by decide, by decide⟩ ?_
        refine ta_lloadn hE dX8_digest_297 rfl ?_
        refine ta_lmul hE dX8_digest_298 ?_
        refine ta_aloadn hE dX8_digest_299 rfl ?_
        refine ta_iconst (v := 0) hE dX8_digest_300 rfl ⟨by decide, by decide⟩ ?_
        refine ta_iconst (v := 0) hE dX8_digest_301 rfl ⟨by decide, by decide⟩ ?_
        refine ta_iconst (v := 1) hE dX8_digest_302 rfl ⟨by decide, by decide⟩ ?_
        refine ta_iconst (v := 0) hE dX8_digest_303 rfl ⟨by decide, by decide⟩ ?_
        refine ta_callV (C := RX8) (T := TX8) (st := [tl_ (tg_wl (31 * v1_294))]) hE dX8_digest_304 (k_X8_pulled 0 0 1 0 m_294) ml_X8_268 im_X8_pulled se_X8_pulled in_X8 co_X8_pulled hy_X8_pulled ⟨Nat.le_of_ble_eq_true rfl, Nat.le_of_ble_eq_true rfl⟩ lm_0 rfl rfl rfl (fun _ => Nat.le_of_ble_eq_true rfl) (fun r304 m304 hx304 hr304 => ?_)
        change tg_AW E _ _ _ _ _ (ti_ r304 :: _) _
        refine ta_i2l hE dX8_digest_307 ?_
        refine ta_ladd hE dX8_digest_308 ?_
        refine ta_nml (fun v1_309 => ?_)
        refine ta_lstoren (lv2 := [tr_ 0, tl_ v1_309, tj_, tj_, tj_]) hE dX8_digest_309 (Nat.le_of_ble_eq_true rfl) rfl rfl ?_
        refine ta_ldc2 (v := 31) hE dX8_digest_310 lc_X8_215 ⟨by decide, by decide⟩ ?_
        refine ta_lloadn hE dX8_digest_313 rfl ?_
        refine ta_lmul hE dX8_digest_314 ?_
        refine ta_aloadn hE dX8_digest_315 rfl ?_
        refine ta_iconst (v := 0) hE dX8_digest_316 rfl ⟨by decide, by decide⟩ ?_
        refine ta_iconst (v := 0) hE dX8_digest_317 rfl ⟨by decide, by decide⟩ ?_
        refine ta_iconst (v := 1) hE dX8_digest_318 rfl ⟨by decide, by decide⟩ ?_
        refine ta_iconst (v := 1) hE dX8_digest_319 rfl ⟨by decide, by decide⟩ ?_
        refine ta_callV (C := RX8) (T := TX8) (st := [tl_ (tg_wl (31 * v1_309))]) hE dX8_digest_320 (k_X8_pulled 0 0 1 1 m304) ml_X8_268 im_X8_pulled se_X8_pulled in_X8 co_X8_pulled hy_X8_pulled ⟨Nat.le_of_ble_eq_true rfl, Nat.le_of_ble_eq_true rfl⟩ lm_0 rfl rfl rfl (fun _ => Nat.le_of_ble_eq_true rfl) (fun r320 m320 hx320 hr320 => ?_)
        change tg_AW E _ _ _ _ _ (ti_ r320 :: _) _
        refine ta_i2l hE dX8_digest_323 ?_
        refine ta_ladd hE dX8_digest_324 ?_
        refine ta_nml (fun v1_325 => ?_)
        refine ta_lstoren (lv2 := [tr_ 0, tl_ v1_325, tj_, tj_, tj_]) hE dX8_digest_325 (Nat.le_of_ble_eq_true rfl) rfl rfl ?_
        refine ta_ldc2 (v := 31) hE dX8_digest_326 lc_X8_215 ⟨by decide, by decide⟩ ?_
        refine ta_lloadn hE dX8_digest_329 rfl ?_
        refine ta_lmul hE dX8_digest_330 ?_
        refine ta_aloadn hE dX8_digest_331 rfl ?_
        refine ta_callV (C := RX8) (T := TX8) (st := [tl_ (tg_wl (31 * v1_325))]) hE dX8_digest_332 (k_X8_alikeNow m320) ml_X8_260 im_X8_alikeNow se_X8_alikeNow in_X8 co_X8_alikeNow hy_X8_alikeNow ⟨Nat.le_of_ble_eq_true rfl, Nat.le_of_ble_eq_true rfl⟩ lm_0 rfl rfl rfl (fun _ => Nat.le_of_ble_eq_true rfl) (fun r332 m332 hx332 hr332 => ?_)
        change tg_AW E _ _ _ _ _ (ti_ r332 :: _) _
        refine ta_i2l hE dX8_digest_335 ?_
        refine ta_ladd hE dX8_digest_336 ?_
        exact ta_lret hE dX8_digest_337
      · have hl95 := ta_fx (γ := Int → Int → tg_Mem → tg_R) (F := (f_X8_digest_B95 j294)) (z := (fun _ _ _ => none)) (fun J => ∀ (v1_95 : Int) (v3_95 : Int) (m_95 : tg_Mem), tg_AW E LM (some .long) (J v1_95 v3_95 m_95) 95 [tr_ 0, tl_ v1_95, tj_, ti_ v3_95, tj_] [] m_95) (by intros; exact ta_none) (fun self95 hself95 => by
            intro v1_95 v3_95 m_95
            unfold f_X8_digest_B95
            refine ta_iloadn hE dX8_digest_95 rfl ?_
            refine ta_iconst (v := 2) hE dX8_digest_96 rfl ⟨by decide, by decide⟩ ?_
            refine ta_icmp_ge (tgt := 294) hE dX8_digest_97 (by decide) (fun c97 => ?_) (fun c97 => ?_)
            · exact (ta_wk (i := 3) (lv2 := [tr_ 0, tl_ v1_95, tj_, tj_, tj_]) rfl (hj294 v1_95 m_95))
            · refine ta_ldc2 (v := 31) hE dX8_digest_100 lc_X8_215 ⟨by decide, by decide⟩ ?_
              refine ta_lloadn hE dX8_digest_103 rfl ?_
              refine ta_lmul hE dX8_digest_104 ?_
              refine ta_aloadn hE dX8_digest_105 rfl ?_
              refine ta_iloadn hE dX8_digest_106 rfl ?_
              refine ta_callV (C := RX8) (T := TX8) (st := [tl_ (tg_wl (31 * v1_95))]) hE dX8_digest_107 (k_X8_judgedOf v3_95 m_95) ml_X8_203 im_X8_judgedOf se_X8_judgedOf in_X8 co_X8_judgedOf hy_X8_judgedOf ⟨Nat.le_of_ble_eq_true rfl, Nat.le_of_ble_eq_true rfl⟩ lm_0 rfl rfl rfl (fun _ => Nat.le_of_ble_eq_true rfl) (fun r107 m107 hx107 hr107 => ?_)
              change tg_AW E _ _ _ _ _ (ti_ r107 :: _) _
              refine ta_i2l hE dX8_digest_110 ?_
              refine ta_ladd hE dX8_digest_111 ?_
              refine ta_nml (fun v1_112 => ?_)
              refine ta_lstoren (lv2 := [tr_ 0, tl_ v1_112, tj_, ti_ v3_95, tj_]) hE dX8_digest_112 (Nat.le_of_ble_eq_true rfl) rfl rfl ?_
              refine ta_aloadn hE dX8_digest_113 rfl ?_
              refine ta_iloadn hE dX8_digest_114 rfl ?_
              refine ta_callV (C := RX8) (T := TX8) (st := []) hE dX8_digest_115 (k_X8_done v3_95 m107) ml_X8_200 im_X8_done se_X8_done in_X8 co_X8_done hy_X8_done ⟨Nat.le_of_ble_eq_true rfl, Nat.le_of_ble_eq_true rfl⟩ lm_0 rfl rfl rfl (fun _ => Nat.le_of_ble_eq_true rfl) (fun r115 m115 hx115 hr115 => ?_)
              change tg_AW E _ _ _ _ _ (ti_ r115 :: _) _
              refine ta_pop hE dX8_digest_118 (fun _ => rfl) ?_
              refine ta_iconst (v := 0) hE dX8_digest_119 rfl ⟨by decide, by decide⟩ ?_
              refine ta_istore (lv2 := [tr_ 0, tl_ v1_112, tj_, ti_ v3_95, ti_ 0]) hE dX8_digest_120 (Nat.le_of_ble_eq_true rfl) rfl rfl ?_
              refine ta_join (γ := Int → tg_Mem → tg_R) (fun J => ∀ (v1_149 : Int) (m_149 : tg_Mem), tg_AW E LM (some .long) (J v1_149 m_149) 149 [tr_ 0, tl_ v1_149, tj_, ti_ v3_95, tj_] [] m_149) ?_ (fun j149 hj149 => ?_)
              · intro v1_149 m_149
                refine ta_ldc2 (v := 31) hE dX8_digest_149 lc_X8_215 ⟨by decide, by decide⟩ ?_
                refine ta_lloadn hE dX8_digest_152 rfl ?_
                refine ta_lmul hE dX8_digest_153 ?_
                refine ta_aloadn hE dX8_digest_154 rfl ?_
                refine gf_X8_150 hE dX8_digest_155 lm_0 rfl ?_
                refine ta_join (γ := Int → tg_R) (fun J => ∀ (s0_171 : Int), tg_AW E LM (some .long) (J s0_171) 171 [tr_ 0, tj_, tj_, ti_ v3_95, tj_] [ti_ s0_171, tl_ (tg_wl (31 * v1_149))] m_149) ?_ (fun j171 hj171 => ?_)
                · intro s0_171
                  refine ta_i2l hE dX8_digest_171 ?_
                  refine ta_ladd hE dX8_digest_172 ?_
                  refine ta_nml (fun v1_173 => ?_)
                  refine ta_lstoren (lv2 := [tr_ 0, tl_ v1_173, tj_, ti_ v3_95, tj_]) hE dX8_digest_173 (Nat.le_of_ble_eq_true rfl) rfl rfl ?_
                  refine ta_ldc2 (v := 31) hE dX8_digest_174 lc_X8_215 ⟨by decide, by decide⟩ ?_
                  refine ta_lloadn hE dX8_digest_177 rfl ?_
                  refine ta_lmul hE dX8_digest_178 ?_
                  refine ta_aloadn hE dX8_digest_179 rfl ?_
                  refine ta_iloadn hE dX8_digest_180 rfl ?_
                  refine ta_callV (C := RX8) (T := TX8) (st := [tl_ (tg_wl (31 * v1_173))]) hE dX8_digest_181 (k_X8_needsOf v3_95 m_149) ml_X8_212 im_X8_needsOf se_X8_needsOf in_X8 co_X8_needsOf hy_X8_needsOf ⟨Nat.le_of_ble_eq_true rfl, Nat.le_of_ble_eq_true rfl⟩ lm_0 rfl rfl rfl (fun _ => Nat.le_of_ble_eq_true rfl) (fun r181 m181 hx181 hr181 => ?_)
                  change tg_AW E _ _ _ _ _ (ti_ r181 :: _) _
                  refine ta_i2l hE dX8_digest_184 ?_
                  refine ta_ladd hE dX8_digest_185 ?_
                  refine ta_nml (fun v1_186 => ?_)
                  refine ta_lstoren (lv2 := [tr_ 0, tl_ v1_186, tj_, ti_ v3_95, tj_]) hE dX8_digest_186 (Nat.le_of_ble_eq_true rfl) rfl rfl ?_
                  refine ta_ldc2 (v := 31) hE dX8_digest_187 lc_X8_215 ⟨by decide, by decide⟩ ?_
                  refine ta_lloadn hE dX8_digest_190 rfl ?_
                  refine ta_lmul hE dX8_digest_191 ?_
                  refine ta_aloadn hE dX8_digest_192 rfl ?_
                  refine ta_iloadn hE dX8_digest_193 rfl ?_
                  refine ta_iconst (v := 0) hE dX8_digest_194 rfl ⟨by decide, by decide⟩ ?_
                  refine ta_iconst (v := 1) hE dX8_digest_195 rfl ⟨by decide, by decide⟩ ?_
                  refine ta_callV (C := RX8) (T := TX8) (st := [tl_ (tg_wl (31 * v1_186))]) hE dX8_digest_196 (k_X8_soonOf v3_95 0 1 m181) ml_X8_231 im_X8_soonOf se_X8_soonOf in_X8 co_X8_soonOf hy_X8_soonOf ⟨Nat.le_of_ble_eq_true rfl, Nat.le_of_ble_eq_true rfl⟩ lm_0 rfl rfl rfl (fun _ => Nat.le_of_ble_eq_true rfl) (fun r196 m196 hx196 hr196 => ?_)
                  change tg_AW E _ _ _ _ _ (ti_ r196 :: _) _
                  refine ta_i2l hE dX8_digest_199 ?_
                  refine ta_ladd hE dX8_digest_200 ?_
                  refine ta_nml (fun v1_201 => ?_)
                  refine ta_lstoren (lv2 := [tr_ 0, tl_ v1_201, tj_, ti_ v3_95, tj_]) hE dX8_digest_201 (Nat.le_of_ble_eq_true rfl) rfl rfl ?_
                  refine ta_ldc2 (v := 31) hE dX8_digest_202 lc_X8_215 ⟨by decide, by decide⟩ ?_
                  refine ta_lloadn hE dX8_digest_205 rfl ?_
                  refine ta_lmul hE dX8_digest_206 ?_
                  refine ta_aloadn hE dX8_digest_207 rfl ?_
                  refine ta_iloadn hE dX8_digest_208 rfl ?_
                  refine ta_iconst (v := 2) hE dX8_digest_209 rfl ⟨by decide, by decide⟩ ?_
                  refine ta_iconst (v := 2) hE dX8_digest_210 rfl ⟨by decide, by decide⟩ ?_
                  refine ta_callV (C := RX8) (T := TX8) (st := [tl_ (tg_wl (31 * v1_201))]) hE dX8_digest_211 (k_X8_soonOf v3_95 2 2 m196) ml_X8_231 im_X8_soonOf se_X8_soonOf in_X8 co_X8_soonOf hy_X8_soonOf ⟨Nat.le_of_ble_eq_true rfl, Nat.le_of_ble_eq_true rfl⟩ lm_0 rfl rfl rfl (fun _ => Nat.le_of_ble_eq_true rfl) (fun r211 m211 hx211 hr211 => ?_)
                  change tg_AW E _ _ _ _ _ (ti_ r211 :: _) _
                  refine ta_i2l hE dX8_digest_214 ?_
                  refine ta_ladd hE dX8_digest_215 ?_
                  refine ta_nml (fun v1_216 => ?_)
                  refine ta_lstoren (lv2 := [tr_ 0, tl_ v1_216, tj_, ti_ v3_95, tj_]) hE dX8_digest_216 (Nat.le_of_ble_eq_true rfl) rfl rfl ?_
                  refine ta_ldc2 (v := 31) hE dX8_digest_217 lc_X8_215 ⟨by decide, by decide⟩ ?_
                  refine ta_lloadn hE dX8_digest_220 rfl ?_
                  refine ta_lmul hE dX8_digest_221 ?_
                  refine ta_aloadn hE dX8_digest_222 rfl ?_
                  refine ta_iloadn hE dX8_digest_223 rfl ?_
                  refine ta_callV (C := RX8) (T := TX8) (st := [tl_ (tg_wl (31 * v1_216))]) hE dX8_digest_224 (k_X8_looseOf v3_95 m211) ml_X8_234 im_X8_looseOf se_X8_looseOf in_X8 co_X8_looseOf hy_X8_looseOf ⟨Nat.le_of_ble_eq_true rfl, Nat.le_of_ble_eq_true rfl⟩ lm_0 rfl rfl rfl (fun _ => Nat.le_of_ble_eq_true rfl) (fun r224 m224 hx224 hr224 => ?_)
                  change tg_AW E _ _ _ _ _ (ti_ r224 :: _) _
                  refine ta_i2l hE dX8_digest_227 ?_
                  refine ta_ladd hE dX8_digest_228 ?_
                  refine ta_nml (fun v1_229 => ?_)
                  refine ta_lstoren (lv2 := [tr_ 0, tl_ v1_229, tj_, ti_ v3_95, tj_]) hE dX8_digest_229 (Nat.le_of_ble_eq_true rfl) rfl rfl ?_
                  refine ta_ldc2 (v := 31) hE dX8_digest_230 lc_X8_215 ⟨by decide, by decide⟩ ?_
                  refine ta_lloadn hE dX8_digest_233 rfl ?_
                  refine ta_lmul hE dX8_digest_234 ?_
                  refine ta_aloadn hE dX8_digest_235 rfl ?_
                  refine ta_iloadn hE dX8_digest_236 rfl ?_
                  refine ta_iconst (v := 0) hE dX8_digest_237 rfl ⟨by decide, by decide⟩ ?_
                  refine ta_callV (C := RX8) (T := TX8) (st := [tl_ (tg_wl (31 * v1_229))]) hE dX8_digest_238 (k_X8_beganOf v3_95 0 m224) ml_X8_245 im_X8_beganOf se_X8_beganOf in_X8 co_X8_beganOf hy_X8_beganOf ⟨Nat.le_of_ble_eq_true rfl, Nat.le_of_ble_eq_true rfl⟩ lm_0 rfl rfl rfl (fun _ => Nat.le_of_ble_eq_true rfl) (fun r238 m238 hx238 hr238 => ?_)
                  change tg_AW E _ _ _ _ _ (ti_ r238 :: _) _
                  refine ta_i2l hE dX8_digest_241 ?_
                  refine ta_ladd hE dX8_digest_242 ?_
                  refine ta_nml (fun v1_243 => ?_)
                  refine ta_lstoren (lv2 := [tr_ 0, tl_ v1_243, tj_, ti_ v3_95, tj_]) hE dX8_digest_243 (Nat.le_of_ble_eq_true rfl) rfl rfl ?_
                  refine ta_ldc2 (v := 31) hE dX8_digest_244 lc_X8_215 ⟨by decide, by decide⟩ ?_
                  refine ta_lloadn hE dX8_digest_247 rfl ?_
                  refine ta_lmul hE dX8_digest_248 ?_
                  refine ta_aloadn hE dX8_digest_249 rfl ?_
                  refine ta_iloadn hE dX8_digest_250 rfl ?_
                  refine ta_iconst (v := 1) hE dX8_digest_251 rfl ⟨by decide, by decide⟩ ?_
                  refine ta_callV (C := RX8) (T := TX8) (st := [tl_ (tg_wl (31 * v1_243))]) hE dX8_digest_252 (k_X8_beganOf v3_95 1 m238) ml_X8_245 im_X8_beganOf se_X8_beganOf in_X8 co_X8_beganOf hy_X8_beganOf ⟨Nat.le_of_ble_eq_true rfl, Nat.le_of_ble_eq_true rfl⟩ lm_0 rfl rfl rfl (fun _ => Nat.le_of_ble_eq_true rfl) (fun r252 m252 hx252 hr252 => ?_)
                  change tg_AW E _ _ _ _ _ (ti_ r252 :: _) _
                  refine ta_i2l hE dX8_digest_255 ?_
                  refine ta_ladd hE dX8_digest_256 ?_
                  refine ta_nml (fun v1_257 => ?_)
                  refine ta_lstoren (lv2 := [tr_ 0, tl_ v1_257, tj_, ti_ v3_95, tj_]) hE dX8_digest_257 (Nat.le_of_ble_eq_true rfl) rfl rfl ?_
                  refine ta_ldc2 (v := 31) hE dX8_digest_258 lc_X8_215 ⟨by decide, by decide⟩ ?_
                  refine ta_lloadn hE dX8_digest_261 rfl ?_
                  refine ta_lmul hE dX8_digest_262 ?_
                  refine ta_aloadn hE dX8_digest_263 rfl ?_
                  refine ta_iloadn hE dX8_digest_264 rfl ?_
                  refine ta_iconst (v := 3) hE dX8_digest_265 rfl ⟨by decide, by decide⟩ ?_
                  refine ta_iconst (v := 0) hE dX8_digest_266 rfl ⟨by decide, by decide⟩ ?_
                  refine ta_callV (C := RX8) (T := TX8) (st := [tl_ (tg_wl (31 * v1_257))]) hE dX8_digest_267 (k_X8_gameOf v3_95 3 0 m252) ml_X8_257 im_X8_gameOf se_X8_gameOf in_X8 co_X8_gameOf hy_X8_gameOf ⟨Nat.le_of_ble_eq_true rfl, Nat.le_of_ble_eq_true rfl⟩ lm_0 rfl rfl rfl (fun _ => Nat.le_of_ble_eq_true rfl) (fun r267 m267 hx267 hr267 => ?_)
                  change tg_AW E _ _ _ _ _ (ti_ r267 :: _) _
                  refine ta_i2l hE dX8_digest_270 ?_
                  refine ta_ladd hE dX8_digest_271 ?_
                  refine ta_nml (fun v1_272 => ?_)
                  refine ta_lstoren (lv2 := [tr_ 0, tl_ v1_272, tj_, ti_ v3_95, tj_]) hE dX8_digest_272 (Nat.le_of_ble_eq_true rfl) rfl rfl ?_
                  refine ta_ldc2 (v := 31) hE dX8_digest_273 lc_X8_215 ⟨by decide, by decide⟩ ?_
                  refine ta_lloadn hE dX8_digest_276 rfl ?_
                  refine ta_lmul hE dX8_digest_277 ?_
                  refine ta_aloadn hE dX8_digest_278 rfl ?_
                  refine ta_iloadn hE dX8_digest_279 rfl ?_
                  refine ta_iconst (v := 3) hE dX8_digest_280 rfl ⟨by decide, by decide⟩ ?_
                  refine ta_iconst (v := 1) hE dX8_digest_281 rfl ⟨by decide, by decide⟩ ?_
                  refine ta_callV (C := RX8) (T := TX8) (st := [tl_ (tg_wl (31 * v1_272))]) hE dX8_digest_282 (k_X8_gameOf v3_95 3 1 m267) ml_X8_257 im_X8_gameOf se_X8_gameOf in_X8 co_X8_gameOf hy_X8_gameOf ⟨Nat.le_of_ble_eq_true rfl, Nat.le_of_ble_eq_true rfl⟩ lm_0 rfl rfl rfl (fun _ => Nat.le_of_ble_eq_true rfl) (fun r282 m282 hx282 hr282 => ?_)
                  change tg_AW E _ _ _ _ _ (ti_ r282 :: _) _
                  refine ta_i2l hE dX8_digest_285 ?_
                  refine ta_ladd hE dX8_digest_286 ?_
                  refine ta_nml (fun v1_287 => ?_)
                  refine ta_lstoren (lv2 := [tr_ 0, tl_ v1_287, tj_, ti_ v3_95, tj_]) hE dX8_digest_287 (Nat.le_of_ble_eq_true rfl) rfl rfl ?_
                  refine ta_iincn (lv2 := fun v3_288 => [tr_ 0, tl_ v1_287, tj_, ti_ v3_288, tj_]) hE dX8_digest_288 rfl rfl rfl (fun v3_288 => ?_)
                  refine ta_goto (tgt := 95) hE dX8_digest_291 (by decide) ?_
                  exact (hself95 v1_287 v3_288 m282)
                · refine ta_if_le (tgt := 170) hE dX8_digest_158 (by decide) (fun c158 => ?_) (fun c158 => ?_)
                  · refine ta_iconst (v := (-1)) hE dX8_digest_170 rfl ⟨by decide, by decide⟩ ?_
                    exact (ta_wk (i := 1) (lv2 := [tr_ 0, tj_, tj_, ti_ v3_95, tj_]) rfl (hj171 (-1)))
                  · refine ta_aloadn hE dX8_digest_161 rfl ?_
                    refine gr_X8_43 hE dX8_digest_162 lm_0 rfl ?_
                    refine ta_iconst (v := 0) hE dX8_digest_165 rfl ⟨by decide, by decide⟩ ?_
                    refine ta_iald (n' := 64) hE dX8_digest_166 lm_12 rfl (fun _ _ => ?_)
                    refine ta_goto (tgt := 171) hE dX8_digest_167 (by decide) ?_
                    exact (ta_wk (i := 1) (lv2 := [tr_ 0, tj_, tj_, ti_ v3_95, tj_]) rfl (hj171 (m_149 12 0)))
              · have hl122 := ta_fx (γ := Int → Int → tg_Mem → tg_R) (F := (f_X8_digest_B122 j149)) (z := (fun _ _ _ => none)) (fun J => ∀ (v1_122 : Int) (v4_122 : Int) (m_122 : tg_Mem), tg_AW E LM (some .long) (J v1_122 v4_122 m_122) 122 [tr_ 0, tl_ v1_122, tj_, ti_ v3_95, ti_ v4_122] [] m_122) (by intros; exact ta_none) (fun self122 hself122 => by
                    intro v1_122 v4_122 m_122
                    unfold f_X8_digest_B122
                    refine ta_iload hE dX8_digest_122 rfl ?_
                    refine bp_8 hE dX8_digest_124 ?_
                    refine ta_icmp_ge (tgt := 149) hE dX8_digest_126 (by decide) (fun c126 => ?_) (fun c126 => ?_)
                    · exact (ta_wk (i := 4) (lv2 := [tr_ 0, tl_ v1_122, tj_, ti_ v3_95, tj_]) rfl (hj149 v1_122 m_122))
                    · refine ta_ldc2 (v := 31) hE dX8_digest_129 lc_X8_215 ⟨by decide, by decide⟩ ?_
                      refine ta_lloadn hE dX8_digest_132 rfl ?_
                      refine ta_lmul hE dX8_digest_133 ?_
                      refine ta_aloadn hE dX8_digest_134 rfl ?_
                      refine ta_iload hE dX8_digest_135 rfl ?_
                      refine ta_callV (C := RX8) (T := TX8) (st := [tl_ (tg_wl (31 * v1_122))]) hE dX8_digest_137 (k_X8_stateNow v4_122 m_122) ml_X8_209 im_X8_stateNow se_X8_stateNow in_X8 co_X8_stateNow hy_X8_stateNow ⟨Nat.le_of_ble_eq_true rfl, Nat.le_of_ble_eq_true rfl⟩ lm_0 rfl rfl rfl (fun _ => Nat.le_of_ble_eq_true rfl) (fun r137 m137 hx137 hr137 => ?_)
                      change tg_AW E _ _ _ _ _ (ti_ r137 :: _) _
                      refine ta_i2l hE dX8_digest_140 ?_
                      refine ta_ladd hE dX8_digest_141 ?_
                      refine ta_nml (fun v1_142 => ?_)
                      refine ta_lstoren (lv2 := [tr_ 0, tl_ v1_142, tj_, ti_ v3_95, ti_ v4_122]) hE dX8_digest_142 (Nat.le_of_ble_eq_true rfl) rfl rfl ?_
                      refine ta_iincn (lv2 := fun v4_143 => [tr_ 0, tl_ v1_142, tj_, ti_ v3_95, ti_ v4_143]) hE dX8_digest_143 rfl rfl rfl (fun v4_143 => ?_)
                      refine ta_goto (tgt := 122) hE dX8_digest_146 (by decide) ?_
                      exact (hself122 v1_142 v4_143 m137))
                exact (hl122 tg_FU v1_112 0 m115))
        exact (hl95 tg_FU v1_93 0 m37)
    · have hl45 := ta_fx (γ := Int → Int → tg_R) (F := (f_X8_digest_B45 m37 j93)) (z := (fun _ _ => none)) (fun J => ∀ (v1_45 : Int) (v3_45 : Int), tg_AW E LM (some .long) (J v1_45 v3_45) 45 [tr_ 0, tl_ v1_45, tj_, ti_ v3_45, tj_] [] m37) (by intros; exact ta_none) (fun self45 hself45 => by
          intro v1_45 v3_45
          unfold f_X8_digest_B45
          refine ta_iloadn hE dX8_digest_45 rfl ?_
          refine ta_aloadn hE dX8_digest_46 rfl ?_
          refine gf_X8_111 hE dX8_digest_47 lm_0 rfl ?_
          refine ta_icmp_ge (tgt := 93) hE dX8_digest_50 (by decide) (fun c50 => ?_) (fun c50 => ?_)
          · exact (ta_wk (i := 3) (lv2 := [tr_ 0, tl_ v1_45, tj_, tj_, tj_]) rfl (hj93 v1_45))
          · refine ta_iconst (v := 0) hE dX8_digest_53 rfl ⟨by decide, by decide⟩ ?_
            refine ta_istore (lv2 := [tr_ 0, tl_ v1_45, tj_, ti_ v3_45, ti_ 0]) hE dX8_digest_54 (Nat.le_of_ble_eq_true rfl) rfl rfl ?_
            refine ta_join (γ := Int → tg_R) (fun J => ∀ (v1_87 : Int), tg_AW E LM (some .long) (J v1_87) 87 [tr_ 0, tl_ v1_87, tj_, ti_ v3_45, tj_] [] m37) ?_ (fun j87 hj87 => ?_)
            · intro v1_87
              refine ta_iincn (lv2 := fun v3_87 => [tr_ 0, tl_ v1_87, tj_, ti_ v3_87, tj_]) hE dX8_digest_87 rfl rfl rfl (fun v3_87 => ?_)
              refine ta_goto (tgt := 45) hE dX8_digest_90 (by decide) ?_
              exact (hself45 v1_87 v3_87)
            · have hl56 := ta_fx (γ := Int → Int → tg_R) (F := (f_X8_digest_B56 m37 v3_45 j87)) (z := (fun _ _ => none)) (fun J => ∀ (v1_56 : Int) (v4_56 : Int), tg_AW E LM (some .long) (J v1_56 v4_56) 56 [tr_ 0, tl_ v1_56, tj_, ti_ v3_45, ti_ v4_56] [] m37) (by intros; exact ta_none) (fun self56 hself56 => by
                  intro v1_56 v4_56
                  unfold f_X8_digest_B56
                  refine ta_iload hE dX8_digest_56 rfl ?_
                  refine ta_iconst (v := 3) hE dX8_digest_58 rfl ⟨by decide, by decide⟩ ?_
                  refine ta_icmp_ge (tgt := 87) hE dX8_digest_59 (by decide) (fun c59 => ?_) (fun c59 => ?_)
                  · exact (ta_wk (i := 4) (lv2 := [tr_ 0, tl_ v1_56, tj_, ti_ v3_45, tj_]) rfl (hj87 v1_56))
                  · refine ta_ldc2 (v := 31) hE dX8_digest_62 lc_X8_215 ⟨by decide, by decide⟩ ?_
                    refine ta_lloadn hE dX8_digest_65 rfl ?_
                    refine ta_lmul hE dX8_digest_66 ?_
                    refine ta_aloadn hE dX8_digest_67 rfl ?_
                    refine gr_X8_28 hE dX8_digest_68 lm_0 rfl ?_
                    refine ta_iconst (v := 3) hE dX8_digest_71 rfl ⟨by decide, by decide⟩ ?_
                    refine ta_iloadn hE dX8_digest_72 rfl ?_
                    refine ta_imul hE dX8_digest_73 ?_
                    refine ta_iload hE dX8_digest_74 rfl ?_
                    refine ta_iadd hE dX8_digest_76 ?_
                    refine ta_iald (n' := 24) hE dX8_digest_77 lm_7 rfl (fun _ _ => ?_)
                    refine ta_i2l hE dX8_digest_78 ?_
                    refine ta_ladd hE dX8_digest_79 ?_
                    refine ta_nml (fun v1_80 => ?_)
                    refine ta_lstoren (lv2 := [tr_ 0, tl_ v1_80, tj_, ti_ v3_45, ti_ v4_56]) hE dX8_digest_80 (Nat.le_of_ble_eq_true rfl) rfl rfl ?_
                    refine ta_iincn (lv2 := fun v4_81 => [tr_ 0, tl_ v1_80, tj_, ti_ v3_45, ti_ v4_81]) hE dX8_digest_81 rfl rfl rfl (fun v4_81 => ?_)
                    refine ta_goto (tgt := 56) hE dX8_digest_84 (by decide) ?_
                    exact (hself56 v1_80 v4_81))
              exact (hl56 tg_FU v1_45 0))
      exact (hl45 tg_FU v1_42 0)
  · have hl6 := ta_fx (γ := Int → Int → tg_Mem → tg_R) (F := (f_X8_digest_B6 j31)) (z := (fun _ _ _ => none)) (fun J => ∀ (v1_6 : Int) (v3_6 : Int) (m_6 : tg_Mem), tg_AW E LM (some .long) (J v1_6 v3_6 m_6) 6 [tr_ 0, tl_ v1_6, tj_, ti_ v3_6, tj_] [] m_6) (by intros; exact ta_none) (fun self6 hself6 => by
        intro v1_6 v3_6 m_6
        unfold f_X8_digest_B6
        refine ta_iloadn hE dX8_digest_6 rfl ?_
        refine bp_8 hE dX8_digest_7 ?_
        refine ta_icmp_ge (tgt := 31) hE dX8_digest_9 (by decide) (fun c9 => ?_) (fun c9 => ?_)
        · exact (ta_wk (i := 3) (lv2 := [tr_ 0, tl_ v1_6, tj_, tj_, tj_]) rfl (hj31 v1_6 m_6))
        · refine ta_ldc2 (v := 31) hE dX8_digest_12 lc_X8_215 ⟨by decide, by decide⟩ ?_
          refine ta_lloadn hE dX8_digest_15 rfl ?_
          refine ta_lmul hE dX8_digest_16 ?_
          refine ta_aloadn hE dX8_digest_17 rfl ?_
          refine ta_iloadn hE dX8_digest_18 rfl ?_
          refine ta_callV (C := RX8) (T := TX8) (st := [tl_ (tg_wl (31 * v1_6))]) hE dX8_digest_19 (k_X8_count v3_6 m_6) ml_X8_265 im_X8_count se_X8_count in_X8 co_X8_count hy_X8_count ⟨Nat.le_of_ble_eq_true rfl, Nat.le_of_ble_eq_true rfl⟩ lm_0 rfl rfl rfl (fun _ => Nat.le_of_ble_eq_true rfl) (fun r19 m19 hx19 hr19 => ?_)
          change tg_AW E _ _ _ _ _ (ti_ r19 :: _) _
          refine ta_i2l hE dX8_digest_22 ?_
          refine ta_ladd hE dX8_digest_23 ?_
          refine ta_nml (fun v1_24 => ?_)
          refine ta_lstoren (lv2 := [tr_ 0, tl_ v1_24, tj_, ti_ v3_6, tj_]) hE dX8_digest_24 (Nat.le_of_ble_eq_true rfl) rfl rfl ?_
          refine ta_iincn (lv2 := fun v3_25 => [tr_ 0, tl_ v1_24, tj_, ti_ v3_25, tj_]) hE dX8_digest_25 rfl rfl rfl (fun v3_25 => ?_)
          refine ta_goto (tgt := 6) hE dX8_digest_28 (by decide) ?_
          exact (hself6 v1_24 v3_25 m19))
    exact (hl6 tg_FU 17 0 m)
