noncomputable def f_X2_measureAcross (a0 : Int) (a1 : Int) (a2 : Int) (m : tg_Mem) : tg_R :=
  tg_bd (f_X7_isBelow a0 8 m) (fun r3 m3 =>
    if r3 = 0 then
      some (0, m3)
    else
      tg_bd (f_X7_isBelow a1 8 m3) (fun r12 m12 =>
        if r12 = 0 then
          some (0, m12)
        else
          tg_ck (0 ≤ a0 ∧ a0 < 8) (
            if m12 6 (a0).toNat ≠ tg_wi (a2 - 1) then
              some (0, m12)
            else
              tg_ck (0 ≤ a1 ∧ a1 < 8) (
                if m12 6 (a1).toNat ≠ (-1) then
                  some (0, m12)
                else
                  tg_ck (0 ≤ a1 ∧ a1 < 8) (
                    tg_lt (tg_up m12 6 (a1).toNat a2) (fun m46 =>
                      some (0, m46)))))))
theorem hy_X2_measureAcross : yX2_measureAcross.cls = RX2 ∧ yX2_measureAcross.cls ≠ "java/lang/invoke/MethodHandle" ∧ yX2_measureAcross.cls ≠ "java/lang/invoke/VarHandle" ∧ (parseMethodDescriptor yX2_measureAcross.desc).map (fun q => q.parameters.length) = some 3 := by decide +kernel
set_option maxRecDepth 100000 in
set_option maxHeartbeats 4000000 in
theorem k_X2_measureAcross   (a0 : Int) (a1 : Int) (a2 : Int) (m : tg_Mem) : tg_C yX2_measureAcross cX2_measureAcross 4 none 2 LX [tr_ 1, ti_ a0, ti_ a1, ti_ a2] (f_X2_measureAcross a0 a1 a2 m) m := by
  refine ta_enter2 (own := RX2) (by decide +kernel) rfl rfl (Nat.le_of_ble_eq_true rfl) rfl (fun E hE => ?_)
  unfold f_X2_measureAcross
  refine ta_iloadn hE dX2_measureAcross_0 rfl ?_
  refine bp_8 hE dX2_measureAcross_1 ?_
  refine ta_callN (host := RX7) (st := []) hE dX2_measureAcross_3 (k_X7_isBelow a0 8 m) nn_X2_87 st_X7_isBelow in_X7 co_X7_isBelow hy_X7_isBelow.2 ⟨Nat.le_of_ble_eq_true rfl, Nat.le_of_ble_eq_true rfl⟩ rfl rfl (fun _ => Nat.le_of_ble_eq_true rfl) (fun r3 m3 hx3 hr3 => ?_)
  change tg_AW E _ _ _ _ _ (ti_ r3 :: _) _
  refine ta_if_eq (tgt := 47) hE dX2_measureAcross_6 (by decide) (fun c6 => ?_) (fun c6 => ?_)
  · exact ta_vret hE dX2_measureAcross_47
  · refine ta_iloadn hE dX2_measureAcross_9 rfl ?_
    refine bp_8 hE dX2_measureAcross_10 ?_
    refine ta_callN (host := RX7) (st := []) hE dX2_measureAcross_12 (k_X7_isBelow a1 8 m3) nn_X2_87 st_X7_isBelow in_X7 co_X7_isBelow hy_X7_isBelow.2 ⟨Nat.le_of_ble_eq_true rfl, Nat.le_of_ble_eq_true rfl⟩ rfl rfl (fun _ => Nat.le_of_ble_eq_true rfl) (fun r12 m12 hx12 hr12 => ?_)
    change tg_AW E _ _ _ _ _ (ti_ r12 :: _) _
    refine ta_if_eq (tgt := 47) hE dX2_measureAcross_15 (by decide) (fun c15 => ?_) (fun c15 => ?_)
    · exact ta_vret hE dX2_measureAcross_47
    · refine ta_aloadn hE dX2_measureAcross_18 rfl ?_
      refine gr_X2_25 hE dX2_measureAcross_19 lx_1 rfl ?_
      refine ta_iloadn hE dX2_measureAcross_22 rfl ?_
      refine ta_iald (n' := 8) hE dX2_measureAcross_23 lx_6 rfl (fun _ _ => ?_)
      refine ta_iloadn hE dX2_measureAcross_24 rfl ?_
      refine ta_iconst (v := 1) hE dX2_measureAcross_25 rfl ⟨by decide, by decide⟩ ?_
      refine ta_isub hE dX2_measureAcross_26 ?_
      refine ta_icmp_ne (tgt := 47) hE dX2_measureAcross_27 (by decide) (fun c27 => ?_) (fun c27 => ?_)
      · exact ta_vret hE dX2_measureAcross_47
      · refine ta_aloadn hE dX2_measureAcross_30 rfl ?_
        refine gr_X2_25 hE dX2_measureAcross_31 lx_1 rfl ?_
        refine ta_iloadn hE dX2_measureAcross_34 rfl ?_
        refine ta_iald (n' := 8) hE dX2_measureAcross_35 lx_6 rfl (fun _ _ => ?_)
        refine ta_iconst (v := (-1)) hE dX2_measureAcross_36 rfl ⟨by decide, by decide⟩ ?_
        refine ta_icmp_ne (tgt := 47) hE dX2_measureAcross_37 (by decide) (fun c37 => ?_) (fun c37 => ?_)
        · exact ta_vret hE dX2_measureAcross_47
        · refine ta_aloadn hE dX2_measureAcross_40 rfl ?_
          refine gr_X2_25 hE dX2_measureAcross_41 lx_1 rfl ?_
          refine ta_iloadn hE dX2_measureAcross_44 rfl ?_
          refine ta_iloadn hE dX2_measureAcross_45 rfl ?_
          refine ta_iast (n' := 8) hE dX2_measureAcross_46 lx_6 rfl (fun _ _ => ?_)
          refine ta_nmm (fun m46 => ?_)
          exact ta_vret hE dX2_measureAcross_47
noncomputable def f_X2_measureFrom_B35 (v2_27 : Int) (j89 : tg_Mem → tg_R) (self35 : Int → tg_Mem → tg_R) (v3_35 : Int) (m_35 : tg_Mem) : tg_R :=
  if m_35 1 8 ≤ v3_35 then
    j89 m_35
  else
    if 8 ≤ v3_35 then
      j89 m_35
    else
      tg_ck (0 ≤ v3_35 ∧ v3_35 < 8) (
        tg_ck (0 ≤ v3_35 ∧ v3_35 < 8) (
          tg_bd (f_X2_measureAcross (m_35 7 (v3_35).toNat) (m_35 8 (v3_35).toNat) v2_27 m_35) (fun _ m63 =>
            tg_ck (0 ≤ v3_35 ∧ v3_35 < 8) (
              tg_ck (0 ≤ v3_35 ∧ v3_35 < 8) (
                tg_bd (f_X2_measureAcross (m63 8 (v3_35).toNat) (m63 7 (v3_35).toNat) v2_27 m63) (fun _ m80 =>
                  tg_lt (tg_wi (v3_35 + 1)) (fun v3_83 =>
                    self35 v3_83 m80)))))))
noncomputable def f_X2_measureFrom_B27  (self27 : Int → tg_Mem → tg_R) (v2_27 : Int) (m_27 : tg_Mem) : tg_R :=
  if 8 ≤ v2_27 then
    some (0, m_27)
  else
    tg_jn (γ := tg_Mem → tg_R) (fun (m_89 : tg_Mem) => tg_lt (tg_wi (v2_27 + 1)) (fun v2_89 =>
      self27 v2_89 m_89)) (fun j89 =>
      tg_fx (γ := Int → tg_Mem → tg_R) (f_X2_measureFrom_B35 v2_27 j89) (fun _ _ => none) tg_FU 0 m_27)
noncomputable def f_X2_measureFrom (a0 : Int) (m : tg_Mem) : tg_R :=
  tg_bd (f_J7_fill_53178 6 8 (-1) m) (fun _ m5 =>
    tg_bd (f_X7_isBelow a0 8 m5) (fun r11 m11 =>
      if r11 ≠ 0 then
        tg_ck (0 ≤ a0 ∧ a0 < 8) (
          tg_lt (tg_up m11 6 (a0).toNat 0) (fun m24 =>
            tg_fx (γ := Int → tg_Mem → tg_R) (f_X2_measureFrom_B27) (fun _ _ => none) tg_FU 1 m24))
      else
        some (0, m11)))
theorem hy_X2_measureFrom : yX2_measureFrom.cls = RX2 ∧ yX2_measureFrom.cls ≠ "java/lang/invoke/MethodHandle" ∧ yX2_measureFrom.cls ≠ "java/lang/invoke/VarHandle" ∧ (parseMethodDescriptor yX2_measureFrom.desc).map (fun q => q.parameters.length) = some 1 := by decide +kernel
set_option maxRecDepth 100000 in
set_option maxHeartbeats 4000000 in
theorem k_X2_measureFrom   (a0 : Int) (m : tg_Mem) : tg_C yX2_measureFrom cX2_measureFrom 4 none 3 LX [tr_ 1, ti_ a0] (f_X2_measureFrom a0 m) m := by
  refine ta_enter2 (own := RX2) (by decide +kernel) rfl rfl (Nat.le_of_ble_eq_true rfl) rfl (fun E hE => ?_)
  unfold f_X2_measureFrom
  refine ta_aloadn hE dX2_measureFrom_0 rfl ?_
  refine gr_X2_25 hE dX2_measureFrom_1 lx_1 rfl ?_
  refine ta_iconst (v := (-1)) hE dX2_measureFrom_4 rfl ⟨by decide, by decide⟩ ?_
  refine ta_callS (st := []) hE dX2_measureFrom_5 (k_J7_fill_53178 lx_6 (by decide) (-1) m) ml_X2_90 st_J7_fill_53178 in_J7 co_J7_fill_53178 hy_J7_fill_53178.2 ⟨Nat.le_of_ble_eq_true rfl, Nat.le_of_ble_eq_true rfl⟩ rfl rfl (fun _ => Nat.le_of_ble_eq_true rfl) (fun r5 m5 hx5 hr5 => ?_)
  change tg_AW E _ _ _ _ _ [] _
  refine ta_iloadn hE dX2_measureFrom_8 rfl ?_
  refine bp_8 hE dX2_measureFrom_9 ?_
  refine ta_callN (host := RX7) (st := []) hE dX2_measureFrom_11 (k_X7_isBelow a0 8 m5) nn_X2_87 st_X7_isBelow in_X7 co_X7_isBelow hy_X7_isBelow.2 ⟨Nat.le_of_ble_eq_true rfl, Nat.le_of_ble_eq_true rfl⟩ rfl rfl (fun _ => Nat.le_of_ble_eq_true rfl) (fun r11 m11 hx11 hr11 => ?_)
  change tg_AW E _ _ _ _ _ (ti_ r11 :: _) _
  refine ta_if_ne (tgt := 18) hE dX2_measureFrom_14 (by decide) (fun c14 => ?_) (fun c14 => ?_)
  · refine ta_aloadn hE dX2_measureFrom_18 rfl ?_
    refine gr_X2_25 hE dX2_measureFrom_19 lx_1 rfl ?_
    refine ta_iloadn hE dX2_measureFrom_22 rfl ?_
    refine ta_iconst (v := 0) hE dX2_measureFrom_23 rfl ⟨by decide, by decide⟩ ?_
    refine ta_iast (n' := 8) hE dX2_measureFrom_24 lx_6 rfl (fun _ _ => ?_)
    refine ta_nmm (fun m24 => ?_)
    refine ta_iconst (v := 1) hE dX2_measureFrom_25 rfl ⟨by decide, by decide⟩ ?_
    refine ta_istoren (lv2 := [tr_ 1, ti_ a0, ti_ 1, tj_]) hE dX2_measureFrom_26 (Nat.le_of_ble_eq_true rfl) rfl rfl ?_
    have hl27 := ta_fx (γ := Int → tg_Mem → tg_R) (F := (f_X2_measureFrom_B27)) (z := (fun _ _ => none)) (fun J => ∀ (v2_27 : Int) (m_27 : tg_Mem), tg_AW E LX none (J v2_27 m_27) 27 [tr_ 1, tj_, ti_ v2_27, tj_] [] m_27) (by intros; exact ta_none) (fun self27 hself27 => by
        intro v2_27 m_27
        unfold f_X2_measureFrom_B27
        refine ta_iloadn hE dX2_measureFrom_27 rfl ?_
        refine bp_8 hE dX2_measureFrom_28 ?_
        refine ta_icmp_ge (tgt := 95) hE dX2_measureFrom_30 (by decide) (fun c30 => ?_) (fun c30 => ?_)
        · exact ta_vret hE dX2_measureFrom_95
        · refine ta_iconst (v := 0) hE dX2_measureFrom_33 rfl ⟨by decide, by decide⟩ ?_
          refine ta_istoren (lv2 := [tr_ 1, tj_, ti_ v2_27, ti_ 0]) hE dX2_measureFrom_34 (Nat.le_of_ble_eq_true rfl) rfl rfl ?_
          refine ta_join (γ := tg_Mem → tg_R) (fun J => ∀ (m_89 : tg_Mem), tg_AW E LX none (J m_89) 89 [tr_ 1, tj_, ti_ v2_27, tj_] [] m_89) ?_ (fun j89 hj89 => ?_)
          · intro m_89
            refine ta_iincn (lv2 := fun v2_89 => [tr_ 1, tj_, ti_ v2_89, tj_]) hE dX2_measureFrom_89 rfl rfl rfl (fun v2_89 => ?_)
            refine ta_goto (tgt := 27) hE dX2_measureFrom_92 (by decide) ?_
            exact (hself27 v2_89 m_89)
          · have hl35 := ta_fx (γ := Int → tg_Mem → tg_R) (F := (f_X2_measureFrom_B35 v2_27 j89)) (z := (fun _ _ => none)) (fun J => ∀ (v3_35 : Int) (m_35 : tg_Mem), tg_AW E LX none (J v3_35 m_35) 35 [tr_ 1, tj_, ti_ v2_27, ti_ v3_35] [] m_35) (by intros; exact ta_none) (fun self35 hself35 => by
                intro v3_35 m_35
                unfold f_X2_measureFrom_B35
                refine ta_iloadn hE dX2_measureFrom_35 rfl ?_
                refine ta_aloadn hE dX2_measureFrom_36 rfl ?_
                refine gf_X2_41 hE dX2_measureFrom_37 lx_1 rfl ?_
                refine ta_icmp_ge (tgt := 89) hE dX2_measureFrom_40 (by decide) (fun c40 => ?_) (fun c40 => ?_)
                · exact (ta_wk (i := 3) (lv2 := [tr_ 1, tj_, ti_ v2_27, tj_]) rfl (hj89 m_35))
                · refine ta_iloadn hE dX2_measureFrom_43 rfl ?_
                  refine bp_8 hE dX2_measureFrom_44 ?_
                  refine ta_icmp_ge (tgt := 89) hE dX2_measureFrom_46 (by decide) (fun c46 => ?_) (fun c46 => ?_)
                  · exact (ta_wk (i := 3) (lv2 := [tr_ 1, tj_, ti_ v2_27, tj_]) rfl (hj89 m_35))
                  · refine ta_aloadn hE dX2_measureFrom_49 rfl ?_
                    refine ta_aloadn hE dX2_measureFrom_50 rfl ?_
                    refine gr_X2_28 hE dX2_measureFrom_51 lx_1 rfl ?_
                    refine ta_iloadn hE dX2_measureFrom_54 rfl ?_
                    refine ta_iald (n' := 8) hE dX2_measureFrom_55 lx_7 rfl (fun _ _ => ?_)
                    refine ta_aloadn hE dX2_measureFrom_56 rfl ?_
                    refine gr_X2_31 hE dX2_measureFrom_57 lx_1 rfl ?_
                    refine ta_iloadn hE dX2_measureFrom_60 rfl ?_
                    refine ta_iald (n' := 8) hE dX2_measureFrom_61 lx_8 rfl (fun _ _ => ?_)
                    refine ta_iloadn hE dX2_measureFrom_62 rfl ?_
                    refine ta_callV (C := RX2) (T := TX2) (st := []) hE dX2_measureFrom_63 (k_X2_measureAcross (m_35 7 (v3_35).toNat) (m_35 8 (v3_35).toNat) v2_27 m_35) ml_X2_96 im_X2_measureAcross se_X2_measureAcross in_X2 co_X2_measureAcross hy_X2_measureAcross ⟨Nat.le_of_ble_eq_true rfl, Nat.le_of_ble_eq_true rfl⟩ lx_1 rfl rfl rfl (fun _ => Nat.le_of_ble_eq_true rfl) (fun r63 m63 hx63 hr63 => ?_)
                    change tg_AW E _ _ _ _ _ [] _
                    refine ta_aloadn hE dX2_measureFrom_66 rfl ?_
                    refine ta_aloadn hE dX2_measureFrom_67 rfl ?_
                    refine gr_X2_31 hE dX2_measureFrom_68 lx_1 rfl ?_
                    refine ta_iloadn hE dX2_measureFrom_71 rfl ?_
                    refine ta_iald (n' := 8) hE dX2_measureFrom_72 lx_8 rfl (fun _ _ => ?_)
                    refine ta_aloadn hE dX2_measureFrom_73 rfl ?_
                    refine gr_X2_28 hE dX2_measureFrom_74 lx_1 rfl ?_
                    refine ta_iloadn hE dX2_measureFrom_77 rfl ?_
                    refine ta_iald (n' := 8) hE dX2_measureFrom_78 lx_7 rfl (fun _ _ => ?_)
                    refine ta_iloadn hE dX2_measureFrom_79 rfl ?_
                    refine ta_callV (C := RX2) (T := TX2) (st := []) hE dX2_measureFrom_80 (k_X2_measureAcross (m63 8 (v3_35).toNat) (m63 7 (v3_35).toNat) v2_27 m63) ml_X2_96 im_X2_measureAcross se_X2_measureAcross in_X2 co_X2_measureAcross hy_X2_measureAcross ⟨Nat.le_of_ble_eq_true rfl, Nat.le_of_ble_eq_true rfl⟩ lx_1 rfl rfl rfl (fun _ => Nat.le_of_ble_eq_true rfl) (fun r80 m80 hx80 hr80 => ?_)
                    change tg_AW E _ _ _ _ _ [] _
                    refine ta_iincn (lv2 := fun v3_83 => [tr_ 1, tj_, ti_ v2_27, ti_ v3_83]) hE dX2_measureFrom_83 rfl rfl rfl (fun v3_83 => ?_)
                    refine ta_goto (tgt := 35) hE dX2_measureFrom_86 (by decide) ?_
                    exact (hself35 v3_83 m80))
            exact (hl35 tg_FU 0 m_27))
    exact (ta_wk (i := 1) (lv2 := [tr_ 1, tj_, ti_ 1, tj_]) rfl (hl27 tg_FU 1 m24))
  · exact ta_vret hE dX2_measureFrom_17
noncomputable def f_X1_stepsOff_B20 (k : Nat) (self20 : Int → Int → Int → tg_Mem → tg_R) (v2_20 : Int) (v3_20 : Int) (v4_20 : Int) (m_20 : tg_Mem) : tg_R :=
  if m_20 k 4 < v4_20 then
    some (v2_20, m_20)
  else
    tg_bd (f_X7_isBelow v3_20 8 m_20) (fun r32 m32 =>
      tg_jn (γ := Int → tg_R) (fun (s0_51 : Int) => tg_jn (γ := Int → tg_R) (fun (v2_73 : Int) => tg_jn (γ := Int → tg_Mem → tg_R) (fun (v3_97 : Int) (m_97 : tg_Mem) => tg_lt (tg_wi (v4_20 + 1)) (fun v4_97 =>
        self20 v2_73 v3_97 v4_97 m_97)) (fun j97 =>
        if m32 k 4 ≤ v4_20 then
          j97 v3_20 m32
        else
          tg_bd (f_X1_pathAt k v4_20 m32) (fun r89 m89 =>
            tg_bd (f_X2_across r89 v3_20 m89) (fun r93 m93 =>
              j97 r93 m93)))) (fun j73 =>
        if s0_51 = (-1) then
          j73 v2_20
        else
          tg_jn (γ := tg_R) (j73 s0_51) (fun j70 =>
            if v2_20 = (-1) then
              j70
            else
              if v2_20 ≤ s0_51 then
                j73 v2_20
              else
                j70))) (fun j51 =>
        if r32 = 0 then
          j51 (-1)
        else
          tg_ck (0 ≤ v3_20 ∧ v3_20 < 8) (
            j51 (m32 6 (v3_20).toNat))))
noncomputable def f_X1_stepsOff (k : Nat) (a0 : Int) (m : tg_Mem) : tg_R :=
  tg_bd (f_X2_measureFrom a0 m) (fun _ m5 =>
    tg_ck (0 ≤ 0 ∧ 0 < 2) (
      tg_lt (m5 (k + 1) 0) (fun v3_16 =>
        tg_fx (γ := Int → Int → Int → tg_Mem → tg_R) (f_X1_stepsOff_B20 k) (fun _ _ _ _ => none) tg_FU (-1) v3_16 0 m5)))
theorem hy_X1_stepsOff : yX1_stepsOff.cls = RX1 ∧ yX1_stepsOff.cls ≠ "java/lang/invoke/MethodHandle" ∧ yX1_stepsOff.cls ≠ "java/lang/invoke/VarHandle" ∧ (parseMethodDescriptor yX1_stepsOff.desc).map (fun q => q.parameters.length) = some 1 := by decide +kernel
set_option maxRecDepth 100000 in
set_option maxHeartbeats 4000000 in
theorem k_X1_stepsOff {k : Nat} (hk : tg_okG k) (a0 : Int) (m : tg_Mem) : tg_C yX1_stepsOff cX1_stepsOff 6 (some .int) 4 LX [tr_ k, ti_ a0] (f_X1_stepsOff k a0 m) m := by
  refine ta_enter2 (own := RX1) (by decide +kernel) rfl rfl (Nat.le_of_ble_eq_true rfl) rfl (fun E hE => ?_)
  unfold f_X1_stepsOff
  refine ta_aloadn hE dX1_stepsOff_0 rfl ?_
  refine gr_X1_28 hE dX1_stepsOff_1 (hk.1) rfl ?_
  refine ta_iloadn hE dX1_stepsOff_4 rfl ?_
  refine ta_callV (C := RX2) (T := TX2) (st := []) hE dX1_stepsOff_5 (k_X2_measureFrom a0 m) ml_X1_72 im_X2_measureFrom se_X2_measureFrom in_X2 co_X2_measureFrom hy_X2_measureFrom ⟨Nat.le_of_ble_eq_true rfl, Nat.le_of_ble_eq_true rfl⟩ lx_1 rfl rfl rfl (fun _ => Nat.le_of_ble_eq_true rfl) (fun r5 m5 hx5 hr5 => ?_)
  change tg_AW E _ _ _ _ _ [] _
  refine ta_iconst (v := (-1)) hE dX1_stepsOff_8 rfl ⟨by decide, by decide⟩ ?_
  refine ta_istoren (lv2 := [tr_ k, ti_ a0, ti_ (-1), tj_, tj_, tj_]) hE dX1_stepsOff_9 (Nat.le_of_ble_eq_true rfl) rfl rfl ?_
  refine ta_aloadn hE dX1_stepsOff_10 rfl ?_
  refine gr_X1_9 hE dX1_stepsOff_11 (hk.1) rfl ?_
  refine ta_iconst (v := 0) hE dX1_stepsOff_14 rfl ⟨by decide, by decide⟩ ?_
  refine ta_iald (n' := 2) hE dX1_stepsOff_15 (hk.2.1) rfl (fun _ _ => ?_)
  refine ta_nmi (fun v3_16 => ?_)
  refine ta_istoren (lv2 := [tr_ k, ti_ a0, ti_ (-1), ti_ v3_16, tj_, tj_]) hE dX1_stepsOff_16 (Nat.le_of_ble_eq_true rfl) rfl rfl ?_
  refine ta_iconst (v := 0) hE dX1_stepsOff_17 rfl ⟨by decide, by decide⟩ ?_
  refine ta_istore (lv2 := [tr_ k, ti_ a0, ti_ (-1), ti_ v3_16, ti_ 0, tj_]) hE dX1_stepsOff_18 (Nat.le_of_ble_eq_true rfl) rfl rfl ?_
  have hl20 := ta_fx (γ := Int → Int → Int → tg_Mem → tg_R) (F := (f_X1_stepsOff_B20 k)) (z := (fun _ _ _ _ => none)) (fun J => ∀ (v2_20 : Int) (v3_20 : Int) (v4_20 : Int) (m_20 : tg_Mem), tg_AW E LX (some .int) (J v2_20 v3_20 v4_20 m_20) 20 [tr_ k, tj_, ti_ v2_20, ti_ v3_20, ti_ v4_20, tj_] [] m_20) (by intros; exact ta_none) (fun self20 hself20 => by
      intro v2_20 v3_20 v4_20 m_20
      unfold f_X1_stepsOff_B20
      refine ta_iload hE dX1_stepsOff_20 rfl ?_
      refine ta_aloadn hE dX1_stepsOff_22 rfl ?_
      refine gf_X1_22 hE dX1_stepsOff_23 (hk.1) rfl ?_
      refine ta_icmp_gt (tgt := 103) hE dX1_stepsOff_26 (by decide) (fun c26 => ?_) (fun c26 => ?_)
      · refine ta_iloadn hE dX1_stepsOff_103 rfl ?_
        exact ta_iret hE dX1_stepsOff_104
      · refine ta_iloadn hE dX1_stepsOff_29 rfl ?_
        refine bp_8 hE dX1_stepsOff_30 ?_
        refine ta_callN (host := RX7) (st := []) hE dX1_stepsOff_32 (k_X7_isBelow v3_20 8 m_20) nn_X1_50 st_X7_isBelow in_X7 co_X7_isBelow hy_X7_isBelow.2 ⟨Nat.le_of_ble_eq_true rfl, Nat.le_of_ble_eq_true rfl⟩ rfl rfl (fun _ => Nat.le_of_ble_eq_true rfl) (fun r32 m32 hx32 hr32 => ?_)
        change tg_AW E _ _ _ _ _ (ti_ r32 :: _) _
        refine ta_join (γ := Int → tg_R) (fun J => ∀ (s0_51 : Int), tg_AW E LX (some .int) (J s0_51) 51 [tr_ k, tj_, ti_ v2_20, ti_ v3_20, ti_ v4_20, tj_] [ti_ s0_51] m32) ?_ (fun j51 hj51 => ?_)
        · intro s0_51
          refine ta_istore (lv2 := [tr_ k, tj_, ti_ v2_20, ti_ v3_20, ti_ v4_20, ti_ s0_51]) hE dX1_stepsOff_51 (Nat.le_of_ble_eq_true rfl) rfl rfl ?_
          refine ta_iload hE dX1_stepsOff_53 rfl ?_
          refine ta_iconst (v := (-1)) hE dX1_stepsOff_55 rfl ⟨by decide, by decide⟩ ?_
          refine ta_join (γ := Int → tg_R) (fun J => ∀ (v2_73 : Int), tg_AW E LX (some .int) (J v2_73) 73 [tr_ k, tj_, ti_ v2_73, ti_ v3_20, ti_ v4_20, tj_] [] m32) ?_ (fun j73 hj73 => ?_)
          · intro v2_73
            refine ta_iload hE dX1_stepsOff_73 rfl ?_
            refine ta_aloadn hE dX1_stepsOff_75 rfl ?_
            refine gf_X1_22 hE dX1_stepsOff_76 (hk.1) rfl ?_
            refine ta_join (γ := Int → tg_Mem → tg_R) (fun J => ∀ (v3_97 : Int) (m_97 : tg_Mem), tg_AW E LX (some .int) (J v3_97 m_97) 97 [tr_ k, tj_, ti_ v2_73, ti_ v3_97, ti_ v4_20, tj_] [] m_97) ?_ (fun j97 hj97 => ?_)
            · intro v3_97 m_97
              refine ta_iincn (lv2 := fun v4_97 => [tr_ k, tj_, ti_ v2_73, ti_ v3_97, ti_ v4_97, tj_]) hE dX1_stepsOff_97 rfl rfl rfl (fun v4_97 => ?_)
              refine ta_goto (tgt := 20) hE dX1_stepsOff_100 (by decide) ?_
              exact (hself20 v2_73 v3_97 v4_97 m_97)
            · refine ta_icmp_ge (tgt := 97) hE dX1_stepsOff_79 (by decide) (fun c79 => ?_) (fun c79 => ?_)
              · exact (hj97 v3_20 m32)
              · refine ta_aloadn hE dX1_stepsOff_82 rfl ?_
                refine gr_X1_28 hE dX1_stepsOff_83 (hk.1) rfl ?_
                refine ta_aloadn hE dX1_stepsOff_86 rfl ?_
                refine ta_iload hE dX1_stepsOff_87 rfl ?_
                refine ta_callV (C := RX1) (T := TX1) (st := [tr_ 1]) hE dX1_stepsOff_89 (k_X1_pathAt hk v4_20 m32) ml_X1_36 im_X1_pathAt se_X1_pathAt in_X1 co_X1_pathAt hy_X1_pathAt ⟨Nat.le_of_ble_eq_true rfl, Nat.le_of_ble_eq_true rfl⟩ (hk.1) rfl rfl rfl (fun _ => Nat.le_of_ble_eq_true rfl) (fun r89 m89 hx89 hr89 => ?_)
                change tg_AW E _ _ _ _ _ (ti_ r89 :: _) _
                refine ta_iloadn hE dX1_stepsOff_92 rfl ?_
                refine ta_callV (C := RX2) (T := TX2) (st := []) hE dX1_stepsOff_93 (k_X2_across r89 v3_20 m89) ml_X1_69 im_X2_across se_X2_across in_X2 co_X2_across hy_X2_across ⟨Nat.le_of_ble_eq_true rfl, Nat.le_of_ble_eq_true rfl⟩ lx_1 rfl rfl rfl (fun _ => Nat.le_of_ble_eq_true rfl) (fun r93 m93 hx93 hr93 => ?_)
                change tg_AW E _ _ _ _ _ (ti_ r93 :: _) _
                refine ta_istoren (lv2 := [tr_ k, tj_, ti_ v2_73, ti_ r93, ti_ v4_20, tj_]) hE dX1_stepsOff_96 (Nat.le_of_ble_eq_true rfl) rfl rfl ?_
                exact (hj97 r93 m93)
          · refine ta_icmp_eq (tgt := 73) hE dX1_stepsOff_56 (by decide) (fun c56 => ?_) (fun c56 => ?_)
            · exact (ta_wk (i := 5) (lv2 := [tr_ k, tj_, ti_ v2_20, ti_ v3_20, ti_ v4_20, tj_]) rfl (hj73 v2_20))
            · refine ta_iloadn hE dX1_stepsOff_59 rfl ?_
              refine ta_iconst (v := (-1)) hE dX1_stepsOff_60 rfl ⟨by decide, by decide⟩ ?_
              refine ta_join (γ := tg_R) (fun J => tg_AW E LX (some .int) J 70 [tr_ k, tj_, tj_, ti_ v3_20, ti_ v4_20, ti_ s0_51] [] m32) ?_ (fun j70 hj70 => ?_)
              · refine ta_iload hE dX1_stepsOff_70 rfl ?_
                refine ta_istoren (lv2 := [tr_ k, tj_, ti_ s0_51, ti_ v3_20, ti_ v4_20, ti_ s0_51]) hE dX1_stepsOff_72 (Nat.le_of_ble_eq_true rfl) rfl rfl ?_
                exact (ta_wk (i := 5) (lv2 := [tr_ k, tj_, ti_ s0_51, ti_ v3_20, ti_ v4_20, tj_]) rfl (hj73 s0_51))
              · refine ta_icmp_eq (tgt := 70) hE dX1_stepsOff_61 (by decide) (fun c61 => ?_) (fun c61 => ?_)
                · exact (ta_wk (i := 2) (lv2 := [tr_ k, tj_, tj_, ti_ v3_20, ti_ v4_20, ti_ s0_51]) rfl hj70)
                · refine ta_iload hE dX1_stepsOff_64 rfl ?_
                  refine ta_iloadn hE dX1_stepsOff_66 rfl ?_
                  refine ta_icmp_ge (tgt := 73) hE dX1_stepsOff_67 (by decide) (fun c67 => ?_) (fun c67 => ?_)
                  · exact (ta_wk (i := 5) (lv2 := [tr_ k, tj_, ti_ v2_20, ti_ v3_20, ti_ v4_20, tj_]) rfl (hj73 v2_20))
                  · exact (ta_wk (i := 2) (lv2 := [tr_ k, tj_, tj_, ti_ v3_20, ti_ v4_20, ti_ s0_51]) rfl hj70)
        · refine ta_if_eq (tgt := 50) hE dX1_stepsOff_35 (by decide) (fun c35 => ?_) (fun c35 => ?_)
          · refine ta_iconst (v := (-1)) hE dX1_stepsOff_50 rfl ⟨by decide, by decide⟩ ?_
            exact (hj51 (-1))
          · refine ta_aloadn hE dX1_stepsOff_38 rfl ?_
            refine gr_X1_28 hE dX1_stepsOff_39 (hk.1) rfl ?_
            refine gr_X1_75 hE dX1_stepsOff_42 lx_1 rfl ?_
            refine ta_iloadn hE dX1_stepsOff_45 rfl ?_
            refine ta_iald (n' := 8) hE dX1_stepsOff_46 lx_6 rfl (fun _ _ => ?_)
            refine ta_goto (tgt := 51) hE dX1_stepsOff_47 (by decide) ?_
            exact (hj51 (m32 6 (v3_20).toNat)))
  exact (ta_wk (i := 1) (lv2 := [tr_ k, tj_, ti_ (-1), ti_ v3_16, ti_ 0, tj_]) rfl (hl20 tg_FU (-1) v3_16 0 m5))
noncomputable def f_X7_began (a0 : Int) (a1 : Int) (m : tg_Mem) : tg_R :=
  tg_bd (f_X7_isBelow a0 2 m) (fun r2 m2 =>
    if r2 = 0 then
      some ((-2), m2)
    else
      tg_bd (f_X7_isBelow a1 8 m2) (fun r11 m11 =>
        if r11 ≠ 0 then
          tg_bd (f_X7_ended a0 m11) (fun r22 m22 =>
            tg_bd (f_X1_stepsOff (r22.toNat + 3) a1 m22) (fun r31 m31 =>
              if r31 ≠ (-1) then
                some (tg_wi ((m31 (r22.toNat + 3) 4) + (tg_wi (2 * r31))), m31)
              else
                some ((-1), m31)))
        else
          some ((-2), m11)))
theorem hy_X7_began : yX7_began.cls = RX7 ∧ yX7_began.cls ≠ "java/lang/invoke/MethodHandle" ∧ yX7_began.cls ≠ "java/lang/invoke/VarHandle" ∧ (parseMethodDescriptor yX7_began.desc).map (fun q => q.parameters.length) = some 2 := by decide +kernel
set_option maxRecDepth 100000 in
set_option maxHeartbeats 4000000 in
theorem k_X7_began   (a0 : Int) (a1 : Int) (m : tg_Mem) : tg_C yX7_began cX7_began 5 (some .int) 7 LX [tr_ 0, ti_ a0, ti_ a1] (f_X7_began a0 a1 m) m := by
  refine ta_enter2 (own := RX7) (by decide +kernel) rfl rfl (Nat.le_of_ble_eq_true rfl) rfl (fun E hE => ?_)
  unfold f_X7_began
  refine ta_iloadn hE dX7_began_0 rfl ?_
  refine ta_iconst (v := 2) hE dX7_began_1 rfl ⟨by decide, by decide⟩ ?_
  refine ta_callS (st := []) hE dX7_began_2 (k_X7_isBelow a0 2 m) ml_X7_60 st_X7_isBelow in_X7 co_X7_isBelow hy_X7_isBelow.2 ⟨Nat.le_of_ble_eq_true rfl, Nat.le_of_ble_eq_true rfl⟩ rfl rfl (fun _ => Nat.le_of_ble_eq_true rfl) (fun r2 m2 hx2 hr2 => ?_)
  change tg_AW E _ _ _ _ _ (ti_ r2 :: _) _
  refine ta_if_eq (tgt := 17) hE dX7_began_5 (by decide) (fun c5 => ?_) (fun c5 => ?_)
  · refine bp_n2 hE dX7_began_17 ?_
    exact ta_iret hE dX7_began_19
  · refine ta_iloadn hE dX7_began_8 rfl ?_
    refine bp_8 hE dX7_began_9 ?_
    refine ta_callS (st := []) hE dX7_began_11 (k_X7_isBelow a1 8 m2) ml_X7_60 st_X7_isBelow in_X7 co_X7_isBelow hy_X7_isBelow.2 ⟨Nat.le_of_ble_eq_true rfl, Nat.le_of_ble_eq_true rfl⟩ rfl rfl (fun _ => Nat.le_of_ble_eq_true rfl) (fun r11 m11 hx11 hr11 => ?_)
    change tg_AW E _ _ _ _ _ (ti_ r11 :: _) _
    refine ta_if_ne (tgt := 20) hE dX7_began_14 (by decide) (fun c14 => ?_) (fun c14 => ?_)
    · refine ta_aloadn hE dX7_began_20 rfl ?_
      refine ta_iloadn hE dX7_began_21 rfl ?_
      refine ta_callV (C := RX7) (T := TX7) (st := []) hE dX7_began_22 (k_X7_ended a0 m11) ml_X7_128 im_X7_ended se_X7_ended in_X7 co_X7_ended hy_X7_ended ⟨Nat.le_of_ble_eq_true rfl, Nat.le_of_ble_eq_true rfl⟩ lx_0 rfl rfl rfl (fun _ => Nat.le_of_ble_eq_true rfl) (fun r22 m22 hx22 hr22 => ?_)
      change tg_AW E _ _ _ _ _ (tr_ r22.toNat :: _) _
      refine gr_X7_140 hE dX7_began_25 ((ok_X7_ended hx22).1) rfl ?_
      refine ta_astoren (lv2 := [tr_ 0, ti_ a0, ti_ a1, tr_ (r22.toNat + 3), tj_]) hE dX7_began_28 (Nat.le_of_ble_eq_true rfl) rfl rfl ?_
      refine ta_aloadn hE dX7_began_29 rfl ?_
      refine ta_iloadn hE dX7_began_30 rfl ?_
      refine ta_callV (C := RX1) (T := TX1) (st := []) hE dX7_began_31 (k_X1_stepsOff ((ok_X7_ended hx22).2.2.1) a1 m22) ml_X7_165 im_X1_stepsOff se_X1_stepsOff in_X1 co_X1_stepsOff hy_X1_stepsOff ⟨Nat.le_of_ble_eq_true rfl, Nat.le_of_ble_eq_true rfl⟩ ((ok_X7_ended hx22).2.2.1.1) rfl rfl rfl (fun _ => Nat.le_of_ble_eq_true rfl) (fun r31 m31 hx31 hr31 => ?_)
      change tg_AW E _ _ _ _ _ (ti_ r31 :: _) _
      refine ta_istore (lv2 := [tr_ 0, ti_ a0, ti_ a1, tr_ (r22.toNat + 3), ti_ r31]) hE dX7_began_34 (Nat.le_of_ble_eq_true rfl) rfl rfl ?_
      refine ta_iload hE dX7_began_36 rfl ?_
      refine ta_iconst (v := (-1)) hE dX7_began_38 rfl ⟨by decide, by decide⟩ ?_
      refine ta_icmp_ne (tgt := 46) hE dX7_began_39 (by decide) (fun c39 => ?_) (fun c39 => ?_)
      · refine ta_aloadn hE dX7_began_46 rfl ?_
        refine gf_X7_154 hE dX7_began_47 ((ok_X7_ended hx22).2.2.1.1) rfl ?_
        refine ta_iconst (v := 2) hE dX7_began_50 rfl ⟨by decide, by decide⟩ ?_
        refine ta_iload hE dX7_began_51 rfl ?_
        refine ta_imul hE dX7_began_53 ?_
        refine ta_iadd hE dX7_began_54 ?_
        exact ta_iret hE dX7_began_55
      · refine ta_iconst (v := (-1)) hE dX7_began_42 rfl ⟨by decide, by decide⟩ ?_
        refine ta_goto (tgt := 55) hE dX7_began_43 (by decide) ?_
        exact ta_iret hE dX7_began_55
    · refine bp_n2 hE dX7_began_17 ?_
      exact ta_iret hE dX7_began_19
noncomputable def f_X1_become_B12 (k : Nat) (k0 : Nat) (self12 : Int → tg_Mem → tg_R) (v2_12 : Int) (m_12 : tg_Mem) : tg_R :=
  if m_12 k0 4 ≤ v2_12 then
    some (0, m_12)
  else
    tg_bd (f_X1_pathAt k0 v2_12 m_12) (fun r24 m24 =>
      tg_bd (f_X1_go k 1 r24 m24) (fun _ m27 =>
        tg_lt (tg_wi (v2_12 + 1)) (fun v2_30 =>
          self12 v2_30 m27)))
noncomputable def f_X1_become (k : Nat) (k0 : Nat) (m : tg_Mem) : tg_R :=
  tg_ck (0 ≤ 0 ∧ 0 < 2) (
    tg_bd (f_X1_standBoth k (m (k0 + 1) 0) m) (fun _ m7 =>
      tg_fx (γ := Int → tg_Mem → tg_R) (f_X1_become_B12 k k0) (fun _ _ => none) tg_FU 0 m7))
theorem hy_X1_become : yX1_become.cls = RX1 ∧ yX1_become.cls ≠ "java/lang/invoke/MethodHandle" ∧ yX1_become.cls ≠ "java/lang/invoke/VarHandle" ∧ (parseMethodDescriptor yX1_become.desc).map (fun q => q.parameters.length) = some 1 := by decide +kernel
set_option maxRecDepth 100000 in
set_option maxHeartbeats 4000000 in
theorem k_X1_become {k : Nat} {k0 : Nat} (hk : tg_okG k) (hk0 : tg_okG k0)  (m : tg_Mem) : tg_C yX1_become cX1_become 3 none 3 LX [tr_ k, tr_ k0] (f_X1_become k k0 m) m := by
  refine ta_enter2 (own := RX1) (by decide +kernel) rfl rfl (Nat.le_of_ble_eq_true rfl) rfl (fun E hE => ?_)
  unfold f_X1_become
  refine ta_aloadn hE dX1_become_0 rfl ?_
  refine ta_aloadn hE dX1_become_1 rfl ?_
  refine gr_X1_9 hE dX1_become_2 (hk0.1) rfl ?_
  refine ta_iconst (v := 0) hE dX1_become_5 rfl ⟨by decide, by decide⟩ ?_
  refine ta_iald (n' := 2) hE dX1_become_6 (hk0.2.1) rfl (fun _ _ => ?_)
  refine ta_callV (C := RX1) (T := TX1) (st := []) hE dX1_become_7 (k_X1_standBoth hk (m (k0 + 1) 0) m) ml_X1_32 im_X1_standBoth se_X1_standBoth in_X1 co_X1_standBoth hy_X1_standBoth ⟨Nat.le_of_ble_eq_true rfl, Nat.le_of_ble_eq_true rfl⟩ (hk.1) rfl rfl rfl (fun _ => Nat.le_of_ble_eq_true rfl) (fun r7 m7 hx7 hr7 => ?_)
  change tg_AW E _ _ _ _ _ [] _
  refine ta_iconst (v := 0) hE dX1_become_10 rfl ⟨by decide, by decide⟩ ?_
  refine ta_istoren (lv2 := [tr_ k, tr_ k0, ti_ 0]) hE dX1_become_11 (Nat.le_of_ble_eq_true rfl) rfl rfl ?_
  have hl12 := ta_fx (γ := Int → tg_Mem → tg_R) (F := (f_X1_become_B12 k k0)) (z := (fun _ _ => none)) (fun J => ∀ (v2_12 : Int) (m_12 : tg_Mem), tg_AW E LX none (J v2_12 m_12) 12 [tr_ k, tr_ k0, ti_ v2_12] [] m_12) (by intros; exact ta_none) (fun self12 hself12 => by
      intro v2_12 m_12
      unfold f_X1_become_B12
      refine ta_iloadn hE dX1_become_12 rfl ?_
      refine ta_aloadn hE dX1_become_13 rfl ?_
      refine gf_X1_22 hE dX1_become_14 (hk0.1) rfl ?_
      refine ta_icmp_ge (tgt := 36) hE dX1_become_17 (by decide) (fun c17 => ?_) (fun c17 => ?_)
      · exact ta_vret hE dX1_become_36
      · refine ta_aloadn hE dX1_become_20 rfl ?_
        refine ta_iconst (v := 1) hE dX1_become_21 rfl ⟨by decide, by decide⟩ ?_
        refine ta_aloadn hE dX1_become_22 rfl ?_
        refine ta_iloadn hE dX1_become_23 rfl ?_
        refine ta_callV (C := RX1) (T := TX1) (st := [ti_ 1, tr_ k]) hE dX1_become_24 (k_X1_pathAt hk0 v2_12 m_12) ml_X1_36 im_X1_pathAt se_X1_pathAt in_X1 co_X1_pathAt hy_X1_pathAt ⟨Nat.le_of_ble_eq_true rfl, Nat.le_of_ble_eq_true rfl⟩ (hk0.1) rfl rfl rfl (fun _ => Nat.le_of_ble_eq_true rfl) (fun r24 m24 hx24 hr24 => ?_)
        change tg_AW E _ _ _ _ _ (ti_ r24 :: _) _
        refine ta_callV (C := RX1) (T := TX1) (st := []) hE dX1_become_27 (k_X1_go hk 1 r24 m24) ml_X1_40 im_X1_go se_X1_go in_X1 co_X1_go hy_X1_go ⟨Nat.le_of_ble_eq_true rfl, Nat.le_of_ble_eq_true rfl⟩ (hk.1) rfl rfl rfl (fun _ => Nat.le_of_ble_eq_true rfl) (fun r27 m27 hx27 hr27 => ?_)
        change tg_AW E _ _ _ _ _ [] _
        refine ta_iincn (lv2 := fun v2_30 => [tr_ k, tr_ k0, ti_ v2_30]) hE dX1_become_30 rfl rfl rfl (fun v2_30 => ?_)
        refine ta_goto (tgt := 12) hE dX1_become_33 (by decide) ?_
        exact (hself12 v2_30 m27))
  exact (hl12 tg_FU 0 m7)
noncomputable def f_X2_worthBeside_B4 (a0 : Int) (self4 : Int → Int → tg_Mem → tg_R) (v2_4 : Int) (v3_4 : Int) (m_4 : tg_Mem) : tg_R :=
  if 8 ≤ v3_4 then
    some (v2_4, m_4)
  else
    tg_bd (f_X2_worthAt v3_4 a0 m_4) (fun r14 m14 =>
      tg_lt (tg_wi (v2_4 + r14)) (fun v2_18 =>
        tg_lt (tg_wi (v3_4 + 1)) (fun v3_19 =>
          self4 v2_18 v3_19 m14)))
noncomputable def f_X2_worthBeside (a0 : Int) (m : tg_Mem) : tg_R :=
  tg_fx (γ := Int → Int → tg_Mem → tg_R) (f_X2_worthBeside_B4 a0) (fun _ _ _ => none) tg_FU 0 0 m
theorem hy_X2_worthBeside : yX2_worthBeside.cls = RX2 ∧ yX2_worthBeside.cls ≠ "java/lang/invoke/MethodHandle" ∧ yX2_worthBeside.cls ≠ "java/lang/invoke/VarHandle" ∧ (parseMethodDescriptor yX2_worthBeside.desc).map (fun q => q.parameters.length) = some 1 := by decide +kernel
set_option maxRecDepth 100000 in
set_option maxHeartbeats 4000000 in
theorem k_X2_worthBeside   (a0 : Int) (m : tg_Mem) : tg_C yX2_worthBeside cX2_worthBeside 4 (some .int) 3 LX [tr_ 1, ti_ a0] (f_X2_worthBeside a0 m) m := by
  refine ta_enter2 (own := RX2) (by decide +kernel) rfl rfl (Nat.le_of_ble_eq_true rfl) rfl (fun E hE => ?_)
  unfold f_X2_worthBeside
  refine ta_iconst (v := 0) hE dX2_worthBeside_0 rfl ⟨by decide, by decide⟩ ?_
  refine ta_istoren (lv2 := [tr_ 1, ti_ a0, ti_ 0, tj_]) hE dX2_worthBeside_1 (Nat.le_of_ble_eq_true rfl) rfl rfl ?_
  refine ta_iconst (v := 0) hE dX2_worthBeside_2 rfl ⟨by decide, by decide⟩ ?_
  refine ta_istoren (lv2 := [tr_ 1, ti_ a0, ti_ 0, ti_ 0]) hE dX2_worthBeside_3 (Nat.le_of_ble_eq_true rfl) rfl rfl ?_
  have hl4 := ta_fx (γ := Int → Int → tg_Mem → tg_R) (F := (f_X2_worthBeside_B4 a0)) (z := (fun _ _ _ => none)) (fun J => ∀ (v2_4 : Int) (v3_4 : Int) (m_4 : tg_Mem), tg_AW E LX (some .int) (J v2_4 v3_4 m_4) 4 [tr_ 1, ti_ a0, ti_ v2_4, ti_ v3_4] [] m_4) (by intros; exact ta_none) (fun self4 hself4 => by
      intro v2_4 v3_4 m_4
      unfold f_X2_worthBeside_B4
      refine ta_iloadn hE dX2_worthBeside_4 rfl ?_
      refine bp_8 hE dX2_worthBeside_5 ?_
      refine ta_icmp_ge (tgt := 25) hE dX2_worthBeside_7 (by decide) (fun c7 => ?_) (fun c7 => ?_)
      · refine ta_iloadn hE dX2_worthBeside_25 rfl ?_
        exact ta_iret hE dX2_worthBeside_26
      · refine ta_iloadn hE dX2_worthBeside_10 rfl ?_
        refine ta_aloadn hE dX2_worthBeside_11 rfl ?_
        refine ta_iloadn hE dX2_worthBeside_12 rfl ?_
        refine ta_iloadn hE dX2_worthBeside_13 rfl ?_
        refine ta_callV (C := RX2) (T := TX2) (st := [ti_ v2_4]) hE dX2_worthBeside_14 (k_X2_worthAt v3_4 a0 m_4) ml_X2_84 im_X2_worthAt se_X2_worthAt in_X2 co_X2_worthAt hy_X2_worthAt ⟨Nat.le_of_ble_eq_true rfl, Nat.le_of_ble_eq_true rfl⟩ lx_1 rfl rfl rfl (fun _ => Nat.le_of_ble_eq_true rfl) (fun r14 m14 hx14 hr14 => ?_)
        change tg_AW E _ _ _ _ _ (ti_ r14 :: _) _
        refine ta_iadd hE dX2_worthBeside_17 ?_
        refine ta_nmi (fun v2_18 => ?_)
        refine ta_istoren (lv2 := [tr_ 1, ti_ a0, ti_ v2_18, ti_ v3_4]) hE dX2_worthBeside_18 (Nat.le_of_ble_eq_true rfl) rfl rfl ?_
        refine ta_iincn (lv2 := fun v3_19 => [tr_ 1, ti_ a0, ti_ v2_18, ti_ v3_19]) hE dX2_worthBeside_19 rfl rfl rfl (fun v3_19 => ?_)
        refine ta_goto (tgt := 4) hE dX2_worthBeside_22 (by decide) ?_
        exact (hself4 v2_18 v3_19 m14))
  exact (hl4 tg_FU 0 0 m)
theorem hy_X6_gain : yX6_gain.cls = RX6 ∧ yX6_gain.cls ≠ "java/lang/invoke/MethodHandle" ∧ yX6_gain.cls ≠ "java/lang/invoke/VarHandle" ∧ (parseMethodDescriptor yX6_gain.desc).map (fun q => q.parameters.length) = some 4 := by decide +kernel
noncomputable def f_X6_gainByStep (G : Int → Int → Int → Int → tg_Mem → tg_R) (a0 : Int) (a1 : Int) (a2 : Int) (a3 : Int) (m : tg_Mem) : tg_R :=
  tg_lt (m 32 2) (fun v5_4 =>
    tg_bd (f_X7_isBelow a0 2 m) (fun r8 m8 =>
      tg_jn (γ := Int → tg_R) (fun (s0_27 : Int) => tg_bd (f_X2_worthAt s0_27 (m8 32 2) m8) (fun r39 m39 =>
        tg_bd (f_X7_isBelow s0_27 8 m39) (fun r53 m53 =>
          tg_jn (γ := Int → tg_R) (fun (s0_67 : Int) => tg_lt (tg_up m53 32 2 (tg_ior (m39 32 2) s0_67)) (fun m68 =>
            tg_bd (G (tg_wi (1 - a0)) (tg_wi (a1 - 1)) (tg_wi (r39 - a3)) (tg_wi (r39 - a2)) m68) (fun r89 m89 =>
              tg_lt (tg_wi (r39 - r89)) (fun v8_93 =>
                tg_lt (tg_up m89 32 2 v5_4) (fun m98 =>
                  some (v8_93, m98)))))) (fun j67 =>
            if r53 = 0 then
              j67 0
            else
              j67 (tg_ishl 1 s0_27))))) (fun j27 =>
        if r8 = 0 then
          j27 (-1)
        else
          tg_ck (0 ≤ a0 ∧ a0 < 2) (
            j27 (m8 34 (a0).toNat)))))
theorem hy_X6_gainByStep : yX6_gainByStep.cls = RX6 ∧ yX6_gainByStep.cls ≠ "java/lang/invoke/MethodHandle" ∧ yX6_gainByStep.cls ≠ "java/lang/invoke/VarHandle" ∧ (parseMethodDescriptor yX6_gainByStep.desc).map (fun q => q.parameters.length) = some 4 := by decide +kernel
set_option maxRecDepth 100000 in
set_option maxHeartbeats 4000000 in
theorem k_X6_gainByStep (n : Nat) (G : Int → Int → Int → Int → tg_Mem → tg_R) (hG : ∀ (b0 b1 b2 b3 : Int) (m : tg_Mem), tg_C yX6_gain cX6_gain 9 (some .int) (4 + 2 * n) LX [tr_ 32, ti_ b0, ti_ b1, ti_ b2, ti_ b3] (G b0 b1 b2 b3 m) m)   (a0 : Int) (a1 : Int) (a2 : Int) (a3 : Int) (m : tg_Mem) : tg_C yX6_gainByStep cX6_gainByStep 9 (some .int) (4 + 2 * n + 1) LX [tr_ 32, ti_ a0, ti_ a1, ti_ a2, ti_ a3] (f_X6_gainByStep G a0 a1 a2 a3 m) m := by
  refine ta_enter2 (own := RX6) (by decide +kernel) rfl rfl (Nat.le_of_ble_eq_true rfl) rfl (fun E hE => ?_)
  unfold f_X6_gainByStep
  refine ta_aloadn hE dX6_gainByStep_0 rfl ?_
  refine gf_X6_9 hE dX6_gainByStep_1 lx_32 rfl ?_
  refine ta_nmi (fun v5_4 => ?_)
  refine ta_istore (lv2 := [tr_ 32, ti_ a0, ti_ a1, ti_ a2, ti_ a3, ti_ v5_4, tj_, tj_, tj_]) hE dX6_gainByStep_4 (Nat.le_of_ble_eq_true rfl) rfl rfl ?_
  refine ta_iloadn hE dX6_gainByStep_6 rfl ?_
  refine ta_iconst (v := 2) hE dX6_gainByStep_7 rfl ⟨by decide, by decide⟩ ?_
  refine ta_callN (host := RX7) (st := []) hE dX6_gainByStep_8 (k_X7_isBelow a0 2 m) nn_X6_75 st_X7_isBelow in_X7 co_X7_isBelow hy_X7_isBelow.2 ⟨by omega, by omega⟩ rfl rfl (fun _ => Nat.le_of_ble_eq_true rfl) (fun r8 m8 hx8 hr8 => ?_)
  change tg_AW E _ _ _ _ _ (ti_ r8 :: _) _
  refine ta_join (γ := Int → tg_R) (fun J => ∀ (s0_27 : Int), tg_AW E LX (some .int) (J s0_27) 27 [tr_ 32, ti_ a0, ti_ a1, ti_ a2, ti_ a3, ti_ v5_4, tj_, tj_, tj_] [ti_ s0_27] m8) ?_ (fun j27 hj27 => ?_)
  · intro s0_27
    refine ta_istore (lv2 := [tr_ 32, ti_ a0, ti_ a1, ti_ a2, ti_ a3, ti_ v5_4, ti_ s0_27, tj_, tj_]) hE dX6_gainByStep_27 (Nat.le_of_ble_eq_true rfl) rfl rfl ?_
    refine ta_aloadn hE dX6_gainByStep_29 rfl ?_
    refine gr_X6_18 hE dX6_gainByStep_30 lx_32 rfl ?_
    refine ta_iload hE dX6_gainByStep_33 rfl ?_
    refine ta_aloadn hE dX6_gainByStep_35 rfl ?_
    refine gf_X6_9 hE dX6_gainByStep_36 lx_32 rfl ?_
    refine ta_callV (C := RX2) (T := TX2) (st := []) hE dX6_gainByStep_39 (k_X2_worthAt s0_27 (m8 32 2) m8) ml_X6_82 im_X2_worthAt se_X2_worthAt in_X2 co_X2_worthAt hy_X2_worthAt ⟨by omega, by omega⟩ lx_1 rfl rfl rfl (fun _ => Nat.le_of_ble_eq_true rfl) (fun r39 m39 hx39 hr39 => ?_)
    change tg_AW E _ _ _ _ _ (ti_ r39 :: _) _
    refine ta_istore (lv2 := [tr_ 32, ti_ a0, ti_ a1, ti_ a2, ti_ a3, ti_ v5_4, ti_ s0_27, ti_ r39, tj_]) hE dX6_gainByStep_42 (Nat.le_of_ble_eq_true rfl) rfl rfl ?_
    refine ta_aloadn hE dX6_gainByStep_44 rfl ?_
    refine ta_dup hE dX6_gainByStep_45 (fun _ => rfl) ?_
    refine gf_X6_9 hE dX6_gainByStep_46 lx_32 rfl ?_
    refine ta_iload hE dX6_gainByStep_49 rfl ?_
    refine bp_8 hE dX6_gainByStep_51 ?_
    refine ta_callN (host := RX7) (st := [ti_ (m39 32 2), tr_ 32]) hE dX6_gainByStep_53 (k_X7_isBelow s0_27 8 m39) nn_X6_75 st_X7_isBelow in_X7 co_X7_isBelow hy_X7_isBelow.2 ⟨by omega, by omega⟩ rfl rfl (fun _ => Nat.le_of_ble_eq_true rfl) (fun r53 m53 hx53 hr53 => ?_)
    change tg_AW E _ _ _ _ _ (ti_ r53 :: _) _
    refine ta_join (γ := Int → tg_R) (fun J => ∀ (s0_67 : Int), tg_AW E LX (some .int) (J s0_67) 67 [tr_ 32, ti_ a0, ti_ a1, ti_ a2, ti_ a3, ti_ v5_4, tj_, ti_ r39, tj_] [ti_ s0_67, ti_ (m39 32 2), tr_ 32] m53) ?_ (fun j67 hj67 => ?_)
    · intro s0_67
      refine ta_ior hE dX6_gainByStep_67 ?_
      refine pf_X6_9 hE dX6_gainByStep_68 lx_32 rfl ?_
      refine ta_nmm (fun m68 => ?_)
      refine ta_iload hE dX6_gainByStep_71 rfl ?_
      refine ta_aloadn hE dX6_gainByStep_73 rfl ?_
      refine ta_iconst (v := 1) hE dX6_gainByStep_74 rfl ⟨by decide, by decide⟩ ?_
      refine ta_iloadn hE dX6_gainByStep_75 rfl ?_
      refine ta_isub hE dX6_gainByStep_76 ?_
      refine ta_iloadn hE dX6_gainByStep_77 rfl ?_
      refine ta_iconst (v := 1) hE dX6_gainByStep_78 rfl ⟨by decide, by decide⟩ ?_
      refine ta_isub hE dX6_gainByStep_79 ?_
      refine ta_iload hE dX6_gainByStep_80 rfl ?_
      refine ta_iload hE dX6_gainByStep_82 rfl ?_
      refine ta_isub hE dX6_gainByStep_84 ?_
      refine ta_iload hE dX6_gainByStep_85 rfl ?_
      refine ta_iloadn hE dX6_gainByStep_87 rfl ?_
      refine ta_isub hE dX6_gainByStep_88 ?_
      refine ta_callV (C := RX6) (T := TX6) (st := [ti_ r39]) hE dX6_gainByStep_89 (hG (tg_wi (1 - a0)) (tg_wi (a1 - 1)) (tg_wi (r39 - a3)) (tg_wi (r39 - a2)) m68) ml_X6_39 im_X6_gain se_X6_gain in_X6 co_X6_gain hy_X6_gain ⟨by omega, by omega⟩ lx_32 rfl rfl rfl (fun _ => Nat.le_of_ble_eq_true rfl) (fun r89 m89 hx89 hr89 => ?_)
      change tg_AW E _ _ _ _ _ (ti_ r89 :: _) _
      refine ta_isub hE dX6_gainByStep_92 ?_
      refine ta_nmi (fun v8_93 => ?_)
      refine ta_istore (lv2 := [tr_ 32, ti_ a0, ti_ a1, ti_ a2, ti_ a3, ti_ v5_4, tj_, ti_ r39, ti_ v8_93]) hE dX6_gainByStep_93 (Nat.le_of_ble_eq_true rfl) rfl rfl ?_
      refine ta_aloadn hE dX6_gainByStep_95 rfl ?_
      refine ta_iload hE dX6_gainByStep_96 rfl ?_
      refine pf_X6_9 hE dX6_gainByStep_98 lx_32 rfl ?_
      refine ta_nmm (fun m98 => ?_)
      refine ta_iload hE dX6_gainByStep_101 rfl ?_
      exact ta_iret hE dX6_gainByStep_103
    · refine ta_if_eq (tgt := 66) hE dX6_gainByStep_56 (by decide) (fun c56 => ?_) (fun c56 => ?_)
      · refine ta_iconst (v := 0) hE dX6_gainByStep_66 rfl ⟨by decide, by decide⟩ ?_
        exact (ta_wk (i := 6) (lv2 := [tr_ 32, ti_ a0, ti_ a1, ti_ a2, ti_ a3, ti_ v5_4, tj_, ti_ r39, tj_]) rfl (hj67 0))
      · refine ta_iconst (v := 1) hE dX6_gainByStep_59 rfl ⟨by decide, by decide⟩ ?_
        refine ta_iload hE dX6_gainByStep_60 rfl ?_
        refine ta_ishl hE dX6_gainByStep_62 ?_
        refine ta_goto (tgt := 67) hE dX6_gainByStep_63 (by decide) ?_
        exact (ta_wk (i := 6) (lv2 := [tr_ 32, ti_ a0, ti_ a1, ti_ a2, ti_ a3, ti_ v5_4, tj_, ti_ r39, tj_]) rfl (hj67 (tg_ishl 1 s0_27)))
  · refine ta_if_eq (tgt := 26) hE dX6_gainByStep_11 (by decide) (fun c11 => ?_) (fun c11 => ?_)
    · refine ta_iconst (v := (-1)) hE dX6_gainByStep_26 rfl ⟨by decide, by decide⟩ ?_
      exact (hj27 (-1))
    · refine ta_aloadn hE dX6_gainByStep_14 rfl ?_
      refine gr_X6_27 hE dX6_gainByStep_15 lx_32 rfl ?_
      refine gr_X6_78 hE dX6_gainByStep_18 (ok_33.1) rfl ?_
      refine ta_iloadn hE dX6_gainByStep_21 rfl ?_
      refine ta_iald (n' := 2) hE dX6_gainByStep_22 (ok_33.2.1) rfl (fun _ _ => ?_)
      refine ta_goto (tgt := 27) hE dX6_gainByStep_23 (by decide) ?_
      exact (hj27 (m8 34 (a0).toNat))
noncomputable def f_X6_gainB_B49 (G : Int → Int → Int → Int → tg_Mem → tg_R) (a0 : Int) (a1 : Int) (a2 : Int) (a3 : Int) (j158 : Int → Int → tg_Mem → tg_R) (self49 : Int → Int → Int → tg_Mem → tg_R) (v5_49 : Int) (v6_49 : Int) (v7_49 : Int) (m_49 : tg_Mem) : tg_R :=
  if m_49 1 8 ≤ v7_49 then
    j158 v5_49 v6_49 m_49
  else
    if a3 ≤ v5_49 then
      j158 v5_49 v6_49 m_49
    else
      tg_bd (f_X1_canGo 33 a0 v7_49 m_49) (fun r75 m75 =>
        tg_jn (γ := Int → Int → tg_Mem → tg_R) (fun (v5_152 : Int) (v6_152 : Int) (m_152 : tg_Mem) => tg_lt (tg_wi (v7_49 + 1)) (fun v7_152 =>
          self49 v5_152 v6_152 v7_152 m_152)) (fun j152 =>
          if r75 ≠ 0 then
            tg_bd (f_X1_go 33 a0 v7_49 m75) (fun _ m91 =>
              tg_jn (γ := Int → Int → tg_Mem → tg_R) (fun (v5_142 : Int) (v6_142 : Int) (m_142 : tg_Mem) => tg_bd (f_X1_go 33 a0 v7_49 m_142) (fun _ m149 =>
                j152 v5_142 v6_142 m149)) (fun j142 =>
                if m91 1 7 < m91 33 5 then
                  j142 v5_49 v6_49 m91
                else
                  tg_bd (f_X6_gainByStep G a0 a1 (tg_max a2 v5_49) a3 m91) (fun r122 m122 =>
                    if r122 ≤ v5_49 then
                      j142 v5_49 v6_49 m122
                    else
                      j142 r122 v7_49 m122)))
          else
            j152 v5_49 v6_49 m75))
noncomputable def f_X6_gainB (G : Int → Int → Int → Int → tg_Mem → tg_R) (a0 : Int) (a1 : Int) (a2 : Int) (a3 : Int) (m : tg_Mem) : tg_R :=
  tg_lt (tg_up m 32 3 (-1)) (fun m2 =>
    if a1 ≤ 0 then
      some (0, m2)
    else
      tg_bd (f_X2_worthBeside (m2 32 2) m2) (fun r17 m17 =>
        if r17 ≠ 0 then
          tg_bd (G (tg_wi (1 - a0)) (tg_wi (a1 - 1)) (tg_wi (-a3)) (tg_wi (-a2)) m17) (fun r37 m37 =>
            tg_lt (tg_wi (-r37)) (fun v5_41 =>
              tg_jn (γ := Int → Int → tg_Mem → tg_R) (fun (v5_158 : Int) (v6_158 : Int) (m_158 : tg_Mem) => tg_lt (tg_up m_158 32 3 v6_158) (fun m161 =>
                some (v5_158, m161))) (fun j158 =>
                tg_fx (γ := Int → Int → Int → tg_Mem → tg_R) (f_X6_gainB_B49 G a0 a1 a2 a3 j158) (fun _ _ _ _ => none) tg_FU v5_41 (-1) 0 m37)))
        else
          some (0, m17)))
noncomputable def f_X6_gain (n : Nat) : Int → Int → Int → Int → tg_Mem → tg_R := tg_fx (γ := Int → Int → Int → Int → tg_Mem → tg_R) f_X6_gainB (fun _ _ _ _ _ => none) n
set_option maxRecDepth 100000 in
set_option maxHeartbeats 4000000 in
theorem k_X6_gain : ∀ (n : Nat) (a0 a1 a2 a3 : Int) (m : tg_Mem), tg_C yX6_gain cX6_gain 9 (some .int) (4 + 2 * n) LX [tr_ 32, ti_ a0, ti_ a1, ti_ a2, ti_ a3] (f_X6_gain n a0 a1 a2 a3 m) m := by
  intro n
  induction n with
  | zero =>
    intro a0 a1 a2 a3 m hm hok r m2 hX
    cases hX
  | succ n hG0 =>
    intro a0 a1 a2 a3 m
    have hG := hG0
    show tg_C yX6_gain cX6_gain 9 (some .int) (4 + 2 * (n + 1)) LX [tr_ 32, ti_ a0, ti_ a1, ti_ a2, ti_ a3] (f_X6_gainB (f_X6_gain n) a0 a1 a2 a3 m) m
    generalize f_X6_gain n = G at hG ⊢
    clear hG0
    refine ta_enter2 (own := RX6) (by decide +kernel) rfl rfl (Nat.le_of_ble_eq_true rfl) rfl (fun E hE => ?_)
    unfold f_X6_gainB
    refine ta_aloadn hE dX6_gain_0 rfl ?_
    refine ta_iconst (v := (-1)) hE dX6_gain_1 rfl ⟨by decide, by decide⟩ ?_
    refine pf_X6_15 hE dX6_gain_2 lx_32 rfl ?_
    refine ta_nmm (fun m2 => ?_)
    refine ta_iloadn hE dX6_gain_5 rfl ?_
    refine ta_if_le (tgt := 23) hE dX6_gain_6 (by decide) (fun c6 => ?_) (fun c6 => ?_)
    · refine ta_iconst (v := 0) hE dX6_gain_23 rfl ⟨by decide, by decide⟩ ?_
      exact ta_iret hE dX6_gain_24
    · refine ta_aloadn hE dX6_gain_9 rfl ?_
      refine gr_X6_18 hE dX6_gain_10 lx_32 rfl ?_
      refine ta_aloadn hE dX6_gain_13 rfl ?_
      refine gf_X6_9 hE dX6_gain_14 lx_32 rfl ?_
      refine ta_callV (C := RX2) (T := TX2) (st := []) hE dX6_gain_17 (k_X2_worthBeside (m2 32 2) m2) ml_X6_43 im_X2_worthBeside se_X2_worthBeside in_X2 co_X2_worthBeside hy_X2_worthBeside ⟨by omega, by omega⟩ lx_1 rfl rfl rfl (fun _ => Nat.le_of_ble_eq_true rfl) (fun r17 m17 hx17 hr17 => ?_)
      change tg_AW E _ _ _ _ _ (ti_ r17 :: _) _
      refine ta_if_ne (tgt := 25) hE dX6_gain_20 (by decide) (fun c20 => ?_) (fun c20 => ?_)
      · refine ta_aloadn hE dX6_gain_25 rfl ?_
        refine ta_iconst (v := 1) hE dX6_gain_26 rfl ⟨by decide, by decide⟩ ?_
        refine ta_iloadn hE dX6_gain_27 rfl ?_
        refine ta_isub hE dX6_gain_28 ?_
        refine ta_iloadn hE dX6_gain_29 rfl ?_
        refine ta_iconst (v := 1) hE dX6_gain_30 rfl ⟨by decide, by decide⟩ ?_
        refine ta_isub hE dX6_gain_31 ?_
        refine ta_iload hE dX6_gain_32 rfl ?_
        refine ta_ineg hE dX6_gain_34 ?_
        refine ta_iloadn hE dX6_gain_35 rfl ?_
        refine ta_ineg hE dX6_gain_36 ?_
        refine ta_callV (C := RX6) (T := TX6) (st := []) hE dX6_gain_37 (hG (tg_wi (1 - a0)) (tg_wi (a1 - 1)) (tg_wi (-a3)) (tg_wi (-a2)) m17) ml_X6_39 im_X6_gain se_X6_gain in_X6 co_X6_gain hy_X6_gain ⟨by omega, by omega⟩ lx_32 rfl rfl rfl (fun _ => Nat.le_of_ble_eq_true rfl) (fun r37 m37 hx37 hr37 => ?_)
        change tg_AW E _ _ _ _ _ (ti_ r37 :: _) _
        refine ta_ineg hE dX6_gain_40 ?_
        refine ta_nmi (fun v5_41 => ?_)
        refine ta_istore (lv2 := [tr_ 32, ti_ a0, ti_ a1, ti_ a2, ti_ a3, ti_ v5_41, tj_, tj_, tj_]) hE dX6_gain_41 (Nat.le_of_ble_eq_true rfl) rfl rfl ?_
        refine ta_iconst (v := (-1)) hE dX6_gain_43 rfl ⟨by decide, by decide⟩ ?_
        refine ta_istore (lv2 := [tr_ 32, ti_ a0, ti_ a1, ti_ a2, ti_ a3, ti_ v5_41, ti_ (-1), tj_, tj_]) hE dX6_gain_44 (Nat.le_of_ble_eq_true rfl) rfl rfl ?_
        refine ta_iconst (v := 0) hE dX6_gain_46 rfl ⟨by decide, by decide⟩ ?_
        refine ta_istore (lv2 := [tr_ 32, ti_ a0, ti_ a1, ti_ a2, ti_ a3, ti_ v5_41, ti_ (-1), ti_ 0, tj_]) hE dX6_gain_47 (Nat.le_of_ble_eq_true rfl) rfl rfl ?_
        refine ta_join (γ := Int → Int → tg_Mem → tg_R) (fun J => ∀ (v5_158 : Int) (v6_158 : Int) (m_158 : tg_Mem), tg_AW E LX (some .int) (J v5_158 v6_158 m_158) 158 [tr_ 32, tj_, tj_, tj_, tj_, ti_ v5_158, ti_ v6_158, tj_, tj_] [] m_158) ?_ (fun j158 hj158 => ?_)
        · intro v5_158 v6_158 m_158
          refine ta_aloadn hE dX6_gain_158 rfl ?_
          refine ta_iload hE dX6_gain_159 rfl ?_
          refine pf_X6_15 hE dX6_gain_161 lx_32 rfl ?_
          refine ta_nmm (fun m161 => ?_)
          refine ta_iload hE dX6_gain_164 rfl ?_
          exact ta_iret hE dX6_gain_166
        · have hl49 := ta_fx (γ := Int → Int → Int → tg_Mem → tg_R) (F := (f_X6_gainB_B49 G a0 a1 a2 a3 j158)) (z := (fun _ _ _ _ => none)) (fun J => ∀ (v5_49 : Int) (v6_49 : Int) (v7_49 : Int) (m_49 : tg_Mem), tg_AW E LX (some .int) (J v5_49 v6_49 v7_49 m_49) 49 [tr_ 32, ti_ a0, ti_ a1, ti_ a2, ti_ a3, ti_ v5_49, ti_ v6_49, ti_ v7_49, tj_] [] m_49) (by intros; exact ta_none) (fun self49 hself49 => by
              intro v5_49 v6_49 v7_49 m_49
              unfold f_X6_gainB_B49
              refine ta_iload hE dX6_gain_49 rfl ?_
              refine ta_aloadn hE dX6_gain_51 rfl ?_
              refine gr_X6_18 hE dX6_gain_52 lx_32 rfl ?_
              refine gf_X6_49 hE dX6_gain_55 lx_1 rfl ?_
              refine ta_icmp_ge (tgt := 158) hE dX6_gain_58 (by decide) (fun c58 => ?_) (fun c58 => ?_)
              · exact (ta_wk (i := 1) (lv2 := [tr_ 32, tj_, ti_ a1, ti_ a2, ti_ a3, ti_ v5_49, ti_ v6_49, ti_ v7_49, tj_]) rfl (ta_wk (i := 2) (lv2 := [tr_ 32, tj_, tj_, ti_ a2, ti_ a3, ti_ v5_49, ti_ v6_49, ti_ v7_49, tj_]) rfl (ta_wk (i := 3) (lv2 := [tr_ 32, tj_, tj_, tj_, ti_ a3, ti_ v5_49, ti_ v6_49, ti_ v7_49, tj_]) rfl (ta_wk (i := 4) (lv2 := [tr_ 32, tj_, tj_, tj_, tj_, ti_ v5_49, ti_ v6_49, ti_ v7_49, tj_]) rfl (ta_wk (i := 7) (lv2 := [tr_ 32, tj_, tj_, tj_, tj_, ti_ v5_49, ti_ v6_49, tj_, tj_]) rfl (hj158 v5_49 v6_49 m_49))))))
              · refine ta_iload hE dX6_gain_61 rfl ?_
                refine ta_iload hE dX6_gain_63 rfl ?_
                refine ta_icmp_ge (tgt := 158) hE dX6_gain_65 (by decide) (fun c65 => ?_) (fun c65 => ?_)
                · exact (ta_wk (i := 1) (lv2 := [tr_ 32, tj_, ti_ a1, ti_ a2, ti_ a3, ti_ v5_49, ti_ v6_49, ti_ v7_49, tj_]) rfl (ta_wk (i := 2) (lv2 := [tr_ 32, tj_, tj_, ti_ a2, ti_ a3, ti_ v5_49, ti_ v6_49, ti_ v7_49, tj_]) rfl (ta_wk (i := 3) (lv2 := [tr_ 32, tj_, tj_, tj_, ti_ a3, ti_ v5_49, ti_ v6_49, ti_ v7_49, tj_]) rfl (ta_wk (i := 4) (lv2 := [tr_ 32, tj_, tj_, tj_, tj_, ti_ v5_49, ti_ v6_49, ti_ v7_49, tj_]) rfl (ta_wk (i := 7) (lv2 := [tr_ 32, tj_, tj_, tj_, tj_, ti_ v5_49, ti_ v6_49, tj_, tj_]) rfl (hj158 v5_49 v6_49 m_49))))))
                · refine ta_aloadn hE dX6_gain_68 rfl ?_
                  refine gr_X6_27 hE dX6_gain_69 lx_32 rfl ?_
                  refine ta_iloadn hE dX6_gain_72 rfl ?_
                  refine ta_iload hE dX6_gain_73 rfl ?_
                  refine ta_callV (C := RX1) (T := TX1) (st := []) hE dX6_gain_75 (k_X1_canGo ok_33 a0 v7_49 m_49) ml_X6_52 im_X1_canGo se_X1_canGo in_X1 co_X1_canGo hy_X1_canGo ⟨by omega, by omega⟩ (ok_33.1) rfl rfl rfl (fun _ => Nat.le_of_ble_eq_true rfl) (fun r75 m75 hx75 hr75 => ?_)
                  change tg_AW E _ _ _ _ _ (ti_ r75 :: _) _
                  refine ta_join (γ := Int → Int → tg_Mem → tg_R) (fun J => ∀ (v5_152 : Int) (v6_152 : Int) (m_152 : tg_Mem), tg_AW E LX (some .int) (J v5_152 v6_152 m_152) 152 [tr_ 32, ti_ a0, ti_ a1, ti_ a2, ti_ a3, ti_ v5_152, ti_ v6_152, ti_ v7_49, tj_] [] m_152) ?_ (fun j152 hj152 => ?_)
                  · intro v5_152 v6_152 m_152
                    refine ta_iincn (lv2 := fun v7_152 => [tr_ 32, ti_ a0, ti_ a1, ti_ a2, ti_ a3, ti_ v5_152, ti_ v6_152, ti_ v7_152, tj_]) hE dX6_gain_152 rfl rfl rfl (fun v7_152 => ?_)
                    refine ta_goto (tgt := 49) hE dX6_gain_155 (by decide) ?_
                    exact (hself49 v5_152 v6_152 v7_152 m_152)
                  · refine ta_if_ne (tgt := 84) hE dX6_gain_78 (by decide) (fun c78 => ?_) (fun c78 => ?_)
                    · refine ta_aloadn hE dX6_gain_84 rfl ?_
                      refine gr_X6_27 hE dX6_gain_85 lx_32 rfl ?_
                      refine ta_iloadn hE dX6_gain_88 rfl ?_
                      refine ta_iload hE dX6_gain_89 rfl ?_
                      refine ta_callV (C := RX1) (T := TX1) (st := []) hE dX6_gain_91 (k_X1_go ok_33 a0 v7_49 m75) ml_X6_56 im_X1_go se_X1_go in_X1 co_X1_go hy_X1_go ⟨by omega, by omega⟩ (ok_33.1) rfl rfl rfl (fun _ => Nat.le_of_ble_eq_true rfl) (fun r91 m91 hx91 hr91 => ?_)
                      change tg_AW E _ _ _ _ _ [] _
                      refine ta_aloadn hE dX6_gain_94 rfl ?_
                      refine gr_X6_27 hE dX6_gain_95 lx_32 rfl ?_
                      refine gf_X6_60 hE dX6_gain_98 (ok_33.1) rfl ?_
                      refine ta_aloadn hE dX6_gain_101 rfl ?_
                      refine gr_X6_18 hE dX6_gain_102 lx_32 rfl ?_
                      refine gf_X6_63 hE dX6_gain_105 lx_1 rfl ?_
                      refine ta_join (γ := Int → Int → tg_Mem → tg_R) (fun J => ∀ (v5_142 : Int) (v6_142 : Int) (m_142 : tg_Mem), tg_AW E LX (some .int) (J v5_142 v6_142 m_142) 142 [tr_ 32, ti_ a0, ti_ a1, ti_ a2, ti_ a3, ti_ v5_142, ti_ v6_142, ti_ v7_49, tj_] [] m_142) ?_ (fun j142 hj142 => ?_)
                      · intro v5_142 v6_142 m_142
                        refine ta_aloadn hE dX6_gain_142 rfl ?_
                        refine gr_X6_27 hE dX6_gain_143 lx_32 rfl ?_
                        refine ta_iloadn hE dX6_gain_146 rfl ?_
                        refine ta_iload hE dX6_gain_147 rfl ?_
                        refine ta_callV (C := RX1) (T := TX1) (st := []) hE dX6_gain_149 (k_X1_go ok_33 a0 v7_49 m_142) ml_X6_56 im_X1_go se_X1_go in_X1 co_X1_go hy_X1_go ⟨by omega, by omega⟩ (ok_33.1) rfl rfl rfl (fun _ => Nat.le_of_ble_eq_true rfl) (fun r149 m149 hx149 hr149 => ?_)
                        change tg_AW E _ _ _ _ _ [] _
                        exact (hj152 v5_142 v6_142 m149)
                      · refine ta_icmp_gt (tgt := 142) hE dX6_gain_108 (by decide) (fun c108 => ?_) (fun c108 => ?_)
                        · exact (hj142 v5_49 v6_49 m91)
                        · refine ta_aloadn hE dX6_gain_111 rfl ?_
                          refine ta_iloadn hE dX6_gain_112 rfl ?_
                          refine ta_iloadn hE dX6_gain_113 rfl ?_
                          refine ta_iloadn hE dX6_gain_114 rfl ?_
                          refine ta_iload hE dX6_gain_115 rfl ?_
                          refine ta_mmax hE dX6_gain_117 ml_X6_66 st_J9_max_7cf53 in_J9 co_J9_max_7cf53 rfl (by omega) (fun _ => Nat.le_of_ble_eq_true rfl) ?_
                          refine ta_iload hE dX6_gain_120 rfl ?_
                          refine ta_callV (C := RX6) (T := TX6) (st := []) hE dX6_gain_122 (k_X6_gainByStep n G hG a0 a1 (tg_max a2 v5_49) a3 m91) ml_X6_72 im_X6_gainByStep se_X6_gainByStep in_X6 co_X6_gainByStep hy_X6_gainByStep ⟨by omega, by omega⟩ lx_32 rfl rfl rfl (fun _ => Nat.le_of_ble_eq_true rfl) (fun r122 m122 hx122 hr122 => ?_)
                          change tg_AW E _ _ _ _ _ (ti_ r122 :: _) _
                          refine ta_istore (lv2 := [tr_ 32, ti_ a0, ti_ a1, ti_ a2, ti_ a3, ti_ v5_49, ti_ v6_49, ti_ v7_49, ti_ r122]) hE dX6_gain_125 (Nat.le_of_ble_eq_true rfl) rfl rfl ?_
                          refine ta_iload hE dX6_gain_127 rfl ?_
                          refine ta_iload hE dX6_gain_129 rfl ?_
                          refine ta_icmp_le (tgt := 142) hE dX6_gain_131 (by decide) (fun c131 => ?_) (fun c131 => ?_)
                          · exact (ta_wk (i := 8) (lv2 := [tr_ 32, ti_ a0, ti_ a1, ti_ a2, ti_ a3, ti_ v5_49, ti_ v6_49, ti_ v7_49, tj_]) rfl (hj142 v5_49 v6_49 m122))
                          · refine ta_iload hE dX6_gain_134 rfl ?_
                            refine ta_istore (lv2 := [tr_ 32, ti_ a0, ti_ a1, ti_ a2, ti_ a3, ti_ r122, ti_ v6_49, ti_ v7_49, ti_ r122]) hE dX6_gain_136 (Nat.le_of_ble_eq_true rfl) rfl rfl ?_
                            refine ta_iload hE dX6_gain_138 rfl ?_
                            refine ta_istore (lv2 := [tr_ 32, ti_ a0, ti_ a1, ti_ a2, ti_ a3, ti_ r122, ti_ v7_49, ti_ v7_49, ti_ r122]) hE dX6_gain_140 (Nat.le_of_ble_eq_true rfl) rfl rfl ?_
                            exact (ta_wk (i := 8) (lv2 := [tr_ 32, ti_ a0, ti_ a1, ti_ a2, ti_ a3, ti_ r122, ti_ v7_49, ti_ v7_49, tj_]) rfl (hj142 r122 v7_49 m122))
                    · refine ta_goto (tgt := 152) hE dX6_gain_81 (by decide) ?_
                      exact (hj152 v5_49 v6_49 m75))
          exact (hl49 tg_FU v5_41 (-1) 0 m37)
      · refine ta_iconst (v := 0) hE dX6_gain_23 rfl ⟨by decide, by decide⟩ ?_
        exact ta_iret hE dX6_gain_24
noncomputable def f_X6_play (k0 : Nat) (a1 : Int) (m : tg_Mem) : tg_R :=
  tg_bd (f_X1_become 33 (k0 + 3) m) (fun _ m8 =>
    tg_lt (tg_up m8 32 2 (m8 k0 6)) (fun m16 =>
      tg_bd (f_X6_gain 6 0 a1 (-10000) 10000 m16) (fun r28 m28 =>
        some (r28, m28))))
theorem hy_X6_play : yX6_play.cls = RX6 ∧ yX6_play.cls ≠ "java/lang/invoke/MethodHandle" ∧ yX6_play.cls ≠ "java/lang/invoke/VarHandle" ∧ (parseMethodDescriptor yX6_play.desc).map (fun q => q.parameters.length) = some 2 := by decide +kernel
set_option maxRecDepth 100000 in
set_option maxHeartbeats 4000000 in
theorem k_X6_play {k0 : Nat} (hk0 : tg_okD k0) (a1 : Int) (m : tg_Mem) : tg_C yX6_play cX6_play 3 (some .int) 17 LX [tr_ 32, tr_ k0, ti_ a1] (f_X6_play k0 a1 m) m := by
  refine ta_enter2 (own := RX6) (by decide +kernel) rfl rfl (Nat.le_of_ble_eq_true rfl) rfl (fun E hE => ?_)
  unfold f_X6_play
  refine ta_aloadn hE dX6_play_0 rfl ?_
  refine gr_X6_27 hE dX6_play_1 lx_32 rfl ?_
  refine ta_aloadn hE dX6_play_4 rfl ?_
  refine gr_X6_31 hE dX6_play_5 (hk0.1) rfl ?_
  refine ta_callV (C := RX1) (T := TX1) (st := []) hE dX6_play_8 (k_X1_become ok_33 (hk0.2.2.1) m) ml_X6_34 im_X1_become se_X1_become in_X1 co_X1_become hy_X1_become ⟨Nat.le_of_ble_eq_true rfl, Nat.le_of_ble_eq_true rfl⟩ (ok_33.1) rfl rfl rfl (fun _ => Nat.le_of_ble_eq_true rfl) (fun r8 m8 hx8 hr8 => ?_)
  change tg_AW E _ _ _ _ _ [] _
  refine ta_aloadn hE dX6_play_11 rfl ?_
  refine ta_aloadn hE dX6_play_12 rfl ?_
  refine gf_X6_38 hE dX6_play_13 (hk0.1) rfl ?_
  refine pf_X6_9 hE dX6_play_16 lx_32 rfl ?_
  refine ta_nmm (fun m16 => ?_)
  refine ta_aloadn hE dX6_play_19 rfl ?_
  refine ta_iconst (v := 0) hE dX6_play_20 rfl ⟨by decide, by decide⟩ ?_
  refine ta_iloadn hE dX6_play_21 rfl ?_
  refine sp_n10000 hE dX6_play_22 ?_
  refine sp_10000 hE dX6_play_25 ?_
  refine ta_callV (C := RX6) (T := TX6) (st := []) hE dX6_play_28 (k_X6_gain 6 0 a1 (-10000) 10000 m16) ml_X6_39 im_X6_gain se_X6_gain in_X6 co_X6_gain hy_X6_gain ⟨Nat.le_of_ble_eq_true rfl, Nat.le_of_ble_eq_true rfl⟩ lx_32 rfl rfl rfl (fun _ => Nat.le_of_ble_eq_true rfl) (fun r28 m28 hx28 hr28 => ?_)
  change tg_AW E _ _ _ _ _ (ti_ r28 :: _) _
  exact ta_iret hE dX6_play_31
noncomputable def f_X7_game (a0 : Int) (a1 : Int) (a2 : Int) (m : tg_Mem) : tg_R :=
  tg_bd (f_X7_isBelow a0 2 m) (fun r2 m2 =>
    if r2 = 0 then
      some ((-10002), m2)
    else
      if a1 < 1 then
        some ((-10002), m2)
      else
        if 5 < a1 then
          some ((-10002), m2)
        else
          tg_bd (f_X7_isBelow a2 2 m2) (fun r20 m20 =>
            if r20 ≠ 0 then
              tg_bd (f_X7_ended a0 m20) (fun r36 m36 =>
                tg_bd (f_X6_play (r36.toNat) a1 m36) (fun r40 m40 =>
                  if a2 ≠ 0 then
                    some (m40 32 3, m40)
                  else
                    some (r40, m40)))
            else
              some ((-10002), m20)))
theorem hy_X7_game : yX7_game.cls = RX7 ∧ yX7_game.cls ≠ "java/lang/invoke/MethodHandle" ∧ yX7_game.cls ≠ "java/lang/invoke/VarHandle" ∧ (parseMethodDescriptor yX7_game.desc).map (fun q => q.parameters.length) = some 3 := by decide +kernel
set_option maxRecDepth 100000 in
set_option maxHeartbeats 4000000 in
theorem k_X7_game   (a0 : Int) (a1 : Int) (a2 : Int) (m : tg_Mem) : tg_C yX7_game cX7_game 5 (some .int) 18 LX [tr_ 0, ti_ a0, ti_ a1, ti_ a2] (f_X7_game a0 a1 a2 m) m := by
  refine ta_enter2 (own := RX7) (by decide +kernel) rfl rfl (Nat.le_of_ble_eq_true rfl) rfl (fun E hE => ?_)
  unfold f_X7_game
  refine ta_iloadn hE dX7_game_0 rfl ?_
  refine ta_iconst (v := 2) hE dX7_game_1 rfl ⟨by decide, by decide⟩ ?_
  refine ta_callS (st := []) hE dX7_game_2 (k_X7_isBelow a0 2 m) ml_X7_60 st_X7_isBelow in_X7 co_X7_isBelow hy_X7_isBelow.2 ⟨Nat.le_of_ble_eq_true rfl, Nat.le_of_ble_eq_true rfl⟩ rfl rfl (fun _ => Nat.le_of_ble_eq_true rfl) (fun r2 m2 hx2 hr2 => ?_)
  change tg_AW E _ _ _ _ _ (ti_ r2 :: _) _
  refine ta_if_eq (tgt := 26) hE dX7_game_5 (by decide) (fun c5 => ?_) (fun c5 => ?_)
  · refine sp_n10002 hE dX7_game_26 ?_
    exact ta_iret hE dX7_game_29
  · refine ta_iloadn hE dX7_game_8 rfl ?_
    refine ta_iconst (v := 1) hE dX7_game_9 rfl ⟨by decide, by decide⟩ ?_
    refine ta_icmp_lt (tgt := 26) hE dX7_game_10 (by decide) (fun c10 => ?_) (fun c10 => ?_)
    · refine sp_n10002 hE dX7_game_26 ?_
      exact ta_iret hE dX7_game_29
    · refine ta_iloadn hE dX7_game_13 rfl ?_
      refine ta_iconst (v := 5) hE dX7_game_14 rfl ⟨by decide, by decide⟩ ?_
      refine ta_icmp_gt (tgt := 26) hE dX7_game_15 (by decide) (fun c15 => ?_) (fun c15 => ?_)
      · refine sp_n10002 hE dX7_game_26 ?_
        exact ta_iret hE dX7_game_29
      · refine ta_iloadn hE dX7_game_18 rfl ?_
        refine ta_iconst (v := 2) hE dX7_game_19 rfl ⟨by decide, by decide⟩ ?_
        refine ta_callS (st := []) hE dX7_game_20 (k_X7_isBelow a2 2 m2) ml_X7_60 st_X7_isBelow in_X7 co_X7_isBelow hy_X7_isBelow.2 ⟨Nat.le_of_ble_eq_true rfl, Nat.le_of_ble_eq_true rfl⟩ rfl rfl (fun _ => Nat.le_of_ble_eq_true rfl) (fun r20 m20 hx20 hr20 => ?_)
        change tg_AW E _ _ _ _ _ (ti_ r20 :: _) _
        refine ta_if_ne (tgt := 30) hE dX7_game_23 (by decide) (fun c23 => ?_) (fun c23 => ?_)
        · refine ta_aloadn hE dX7_game_30 rfl ?_
          refine gr_X7_38 hE dX7_game_31 lx_0 rfl ?_
          refine ta_aloadn hE dX7_game_34 rfl ?_
          refine ta_iloadn hE dX7_game_35 rfl ?_
          refine ta_callV (C := RX7) (T := TX7) (st := [tr_ 32]) hE dX7_game_36 (k_X7_ended a0 m20) ml_X7_128 im_X7_ended se_X7_ended in_X7 co_X7_ended hy_X7_ended ⟨Nat.le_of_ble_eq_true rfl, Nat.le_of_ble_eq_true rfl⟩ lx_0 rfl rfl rfl (fun _ => Nat.le_of_ble_eq_true rfl) (fun r36 m36 hx36 hr36 => ?_)
          change tg_AW E _ _ _ _ _ (tr_ r36.toNat :: _) _
          refine ta_iloadn hE dX7_game_39 rfl ?_
          refine ta_callV (C := RX6) (T := TX6) (st := []) hE dX7_game_40 (k_X6_play (ok_X7_ended hx36) a1 m36) ml_X7_168 im_X6_play se_X6_play in_X6 co_X6_play hy_X6_play ⟨Nat.le_of_ble_eq_true rfl, Nat.le_of_ble_eq_true rfl⟩ lx_32 rfl rfl rfl (fun _ => Nat.le_of_ble_eq_true rfl) (fun r40 m40 hx40 hr40 => ?_)
          change tg_AW E _ _ _ _ _ (ti_ r40 :: _) _
          refine ta_istore (lv2 := [tr_ 0, ti_ a0, ti_ a1, ti_ a2, ti_ r40]) hE dX7_game_43 (Nat.le_of_ble_eq_true rfl) rfl rfl ?_
          refine ta_iloadn hE dX7_game_45 rfl ?_
          refine ta_if_ne (tgt := 54) hE dX7_game_46 (by decide) (fun c46 => ?_) (fun c46 => ?_)
          · refine ta_aloadn hE dX7_game_54 rfl ?_
            refine gr_X7_38 hE dX7_game_55 lx_0 rfl ?_
            refine gf_X7_172 hE dX7_game_58 lx_32 rfl ?_
            exact ta_iret hE dX7_game_61
          · refine ta_iload hE dX7_game_49 rfl ?_
            refine ta_goto (tgt := 61) hE dX7_game_51 (by decide) ?_
            exact ta_iret hE dX7_game_61
        · refine sp_n10002 hE dX7_game_26 ?_
          exact ta_iret hE dX7_game_29
noncomputable def f_X1_liesAs_B15 (k : Nat) (k0 : Nat) (self15 : Int → tg_Mem → tg_R) (v2_15 : Int) (m_15 : tg_Mem) : tg_R :=
  if m_15 k 4 ≤ v2_15 then
    some (1, m_15)
  else
    tg_bd (f_X1_pathAt k v2_15 m_15) (fun r25 m25 =>
      tg_bd (f_X1_pathAt k0 v2_15 m25) (fun r30 m30 =>
        if r25 = r30 then
          tg_lt (tg_wi (v2_15 + 1)) (fun v2_38 =>
            self15 v2_38 m30)
        else
          some (0, m30)))
noncomputable def f_X1_liesAs (k : Nat) (k0 : Nat) (m : tg_Mem) : tg_R :=
  if m k 4 = m k0 4 then
    tg_fx (γ := Int → tg_Mem → tg_R) (f_X1_liesAs_B15 k k0) (fun _ _ => none) tg_FU 0 m
  else
    some (0, m)
theorem hy_X1_liesAs : yX1_liesAs.cls = RX1 ∧ yX1_liesAs.cls ≠ "java/lang/invoke/MethodHandle" ∧ yX1_liesAs.cls ≠ "java/lang/invoke/VarHandle" ∧ (parseMethodDescriptor yX1_liesAs.desc).map (fun q => q.parameters.length) = some 1 := by decide +kernel
set_option maxRecDepth 100000 in
set_option maxHeartbeats 4000000 in
theorem k_X1_liesAs {k : Nat} {k0 : Nat} (hk : tg_okG k) (hk0 : tg_okG k0)  (m : tg_Mem) : tg_C yX1_liesAs cX1_liesAs 3 (some .boolean) 2 LX [tr_ k, tr_ k0] (f_X1_liesAs k k0 m) m := by
  refine ta_enter2 (own := RX1) (by decide +kernel) rfl rfl (Nat.le_of_ble_eq_true rfl) rfl (fun E hE => ?_)
  unfold f_X1_liesAs
  refine ta_aloadn hE dX1_liesAs_0 rfl ?_
  refine gf_X1_22 hE dX1_liesAs_1 (hk.1) rfl ?_
  refine ta_aloadn hE dX1_liesAs_4 rfl ?_
  refine gf_X1_22 hE dX1_liesAs_5 (hk0.1) rfl ?_
  refine ta_icmp_eq (tgt := 13) hE dX1_liesAs_8 (by decide) (fun c8 => ?_) (fun c8 => ?_)
  · refine ta_iconst (v := 0) hE dX1_liesAs_13 rfl ⟨by decide, by decide⟩ ?_
    refine ta_istoren (lv2 := [tr_ k, tr_ k0, ti_ 0]) hE dX1_liesAs_14 (Nat.le_of_ble_eq_true rfl) rfl rfl ?_
    have hl15 := ta_fx (γ := Int → tg_Mem → tg_R) (F := (f_X1_liesAs_B15 k k0)) (z := (fun _ _ => none)) (fun J => ∀ (v2_15 : Int) (m_15 : tg_Mem), tg_AW E LX (some .boolean) (J v2_15 m_15) 15 [tr_ k, tr_ k0, ti_ v2_15] [] m_15) (by intros; exact ta_none) (fun self15 hself15 => by
        intro v2_15 m_15
        unfold f_X1_liesAs_B15
        refine ta_iloadn hE dX1_liesAs_15 rfl ?_
        refine ta_aloadn hE dX1_liesAs_16 rfl ?_
        refine gf_X1_22 hE dX1_liesAs_17 (hk.1) rfl ?_
        refine ta_icmp_ge (tgt := 44) hE dX1_liesAs_20 (by decide) (fun c20 => ?_) (fun c20 => ?_)
        · refine ta_iconst (v := 1) hE dX1_liesAs_44 rfl ⟨by decide, by decide⟩ ?_
          exact ta_zret hE dX1_liesAs_45 (Or.inr rfl)
        · refine ta_aloadn hE dX1_liesAs_23 rfl ?_
          refine ta_iloadn hE dX1_liesAs_24 rfl ?_
          refine ta_callV (C := RX1) (T := TX1) (st := []) hE dX1_liesAs_25 (k_X1_pathAt hk v2_15 m_15) ml_X1_36 im_X1_pathAt se_X1_pathAt in_X1 co_X1_pathAt hy_X1_pathAt ⟨Nat.le_of_ble_eq_true rfl, Nat.le_of_ble_eq_true rfl⟩ (hk.1) rfl rfl rfl (fun _ => Nat.le_of_ble_eq_true rfl) (fun r25 m25 hx25 hr25 => ?_)
          change tg_AW E _ _ _ _ _ (ti_ r25 :: _) _
          refine ta_aloadn hE dX1_liesAs_28 rfl ?_
          refine ta_iloadn hE dX1_liesAs_29 rfl ?_
          refine ta_callV (C := RX1) (T := TX1) (st := [ti_ r25]) hE dX1_liesAs_30 (k_X1_pathAt hk0 v2_15 m25) ml_X1_36 im_X1_pathAt se_X1_pathAt in_X1 co_X1_pathAt hy_X1_pathAt ⟨Nat.le_of_ble_eq_true rfl, Nat.le_of_ble_eq_true rfl⟩ (hk0.1) rfl rfl rfl (fun _ => Nat.le_of_ble_eq_true rfl) (fun r30 m30 hx30 hr30 => ?_)
          change tg_AW E _ _ _ _ _ (ti_ r30 :: _) _
          refine ta_icmp_eq (tgt := 38) hE dX1_liesAs_33 (by decide) (fun c33 => ?_) (fun c33 => ?_)
          · refine ta_iincn (lv2 := fun v2_38 => [tr_ k, tr_ k0, ti_ v2_38]) hE dX1_liesAs_38 rfl rfl rfl (fun v2_38 => ?_)
            refine ta_goto (tgt := 15) hE dX1_liesAs_41 (by decide) ?_
            exact (hself15 v2_38 m30)
          · refine ta_iconst (v := 0) hE dX1_liesAs_36 rfl ⟨by decide, by decide⟩ ?_
            exact ta_zret hE dX1_liesAs_37 (Or.inl rfl))
    exact (hl15 tg_FU 0 m)
  · refine ta_iconst (v := 0) hE dX1_liesAs_11 rfl ⟨by decide, by decide⟩ ?_
    exact ta_zret hE dX1_liesAs_12 (Or.inl rfl)
noncomputable def f_X1_standsAs (k : Nat) (k0 : Nat) (m : tg_Mem) : tg_R :=
  tg_ck (0 ≤ 0 ∧ 0 < 2) (
    tg_ck (0 ≤ 0 ∧ 0 < 2) (
      tg_jn (γ := tg_R) (some (0, m)) (fun j34 =>
        if m (k + 1) 0 ≠ m (k0 + 1) 0 then
          j34
        else
          tg_ck (0 ≤ 1 ∧ 1 < 2) (
            tg_ck (0 ≤ 1 ∧ 1 < 2) (
              if m (k + 1) 1 ≠ m (k0 + 1) 1 then
                j34
              else
                some (1, m))))))
theorem hy_X1_standsAs : yX1_standsAs.cls = RX1 ∧ yX1_standsAs.cls ≠ "java/lang/invoke/MethodHandle" ∧ yX1_standsAs.cls ≠ "java/lang/invoke/VarHandle" ∧ (parseMethodDescriptor yX1_standsAs.desc).map (fun q => q.parameters.length) = some 1 := by decide +kernel
set_option maxRecDepth 100000 in
set_option maxHeartbeats 4000000 in
theorem k_X1_standsAs {k : Nat} {k0 : Nat} (hk : tg_okG k) (hk0 : tg_okG k0)  (m : tg_Mem) : tg_C yX1_standsAs cX1_standsAs 2 (some .boolean) 1 LX [tr_ k, tr_ k0] (f_X1_standsAs k k0 m) m := by
  refine ta_enter2 (own := RX1) (by decide +kernel) rfl rfl (Nat.le_of_ble_eq_true rfl) rfl (fun E hE => ?_)
  unfold f_X1_standsAs
  refine ta_aloadn hE dX1_standsAs_0 rfl ?_
  refine gr_X1_9 hE dX1_standsAs_1 (hk.1) rfl ?_
  refine ta_iconst (v := 0) hE dX1_standsAs_4 rfl ⟨by decide, by decide⟩ ?_
  refine ta_iald (n' := 2) hE dX1_standsAs_5 (hk.2.1) rfl (fun _ _ => ?_)
  refine ta_aloadn hE dX1_standsAs_6 rfl ?_
  refine gr_X1_9 hE dX1_standsAs_7 (hk0.1) rfl ?_
  refine ta_iconst (v := 0) hE dX1_standsAs_10 rfl ⟨by decide, by decide⟩ ?_
  refine ta_iald (n' := 2) hE dX1_standsAs_11 (hk0.2.1) rfl (fun _ _ => ?_)
  refine ta_join (γ := tg_R) (fun J => tg_AW E LX (some .boolean) J 34 [tj_, tj_] [] m) ?_ (fun j34 hj34 => ?_)
  · refine ta_iconst (v := 0) hE dX1_standsAs_34 rfl ⟨by decide, by decide⟩ ?_
    exact ta_zret hE dX1_standsAs_35 (Or.inl rfl)
  · refine ta_icmp_ne (tgt := 34) hE dX1_standsAs_12 (by decide) (fun c12 => ?_) (fun c12 => ?_)
    · exact (ta_wk (i := 0) (lv2 := [tj_, tr_ k0]) rfl (ta_wk (i := 1) (lv2 := [tj_, tj_]) rfl hj34))
    · refine ta_aloadn hE dX1_standsAs_15 rfl ?_
      refine gr_X1_9 hE dX1_standsAs_16 (hk.1) rfl ?_
      refine ta_iconst (v := 1) hE dX1_standsAs_19 rfl ⟨by decide, by decide⟩ ?_
      refine ta_iald (n' := 2) hE dX1_standsAs_20 (hk.2.1) rfl (fun _ _ => ?_)
      refine ta_aloadn hE dX1_standsAs_21 rfl ?_
      refine gr_X1_9 hE dX1_standsAs_22 (hk0.1) rfl ?_
      refine ta_iconst (v := 1) hE dX1_standsAs_25 rfl ⟨by decide, by decide⟩ ?_
      refine ta_iald (n' := 2) hE dX1_standsAs_26 (hk0.2.1) rfl (fun _ _ => ?_)
      refine ta_icmp_ne (tgt := 34) hE dX1_standsAs_27 (by decide) (fun c27 => ?_) (fun c27 => ?_)
      · exact (ta_wk (i := 0) (lv2 := [tj_, tr_ k0]) rfl (ta_wk (i := 1) (lv2 := [tj_, tj_]) rfl hj34))
      · refine ta_iconst (v := 1) hE dX1_standsAs_30 rfl ⟨by decide, by decide⟩ ?_
        refine ta_goto (tgt := 35) hE dX1_standsAs_31 (by decide) ?_
        exact ta_zret hE dX1_standsAs_35 (Or.inr rfl)
noncomputable def f_X7_alike  (m : tg_Mem) : tg_R :=
  tg_bd (f_X7_ended 0 m) (fun r2 m2 =>
    tg_bd (f_X7_ended 1 m2) (fun r11 m11 =>
      tg_bd (f_X1_standsAs (r2.toNat + 3) (r11.toNat + 3) m11) (fun r20 m20 =>
        if r20 ≠ 0 then
          tg_bd (f_X1_liesAs (r2.toNat + 3) (r11.toNat + 3) m20) (fun r30 m30 =>
            if r30 = 0 then
              some (2, m30)
            else
              some (1, m30))
        else
          some (0, m20))))
theorem hy_X7_alike : yX7_alike.cls = RX7 ∧ yX7_alike.cls ≠ "java/lang/invoke/MethodHandle" ∧ yX7_alike.cls ≠ "java/lang/invoke/VarHandle" ∧ (parseMethodDescriptor yX7_alike.desc).map (fun q => q.parameters.length) = some 0 := by decide +kernel
set_option maxRecDepth 100000 in
set_option maxHeartbeats 4000000 in
theorem k_X7_alike    (m : tg_Mem) : tg_C yX7_alike cX7_alike 3 (some .int) 7 LX [tr_ 0] (f_X7_alike  m) m := by
  refine ta_enter2 (own := RX7) (by decide +kernel) rfl rfl (Nat.le_of_ble_eq_true rfl) rfl (fun E hE => ?_)
  unfold f_X7_alike
  refine ta_aloadn hE dX7_alike_0 rfl ?_
  refine ta_iconst (v := 0) hE dX7_alike_1 rfl ⟨by decide, by decide⟩ ?_
  refine ta_callV (C := RX7) (T := TX7) (st := []) hE dX7_alike_2 (k_X7_ended 0 m) ml_X7_128 im_X7_ended se_X7_ended in_X7 co_X7_ended hy_X7_ended ⟨Nat.le_of_ble_eq_true rfl, Nat.le_of_ble_eq_true rfl⟩ lx_0 rfl rfl rfl (fun _ => Nat.le_of_ble_eq_true rfl) (fun r2 m2 hx2 hr2 => ?_)
  change tg_AW E _ _ _ _ _ (tr_ r2.toNat :: _) _
  refine gr_X7_140 hE dX7_alike_5 ((ok_X7_ended hx2).1) rfl ?_
  refine ta_astoren (lv2 := [tr_ 0, tr_ (r2.toNat + 3), tj_]) hE dX7_alike_8 (Nat.le_of_ble_eq_true rfl) rfl rfl ?_
  refine ta_aloadn hE dX7_alike_9 rfl ?_
  refine ta_iconst (v := 1) hE dX7_alike_10 rfl ⟨by decide, by decide⟩ ?_
  refine ta_callV (C := RX7) (T := TX7) (st := []) hE dX7_alike_11 (k_X7_ended 1 m2) ml_X7_128 im_X7_ended se_X7_ended in_X7 co_X7_ended hy_X7_ended ⟨Nat.le_of_ble_eq_true rfl, Nat.le_of_ble_eq_true rfl⟩ lx_0 rfl rfl rfl (fun _ => Nat.le_of_ble_eq_true rfl) (fun r11 m11 hx11 hr11 => ?_)
  change tg_AW E _ _ _ _ _ (tr_ r11.toNat :: _) _
  refine gr_X7_140 hE dX7_alike_14 ((ok_X7_ended hx11).1) rfl ?_
  refine ta_astoren (lv2 := [tr_ 0, tr_ (r2.toNat + 3), tr_ (r11.toNat + 3)]) hE dX7_alike_17 (Nat.le_of_ble_eq_true rfl) rfl rfl ?_
  refine ta_aloadn hE dX7_alike_18 rfl ?_
  refine ta_aloadn hE dX7_alike_19 rfl ?_
  refine ta_callV (C := RX1) (T := TX1) (st := []) hE dX7_alike_20 (k_X1_standsAs ((ok_X7_ended hx2).2.2.1) ((ok_X7_ended hx11).2.2.1) m11) ml_X7_175 im_X1_standsAs se_X1_standsAs in_X1 co_X1_standsAs hy_X1_standsAs ⟨Nat.le_of_ble_eq_true rfl, Nat.le_of_ble_eq_true rfl⟩ ((ok_X7_ended hx2).2.2.1.1) rfl rfl rfl (fun _ => Nat.le_of_ble_eq_true rfl) (fun r20 m20 hx20 hr20 => ?_)
  change tg_AW E _ _ _ _ _ (ti_ r20 :: _) _
  refine ta_if_ne (tgt := 28) hE dX7_alike_23 (by decide) (fun c23 => ?_) (fun c23 => ?_)
  · refine ta_aloadn hE dX7_alike_28 rfl ?_
    refine ta_aloadn hE dX7_alike_29 rfl ?_
    refine ta_callV (C := RX1) (T := TX1) (st := []) hE dX7_alike_30 (k_X1_liesAs ((ok_X7_ended hx2).2.2.1) ((ok_X7_ended hx11).2.2.1) m20) ml_X7_179 im_X1_liesAs se_X1_liesAs in_X1 co_X1_liesAs hy_X1_liesAs ⟨Nat.le_of_ble_eq_true rfl, Nat.le_of_ble_eq_true rfl⟩ ((ok_X7_ended hx2).2.2.1.1) rfl rfl rfl (fun _ => Nat.le_of_ble_eq_true rfl) (fun r30 m30 hx30 hr30 => ?_)
    change tg_AW E _ _ _ _ _ (ti_ r30 :: _) _
    refine ta_if_eq (tgt := 40) hE dX7_alike_33 (by decide) (fun c33 => ?_) (fun c33 => ?_)
    · refine ta_iconst (v := 2) hE dX7_alike_40 rfl ⟨by decide, by decide⟩ ?_
      exact ta_iret hE dX7_alike_41
    · refine ta_iconst (v := 1) hE dX7_alike_36 rfl ⟨by decide, by decide⟩ ?_
      refine ta_goto (tgt := 41) hE dX7_alike_37 (by decide) ?_
      exact ta_iret hE dX7_alike_41
  · refine ta_iconst (v := 0) hE dX7_alike_26 rfl ⟨by decide, by decide⟩ ?_
    exact ta_iret hE dX7_alike_27
noncomputable def f_X4_renew (k : Nat) (a0 : Int) (a1 : Int) (m : tg_Mem) : tg_R :=
  tg_bd (f_J7_fill_53178 (k + 1) 60 0 m) (fun _ m5 =>
    tg_lt (tg_up m5 k 1 a0) (fun m10 =>
      tg_lt (tg_up m10 k 2 a1) (fun m15 =>
        some (0, m15))))
theorem hy_X4_renew : yX4_renew.cls = RX4 ∧ yX4_renew.cls ≠ "java/lang/invoke/MethodHandle" ∧ yX4_renew.cls ≠ "java/lang/invoke/VarHandle" ∧ (parseMethodDescriptor yX4_renew.desc).map (fun q => q.parameters.length) = some 2 := by decide +kernel
set_option maxRecDepth 100000 in
set_option maxHeartbeats 4000000 in
theorem k_X4_renew {k : Nat} (hk : tg_okS k) (a0 : Int) (a1 : Int) (m : tg_Mem) : tg_C yX4_renew cX4_renew 3 none 2 LX [tr_ k, ti_ a0, ti_ a1] (f_X4_renew k a0 a1 m) m := by
  refine ta_enter2 (own := RX4) (by decide +kernel) rfl rfl (Nat.le_of_ble_eq_true rfl) rfl (fun E hE => ?_)
  unfold f_X4_renew
  refine ta_aloadn hE dX4_renew_0 rfl ?_
  refine gr_X4_9 hE dX4_renew_1 (hk.1) rfl ?_
  refine ta_iconst (v := 0) hE dX4_renew_4 rfl ⟨by decide, by decide⟩ ?_
  refine ta_callS (st := []) hE dX4_renew_5 (k_J7_fill_53178 (hk.2) (by decide) 0 m) ml_X4_22 st_J7_fill_53178 in_J7 co_J7_fill_53178 hy_J7_fill_53178.2 ⟨Nat.le_of_ble_eq_true rfl, Nat.le_of_ble_eq_true rfl⟩ rfl rfl (fun _ => Nat.le_of_ble_eq_true rfl) (fun r5 m5 hx5 hr5 => ?_)
  change tg_AW E _ _ _ _ _ [] _
  refine ta_aloadn hE dX4_renew_8 rfl ?_
  refine ta_iloadn hE dX4_renew_9 rfl ?_
  refine pf_X4_15 hE dX4_renew_10 (hk.1) rfl ?_
  refine ta_nmm (fun m10 => ?_)
  refine ta_aloadn hE dX4_renew_13 rfl ?_
  refine ta_iloadn hE dX4_renew_14 rfl ?_
  refine pf_X4_19 hE dX4_renew_15 (hk.1) rfl ?_
  refine ta_nmm (fun m15 => ?_)
  exact ta_vret hE dX4_renew_18
noncomputable def f_X7_sheet (a0 : Int) (a1 : Int) (a2 : Int) (m : tg_Mem) : tg_R :=
  tg_bd (f_X7_isBelow a0 4 m) (fun r2 m2 =>
    if r2 = 0 then
      some ((-2), m2)
    else
      tg_bd (f_X7_isBelow a1 3 m2) (fun r10 m10 =>
        if r10 = 0 then
          some ((-2), m10)
        else
          if a2 ≤ 60 then
            if 0 ≤ a2 then
              tg_ck (0 ≤ a0 ∧ a0 < 4) (
                tg_bd (f_X4_renew (tg_sh a0) a1 a2 m10) (fun _ m43 =>
                  some (a2, m43)))
            else
              tg_bd (f_X7_found 5 m10) (fun r31 m31 =>
                some (r31, m31))
          else
            some ((-2), m10)))
theorem hy_X7_sheet : yX7_sheet.cls = RX7 ∧ yX7_sheet.cls ≠ "java/lang/invoke/MethodHandle" ∧ yX7_sheet.cls ≠ "java/lang/invoke/VarHandle" ∧ (parseMethodDescriptor yX7_sheet.desc).map (fun q => q.parameters.length) = some 3 := by decide +kernel
set_option maxRecDepth 100000 in
set_option maxHeartbeats 4000000 in
theorem k_X7_sheet   (a0 : Int) (a1 : Int) (a2 : Int) (m : tg_Mem) : tg_C yX7_sheet cX7_sheet 4 (some .int) 3 LX [tr_ 0, ti_ a0, ti_ a1, ti_ a2] (f_X7_sheet a0 a1 a2 m) m := by
  refine ta_enter2 (own := RX7) (by decide +kernel) rfl rfl (Nat.le_of_ble_eq_true rfl) rfl (fun E hE => ?_)
  unfold f_X7_sheet
  refine ta_iloadn hE dX7_sheet_0 rfl ?_
  refine ta_iconst (v := 4) hE dX7_sheet_1 rfl ⟨by decide, by decide⟩ ?_
  refine ta_callS (st := []) hE dX7_sheet_2 (k_X7_isBelow a0 4 m) ml_X7_60 st_X7_isBelow in_X7 co_X7_isBelow hy_X7_isBelow.2 ⟨Nat.le_of_ble_eq_true rfl, Nat.le_of_ble_eq_true rfl⟩ rfl rfl (fun _ => Nat.le_of_ble_eq_true rfl) (fun r2 m2 hx2 hr2 => ?_)
  change tg_AW E _ _ _ _ _ (ti_ r2 :: _) _
  refine ta_if_eq (tgt := 22) hE dX7_sheet_5 (by decide) (fun c5 => ?_) (fun c5 => ?_)
  · refine bp_n2 hE dX7_sheet_22 ?_
    exact ta_iret hE dX7_sheet_24
  · refine ta_iloadn hE dX7_sheet_8 rfl ?_
    refine ta_iconst (v := 3) hE dX7_sheet_9 rfl ⟨by decide, by decide⟩ ?_
    refine ta_callS (st := []) hE dX7_sheet_10 (k_X7_isBelow a1 3 m2) ml_X7_60 st_X7_isBelow in_X7 co_X7_isBelow hy_X7_isBelow.2 ⟨Nat.le_of_ble_eq_true rfl, Nat.le_of_ble_eq_true rfl⟩ rfl rfl (fun _ => Nat.le_of_ble_eq_true rfl) (fun r10 m10 hx10 hr10 => ?_)
    change tg_AW E _ _ _ _ _ (ti_ r10 :: _) _
    refine ta_if_eq (tgt := 22) hE dX7_sheet_13 (by decide) (fun c13 => ?_) (fun c13 => ?_)
    · refine bp_n2 hE dX7_sheet_22 ?_
      exact ta_iret hE dX7_sheet_24
    · refine ta_iloadn hE dX7_sheet_16 rfl ?_
      refine bp_60 hE dX7_sheet_17 ?_
      refine ta_icmp_le (tgt := 25) hE dX7_sheet_19 (by decide) (fun c19 => ?_) (fun c19 => ?_)
      · refine ta_iloadn hE dX7_sheet_25 rfl ?_
        refine ta_if_ge (tgt := 35) hE dX7_sheet_26 (by decide) (fun c26 => ?_) (fun c26 => ?_)
        · refine ta_aloadn hE dX7_sheet_35 rfl ?_
          refine gr_X7_51 hE dX7_sheet_36 lx_0 rfl ?_
          refine ta_iloadn hE dX7_sheet_39 rfl ?_
          refine ta_aald (n' := 4) hE dX7_sheet_40 lx_39 rfl rfl (fun h40a h40b => ?_)
          change tg_AW E _ _ _ _ _ (tr_ (tg_sh a0) :: _) _
          refine ta_iloadn hE dX7_sheet_41 rfl ?_
          refine ta_iloadn hE dX7_sheet_42 rfl ?_
          refine ta_callV (C := RX4) (T := TX4) (st := []) hE dX7_sheet_43 (k_X4_renew (ok_sh h40a h40b) a1 a2 m10) ml_X7_182 im_X4_renew se_X4_renew in_X4 co_X4_renew hy_X4_renew ⟨Nat.le_of_ble_eq_true rfl, Nat.le_of_ble_eq_true rfl⟩ ((ok_sh h40a h40b).1) rfl rfl rfl (fun _ => Nat.le_of_ble_eq_true rfl) (fun r43 m43 hx43 hr43 => ?_)
          change tg_AW E _ _ _ _ _ [] _
          refine ta_iloadn hE dX7_sheet_46 rfl ?_
          exact ta_iret hE dX7_sheet_47
        · refine ta_aloadn hE dX7_sheet_29 rfl ?_
          refine ta_iconst (v := 5) hE dX7_sheet_30 rfl ⟨by decide, by decide⟩ ?_
          refine ta_callV (C := RX7) (T := TX7) (st := []) hE dX7_sheet_31 (k_X7_found 5 m10) ml_X7_113 im_X7_found se_X7_found in_X7 co_X7_found hy_X7_found ⟨Nat.le_of_ble_eq_true rfl, Nat.le_of_ble_eq_true rfl⟩ lx_0 rfl rfl rfl (fun _ => Nat.le_of_ble_eq_true rfl) (fun r31 m31 hx31 hr31 => ?_)
          change tg_AW E _ _ _ _ _ (ti_ r31 :: _) _
          exact ta_iret hE dX7_sheet_34
      · refine bp_n2 hE dX7_sheet_22 ?_
        exact ta_iret hE dX7_sheet_24
noncomputable def f_X7_lose (a0 : Int) (m : tg_Mem) : tg_R :=
  tg_bd (f_X7_isBelow a0 4 m) (fun r2 m2 =>
    if r2 ≠ 0 then
      tg_ck (0 ≤ a0 ∧ a0 < 4) (
        if m2 (tg_sh a0) 1 ≠ (-1) then
          tg_lt (m2 (tg_sh a0) 2) (fun v3_36 =>
            tg_bd (f_X4_renew (tg_sh a0) (-1) 0 m2) (fun _ m40 =>
              some (v3_36, m40)))
        else
          tg_bd (f_X7_found 1 m2) (fun r28 m28 =>
            some (r28, m28)))
    else
      some ((-2), m2))
theorem hy_X7_lose : yX7_lose.cls = RX7 ∧ yX7_lose.cls ≠ "java/lang/invoke/MethodHandle" ∧ yX7_lose.cls ≠ "java/lang/invoke/VarHandle" ∧ (parseMethodDescriptor yX7_lose.desc).map (fun q => q.parameters.length) = some 1 := by decide +kernel
set_option maxRecDepth 100000 in
set_option maxHeartbeats 4000000 in
theorem k_X7_lose   (a0 : Int) (m : tg_Mem) : tg_C yX7_lose cX7_lose 4 (some .int) 3 LX [tr_ 0, ti_ a0] (f_X7_lose a0 m) m := by
  refine ta_enter2 (own := RX7) (by decide +kernel) rfl rfl (Nat.le_of_ble_eq_true rfl) rfl (fun E hE => ?_)
  unfold f_X7_lose
  refine ta_iloadn hE dX7_lose_0 rfl ?_
  refine ta_iconst (v := 4) hE dX7_lose_1 rfl ⟨by decide, by decide⟩ ?_
  refine ta_callS (st := []) hE dX7_lose_2 (k_X7_isBelow a0 4 m) ml_X7_60 st_X7_isBelow in_X7 co_X7_isBelow hy_X7_isBelow.2 ⟨Nat.le_of_ble_eq_true rfl, Nat.le_of_ble_eq_true rfl⟩ rfl rfl (fun _ => Nat.le_of_ble_eq_true rfl) (fun r2 m2 hx2 hr2 => ?_)
  change tg_AW E _ _ _ _ _ (ti_ r2 :: _) _
  refine ta_if_ne (tgt := 11) hE dX7_lose_5 (by decide) (fun c5 => ?_) (fun c5 => ?_)
  · refine ta_aloadn hE dX7_lose_11 rfl ?_
    refine gr_X7_51 hE dX7_lose_12 lx_0 rfl ?_
    refine ta_iloadn hE dX7_lose_15 rfl ?_
    refine ta_aald (n' := 4) hE dX7_lose_16 lx_39 rfl rfl (fun h16a h16b => ?_)
    change tg_AW E _ _ _ _ _ (tr_ (tg_sh a0) :: _) _
    refine ta_astoren (lv2 := [tr_ 0, ti_ a0, tr_ (tg_sh a0), tj_]) hE dX7_lose_17 (Nat.le_of_ble_eq_true rfl) rfl rfl ?_
    refine ta_aloadn hE dX7_lose_18 rfl ?_
    refine gf_X7_110 hE dX7_lose_19 ((ok_sh h16a h16b).1) rfl ?_
    refine ta_iconst (v := (-1)) hE dX7_lose_22 rfl ⟨by decide, by decide⟩ ?_
    refine ta_icmp_ne (tgt := 32) hE dX7_lose_23 (by decide) (fun c23 => ?_) (fun c23 => ?_)
    · refine ta_aloadn hE dX7_lose_32 rfl ?_
      refine gf_X7_121 hE dX7_lose_33 ((ok_sh h16a h16b).1) rfl ?_
      refine ta_nmi (fun v3_36 => ?_)
      refine ta_istoren (lv2 := [tr_ 0, ti_ a0, tr_ (tg_sh a0), ti_ v3_36]) hE dX7_lose_36 (Nat.le_of_ble_eq_true rfl) rfl rfl ?_
      refine ta_aloadn hE dX7_lose_37 rfl ?_
      refine ta_iconst (v := (-1)) hE dX7_lose_38 rfl ⟨by decide, by decide⟩ ?_
      refine ta_iconst (v := 0) hE dX7_lose_39 rfl ⟨by decide, by decide⟩ ?_
      refine ta_callV (C := RX4) (T := TX4) (st := []) hE dX7_lose_40 (k_X4_renew (ok_sh h16a h16b) (-1) 0 m2) ml_X7_182 im_X4_renew se_X4_renew in_X4 co_X4_renew hy_X4_renew ⟨Nat.le_of_ble_eq_true rfl, Nat.le_of_ble_eq_true rfl⟩ ((ok_sh h16a h16b).1) rfl rfl rfl (fun _ => Nat.le_of_ble_eq_true rfl) (fun r40 m40 hx40 hr40 => ?_)
      change tg_AW E _ _ _ _ _ [] _
      refine ta_iloadn hE dX7_lose_43 rfl ?_
      exact ta_iret hE dX7_lose_44
    · refine ta_aloadn hE dX7_lose_26 rfl ?_
      refine ta_iconst (v := 1) hE dX7_lose_27 rfl ⟨by decide, by decide⟩ ?_
      refine ta_callV (C := RX7) (T := TX7) (st := []) hE dX7_lose_28 (k_X7_found 1 m2) ml_X7_113 im_X7_found se_X7_found in_X7 co_X7_found hy_X7_found ⟨Nat.le_of_ble_eq_true rfl, Nat.le_of_ble_eq_true rfl⟩ lx_0 rfl rfl rfl (fun _ => Nat.le_of_ble_eq_true rfl) (fun r28 m28 hx28 hr28 => ?_)
      change tg_AW E _ _ _ _ _ (ti_ r28 :: _) _
      exact ta_iret hE dX7_lose_31
  · refine bp_n2 hE dX7_lose_8 ?_
    exact ta_iret hE dX7_lose_10
noncomputable def f_X4_findsAt (k : Nat) (a0 : Int) (a1 : Int) (m : tg_Mem) : tg_R :=
  if m k 1 ≠ (-1) then
    if m k 1 = a0 then
      tg_bd (f_X7_isBelow a1 (m k 2) m) (fun r25 m25 =>
        if r25 = 0 then
          some (2, m25)
        else
          some (0, m25))
    else
      some (3, m)
  else
    some (1, m)
theorem hy_X4_findsAt : yX4_findsAt.cls = RX4 ∧ yX4_findsAt.cls ≠ "java/lang/invoke/MethodHandle" ∧ yX4_findsAt.cls ≠ "java/lang/invoke/VarHandle" ∧ (parseMethodDescriptor yX4_findsAt.desc).map (fun q => q.parameters.length) = some 2 := by decide +kernel
set_option maxRecDepth 100000 in
set_option maxHeartbeats 4000000 in
theorem k_X4_findsAt {k : Nat} (hk : tg_okS k) (a0 : Int) (a1 : Int) (m : tg_Mem) : tg_C yX4_findsAt cX4_findsAt 3 (some .int) 2 LX [tr_ k, ti_ a0, ti_ a1] (f_X4_findsAt k a0 a1 m) m := by
  refine ta_enter2 (own := RX4) (by decide +kernel) rfl rfl (Nat.le_of_ble_eq_true rfl) rfl (fun E hE => ?_)
  unfold f_X4_findsAt
  refine ta_aloadn hE dX4_findsAt_0 rfl ?_
  refine gf_X4_15 hE dX4_findsAt_1 (hk.1) rfl ?_
  refine ta_iconst (v := (-1)) hE dX4_findsAt_4 rfl ⟨by decide, by decide⟩ ?_
  refine ta_icmp_ne (tgt := 10) hE dX4_findsAt_5 (by decide) (fun c5 => ?_) (fun c5 => ?_)
  · refine ta_aloadn hE dX4_findsAt_10 rfl ?_
    refine gf_X4_15 hE dX4_findsAt_11 (hk.1) rfl ?_
    refine ta_iloadn hE dX4_findsAt_14 rfl ?_
    refine ta_icmp_eq (tgt := 20) hE dX4_findsAt_15 (by decide) (fun c15 => ?_) (fun c15 => ?_)
    · refine ta_iloadn hE dX4_findsAt_20 rfl ?_
      refine ta_aloadn hE dX4_findsAt_21 rfl ?_
      refine gf_X4_19 hE dX4_findsAt_22 (hk.1) rfl ?_
      refine ta_callN (host := RX7) (st := []) hE dX4_findsAt_25 (k_X7_isBelow a1 (m k 2) m) nn_X4_28 st_X7_isBelow in_X7 co_X7_isBelow hy_X7_isBelow.2 ⟨Nat.le_of_ble_eq_true rfl, Nat.le_of_ble_eq_true rfl⟩ rfl rfl (fun _ => Nat.le_of_ble_eq_true rfl) (fun r25 m25 hx25 hr25 => ?_)
      change tg_AW E _ _ _ _ _ (ti_ r25 :: _) _
      refine ta_if_eq (tgt := 35) hE dX4_findsAt_28 (by decide) (fun c28 => ?_) (fun c28 => ?_)
      · refine ta_iconst (v := 2) hE dX4_findsAt_35 rfl ⟨by decide, by decide⟩ ?_
        exact ta_iret hE dX4_findsAt_36
      · refine ta_iconst (v := 0) hE dX4_findsAt_31 rfl ⟨by decide, by decide⟩ ?_
        refine ta_goto (tgt := 36) hE dX4_findsAt_32 (by decide) ?_
        exact ta_iret hE dX4_findsAt_36
    · refine ta_iconst (v := 3) hE dX4_findsAt_18 rfl ⟨by decide, by decide⟩ ?_
      exact ta_iret hE dX4_findsAt_19
  · refine ta_iconst (v := 1) hE dX4_findsAt_8 rfl ⟨by decide, by decide⟩ ?_
    exact ta_iret hE dX4_findsAt_9
