noncomputable def f_X1_pathAt (k : Nat) (a0 : Int) (m : tg_Mem) : tg_R :=
  tg_jn (γ := tg_R) (some ((-1), m)) (fun j29 =>
    if a0 < 0 then
      j29
    else
      if m k 4 ≤ a0 then
        j29
      else
        tg_ck (0 ≤ tg_iand (tg_wi ((m k 3) + a0)) 63 ∧ tg_iand (tg_wi ((m k 3) + a0)) 63 < 64) (
          some (m (k + 2) (tg_iand (tg_wi ((m k 3) + a0)) 63).toNat, m)))
theorem hy_X1_pathAt : yX1_pathAt.cls = RX1 ∧ yX1_pathAt.cls ≠ "java/lang/invoke/MethodHandle" ∧ yX1_pathAt.cls ≠ "java/lang/invoke/VarHandle" ∧ (parseMethodDescriptor yX1_pathAt.desc).map (fun q => q.parameters.length) = some 1 := by decide +kernel
set_option maxRecDepth 100000 in
set_option maxHeartbeats 4000000 in
theorem k_X1_pathAt {k : Nat} (hk : tg_okG k) (a0 : Int) (m : tg_Mem) : tg_C yX1_pathAt cX1_pathAt 2 (some .int) 1 LX [tr_ k, ti_ a0] (f_X1_pathAt k a0 m) m := by
  refine ta_enter2 (own := RX1) (by decide +kernel) rfl rfl (Nat.le_of_ble_eq_true rfl) rfl (fun E hE => ?_)
  unfold f_X1_pathAt
  refine ta_iloadn hE dX1_pathAt_0 rfl ?_
  refine ta_join (γ := tg_R) (fun J => tg_AW E LX (some .int) J 29 [tj_, tj_] [] m) ?_ (fun j29 hj29 => ?_)
  · refine ta_iconst (v := (-1)) hE dX1_pathAt_29 rfl ⟨by decide, by decide⟩ ?_
    exact ta_iret hE dX1_pathAt_30
  · refine ta_if_lt (tgt := 29) hE dX1_pathAt_1 (by decide) (fun c1 => ?_) (fun c1 => ?_)
    · exact (ta_wk (i := 0) (lv2 := [tj_, ti_ a0]) rfl (ta_wk (i := 1) (lv2 := [tj_, tj_]) rfl hj29))
    · refine ta_iloadn hE dX1_pathAt_4 rfl ?_
      refine ta_aloadn hE dX1_pathAt_5 rfl ?_
      refine gf_X1_22 hE dX1_pathAt_6 (hk.1) rfl ?_
      refine ta_icmp_ge (tgt := 29) hE dX1_pathAt_9 (by decide) (fun c9 => ?_) (fun c9 => ?_)
      · exact (ta_wk (i := 0) (lv2 := [tj_, ti_ a0]) rfl (ta_wk (i := 1) (lv2 := [tj_, tj_]) rfl hj29))
      · refine ta_aloadn hE dX1_pathAt_12 rfl ?_
        refine gr_X1_15 hE dX1_pathAt_13 (hk.1) rfl ?_
        refine ta_aloadn hE dX1_pathAt_16 rfl ?_
        refine gf_X1_18 hE dX1_pathAt_17 (hk.1) rfl ?_
        refine ta_iloadn hE dX1_pathAt_20 rfl ?_
        refine ta_iadd hE dX1_pathAt_21 ?_
        refine bp_63 hE dX1_pathAt_22 ?_
        refine ta_iand hE dX1_pathAt_24 ?_
        refine ta_iald (n' := 64) hE dX1_pathAt_25 (hk.2.2) rfl (fun _ _ => ?_)
        refine ta_goto (tgt := 30) hE dX1_pathAt_26 (by decide) ?_
        exact ta_iret hE dX1_pathAt_30
noncomputable def f_X7_rope (a0 : Int) (a1 : Int) (a2 : Int) (m : tg_Mem) : tg_R :=
  tg_bd (f_X7_isBelow a0 2 m) (fun r2 m2 =>
    if r2 = 0 then
      some ((-2), m2)
    else
      if a1 < 0 then
        some ((-2), m2)
      else
        if 0 ≤ a2 then
          tg_bd (f_X7_dayOf a0 m2) (fun r21 m21 =>
            tg_bd (f_X0_walk (r21.toNat) a1 m21) (fun _ m29 =>
              if a1 ≤ m29 (r21.toNat) 7 then
                tg_bd (f_X1_pathAt (r21.toNat + 3) a2 m29) (fun r52 m52 =>
                  some (r52, m52))
              else
                some ((-2), m29)))
        else
          some ((-2), m2))
theorem hy_X7_rope : yX7_rope.cls = RX7 ∧ yX7_rope.cls ≠ "java/lang/invoke/MethodHandle" ∧ yX7_rope.cls ≠ "java/lang/invoke/VarHandle" ∧ (parseMethodDescriptor yX7_rope.desc).map (fun q => q.parameters.length) = some 3 := by decide +kernel
set_option maxRecDepth 100000 in
set_option maxHeartbeats 4000000 in
theorem k_X7_rope   (a0 : Int) (a1 : Int) (a2 : Int) (m : tg_Mem) : tg_C yX7_rope cX7_rope 5 (some .int) 6 LX [tr_ 0, ti_ a0, ti_ a1, ti_ a2] (f_X7_rope a0 a1 a2 m) m := by
  refine ta_enter2 (own := RX7) (by decide +kernel) rfl rfl (Nat.le_of_ble_eq_true rfl) rfl (fun E hE => ?_)
  unfold f_X7_rope
  refine ta_iloadn hE dX7_rope_0 rfl ?_
  refine ta_iconst (v := 2) hE dX7_rope_1 rfl ⟨by decide, by decide⟩ ?_
  refine ta_callS (st := []) hE dX7_rope_2 (k_X7_isBelow a0 2 m) ml_X7_60 st_X7_isBelow in_X7 co_X7_isBelow hy_X7_isBelow.2 ⟨Nat.le_of_ble_eq_true rfl, Nat.le_of_ble_eq_true rfl⟩ rfl rfl (fun _ => Nat.le_of_ble_eq_true rfl) (fun r2 m2 hx2 hr2 => ?_)
  change tg_AW E _ _ _ _ _ (ti_ r2 :: _) _
  refine ta_if_eq (tgt := 16) hE dX7_rope_5 (by decide) (fun c5 => ?_) (fun c5 => ?_)
  · refine bp_n2 hE dX7_rope_16 ?_
    exact ta_iret hE dX7_rope_18
  · refine ta_iloadn hE dX7_rope_8 rfl ?_
    refine ta_if_lt (tgt := 16) hE dX7_rope_9 (by decide) (fun c9 => ?_) (fun c9 => ?_)
    · refine bp_n2 hE dX7_rope_16 ?_
      exact ta_iret hE dX7_rope_18
    · refine ta_iloadn hE dX7_rope_12 rfl ?_
      refine ta_if_ge (tgt := 19) hE dX7_rope_13 (by decide) (fun c13 => ?_) (fun c13 => ?_)
      · refine ta_aloadn hE dX7_rope_19 rfl ?_
        refine ta_iloadn hE dX7_rope_20 rfl ?_
        refine ta_callV (C := RX7) (T := TX7) (st := []) hE dX7_rope_21 (k_X7_dayOf a0 m2) ml_X7_90 im_X7_dayOf se_X7_dayOf in_X7 co_X7_dayOf hy_X7_dayOf ⟨Nat.le_of_ble_eq_true rfl, Nat.le_of_ble_eq_true rfl⟩ lx_0 rfl rfl rfl (fun _ => Nat.le_of_ble_eq_true rfl) (fun r21 m21 hx21 hr21 => ?_)
        change tg_AW E _ _ _ _ _ (tr_ r21.toNat :: _) _
        refine ta_astore (lv2 := [tr_ 0, ti_ a0, ti_ a1, ti_ a2, tr_ (r21.toNat)]) hE dX7_rope_24 (Nat.le_of_ble_eq_true rfl) rfl rfl ?_
        refine ta_aload hE dX7_rope_26 rfl ?_
        refine ta_iloadn hE dX7_rope_28 rfl ?_
        refine ta_callV (C := RX0) (T := TX0) (st := []) hE dX7_rope_29 (k_X0_walk (ok_X7_dayOf hx21) a1 m21) ml_X7_134 im_X0_walk se_X0_walk in_X0 co_X0_walk hy_X0_walk ⟨Nat.le_of_ble_eq_true rfl, Nat.le_of_ble_eq_true rfl⟩ ((ok_X7_dayOf hx21).1) rfl rfl rfl (fun _ => Nat.le_of_ble_eq_true rfl) (fun r29 m29 hx29 hr29 => ?_)
        change tg_AW E _ _ _ _ _ [] _
        refine ta_aload hE dX7_rope_32 rfl ?_
        refine gf_X7_131 hE dX7_rope_34 ((ok_X7_dayOf hx21).1) rfl ?_
        refine ta_iloadn hE dX7_rope_37 rfl ?_
        refine ta_icmp_ge (tgt := 46) hE dX7_rope_38 (by decide) (fun c38 => ?_) (fun c38 => ?_)
        · refine ta_aload hE dX7_rope_46 rfl ?_
          refine gr_X7_140 hE dX7_rope_48 ((ok_X7_dayOf hx21).1) rfl ?_
          refine ta_iloadn hE dX7_rope_51 rfl ?_
          refine ta_callV (C := RX1) (T := TX1) (st := []) hE dX7_rope_52 (k_X1_pathAt ((ok_X7_dayOf hx21).2.2.1) a2 m29) ml_X7_143 im_X1_pathAt se_X1_pathAt in_X1 co_X1_pathAt hy_X1_pathAt ⟨Nat.le_of_ble_eq_true rfl, Nat.le_of_ble_eq_true rfl⟩ ((ok_X7_dayOf hx21).2.2.1.1) rfl rfl rfl (fun _ => Nat.le_of_ble_eq_true rfl) (fun r52 m52 hx52 hr52 => ?_)
          change tg_AW E _ _ _ _ _ (ti_ r52 :: _) _
          exact ta_iret hE dX7_rope_55
        · refine bp_n2 hE dX7_rope_41 ?_
          refine ta_goto (tgt := 55) hE dX7_rope_43 (by decide) ?_
          exact ta_iret hE dX7_rope_55
      · refine bp_n2 hE dX7_rope_16 ?_
        exact ta_iret hE dX7_rope_18
noncomputable def f_X0_longestUnbound_B15 (k : Nat) (j60 : Int → tg_Mem → tg_R) (self15 : Int → Int → tg_Mem → tg_R) (v1_15 : Int) (v2_15 : Int) (m_15 : tg_Mem) : tg_R :=
  if m_15 (k + 1) 1 ≤ v2_15 then
    some (v1_15, m_15)
  else
    tg_bd (f_X5_byteAt (k + 1) v2_15 m_15) (fun r31 m31 =>
      tg_bd (f_X7_codeOfByte r31 m31) (fun r34 m34 =>
        if r34 = (-1) then
          some (v1_15, m34)
        else
          tg_bd (f_X1_canGo (k + 3) (tg_ishr r34 3) (tg_iand r34 7) m34) (fun r54 m54 =>
            if r54 ≠ 0 then
              tg_bd (f_X1_go (k + 3) (tg_ishr r34 3) (tg_iand r34 7) m54) (fun _ m74 =>
                tg_lt (tg_max v1_15 (m74 (k + 3) 5)) (fun v1_88 =>
                  tg_lt (tg_wi (v2_15 + 1)) (fun v2_89 =>
                    self15 v1_88 v2_89 m74)))
            else
              j60 v1_15 m54)))
noncomputable def f_X0_longestUnbound (k : Nat) (m : tg_Mem) : tg_R :=
  tg_bd (f_X1_standBoth (k + 3) (m k 5) m) (fun _ m8 =>
    tg_jn (γ := Int → tg_Mem → tg_R) (fun (v1_60 : Int) (m_60 : tg_Mem) => some (v1_60, m_60)) (fun j60 =>
      tg_fx (γ := Int → Int → tg_Mem → tg_R) (f_X0_longestUnbound_B15 k j60) (fun _ _ _ => none) tg_FU 0 0 m8))
theorem hy_X0_longestUnbound : yX0_longestUnbound.cls = RX0 ∧ yX0_longestUnbound.cls ≠ "java/lang/invoke/MethodHandle" ∧ yX0_longestUnbound.cls ≠ "java/lang/invoke/VarHandle" ∧ (parseMethodDescriptor yX0_longestUnbound.desc).map (fun q => q.parameters.length) = some 0 := by decide +kernel
set_option maxRecDepth 100000 in
set_option maxHeartbeats 4000000 in
theorem k_X0_longestUnbound {k : Nat} (hk : tg_okD k)  (m : tg_Mem) : tg_C yX0_longestUnbound cX0_longestUnbound 4 (some .int) 3 LX [tr_ k] (f_X0_longestUnbound k m) m := by
  refine ta_enter2 (own := RX0) (by decide +kernel) rfl rfl (Nat.le_of_ble_eq_true rfl) rfl (fun E hE => ?_)
  unfold f_X0_longestUnbound
  refine ta_aloadn hE dX0_longestUnbound_0 rfl ?_
  refine gr_X0_44 hE dX0_longestUnbound_1 (hk.1) rfl ?_
  refine ta_aloadn hE dX0_longestUnbound_4 rfl ?_
  refine gf_X0_25 hE dX0_longestUnbound_5 (hk.1) rfl ?_
  refine ta_callV (C := RX1) (T := TX1) (st := []) hE dX0_longestUnbound_8 (k_X1_standBoth (hk.2.2.1) (m k 5) m) ml_X0_48 im_X1_standBoth se_X1_standBoth in_X1 co_X1_standBoth hy_X1_standBoth ⟨Nat.le_of_ble_eq_true rfl, Nat.le_of_ble_eq_true rfl⟩ (hk.2.2.1.1) rfl rfl rfl (fun _ => Nat.le_of_ble_eq_true rfl) (fun r8 m8 hx8 hr8 => ?_)
  change tg_AW E _ _ _ _ _ [] _
  refine ta_iconst (v := 0) hE dX0_longestUnbound_11 rfl ⟨by decide, by decide⟩ ?_
  refine ta_istoren (lv2 := [tr_ k, ti_ 0, tj_, tj_]) hE dX0_longestUnbound_12 (Nat.le_of_ble_eq_true rfl) rfl rfl ?_
  refine ta_iconst (v := 0) hE dX0_longestUnbound_13 rfl ⟨by decide, by decide⟩ ?_
  refine ta_istoren (lv2 := [tr_ k, ti_ 0, ti_ 0, tj_]) hE dX0_longestUnbound_14 (Nat.le_of_ble_eq_true rfl) rfl rfl ?_
  refine ta_join (γ := Int → tg_Mem → tg_R) (fun J => ∀ (v1_60 : Int) (m_60 : tg_Mem), tg_AW E LX (some .int) (J v1_60 m_60) 60 [tj_, ti_ v1_60, tj_, tj_] [] m_60) ?_ (fun j60 hj60 => ?_)
  · intro v1_60 m_60
    refine ta_goto (tgt := 95) hE dX0_longestUnbound_60 (by decide) ?_
    refine ta_iloadn hE dX0_longestUnbound_95 rfl ?_
    exact ta_iret hE dX0_longestUnbound_96
  · have hl15 := ta_fx (γ := Int → Int → tg_Mem → tg_R) (F := (f_X0_longestUnbound_B15 k j60)) (z := (fun _ _ _ => none)) (fun J => ∀ (v1_15 : Int) (v2_15 : Int) (m_15 : tg_Mem), tg_AW E LX (some .int) (J v1_15 v2_15 m_15) 15 [tr_ k, ti_ v1_15, ti_ v2_15, tj_] [] m_15) (by intros; exact ta_none) (fun self15 hself15 => by
        intro v1_15 v2_15 m_15
        unfold f_X0_longestUnbound_B15
        refine ta_iloadn hE dX0_longestUnbound_15 rfl ?_
        refine ta_aloadn hE dX0_longestUnbound_16 rfl ?_
        refine gr_X0_12 hE dX0_longestUnbound_17 (hk.1) rfl ?_
        refine gf_X0_58 hE dX0_longestUnbound_20 (hk.2.1.1) rfl ?_
        refine ta_icmp_ge (tgt := 95) hE dX0_longestUnbound_23 (by decide) (fun c23 => ?_) (fun c23 => ?_)
        · refine ta_iloadn hE dX0_longestUnbound_95 rfl ?_
          exact ta_iret hE dX0_longestUnbound_96
        · refine ta_aloadn hE dX0_longestUnbound_26 rfl ?_
          refine gr_X0_12 hE dX0_longestUnbound_27 (hk.1) rfl ?_
          refine ta_iloadn hE dX0_longestUnbound_30 rfl ?_
          refine ta_callV (C := RX5) (T := TX5) (st := []) hE dX0_longestUnbound_31 (k_X5_byteAt (hk.2.1) v2_15 m_15) ml_X0_61 im_X5_byteAt se_X5_byteAt in_X5 co_X5_byteAt hy_X5_byteAt ⟨Nat.le_of_ble_eq_true rfl, Nat.le_of_ble_eq_true rfl⟩ (hk.2.1.1) rfl rfl rfl (fun _ => Nat.le_of_ble_eq_true rfl) (fun r31 m31 hx31 hr31 => ?_)
          change tg_AW E _ _ _ _ _ (ti_ r31 :: _) _
          refine ta_callN (host := RX7) (st := []) hE dX0_longestUnbound_34 (k_X7_codeOfByte r31 m31) nn_X0_65 st_X7_codeOfByte in_X7 co_X7_codeOfByte hy_X7_codeOfByte.2 ⟨Nat.le_of_ble_eq_true rfl, Nat.le_of_ble_eq_true rfl⟩ rfl rfl (fun _ => Nat.le_of_ble_eq_true rfl) (fun r34 m34 hx34 hr34 => ?_)
          change tg_AW E _ _ _ _ _ (ti_ r34 :: _) _
          refine ta_istoren (lv2 := [tr_ k, ti_ v1_15, ti_ v2_15, ti_ r34]) hE dX0_longestUnbound_37 (Nat.le_of_ble_eq_true rfl) rfl rfl ?_
          refine ta_iloadn hE dX0_longestUnbound_38 rfl ?_
          refine ta_iconst (v := (-1)) hE dX0_longestUnbound_39 rfl ⟨by decide, by decide⟩ ?_
          refine ta_icmp_eq (tgt := 95) hE dX0_longestUnbound_40 (by decide) (fun c40 => ?_) (fun c40 => ?_)
          · refine ta_iloadn hE dX0_longestUnbound_95 rfl ?_
            exact ta_iret hE dX0_longestUnbound_96
          · refine ta_aloadn hE dX0_longestUnbound_43 rfl ?_
            refine gr_X0_44 hE dX0_longestUnbound_44 (hk.1) rfl ?_
            refine ta_iloadn hE dX0_longestUnbound_47 rfl ?_
            refine ta_iconst (v := 3) hE dX0_longestUnbound_48 rfl ⟨by decide, by decide⟩ ?_
            refine ta_ishr hE dX0_longestUnbound_49 ?_
            refine ta_iloadn hE dX0_longestUnbound_50 rfl ?_
            refine bp_7 hE dX0_longestUnbound_51 ?_
            refine ta_iand hE dX0_longestUnbound_53 ?_
            refine ta_callV (C := RX1) (T := TX1) (st := []) hE dX0_longestUnbound_54 (k_X1_canGo (hk.2.2.1) (tg_ishr r34 3) (tg_iand r34 7) m34) ml_X0_72 im_X1_canGo se_X1_canGo in_X1 co_X1_canGo hy_X1_canGo ⟨Nat.le_of_ble_eq_true rfl, Nat.le_of_ble_eq_true rfl⟩ (hk.2.2.1.1) rfl rfl rfl (fun _ => Nat.le_of_ble_eq_true rfl) (fun r54 m54 hx54 hr54 => ?_)
            change tg_AW E _ _ _ _ _ (ti_ r54 :: _) _
            refine ta_if_ne (tgt := 63) hE dX0_longestUnbound_57 (by decide) (fun c57 => ?_) (fun c57 => ?_)
            · refine ta_aloadn hE dX0_longestUnbound_63 rfl ?_
              refine gr_X0_44 hE dX0_longestUnbound_64 (hk.1) rfl ?_
              refine ta_iloadn hE dX0_longestUnbound_67 rfl ?_
              refine ta_iconst (v := 3) hE dX0_longestUnbound_68 rfl ⟨by decide, by decide⟩ ?_
              refine ta_ishr hE dX0_longestUnbound_69 ?_
              refine ta_iloadn hE dX0_longestUnbound_70 rfl ?_
              refine bp_7 hE dX0_longestUnbound_71 ?_
              refine ta_iand hE dX0_longestUnbound_73 ?_
              refine ta_callV (C := RX1) (T := TX1) (st := []) hE dX0_longestUnbound_74 (k_X1_go (hk.2.2.1) (tg_ishr r34 3) (tg_iand r34 7) m54) ml_X0_76 im_X1_go se_X1_go in_X1 co_X1_go hy_X1_go ⟨Nat.le_of_ble_eq_true rfl, Nat.le_of_ble_eq_true rfl⟩ (hk.2.2.1.1) rfl rfl rfl (fun _ => Nat.le_of_ble_eq_true rfl) (fun r74 m74 hx74 hr74 => ?_)
              change tg_AW E _ _ _ _ _ [] _
              refine ta_iloadn hE dX0_longestUnbound_77 rfl ?_
              refine ta_aloadn hE dX0_longestUnbound_78 rfl ?_
              refine gr_X0_44 hE dX0_longestUnbound_79 (hk.1) rfl ?_
              refine gf_X0_80 hE dX0_longestUnbound_82 (hk.2.2.1.1) rfl ?_
              refine ta_mmax hE dX0_longestUnbound_85 ml_X0_111 st_J9_max_7cf53 in_J9 co_J9_max_7cf53 rfl (Nat.le_of_ble_eq_true rfl) (fun _ => Nat.le_of_ble_eq_true rfl) ?_
              refine ta_nmi (fun v1_88 => ?_)
              refine ta_istoren (lv2 := [tr_ k, ti_ v1_88, ti_ v2_15, ti_ r34]) hE dX0_longestUnbound_88 (Nat.le_of_ble_eq_true rfl) rfl rfl ?_
              refine ta_iincn (lv2 := fun v2_89 => [tr_ k, ti_ v1_88, ti_ v2_89, ti_ r34]) hE dX0_longestUnbound_89 rfl rfl rfl (fun v2_89 => ?_)
              refine ta_goto (tgt := 15) hE dX0_longestUnbound_92 (by decide) ?_
              exact (ta_wk (i := 3) (lv2 := [tr_ k, ti_ v1_88, ti_ v2_89, tj_]) rfl (hself15 v1_88 v2_89 m74))
            · exact (ta_wk (i := 0) (lv2 := [tj_, ti_ v1_15, ti_ v2_15, ti_ r34]) rfl (ta_wk (i := 2) (lv2 := [tj_, ti_ v1_15, tj_, ti_ r34]) rfl (ta_wk (i := 3) (lv2 := [tj_, ti_ v1_15, tj_, tj_]) rfl (hj60 v1_15 m54)))))
    exact (hl15 tg_FU 0 0 m8)
noncomputable def f_X7_needs (a0 : Int) (m : tg_Mem) : tg_R :=
  tg_bd (f_X7_isBelow a0 2 m) (fun r2 m2 =>
    if r2 = 0 then
      some ((-2), m2)
    else
      tg_bd (f_X7_dayOf a0 m2) (fun r10 m10 =>
        tg_bd (f_X0_longestUnbound (r10.toNat) m10) (fun r13 m13 =>
          some (r13, m13))))
theorem hy_X7_needs : yX7_needs.cls = RX7 ∧ yX7_needs.cls ≠ "java/lang/invoke/MethodHandle" ∧ yX7_needs.cls ≠ "java/lang/invoke/VarHandle" ∧ (parseMethodDescriptor yX7_needs.desc).map (fun q => q.parameters.length) = some 1 := by decide +kernel
set_option maxRecDepth 100000 in
set_option maxHeartbeats 4000000 in
theorem k_X7_needs   (a0 : Int) (m : tg_Mem) : tg_C yX7_needs cX7_needs 2 (some .int) 4 LX [tr_ 0, ti_ a0] (f_X7_needs a0 m) m := by
  refine ta_enter2 (own := RX7) (by decide +kernel) rfl rfl (Nat.le_of_ble_eq_true rfl) rfl (fun E hE => ?_)
  unfold f_X7_needs
  refine ta_iloadn hE dX7_needs_0 rfl ?_
  refine ta_iconst (v := 2) hE dX7_needs_1 rfl ⟨by decide, by decide⟩ ?_
  refine ta_callS (st := []) hE dX7_needs_2 (k_X7_isBelow a0 2 m) ml_X7_60 st_X7_isBelow in_X7 co_X7_isBelow hy_X7_isBelow.2 ⟨Nat.le_of_ble_eq_true rfl, Nat.le_of_ble_eq_true rfl⟩ rfl rfl (fun _ => Nat.le_of_ble_eq_true rfl) (fun r2 m2 hx2 hr2 => ?_)
  change tg_AW E _ _ _ _ _ (ti_ r2 :: _) _
  refine ta_if_eq (tgt := 19) hE dX7_needs_5 (by decide) (fun c5 => ?_) (fun c5 => ?_)
  · refine bp_n2 hE dX7_needs_19 ?_
    exact ta_iret hE dX7_needs_21
  · refine ta_aloadn hE dX7_needs_8 rfl ?_
    refine ta_iloadn hE dX7_needs_9 rfl ?_
    refine ta_callV (C := RX7) (T := TX7) (st := []) hE dX7_needs_10 (k_X7_dayOf a0 m2) ml_X7_90 im_X7_dayOf se_X7_dayOf in_X7 co_X7_dayOf hy_X7_dayOf ⟨Nat.le_of_ble_eq_true rfl, Nat.le_of_ble_eq_true rfl⟩ lx_0 rfl rfl rfl (fun _ => Nat.le_of_ble_eq_true rfl) (fun r10 m10 hx10 hr10 => ?_)
    change tg_AW E _ _ _ _ _ (tr_ r10.toNat :: _) _
    refine ta_callV (C := RX0) (T := TX0) (st := []) hE dX7_needs_13 (k_X0_longestUnbound (ok_X7_dayOf hx10) m10) ml_X7_146 im_X0_longestUnbound se_X0_longestUnbound in_X0 co_X0_longestUnbound hy_X0_longestUnbound ⟨Nat.le_of_ble_eq_true rfl, Nat.le_of_ble_eq_true rfl⟩ ((ok_X7_dayOf hx10).1) rfl rfl rfl (fun _ => Nat.le_of_ble_eq_true rfl) (fun r13 m13 hx13 hr13 => ?_)
    change tg_AW E _ _ _ _ _ (ti_ r13 :: _) _
    refine ta_goto (tgt := 21) hE dX7_needs_16 (by decide) ?_
    exact ta_iret hE dX7_needs_21
noncomputable def f_X1_asKey_B4 (k : Nat) (j29 : Int → tg_Mem → tg_R) (self4 : Int → Int → tg_Mem → tg_R) (v1_4 : Int) (v3_4 : Int) (m_4 : tg_Mem) : tg_R :=
  if m_4 k 4 ≤ v3_4 then
    j29 v1_4 m_4
  else
    tg_bd (f_X1_pathAt k v3_4 m_4) (fun r17 m17 =>
      tg_lt (tg_lor (tg_lshl v1_4 3) r17) (fun v1_22 =>
        tg_lt (tg_wi (v3_4 + 1)) (fun v3_23 =>
          self4 v1_22 v3_23 m17)))
noncomputable def f_X1_asKey (k : Nat) (m : tg_Mem) : tg_R :=
  tg_jn (γ := Int → tg_Mem → tg_R) (fun (v1_29 : Int) (m_29 : tg_Mem) => tg_ck (0 ≤ 1 ∧ 1 < 2) (
    some (tg_lor (tg_lshl v1_29 3) (m_29 (k + 1) 1), m_29))) (fun j29 =>
    tg_fx (γ := Int → Int → tg_Mem → tg_R) (f_X1_asKey_B4 k j29) (fun _ _ _ => none) tg_FU 1 0 m)
theorem hy_X1_asKey : yX1_asKey.cls = RX1 ∧ yX1_asKey.cls ≠ "java/lang/invoke/MethodHandle" ∧ yX1_asKey.cls ≠ "java/lang/invoke/VarHandle" ∧ (parseMethodDescriptor yX1_asKey.desc).map (fun q => q.parameters.length) = some 0 := by decide +kernel
set_option maxRecDepth 100000 in
set_option maxHeartbeats 4000000 in
theorem k_X1_asKey {k : Nat} (hk : tg_okG k)  (m : tg_Mem) : tg_C yX1_asKey cX1_asKey 4 (some .long) 2 LX [tr_ k] (f_X1_asKey k m) m := by
  refine ta_enter2 (own := RX1) (by decide +kernel) rfl rfl (Nat.le_of_ble_eq_true rfl) rfl (fun E hE => ?_)
  unfold f_X1_asKey
  refine ta_lconst (v := 1) hE dX1_asKey_0 rfl ⟨by decide, by decide⟩ ?_
  refine ta_lstoren (lv2 := [tr_ k, tl_ 1, tj_, tj_]) hE dX1_asKey_1 (Nat.le_of_ble_eq_true rfl) rfl rfl ?_
  refine ta_iconst (v := 0) hE dX1_asKey_2 rfl ⟨by decide, by decide⟩ ?_
  refine ta_istoren (lv2 := [tr_ k, tl_ 1, tj_, ti_ 0]) hE dX1_asKey_3 (Nat.le_of_ble_eq_true rfl) rfl rfl ?_
  refine ta_join (γ := Int → tg_Mem → tg_R) (fun J => ∀ (v1_29 : Int) (m_29 : tg_Mem), tg_AW E LX (some .long) (J v1_29 m_29) 29 [tr_ k, tl_ v1_29, tj_, tj_] [] m_29) ?_ (fun j29 hj29 => ?_)
  · intro v1_29 m_29
    refine ta_lloadn hE dX1_asKey_29 rfl ?_
    refine ta_iconst (v := 3) hE dX1_asKey_30 rfl ⟨by decide, by decide⟩ ?_
    refine ta_lshl' hE dX1_asKey_31 ?_
    refine ta_aloadn hE dX1_asKey_32 rfl ?_
    refine gr_X1_9 hE dX1_asKey_33 (hk.1) rfl ?_
    refine ta_iconst (v := 1) hE dX1_asKey_36 rfl ⟨by decide, by decide⟩ ?_
    refine ta_iald (n' := 2) hE dX1_asKey_37 (hk.2.1) rfl (fun _ _ => ?_)
    refine ta_i2l hE dX1_asKey_38 ?_
    refine ta_lor hE dX1_asKey_39 ?_
    exact ta_lret hE dX1_asKey_40
  · have hl4 := ta_fx (γ := Int → Int → tg_Mem → tg_R) (F := (f_X1_asKey_B4 k j29)) (z := (fun _ _ _ => none)) (fun J => ∀ (v1_4 : Int) (v3_4 : Int) (m_4 : tg_Mem), tg_AW E LX (some .long) (J v1_4 v3_4 m_4) 4 [tr_ k, tl_ v1_4, tj_, ti_ v3_4] [] m_4) (by intros; exact ta_none) (fun self4 hself4 => by
        intro v1_4 v3_4 m_4
        unfold f_X1_asKey_B4
        refine ta_iloadn hE dX1_asKey_4 rfl ?_
        refine ta_aloadn hE dX1_asKey_5 rfl ?_
        refine gf_X1_22 hE dX1_asKey_6 (hk.1) rfl ?_
        refine ta_icmp_ge (tgt := 29) hE dX1_asKey_9 (by decide) (fun c9 => ?_) (fun c9 => ?_)
        · exact (ta_wk (i := 3) (lv2 := [tr_ k, tl_ v1_4, tj_, tj_]) rfl (hj29 v1_4 m_4))
        · refine ta_lloadn hE dX1_asKey_12 rfl ?_
          refine ta_iconst (v := 3) hE dX1_asKey_13 rfl ⟨by decide, by decide⟩ ?_
          refine ta_lshl' hE dX1_asKey_14 ?_
          refine ta_aloadn hE dX1_asKey_15 rfl ?_
          refine ta_iloadn hE dX1_asKey_16 rfl ?_
          refine ta_callV (C := RX1) (T := TX1) (st := [tl_ (tg_lshl v1_4 3)]) hE dX1_asKey_17 (k_X1_pathAt hk v3_4 m_4) ml_X1_36 im_X1_pathAt se_X1_pathAt in_X1 co_X1_pathAt hy_X1_pathAt ⟨Nat.le_of_ble_eq_true rfl, Nat.le_of_ble_eq_true rfl⟩ (hk.1) rfl rfl rfl (fun _ => Nat.le_of_ble_eq_true rfl) (fun r17 m17 hx17 hr17 => ?_)
          change tg_AW E _ _ _ _ _ (ti_ r17 :: _) _
          refine ta_i2l hE dX1_asKey_20 ?_
          refine ta_lor hE dX1_asKey_21 ?_
          refine ta_nml (fun v1_22 => ?_)
          refine ta_lstoren (lv2 := [tr_ k, tl_ v1_22, tj_, ti_ v3_4]) hE dX1_asKey_22 (Nat.le_of_ble_eq_true rfl) rfl rfl ?_
          refine ta_iincn (lv2 := fun v3_23 => [tr_ k, tl_ v1_22, tj_, ti_ v3_23]) hE dX1_asKey_23 rfl rfl rfl (fun v3_23 => ?_)
          refine ta_goto (tgt := 4) hE dX1_asKey_26 (by decide) ?_
          exact (hself4 v1_22 v3_23 m17))
    exact (hl4 tg_FU 1 0 m)
noncomputable def f_X1_becomeKey_B17 (k : Nat) (self17 : Int → Int → tg_Mem → tg_R) (v3_17 : Int) (v5_17 : Int) (m_17 : tg_Mem) : tg_R :=
  if 18 ≤ v5_17 then
    some (0, m_17)
  else
    if v3_17 ≤ 1 then
      some (0, m_17)
    else
      tg_bd (f_X1_go k 0 (tg_l2i (tg_land v3_17 7)) m_17) (fun _ m38 =>
        tg_lt (tg_lshr v3_17 3) (fun v3_44 =>
          tg_lt (tg_wi (v5_17 + 1)) (fun v5_45 =>
            self17 v3_44 v5_45 m38)))
noncomputable def f_X1_becomeKey (k : Nat) (a0 : Int) (m : tg_Mem) : tg_R :=
  tg_bd (f_X1_standBoth k (tg_l2i (tg_land a0 7)) m) (fun _ m7 =>
    tg_lt (tg_lshr a0 3) (fun v3_13 =>
      tg_fx (γ := Int → Int → tg_Mem → tg_R) (f_X1_becomeKey_B17 k) (fun _ _ _ => none) tg_FU v3_13 0 m7))
theorem hy_X1_becomeKey : yX1_becomeKey.cls = RX1 ∧ yX1_becomeKey.cls ≠ "java/lang/invoke/MethodHandle" ∧ yX1_becomeKey.cls ≠ "java/lang/invoke/VarHandle" ∧ (parseMethodDescriptor yX1_becomeKey.desc).map (fun q => q.parameters.length) = some 1 := by decide +kernel
set_option maxRecDepth 100000 in
set_option maxHeartbeats 4000000 in
theorem k_X1_becomeKey {k : Nat} (hk : tg_okG k) (a0 : Int) (m : tg_Mem) : tg_C yX1_becomeKey cX1_becomeKey 6 none 3 LX [tr_ k, tl_ a0] (f_X1_becomeKey k a0 m) m := by
  refine ta_enter2 (own := RX1) (by decide +kernel) rfl rfl (Nat.le_of_ble_eq_true rfl) rfl (fun E hE => ?_)
  unfold f_X1_becomeKey
  refine ta_aloadn hE dX1_becomeKey_0 rfl ?_
  refine ta_lloadn hE dX1_becomeKey_1 rfl ?_
  refine ta_ldc2 (v := 7) hE dX1_becomeKey_2 lc_X1_78 ⟨by decide, by decide⟩ ?_
  refine ta_land hE dX1_becomeKey_5 ?_
  refine ta_l2i hE dX1_becomeKey_6 ?_
  refine ta_callV (C := RX1) (T := TX1) (st := []) hE dX1_becomeKey_7 (k_X1_standBoth hk (tg_l2i (tg_land a0 7)) m) ml_X1_32 im_X1_standBoth se_X1_standBoth in_X1 co_X1_standBoth hy_X1_standBoth ⟨Nat.le_of_ble_eq_true rfl, Nat.le_of_ble_eq_true rfl⟩ (hk.1) rfl rfl rfl (fun _ => Nat.le_of_ble_eq_true rfl) (fun r7 m7 hx7 hr7 => ?_)
  change tg_AW E _ _ _ _ _ [] _
  refine ta_lloadn hE dX1_becomeKey_10 rfl ?_
  refine ta_iconst (v := 3) hE dX1_becomeKey_11 rfl ⟨by decide, by decide⟩ ?_
  refine ta_lshr' hE dX1_becomeKey_12 ?_
  refine ta_nml (fun v3_13 => ?_)
  refine ta_lstoren (lv2 := [tr_ k, tl_ a0, tj_, tl_ v3_13, tj_, tj_]) hE dX1_becomeKey_13 (Nat.le_of_ble_eq_true rfl) rfl rfl ?_
  refine ta_iconst (v := 0) hE dX1_becomeKey_14 rfl ⟨by decide, by decide⟩ ?_
  refine ta_istore (lv2 := [tr_ k, tl_ a0, tj_, tl_ v3_13, tj_, ti_ 0]) hE dX1_becomeKey_15 (Nat.le_of_ble_eq_true rfl) rfl rfl ?_
  have hl17 := ta_fx (γ := Int → Int → tg_Mem → tg_R) (F := (f_X1_becomeKey_B17 k)) (z := (fun _ _ _ => none)) (fun J => ∀ (v3_17 : Int) (v5_17 : Int) (m_17 : tg_Mem), tg_AW E LX none (J v3_17 v5_17 m_17) 17 [tr_ k, tj_, tj_, tl_ v3_17, tj_, ti_ v5_17] [] m_17) (by intros; exact ta_none) (fun self17 hself17 => by
      intro v3_17 v5_17 m_17
      unfold f_X1_becomeKey_B17
      refine ta_iload hE dX1_becomeKey_17 rfl ?_
      refine bp_18 hE dX1_becomeKey_19 ?_
      refine ta_icmp_ge (tgt := 51) hE dX1_becomeKey_21 (by decide) (fun c21 => ?_) (fun c21 => ?_)
      · exact ta_vret hE dX1_becomeKey_51
      · refine ta_lloadn hE dX1_becomeKey_24 rfl ?_
        refine ta_lconst (v := 1) hE dX1_becomeKey_25 rfl ⟨by decide, by decide⟩ ?_
        refine ta_lcmp_le (tgt := 51) hE dX1_becomeKey_26 dX1_becomeKey_27 (by decide) (fun c26 => ?_) (fun c26 => ?_)
        · exact ta_vret hE dX1_becomeKey_51
        · refine ta_aloadn hE dX1_becomeKey_30 rfl ?_
          refine ta_iconst (v := 0) hE dX1_becomeKey_31 rfl ⟨by decide, by decide⟩ ?_
          refine ta_lloadn hE dX1_becomeKey_32 rfl ?_
          refine ta_ldc2 (v := 7) hE dX1_becomeKey_33 lc_X1_78 ⟨by decide, by decide⟩ ?_
          refine ta_land hE dX1_becomeKey_36 ?_
          refine ta_l2i hE dX1_becomeKey_37 ?_
          refine ta_callV (C := RX1) (T := TX1) (st := []) hE dX1_becomeKey_38 (k_X1_go hk 0 (tg_l2i (tg_land v3_17 7)) m_17) ml_X1_40 im_X1_go se_X1_go in_X1 co_X1_go hy_X1_go ⟨Nat.le_of_ble_eq_true rfl, Nat.le_of_ble_eq_true rfl⟩ (hk.1) rfl rfl rfl (fun _ => Nat.le_of_ble_eq_true rfl) (fun r38 m38 hx38 hr38 => ?_)
          change tg_AW E _ _ _ _ _ [] _
          refine ta_lloadn hE dX1_becomeKey_41 rfl ?_
          refine ta_iconst (v := 3) hE dX1_becomeKey_42 rfl ⟨by decide, by decide⟩ ?_
          refine ta_lshr' hE dX1_becomeKey_43 ?_
          refine ta_nml (fun v3_44 => ?_)
          refine ta_lstoren (lv2 := [tr_ k, tj_, tj_, tl_ v3_44, tj_, ti_ v5_17]) hE dX1_becomeKey_44 (Nat.le_of_ble_eq_true rfl) rfl rfl ?_
          refine ta_iincn (lv2 := fun v5_45 => [tr_ k, tj_, tj_, tl_ v3_44, tj_, ti_ v5_45]) hE dX1_becomeKey_45 rfl rfl rfl (fun v5_45 => ?_)
          refine ta_goto (tgt := 17) hE dX1_becomeKey_48 (by decide) ?_
          exact (hself17 v3_44 v5_45 m38))
  exact (ta_wk (i := 1) (lv2 := [tr_ k, tj_, tj_, tl_ v3_13, tj_, ti_ 0]) rfl (hl17 tg_FU v3_13 0 m7))
noncomputable def f_X3_note_B28 (a0 : Int) (j94 : Int → tg_Mem → tg_R) (self28 : Int → Int → tg_Mem → tg_R) (v3_28 : Int) (v4_28 : Int) (m_28 : tg_Mem) : tg_R :=
  if 2048 ≤ v4_28 then
    j94 v3_28 m_28
  else
    tg_ck (0 ≤ v3_28 ∧ v3_28 < 2048) (
      if m_28 31 (v3_28).toNat = 0 then
        j94 v3_28 m_28
      else
        tg_ck (0 ≤ v3_28 ∧ v3_28 < 2048) (
          tg_lt (tg_wi ((m_28 31 (v3_28).toNat) - 1)) (fun v5_53 =>
            tg_bd (f_X7_isBelow v5_53 (m_28 26 4) m_28) (fun r61 m61 =>
              tg_jn (γ := tg_R) (tg_lt (tg_iand (tg_wi (v3_28 + 1)) 2047) (fun v3_87 =>
                tg_lt (tg_wi (v4_28 + 1)) (fun v4_88 =>
                  self28 v3_87 v4_88 m61))) (fun j80 =>
                if r61 = 0 then
                  j80
                else
                  tg_ck (0 ≤ v5_53 ∧ v5_53 < 1001) (
                    if m61 30 (v5_53).toNat ≠ a0 then
                      j80
                    else
                      some (0, m61)))))))
noncomputable def f_X3_note (a0 : Int) (m : tg_Mem) : tg_R :=
  if m 26 4 ≤ 1000 then
    tg_lt (tg_iand (tg_l2i (tg_lushr (tg_wl (a0 * (-7046029254386353131))) 53)) 2047) (fun v3_24 =>
      tg_jn (γ := Int → tg_Mem → tg_R) (fun (v3_94 : Int) (m_94 : tg_Mem) => tg_ck (0 ≤ m_94 26 4 ∧ m_94 26 4 < 1001) (
        tg_lt (tg_up m_94 30 (m_94 26 4).toNat a0) (fun m103 =>
          tg_lt (tg_up m103 26 4 (tg_wi ((m103 26 4) + 1))) (fun m111 =>
            tg_ck (0 ≤ v3_94 ∧ v3_94 < 2048) (
              tg_lt (tg_up m111 31 (v3_94).toNat (m111 26 4)) (fun m123 =>
                some (0, m123))))))) (fun j94 =>
        tg_fx (γ := Int → Int → tg_Mem → tg_R) (f_X3_note_B28 a0 j94) (fun _ _ _ => none) tg_FU v3_24 0 m))
  else
    some (0, m)
theorem hy_X3_note : yX3_note.cls = RX3 ∧ yX3_note.cls ≠ "java/lang/invoke/MethodHandle" ∧ yX3_note.cls ≠ "java/lang/invoke/VarHandle" ∧ (parseMethodDescriptor yX3_note.desc).map (fun q => q.parameters.length) = some 1 := by decide +kernel
set_option maxRecDepth 100000 in
set_option maxHeartbeats 4000000 in
theorem k_X3_note   (a0 : Int) (m : tg_Mem) : tg_C yX3_note cX3_note 6 none 2 LX [tr_ 26, tl_ a0] (f_X3_note a0 m) m := by
  refine ta_enter2 (own := RX3) (by decide +kernel) rfl rfl (Nat.le_of_ble_eq_true rfl) rfl (fun E hE => ?_)
  unfold f_X3_note
  refine ta_aloadn hE dX3_note_0 rfl ?_
  refine gf_X3_19 hE dX3_note_1 lx_26 rfl ?_
  refine sp_1000 hE dX3_note_4 ?_
  refine ta_icmp_le (tgt := 11) hE dX3_note_7 (by decide) (fun c7 => ?_) (fun c7 => ?_)
  · refine ta_lloadn hE dX3_note_11 rfl ?_
    refine ta_ldc2 (v := (-7046029254386353131)) hE dX3_note_12 lc_X3_83 ⟨by decide, by decide⟩ ?_
    refine ta_lmul hE dX3_note_15 ?_
    refine bp_53 hE dX3_note_16 ?_
    refine ta_lushr' hE dX3_note_18 ?_
    refine ta_l2i hE dX3_note_19 ?_
    refine sp_2047 hE dX3_note_20 ?_
    refine ta_iand hE dX3_note_23 ?_
    refine ta_nmi (fun v3_24 => ?_)
    refine ta_istoren (lv2 := [tr_ 26, tl_ a0, tj_, ti_ v3_24, tj_, tj_]) hE dX3_note_24 (Nat.le_of_ble_eq_true rfl) rfl rfl ?_
    refine ta_iconst (v := 0) hE dX3_note_25 rfl ⟨by decide, by decide⟩ ?_
    refine ta_istore (lv2 := [tr_ 26, tl_ a0, tj_, ti_ v3_24, ti_ 0, tj_]) hE dX3_note_26 (Nat.le_of_ble_eq_true rfl) rfl rfl ?_
    refine ta_join (γ := Int → tg_Mem → tg_R) (fun J => ∀ (v3_94 : Int) (m_94 : tg_Mem), tg_AW E LX none (J v3_94 m_94) 94 [tr_ 26, tl_ a0, tj_, ti_ v3_94, tj_, tj_] [] m_94) ?_ (fun j94 hj94 => ?_)
    · intro v3_94 m_94
      refine ta_aloadn hE dX3_note_94 rfl ?_
      refine gr_X3_11 hE dX3_note_95 lx_26 rfl ?_
      refine ta_aloadn hE dX3_note_98 rfl ?_
      refine gf_X3_19 hE dX3_note_99 lx_26 rfl ?_
      refine ta_lloadn hE dX3_note_102 rfl ?_
      refine ta_last (n' := 1001) hE dX3_note_103 lx_30 rfl (fun _ _ => ?_)
      refine ta_nmm (fun m103 => ?_)
      refine ta_aloadn hE dX3_note_104 rfl ?_
      refine ta_dup hE dX3_note_105 (fun _ => rfl) ?_
      refine gf_X3_19 hE dX3_note_106 lx_26 rfl ?_
      refine ta_iconst (v := 1) hE dX3_note_109 rfl ⟨by decide, by decide⟩ ?_
      refine ta_iadd hE dX3_note_110 ?_
      refine pf_X3_19 hE dX3_note_111 lx_26 rfl ?_
      refine ta_nmm (fun m111 => ?_)
      refine ta_aloadn hE dX3_note_114 rfl ?_
      refine gr_X3_15 hE dX3_note_115 lx_26 rfl ?_
      refine ta_iloadn hE dX3_note_118 rfl ?_
      refine ta_aloadn hE dX3_note_119 rfl ?_
      refine gf_X3_19 hE dX3_note_120 lx_26 rfl ?_
      refine ta_iast (n' := 2048) hE dX3_note_123 lx_31 rfl (fun _ _ => ?_)
      refine ta_nmm (fun m123 => ?_)
      exact ta_vret hE dX3_note_124
    · have hl28 := ta_fx (γ := Int → Int → tg_Mem → tg_R) (F := (f_X3_note_B28 a0 j94)) (z := (fun _ _ _ => none)) (fun J => ∀ (v3_28 : Int) (v4_28 : Int) (m_28 : tg_Mem), tg_AW E LX none (J v3_28 v4_28 m_28) 28 [tr_ 26, tl_ a0, tj_, ti_ v3_28, ti_ v4_28, tj_] [] m_28) (by intros; exact ta_none) (fun self28 hself28 => by
          intro v3_28 v4_28 m_28
          unfold f_X3_note_B28
          refine ta_iload hE dX3_note_28 rfl ?_
          refine sp_2048 hE dX3_note_30 ?_
          refine ta_icmp_ge (tgt := 94) hE dX3_note_33 (by decide) (fun c33 => ?_) (fun c33 => ?_)
          · exact (ta_wk (i := 4) (lv2 := [tr_ 26, tl_ a0, tj_, ti_ v3_28, tj_, tj_]) rfl (hj94 v3_28 m_28))
          · refine ta_aloadn hE dX3_note_36 rfl ?_
            refine gr_X3_15 hE dX3_note_37 lx_26 rfl ?_
            refine ta_iloadn hE dX3_note_40 rfl ?_
            refine ta_iald (n' := 2048) hE dX3_note_41 lx_31 rfl (fun _ _ => ?_)
            refine ta_if_eq (tgt := 94) hE dX3_note_42 (by decide) (fun c42 => ?_) (fun c42 => ?_)
            · exact (ta_wk (i := 4) (lv2 := [tr_ 26, tl_ a0, tj_, ti_ v3_28, tj_, tj_]) rfl (hj94 v3_28 m_28))
            · refine ta_aloadn hE dX3_note_45 rfl ?_
              refine gr_X3_15 hE dX3_note_46 lx_26 rfl ?_
              refine ta_iloadn hE dX3_note_49 rfl ?_
              refine ta_iald (n' := 2048) hE dX3_note_50 lx_31 rfl (fun _ _ => ?_)
              refine ta_iconst (v := 1) hE dX3_note_51 rfl ⟨by decide, by decide⟩ ?_
              refine ta_isub hE dX3_note_52 ?_
              refine ta_nmi (fun v5_53 => ?_)
              refine ta_istore (lv2 := [tr_ 26, tl_ a0, tj_, ti_ v3_28, ti_ v4_28, ti_ v5_53]) hE dX3_note_53 (Nat.le_of_ble_eq_true rfl) rfl rfl ?_
              refine ta_iload hE dX3_note_55 rfl ?_
              refine ta_aloadn hE dX3_note_57 rfl ?_
              refine gf_X3_19 hE dX3_note_58 lx_26 rfl ?_
              refine ta_callN (host := RX7) (st := []) hE dX3_note_61 (k_X7_isBelow v5_53 (m_28 26 4) m_28) nn_X3_85 st_X7_isBelow in_X7 co_X7_isBelow hy_X7_isBelow.2 ⟨Nat.le_of_ble_eq_true rfl, Nat.le_of_ble_eq_true rfl⟩ rfl rfl (fun _ => Nat.le_of_ble_eq_true rfl) (fun r61 m61 hx61 hr61 => ?_)
              change tg_AW E _ _ _ _ _ (ti_ r61 :: _) _
              refine ta_join (γ := tg_R) (fun J => tg_AW E LX none J 80 [tr_ 26, tl_ a0, tj_, ti_ v3_28, ti_ v4_28, tj_] [] m61) ?_ (fun j80 hj80 => ?_)
              · refine ta_iloadn hE dX3_note_80 rfl ?_
                refine ta_iconst (v := 1) hE dX3_note_81 rfl ⟨by decide, by decide⟩ ?_
                refine ta_iadd hE dX3_note_82 ?_
                refine sp_2047 hE dX3_note_83 ?_
                refine ta_iand hE dX3_note_86 ?_
                refine ta_nmi (fun v3_87 => ?_)
                refine ta_istoren (lv2 := [tr_ 26, tl_ a0, tj_, ti_ v3_87, ti_ v4_28, tj_]) hE dX3_note_87 (Nat.le_of_ble_eq_true rfl) rfl rfl ?_
                refine ta_iincn (lv2 := fun v4_88 => [tr_ 26, tl_ a0, tj_, ti_ v3_87, ti_ v4_88, tj_]) hE dX3_note_88 rfl rfl rfl (fun v4_88 => ?_)
                refine ta_goto (tgt := 28) hE dX3_note_91 (by decide) ?_
                exact (hself28 v3_87 v4_88 m61)
              · refine ta_if_eq (tgt := 80) hE dX3_note_64 (by decide) (fun c64 => ?_) (fun c64 => ?_)
                · exact (ta_wk (i := 5) (lv2 := [tr_ 26, tl_ a0, tj_, ti_ v3_28, ti_ v4_28, tj_]) rfl hj80)
                · refine ta_aloadn hE dX3_note_67 rfl ?_
                  refine gr_X3_11 hE dX3_note_68 lx_26 rfl ?_
                  refine ta_iload hE dX3_note_71 rfl ?_
                  refine ta_lald (n' := 1001) hE dX3_note_73 lx_30 rfl (fun _ _ => ?_)
                  refine ta_lloadn hE dX3_note_74 rfl ?_
                  refine ta_lcmp_ne (tgt := 80) hE dX3_note_75 dX3_note_76 (by decide) (fun c75 => ?_) (fun c75 => ?_)
                  · exact (ta_wk (i := 5) (lv2 := [tr_ 26, tl_ a0, tj_, ti_ v3_28, ti_ v4_28, tj_]) rfl hj80)
                  · exact ta_vret hE dX3_note_79)
      exact (hl28 tg_FU v3_24 0 m)
  · exact ta_vret hE dX3_note_10
noncomputable def f_X3_stand (k0 : Nat) (a1 : Int) (a2 : Int) (m : tg_Mem) : tg_R :=
  tg_ck (0 ≤ 0 ∧ 0 < 2) (
    tg_jn (γ := tg_R) (some (0, m)) (fun j24 =>
      if m (k0 + 1) 0 ≠ a1 then
        j24
      else
        tg_ck (0 ≤ 1 ∧ 1 < 2) (
          if m (k0 + 1) 1 ≠ a2 then
            j24
          else
            some (1, m))))
theorem hy_X3_stand : yX3_stand.cls = RX3 ∧ yX3_stand.cls ≠ "java/lang/invoke/MethodHandle" ∧ yX3_stand.cls ≠ "java/lang/invoke/VarHandle" ∧ (parseMethodDescriptor yX3_stand.desc).map (fun q => q.parameters.length) = some 3 := by decide +kernel
set_option maxRecDepth 100000 in
set_option maxHeartbeats 4000000 in
theorem k_X3_stand {k0 : Nat} (hk0 : tg_okG k0) (a1 : Int) (a2 : Int) (m : tg_Mem) : tg_C yX3_stand cX3_stand 3 (some .boolean) 1 LX [tr_ k0, ti_ a1, ti_ a2] (f_X3_stand k0 a1 a2 m) m := by
  refine ta_enter2 (own := RX3) (by decide +kernel) rfl rfl (Nat.le_of_ble_eq_true rfl) rfl (fun E hE => ?_)
  unfold f_X3_stand
  refine ta_aloadn hE dX3_stand_0 rfl ?_
  refine gr_X3_58 hE dX3_stand_1 (hk0.1) rfl ?_
  refine ta_iconst (v := 0) hE dX3_stand_4 rfl ⟨by decide, by decide⟩ ?_
  refine ta_iald (n' := 2) hE dX3_stand_5 (hk0.2.1) rfl (fun _ _ => ?_)
  refine ta_iloadn hE dX3_stand_6 rfl ?_
  refine ta_join (γ := tg_R) (fun J => tg_AW E LX (some .boolean) J 24 [tj_, tj_, tj_] [] m) ?_ (fun j24 hj24 => ?_)
  · refine ta_iconst (v := 0) hE dX3_stand_24 rfl ⟨by decide, by decide⟩ ?_
    exact ta_zret hE dX3_stand_25 (Or.inl rfl)
  · refine ta_icmp_ne (tgt := 24) hE dX3_stand_7 (by decide) (fun c7 => ?_) (fun c7 => ?_)
    · exact (ta_wk (i := 0) (lv2 := [tj_, ti_ a1, ti_ a2]) rfl (ta_wk (i := 1) (lv2 := [tj_, tj_, ti_ a2]) rfl (ta_wk (i := 2) (lv2 := [tj_, tj_, tj_]) rfl hj24)))
    · refine ta_aloadn hE dX3_stand_10 rfl ?_
      refine gr_X3_58 hE dX3_stand_11 (hk0.1) rfl ?_
      refine ta_iconst (v := 1) hE dX3_stand_14 rfl ⟨by decide, by decide⟩ ?_
      refine ta_iald (n' := 2) hE dX3_stand_15 (hk0.2.1) rfl (fun _ _ => ?_)
      refine ta_iloadn hE dX3_stand_16 rfl ?_
      refine ta_icmp_ne (tgt := 24) hE dX3_stand_17 (by decide) (fun c17 => ?_) (fun c17 => ?_)
      · exact (ta_wk (i := 0) (lv2 := [tj_, ti_ a1, ti_ a2]) rfl (ta_wk (i := 1) (lv2 := [tj_, tj_, ti_ a2]) rfl (ta_wk (i := 2) (lv2 := [tj_, tj_, tj_]) rfl hj24)))
      · refine ta_iconst (v := 1) hE dX3_stand_20 rfl ⟨by decide, by decide⟩ ?_
        refine ta_goto (tgt := 25) hE dX3_stand_21 (by decide) ?_
        exact ta_zret hE dX3_stand_25 (Or.inr rfl)
noncomputable def f_X3_leadsTo_B11 (a1 : Int) (a2 : Int) (self11 : Int → tg_Mem → tg_R) (v5_11 : Int) (m_11 : tg_Mem) : tg_R :=
  if tg_wi (2 * (m_11 1 8)) ≤ v5_11 then
    some (0, m_11)
  else
    tg_lt (tg_iand v5_11 1) (fun v6_29 =>
      tg_lt (tg_ishr v5_11 1) (fun v7_35 =>
        tg_bd (f_X1_canGo 27 v6_29 v7_35 m_11) (fun r45 m45 =>
          tg_jn (γ := tg_Mem → tg_R) (fun (m_119 : tg_Mem) => tg_lt (tg_wi (v5_11 + 1)) (fun v5_119 =>
            self11 v5_119 m_119)) (fun j119 =>
            if r45 ≠ 0 then
              tg_bd (f_X1_go 27 v6_29 v7_35 m45) (fun _ m62 =>
                tg_jn (γ := tg_Mem → tg_R) (fun (m_108 : tg_Mem) => tg_bd (f_X1_go 27 v6_29 v7_35 m_108) (fun _ m116 =>
                  j119 m116)) (fun j108 =>
                  if m62 1 7 < m62 27 5 then
                    j108 m62
                  else
                    tg_bd (f_X3_stand 27 a1 a2 m62) (fun r89 m89 =>
                      if r89 = 0 then
                        tg_bd (f_X1_asKey 27 m89) (fun r102 m102 =>
                          tg_bd (f_X3_note r102 m102) (fun _ m105 =>
                            j108 m105))
                      else
                        some (1, m89))))
            else
              j119 m45))))
noncomputable def f_X3_leadsTo (a0 : Int) (a1 : Int) (a2 : Int) (m : tg_Mem) : tg_R :=
  tg_bd (f_X1_becomeKey 27 a0 m) (fun _ m5 =>
    tg_fx (γ := Int → tg_Mem → tg_R) (f_X3_leadsTo_B11 a1 a2) (fun _ _ => none) tg_FU 0 m5)
theorem hy_X3_leadsTo : yX3_leadsTo.cls = RX3 ∧ yX3_leadsTo.cls ≠ "java/lang/invoke/MethodHandle" ∧ yX3_leadsTo.cls ≠ "java/lang/invoke/VarHandle" ∧ (parseMethodDescriptor yX3_leadsTo.desc).map (fun q => q.parameters.length) = some 3 := by decide +kernel
set_option maxRecDepth 100000 in
set_option maxHeartbeats 4000000 in
theorem k_X3_leadsTo   (a0 : Int) (a1 : Int) (a2 : Int) (m : tg_Mem) : tg_C yX3_leadsTo cX3_leadsTo 8 (some .boolean) 4 LX [tr_ 26, tl_ a0, ti_ a1, ti_ a2] (f_X3_leadsTo a0 a1 a2 m) m := by
  refine ta_enter2 (own := RX3) (by decide +kernel) rfl rfl (Nat.le_of_ble_eq_true rfl) rfl (fun E hE => ?_)
  unfold f_X3_leadsTo
  refine ta_aloadn hE dX3_leadsTo_0 rfl ?_
  refine gr_X3_32 hE dX3_leadsTo_1 lx_26 rfl ?_
  refine ta_lloadn hE dX3_leadsTo_4 rfl ?_
  refine ta_callV (C := RX1) (T := TX1) (st := []) hE dX3_leadsTo_5 (k_X1_becomeKey ok_27 a0 m) ml_X3_61 im_X1_becomeKey se_X1_becomeKey in_X1 co_X1_becomeKey hy_X1_becomeKey ⟨Nat.le_of_ble_eq_true rfl, Nat.le_of_ble_eq_true rfl⟩ (ok_27.1) rfl rfl rfl (fun _ => Nat.le_of_ble_eq_true rfl) (fun r5 m5 hx5 hr5 => ?_)
  change tg_AW E _ _ _ _ _ [] _
  refine ta_iconst (v := 0) hE dX3_leadsTo_8 rfl ⟨by decide, by decide⟩ ?_
  refine ta_istore (lv2 := [tr_ 26, tl_ a0, tj_, ti_ a1, ti_ a2, ti_ 0, tj_, tj_]) hE dX3_leadsTo_9 (Nat.le_of_ble_eq_true rfl) rfl rfl ?_
  have hl11 := ta_fx (γ := Int → tg_Mem → tg_R) (F := (f_X3_leadsTo_B11 a1 a2)) (z := (fun _ _ => none)) (fun J => ∀ (v5_11 : Int) (m_11 : tg_Mem), tg_AW E LX (some .boolean) (J v5_11 m_11) 11 [tr_ 26, tj_, tj_, ti_ a1, ti_ a2, ti_ v5_11, tj_, tj_] [] m_11) (by intros; exact ta_none) (fun self11 hself11 => by
      intro v5_11 m_11
      unfold f_X3_leadsTo_B11
      refine ta_iload hE dX3_leadsTo_11 rfl ?_
      refine ta_iconst (v := 2) hE dX3_leadsTo_13 rfl ⟨by decide, by decide⟩ ?_
      refine ta_aloadn hE dX3_leadsTo_14 rfl ?_
      refine gr_X3_23 hE dX3_leadsTo_15 lx_26 rfl ?_
      refine gf_X3_64 hE dX3_leadsTo_18 lx_1 rfl ?_
      refine ta_imul hE dX3_leadsTo_21 ?_
      refine ta_icmp_ge (tgt := 125) hE dX3_leadsTo_22 (by decide) (fun c22 => ?_) (fun c22 => ?_)
      · refine ta_iconst (v := 0) hE dX3_leadsTo_125 rfl ⟨by decide, by decide⟩ ?_
        exact ta_zret hE dX3_leadsTo_126 (Or.inl rfl)
      · refine ta_iload hE dX3_leadsTo_25 rfl ?_
        refine ta_iconst (v := 1) hE dX3_leadsTo_27 rfl ⟨by decide, by decide⟩ ?_
        refine ta_iand hE dX3_leadsTo_28 ?_
        refine ta_nmi (fun v6_29 => ?_)
        refine ta_istore (lv2 := [tr_ 26, tj_, tj_, ti_ a1, ti_ a2, ti_ v5_11, ti_ v6_29, tj_]) hE dX3_leadsTo_29 (Nat.le_of_ble_eq_true rfl) rfl rfl ?_
        refine ta_iload hE dX3_leadsTo_31 rfl ?_
        refine ta_iconst (v := 1) hE dX3_leadsTo_33 rfl ⟨by decide, by decide⟩ ?_
        refine ta_ishr hE dX3_leadsTo_34 ?_
        refine ta_nmi (fun v7_35 => ?_)
        refine ta_istore (lv2 := [tr_ 26, tj_, tj_, ti_ a1, ti_ a2, ti_ v5_11, ti_ v6_29, ti_ v7_35]) hE dX3_leadsTo_35 (Nat.le_of_ble_eq_true rfl) rfl rfl ?_
        refine ta_aloadn hE dX3_leadsTo_37 rfl ?_
        refine gr_X3_32 hE dX3_leadsTo_38 lx_26 rfl ?_
        refine ta_iload hE dX3_leadsTo_41 rfl ?_
        refine ta_iload hE dX3_leadsTo_43 rfl ?_
        refine ta_callV (C := RX1) (T := TX1) (st := []) hE dX3_leadsTo_45 (k_X1_canGo ok_27 v6_29 v7_35 m_11) ml_X3_69 im_X1_canGo se_X1_canGo in_X1 co_X1_canGo hy_X1_canGo ⟨Nat.le_of_ble_eq_true rfl, Nat.le_of_ble_eq_true rfl⟩ (ok_27.1) rfl rfl rfl (fun _ => Nat.le_of_ble_eq_true rfl) (fun r45 m45 hx45 hr45 => ?_)
        change tg_AW E _ _ _ _ _ (ti_ r45 :: _) _
        refine ta_join (γ := tg_Mem → tg_R) (fun J => ∀ (m_119 : tg_Mem), tg_AW E LX (some .boolean) (J m_119) 119 [tr_ 26, tj_, tj_, ti_ a1, ti_ a2, ti_ v5_11, tj_, tj_] [] m_119) ?_ (fun j119 hj119 => ?_)
        · intro m_119
          refine ta_iincn (lv2 := fun v5_119 => [tr_ 26, tj_, tj_, ti_ a1, ti_ a2, ti_ v5_119, tj_, tj_]) hE dX3_leadsTo_119 rfl rfl rfl (fun v5_119 => ?_)
          refine ta_goto (tgt := 11) hE dX3_leadsTo_122 (by decide) ?_
          exact (hself11 v5_119 m_119)
        · refine ta_if_ne (tgt := 54) hE dX3_leadsTo_48 (by decide) (fun c48 => ?_) (fun c48 => ?_)
          · refine ta_aloadn hE dX3_leadsTo_54 rfl ?_
            refine gr_X3_32 hE dX3_leadsTo_55 lx_26 rfl ?_
            refine ta_iload hE dX3_leadsTo_58 rfl ?_
            refine ta_iload hE dX3_leadsTo_60 rfl ?_
            refine ta_callV (C := RX1) (T := TX1) (st := []) hE dX3_leadsTo_62 (k_X1_go ok_27 v6_29 v7_35 m45) ml_X3_73 im_X1_go se_X1_go in_X1 co_X1_go hy_X1_go ⟨Nat.le_of_ble_eq_true rfl, Nat.le_of_ble_eq_true rfl⟩ (ok_27.1) rfl rfl rfl (fun _ => Nat.le_of_ble_eq_true rfl) (fun r62 m62 hx62 hr62 => ?_)
            change tg_AW E _ _ _ _ _ [] _
            refine ta_aloadn hE dX3_leadsTo_65 rfl ?_
            refine gr_X3_32 hE dX3_leadsTo_66 lx_26 rfl ?_
            refine gf_X3_77 hE dX3_leadsTo_69 (ok_27.1) rfl ?_
            refine ta_aloadn hE dX3_leadsTo_72 rfl ?_
            refine gr_X3_23 hE dX3_leadsTo_73 lx_26 rfl ?_
            refine gf_X3_80 hE dX3_leadsTo_76 lx_1 rfl ?_
            refine ta_join (γ := tg_Mem → tg_R) (fun J => ∀ (m_108 : tg_Mem), tg_AW E LX (some .boolean) (J m_108) 108 [tr_ 26, tj_, tj_, ti_ a1, ti_ a2, ti_ v5_11, ti_ v6_29, ti_ v7_35] [] m_108) ?_ (fun j108 hj108 => ?_)
            · intro m_108
              refine ta_aloadn hE dX3_leadsTo_108 rfl ?_
              refine gr_X3_32 hE dX3_leadsTo_109 lx_26 rfl ?_
              refine ta_iload hE dX3_leadsTo_112 rfl ?_
              refine ta_iload hE dX3_leadsTo_114 rfl ?_
              refine ta_callV (C := RX1) (T := TX1) (st := []) hE dX3_leadsTo_116 (k_X1_go ok_27 v6_29 v7_35 m_108) ml_X3_73 im_X1_go se_X1_go in_X1 co_X1_go hy_X1_go ⟨Nat.le_of_ble_eq_true rfl, Nat.le_of_ble_eq_true rfl⟩ (ok_27.1) rfl rfl rfl (fun _ => Nat.le_of_ble_eq_true rfl) (fun r116 m116 hx116 hr116 => ?_)
              change tg_AW E _ _ _ _ _ [] _
              exact (ta_wk (i := 6) (lv2 := [tr_ 26, tj_, tj_, ti_ a1, ti_ a2, ti_ v5_11, tj_, ti_ v7_35]) rfl (ta_wk (i := 7) (lv2 := [tr_ 26, tj_, tj_, ti_ a1, ti_ a2, ti_ v5_11, tj_, tj_]) rfl (hj119 m116)))
            · refine ta_icmp_gt (tgt := 108) hE dX3_leadsTo_79 (by decide) (fun c79 => ?_) (fun c79 => ?_)
              · exact (hj108 m62)
              · refine ta_aloadn hE dX3_leadsTo_82 rfl ?_
                refine gr_X3_32 hE dX3_leadsTo_83 lx_26 rfl ?_
                refine ta_iloadn hE dX3_leadsTo_86 rfl ?_
                refine ta_iload hE dX3_leadsTo_87 rfl ?_
                refine ta_callS (st := []) hE dX3_leadsTo_89 (k_X3_stand ok_27 a1 a2 m62) ml_X3_36 st_X3_stand in_X3 co_X3_stand hy_X3_stand.2 ⟨Nat.le_of_ble_eq_true rfl, Nat.le_of_ble_eq_true rfl⟩ rfl rfl (fun _ => Nat.le_of_ble_eq_true rfl) (fun r89 m89 hx89 hr89 => ?_)
                change tg_AW E _ _ _ _ _ (ti_ r89 :: _) _
                refine ta_if_eq (tgt := 97) hE dX3_leadsTo_92 (by decide) (fun c92 => ?_) (fun c92 => ?_)
                · refine ta_aloadn hE dX3_leadsTo_97 rfl ?_
                  refine ta_aloadn hE dX3_leadsTo_98 rfl ?_
                  refine gr_X3_32 hE dX3_leadsTo_99 lx_26 rfl ?_
                  refine ta_callV (C := RX1) (T := TX1) (st := [tr_ 26]) hE dX3_leadsTo_102 (k_X1_asKey ok_27 m89) ml_X3_46 im_X1_asKey se_X1_asKey in_X1 co_X1_asKey hy_X1_asKey ⟨Nat.le_of_ble_eq_true rfl, Nat.le_of_ble_eq_true rfl⟩ (ok_27.1) rfl rfl rfl (fun _ => Nat.le_of_ble_eq_true rfl) (fun r102 m102 hx102 hr102 => ?_)
                  change tg_AW E _ _ _ _ _ (tl_ r102 :: _) _
                  refine ta_callV (C := RX3) (T := TX3) (st := []) hE dX3_leadsTo_105 (k_X3_note r102 m102) ml_X3_50 im_X3_note se_X3_note in_X3 co_X3_note hy_X3_note ⟨Nat.le_of_ble_eq_true rfl, Nat.le_of_ble_eq_true rfl⟩ lx_26 rfl rfl rfl (fun _ => Nat.le_of_ble_eq_true rfl) (fun r105 m105 hx105 hr105 => ?_)
                  change tg_AW E _ _ _ _ _ [] _
                  exact (hj108 m105)
                · refine ta_iconst (v := 1) hE dX3_leadsTo_95 rfl ⟨by decide, by decide⟩ ?_
                  exact ta_zret hE dX3_leadsTo_96 (Or.inr rfl)
          · refine ta_goto (tgt := 119) hE dX3_leadsTo_51 (by decide) ?_
            exact (ta_wk (i := 6) (lv2 := [tr_ 26, tj_, tj_, ti_ a1, ti_ a2, ti_ v5_11, tj_, ti_ v7_35]) rfl (ta_wk (i := 7) (lv2 := [tr_ 26, tj_, tj_, ti_ a1, ti_ a2, ti_ v5_11, tj_, tj_]) rfl (hj119 m45))))
  exact (ta_wk (i := 1) (lv2 := [tr_ 26, tj_, tj_, ti_ a1, ti_ a2, ti_ 0, tj_, tj_]) rfl (hl11 tg_FU 0 m5))
noncomputable def f_X3_fewest_B56 (a1 : Int) (a2 : Int) (v5_38 : Int) (v6_50 : Int) (j96 : tg_Mem → tg_R) (self56 : Int → tg_Mem → tg_R) (v7_56 : Int) (m_56 : tg_Mem) : tg_R :=
  if v6_50 ≤ v7_56 then
    j96 m_56
  else
    if 1000 < v7_56 then
      j96 m_56
    else
      tg_ck (0 ≤ v7_56 ∧ v7_56 < 1001) (
        tg_bd (f_X3_leadsTo (m_56 30 (v7_56).toNat) a1 a2 m_56) (fun r81 m81 =>
          if r81 = 0 then
            tg_lt (tg_wi (v7_56 + 1)) (fun v7_90 =>
              self56 v7_90 m81)
          else
            some (v5_38, m81)))
noncomputable def f_X3_fewest_B38 (a1 : Int) (a2 : Int) (self38 : Int → Int → tg_Mem → tg_R) (v4_38 : Int) (v5_38 : Int) (m_38 : tg_Mem) : tg_R :=
  if 1001 < v5_38 then
    some ((-1), m_38)
  else
    tg_lt (m_38 26 4) (fun v6_50 =>
      tg_jn (γ := tg_Mem → tg_R) (fun (m_96 : tg_Mem) => if m_96 26 4 ≤ 1000 then
        if m_96 26 4 ≠ v6_50 then
          tg_lt (tg_wi (v5_38 + 1)) (fun v5_124 =>
            self38 v6_50 v5_124 m_96)
        else
          some ((-1), m_96)
      else
        some ((-4), m_96)) (fun j96 =>
        tg_fx (γ := Int → tg_Mem → tg_R) (f_X3_fewest_B56 a1 a2 v5_38 v6_50 j96) (fun _ _ => none) tg_FU v4_38 m_38))
noncomputable def f_X3_fewest (k0 : Nat) (a1 : Int) (a2 : Int) (m : tg_Mem) : tg_R :=
  tg_bd (f_X3_stand k0 a1 a2 m) (fun r3 m3 =>
    if r3 = 0 then
      tg_bd (f_J7_fill_53178 31 2048 0 m3) (fun _ m16 =>
        tg_lt (tg_up m16 26 4 0) (fun m21 =>
          tg_bd (f_X1_asKey k0 m21) (fun r26 m26 =>
            tg_bd (f_X3_note r26 m26) (fun _ m29 =>
              tg_fx (γ := Int → Int → tg_Mem → tg_R) (f_X3_fewest_B38 a1 a2) (fun _ _ _ => none) tg_FU 0 1 m29))))
    else
      some (0, m3))
theorem hy_X3_fewest : yX3_fewest.cls = RX3 ∧ yX3_fewest.cls ≠ "java/lang/invoke/MethodHandle" ∧ yX3_fewest.cls ≠ "java/lang/invoke/VarHandle" ∧ (parseMethodDescriptor yX3_fewest.desc).map (fun q => q.parameters.length) = some 3 := by decide +kernel
set_option maxRecDepth 100000 in
set_option maxHeartbeats 4000000 in
theorem k_X3_fewest {k0 : Nat} (hk0 : tg_okG k0) (a1 : Int) (a2 : Int) (m : tg_Mem) : tg_C yX3_fewest cX3_fewest 8 (some .int) 5 LX [tr_ 26, tr_ k0, ti_ a1, ti_ a2] (f_X3_fewest k0 a1 a2 m) m := by
  refine ta_enter2 (own := RX3) (by decide +kernel) rfl rfl (Nat.le_of_ble_eq_true rfl) rfl (fun E hE => ?_)
  unfold f_X3_fewest
  refine ta_aloadn hE dX3_fewest_0 rfl ?_
  refine ta_iloadn hE dX3_fewest_1 rfl ?_
  refine ta_iloadn hE dX3_fewest_2 rfl ?_
  refine ta_callS (st := []) hE dX3_fewest_3 (k_X3_stand hk0 a1 a2 m) ml_X3_36 st_X3_stand in_X3 co_X3_stand hy_X3_stand.2 ⟨Nat.le_of_ble_eq_true rfl, Nat.le_of_ble_eq_true rfl⟩ rfl rfl (fun _ => Nat.le_of_ble_eq_true rfl) (fun r3 m3 hx3 hr3 => ?_)
  change tg_AW E _ _ _ _ _ (ti_ r3 :: _) _
  refine ta_if_eq (tgt := 11) hE dX3_fewest_6 (by decide) (fun c6 => ?_) (fun c6 => ?_)
  · refine ta_aloadn hE dX3_fewest_11 rfl ?_
    refine gr_X3_15 hE dX3_fewest_12 lx_26 rfl ?_
    refine ta_iconst (v := 0) hE dX3_fewest_15 rfl ⟨by decide, by decide⟩ ?_
    refine ta_callS (st := []) hE dX3_fewest_16 (k_J7_fill_53178 lx_31 (by decide) 0 m3) ml_X3_40 st_J7_fill_53178 in_J7 co_J7_fill_53178 hy_J7_fill_53178.2 ⟨Nat.le_of_ble_eq_true rfl, Nat.le_of_ble_eq_true rfl⟩ rfl rfl (fun _ => Nat.le_of_ble_eq_true rfl) (fun r16 m16 hx16 hr16 => ?_)
    change tg_AW E _ _ _ _ _ [] _
    refine ta_aloadn hE dX3_fewest_19 rfl ?_
    refine ta_iconst (v := 0) hE dX3_fewest_20 rfl ⟨by decide, by decide⟩ ?_
    refine pf_X3_19 hE dX3_fewest_21 lx_26 rfl ?_
    refine ta_nmm (fun m21 => ?_)
    refine ta_aloadn hE dX3_fewest_24 rfl ?_
    refine ta_aloadn hE dX3_fewest_25 rfl ?_
    refine ta_callV (C := RX1) (T := TX1) (st := [tr_ 26]) hE dX3_fewest_26 (k_X1_asKey hk0 m21) ml_X3_46 im_X1_asKey se_X1_asKey in_X1 co_X1_asKey hy_X1_asKey ⟨Nat.le_of_ble_eq_true rfl, Nat.le_of_ble_eq_true rfl⟩ (hk0.1) rfl rfl rfl (fun _ => Nat.le_of_ble_eq_true rfl) (fun r26 m26 hx26 hr26 => ?_)
    change tg_AW E _ _ _ _ _ (tl_ r26 :: _) _
    refine ta_callV (C := RX3) (T := TX3) (st := []) hE dX3_fewest_29 (k_X3_note r26 m26) ml_X3_50 im_X3_note se_X3_note in_X3 co_X3_note hy_X3_note ⟨Nat.le_of_ble_eq_true rfl, Nat.le_of_ble_eq_true rfl⟩ lx_26 rfl rfl rfl (fun _ => Nat.le_of_ble_eq_true rfl) (fun r29 m29 hx29 hr29 => ?_)
    change tg_AW E _ _ _ _ _ [] _
    refine ta_iconst (v := 0) hE dX3_fewest_32 rfl ⟨by decide, by decide⟩ ?_
    refine ta_istore (lv2 := [tr_ 26, tr_ k0, ti_ a1, ti_ a2, ti_ 0, tj_, tj_, tj_]) hE dX3_fewest_33 (Nat.le_of_ble_eq_true rfl) rfl rfl ?_
    refine ta_iconst (v := 1) hE dX3_fewest_35 rfl ⟨by decide, by decide⟩ ?_
    refine ta_istore (lv2 := [tr_ 26, tr_ k0, ti_ a1, ti_ a2, ti_ 0, ti_ 1, tj_, tj_]) hE dX3_fewest_36 (Nat.le_of_ble_eq_true rfl) rfl rfl ?_
    have hl38 := ta_fx (γ := Int → Int → tg_Mem → tg_R) (F := (f_X3_fewest_B38 a1 a2)) (z := (fun _ _ _ => none)) (fun J => ∀ (v4_38 : Int) (v5_38 : Int) (m_38 : tg_Mem), tg_AW E LX (some .int) (J v4_38 v5_38 m_38) 38 [tr_ 26, tj_, ti_ a1, ti_ a2, ti_ v4_38, ti_ v5_38, tj_, tj_] [] m_38) (by intros; exact ta_none) (fun self38 hself38 => by
        intro v4_38 v5_38 m_38
        unfold f_X3_fewest_B38
        refine ta_iload hE dX3_fewest_38 rfl ?_
        refine sp_1001 hE dX3_fewest_40 ?_
        refine ta_icmp_gt (tgt := 130) hE dX3_fewest_43 (by decide) (fun c43 => ?_) (fun c43 => ?_)
        · refine ta_iconst (v := (-1)) hE dX3_fewest_130 rfl ⟨by decide, by decide⟩ ?_
          exact ta_iret hE dX3_fewest_131
        · refine ta_aloadn hE dX3_fewest_46 rfl ?_
          refine gf_X3_19 hE dX3_fewest_47 lx_26 rfl ?_
          refine ta_nmi (fun v6_50 => ?_)
          refine ta_istore (lv2 := [tr_ 26, tj_, ti_ a1, ti_ a2, ti_ v4_38, ti_ v5_38, ti_ v6_50, tj_]) hE dX3_fewest_50 (Nat.le_of_ble_eq_true rfl) rfl rfl ?_
          refine ta_iload hE dX3_fewest_52 rfl ?_
          refine ta_istore (lv2 := [tr_ 26, tj_, ti_ a1, ti_ a2, ti_ v4_38, ti_ v5_38, ti_ v6_50, ti_ v4_38]) hE dX3_fewest_54 (Nat.le_of_ble_eq_true rfl) rfl rfl ?_
          refine ta_join (γ := tg_Mem → tg_R) (fun J => ∀ (m_96 : tg_Mem), tg_AW E LX (some .int) (J m_96) 96 [tr_ 26, tj_, ti_ a1, ti_ a2, tj_, ti_ v5_38, ti_ v6_50, tj_] [] m_96) ?_ (fun j96 hj96 => ?_)
          · intro m_96
            refine ta_aloadn hE dX3_fewest_96 rfl ?_
            refine gf_X3_19 hE dX3_fewest_97 lx_26 rfl ?_
            refine sp_1000 hE dX3_fewest_100 ?_
            refine ta_icmp_le (tgt := 109) hE dX3_fewest_103 (by decide) (fun c103 => ?_) (fun c103 => ?_)
            · refine ta_aloadn hE dX3_fewest_109 rfl ?_
              refine gf_X3_19 hE dX3_fewest_110 lx_26 rfl ?_
              refine ta_iload hE dX3_fewest_113 rfl ?_
              refine ta_icmp_ne (tgt := 120) hE dX3_fewest_115 (by decide) (fun c115 => ?_) (fun c115 => ?_)
              · refine ta_iload hE dX3_fewest_120 rfl ?_
                refine ta_istore (lv2 := [tr_ 26, tj_, ti_ a1, ti_ a2, ti_ v6_50, ti_ v5_38, ti_ v6_50, tj_]) hE dX3_fewest_122 (Nat.le_of_ble_eq_true rfl) rfl rfl ?_
                refine ta_iincn (lv2 := fun v5_124 => [tr_ 26, tj_, ti_ a1, ti_ a2, ti_ v6_50, ti_ v5_124, ti_ v6_50, tj_]) hE dX3_fewest_124 rfl rfl rfl (fun v5_124 => ?_)
                refine ta_goto (tgt := 38) hE dX3_fewest_127 (by decide) ?_
                exact (ta_wk (i := 6) (lv2 := [tr_ 26, tj_, ti_ a1, ti_ a2, ti_ v6_50, ti_ v5_124, tj_, tj_]) rfl (hself38 v6_50 v5_124 m_96))
              · refine ta_iconst (v := (-1)) hE dX3_fewest_118 rfl ⟨by decide, by decide⟩ ?_
                exact ta_iret hE dX3_fewest_119
            · refine bp_n4 hE dX3_fewest_106 ?_
              exact ta_iret hE dX3_fewest_108
          · have hl56 := ta_fx (γ := Int → tg_Mem → tg_R) (F := (f_X3_fewest_B56 a1 a2 v5_38 v6_50 j96)) (z := (fun _ _ => none)) (fun J => ∀ (v7_56 : Int) (m_56 : tg_Mem), tg_AW E LX (some .int) (J v7_56 m_56) 56 [tr_ 26, tj_, ti_ a1, ti_ a2, tj_, ti_ v5_38, ti_ v6_50, ti_ v7_56] [] m_56) (by intros; exact ta_none) (fun self56 hself56 => by
                intro v7_56 m_56
                unfold f_X3_fewest_B56
                refine ta_iload hE dX3_fewest_56 rfl ?_
                refine ta_iload hE dX3_fewest_58 rfl ?_
                refine ta_icmp_ge (tgt := 96) hE dX3_fewest_60 (by decide) (fun c60 => ?_) (fun c60 => ?_)
                · exact (ta_wk (i := 7) (lv2 := [tr_ 26, tj_, ti_ a1, ti_ a2, tj_, ti_ v5_38, ti_ v6_50, tj_]) rfl (hj96 m_56))
                · refine ta_iload hE dX3_fewest_63 rfl ?_
                  refine sp_1000 hE dX3_fewest_65 ?_
                  refine ta_icmp_gt (tgt := 96) hE dX3_fewest_68 (by decide) (fun c68 => ?_) (fun c68 => ?_)
                  · exact (ta_wk (i := 7) (lv2 := [tr_ 26, tj_, ti_ a1, ti_ a2, tj_, ti_ v5_38, ti_ v6_50, tj_]) rfl (hj96 m_56))
                  · refine ta_aloadn hE dX3_fewest_71 rfl ?_
                    refine ta_aloadn hE dX3_fewest_72 rfl ?_
                    refine gr_X3_11 hE dX3_fewest_73 lx_26 rfl ?_
                    refine ta_iload hE dX3_fewest_76 rfl ?_
                    refine ta_lald (n' := 1001) hE dX3_fewest_78 lx_30 rfl (fun _ _ => ?_)
                    refine ta_iloadn hE dX3_fewest_79 rfl ?_
                    refine ta_iloadn hE dX3_fewest_80 rfl ?_
                    refine ta_callV (C := RX3) (T := TX3) (st := []) hE dX3_fewest_81 (k_X3_leadsTo (m_56 30 (v7_56).toNat) a1 a2 m_56) ml_X3_54 im_X3_leadsTo se_X3_leadsTo in_X3 co_X3_leadsTo hy_X3_leadsTo ⟨Nat.le_of_ble_eq_true rfl, Nat.le_of_ble_eq_true rfl⟩ lx_26 rfl rfl rfl (fun _ => Nat.le_of_ble_eq_true rfl) (fun r81 m81 hx81 hr81 => ?_)
                    change tg_AW E _ _ _ _ _ (ti_ r81 :: _) _
                    refine ta_if_eq (tgt := 90) hE dX3_fewest_84 (by decide) (fun c84 => ?_) (fun c84 => ?_)
                    · refine ta_iincn (lv2 := fun v7_90 => [tr_ 26, tj_, ti_ a1, ti_ a2, tj_, ti_ v5_38, ti_ v6_50, ti_ v7_90]) hE dX3_fewest_90 rfl rfl rfl (fun v7_90 => ?_)
                      refine ta_goto (tgt := 56) hE dX3_fewest_93 (by decide) ?_
                      exact (hself56 v7_90 m81)
                    · refine ta_iload hE dX3_fewest_87 rfl ?_
                      exact ta_iret hE dX3_fewest_89)
            exact (ta_wk (i := 4) (lv2 := [tr_ 26, tj_, ti_ a1, ti_ a2, tj_, ti_ v5_38, ti_ v6_50, ti_ v4_38]) rfl (hl56 tg_FU v4_38 m_38)))
    exact (ta_wk (i := 1) (lv2 := [tr_ 26, tj_, ti_ a1, ti_ a2, ti_ 0, ti_ 1, tj_, tj_]) rfl (hl38 tg_FU 0 1 m29))
  · refine ta_iconst (v := 0) hE dX3_fewest_9 rfl ⟨by decide, by decide⟩ ?_
    exact ta_iret hE dX3_fewest_10
noncomputable def f_X7_soon (a0 : Int) (a1 : Int) (a2 : Int) (m : tg_Mem) : tg_R :=
  tg_bd (f_X7_isBelow a0 2 m) (fun r2 m2 =>
    if r2 = 0 then
      some ((-2), m2)
    else
      tg_bd (f_X7_isBelow a1 8 m2) (fun r11 m11 =>
        if r11 = 0 then
          some ((-2), m11)
        else
          tg_bd (f_X7_isBelow a2 8 m11) (fun r20 m20 =>
            if r20 ≠ 0 then
              tg_bd (f_X7_ended a0 m20) (fun r35 m35 =>
                tg_bd (f_X3_fewest (r35.toNat + 3) a1 a2 m35) (fun r43 m43 =>
                  some (r43, m43)))
            else
              some ((-2), m20))))
theorem hy_X7_soon : yX7_soon.cls = RX7 ∧ yX7_soon.cls ≠ "java/lang/invoke/MethodHandle" ∧ yX7_soon.cls ≠ "java/lang/invoke/VarHandle" ∧ (parseMethodDescriptor yX7_soon.desc).map (fun q => q.parameters.length) = some 3 := by decide +kernel
set_option maxRecDepth 100000 in
set_option maxHeartbeats 4000000 in
theorem k_X7_soon   (a0 : Int) (a1 : Int) (a2 : Int) (m : tg_Mem) : tg_C yX7_soon cX7_soon 4 (some .int) 7 LX [tr_ 0, ti_ a0, ti_ a1, ti_ a2] (f_X7_soon a0 a1 a2 m) m := by
  refine ta_enter2 (own := RX7) (by decide +kernel) rfl rfl (Nat.le_of_ble_eq_true rfl) rfl (fun E hE => ?_)
  unfold f_X7_soon
  refine ta_iloadn hE dX7_soon_0 rfl ?_
  refine ta_iconst (v := 2) hE dX7_soon_1 rfl ⟨by decide, by decide⟩ ?_
  refine ta_callS (st := []) hE dX7_soon_2 (k_X7_isBelow a0 2 m) ml_X7_60 st_X7_isBelow in_X7 co_X7_isBelow hy_X7_isBelow.2 ⟨Nat.le_of_ble_eq_true rfl, Nat.le_of_ble_eq_true rfl⟩ rfl rfl (fun _ => Nat.le_of_ble_eq_true rfl) (fun r2 m2 hx2 hr2 => ?_)
  change tg_AW E _ _ _ _ _ (ti_ r2 :: _) _
  refine ta_if_eq (tgt := 26) hE dX7_soon_5 (by decide) (fun c5 => ?_) (fun c5 => ?_)
  · refine bp_n2 hE dX7_soon_26 ?_
    exact ta_iret hE dX7_soon_28
  · refine ta_iloadn hE dX7_soon_8 rfl ?_
    refine bp_8 hE dX7_soon_9 ?_
    refine ta_callS (st := []) hE dX7_soon_11 (k_X7_isBelow a1 8 m2) ml_X7_60 st_X7_isBelow in_X7 co_X7_isBelow hy_X7_isBelow.2 ⟨Nat.le_of_ble_eq_true rfl, Nat.le_of_ble_eq_true rfl⟩ rfl rfl (fun _ => Nat.le_of_ble_eq_true rfl) (fun r11 m11 hx11 hr11 => ?_)
    change tg_AW E _ _ _ _ _ (ti_ r11 :: _) _
    refine ta_if_eq (tgt := 26) hE dX7_soon_14 (by decide) (fun c14 => ?_) (fun c14 => ?_)
    · refine bp_n2 hE dX7_soon_26 ?_
      exact ta_iret hE dX7_soon_28
    · refine ta_iloadn hE dX7_soon_17 rfl ?_
      refine bp_8 hE dX7_soon_18 ?_
      refine ta_callS (st := []) hE dX7_soon_20 (k_X7_isBelow a2 8 m11) ml_X7_60 st_X7_isBelow in_X7 co_X7_isBelow hy_X7_isBelow.2 ⟨Nat.le_of_ble_eq_true rfl, Nat.le_of_ble_eq_true rfl⟩ rfl rfl (fun _ => Nat.le_of_ble_eq_true rfl) (fun r20 m20 hx20 hr20 => ?_)
      change tg_AW E _ _ _ _ _ (ti_ r20 :: _) _
      refine ta_if_ne (tgt := 29) hE dX7_soon_23 (by decide) (fun c23 => ?_) (fun c23 => ?_)
      · refine ta_aloadn hE dX7_soon_29 rfl ?_
        refine gr_X7_31 hE dX7_soon_30 lx_0 rfl ?_
        refine ta_aloadn hE dX7_soon_33 rfl ?_
        refine ta_iloadn hE dX7_soon_34 rfl ?_
        refine ta_callV (C := RX7) (T := TX7) (st := [tr_ 26]) hE dX7_soon_35 (k_X7_ended a0 m20) ml_X7_128 im_X7_ended se_X7_ended in_X7 co_X7_ended hy_X7_ended ⟨Nat.le_of_ble_eq_true rfl, Nat.le_of_ble_eq_true rfl⟩ lx_0 rfl rfl rfl (fun _ => Nat.le_of_ble_eq_true rfl) (fun r35 m35 hx35 hr35 => ?_)
        change tg_AW E _ _ _ _ _ (tr_ r35.toNat :: _) _
        refine gr_X7_140 hE dX7_soon_38 ((ok_X7_ended hx35).1) rfl ?_
        refine ta_iloadn hE dX7_soon_41 rfl ?_
        refine ta_iloadn hE dX7_soon_42 rfl ?_
        refine ta_callV (C := RX3) (T := TX3) (st := []) hE dX7_soon_43 (k_X3_fewest ((ok_X7_ended hx35).2.2.1) a1 a2 m35) ml_X7_150 im_X3_fewest se_X3_fewest in_X3 co_X3_fewest hy_X3_fewest ⟨Nat.le_of_ble_eq_true rfl, Nat.le_of_ble_eq_true rfl⟩ lx_26 rfl rfl rfl (fun _ => Nat.le_of_ble_eq_true rfl) (fun r43 m43 hx43 hr43 => ?_)
        change tg_AW E _ _ _ _ _ (ti_ r43 :: _) _
        exact ta_iret hE dX7_soon_46
      · refine bp_n2 hE dX7_soon_26 ?_
        exact ta_iret hE dX7_soon_28
noncomputable def f_X7_loose (a0 : Int) (m : tg_Mem) : tg_R :=
  tg_bd (f_X7_isBelow a0 2 m) (fun r2 m2 =>
    if r2 = 0 then
      some ((-2), m2)
    else
      tg_bd (f_X7_ended a0 m2) (fun r10 m10 =>
        some (m10 (r10.toNat + 3) 4, m10)))
theorem hy_X7_loose : yX7_loose.cls = RX7 ∧ yX7_loose.cls ≠ "java/lang/invoke/MethodHandle" ∧ yX7_loose.cls ≠ "java/lang/invoke/VarHandle" ∧ (parseMethodDescriptor yX7_loose.desc).map (fun q => q.parameters.length) = some 1 := by decide +kernel
set_option maxRecDepth 100000 in
set_option maxHeartbeats 4000000 in
theorem k_X7_loose   (a0 : Int) (m : tg_Mem) : tg_C yX7_loose cX7_loose 2 (some .int) 7 LX [tr_ 0, ti_ a0] (f_X7_loose a0 m) m := by
  refine ta_enter2 (own := RX7) (by decide +kernel) rfl rfl (Nat.le_of_ble_eq_true rfl) rfl (fun E hE => ?_)
  unfold f_X7_loose
  refine ta_iloadn hE dX7_loose_0 rfl ?_
  refine ta_iconst (v := 2) hE dX7_loose_1 rfl ⟨by decide, by decide⟩ ?_
  refine ta_callS (st := []) hE dX7_loose_2 (k_X7_isBelow a0 2 m) ml_X7_60 st_X7_isBelow in_X7 co_X7_isBelow hy_X7_isBelow.2 ⟨Nat.le_of_ble_eq_true rfl, Nat.le_of_ble_eq_true rfl⟩ rfl rfl (fun _ => Nat.le_of_ble_eq_true rfl) (fun r2 m2 hx2 hr2 => ?_)
  change tg_AW E _ _ _ _ _ (ti_ r2 :: _) _
  refine ta_if_eq (tgt := 22) hE dX7_loose_5 (by decide) (fun c5 => ?_) (fun c5 => ?_)
  · refine bp_n2 hE dX7_loose_22 ?_
    exact ta_iret hE dX7_loose_24
  · refine ta_aloadn hE dX7_loose_8 rfl ?_
    refine ta_iloadn hE dX7_loose_9 rfl ?_
    refine ta_callV (C := RX7) (T := TX7) (st := []) hE dX7_loose_10 (k_X7_ended a0 m2) ml_X7_128 im_X7_ended se_X7_ended in_X7 co_X7_ended hy_X7_ended ⟨Nat.le_of_ble_eq_true rfl, Nat.le_of_ble_eq_true rfl⟩ lx_0 rfl rfl rfl (fun _ => Nat.le_of_ble_eq_true rfl) (fun r10 m10 hx10 hr10 => ?_)
    change tg_AW E _ _ _ _ _ (tr_ r10.toNat :: _) _
    refine gr_X7_140 hE dX7_loose_13 ((ok_X7_ended hx10).1) rfl ?_
    refine gf_X7_154 hE dX7_loose_16 ((ok_X7_ended hx10).2.2.1.1) rfl ?_
    refine ta_goto (tgt := 24) hE dX7_loose_19 (by decide) ?_
    exact ta_iret hE dX7_loose_24
noncomputable def f_X2_shorter (a0 : Int) (a1 : Int) (m : tg_Mem) : tg_R :=
  tg_lt (tg_min a0 a1) (fun v3_5 =>
    tg_lt (tg_max a0 a1) (fun v4_11 =>
      tg_bd (f_X2_yardsOf v4_11 m) (fun r16 m16 =>
        tg_bd (f_X2_yardsOf v3_5 m16) (fun r21 m21 =>
          if r21 ≤ r16 then
            some (v3_5, m21)
          else
            some (v4_11, m21)))))
theorem hy_X2_shorter : yX2_shorter.cls = RX2 ∧ yX2_shorter.cls ≠ "java/lang/invoke/MethodHandle" ∧ yX2_shorter.cls ≠ "java/lang/invoke/VarHandle" ∧ (parseMethodDescriptor yX2_shorter.desc).map (fun q => q.parameters.length) = some 2 := by decide +kernel
set_option maxRecDepth 100000 in
set_option maxHeartbeats 4000000 in
theorem k_X2_shorter   (a0 : Int) (a1 : Int) (m : tg_Mem) : tg_C yX2_shorter cX2_shorter 5 (some .int) 2 LX [tr_ 1, ti_ a0, ti_ a1] (f_X2_shorter a0 a1 m) m := by
  refine ta_enter2 (own := RX2) (by decide +kernel) rfl rfl (Nat.le_of_ble_eq_true rfl) rfl (fun E hE => ?_)
  unfold f_X2_shorter
  refine ta_iloadn hE dX2_shorter_0 rfl ?_
  refine ta_iloadn hE dX2_shorter_1 rfl ?_
  refine ta_mmin hE dX2_shorter_2 ml_X2_73 st_J9_min_7cf53 in_J9 co_J9_min_7cf53 rfl (Nat.le_of_ble_eq_true rfl) (fun _ => Nat.le_of_ble_eq_true rfl) ?_
  refine ta_nmi (fun v3_5 => ?_)
  refine ta_istoren (lv2 := [tr_ 1, ti_ a0, ti_ a1, ti_ v3_5, tj_]) hE dX2_shorter_5 (Nat.le_of_ble_eq_true rfl) rfl rfl ?_
  refine ta_iloadn hE dX2_shorter_6 rfl ?_
  refine ta_iloadn hE dX2_shorter_7 rfl ?_
  refine ta_mmax hE dX2_shorter_8 ml_X2_78 st_J9_max_7cf53 in_J9 co_J9_max_7cf53 rfl (Nat.le_of_ble_eq_true rfl) (fun _ => Nat.le_of_ble_eq_true rfl) ?_
  refine ta_nmi (fun v4_11 => ?_)
  refine ta_istore (lv2 := [tr_ 1, ti_ a0, ti_ a1, ti_ v3_5, ti_ v4_11]) hE dX2_shorter_11 (Nat.le_of_ble_eq_true rfl) rfl rfl ?_
  refine ta_aloadn hE dX2_shorter_13 rfl ?_
  refine ta_iload hE dX2_shorter_14 rfl ?_
  refine ta_callV (C := RX2) (T := TX2) (st := []) hE dX2_shorter_16 (k_X2_yardsOf v4_11 m) ml_X2_81 im_X2_yardsOf se_X2_yardsOf in_X2 co_X2_yardsOf hy_X2_yardsOf ⟨Nat.le_of_ble_eq_true rfl, Nat.le_of_ble_eq_true rfl⟩ lx_1 rfl rfl rfl (fun _ => Nat.le_of_ble_eq_true rfl) (fun r16 m16 hx16 hr16 => ?_)
  change tg_AW E _ _ _ _ _ (ti_ r16 :: _) _
  refine ta_aloadn hE dX2_shorter_19 rfl ?_
  refine ta_iloadn hE dX2_shorter_20 rfl ?_
  refine ta_callV (C := RX2) (T := TX2) (st := [ti_ r16]) hE dX2_shorter_21 (k_X2_yardsOf v3_5 m16) ml_X2_81 im_X2_yardsOf se_X2_yardsOf in_X2 co_X2_yardsOf hy_X2_yardsOf ⟨Nat.le_of_ble_eq_true rfl, Nat.le_of_ble_eq_true rfl⟩ lx_1 rfl rfl rfl (fun _ => Nat.le_of_ble_eq_true rfl) (fun r21 m21 hx21 hr21 => ?_)
  change tg_AW E _ _ _ _ _ (ti_ r21 :: _) _
  refine ta_icmp_ge (tgt := 32) hE dX2_shorter_24 (by decide) (fun c24 => ?_) (fun c24 => ?_)
  · refine ta_iloadn hE dX2_shorter_32 rfl ?_
    exact ta_iret hE dX2_shorter_33
  · refine ta_iload hE dX2_shorter_27 rfl ?_
    refine ta_goto (tgt := 33) hE dX2_shorter_29 (by decide) ?_
    exact ta_iret hE dX2_shorter_33
noncomputable def f_X1_relay_B24 (k : Nat) (k0 : Nat) (a1 : Int) (a2 : Int) (r6 : Int) (self24 : Int → tg_Mem → tg_R) (v5_24 : Int) (m_24 : tg_Mem) : tg_R :=
  if m_24 k0 4 ≤ v5_24 then
    some (0, m_24)
  else
    tg_bd (f_X1_pathAt k0 v5_24 m_24) (fun r36 m36 =>
      tg_jn (γ := Int → tg_R) (fun (s0_62 : Int) => tg_bd (f_X1_go k 1 s0_62 m36) (fun _ m62 =>
        tg_lt (tg_wi (v5_24 + 1)) (fun v5_65 =>
          self24 v5_65 m62))) (fun j62 =>
        tg_jn (γ := tg_R) (j62 r6) (fun j55 =>
          if r36 = a1 then
            j55
          else
            if r36 ≠ a2 then
              j62 r36
            else
              j55)))
noncomputable def f_X1_relay (k : Nat) (k0 : Nat) (a1 : Int) (a2 : Int) (m : tg_Mem) : tg_R :=
  tg_bd (f_X2_shorter a1 a2 m) (fun r6 m6 =>
    tg_ck (0 ≤ 0 ∧ 0 < 2) (
      tg_bd (f_X1_standBoth k (m6 (k0 + 1) 0) m6) (fun _ m18 =>
        tg_fx (γ := Int → tg_Mem → tg_R) (f_X1_relay_B24 k k0 a1 a2 r6) (fun _ _ => none) tg_FU 0 m18)))
theorem hy_X1_relay : yX1_relay.cls = RX1 ∧ yX1_relay.cls ≠ "java/lang/invoke/MethodHandle" ∧ yX1_relay.cls ≠ "java/lang/invoke/VarHandle" ∧ (parseMethodDescriptor yX1_relay.desc).map (fun q => q.parameters.length) = some 3 := by decide +kernel
set_option maxRecDepth 100000 in
set_option maxHeartbeats 4000000 in
theorem k_X1_relay {k : Nat} {k0 : Nat} (hk : tg_okG k) (hk0 : tg_okG k0) (a1 : Int) (a2 : Int) (m : tg_Mem) : tg_C yX1_relay cX1_relay 7 none 3 LX [tr_ k, tr_ k0, ti_ a1, ti_ a2] (f_X1_relay k k0 a1 a2 m) m := by
  refine ta_enter2 (own := RX1) (by decide +kernel) rfl rfl (Nat.le_of_ble_eq_true rfl) rfl (fun E hE => ?_)
  unfold f_X1_relay
  refine ta_aloadn hE dX1_relay_0 rfl ?_
  refine gr_X1_28 hE dX1_relay_1 (hk.1) rfl ?_
  refine ta_iloadn hE dX1_relay_4 rfl ?_
  refine ta_iloadn hE dX1_relay_5 rfl ?_
  refine ta_callV (C := RX2) (T := TX2) (st := []) hE dX1_relay_6 (k_X2_shorter a1 a2 m) ml_X1_44 im_X2_shorter se_X2_shorter in_X2 co_X2_shorter hy_X2_shorter ⟨Nat.le_of_ble_eq_true rfl, Nat.le_of_ble_eq_true rfl⟩ lx_1 rfl rfl rfl (fun _ => Nat.le_of_ble_eq_true rfl) (fun r6 m6 hx6 hr6 => ?_)
  change tg_AW E _ _ _ _ _ (ti_ r6 :: _) _
  refine ta_istore (lv2 := [tr_ k, tr_ k0, ti_ a1, ti_ a2, ti_ r6, tj_, tj_]) hE dX1_relay_9 (Nat.le_of_ble_eq_true rfl) rfl rfl ?_
  refine ta_aloadn hE dX1_relay_11 rfl ?_
  refine ta_aloadn hE dX1_relay_12 rfl ?_
  refine gr_X1_9 hE dX1_relay_13 (hk0.1) rfl ?_
  refine ta_iconst (v := 0) hE dX1_relay_16 rfl ⟨by decide, by decide⟩ ?_
  refine ta_iald (n' := 2) hE dX1_relay_17 (hk0.2.1) rfl (fun _ _ => ?_)
  refine ta_callV (C := RX1) (T := TX1) (st := []) hE dX1_relay_18 (k_X1_standBoth hk (m6 (k0 + 1) 0) m6) ml_X1_32 im_X1_standBoth se_X1_standBoth in_X1 co_X1_standBoth hy_X1_standBoth ⟨Nat.le_of_ble_eq_true rfl, Nat.le_of_ble_eq_true rfl⟩ (hk.1) rfl rfl rfl (fun _ => Nat.le_of_ble_eq_true rfl) (fun r18 m18 hx18 hr18 => ?_)
  change tg_AW E _ _ _ _ _ [] _
  refine ta_iconst (v := 0) hE dX1_relay_21 rfl ⟨by decide, by decide⟩ ?_
  refine ta_istore (lv2 := [tr_ k, tr_ k0, ti_ a1, ti_ a2, ti_ r6, ti_ 0, tj_]) hE dX1_relay_22 (Nat.le_of_ble_eq_true rfl) rfl rfl ?_
  have hl24 := ta_fx (γ := Int → tg_Mem → tg_R) (F := (f_X1_relay_B24 k k0 a1 a2 r6)) (z := (fun _ _ => none)) (fun J => ∀ (v5_24 : Int) (m_24 : tg_Mem), tg_AW E LX none (J v5_24 m_24) 24 [tr_ k, tr_ k0, ti_ a1, ti_ a2, ti_ r6, ti_ v5_24, tj_] [] m_24) (by intros; exact ta_none) (fun self24 hself24 => by
      intro v5_24 m_24
      unfold f_X1_relay_B24
      refine ta_iload hE dX1_relay_24 rfl ?_
      refine ta_aloadn hE dX1_relay_26 rfl ?_
      refine gf_X1_22 hE dX1_relay_27 (hk0.1) rfl ?_
      refine ta_icmp_ge (tgt := 71) hE dX1_relay_30 (by decide) (fun c30 => ?_) (fun c30 => ?_)
      · exact ta_vret hE dX1_relay_71
      · refine ta_aloadn hE dX1_relay_33 rfl ?_
        refine ta_iload hE dX1_relay_34 rfl ?_
        refine ta_callV (C := RX1) (T := TX1) (st := []) hE dX1_relay_36 (k_X1_pathAt hk0 v5_24 m_24) ml_X1_36 im_X1_pathAt se_X1_pathAt in_X1 co_X1_pathAt hy_X1_pathAt ⟨Nat.le_of_ble_eq_true rfl, Nat.le_of_ble_eq_true rfl⟩ (hk0.1) rfl rfl rfl (fun _ => Nat.le_of_ble_eq_true rfl) (fun r36 m36 hx36 hr36 => ?_)
        change tg_AW E _ _ _ _ _ (ti_ r36 :: _) _
        refine ta_istore (lv2 := [tr_ k, tr_ k0, ti_ a1, ti_ a2, ti_ r6, ti_ v5_24, ti_ r36]) hE dX1_relay_39 (Nat.le_of_ble_eq_true rfl) rfl rfl ?_
        refine ta_aloadn hE dX1_relay_41 rfl ?_
        refine ta_iconst (v := 1) hE dX1_relay_42 rfl ⟨by decide, by decide⟩ ?_
        refine ta_iload hE dX1_relay_43 rfl ?_
        refine ta_iloadn hE dX1_relay_45 rfl ?_
        refine ta_join (γ := Int → tg_R) (fun J => ∀ (s0_62 : Int), tg_AW E LX none (J s0_62) 62 [tr_ k, tr_ k0, ti_ a1, ti_ a2, ti_ r6, ti_ v5_24, tj_] [ti_ s0_62, ti_ 1, tr_ k] m36) ?_ (fun j62 hj62 => ?_)
        · intro s0_62
          refine ta_callV (C := RX1) (T := TX1) (st := []) hE dX1_relay_62 (k_X1_go hk 1 s0_62 m36) ml_X1_40 im_X1_go se_X1_go in_X1 co_X1_go hy_X1_go ⟨Nat.le_of_ble_eq_true rfl, Nat.le_of_ble_eq_true rfl⟩ (hk.1) rfl rfl rfl (fun _ => Nat.le_of_ble_eq_true rfl) (fun r62 m62 hx62 hr62 => ?_)
          change tg_AW E _ _ _ _ _ [] _
          refine ta_iincn (lv2 := fun v5_65 => [tr_ k, tr_ k0, ti_ a1, ti_ a2, ti_ r6, ti_ v5_65, tj_]) hE dX1_relay_65 rfl rfl rfl (fun v5_65 => ?_)
          refine ta_goto (tgt := 24) hE dX1_relay_68 (by decide) ?_
          exact (hself24 v5_65 m62)
        · refine ta_join (γ := tg_R) (fun J => tg_AW E LX none J 55 [tr_ k, tr_ k0, ti_ a1, ti_ a2, ti_ r6, ti_ v5_24, tj_] [ti_ 1, tr_ k] m36) ?_ (fun j55 hj55 => ?_)
          · refine ta_iload hE dX1_relay_55 rfl ?_
            refine ta_goto (tgt := 62) hE dX1_relay_57 (by decide) ?_
            exact (hj62 r6)
          · refine ta_icmp_eq (tgt := 55) hE dX1_relay_46 (by decide) (fun c46 => ?_) (fun c46 => ?_)
            · exact (ta_wk (i := 6) (lv2 := [tr_ k, tr_ k0, ti_ a1, ti_ a2, ti_ r6, ti_ v5_24, tj_]) rfl hj55)
            · refine ta_iload hE dX1_relay_49 rfl ?_
              refine ta_iloadn hE dX1_relay_51 rfl ?_
              refine ta_icmp_ne (tgt := 60) hE dX1_relay_52 (by decide) (fun c52 => ?_) (fun c52 => ?_)
              · refine ta_iload hE dX1_relay_60 rfl ?_
                exact (ta_wk (i := 6) (lv2 := [tr_ k, tr_ k0, ti_ a1, ti_ a2, ti_ r6, ti_ v5_24, tj_]) rfl (hj62 r36))
              · exact (ta_wk (i := 6) (lv2 := [tr_ k, tr_ k0, ti_ a1, ti_ a2, ti_ r6, ti_ v5_24, tj_]) rfl hj55))
  exact (hl24 tg_FU 0 m18)
noncomputable def f_X2_haveSameEnds (a0 : Int) (a1 : Int) (m : tg_Mem) : tg_R :=
  tg_bd (f_X2_figure a1 0 m) (fun r5 m5 =>
    tg_bd (f_X2_leadsFrom a0 r5 m5) (fun r8 m8 =>
      tg_jn (γ := tg_Mem → tg_R) (fun (m_32 : tg_Mem) => some (0, m_32)) (fun j32 =>
        if r8 = 0 then
          j32 m8
        else
          tg_bd (f_X2_figure a1 1 m8) (fun r19 m19 =>
            tg_bd (f_X2_leadsFrom a0 r19 m19) (fun r22 m22 =>
              if r22 = 0 then
                j32 m22
              else
                some (1, m22))))))
theorem hy_X2_haveSameEnds : yX2_haveSameEnds.cls = RX2 ∧ yX2_haveSameEnds.cls ≠ "java/lang/invoke/MethodHandle" ∧ yX2_haveSameEnds.cls ≠ "java/lang/invoke/VarHandle" ∧ (parseMethodDescriptor yX2_haveSameEnds.desc).map (fun q => q.parameters.length) = some 2 := by decide +kernel
set_option maxRecDepth 100000 in
set_option maxHeartbeats 4000000 in
theorem k_X2_haveSameEnds   (a0 : Int) (a1 : Int) (m : tg_Mem) : tg_C yX2_haveSameEnds cX2_haveSameEnds 3 (some .boolean) 3 LX [tr_ 1, ti_ a0, ti_ a1] (f_X2_haveSameEnds a0 a1 m) m := by
  refine ta_enter2 (own := RX2) (by decide +kernel) rfl rfl (Nat.le_of_ble_eq_true rfl) rfl (fun E hE => ?_)
  unfold f_X2_haveSameEnds
  refine ta_aloadn hE dX2_haveSameEnds_0 rfl ?_
  refine ta_iloadn hE dX2_haveSameEnds_1 rfl ?_
  refine ta_aloadn hE dX2_haveSameEnds_2 rfl ?_
  refine ta_iloadn hE dX2_haveSameEnds_3 rfl ?_
  refine ta_iconst (v := 0) hE dX2_haveSameEnds_4 rfl ⟨by decide, by decide⟩ ?_
  refine ta_callV (C := RX2) (T := TX2) (st := [ti_ a0, tr_ 1]) hE dX2_haveSameEnds_5 (k_X2_figure a1 0 m) ml_X2_54 im_X2_figure se_X2_figure in_X2 co_X2_figure hy_X2_figure ⟨Nat.le_of_ble_eq_true rfl, Nat.le_of_ble_eq_true rfl⟩ lx_1 rfl rfl rfl (fun _ => Nat.le_of_ble_eq_true rfl) (fun r5 m5 hx5 hr5 => ?_)
  change tg_AW E _ _ _ _ _ (ti_ r5 :: _) _
  refine ta_callV (C := RX2) (T := TX2) (st := []) hE dX2_haveSameEnds_8 (k_X2_leadsFrom a0 r5 m5) ml_X2_69 im_X2_leadsFrom se_X2_leadsFrom in_X2 co_X2_leadsFrom hy_X2_leadsFrom ⟨Nat.le_of_ble_eq_true rfl, Nat.le_of_ble_eq_true rfl⟩ lx_1 rfl rfl rfl (fun _ => Nat.le_of_ble_eq_true rfl) (fun r8 m8 hx8 hr8 => ?_)
  change tg_AW E _ _ _ _ _ (ti_ r8 :: _) _
  refine ta_join (γ := tg_Mem → tg_R) (fun J => ∀ (m_32 : tg_Mem), tg_AW E LX (some .boolean) (J m_32) 32 [tj_, tj_, tj_] [] m_32) ?_ (fun j32 hj32 => ?_)
  · intro m_32
    refine ta_iconst (v := 0) hE dX2_haveSameEnds_32 rfl ⟨by decide, by decide⟩ ?_
    exact ta_zret hE dX2_haveSameEnds_33 (Or.inl rfl)
  · refine ta_if_eq (tgt := 32) hE dX2_haveSameEnds_11 (by decide) (fun c11 => ?_) (fun c11 => ?_)
    · exact (ta_wk (i := 0) (lv2 := [tj_, ti_ a0, ti_ a1]) rfl (ta_wk (i := 1) (lv2 := [tj_, tj_, ti_ a1]) rfl (ta_wk (i := 2) (lv2 := [tj_, tj_, tj_]) rfl (hj32 m8))))
    · refine ta_aloadn hE dX2_haveSameEnds_14 rfl ?_
      refine ta_iloadn hE dX2_haveSameEnds_15 rfl ?_
      refine ta_aloadn hE dX2_haveSameEnds_16 rfl ?_
      refine ta_iloadn hE dX2_haveSameEnds_17 rfl ?_
      refine ta_iconst (v := 1) hE dX2_haveSameEnds_18 rfl ⟨by decide, by decide⟩ ?_
      refine ta_callV (C := RX2) (T := TX2) (st := [ti_ a0, tr_ 1]) hE dX2_haveSameEnds_19 (k_X2_figure a1 1 m8) ml_X2_54 im_X2_figure se_X2_figure in_X2 co_X2_figure hy_X2_figure ⟨Nat.le_of_ble_eq_true rfl, Nat.le_of_ble_eq_true rfl⟩ lx_1 rfl rfl rfl (fun _ => Nat.le_of_ble_eq_true rfl) (fun r19 m19 hx19 hr19 => ?_)
      change tg_AW E _ _ _ _ _ (ti_ r19 :: _) _
      refine ta_callV (C := RX2) (T := TX2) (st := []) hE dX2_haveSameEnds_22 (k_X2_leadsFrom a0 r19 m19) ml_X2_69 im_X2_leadsFrom se_X2_leadsFrom in_X2 co_X2_leadsFrom hy_X2_leadsFrom ⟨Nat.le_of_ble_eq_true rfl, Nat.le_of_ble_eq_true rfl⟩ lx_1 rfl rfl rfl (fun _ => Nat.le_of_ble_eq_true rfl) (fun r22 m22 hx22 hr22 => ?_)
      change tg_AW E _ _ _ _ _ (ti_ r22 :: _) _
      refine ta_if_eq (tgt := 32) hE dX2_haveSameEnds_25 (by decide) (fun c25 => ?_) (fun c25 => ?_)
      · exact (ta_wk (i := 0) (lv2 := [tj_, ti_ a0, ti_ a1]) rfl (ta_wk (i := 1) (lv2 := [tj_, tj_, ti_ a1]) rfl (ta_wk (i := 2) (lv2 := [tj_, tj_, tj_]) rfl (hj32 m22))))
      · refine ta_iconst (v := 1) hE dX2_haveSameEnds_28 rfl ⟨by decide, by decide⟩ ?_
        refine ta_goto (tgt := 33) hE dX2_haveSameEnds_29 (by decide) ?_
        exact ta_zret hE dX2_haveSameEnds_33 (Or.inr rfl)
noncomputable def f_X7_pulled (a0 : Int) (a1 : Int) (a2 : Int) (a3 : Int) (m : tg_Mem) : tg_R :=
  tg_bd (f_X7_isBelow a0 2 m) (fun r2 m2 =>
    if r2 = 0 then
      some ((-2), m2)
    else
      tg_bd (f_X7_isBelow a1 (m2 1 8) m2) (fun r16 m16 =>
        if r16 = 0 then
          some ((-2), m16)
        else
          tg_bd (f_X7_isBelow a2 (m16 1 8) m16) (fun r30 m30 =>
            if r30 ≠ 0 then
              if a1 = a2 then
                some ((-2), m30)
              else
                tg_bd (f_X7_isBelow a3 2 m30) (fun r47 m47 =>
                  if r47 ≠ 0 then
                    tg_bd (f_X2_haveSameEnds a1 a2 m47) (fun r62 m62 =>
                      if r62 ≠ 0 then
                        tg_bd (f_X7_ended a0 m62) (fun r77 m77 =>
                          tg_bd (f_X1_relay 36 (r77.toNat + 3) a1 a2 m77) (fun _ m85 =>
                            if a3 ≠ 0 then
                              some (m85 36 5, m85)
                            else
                              some (m85 36 4, m85)))
                      else
                        some ((-3), m62))
                  else
                    some ((-2), m47))
            else
              some ((-2), m30))))
theorem hy_X7_pulled : yX7_pulled.cls = RX7 ∧ yX7_pulled.cls ≠ "java/lang/invoke/MethodHandle" ∧ yX7_pulled.cls ≠ "java/lang/invoke/VarHandle" ∧ (parseMethodDescriptor yX7_pulled.desc).map (fun q => q.parameters.length) = some 4 := by decide +kernel
set_option maxRecDepth 100000 in
set_option maxHeartbeats 4000000 in
theorem k_X7_pulled   (a0 : Int) (a1 : Int) (a2 : Int) (a3 : Int) (m : tg_Mem) : tg_C yX7_pulled cX7_pulled 5 (some .int) 7 LX [tr_ 0, ti_ a0, ti_ a1, ti_ a2, ti_ a3] (f_X7_pulled a0 a1 a2 a3 m) m := by
  refine ta_enter2 (own := RX7) (by decide +kernel) rfl rfl (Nat.le_of_ble_eq_true rfl) rfl (fun E hE => ?_)
  unfold f_X7_pulled
  refine ta_iloadn hE dX7_pulled_0 rfl ?_
  refine ta_iconst (v := 2) hE dX7_pulled_1 rfl ⟨by decide, by decide⟩ ?_
  refine ta_callS (st := []) hE dX7_pulled_2 (k_X7_isBelow a0 2 m) ml_X7_60 st_X7_isBelow in_X7 co_X7_isBelow hy_X7_isBelow.2 ⟨Nat.le_of_ble_eq_true rfl, Nat.le_of_ble_eq_true rfl⟩ rfl rfl (fun _ => Nat.le_of_ble_eq_true rfl) (fun r2 m2 hx2 hr2 => ?_)
  change tg_AW E _ _ _ _ _ (ti_ r2 :: _) _
  refine ta_if_eq (tgt := 36) hE dX7_pulled_5 (by decide) (fun c5 => ?_) (fun c5 => ?_)
  · refine bp_n2 hE dX7_pulled_36 ?_
    exact ta_iret hE dX7_pulled_38
  · refine ta_iloadn hE dX7_pulled_8 rfl ?_
    refine ta_aloadn hE dX7_pulled_9 rfl ?_
    refine gr_X7_12 hE dX7_pulled_10 lx_0 rfl ?_
    refine gf_X7_83 hE dX7_pulled_13 lx_1 rfl ?_
    refine ta_callS (st := []) hE dX7_pulled_16 (k_X7_isBelow a1 (m2 1 8) m2) ml_X7_60 st_X7_isBelow in_X7 co_X7_isBelow hy_X7_isBelow.2 ⟨Nat.le_of_ble_eq_true rfl, Nat.le_of_ble_eq_true rfl⟩ rfl rfl (fun _ => Nat.le_of_ble_eq_true rfl) (fun r16 m16 hx16 hr16 => ?_)
    change tg_AW E _ _ _ _ _ (ti_ r16 :: _) _
    refine ta_if_eq (tgt := 36) hE dX7_pulled_19 (by decide) (fun c19 => ?_) (fun c19 => ?_)
    · refine bp_n2 hE dX7_pulled_36 ?_
      exact ta_iret hE dX7_pulled_38
    · refine ta_iloadn hE dX7_pulled_22 rfl ?_
      refine ta_aloadn hE dX7_pulled_23 rfl ?_
      refine gr_X7_12 hE dX7_pulled_24 lx_0 rfl ?_
      refine gf_X7_83 hE dX7_pulled_27 lx_1 rfl ?_
      refine ta_callS (st := []) hE dX7_pulled_30 (k_X7_isBelow a2 (m16 1 8) m16) ml_X7_60 st_X7_isBelow in_X7 co_X7_isBelow hy_X7_isBelow.2 ⟨Nat.le_of_ble_eq_true rfl, Nat.le_of_ble_eq_true rfl⟩ rfl rfl (fun _ => Nat.le_of_ble_eq_true rfl) (fun r30 m30 hx30 hr30 => ?_)
      change tg_AW E _ _ _ _ _ (ti_ r30 :: _) _
      refine ta_if_ne (tgt := 39) hE dX7_pulled_33 (by decide) (fun c33 => ?_) (fun c33 => ?_)
      · refine ta_iloadn hE dX7_pulled_39 rfl ?_
        refine ta_iloadn hE dX7_pulled_40 rfl ?_
        refine ta_icmp_eq (tgt := 53) hE dX7_pulled_41 (by decide) (fun c41 => ?_) (fun c41 => ?_)
        · refine bp_n2 hE dX7_pulled_53 ?_
          exact ta_iret hE dX7_pulled_55
        · refine ta_iload hE dX7_pulled_44 rfl ?_
          refine ta_iconst (v := 2) hE dX7_pulled_46 rfl ⟨by decide, by decide⟩ ?_
          refine ta_callS (st := []) hE dX7_pulled_47 (k_X7_isBelow a3 2 m30) ml_X7_60 st_X7_isBelow in_X7 co_X7_isBelow hy_X7_isBelow.2 ⟨Nat.le_of_ble_eq_true rfl, Nat.le_of_ble_eq_true rfl⟩ rfl rfl (fun _ => Nat.le_of_ble_eq_true rfl) (fun r47 m47 hx47 hr47 => ?_)
          change tg_AW E _ _ _ _ _ (ti_ r47 :: _) _
          refine ta_if_ne (tgt := 56) hE dX7_pulled_50 (by decide) (fun c50 => ?_) (fun c50 => ?_)
          · refine ta_aloadn hE dX7_pulled_56 rfl ?_
            refine gr_X7_12 hE dX7_pulled_57 lx_0 rfl ?_
            refine ta_iloadn hE dX7_pulled_60 rfl ?_
            refine ta_iloadn hE dX7_pulled_61 rfl ?_
            refine ta_callV (C := RX2) (T := TX2) (st := []) hE dX7_pulled_62 (k_X2_haveSameEnds a1 a2 m47) ml_X7_155 im_X2_haveSameEnds se_X2_haveSameEnds in_X2 co_X2_haveSameEnds hy_X2_haveSameEnds ⟨Nat.le_of_ble_eq_true rfl, Nat.le_of_ble_eq_true rfl⟩ lx_1 rfl rfl rfl (fun _ => Nat.le_of_ble_eq_true rfl) (fun r62 m62 hx62 hr62 => ?_)
            change tg_AW E _ _ _ _ _ (ti_ r62 :: _) _
            refine ta_if_ne (tgt := 71) hE dX7_pulled_65 (by decide) (fun c65 => ?_) (fun c65 => ?_)
            · refine ta_aloadn hE dX7_pulled_71 rfl ?_
              refine gr_X7_45 hE dX7_pulled_72 lx_0 rfl ?_
              refine ta_aloadn hE dX7_pulled_75 rfl ?_
              refine ta_iloadn hE dX7_pulled_76 rfl ?_
              refine ta_callV (C := RX7) (T := TX7) (st := [tr_ 36]) hE dX7_pulled_77 (k_X7_ended a0 m62) ml_X7_128 im_X7_ended se_X7_ended in_X7 co_X7_ended hy_X7_ended ⟨Nat.le_of_ble_eq_true rfl, Nat.le_of_ble_eq_true rfl⟩ lx_0 rfl rfl rfl (fun _ => Nat.le_of_ble_eq_true rfl) (fun r77 m77 hx77 hr77 => ?_)
              change tg_AW E _ _ _ _ _ (tr_ r77.toNat :: _) _
              refine gr_X7_140 hE dX7_pulled_80 ((ok_X7_ended hx77).1) rfl ?_
              refine ta_iloadn hE dX7_pulled_83 rfl ?_
              refine ta_iloadn hE dX7_pulled_84 rfl ?_
              refine ta_callV (C := RX1) (T := TX1) (st := []) hE dX7_pulled_85 (k_X1_relay ok_36 ((ok_X7_ended hx77).2.2.1) a1 a2 m77) ml_X7_158 im_X1_relay se_X1_relay in_X1 co_X1_relay hy_X1_relay ⟨Nat.le_of_ble_eq_true rfl, Nat.le_of_ble_eq_true rfl⟩ (ok_36.1) rfl rfl rfl (fun _ => Nat.le_of_ble_eq_true rfl) (fun r85 m85 hx85 hr85 => ?_)
              change tg_AW E _ _ _ _ _ [] _
              refine ta_iload hE dX7_pulled_88 rfl ?_
              refine ta_if_ne (tgt := 103) hE dX7_pulled_90 (by decide) (fun c90 => ?_) (fun c90 => ?_)
              · refine ta_aloadn hE dX7_pulled_103 rfl ?_
                refine gr_X7_45 hE dX7_pulled_104 lx_0 rfl ?_
                refine gf_X7_162 hE dX7_pulled_107 (ok_36.1) rfl ?_
                exact ta_iret hE dX7_pulled_110
              · refine ta_aloadn hE dX7_pulled_93 rfl ?_
                refine gr_X7_45 hE dX7_pulled_94 lx_0 rfl ?_
                refine gf_X7_154 hE dX7_pulled_97 (ok_36.1) rfl ?_
                refine ta_goto (tgt := 110) hE dX7_pulled_100 (by decide) ?_
                exact ta_iret hE dX7_pulled_110
            · refine bp_n3 hE dX7_pulled_68 ?_
              exact ta_iret hE dX7_pulled_70
          · refine bp_n2 hE dX7_pulled_53 ?_
            exact ta_iret hE dX7_pulled_55
      · refine bp_n2 hE dX7_pulled_36 ?_
        exact ta_iret hE dX7_pulled_38
