noncomputable def f_J7_fill_53178_B5 (k0 : Nat) (n0 : Nat) (a1 : Int) (v3_4 : Int) (self5 : Int → tg_Mem → tg_R) (v2_5 : Int) (m_5 : tg_Mem) : tg_R :=
  if v3_4 ≤ v2_5 then
    some (0, m_5)
  else
    tg_ck (0 ≤ v2_5 ∧ v2_5 < ((n0 : Nat) : Int)) (
      tg_lt (tg_up m_5 k0 (v2_5).toNat a1) (fun m13 =>
        tg_lt (tg_wi (v2_5 + 1)) (fun v2_14 =>
          self5 v2_14 m13)))
noncomputable def f_J7_fill_53178 (k0 : Nat) (n0 : Nat) (a1 : Int) (m : tg_Mem) : tg_R :=
  tg_lt (((n0 : Nat) : Int)) (fun v3_4 =>
    tg_fx (γ := Int → tg_Mem → tg_R) (f_J7_fill_53178_B5 k0 n0 a1 v3_4) (fun _ _ => none) tg_FU 0 m)
theorem hy_J7_fill_53178 : yJ7_fill_53178.cls = RJ7 ∧ yJ7_fill_53178.cls ≠ "java/lang/invoke/MethodHandle" ∧ yJ7_fill_53178.cls ≠ "java/lang/invoke/VarHandle" ∧ (parseMethodDescriptor yJ7_fill_53178.desc).map (fun q => q.parameters.length) = some 2 := by decide +kernel
set_option maxRecDepth 100000 in
set_option maxHeartbeats 4000000 in
theorem k_J7_fill_53178 {k0 : Nat} {n0 : Nat} (hk0 : LX[k0]? = some (.inl (0, n0, []))) (hn0 : n0 < 2147483648) (a1 : Int) (m : tg_Mem) : tg_C yJ7_fill_53178 cJ7_fill_53178 4 none 1 LX [tr_ k0, ti_ a1] (f_J7_fill_53178 k0 n0 a1 m) m := by
  refine ta_enter2 (own := RJ7) (by decide +kernel) rfl rfl (Nat.le_of_ble_eq_true rfl) rfl (fun E hE => ?_)
  unfold f_J7_fill_53178
  refine ta_iconst (v := 0) hE dJ7_fill_53178_0 rfl ⟨by decide, by decide⟩ ?_
  refine ta_istoren (lv2 := [tr_ k0, ti_ a1, ti_ 0, tj_]) hE dJ7_fill_53178_1 (Nat.le_of_ble_eq_true rfl) rfl rfl ?_
  refine ta_aloadn hE dJ7_fill_53178_2 rfl ?_
  refine ta_alen hE dJ7_fill_53178_3 hk0 rfl rfl hn0 ?_
  refine ta_nmi (fun v3_4 => ?_)
  refine ta_istoren (lv2 := [tr_ k0, ti_ a1, ti_ 0, ti_ v3_4]) hE dJ7_fill_53178_4 (Nat.le_of_ble_eq_true rfl) rfl rfl ?_
  have hl5 := ta_fx (γ := Int → tg_Mem → tg_R) (F := (f_J7_fill_53178_B5 k0 n0 a1 v3_4)) (z := (fun _ _ => none)) (fun J => ∀ (v2_5 : Int) (m_5 : tg_Mem), tg_AW E LX none (J v2_5 m_5) 5 [tr_ k0, ti_ a1, ti_ v2_5, ti_ v3_4] [] m_5) (by intros; exact ta_none) (fun self5 hself5 => by
      intro v2_5 m_5
      unfold f_J7_fill_53178_B5
      refine ta_iloadn hE dJ7_fill_53178_5 rfl ?_
      refine ta_iloadn hE dJ7_fill_53178_6 rfl ?_
      refine ta_icmp_ge (tgt := 20) hE dJ7_fill_53178_7 (by decide) (fun c7 => ?_) (fun c7 => ?_)
      · exact ta_vret hE dJ7_fill_53178_20
      · refine ta_aloadn hE dJ7_fill_53178_10 rfl ?_
        refine ta_iloadn hE dJ7_fill_53178_11 rfl ?_
        refine ta_iloadn hE dJ7_fill_53178_12 rfl ?_
        refine ta_iast (n' := ((n0 : Nat) : Int)) hE dJ7_fill_53178_13 hk0 rfl (fun _ _ => ?_)
        refine ta_nmm (fun m13 => ?_)
        refine ta_iincn (lv2 := fun v2_14 => [tr_ k0, ti_ a1, ti_ v2_14, ti_ v3_4]) hE dJ7_fill_53178_14 rfl rfl rfl (fun v2_14 => ?_)
        refine ta_goto (tgt := 5) hE dJ7_fill_53178_17 (by decide) ?_
        exact (hself5 v2_14 m13))
  exact (hl5 tg_FU 0 m)
noncomputable def f_X1_layDown (k : Nat) (a0 : Int) (a1 : Int) (m : tg_Mem) : tg_R :=
  tg_lt (tg_up m k 4 (tg_wi ((m k 4) + 1))) (fun m7 =>
    if a0 ≠ 0 then
      tg_ck (0 ≤ tg_iand (tg_wi ((tg_wi ((m7 k 3) + (m7 k 4))) - 1)) 63 ∧ tg_iand (tg_wi ((tg_wi ((m7 k 3) + (m7 k 4))) - 1)) 63 < 64) (
        tg_lt (tg_up m7 (k + 2) (tg_iand (tg_wi ((tg_wi ((m7 k 3) + (m7 k 4))) - 1)) 63).toNat a1) (fun m59 =>
          some (0, m59)))
    else
      tg_lt (tg_up m7 k 3 (tg_iand (tg_wi ((m7 k 3) - 1)) 63)) (fun m24 =>
        tg_ck (0 ≤ m24 k 3 ∧ m24 k 3 < 64) (
          tg_lt (tg_up m24 (k + 2) (m24 k 3).toNat a1) (fun m36 =>
            some (0, m36)))))
theorem hy_X1_layDown : yX1_layDown.cls = RX1 ∧ yX1_layDown.cls ≠ "java/lang/invoke/MethodHandle" ∧ yX1_layDown.cls ≠ "java/lang/invoke/VarHandle" ∧ (parseMethodDescriptor yX1_layDown.desc).map (fun q => q.parameters.length) = some 2 := by decide +kernel
set_option maxRecDepth 100000 in
set_option maxHeartbeats 4000000 in
theorem k_X1_layDown {k : Nat} (hk : tg_okG k) (a0 : Int) (a1 : Int) (m : tg_Mem) : tg_C yX1_layDown cX1_layDown 3 none 1 LX [tr_ k, ti_ a0, ti_ a1] (f_X1_layDown k a0 a1 m) m := by
  refine ta_enter2 (own := RX1) (by decide +kernel) rfl rfl (Nat.le_of_ble_eq_true rfl) rfl (fun E hE => ?_)
  unfold f_X1_layDown
  refine ta_aloadn hE dX1_layDown_0 rfl ?_
  refine ta_dup hE dX1_layDown_1 (fun _ => rfl) ?_
  refine gf_X1_22 hE dX1_layDown_2 (hk.1) rfl ?_
  refine ta_iconst (v := 1) hE dX1_layDown_5 rfl ⟨by decide, by decide⟩ ?_
  refine ta_iadd hE dX1_layDown_6 ?_
  refine pf_X1_22 hE dX1_layDown_7 (hk.1) rfl ?_
  refine ta_nmm (fun m7 => ?_)
  refine ta_iloadn hE dX1_layDown_10 rfl ?_
  refine ta_if_ne (tgt := 40) hE dX1_layDown_11 (by decide) (fun c11 => ?_) (fun c11 => ?_)
  · refine ta_aloadn hE dX1_layDown_40 rfl ?_
    refine gr_X1_15 hE dX1_layDown_41 (hk.1) rfl ?_
    refine ta_aloadn hE dX1_layDown_44 rfl ?_
    refine gf_X1_18 hE dX1_layDown_45 (hk.1) rfl ?_
    refine ta_aloadn hE dX1_layDown_48 rfl ?_
    refine gf_X1_22 hE dX1_layDown_49 (hk.1) rfl ?_
    refine ta_iadd hE dX1_layDown_52 ?_
    refine ta_iconst (v := 1) hE dX1_layDown_53 rfl ⟨by decide, by decide⟩ ?_
    refine ta_isub hE dX1_layDown_54 ?_
    refine bp_63 hE dX1_layDown_55 ?_
    refine ta_iand hE dX1_layDown_57 ?_
    refine ta_iloadn hE dX1_layDown_58 rfl ?_
    refine ta_iast (n' := 64) hE dX1_layDown_59 (hk.2.2) rfl (fun _ _ => ?_)
    refine ta_nmm (fun m59 => ?_)
    exact ta_vret hE dX1_layDown_60
  · refine ta_aloadn hE dX1_layDown_14 rfl ?_
    refine ta_aloadn hE dX1_layDown_15 rfl ?_
    refine gf_X1_18 hE dX1_layDown_16 (hk.1) rfl ?_
    refine ta_iconst (v := 1) hE dX1_layDown_19 rfl ⟨by decide, by decide⟩ ?_
    refine ta_isub hE dX1_layDown_20 ?_
    refine bp_63 hE dX1_layDown_21 ?_
    refine ta_iand hE dX1_layDown_23 ?_
    refine pf_X1_18 hE dX1_layDown_24 (hk.1) rfl ?_
    refine ta_nmm (fun m24 => ?_)
    refine ta_aloadn hE dX1_layDown_27 rfl ?_
    refine gr_X1_15 hE dX1_layDown_28 (hk.1) rfl ?_
    refine ta_aloadn hE dX1_layDown_31 rfl ?_
    refine gf_X1_18 hE dX1_layDown_32 (hk.1) rfl ?_
    refine ta_iloadn hE dX1_layDown_35 rfl ?_
    refine ta_iast (n' := 64) hE dX1_layDown_36 (hk.2.2) rfl (fun _ _ => ?_)
    refine ta_nmm (fun m36 => ?_)
    refine ta_goto (tgt := 60) hE dX1_layDown_37 (by decide) ?_
    exact ta_vret hE dX1_layDown_60
noncomputable def f_X1_nextTo (k : Nat) (a0 : Int) (m : tg_Mem) : tg_R :=
  if m k 4 ≠ 0 then
    tg_jn (γ := Int → tg_R) (fun (s0_35 : Int) => tg_ck (0 ≤ tg_iand s0_35 63 ∧ tg_iand s0_35 63 < 64) (
      some (m (k + 2) (tg_iand s0_35 63).toNat, m))) (fun j35 =>
      if a0 ≠ 0 then
        j35 (tg_wi ((tg_wi ((m k 3) + (m k 4))) - 1))
      else
        j35 (m k 3))
  else
    some ((-1), m)
theorem hy_X1_nextTo : yX1_nextTo.cls = RX1 ∧ yX1_nextTo.cls ≠ "java/lang/invoke/MethodHandle" ∧ yX1_nextTo.cls ≠ "java/lang/invoke/VarHandle" ∧ (parseMethodDescriptor yX1_nextTo.desc).map (fun q => q.parameters.length) = some 1 := by decide +kernel
set_option maxRecDepth 100000 in
set_option maxHeartbeats 4000000 in
theorem k_X1_nextTo {k : Nat} (hk : tg_okG k) (a0 : Int) (m : tg_Mem) : tg_C yX1_nextTo cX1_nextTo 2 (some .int) 1 LX [tr_ k, ti_ a0] (f_X1_nextTo k a0 m) m := by
  refine ta_enter2 (own := RX1) (by decide +kernel) rfl rfl (Nat.le_of_ble_eq_true rfl) rfl (fun E hE => ?_)
  unfold f_X1_nextTo
  refine ta_aloadn hE dX1_nextTo_0 rfl ?_
  refine gf_X1_22 hE dX1_nextTo_1 (hk.1) rfl ?_
  refine ta_if_ne (tgt := 9) hE dX1_nextTo_4 (by decide) (fun c4 => ?_) (fun c4 => ?_)
  · refine ta_aloadn hE dX1_nextTo_9 rfl ?_
    refine gr_X1_15 hE dX1_nextTo_10 (hk.1) rfl ?_
    refine ta_iloadn hE dX1_nextTo_13 rfl ?_
    refine ta_join (γ := Int → tg_R) (fun J => ∀ (s0_35 : Int), tg_AW E LX (some .int) (J s0_35) 35 [tj_, tj_] [ti_ s0_35, tr_ (k + 2)] m) ?_ (fun j35 hj35 => ?_)
    · intro s0_35
      refine bp_63 hE dX1_nextTo_35 ?_
      refine ta_iand hE dX1_nextTo_37 ?_
      refine ta_iald (n' := 64) hE dX1_nextTo_38 (hk.2.2) rfl (fun _ _ => ?_)
      exact ta_iret hE dX1_nextTo_39
    · refine ta_if_ne (tgt := 24) hE dX1_nextTo_14 (by decide) (fun c14 => ?_) (fun c14 => ?_)
      · refine ta_aloadn hE dX1_nextTo_24 rfl ?_
        refine gf_X1_18 hE dX1_nextTo_25 (hk.1) rfl ?_
        refine ta_aloadn hE dX1_nextTo_28 rfl ?_
        refine gf_X1_22 hE dX1_nextTo_29 (hk.1) rfl ?_
        refine ta_iadd hE dX1_nextTo_32 ?_
        refine ta_iconst (v := 1) hE dX1_nextTo_33 rfl ⟨by decide, by decide⟩ ?_
        refine ta_isub hE dX1_nextTo_34 ?_
        exact (ta_wk (i := 0) (lv2 := [tj_, ti_ a0]) rfl (ta_wk (i := 1) (lv2 := [tj_, tj_]) rfl (hj35 (tg_wi ((tg_wi ((m k 3) + (m k 4))) - 1)))))
      · refine ta_aloadn hE dX1_nextTo_17 rfl ?_
        refine gf_X1_18 hE dX1_nextTo_18 (hk.1) rfl ?_
        refine ta_goto (tgt := 35) hE dX1_nextTo_21 (by decide) ?_
        exact (ta_wk (i := 0) (lv2 := [tj_, ti_ a0]) rfl (ta_wk (i := 1) (lv2 := [tj_, tj_]) rfl (hj35 (m k 3))))
  · refine ta_iconst (v := (-1)) hE dX1_nextTo_7 rfl ⟨by decide, by decide⟩ ?_
    exact ta_iret hE dX1_nextTo_8
noncomputable def f_X1_takeUp (k : Nat) (a0 : Int) (m : tg_Mem) : tg_R :=
  tg_lt (tg_up m k 4 (tg_wi ((m k 4) - 1))) (fun m7 =>
    if a0 ≠ 0 then
      some (0, m7)
    else
      tg_lt (tg_up m7 k 3 (tg_iand (tg_wi ((m7 k 3) + 1)) 63)) (fun m24 =>
        some (0, m24)))
theorem hy_X1_takeUp : yX1_takeUp.cls = RX1 ∧ yX1_takeUp.cls ≠ "java/lang/invoke/MethodHandle" ∧ yX1_takeUp.cls ≠ "java/lang/invoke/VarHandle" ∧ (parseMethodDescriptor yX1_takeUp.desc).map (fun q => q.parameters.length) = some 1 := by decide +kernel
set_option maxRecDepth 100000 in
set_option maxHeartbeats 4000000 in
theorem k_X1_takeUp {k : Nat} (hk : tg_okG k) (a0 : Int) (m : tg_Mem) : tg_C yX1_takeUp cX1_takeUp 2 none 1 LX [tr_ k, ti_ a0] (f_X1_takeUp k a0 m) m := by
  refine ta_enter2 (own := RX1) (by decide +kernel) rfl rfl (Nat.le_of_ble_eq_true rfl) rfl (fun E hE => ?_)
  unfold f_X1_takeUp
  refine ta_aloadn hE dX1_takeUp_0 rfl ?_
  refine ta_dup hE dX1_takeUp_1 (fun _ => rfl) ?_
  refine gf_X1_22 hE dX1_takeUp_2 (hk.1) rfl ?_
  refine ta_iconst (v := 1) hE dX1_takeUp_5 rfl ⟨by decide, by decide⟩ ?_
  refine ta_isub hE dX1_takeUp_6 ?_
  refine pf_X1_22 hE dX1_takeUp_7 (hk.1) rfl ?_
  refine ta_nmm (fun m7 => ?_)
  refine ta_iloadn hE dX1_takeUp_10 rfl ?_
  refine ta_if_ne (tgt := 27) hE dX1_takeUp_11 (by decide) (fun c11 => ?_) (fun c11 => ?_)
  · exact ta_vret hE dX1_takeUp_27
  · refine ta_aloadn hE dX1_takeUp_14 rfl ?_
    refine ta_aloadn hE dX1_takeUp_15 rfl ?_
    refine gf_X1_18 hE dX1_takeUp_16 (hk.1) rfl ?_
    refine ta_iconst (v := 1) hE dX1_takeUp_19 rfl ⟨by decide, by decide⟩ ?_
    refine ta_iadd hE dX1_takeUp_20 ?_
    refine bp_63 hE dX1_takeUp_21 ?_
    refine ta_iand hE dX1_takeUp_23 ?_
    refine pf_X1_18 hE dX1_takeUp_24 (hk.1) rfl ?_
    refine ta_nmm (fun m24 => ?_)
    exact ta_vret hE dX1_takeUp_27
noncomputable def f_X2_across (a0 : Int) (a1 : Int) (m : tg_Mem) : tg_R :=
  tg_lt (tg_iand a0 7) (fun v3_4 =>
    tg_ck (0 ≤ v3_4 ∧ v3_4 < 8) (
      if m 7 (v3_4).toNat ≠ a1 then
        tg_ck (0 ≤ v3_4 ∧ v3_4 < 8) (
          some (m 7 (v3_4).toNat, m))
      else
        tg_ck (0 ≤ v3_4 ∧ v3_4 < 8) (
          some (m 8 (v3_4).toNat, m))))
theorem hy_X2_across : yX2_across.cls = RX2 ∧ yX2_across.cls ≠ "java/lang/invoke/MethodHandle" ∧ yX2_across.cls ≠ "java/lang/invoke/VarHandle" ∧ (parseMethodDescriptor yX2_across.desc).map (fun q => q.parameters.length) = some 2 := by decide +kernel
set_option maxRecDepth 100000 in
set_option maxHeartbeats 4000000 in
theorem k_X2_across   (a0 : Int) (a1 : Int) (m : tg_Mem) : tg_C yX2_across cX2_across 4 (some .int) 1 LX [tr_ 1, ti_ a0, ti_ a1] (f_X2_across a0 a1 m) m := by
  refine ta_enter2 (own := RX2) (by decide +kernel) rfl rfl (Nat.le_of_ble_eq_true rfl) rfl (fun E hE => ?_)
  unfold f_X2_across
  refine ta_iloadn hE dX2_across_0 rfl ?_
  refine bp_7 hE dX2_across_1 ?_
  refine ta_iand hE dX2_across_3 ?_
  refine ta_nmi (fun v3_4 => ?_)
  refine ta_istoren (lv2 := [tr_ 1, ti_ a0, ti_ a1, ti_ v3_4]) hE dX2_across_4 (Nat.le_of_ble_eq_true rfl) rfl rfl ?_
  refine ta_aloadn hE dX2_across_5 rfl ?_
  refine gr_X2_28 hE dX2_across_6 lx_1 rfl ?_
  refine ta_iloadn hE dX2_across_9 rfl ?_
  refine ta_iald (n' := 8) hE dX2_across_10 lx_7 rfl (fun _ _ => ?_)
  refine ta_iloadn hE dX2_across_11 rfl ?_
  refine ta_icmp_ne (tgt := 24) hE dX2_across_12 (by decide) (fun c12 => ?_) (fun c12 => ?_)
  · refine ta_aloadn hE dX2_across_24 rfl ?_
    refine gr_X2_28 hE dX2_across_25 lx_1 rfl ?_
    refine ta_iloadn hE dX2_across_28 rfl ?_
    refine ta_iald (n' := 8) hE dX2_across_29 lx_7 rfl (fun _ _ => ?_)
    exact ta_iret hE dX2_across_30
  · refine ta_aloadn hE dX2_across_15 rfl ?_
    refine gr_X2_31 hE dX2_across_16 lx_1 rfl ?_
    refine ta_iloadn hE dX2_across_19 rfl ?_
    refine ta_iald (n' := 8) hE dX2_across_20 lx_8 rfl (fun _ _ => ?_)
    refine ta_goto (tgt := 30) hE dX2_across_21 (by decide) ?_
    exact ta_iret hE dX2_across_30
noncomputable def f_X2_yardsOf (a0 : Int) (m : tg_Mem) : tg_R :=
  tg_ck (0 ≤ tg_iand a0 7 ∧ tg_iand a0 7 < 8) (
    some (m 9 (tg_iand a0 7).toNat, m))
theorem hy_X2_yardsOf : yX2_yardsOf.cls = RX2 ∧ yX2_yardsOf.cls ≠ "java/lang/invoke/MethodHandle" ∧ yX2_yardsOf.cls ≠ "java/lang/invoke/VarHandle" ∧ (parseMethodDescriptor yX2_yardsOf.desc).map (fun q => q.parameters.length) = some 1 := by decide +kernel
set_option maxRecDepth 100000 in
set_option maxHeartbeats 4000000 in
theorem k_X2_yardsOf   (a0 : Int) (m : tg_Mem) : tg_C yX2_yardsOf cX2_yardsOf 2 (some .int) 1 LX [tr_ 1, ti_ a0] (f_X2_yardsOf a0 m) m := by
  refine ta_enter2 (own := RX2) (by decide +kernel) rfl rfl (Nat.le_of_ble_eq_true rfl) rfl (fun E hE => ?_)
  unfold f_X2_yardsOf
  refine ta_aloadn hE dX2_yardsOf_0 rfl ?_
  refine gr_X2_34 hE dX2_yardsOf_1 lx_1 rfl ?_
  refine ta_iloadn hE dX2_yardsOf_4 rfl ?_
  refine bp_7 hE dX2_yardsOf_5 ?_
  refine ta_iand hE dX2_yardsOf_7 ?_
  refine ta_iald (n' := 8) hE dX2_yardsOf_8 lx_9 rfl (fun _ _ => ?_)
  exact ta_iret hE dX2_yardsOf_9
noncomputable def f_X1_go (k : Nat) (a0 : Int) (a1 : Int) (m : tg_Mem) : tg_R :=
  tg_bd (f_X7_isBelow a0 2 m) (fun r2 m2 =>
    if r2 ≠ 0 then
      tg_bd (f_X1_nextTo k a0 m2) (fun r11 m11 =>
        tg_jn (γ := tg_Mem → tg_R) (fun (m_66 : tg_Mem) => tg_ck (0 ≤ a0 ∧ a0 < 2) (
          tg_bd (f_X2_across a1 (m_66 (k + 1) (a0).toNat) m_66) (fun r82 m82 =>
            tg_ck (0 ≤ a0 ∧ a0 < 2) (
              tg_lt (tg_up m82 (k + 1) (a0).toNat r82) (fun m85 =>
                some (0, m85)))))) (fun j66 =>
          if r11 ≠ a1 then
            tg_bd (f_X1_layDown k a0 a1 m11) (fun _ m46 =>
              tg_bd (f_X2_yardsOf a1 m46) (fun r59 m59 =>
                tg_lt (tg_up m59 k 5 (tg_wi ((m46 k 5) + r59))) (fun m63 =>
                  j66 m63)))
          else
            tg_bd (f_X1_takeUp k a0 m11) (fun _ m20 =>
              tg_bd (f_X2_yardsOf a1 m20) (fun r33 m33 =>
                tg_lt (tg_up m33 k 5 (tg_wi ((m20 k 5) - r33))) (fun m37 =>
                  j66 m37)))))
    else
      some (0, m2))
theorem hy_X1_go : yX1_go.cls = RX1 ∧ yX1_go.cls ≠ "java/lang/invoke/MethodHandle" ∧ yX1_go.cls ≠ "java/lang/invoke/VarHandle" ∧ (parseMethodDescriptor yX1_go.desc).map (fun q => q.parameters.length) = some 2 := by decide +kernel
set_option maxRecDepth 100000 in
set_option maxHeartbeats 4000000 in
theorem k_X1_go {k : Nat} (hk : tg_okG k) (a0 : Int) (a1 : Int) (m : tg_Mem) : tg_C yX1_go cX1_go 3 none 2 LX [tr_ k, ti_ a0, ti_ a1] (f_X1_go k a0 a1 m) m := by
  refine ta_enter2 (own := RX1) (by decide +kernel) rfl rfl (Nat.le_of_ble_eq_true rfl) rfl (fun E hE => ?_)
  unfold f_X1_go
  refine ta_iloadn hE dX1_go_0 rfl ?_
  refine ta_iconst (v := 2) hE dX1_go_1 rfl ⟨by decide, by decide⟩ ?_
  refine ta_callN (host := RX7) (st := []) hE dX1_go_2 (k_X7_isBelow a0 2 m) nn_X1_50 st_X7_isBelow in_X7 co_X7_isBelow hy_X7_isBelow.2 ⟨Nat.le_of_ble_eq_true rfl, Nat.le_of_ble_eq_true rfl⟩ rfl rfl (fun _ => Nat.le_of_ble_eq_true rfl) (fun r2 m2 hx2 hr2 => ?_)
  change tg_AW E _ _ _ _ _ (ti_ r2 :: _) _
  refine ta_if_ne (tgt := 9) hE dX1_go_5 (by decide) (fun c5 => ?_) (fun c5 => ?_)
  · refine ta_aloadn hE dX1_go_9 rfl ?_
    refine ta_iloadn hE dX1_go_10 rfl ?_
    refine ta_callV (C := RX1) (T := TX1) (st := []) hE dX1_go_11 (k_X1_nextTo hk a0 m2) ml_X1_57 im_X1_nextTo se_X1_nextTo in_X1 co_X1_nextTo hy_X1_nextTo ⟨Nat.le_of_ble_eq_true rfl, Nat.le_of_ble_eq_true rfl⟩ (hk.1) rfl rfl rfl (fun _ => Nat.le_of_ble_eq_true rfl) (fun r11 m11 hx11 hr11 => ?_)
    change tg_AW E _ _ _ _ _ (ti_ r11 :: _) _
    refine ta_iloadn hE dX1_go_14 rfl ?_
    refine ta_join (γ := tg_Mem → tg_R) (fun J => ∀ (m_66 : tg_Mem), tg_AW E LX none (J m_66) 66 [tr_ k, ti_ a0, ti_ a1] [] m_66) ?_ (fun j66 hj66 => ?_)
    · intro m_66
      refine ta_aloadn hE dX1_go_66 rfl ?_
      refine gr_X1_9 hE dX1_go_67 (hk.1) rfl ?_
      refine ta_iloadn hE dX1_go_70 rfl ?_
      refine ta_aloadn hE dX1_go_71 rfl ?_
      refine gr_X1_28 hE dX1_go_72 (hk.1) rfl ?_
      refine ta_iloadn hE dX1_go_75 rfl ?_
      refine ta_aloadn hE dX1_go_76 rfl ?_
      refine gr_X1_9 hE dX1_go_77 (hk.1) rfl ?_
      refine ta_iloadn hE dX1_go_80 rfl ?_
      refine ta_iald (n' := 2) hE dX1_go_81 (hk.2.1) rfl (fun _ _ => ?_)
      refine ta_callV (C := RX2) (T := TX2) (st := [ti_ a0, tr_ (k + 1)]) hE dX1_go_82 (k_X2_across a1 (m_66 (k + 1) (a0).toNat) m_66) ml_X1_69 im_X2_across se_X2_across in_X2 co_X2_across hy_X2_across ⟨Nat.le_of_ble_eq_true rfl, Nat.le_of_ble_eq_true rfl⟩ lx_1 rfl rfl rfl (fun _ => Nat.le_of_ble_eq_true rfl) (fun r82 m82 hx82 hr82 => ?_)
      change tg_AW E _ _ _ _ _ (ti_ r82 :: _) _
      refine ta_iast (n' := 2) hE dX1_go_85 (hk.2.1) rfl (fun _ _ => ?_)
      refine ta_nmm (fun m85 => ?_)
      exact ta_vret hE dX1_go_86
    · refine ta_icmp_ne (tgt := 43) hE dX1_go_15 (by decide) (fun c15 => ?_) (fun c15 => ?_)
      · refine ta_aloadn hE dX1_go_43 rfl ?_
        refine ta_iloadn hE dX1_go_44 rfl ?_
        refine ta_iloadn hE dX1_go_45 rfl ?_
        refine ta_callV (C := RX1) (T := TX1) (st := []) hE dX1_go_46 (k_X1_layDown hk a0 a1 m11) ml_X1_66 im_X1_layDown se_X1_layDown in_X1 co_X1_layDown hy_X1_layDown ⟨Nat.le_of_ble_eq_true rfl, Nat.le_of_ble_eq_true rfl⟩ (hk.1) rfl rfl rfl (fun _ => Nat.le_of_ble_eq_true rfl) (fun r46 m46 hx46 hr46 => ?_)
        change tg_AW E _ _ _ _ _ [] _
        refine ta_aloadn hE dX1_go_49 rfl ?_
        refine ta_dup hE dX1_go_50 (fun _ => rfl) ?_
        refine gf_X1_25 hE dX1_go_51 (hk.1) rfl ?_
        refine ta_aloadn hE dX1_go_54 rfl ?_
        refine gr_X1_28 hE dX1_go_55 (hk.1) rfl ?_
        refine ta_iloadn hE dX1_go_58 rfl ?_
        refine ta_callV (C := RX2) (T := TX2) (st := [ti_ (m46 k 5), tr_ k]) hE dX1_go_59 (k_X2_yardsOf a1 m46) ml_X1_63 im_X2_yardsOf se_X2_yardsOf in_X2 co_X2_yardsOf hy_X2_yardsOf ⟨Nat.le_of_ble_eq_true rfl, Nat.le_of_ble_eq_true rfl⟩ lx_1 rfl rfl rfl (fun _ => Nat.le_of_ble_eq_true rfl) (fun r59 m59 hx59 hr59 => ?_)
        change tg_AW E _ _ _ _ _ (ti_ r59 :: _) _
        refine ta_iadd hE dX1_go_62 ?_
        refine pf_X1_25 hE dX1_go_63 (hk.1) rfl ?_
        refine ta_nmm (fun m63 => ?_)
        exact (hj66 m63)
      · refine ta_aloadn hE dX1_go_18 rfl ?_
        refine ta_iloadn hE dX1_go_19 rfl ?_
        refine ta_callV (C := RX1) (T := TX1) (st := []) hE dX1_go_20 (k_X1_takeUp hk a0 m11) ml_X1_60 im_X1_takeUp se_X1_takeUp in_X1 co_X1_takeUp hy_X1_takeUp ⟨Nat.le_of_ble_eq_true rfl, Nat.le_of_ble_eq_true rfl⟩ (hk.1) rfl rfl rfl (fun _ => Nat.le_of_ble_eq_true rfl) (fun r20 m20 hx20 hr20 => ?_)
        change tg_AW E _ _ _ _ _ [] _
        refine ta_aloadn hE dX1_go_23 rfl ?_
        refine ta_dup hE dX1_go_24 (fun _ => rfl) ?_
        refine gf_X1_25 hE dX1_go_25 (hk.1) rfl ?_
        refine ta_aloadn hE dX1_go_28 rfl ?_
        refine gr_X1_28 hE dX1_go_29 (hk.1) rfl ?_
        refine ta_iloadn hE dX1_go_32 rfl ?_
        refine ta_callV (C := RX2) (T := TX2) (st := [ti_ (m20 k 5), tr_ k]) hE dX1_go_33 (k_X2_yardsOf a1 m20) ml_X1_63 im_X2_yardsOf se_X2_yardsOf in_X2 co_X2_yardsOf hy_X2_yardsOf ⟨Nat.le_of_ble_eq_true rfl, Nat.le_of_ble_eq_true rfl⟩ lx_1 rfl rfl rfl (fun _ => Nat.le_of_ble_eq_true rfl) (fun r33 m33 hx33 hr33 => ?_)
        change tg_AW E _ _ _ _ _ (ti_ r33 :: _) _
        refine ta_isub hE dX1_go_36 ?_
        refine pf_X1_25 hE dX1_go_37 (hk.1) rfl ?_
        refine ta_nmm (fun m37 => ?_)
        refine ta_goto (tgt := 66) hE dX1_go_40 (by decide) ?_
        exact (hj66 m37)
  · exact ta_vret hE dX1_go_8
noncomputable def f_X0_drag_B10 (k : Nat) (a0 : Int) (v2_7 : Int) (self10 : Int → tg_Mem → tg_R) (v3_10 : Int) (m_10 : tg_Mem) : tg_R :=
  if v2_7 ≤ v3_10 then
    some (0, m_10)
  else
    if m_10 (k + 3) 5 ≤ m_10 1 7 then
      some (0, m_10)
    else
      tg_bd (f_X7_isBelow a0 2 m_10) (fun r34 m34 =>
        if r34 = 0 then
          some (0, m34)
        else
          tg_bd (f_X1_nextTo (k + 3) a0 m34) (fun r50 m50 =>
            tg_bd (f_X1_go (k + 3) a0 r50 m50) (fun _ m53 =>
              tg_ck (0 ≤ a0 ∧ a0 < 2) (
                tg_ck (0 ≤ a0 ∧ a0 < 2) (
                  tg_lt (tg_up m53 (k + 7) (a0).toNat (tg_wi ((m53 (k + 7) (a0).toNat) + 1))) (fun m65 =>
                    tg_lt (tg_wi (v3_10 + 1)) (fun v3_66 =>
                      self10 v3_66 m65)))))))
noncomputable def f_X0_drag (k : Nat) (a0 : Int) (m : tg_Mem) : tg_R :=
  tg_lt (m (k + 3) 4) (fun v2_7 =>
    tg_fx (γ := Int → tg_Mem → tg_R) (f_X0_drag_B10 k a0 v2_7) (fun _ _ => none) tg_FU 0 m)
theorem hy_X0_drag : yX0_drag.cls = RX0 ∧ yX0_drag.cls ≠ "java/lang/invoke/MethodHandle" ∧ yX0_drag.cls ≠ "java/lang/invoke/VarHandle" ∧ (parseMethodDescriptor yX0_drag.desc).map (fun q => q.parameters.length) = some 1 := by decide +kernel
set_option maxRecDepth 100000 in
set_option maxHeartbeats 4000000 in
theorem k_X0_drag {k : Nat} (hk : tg_okD k) (a0 : Int) (m : tg_Mem) : tg_C yX0_drag cX0_drag 4 none 3 LX [tr_ k, ti_ a0] (f_X0_drag k a0 m) m := by
  refine ta_enter2 (own := RX0) (by decide +kernel) rfl rfl (Nat.le_of_ble_eq_true rfl) rfl (fun E hE => ?_)
  unfold f_X0_drag
  refine ta_aloadn hE dX0_drag_0 rfl ?_
  refine gr_X0_44 hE dX0_drag_1 (hk.1) rfl ?_
  refine gf_X0_97 hE dX0_drag_4 (hk.2.2.1.1) rfl ?_
  refine ta_nmi (fun v2_7 => ?_)
  refine ta_istoren (lv2 := [tr_ k, ti_ a0, ti_ v2_7, tj_]) hE dX0_drag_7 (Nat.le_of_ble_eq_true rfl) rfl rfl ?_
  refine ta_iconst (v := 0) hE dX0_drag_8 rfl ⟨by decide, by decide⟩ ?_
  refine ta_istoren (lv2 := [tr_ k, ti_ a0, ti_ v2_7, ti_ 0]) hE dX0_drag_9 (Nat.le_of_ble_eq_true rfl) rfl rfl ?_
  have hl10 := ta_fx (γ := Int → tg_Mem → tg_R) (F := (f_X0_drag_B10 k a0 v2_7)) (z := (fun _ _ => none)) (fun J => ∀ (v3_10 : Int) (m_10 : tg_Mem), tg_AW E LX none (J v3_10 m_10) 10 [tr_ k, ti_ a0, ti_ v2_7, ti_ v3_10] [] m_10) (by intros; exact ta_none) (fun self10 hself10 => by
      intro v3_10 m_10
      unfold f_X0_drag_B10
      refine ta_iloadn hE dX0_drag_10 rfl ?_
      refine ta_iloadn hE dX0_drag_11 rfl ?_
      refine ta_icmp_ge (tgt := 72) hE dX0_drag_12 (by decide) (fun c12 => ?_) (fun c12 => ?_)
      · exact ta_vret hE dX0_drag_72
      · refine ta_aloadn hE dX0_drag_15 rfl ?_
        refine gr_X0_44 hE dX0_drag_16 (hk.1) rfl ?_
        refine gf_X0_80 hE dX0_drag_19 (hk.2.2.1.1) rfl ?_
        refine ta_aloadn hE dX0_drag_22 rfl ?_
        refine gr_X0_35 hE dX0_drag_23 (hk.1) rfl ?_
        refine gf_X0_83 hE dX0_drag_26 lx_1 rfl ?_
        refine ta_icmp_le (tgt := 72) hE dX0_drag_29 (by decide) (fun c29 => ?_) (fun c29 => ?_)
        · exact ta_vret hE dX0_drag_72
        · refine ta_iloadn hE dX0_drag_32 rfl ?_
          refine ta_iconst (v := 2) hE dX0_drag_33 rfl ⟨by decide, by decide⟩ ?_
          refine ta_callN (host := RX7) (st := []) hE dX0_drag_34 (k_X7_isBelow a0 2 m_10) nn_X0_98 st_X7_isBelow in_X7 co_X7_isBelow hy_X7_isBelow.2 ⟨Nat.le_of_ble_eq_true rfl, Nat.le_of_ble_eq_true rfl⟩ rfl rfl (fun _ => Nat.le_of_ble_eq_true rfl) (fun r34 m34 hx34 hr34 => ?_)
          change tg_AW E _ _ _ _ _ (ti_ r34 :: _) _
          refine ta_if_eq (tgt := 72) hE dX0_drag_37 (by decide) (fun c37 => ?_) (fun c37 => ?_)
          · exact ta_vret hE dX0_drag_72
          · refine ta_aloadn hE dX0_drag_40 rfl ?_
            refine gr_X0_44 hE dX0_drag_41 (hk.1) rfl ?_
            refine ta_iloadn hE dX0_drag_44 rfl ?_
            refine ta_aloadn hE dX0_drag_45 rfl ?_
            refine gr_X0_44 hE dX0_drag_46 (hk.1) rfl ?_
            refine ta_iloadn hE dX0_drag_49 rfl ?_
            refine ta_callV (C := RX1) (T := TX1) (st := [ti_ a0, tr_ (k + 3)]) hE dX0_drag_50 (k_X1_nextTo (hk.2.2.1) a0 m34) ml_X0_101 im_X1_nextTo se_X1_nextTo in_X1 co_X1_nextTo hy_X1_nextTo ⟨Nat.le_of_ble_eq_true rfl, Nat.le_of_ble_eq_true rfl⟩ (hk.2.2.1.1) rfl rfl rfl (fun _ => Nat.le_of_ble_eq_true rfl) (fun r50 m50 hx50 hr50 => ?_)
            change tg_AW E _ _ _ _ _ (ti_ r50 :: _) _
            refine ta_callV (C := RX1) (T := TX1) (st := []) hE dX0_drag_53 (k_X1_go (hk.2.2.1) a0 r50 m50) ml_X0_76 im_X1_go se_X1_go in_X1 co_X1_go hy_X1_go ⟨Nat.le_of_ble_eq_true rfl, Nat.le_of_ble_eq_true rfl⟩ (hk.2.2.1.1) rfl rfl rfl (fun _ => Nat.le_of_ble_eq_true rfl) (fun r53 m53 hx53 hr53 => ?_)
            change tg_AW E _ _ _ _ _ [] _
            refine ta_aloadn hE dX0_drag_56 rfl ?_
            refine gr_X0_22 hE dX0_drag_57 (hk.1) rfl ?_
            refine ta_iloadn hE dX0_drag_60 rfl ?_
            refine ta_dup2 hE dX0_drag_61 (fun _ => rfl) (fun _ => rfl) ?_
            refine ta_iald (n' := 2) hE dX0_drag_62 (hk.2.2.2.2) rfl (fun _ _ => ?_)
            refine ta_iconst (v := 1) hE dX0_drag_63 rfl ⟨by decide, by decide⟩ ?_
            refine ta_iadd hE dX0_drag_64 ?_
            refine ta_iast (n' := 2) hE dX0_drag_65 (hk.2.2.2.2) rfl (fun _ _ => ?_)
            refine ta_nmm (fun m65 => ?_)
            refine ta_iincn (lv2 := fun v3_66 => [tr_ k, ti_ a0, ti_ v2_7, ti_ v3_66]) hE dX0_drag_66 rfl rfl rfl (fun v3_66 => ?_)
            refine ta_goto (tgt := 10) hE dX0_drag_69 (by decide) ?_
            exact (hself10 v3_66 m65))
  exact (hl10 tg_FU 0 m)
noncomputable def f_X2_worthAt (a0 : Int) (a1 : Int) (m : tg_Mem) : tg_R :=
  tg_bd (f_X7_isBelow a0 8 m) (fun r3 m3 =>
    tg_jn (γ := tg_R) (some (0, m3)) (fun j26 =>
      if r3 = 0 then
        j26
      else
        if tg_iand (tg_ishr a1 a0) 1 ≠ 0 then
          j26
        else
          tg_ck (0 ≤ a0 ∧ a0 < 8) (
            some (m3 5 (a0).toNat, m3))))
theorem hy_X2_worthAt : yX2_worthAt.cls = RX2 ∧ yX2_worthAt.cls ≠ "java/lang/invoke/MethodHandle" ∧ yX2_worthAt.cls ≠ "java/lang/invoke/VarHandle" ∧ (parseMethodDescriptor yX2_worthAt.desc).map (fun q => q.parameters.length) = some 2 := by decide +kernel
set_option maxRecDepth 100000 in
set_option maxHeartbeats 4000000 in
theorem k_X2_worthAt   (a0 : Int) (a1 : Int) (m : tg_Mem) : tg_C yX2_worthAt cX2_worthAt 3 (some .int) 2 LX [tr_ 1, ti_ a0, ti_ a1] (f_X2_worthAt a0 a1 m) m := by
  refine ta_enter2 (own := RX2) (by decide +kernel) rfl rfl (Nat.le_of_ble_eq_true rfl) rfl (fun E hE => ?_)
  unfold f_X2_worthAt
  refine ta_iloadn hE dX2_worthAt_0 rfl ?_
  refine bp_8 hE dX2_worthAt_1 ?_
  refine ta_callN (host := RX7) (st := []) hE dX2_worthAt_3 (k_X7_isBelow a0 8 m) nn_X2_87 st_X7_isBelow in_X7 co_X7_isBelow hy_X7_isBelow.2 ⟨Nat.le_of_ble_eq_true rfl, Nat.le_of_ble_eq_true rfl⟩ rfl rfl (fun _ => Nat.le_of_ble_eq_true rfl) (fun r3 m3 hx3 hr3 => ?_)
  change tg_AW E _ _ _ _ _ (ti_ r3 :: _) _
  refine ta_join (γ := tg_R) (fun J => tg_AW E LX (some .int) J 26 [tj_, tj_, tj_] [] m3) ?_ (fun j26 hj26 => ?_)
  · refine ta_iconst (v := 0) hE dX2_worthAt_26 rfl ⟨by decide, by decide⟩ ?_
    exact ta_iret hE dX2_worthAt_27
  · refine ta_if_eq (tgt := 26) hE dX2_worthAt_6 (by decide) (fun c6 => ?_) (fun c6 => ?_)
    · exact (ta_wk (i := 0) (lv2 := [tj_, ti_ a0, ti_ a1]) rfl (ta_wk (i := 1) (lv2 := [tj_, tj_, ti_ a1]) rfl (ta_wk (i := 2) (lv2 := [tj_, tj_, tj_]) rfl hj26)))
    · refine ta_iloadn hE dX2_worthAt_9 rfl ?_
      refine ta_iloadn hE dX2_worthAt_10 rfl ?_
      refine ta_ishr hE dX2_worthAt_11 ?_
      refine ta_iconst (v := 1) hE dX2_worthAt_12 rfl ⟨by decide, by decide⟩ ?_
      refine ta_iand hE dX2_worthAt_13 ?_
      refine ta_if_ne (tgt := 26) hE dX2_worthAt_14 (by decide) (fun c14 => ?_) (fun c14 => ?_)
      · exact (ta_wk (i := 0) (lv2 := [tj_, ti_ a0, ti_ a1]) rfl (ta_wk (i := 1) (lv2 := [tj_, tj_, ti_ a1]) rfl (ta_wk (i := 2) (lv2 := [tj_, tj_, tj_]) rfl hj26)))
      · refine ta_aloadn hE dX2_worthAt_17 rfl ?_
        refine gr_X2_22 hE dX2_worthAt_18 lx_1 rfl ?_
        refine ta_iloadn hE dX2_worthAt_21 rfl ?_
        refine ta_iald (n' := 8) hE dX2_worthAt_22 lx_5 rfl (fun _ _ => ?_)
        refine ta_goto (tgt := 27) hE dX2_worthAt_23 (by decide) ?_
        exact ta_iret hE dX2_worthAt_27
noncomputable def f_X0_eat (k : Nat) (a0 : Int) (m : tg_Mem) : tg_R :=
  tg_bd (f_X7_isBelow a0 2 m) (fun r2 m2 =>
    if r2 = 0 then
      some (0, m2)
    else
      tg_ck (0 ≤ a0 ∧ a0 < 2) (
        tg_lt (m2 ((k + 3) + 1) (a0).toNat) (fun v2_17 =>
          tg_ck (0 ≤ a0 ∧ a0 < 2) (
            tg_bd (f_X2_worthAt v2_17 (m2 k 6) m2) (fun r34 m34 =>
              tg_ck (0 ≤ a0 ∧ a0 < 2) (
                tg_lt (tg_up m34 (k + 6) (a0).toNat (tg_wi ((m2 (k + 6) (a0).toNat) + r34))) (fun m38 =>
                  tg_lt (tg_up m38 k 6 (tg_ior (m38 k 6) (tg_ishl 1 v2_17))) (fun m48 =>
                    some (0, m48)))))))))
theorem hy_X0_eat : yX0_eat.cls = RX0 ∧ yX0_eat.cls ≠ "java/lang/invoke/MethodHandle" ∧ yX0_eat.cls ≠ "java/lang/invoke/VarHandle" ∧ (parseMethodDescriptor yX0_eat.desc).map (fun q => q.parameters.length) = some 1 := by decide +kernel
set_option maxRecDepth 100000 in
set_option maxHeartbeats 4000000 in
theorem k_X0_eat {k : Nat} (hk : tg_okD k) (a0 : Int) (m : tg_Mem) : tg_C yX0_eat cX0_eat 3 none 3 LX [tr_ k, ti_ a0] (f_X0_eat k a0 m) m := by
  refine ta_enter2 (own := RX0) (by decide +kernel) rfl rfl (Nat.le_of_ble_eq_true rfl) rfl (fun E hE => ?_)
  unfold f_X0_eat
  refine ta_iloadn hE dX0_eat_0 rfl ?_
  refine ta_iconst (v := 2) hE dX0_eat_1 rfl ⟨by decide, by decide⟩ ?_
  refine ta_callN (host := RX7) (st := []) hE dX0_eat_2 (k_X7_isBelow a0 2 m) nn_X0_98 st_X7_isBelow in_X7 co_X7_isBelow hy_X7_isBelow.2 ⟨Nat.le_of_ble_eq_true rfl, Nat.le_of_ble_eq_true rfl⟩ rfl rfl (fun _ => Nat.le_of_ble_eq_true rfl) (fun r2 m2 hx2 hr2 => ?_)
  change tg_AW E _ _ _ _ _ (ti_ r2 :: _) _
  refine ta_if_eq (tgt := 51) hE dX0_eat_5 (by decide) (fun c5 => ?_) (fun c5 => ?_)
  · exact ta_vret hE dX0_eat_51
  · refine ta_aloadn hE dX0_eat_8 rfl ?_
    refine gr_X0_44 hE dX0_eat_9 (hk.1) rfl ?_
    refine gr_X0_104 hE dX0_eat_12 (hk.2.2.1.1) rfl ?_
    refine ta_iloadn hE dX0_eat_15 rfl ?_
    refine ta_iald (n' := 2) hE dX0_eat_16 (hk.2.2.1.2.1) rfl (fun _ _ => ?_)
    refine ta_nmi (fun v2_17 => ?_)
    refine ta_istoren (lv2 := [tr_ k, ti_ a0, ti_ v2_17]) hE dX0_eat_17 (Nat.le_of_ble_eq_true rfl) rfl rfl ?_
    refine ta_aloadn hE dX0_eat_18 rfl ?_
    refine gr_X0_18 hE dX0_eat_19 (hk.1) rfl ?_
    refine ta_iloadn hE dX0_eat_22 rfl ?_
    refine ta_dup2 hE dX0_eat_23 (fun _ => rfl) (fun _ => rfl) ?_
    refine ta_iald (n' := 2) hE dX0_eat_24 (hk.2.2.2.1) rfl (fun _ _ => ?_)
    refine ta_aloadn hE dX0_eat_25 rfl ?_
    refine gr_X0_35 hE dX0_eat_26 (hk.1) rfl ?_
    refine ta_iloadn hE dX0_eat_29 rfl ?_
    refine ta_aloadn hE dX0_eat_30 rfl ?_
    refine gf_X0_29 hE dX0_eat_31 (hk.1) rfl ?_
    refine ta_callV (C := RX2) (T := TX2) (st := [ti_ (m2 (k + 6) (a0).toNat), ti_ a0, tr_ (k + 6)]) hE dX0_eat_34 (k_X2_worthAt v2_17 (m2 k 6) m2) ml_X0_107 im_X2_worthAt se_X2_worthAt in_X2 co_X2_worthAt hy_X2_worthAt ⟨Nat.le_of_ble_eq_true rfl, Nat.le_of_ble_eq_true rfl⟩ lx_1 rfl rfl rfl (fun _ => Nat.le_of_ble_eq_true rfl) (fun r34 m34 hx34 hr34 => ?_)
    change tg_AW E _ _ _ _ _ (ti_ r34 :: _) _
    refine ta_iadd hE dX0_eat_37 ?_
    refine ta_iast (n' := 2) hE dX0_eat_38 (hk.2.2.2.1) rfl (fun _ _ => ?_)
    refine ta_nmm (fun m38 => ?_)
    refine ta_aloadn hE dX0_eat_39 rfl ?_
    refine ta_dup hE dX0_eat_40 (fun _ => rfl) ?_
    refine gf_X0_29 hE dX0_eat_41 (hk.1) rfl ?_
    refine ta_iconst (v := 1) hE dX0_eat_44 rfl ⟨by decide, by decide⟩ ?_
    refine ta_iloadn hE dX0_eat_45 rfl ?_
    refine ta_ishl hE dX0_eat_46 ?_
    refine ta_ior hE dX0_eat_47 ?_
    refine pf_X0_29 hE dX0_eat_48 (hk.1) rfl ?_
    refine ta_nmm (fun m48 => ?_)
    exact ta_vret hE dX0_eat_51
noncomputable def f_X2_leadsFrom (a0 : Int) (a1 : Int) (m : tg_Mem) : tg_R :=
  if a0 < 0 then
    some (0, m)
  else
    if m 1 8 ≤ a0 then
      some (0, m)
    else
      if a0 < 8 then
        tg_ck (0 ≤ a0 ∧ a0 < 8) (
          tg_jn (γ := tg_R) (some (1, m)) (fun j40 =>
            if m 7 (a0).toNat = a1 then
              j40
            else
              tg_ck (0 ≤ a0 ∧ a0 < 8) (
                if m 8 (a0).toNat ≠ a1 then
                  some (0, m)
                else
                  j40)))
      else
        some (0, m)
theorem hy_X2_leadsFrom : yX2_leadsFrom.cls = RX2 ∧ yX2_leadsFrom.cls ≠ "java/lang/invoke/MethodHandle" ∧ yX2_leadsFrom.cls ≠ "java/lang/invoke/VarHandle" ∧ (parseMethodDescriptor yX2_leadsFrom.desc).map (fun q => q.parameters.length) = some 2 := by decide +kernel
set_option maxRecDepth 100000 in
set_option maxHeartbeats 4000000 in
theorem k_X2_leadsFrom   (a0 : Int) (a1 : Int) (m : tg_Mem) : tg_C yX2_leadsFrom cX2_leadsFrom 3 (some .boolean) 1 LX [tr_ 1, ti_ a0, ti_ a1] (f_X2_leadsFrom a0 a1 m) m := by
  refine ta_enter2 (own := RX2) (by decide +kernel) rfl rfl (Nat.le_of_ble_eq_true rfl) rfl (fun E hE => ?_)
  unfold f_X2_leadsFrom
  refine ta_iloadn hE dX2_leadsFrom_0 rfl ?_
  refine ta_if_lt (tgt := 18) hE dX2_leadsFrom_1 (by decide) (fun c1 => ?_) (fun c1 => ?_)
  · refine ta_iconst (v := 0) hE dX2_leadsFrom_18 rfl ⟨by decide, by decide⟩ ?_
    exact ta_zret hE dX2_leadsFrom_19 (Or.inl rfl)
  · refine ta_iloadn hE dX2_leadsFrom_4 rfl ?_
    refine ta_aloadn hE dX2_leadsFrom_5 rfl ?_
    refine gf_X2_41 hE dX2_leadsFrom_6 lx_1 rfl ?_
    refine ta_icmp_ge (tgt := 18) hE dX2_leadsFrom_9 (by decide) (fun c9 => ?_) (fun c9 => ?_)
    · refine ta_iconst (v := 0) hE dX2_leadsFrom_18 rfl ⟨by decide, by decide⟩ ?_
      exact ta_zret hE dX2_leadsFrom_19 (Or.inl rfl)
    · refine ta_iloadn hE dX2_leadsFrom_12 rfl ?_
      refine bp_8 hE dX2_leadsFrom_13 ?_
      refine ta_icmp_lt (tgt := 20) hE dX2_leadsFrom_15 (by decide) (fun c15 => ?_) (fun c15 => ?_)
      · refine ta_aloadn hE dX2_leadsFrom_20 rfl ?_
        refine gr_X2_28 hE dX2_leadsFrom_21 lx_1 rfl ?_
        refine ta_iloadn hE dX2_leadsFrom_24 rfl ?_
        refine ta_iald (n' := 8) hE dX2_leadsFrom_25 lx_7 rfl (fun _ _ => ?_)
        refine ta_iloadn hE dX2_leadsFrom_26 rfl ?_
        refine ta_join (γ := tg_R) (fun J => tg_AW E LX (some .boolean) J 40 [tj_, tj_, tj_] [] m) ?_ (fun j40 hj40 => ?_)
        · refine ta_iconst (v := 1) hE dX2_leadsFrom_40 rfl ⟨by decide, by decide⟩ ?_
          refine ta_goto (tgt := 45) hE dX2_leadsFrom_41 (by decide) ?_
          exact ta_zret hE dX2_leadsFrom_45 (Or.inr rfl)
        · refine ta_icmp_eq (tgt := 40) hE dX2_leadsFrom_27 (by decide) (fun c27 => ?_) (fun c27 => ?_)
          · exact (ta_wk (i := 0) (lv2 := [tj_, ti_ a0, ti_ a1]) rfl (ta_wk (i := 1) (lv2 := [tj_, tj_, ti_ a1]) rfl (ta_wk (i := 2) (lv2 := [tj_, tj_, tj_]) rfl hj40)))
          · refine ta_aloadn hE dX2_leadsFrom_30 rfl ?_
            refine gr_X2_31 hE dX2_leadsFrom_31 lx_1 rfl ?_
            refine ta_iloadn hE dX2_leadsFrom_34 rfl ?_
            refine ta_iald (n' := 8) hE dX2_leadsFrom_35 lx_8 rfl (fun _ _ => ?_)
            refine ta_iloadn hE dX2_leadsFrom_36 rfl ?_
            refine ta_icmp_ne (tgt := 44) hE dX2_leadsFrom_37 (by decide) (fun c37 => ?_) (fun c37 => ?_)
            · refine ta_iconst (v := 0) hE dX2_leadsFrom_44 rfl ⟨by decide, by decide⟩ ?_
              exact ta_zret hE dX2_leadsFrom_45 (Or.inl rfl)
            · exact (ta_wk (i := 0) (lv2 := [tj_, ti_ a0, ti_ a1]) rfl (ta_wk (i := 1) (lv2 := [tj_, tj_, ti_ a1]) rfl (ta_wk (i := 2) (lv2 := [tj_, tj_, tj_]) rfl hj40)))
      · refine ta_iconst (v := 0) hE dX2_leadsFrom_18 rfl ⟨by decide, by decide⟩ ?_
        exact ta_zret hE dX2_leadsFrom_19 (Or.inl rfl)
noncomputable def f_X1_canGo (k : Nat) (a0 : Int) (a1 : Int) (m : tg_Mem) : tg_R :=
  tg_bd (f_X7_isBelow a0 2 m) (fun r2 m2 =>
    tg_jn (γ := tg_Mem → tg_R) (fun (m_29 : tg_Mem) => some (0, m_29)) (fun j29 =>
      if r2 = 0 then
        j29 m2
      else
        tg_ck (0 ≤ a0 ∧ a0 < 2) (
          tg_bd (f_X2_leadsFrom a1 (m2 (k + 1) (a0).toNat) m2) (fun r19 m19 =>
            if r19 = 0 then
              j29 m19
            else
              some (1, m19)))))
theorem hy_X1_canGo : yX1_canGo.cls = RX1 ∧ yX1_canGo.cls ≠ "java/lang/invoke/MethodHandle" ∧ yX1_canGo.cls ≠ "java/lang/invoke/VarHandle" ∧ (parseMethodDescriptor yX1_canGo.desc).map (fun q => q.parameters.length) = some 2 := by decide +kernel
set_option maxRecDepth 100000 in
set_option maxHeartbeats 4000000 in
theorem k_X1_canGo {k : Nat} (hk : tg_okG k) (a0 : Int) (a1 : Int) (m : tg_Mem) : tg_C yX1_canGo cX1_canGo 3 (some .boolean) 2 LX [tr_ k, ti_ a0, ti_ a1] (f_X1_canGo k a0 a1 m) m := by
  refine ta_enter2 (own := RX1) (by decide +kernel) rfl rfl (Nat.le_of_ble_eq_true rfl) rfl (fun E hE => ?_)
  unfold f_X1_canGo
  refine ta_iloadn hE dX1_canGo_0 rfl ?_
  refine ta_iconst (v := 2) hE dX1_canGo_1 rfl ⟨by decide, by decide⟩ ?_
  refine ta_callN (host := RX7) (st := []) hE dX1_canGo_2 (k_X7_isBelow a0 2 m) nn_X1_50 st_X7_isBelow in_X7 co_X7_isBelow hy_X7_isBelow.2 ⟨Nat.le_of_ble_eq_true rfl, Nat.le_of_ble_eq_true rfl⟩ rfl rfl (fun _ => Nat.le_of_ble_eq_true rfl) (fun r2 m2 hx2 hr2 => ?_)
  change tg_AW E _ _ _ _ _ (ti_ r2 :: _) _
  refine ta_join (γ := tg_Mem → tg_R) (fun J => ∀ (m_29 : tg_Mem), tg_AW E LX (some .boolean) (J m_29) 29 [tj_, tj_, tj_] [] m_29) ?_ (fun j29 hj29 => ?_)
  · intro m_29
    refine ta_iconst (v := 0) hE dX1_canGo_29 rfl ⟨by decide, by decide⟩ ?_
    exact ta_zret hE dX1_canGo_30 (Or.inl rfl)
  · refine ta_if_eq (tgt := 29) hE dX1_canGo_5 (by decide) (fun c5 => ?_) (fun c5 => ?_)
    · exact (ta_wk (i := 0) (lv2 := [tj_, ti_ a0, ti_ a1]) rfl (ta_wk (i := 1) (lv2 := [tj_, tj_, ti_ a1]) rfl (ta_wk (i := 2) (lv2 := [tj_, tj_, tj_]) rfl (hj29 m2))))
    · refine ta_aloadn hE dX1_canGo_8 rfl ?_
      refine gr_X1_28 hE dX1_canGo_9 (hk.1) rfl ?_
      refine ta_iloadn hE dX1_canGo_12 rfl ?_
      refine ta_aloadn hE dX1_canGo_13 rfl ?_
      refine gr_X1_9 hE dX1_canGo_14 (hk.1) rfl ?_
      refine ta_iloadn hE dX1_canGo_17 rfl ?_
      refine ta_iald (n' := 2) hE dX1_canGo_18 (hk.2.1) rfl (fun _ _ => ?_)
      refine ta_callV (C := RX2) (T := TX2) (st := []) hE dX1_canGo_19 (k_X2_leadsFrom a1 (m2 (k + 1) (a0).toNat) m2) ml_X1_54 im_X2_leadsFrom se_X2_leadsFrom in_X2 co_X2_leadsFrom hy_X2_leadsFrom ⟨Nat.le_of_ble_eq_true rfl, Nat.le_of_ble_eq_true rfl⟩ lx_1 rfl rfl rfl (fun _ => Nat.le_of_ble_eq_true rfl) (fun r19 m19 hx19 hr19 => ?_)
      change tg_AW E _ _ _ _ _ (ti_ r19 :: _) _
      refine ta_if_eq (tgt := 29) hE dX1_canGo_22 (by decide) (fun c22 => ?_) (fun c22 => ?_)
      · exact (ta_wk (i := 0) (lv2 := [tj_, ti_ a0, ti_ a1]) rfl (ta_wk (i := 1) (lv2 := [tj_, tj_, ti_ a1]) rfl (ta_wk (i := 2) (lv2 := [tj_, tj_, tj_]) rfl (hj29 m19))))
      · refine ta_iconst (v := 1) hE dX1_canGo_25 rfl ⟨by decide, by decide⟩ ?_
        refine ta_goto (tgt := 30) hE dX1_canGo_26 (by decide) ?_
        exact ta_zret hE dX1_canGo_30 (Or.inr rfl)
noncomputable def f_X2_isHeavier (a0 : Int) (m : tg_Mem) : tg_R :=
  if a0 ≠ 0 then
    tg_ck (0 ≤ 1 ∧ 1 < 2) (
      tg_ck (0 ≤ 0 ∧ 0 < 2) (
        if m 4 1 ≤ m 4 0 then
          some (0, m)
        else
          some (1, m)))
  else
    tg_ck (0 ≤ 0 ∧ 0 < 2) (
      tg_ck (0 ≤ 1 ∧ 1 < 2) (
        if m 4 0 ≤ m 4 1 then
          some (0, m)
        else
          some (1, m)))
theorem hy_X2_isHeavier : yX2_isHeavier.cls = RX2 ∧ yX2_isHeavier.cls ≠ "java/lang/invoke/MethodHandle" ∧ yX2_isHeavier.cls ≠ "java/lang/invoke/VarHandle" ∧ (parseMethodDescriptor yX2_isHeavier.desc).map (fun q => q.parameters.length) = some 1 := by decide +kernel
set_option maxRecDepth 100000 in
set_option maxHeartbeats 4000000 in
theorem k_X2_isHeavier   (a0 : Int) (m : tg_Mem) : tg_C yX2_isHeavier cX2_isHeavier 2 (some .boolean) 1 LX [tr_ 1, ti_ a0] (f_X2_isHeavier a0 m) m := by
  refine ta_enter2 (own := RX2) (by decide +kernel) rfl rfl (Nat.le_of_ble_eq_true rfl) rfl (fun E hE => ?_)
  unfold f_X2_isHeavier
  refine ta_iloadn hE dX2_isHeavier_0 rfl ?_
  refine ta_if_ne (tgt := 27) hE dX2_isHeavier_1 (by decide) (fun c1 => ?_) (fun c1 => ?_)
  · refine ta_aloadn hE dX2_isHeavier_27 rfl ?_
    refine gr_X2_18 hE dX2_isHeavier_28 lx_1 rfl ?_
    refine ta_iconst (v := 1) hE dX2_isHeavier_31 rfl ⟨by decide, by decide⟩ ?_
    refine ta_iald (n' := 2) hE dX2_isHeavier_32 lx_4 rfl (fun _ _ => ?_)
    refine ta_aloadn hE dX2_isHeavier_33 rfl ?_
    refine gr_X2_18 hE dX2_isHeavier_34 lx_1 rfl ?_
    refine ta_iconst (v := 0) hE dX2_isHeavier_37 rfl ⟨by decide, by decide⟩ ?_
    refine ta_iald (n' := 2) hE dX2_isHeavier_38 lx_4 rfl (fun _ _ => ?_)
    refine ta_icmp_le (tgt := 46) hE dX2_isHeavier_39 (by decide) (fun c39 => ?_) (fun c39 => ?_)
    · refine ta_iconst (v := 0) hE dX2_isHeavier_46 rfl ⟨by decide, by decide⟩ ?_
      exact ta_zret hE dX2_isHeavier_47 (Or.inl rfl)
    · refine ta_iconst (v := 1) hE dX2_isHeavier_42 rfl ⟨by decide, by decide⟩ ?_
      refine ta_goto (tgt := 47) hE dX2_isHeavier_43 (by decide) ?_
      exact ta_zret hE dX2_isHeavier_47 (Or.inr rfl)
  · refine ta_aloadn hE dX2_isHeavier_4 rfl ?_
    refine gr_X2_18 hE dX2_isHeavier_5 lx_1 rfl ?_
    refine ta_iconst (v := 0) hE dX2_isHeavier_8 rfl ⟨by decide, by decide⟩ ?_
    refine ta_iald (n' := 2) hE dX2_isHeavier_9 lx_4 rfl (fun _ _ => ?_)
    refine ta_aloadn hE dX2_isHeavier_10 rfl ?_
    refine gr_X2_18 hE dX2_isHeavier_11 lx_1 rfl ?_
    refine ta_iconst (v := 1) hE dX2_isHeavier_14 rfl ⟨by decide, by decide⟩ ?_
    refine ta_iald (n' := 2) hE dX2_isHeavier_15 lx_4 rfl (fun _ _ => ?_)
    refine ta_icmp_le (tgt := 23) hE dX2_isHeavier_16 (by decide) (fun c16 => ?_) (fun c16 => ?_)
    · refine ta_iconst (v := 0) hE dX2_isHeavier_23 rfl ⟨by decide, by decide⟩ ?_
      refine ta_goto (tgt := 47) hE dX2_isHeavier_24 (by decide) ?_
      exact ta_zret hE dX2_isHeavier_47 (Or.inl rfl)
    · refine ta_iconst (v := 1) hE dX2_isHeavier_19 rfl ⟨by decide, by decide⟩ ?_
      refine ta_goto (tgt := 47) hE dX2_isHeavier_20 (by decide) ?_
      exact ta_zret hE dX2_isHeavier_47 (Or.inr rfl)
noncomputable def f_X0_doStep (k : Nat) (a0 : Int) (m : tg_Mem) : tg_R :=
  tg_lt (tg_ishr a0 3) (fun v2_3 =>
    tg_lt (tg_iand a0 7) (fun v3_8 =>
      if a0 = (-1) then
        some (0, m)
      else
        tg_bd (f_X1_canGo (k + 3) v2_3 v3_8 m) (fun r20 m20 =>
          if r20 ≠ 0 then
            tg_bd (f_X1_go (k + 3) v2_3 v3_8 m20) (fun _ m34 =>
              tg_jn (γ := tg_Mem → tg_R) (fun (m_83 : tg_Mem) => tg_bd (f_X0_eat k v2_3 m_83) (fun _ m85 =>
                some (1, m85))) (fun j83 =>
                if m34 (k + 3) 5 ≤ m34 1 7 then
                  j83 m34
                else
                  tg_bd (f_X2_isHeavier v2_3 m34) (fun r59 m59 =>
                    if r59 ≠ 0 then
                      tg_bd (f_X0_drag k (tg_wi (1 - v2_3)) m59) (fun _ m80 =>
                        j83 m80)
                    else
                      tg_bd (f_X1_go (k + 3) v2_3 v3_8 m59) (fun _ m71 =>
                        some (0, m71)))))
          else
            some (0, m20))))
theorem hy_X0_doStep : yX0_doStep.cls = RX0 ∧ yX0_doStep.cls ≠ "java/lang/invoke/MethodHandle" ∧ yX0_doStep.cls ≠ "java/lang/invoke/VarHandle" ∧ (parseMethodDescriptor yX0_doStep.desc).map (fun q => q.parameters.length) = some 1 := by decide +kernel
set_option maxRecDepth 100000 in
set_option maxHeartbeats 4000000 in
theorem k_X0_doStep {k : Nat} (hk : tg_okD k) (a0 : Int) (m : tg_Mem) : tg_C yX0_doStep cX0_doStep 4 (some .boolean) 4 LX [tr_ k, ti_ a0] (f_X0_doStep k a0 m) m := by
  refine ta_enter2 (own := RX0) (by decide +kernel) rfl rfl (Nat.le_of_ble_eq_true rfl) rfl (fun E hE => ?_)
  unfold f_X0_doStep
  refine ta_iloadn hE dX0_doStep_0 rfl ?_
  refine ta_iconst (v := 3) hE dX0_doStep_1 rfl ⟨by decide, by decide⟩ ?_
  refine ta_ishr hE dX0_doStep_2 ?_
  refine ta_nmi (fun v2_3 => ?_)
  refine ta_istoren (lv2 := [tr_ k, ti_ a0, ti_ v2_3, tj_]) hE dX0_doStep_3 (Nat.le_of_ble_eq_true rfl) rfl rfl ?_
  refine ta_iloadn hE dX0_doStep_4 rfl ?_
  refine bp_7 hE dX0_doStep_5 ?_
  refine ta_iand hE dX0_doStep_7 ?_
  refine ta_nmi (fun v3_8 => ?_)
  refine ta_istoren (lv2 := [tr_ k, ti_ a0, ti_ v2_3, ti_ v3_8]) hE dX0_doStep_8 (Nat.le_of_ble_eq_true rfl) rfl rfl ?_
  refine ta_iloadn hE dX0_doStep_9 rfl ?_
  refine ta_iconst (v := (-1)) hE dX0_doStep_10 rfl ⟨by decide, by decide⟩ ?_
  refine ta_icmp_eq (tgt := 26) hE dX0_doStep_11 (by decide) (fun c11 => ?_) (fun c11 => ?_)
  · refine ta_iconst (v := 0) hE dX0_doStep_26 rfl ⟨by decide, by decide⟩ ?_
    exact ta_zret hE dX0_doStep_27 (Or.inl rfl)
  · refine ta_aloadn hE dX0_doStep_14 rfl ?_
    refine gr_X0_44 hE dX0_doStep_15 (hk.1) rfl ?_
    refine ta_iloadn hE dX0_doStep_18 rfl ?_
    refine ta_iloadn hE dX0_doStep_19 rfl ?_
    refine ta_callV (C := RX1) (T := TX1) (st := []) hE dX0_doStep_20 (k_X1_canGo (hk.2.2.1) v2_3 v3_8 m) ml_X0_72 im_X1_canGo se_X1_canGo in_X1 co_X1_canGo hy_X1_canGo ⟨Nat.le_of_ble_eq_true rfl, Nat.le_of_ble_eq_true rfl⟩ (hk.2.2.1.1) rfl rfl rfl (fun _ => Nat.le_of_ble_eq_true rfl) (fun r20 m20 hx20 hr20 => ?_)
    change tg_AW E _ _ _ _ _ (ti_ r20 :: _) _
    refine ta_if_ne (tgt := 28) hE dX0_doStep_23 (by decide) (fun c23 => ?_) (fun c23 => ?_)
    · refine ta_aloadn hE dX0_doStep_28 rfl ?_
      refine gr_X0_44 hE dX0_doStep_29 (hk.1) rfl ?_
      refine ta_iloadn hE dX0_doStep_32 rfl ?_
      refine ta_iloadn hE dX0_doStep_33 rfl ?_
      refine ta_callV (C := RX1) (T := TX1) (st := []) hE dX0_doStep_34 (k_X1_go (hk.2.2.1) v2_3 v3_8 m20) ml_X0_76 im_X1_go se_X1_go in_X1 co_X1_go hy_X1_go ⟨Nat.le_of_ble_eq_true rfl, Nat.le_of_ble_eq_true rfl⟩ (hk.2.2.1.1) rfl rfl rfl (fun _ => Nat.le_of_ble_eq_true rfl) (fun r34 m34 hx34 hr34 => ?_)
      change tg_AW E _ _ _ _ _ [] _
      refine ta_aloadn hE dX0_doStep_37 rfl ?_
      refine gr_X0_44 hE dX0_doStep_38 (hk.1) rfl ?_
      refine gf_X0_80 hE dX0_doStep_41 (hk.2.2.1.1) rfl ?_
      refine ta_aloadn hE dX0_doStep_44 rfl ?_
      refine gr_X0_35 hE dX0_doStep_45 (hk.1) rfl ?_
      refine gf_X0_83 hE dX0_doStep_48 lx_1 rfl ?_
      refine ta_join (γ := tg_Mem → tg_R) (fun J => ∀ (m_83 : tg_Mem), tg_AW E LX (some .boolean) (J m_83) 83 [tr_ k, tj_, ti_ v2_3, tj_] [] m_83) ?_ (fun j83 hj83 => ?_)
      · intro m_83
        refine ta_aloadn hE dX0_doStep_83 rfl ?_
        refine ta_iloadn hE dX0_doStep_84 rfl ?_
        refine ta_callV (C := RX0) (T := TX0) (st := []) hE dX0_doStep_85 (k_X0_eat hk v2_3 m_83) ml_X0_94 im_X0_eat se_X0_eat in_X0 co_X0_eat hy_X0_eat ⟨Nat.le_of_ble_eq_true rfl, Nat.le_of_ble_eq_true rfl⟩ (hk.1) rfl rfl rfl (fun _ => Nat.le_of_ble_eq_true rfl) (fun r85 m85 hx85 hr85 => ?_)
        change tg_AW E _ _ _ _ _ [] _
        refine ta_iconst (v := 1) hE dX0_doStep_88 rfl ⟨by decide, by decide⟩ ?_
        exact ta_zret hE dX0_doStep_89 (Or.inr rfl)
      · refine ta_icmp_le (tgt := 83) hE dX0_doStep_51 (by decide) (fun c51 => ?_) (fun c51 => ?_)
        · exact (ta_wk (i := 1) (lv2 := [tr_ k, tj_, ti_ v2_3, ti_ v3_8]) rfl (ta_wk (i := 3) (lv2 := [tr_ k, tj_, ti_ v2_3, tj_]) rfl (hj83 m34)))
        · refine ta_aloadn hE dX0_doStep_54 rfl ?_
          refine gr_X0_35 hE dX0_doStep_55 (hk.1) rfl ?_
          refine ta_iloadn hE dX0_doStep_58 rfl ?_
          refine ta_callV (C := RX2) (T := TX2) (st := []) hE dX0_doStep_59 (k_X2_isHeavier v2_3 m34) ml_X0_88 im_X2_isHeavier se_X2_isHeavier in_X2 co_X2_isHeavier hy_X2_isHeavier ⟨Nat.le_of_ble_eq_true rfl, Nat.le_of_ble_eq_true rfl⟩ lx_1 rfl rfl rfl (fun _ => Nat.le_of_ble_eq_true rfl) (fun r59 m59 hx59 hr59 => ?_)
          change tg_AW E _ _ _ _ _ (ti_ r59 :: _) _
          refine ta_if_ne (tgt := 76) hE dX0_doStep_62 (by decide) (fun c62 => ?_) (fun c62 => ?_)
          · refine ta_aloadn hE dX0_doStep_76 rfl ?_
            refine ta_iconst (v := 1) hE dX0_doStep_77 rfl ⟨by decide, by decide⟩ ?_
            refine ta_iloadn hE dX0_doStep_78 rfl ?_
            refine ta_isub hE dX0_doStep_79 ?_
            refine ta_callV (C := RX0) (T := TX0) (st := []) hE dX0_doStep_80 (k_X0_drag hk (tg_wi (1 - v2_3)) m59) ml_X0_91 im_X0_drag se_X0_drag in_X0 co_X0_drag hy_X0_drag ⟨Nat.le_of_ble_eq_true rfl, Nat.le_of_ble_eq_true rfl⟩ (hk.1) rfl rfl rfl (fun _ => Nat.le_of_ble_eq_true rfl) (fun r80 m80 hx80 hr80 => ?_)
            change tg_AW E _ _ _ _ _ [] _
            exact (ta_wk (i := 1) (lv2 := [tr_ k, tj_, ti_ v2_3, ti_ v3_8]) rfl (ta_wk (i := 3) (lv2 := [tr_ k, tj_, ti_ v2_3, tj_]) rfl (hj83 m80)))
          · refine ta_aloadn hE dX0_doStep_65 rfl ?_
            refine gr_X0_44 hE dX0_doStep_66 (hk.1) rfl ?_
            refine ta_iloadn hE dX0_doStep_69 rfl ?_
            refine ta_iloadn hE dX0_doStep_70 rfl ?_
            refine ta_callV (C := RX1) (T := TX1) (st := []) hE dX0_doStep_71 (k_X1_go (hk.2.2.1) v2_3 v3_8 m59) ml_X0_76 im_X1_go se_X1_go in_X1 co_X1_go hy_X1_go ⟨Nat.le_of_ble_eq_true rfl, Nat.le_of_ble_eq_true rfl⟩ (hk.2.2.1.1) rfl rfl rfl (fun _ => Nat.le_of_ble_eq_true rfl) (fun r71 m71 hx71 hr71 => ?_)
            change tg_AW E _ _ _ _ _ [] _
            refine ta_iconst (v := 0) hE dX0_doStep_74 rfl ⟨by decide, by decide⟩ ?_
            exact ta_zret hE dX0_doStep_75 (Or.inl rfl)
    · refine ta_iconst (v := 0) hE dX0_doStep_26 rfl ⟨by decide, by decide⟩ ?_
      exact ta_zret hE dX0_doStep_27 (Or.inl rfl)
noncomputable def f_X1_standBoth (k : Nat) (a0 : Int) (m : tg_Mem) : tg_R :=
  tg_ck (0 ≤ 0 ∧ 0 < 2) (
    tg_lt (tg_up m (k + 1) 0 a0) (fun m6 =>
      tg_ck (0 ≤ 1 ∧ 1 < 2) (
        tg_lt (tg_up m6 (k + 1) 1 a0) (fun m13 =>
          tg_lt (tg_up m13 k 3 0) (fun m16 =>
            tg_lt (tg_up m16 k 4 0) (fun m21 =>
              tg_lt (tg_up m21 k 5 0) (fun m26 =>
                some (0, m26))))))))
theorem hy_X1_standBoth : yX1_standBoth.cls = RX1 ∧ yX1_standBoth.cls ≠ "java/lang/invoke/MethodHandle" ∧ yX1_standBoth.cls ≠ "java/lang/invoke/VarHandle" ∧ (parseMethodDescriptor yX1_standBoth.desc).map (fun q => q.parameters.length) = some 1 := by decide +kernel
set_option maxRecDepth 100000 in
set_option maxHeartbeats 4000000 in
theorem k_X1_standBoth {k : Nat} (hk : tg_okG k) (a0 : Int) (m : tg_Mem) : tg_C yX1_standBoth cX1_standBoth 2 none 1 LX [tr_ k, ti_ a0] (f_X1_standBoth k a0 m) m := by
  refine ta_enter2 (own := RX1) (by decide +kernel) rfl rfl (Nat.le_of_ble_eq_true rfl) rfl (fun E hE => ?_)
  unfold f_X1_standBoth
  refine ta_aloadn hE dX1_standBoth_0 rfl ?_
  refine gr_X1_9 hE dX1_standBoth_1 (hk.1) rfl ?_
  refine ta_iconst (v := 0) hE dX1_standBoth_4 rfl ⟨by decide, by decide⟩ ?_
  refine ta_iloadn hE dX1_standBoth_5 rfl ?_
  refine ta_iast (n' := 2) hE dX1_standBoth_6 (hk.2.1) rfl (fun _ _ => ?_)
  refine ta_nmm (fun m6 => ?_)
  refine ta_aloadn hE dX1_standBoth_7 rfl ?_
  refine gr_X1_9 hE dX1_standBoth_8 (hk.1) rfl ?_
  refine ta_iconst (v := 1) hE dX1_standBoth_11 rfl ⟨by decide, by decide⟩ ?_
  refine ta_iloadn hE dX1_standBoth_12 rfl ?_
  refine ta_iast (n' := 2) hE dX1_standBoth_13 (hk.2.1) rfl (fun _ _ => ?_)
  refine ta_nmm (fun m13 => ?_)
  refine ta_aloadn hE dX1_standBoth_14 rfl ?_
  refine ta_iconst (v := 0) hE dX1_standBoth_15 rfl ⟨by decide, by decide⟩ ?_
  refine pf_X1_18 hE dX1_standBoth_16 (hk.1) rfl ?_
  refine ta_nmm (fun m16 => ?_)
  refine ta_aloadn hE dX1_standBoth_19 rfl ?_
  refine ta_iconst (v := 0) hE dX1_standBoth_20 rfl ⟨by decide, by decide⟩ ?_
  refine pf_X1_22 hE dX1_standBoth_21 (hk.1) rfl ?_
  refine ta_nmm (fun m21 => ?_)
  refine ta_aloadn hE dX1_standBoth_24 rfl ?_
  refine ta_iconst (v := 0) hE dX1_standBoth_25 rfl ⟨by decide, by decide⟩ ?_
  refine pf_X1_25 hE dX1_standBoth_26 (hk.1) rfl ?_
  refine ta_nmm (fun m26 => ?_)
  exact ta_vret hE dX1_standBoth_29
noncomputable def f_X7_codeOfByte (a0 : Int) (m : tg_Mem) : tg_R :=
  tg_jn (γ := tg_R) (tg_jn (γ := tg_R) (some ((-1), m)) (fun j39 =>
    if a0 < 65 then
      j39
    else
      if 72 < a0 then
        j39
      else
        some (tg_wi ((tg_wi (a0 - 65)) + 8), m))) (fun j17 =>
    if a0 < 97 then
      j17
    else
      if 104 < a0 then
        j17
      else
        some (tg_wi (a0 - 97), m))
theorem hy_X7_codeOfByte : yX7_codeOfByte.cls = RX7 ∧ yX7_codeOfByte.cls ≠ "java/lang/invoke/MethodHandle" ∧ yX7_codeOfByte.cls ≠ "java/lang/invoke/VarHandle" ∧ (parseMethodDescriptor yX7_codeOfByte.desc).map (fun q => q.parameters.length) = some 1 := by decide +kernel
set_option maxRecDepth 100000 in
set_option maxHeartbeats 4000000 in
theorem k_X7_codeOfByte   (a0 : Int) (m : tg_Mem) : tg_C yX7_codeOfByte cX7_codeOfByte 1 (some .int) 1 LX [ti_ a0] (f_X7_codeOfByte a0 m) m := by
  refine ta_enter2 (own := RX7) (by decide +kernel) rfl rfl (Nat.le_of_ble_eq_true rfl) rfl (fun E hE => ?_)
  unfold f_X7_codeOfByte
  refine ta_iloadn hE dX7_codeOfByte_0 rfl ?_
  refine bp_97 hE dX7_codeOfByte_1 ?_
  refine ta_join (γ := tg_R) (fun J => tg_AW E LX (some .int) J 17 [ti_ a0] [] m) ?_ (fun j17 hj17 => ?_)
  · refine ta_iloadn hE dX7_codeOfByte_17 rfl ?_
    refine bp_65 hE dX7_codeOfByte_18 ?_
    refine ta_join (γ := tg_R) (fun J => tg_AW E LX (some .int) J 39 [tj_] [] m) ?_ (fun j39 hj39 => ?_)
    · refine ta_iconst (v := (-1)) hE dX7_codeOfByte_39 rfl ⟨by decide, by decide⟩ ?_
      exact ta_iret hE dX7_codeOfByte_40
    · refine ta_icmp_lt (tgt := 39) hE dX7_codeOfByte_20 (by decide) (fun c20 => ?_) (fun c20 => ?_)
      · exact (ta_wk (i := 0) (lv2 := [tj_]) rfl hj39)
      · refine ta_iloadn hE dX7_codeOfByte_23 rfl ?_
        refine bp_72 hE dX7_codeOfByte_24 ?_
        refine ta_icmp_gt (tgt := 39) hE dX7_codeOfByte_26 (by decide) (fun c26 => ?_) (fun c26 => ?_)
        · exact (ta_wk (i := 0) (lv2 := [tj_]) rfl hj39)
        · refine ta_iloadn hE dX7_codeOfByte_29 rfl ?_
          refine bp_65 hE dX7_codeOfByte_30 ?_
          refine ta_isub hE dX7_codeOfByte_32 ?_
          refine bp_8 hE dX7_codeOfByte_33 ?_
          refine ta_iadd hE dX7_codeOfByte_35 ?_
          refine ta_goto (tgt := 40) hE dX7_codeOfByte_36 (by decide) ?_
          exact ta_iret hE dX7_codeOfByte_40
  · refine ta_icmp_lt (tgt := 17) hE dX7_codeOfByte_3 (by decide) (fun c3 => ?_) (fun c3 => ?_)
    · exact hj17
    · refine ta_iloadn hE dX7_codeOfByte_6 rfl ?_
      refine bp_104 hE dX7_codeOfByte_7 ?_
      refine ta_icmp_gt (tgt := 17) hE dX7_codeOfByte_9 (by decide) (fun c9 => ?_) (fun c9 => ?_)
      · exact hj17
      · refine ta_iloadn hE dX7_codeOfByte_12 rfl ?_
        refine bp_97 hE dX7_codeOfByte_13 ?_
        refine ta_isub hE dX7_codeOfByte_15 ?_
        exact ta_iret hE dX7_codeOfByte_16
noncomputable def f_X0_walk_B37 (k : Nat) (a0 : Int) (self37 : tg_Mem → tg_R) (m_37 : tg_Mem) : tg_R :=
  if a0 ≤ m_37 k 7 then
    some (0, m_37)
  else
    if m_37 (k + 1) 1 ≤ m_37 k 7 then
      some (0, m_37)
    else
      tg_bd (f_X5_byteAt (k + 1) (m_37 k 7) m_37) (fun r68 m68 =>
        tg_bd (f_X7_codeOfByte r68 m68) (fun r71 m71 =>
          tg_bd (f_X0_doStep k r71 m71) (fun r74 m74 =>
            if r74 = 0 then
              some (0, m74)
            else
              tg_lt (tg_up m74 k 7 (tg_wi ((m74 k 7) + 1))) (fun m87 =>
                self37 m87))))
noncomputable def f_X0_walk (k : Nat) (a0 : Int) (m : tg_Mem) : tg_R :=
  tg_bd (f_X1_standBoth (k + 3) (m k 5) m) (fun _ m8 =>
    tg_bd (f_J7_fill_53178 (k + 6) 2 0 m8) (fun _ m16 =>
      tg_bd (f_J7_fill_53178 (k + 7) 2 0 m16) (fun _ m24 =>
        tg_lt (tg_up m24 k 6 0) (fun m29 =>
          tg_lt (tg_up m29 k 7 0) (fun m34 =>
            tg_fx (γ := tg_Mem → tg_R) (f_X0_walk_B37 k a0) (fun _ => none) tg_FU m34)))))
theorem hy_X0_walk : yX0_walk.cls = RX0 ∧ yX0_walk.cls ≠ "java/lang/invoke/MethodHandle" ∧ yX0_walk.cls ≠ "java/lang/invoke/VarHandle" ∧ (parseMethodDescriptor yX0_walk.desc).map (fun q => q.parameters.length) = some 1 := by decide +kernel
set_option maxRecDepth 100000 in
set_option maxHeartbeats 4000000 in
theorem k_X0_walk {k : Nat} (hk : tg_okD k) (a0 : Int) (m : tg_Mem) : tg_C yX0_walk cX0_walk 2 none 5 LX [tr_ k, ti_ a0] (f_X0_walk k a0 m) m := by
  refine ta_enter2 (own := RX0) (by decide +kernel) rfl rfl (Nat.le_of_ble_eq_true rfl) rfl (fun E hE => ?_)
  unfold f_X0_walk
  refine ta_aloadn hE dX0_walk_0 rfl ?_
  refine gr_X0_44 hE dX0_walk_1 (hk.1) rfl ?_
  refine ta_aloadn hE dX0_walk_4 rfl ?_
  refine gf_X0_25 hE dX0_walk_5 (hk.1) rfl ?_
  refine ta_callV (C := RX1) (T := TX1) (st := []) hE dX0_walk_8 (k_X1_standBoth (hk.2.2.1) (m k 5) m) ml_X0_48 im_X1_standBoth se_X1_standBoth in_X1 co_X1_standBoth hy_X1_standBoth ⟨Nat.le_of_ble_eq_true rfl, Nat.le_of_ble_eq_true rfl⟩ (hk.2.2.1.1) rfl rfl rfl (fun _ => Nat.le_of_ble_eq_true rfl) (fun r8 m8 hx8 hr8 => ?_)
  change tg_AW E _ _ _ _ _ [] _
  refine ta_aloadn hE dX0_walk_11 rfl ?_
  refine gr_X0_18 hE dX0_walk_12 (hk.1) rfl ?_
  refine ta_iconst (v := 0) hE dX0_walk_15 rfl ⟨by decide, by decide⟩ ?_
  refine ta_callS (st := []) hE dX0_walk_16 (k_J7_fill_53178 (hk.2.2.2.1) (by decide) 0 m8) ml_X0_52 st_J7_fill_53178 in_J7 co_J7_fill_53178 hy_J7_fill_53178.2 ⟨Nat.le_of_ble_eq_true rfl, Nat.le_of_ble_eq_true rfl⟩ rfl rfl (fun _ => Nat.le_of_ble_eq_true rfl) (fun r16 m16 hx16 hr16 => ?_)
  change tg_AW E _ _ _ _ _ [] _
  refine ta_aloadn hE dX0_walk_19 rfl ?_
  refine gr_X0_22 hE dX0_walk_20 (hk.1) rfl ?_
  refine ta_iconst (v := 0) hE dX0_walk_23 rfl ⟨by decide, by decide⟩ ?_
  refine ta_callS (st := []) hE dX0_walk_24 (k_J7_fill_53178 (hk.2.2.2.2) (by decide) 0 m16) ml_X0_52 st_J7_fill_53178 in_J7 co_J7_fill_53178 hy_J7_fill_53178.2 ⟨Nat.le_of_ble_eq_true rfl, Nat.le_of_ble_eq_true rfl⟩ rfl rfl (fun _ => Nat.le_of_ble_eq_true rfl) (fun r24 m24 hx24 hr24 => ?_)
  change tg_AW E _ _ _ _ _ [] _
  refine ta_aloadn hE dX0_walk_27 rfl ?_
  refine ta_iconst (v := 0) hE dX0_walk_28 rfl ⟨by decide, by decide⟩ ?_
  refine pf_X0_29 hE dX0_walk_29 (hk.1) rfl ?_
  refine ta_nmm (fun m29 => ?_)
  refine ta_aloadn hE dX0_walk_32 rfl ?_
  refine ta_iconst (v := 0) hE dX0_walk_33 rfl ⟨by decide, by decide⟩ ?_
  refine pf_X0_32 hE dX0_walk_34 (hk.1) rfl ?_
  refine ta_nmm (fun m34 => ?_)
  have hl37 := ta_fx (γ := tg_Mem → tg_R) (F := (f_X0_walk_B37 k a0)) (z := (fun _ => none)) (fun J => ∀ (m_37 : tg_Mem), tg_AW E LX none (J m_37) 37 [tr_ k, ti_ a0] [] m_37) (by intros; exact ta_none) (fun self37 hself37 => by
      intro m_37
      unfold f_X0_walk_B37
      refine ta_aloadn hE dX0_walk_37 rfl ?_
      refine gf_X0_32 hE dX0_walk_38 (hk.1) rfl ?_
      refine ta_iloadn hE dX0_walk_41 rfl ?_
      refine ta_icmp_ge (tgt := 93) hE dX0_walk_42 (by decide) (fun c42 => ?_) (fun c42 => ?_)
      · exact ta_vret hE dX0_walk_93
      · refine ta_aloadn hE dX0_walk_45 rfl ?_
        refine gf_X0_32 hE dX0_walk_46 (hk.1) rfl ?_
        refine ta_aloadn hE dX0_walk_49 rfl ?_
        refine gr_X0_12 hE dX0_walk_50 (hk.1) rfl ?_
        refine gf_X0_58 hE dX0_walk_53 (hk.2.1.1) rfl ?_
        refine ta_icmp_ge (tgt := 93) hE dX0_walk_56 (by decide) (fun c56 => ?_) (fun c56 => ?_)
        · exact ta_vret hE dX0_walk_93
        · refine ta_aloadn hE dX0_walk_59 rfl ?_
          refine ta_aloadn hE dX0_walk_60 rfl ?_
          refine gr_X0_12 hE dX0_walk_61 (hk.1) rfl ?_
          refine ta_aloadn hE dX0_walk_64 rfl ?_
          refine gf_X0_32 hE dX0_walk_65 (hk.1) rfl ?_
          refine ta_callV (C := RX5) (T := TX5) (st := [tr_ k]) hE dX0_walk_68 (k_X5_byteAt (hk.2.1) (m_37 k 7) m_37) ml_X0_61 im_X5_byteAt se_X5_byteAt in_X5 co_X5_byteAt hy_X5_byteAt ⟨Nat.le_of_ble_eq_true rfl, Nat.le_of_ble_eq_true rfl⟩ (hk.2.1.1) rfl rfl rfl (fun _ => Nat.le_of_ble_eq_true rfl) (fun r68 m68 hx68 hr68 => ?_)
          change tg_AW E _ _ _ _ _ (ti_ r68 :: _) _
          refine ta_callN (host := RX7) (st := [tr_ k]) hE dX0_walk_71 (k_X7_codeOfByte r68 m68) nn_X0_65 st_X7_codeOfByte in_X7 co_X7_codeOfByte hy_X7_codeOfByte.2 ⟨Nat.le_of_ble_eq_true rfl, Nat.le_of_ble_eq_true rfl⟩ rfl rfl (fun _ => Nat.le_of_ble_eq_true rfl) (fun r71 m71 hx71 hr71 => ?_)
          change tg_AW E _ _ _ _ _ (ti_ r71 :: _) _
          refine ta_callV (C := RX0) (T := TX0) (st := []) hE dX0_walk_74 (k_X0_doStep hk r71 m71) ml_X0_68 im_X0_doStep se_X0_doStep in_X0 co_X0_doStep hy_X0_doStep ⟨Nat.le_of_ble_eq_true rfl, Nat.le_of_ble_eq_true rfl⟩ (hk.1) rfl rfl rfl (fun _ => Nat.le_of_ble_eq_true rfl) (fun r74 m74 hx74 hr74 => ?_)
          change tg_AW E _ _ _ _ _ (ti_ r74 :: _) _
          refine ta_if_eq (tgt := 93) hE dX0_walk_77 (by decide) (fun c77 => ?_) (fun c77 => ?_)
          · exact ta_vret hE dX0_walk_93
          · refine ta_aloadn hE dX0_walk_80 rfl ?_
            refine ta_dup hE dX0_walk_81 (fun _ => rfl) ?_
            refine gf_X0_32 hE dX0_walk_82 (hk.1) rfl ?_
            refine ta_iconst (v := 1) hE dX0_walk_85 rfl ⟨by decide, by decide⟩ ?_
            refine ta_iadd hE dX0_walk_86 ?_
            refine pf_X0_32 hE dX0_walk_87 (hk.1) rfl ?_
            refine ta_nmm (fun m87 => ?_)
            refine ta_goto (tgt := 37) hE dX0_walk_90 (by decide) ?_
            exact (hself37 m87))
  exact (hl37 tg_FU m34)
noncomputable def f_X7_ended (a0 : Int) (m : tg_Mem) : tg_R :=
  tg_bd (f_X7_dayOf a0 m) (fun r2 m2 =>
    tg_bd (f_X0_walk (r2.toNat) 40 m2) (fun _ m9 =>
      some (((r2.toNat : Nat) : Int), m9)))
theorem hy_X7_ended : yX7_ended.cls = RX7 ∧ yX7_ended.cls ≠ "java/lang/invoke/MethodHandle" ∧ yX7_ended.cls ≠ "java/lang/invoke/VarHandle" ∧ (parseMethodDescriptor yX7_ended.desc).map (fun q => q.parameters.length) = some 1 := by decide +kernel
set_option maxRecDepth 100000 in
set_option maxHeartbeats 4000000 in
theorem k_X7_ended   (a0 : Int) (m : tg_Mem) : tg_C yX7_ended cX7_ended 3 (some (.object "TwoGoats$Day")) 6 LX [tr_ 0, ti_ a0] (f_X7_ended a0 m) m := by
  refine ta_enter2 (own := RX7) (by decide +kernel) rfl rfl (Nat.le_of_ble_eq_true rfl) rfl (fun E hE => ?_)
  unfold f_X7_ended
  refine ta_aloadn hE dX7_ended_0 rfl ?_
  refine ta_iloadn hE dX7_ended_1 rfl ?_
  refine ta_callV (C := RX7) (T := TX7) (st := []) hE dX7_ended_2 (k_X7_dayOf a0 m) ml_X7_90 im_X7_dayOf se_X7_dayOf in_X7 co_X7_dayOf hy_X7_dayOf ⟨Nat.le_of_ble_eq_true rfl, Nat.le_of_ble_eq_true rfl⟩ lx_0 rfl rfl rfl (fun _ => Nat.le_of_ble_eq_true rfl) (fun r2 m2 hx2 hr2 => ?_)
  change tg_AW E _ _ _ _ _ (tr_ r2.toNat :: _) _
  refine ta_astoren (lv2 := [tr_ 0, ti_ a0, tr_ (r2.toNat)]) hE dX7_ended_5 (Nat.le_of_ble_eq_true rfl) rfl rfl ?_
  refine ta_aloadn hE dX7_ended_6 rfl ?_
  refine bp_40 hE dX7_ended_7 ?_
  refine ta_callV (C := RX0) (T := TX0) (st := []) hE dX7_ended_9 (k_X0_walk (ok_X7_dayOf hx2) 40 m2) ml_X7_134 im_X0_walk se_X0_walk in_X0 co_X0_walk hy_X0_walk ⟨Nat.le_of_ble_eq_true rfl, Nat.le_of_ble_eq_true rfl⟩ ((ok_X7_dayOf hx2).1) rfl rfl rfl (fun _ => Nat.le_of_ble_eq_true rfl) (fun r9 m9 hx9 hr9 => ?_)
  change tg_AW E _ _ _ _ _ [] _
  refine ta_aloadn hE dX7_ended_12 rfl ?_
  exact ta_aret hE dX7_ended_13
theorem ok_X7_ended {a : Int} {m m2 : tg_Mem} {r : Int} (h : f_X7_ended a m = some (r, m2)) : tg_okD r.toNat := by
  unfold f_X7_ended at h
  obtain ⟨q, m3, h1, h2⟩ := tg_bd_of h
  obtain ⟨q2, m4, h3, h4⟩ := tg_bd_of h2
  cases h4
  have h9 := ok_X7_dayOf h1
  exact h9
noncomputable def f_X7_judged (a0 : Int) (m : tg_Mem) : tg_R :=
  tg_bd (f_X7_isBelow a0 2 m) (fun r2 m2 =>
    if r2 ≠ 0 then
      tg_bd (f_X7_ended a0 m2) (fun r13 m13 =>
        if m13 (r13.toNat + 1) 1 ≤ m13 (r13.toNat) 7 then
          some ((-1), m13)
        else
          some (m13 (r13.toNat) 7, m13))
    else
      some ((-2), m2))
theorem hy_X7_judged : yX7_judged.cls = RX7 ∧ yX7_judged.cls ≠ "java/lang/invoke/MethodHandle" ∧ yX7_judged.cls ≠ "java/lang/invoke/VarHandle" ∧ (parseMethodDescriptor yX7_judged.desc).map (fun q => q.parameters.length) = some 1 := by decide +kernel
set_option maxRecDepth 100000 in
set_option maxHeartbeats 4000000 in
theorem k_X7_judged   (a0 : Int) (m : tg_Mem) : tg_C yX7_judged cX7_judged 3 (some .int) 7 LX [tr_ 0, ti_ a0] (f_X7_judged a0 m) m := by
  refine ta_enter2 (own := RX7) (by decide +kernel) rfl rfl (Nat.le_of_ble_eq_true rfl) rfl (fun E hE => ?_)
  unfold f_X7_judged
  refine ta_iloadn hE dX7_judged_0 rfl ?_
  refine ta_iconst (v := 2) hE dX7_judged_1 rfl ⟨by decide, by decide⟩ ?_
  refine ta_callS (st := []) hE dX7_judged_2 (k_X7_isBelow a0 2 m) ml_X7_60 st_X7_isBelow in_X7 co_X7_isBelow hy_X7_isBelow.2 ⟨Nat.le_of_ble_eq_true rfl, Nat.le_of_ble_eq_true rfl⟩ rfl rfl (fun _ => Nat.le_of_ble_eq_true rfl) (fun r2 m2 hx2 hr2 => ?_)
  change tg_AW E _ _ _ _ _ (ti_ r2 :: _) _
  refine ta_if_ne (tgt := 11) hE dX7_judged_5 (by decide) (fun c5 => ?_) (fun c5 => ?_)
  · refine ta_aloadn hE dX7_judged_11 rfl ?_
    refine ta_iloadn hE dX7_judged_12 rfl ?_
    refine ta_callV (C := RX7) (T := TX7) (st := []) hE dX7_judged_13 (k_X7_ended a0 m2) ml_X7_128 im_X7_ended se_X7_ended in_X7 co_X7_ended hy_X7_ended ⟨Nat.le_of_ble_eq_true rfl, Nat.le_of_ble_eq_true rfl⟩ lx_0 rfl rfl rfl (fun _ => Nat.le_of_ble_eq_true rfl) (fun r13 m13 hx13 hr13 => ?_)
    change tg_AW E _ _ _ _ _ (tr_ r13.toNat :: _) _
    refine ta_astoren (lv2 := [tr_ 0, ti_ a0, tr_ (r13.toNat)]) hE dX7_judged_16 (Nat.le_of_ble_eq_true rfl) rfl rfl ?_
    refine ta_aloadn hE dX7_judged_17 rfl ?_
    refine gf_X7_131 hE dX7_judged_18 ((ok_X7_ended hx13).1) rfl ?_
    refine ta_aloadn hE dX7_judged_21 rfl ?_
    refine gr_X7_117 hE dX7_judged_22 ((ok_X7_ended hx13).1) rfl ?_
    refine gf_X7_68 hE dX7_judged_25 ((ok_X7_ended hx13).2.1.1) rfl ?_
    refine ta_icmp_ge (tgt := 38) hE dX7_judged_28 (by decide) (fun c28 => ?_) (fun c28 => ?_)
    · refine ta_iconst (v := (-1)) hE dX7_judged_38 rfl ⟨by decide, by decide⟩ ?_
      exact ta_iret hE dX7_judged_39
    · refine ta_aloadn hE dX7_judged_31 rfl ?_
      refine gf_X7_131 hE dX7_judged_32 ((ok_X7_ended hx13).1) rfl ?_
      refine ta_goto (tgt := 39) hE dX7_judged_35 (by decide) ?_
      exact ta_iret hE dX7_judged_39
  · refine bp_n2 hE dX7_judged_8 ?_
    exact ta_iret hE dX7_judged_10
noncomputable def f_X0_told (k : Nat) (a0 : Int) (m : tg_Mem) : tg_R :=
  if a0 = 0 then
    tg_ck (0 ≤ 0 ∧ 0 < 2) (
      some (m ((k + 3) + 1) 0, m))
  else
    if a0 = 1 then
      tg_ck (0 ≤ 1 ∧ 1 < 2) (
        some (m ((k + 3) + 1) 1, m))
    else
      if a0 = 2 then
        some (m (k + 3) 4, m)
      else
        if a0 = 3 then
          some (m (k + 3) 5, m)
        else
          if a0 = 4 then
            tg_ck (0 ≤ 0 ∧ 0 < 2) (
              some (m (k + 6) 0, m))
          else
            if a0 = 5 then
              tg_ck (0 ≤ 1 ∧ 1 < 2) (
                some (m (k + 6) 1, m))
            else
              if a0 = 6 then
                tg_ck (0 ≤ 0 ∧ 0 < 2) (
                  some (m (k + 7) 0, m))
              else
                tg_ck (0 ≤ 1 ∧ 1 < 2) (
                  some (m (k + 7) 1, m))
theorem hy_X0_told : yX0_told.cls = RX0 ∧ yX0_told.cls ≠ "java/lang/invoke/MethodHandle" ∧ yX0_told.cls ≠ "java/lang/invoke/VarHandle" ∧ (parseMethodDescriptor yX0_told.desc).map (fun q => q.parameters.length) = some 1 := by decide +kernel
set_option maxRecDepth 100000 in
set_option maxHeartbeats 4000000 in
theorem k_X0_told {k : Nat} (hk : tg_okD k) (a0 : Int) (m : tg_Mem) : tg_C yX0_told cX0_told 2 (some .int) 1 LX [tr_ k, ti_ a0] (f_X0_told k a0 m) m := by
  refine ta_enter2 (own := RX0) (by decide +kernel) rfl rfl (Nat.le_of_ble_eq_true rfl) rfl (fun E hE => ?_)
  unfold f_X0_told
  refine ta_iloadn hE dX0_told_0 rfl ?_
  refine ta_ite (fun q0 => ?_) (fun q0 => ?_)
  · refine ta_swc (tgt := 44) 0 hE dX0_told_1 q0 (by decide) (by decide) rfl (by decide) ?_
    refine ta_aloadn hE dX0_told_44 rfl ?_
    refine gr_X0_44 hE dX0_told_45 (hk.1) rfl ?_
    refine gr_X0_104 hE dX0_told_48 (hk.2.2.1.1) rfl ?_
    refine ta_iconst (v := 0) hE dX0_told_51 rfl ⟨by decide, by decide⟩ ?_
    refine ta_iald (n' := 2) hE dX0_told_52 (hk.2.2.1.2.1) rfl (fun _ _ => ?_)
    exact ta_iret hE dX0_told_53
  · refine ta_ite (fun q1 => ?_) (fun q1 => ?_)
    · refine ta_swc (tgt := 54) 1 hE dX0_told_1 q1 (by decide) (by decide) rfl (by decide) ?_
      refine ta_aloadn hE dX0_told_54 rfl ?_
      refine gr_X0_44 hE dX0_told_55 (hk.1) rfl ?_
      refine gr_X0_104 hE dX0_told_58 (hk.2.2.1.1) rfl ?_
      refine ta_iconst (v := 1) hE dX0_told_61 rfl ⟨by decide, by decide⟩ ?_
      refine ta_iald (n' := 2) hE dX0_told_62 (hk.2.2.1.2.1) rfl (fun _ _ => ?_)
      exact ta_iret hE dX0_told_63
    · refine ta_ite (fun q2 => ?_) (fun q2 => ?_)
      · refine ta_swc (tgt := 64) 2 hE dX0_told_1 q2 (by decide) (by decide) rfl (by decide) ?_
        refine ta_aloadn hE dX0_told_64 rfl ?_
        refine gr_X0_44 hE dX0_told_65 (hk.1) rfl ?_
        refine gf_X0_97 hE dX0_told_68 (hk.2.2.1.1) rfl ?_
        exact ta_iret hE dX0_told_71
      · refine ta_ite (fun q3 => ?_) (fun q3 => ?_)
        · refine ta_swc (tgt := 72) 3 hE dX0_told_1 q3 (by decide) (by decide) rfl (by decide) ?_
          refine ta_aloadn hE dX0_told_72 rfl ?_
          refine gr_X0_44 hE dX0_told_73 (hk.1) rfl ?_
          refine gf_X0_80 hE dX0_told_76 (hk.2.2.1.1) rfl ?_
          exact ta_iret hE dX0_told_79
        · refine ta_ite (fun q4 => ?_) (fun q4 => ?_)
          · refine ta_swc (tgt := 80) 4 hE dX0_told_1 q4 (by decide) (by decide) rfl (by decide) ?_
            refine ta_aloadn hE dX0_told_80 rfl ?_
            refine gr_X0_18 hE dX0_told_81 (hk.1) rfl ?_
            refine ta_iconst (v := 0) hE dX0_told_84 rfl ⟨by decide, by decide⟩ ?_
            refine ta_iald (n' := 2) hE dX0_told_85 (hk.2.2.2.1) rfl (fun _ _ => ?_)
            exact ta_iret hE dX0_told_86
          · refine ta_ite (fun q5 => ?_) (fun q5 => ?_)
            · refine ta_swc (tgt := 87) 5 hE dX0_told_1 q5 (by decide) (by decide) rfl (by decide) ?_
              refine ta_aloadn hE dX0_told_87 rfl ?_
              refine gr_X0_18 hE dX0_told_88 (hk.1) rfl ?_
              refine ta_iconst (v := 1) hE dX0_told_91 rfl ⟨by decide, by decide⟩ ?_
              refine ta_iald (n' := 2) hE dX0_told_92 (hk.2.2.2.1) rfl (fun _ _ => ?_)
              exact ta_iret hE dX0_told_93
            · refine ta_ite (fun q6 => ?_) (fun q6 => ?_)
              · refine ta_swc (tgt := 94) 6 hE dX0_told_1 q6 (by decide) (by decide) rfl (by decide) ?_
                refine ta_aloadn hE dX0_told_94 rfl ?_
                refine gr_X0_22 hE dX0_told_95 (hk.1) rfl ?_
                refine ta_iconst (v := 0) hE dX0_told_98 rfl ⟨by decide, by decide⟩ ?_
                refine ta_iald (n' := 2) hE dX0_told_99 (hk.2.2.2.2) rfl (fun _ _ => ?_)
                exact ta_iret hE dX0_told_100
              · refine ta_swd (tgt := 101) hE dX0_told_1 (by omega) (by decide) ?_
                refine ta_aloadn hE dX0_told_101 rfl ?_
                refine gr_X0_22 hE dX0_told_102 (hk.1) rfl ?_
                refine ta_iconst (v := 1) hE dX0_told_105 rfl ⟨by decide, by decide⟩ ?_
                refine ta_iald (n' := 2) hE dX0_told_106 (hk.2.2.2.2) rfl (fun _ _ => ?_)
                exact ta_iret hE dX0_told_107
noncomputable def f_X7_state (a0 : Int) (a1 : Int) (a2 : Int) (m : tg_Mem) : tg_R :=
  tg_bd (f_X7_isBelow a0 2 m) (fun r2 m2 =>
    if r2 = 0 then
      some ((-2), m2)
    else
      if a1 < 0 then
        some ((-2), m2)
      else
        tg_bd (f_X7_isBelow a2 8 m2) (fun r15 m15 =>
          if r15 ≠ 0 then
            tg_bd (f_X7_dayOf a0 m15) (fun r26 m26 =>
              tg_bd (f_X0_walk (r26.toNat) a1 m26) (fun _ m34 =>
                if a1 ≤ m34 (r26.toNat) 7 then
                  tg_bd (f_X0_told (r26.toNat) a2 m34) (fun r54 m54 =>
                    some (r54, m54))
                else
                  some ((-2), m34)))
          else
            some ((-2), m15)))
theorem hy_X7_state : yX7_state.cls = RX7 ∧ yX7_state.cls ≠ "java/lang/invoke/MethodHandle" ∧ yX7_state.cls ≠ "java/lang/invoke/VarHandle" ∧ (parseMethodDescriptor yX7_state.desc).map (fun q => q.parameters.length) = some 3 := by decide +kernel
set_option maxRecDepth 100000 in
set_option maxHeartbeats 4000000 in
theorem k_X7_state   (a0 : Int) (a1 : Int) (a2 : Int) (m : tg_Mem) : tg_C yX7_state cX7_state 5 (some .int) 6 LX [tr_ 0, ti_ a0, ti_ a1, ti_ a2] (f_X7_state a0 a1 a2 m) m := by
  refine ta_enter2 (own := RX7) (by decide +kernel) rfl rfl (Nat.le_of_ble_eq_true rfl) rfl (fun E hE => ?_)
  unfold f_X7_state
  refine ta_iloadn hE dX7_state_0 rfl ?_
  refine ta_iconst (v := 2) hE dX7_state_1 rfl ⟨by decide, by decide⟩ ?_
  refine ta_callS (st := []) hE dX7_state_2 (k_X7_isBelow a0 2 m) ml_X7_60 st_X7_isBelow in_X7 co_X7_isBelow hy_X7_isBelow.2 ⟨Nat.le_of_ble_eq_true rfl, Nat.le_of_ble_eq_true rfl⟩ rfl rfl (fun _ => Nat.le_of_ble_eq_true rfl) (fun r2 m2 hx2 hr2 => ?_)
  change tg_AW E _ _ _ _ _ (ti_ r2 :: _) _
  refine ta_if_eq (tgt := 21) hE dX7_state_5 (by decide) (fun c5 => ?_) (fun c5 => ?_)
  · refine bp_n2 hE dX7_state_21 ?_
    exact ta_iret hE dX7_state_23
  · refine ta_iloadn hE dX7_state_8 rfl ?_
    refine ta_if_lt (tgt := 21) hE dX7_state_9 (by decide) (fun c9 => ?_) (fun c9 => ?_)
    · refine bp_n2 hE dX7_state_21 ?_
      exact ta_iret hE dX7_state_23
    · refine ta_iloadn hE dX7_state_12 rfl ?_
      refine bp_8 hE dX7_state_13 ?_
      refine ta_callS (st := []) hE dX7_state_15 (k_X7_isBelow a2 8 m2) ml_X7_60 st_X7_isBelow in_X7 co_X7_isBelow hy_X7_isBelow.2 ⟨Nat.le_of_ble_eq_true rfl, Nat.le_of_ble_eq_true rfl⟩ rfl rfl (fun _ => Nat.le_of_ble_eq_true rfl) (fun r15 m15 hx15 hr15 => ?_)
      change tg_AW E _ _ _ _ _ (ti_ r15 :: _) _
      refine ta_if_ne (tgt := 24) hE dX7_state_18 (by decide) (fun c18 => ?_) (fun c18 => ?_)
      · refine ta_aloadn hE dX7_state_24 rfl ?_
        refine ta_iloadn hE dX7_state_25 rfl ?_
        refine ta_callV (C := RX7) (T := TX7) (st := []) hE dX7_state_26 (k_X7_dayOf a0 m15) ml_X7_90 im_X7_dayOf se_X7_dayOf in_X7 co_X7_dayOf hy_X7_dayOf ⟨Nat.le_of_ble_eq_true rfl, Nat.le_of_ble_eq_true rfl⟩ lx_0 rfl rfl rfl (fun _ => Nat.le_of_ble_eq_true rfl) (fun r26 m26 hx26 hr26 => ?_)
        change tg_AW E _ _ _ _ _ (tr_ r26.toNat :: _) _
        refine ta_astore (lv2 := [tr_ 0, ti_ a0, ti_ a1, ti_ a2, tr_ (r26.toNat)]) hE dX7_state_29 (Nat.le_of_ble_eq_true rfl) rfl rfl ?_
        refine ta_aload hE dX7_state_31 rfl ?_
        refine ta_iloadn hE dX7_state_33 rfl ?_
        refine ta_callV (C := RX0) (T := TX0) (st := []) hE dX7_state_34 (k_X0_walk (ok_X7_dayOf hx26) a1 m26) ml_X7_134 im_X0_walk se_X0_walk in_X0 co_X0_walk hy_X0_walk ⟨Nat.le_of_ble_eq_true rfl, Nat.le_of_ble_eq_true rfl⟩ ((ok_X7_dayOf hx26).1) rfl rfl rfl (fun _ => Nat.le_of_ble_eq_true rfl) (fun r34 m34 hx34 hr34 => ?_)
        change tg_AW E _ _ _ _ _ [] _
        refine ta_aload hE dX7_state_37 rfl ?_
        refine gf_X7_131 hE dX7_state_39 ((ok_X7_dayOf hx26).1) rfl ?_
        refine ta_iloadn hE dX7_state_42 rfl ?_
        refine ta_icmp_ge (tgt := 51) hE dX7_state_43 (by decide) (fun c43 => ?_) (fun c43 => ?_)
        · refine ta_aload hE dX7_state_51 rfl ?_
          refine ta_iloadn hE dX7_state_53 rfl ?_
          refine ta_callV (C := RX0) (T := TX0) (st := []) hE dX7_state_54 (k_X0_told (ok_X7_dayOf hx26) a2 m34) ml_X7_137 im_X0_told se_X0_told in_X0 co_X0_told hy_X0_told ⟨Nat.le_of_ble_eq_true rfl, Nat.le_of_ble_eq_true rfl⟩ ((ok_X7_dayOf hx26).1) rfl rfl rfl (fun _ => Nat.le_of_ble_eq_true rfl) (fun r54 m54 hx54 hr54 => ?_)
          change tg_AW E _ _ _ _ _ (ti_ r54 :: _) _
          exact ta_iret hE dX7_state_57
        · refine bp_n2 hE dX7_state_46 ?_
          refine ta_goto (tgt := 57) hE dX7_state_48 (by decide) ?_
          exact ta_iret hE dX7_state_57
      · refine bp_n2 hE dX7_state_21 ?_
        exact ta_iret hE dX7_state_23
