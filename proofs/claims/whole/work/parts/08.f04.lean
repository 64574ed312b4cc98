noncomputable def f_X4_cut (k : Nat) (a0 : Int) (m : tg_Mem) : tg_R :=
  if m k 1 ≠ 0 then
    if m k 1 ≠ 1 then
      some (a0, m)
    else
      some (tg_i2s a0, m)
  else
    some (tg_i2b a0, m)
theorem hy_X4_cut : yX4_cut.cls = RX4 ∧ yX4_cut.cls ≠ "java/lang/invoke/MethodHandle" ∧ yX4_cut.cls ≠ "java/lang/invoke/VarHandle" ∧ (parseMethodDescriptor yX4_cut.desc).map (fun q => q.parameters.length) = some 1 := by decide +kernel
set_option maxRecDepth 100000 in
set_option maxHeartbeats 4000000 in
theorem k_X4_cut {k : Nat} (hk : tg_okS k) (a0 : Int) (m : tg_Mem) : tg_C yX4_cut cX4_cut 2 (some .int) 1 LX [tr_ k, ti_ a0] (f_X4_cut k a0 m) m := by
  refine ta_enter2 (own := RX4) (by decide +kernel) rfl rfl (Nat.le_of_ble_eq_true rfl) rfl (fun E hE => ?_)
  unfold f_X4_cut
  refine ta_aloadn hE dX4_cut_0 rfl ?_
  refine gf_X4_15 hE dX4_cut_1 (hk.1) rfl ?_
  refine ta_if_ne (tgt := 10) hE dX4_cut_4 (by decide) (fun c4 => ?_) (fun c4 => ?_)
  · refine ta_aloadn hE dX4_cut_10 rfl ?_
    refine gf_X4_15 hE dX4_cut_11 (hk.1) rfl ?_
    refine ta_iconst (v := 1) hE dX4_cut_14 rfl ⟨by decide, by decide⟩ ?_
    refine ta_icmp_ne (tgt := 23) hE dX4_cut_15 (by decide) (fun c15 => ?_) (fun c15 => ?_)
    · refine ta_iloadn hE dX4_cut_23 rfl ?_
      exact ta_iret hE dX4_cut_24
    · refine ta_iloadn hE dX4_cut_18 rfl ?_
      refine ta_i2s hE dX4_cut_19 ?_
      refine ta_goto (tgt := 24) hE dX4_cut_20 (by decide) ?_
      exact ta_iret hE dX4_cut_24
  · refine ta_iloadn hE dX4_cut_7 rfl ?_
    refine ta_i2b hE dX4_cut_8 ?_
    exact ta_iret hE dX4_cut_9
noncomputable def f_X4_put (k : Nat) (a0 : Int) (a1 : Int) (m : tg_Mem) : tg_R :=
  tg_bd (f_X7_isBelow a0 (m k 2) m) (fun r5 m5 =>
    if r5 = 0 then
      some (0, m5)
    else
      tg_bd (f_X7_isBelow a0 60 m5) (fun r14 m14 =>
        if r14 = 0 then
          some (0, m14)
        else
          tg_bd (f_X4_cut k a1 m14) (fun r27 m27 =>
            tg_ck (0 ≤ a0 ∧ a0 < 60) (
              tg_lt (tg_up m27 (k + 1) (a0).toNat r27) (fun m30 =>
                some (0, m30))))))
theorem hy_X4_put : yX4_put.cls = RX4 ∧ yX4_put.cls ≠ "java/lang/invoke/MethodHandle" ∧ yX4_put.cls ≠ "java/lang/invoke/VarHandle" ∧ (parseMethodDescriptor yX4_put.desc).map (fun q => q.parameters.length) = some 2 := by decide +kernel
set_option maxRecDepth 100000 in
set_option maxHeartbeats 4000000 in
theorem k_X4_put {k : Nat} (hk : tg_okS k) (a0 : Int) (a1 : Int) (m : tg_Mem) : tg_C yX4_put cX4_put 3 none 2 LX [tr_ k, ti_ a0, ti_ a1] (f_X4_put k a0 a1 m) m := by
  refine ta_enter2 (own := RX4) (by decide +kernel) rfl rfl (Nat.le_of_ble_eq_true rfl) rfl (fun E hE => ?_)
  unfold f_X4_put
  refine ta_iloadn hE dX4_put_0 rfl ?_
  refine ta_aloadn hE dX4_put_1 rfl ?_
  refine gf_X4_19 hE dX4_put_2 (hk.1) rfl ?_
  refine ta_callN (host := RX7) (st := []) hE dX4_put_5 (k_X7_isBelow a0 (m k 2) m) nn_X4_28 st_X7_isBelow in_X7 co_X7_isBelow hy_X7_isBelow.2 ⟨Nat.le_of_ble_eq_true rfl, Nat.le_of_ble_eq_true rfl⟩ rfl rfl (fun _ => Nat.le_of_ble_eq_true rfl) (fun r5 m5 hx5 hr5 => ?_)
  change tg_AW E _ _ _ _ _ (ti_ r5 :: _) _
  refine ta_if_eq (tgt := 31) hE dX4_put_8 (by decide) (fun c8 => ?_) (fun c8 => ?_)
  · exact ta_vret hE dX4_put_31
  · refine ta_iloadn hE dX4_put_11 rfl ?_
    refine bp_60 hE dX4_put_12 ?_
    refine ta_callN (host := RX7) (st := []) hE dX4_put_14 (k_X7_isBelow a0 60 m5) nn_X4_28 st_X7_isBelow in_X7 co_X7_isBelow hy_X7_isBelow.2 ⟨Nat.le_of_ble_eq_true rfl, Nat.le_of_ble_eq_true rfl⟩ rfl rfl (fun _ => Nat.le_of_ble_eq_true rfl) (fun r14 m14 hx14 hr14 => ?_)
    change tg_AW E _ _ _ _ _ (ti_ r14 :: _) _
    refine ta_if_eq (tgt := 31) hE dX4_put_17 (by decide) (fun c17 => ?_) (fun c17 => ?_)
    · exact ta_vret hE dX4_put_31
    · refine ta_aloadn hE dX4_put_20 rfl ?_
      refine gr_X4_9 hE dX4_put_21 (hk.1) rfl ?_
      refine ta_iloadn hE dX4_put_24 rfl ?_
      refine ta_aloadn hE dX4_put_25 rfl ?_
      refine ta_iloadn hE dX4_put_26 rfl ?_
      refine ta_callV (C := RX4) (T := TX4) (st := [ti_ a0, tr_ (k + 1)]) hE dX4_put_27 (k_X4_cut hk a1 m14) ml_X4_32 im_X4_cut se_X4_cut in_X4 co_X4_cut hy_X4_cut ⟨Nat.le_of_ble_eq_true rfl, Nat.le_of_ble_eq_true rfl⟩ (hk.1) rfl rfl rfl (fun _ => Nat.le_of_ble_eq_true rfl) (fun r27 m27 hx27 hr27 => ?_)
      change tg_AW E _ _ _ _ _ (ti_ r27 :: _) _
      refine ta_iast (n' := 60) hE dX4_put_30 (hk.2) rfl (fun _ _ => ?_)
      refine ta_nmm (fun m30 => ?_)
      exact ta_vret hE dX4_put_31
noncomputable def f_X7_lay (a0 : Int) (a1 : Int) (a2 : Int) (a3 : Int) (m : tg_Mem) : tg_R :=
  tg_bd (f_X7_isBelow a0 4 m) (fun r2 m2 =>
    if r2 = 0 then
      some ((-2), m2)
    else
      tg_bd (f_X7_isBelow a1 3 m2) (fun r10 m10 =>
        if r10 ≠ 0 then
          tg_ck (0 ≤ a0 ∧ a0 < 4) (
            tg_bd (f_X4_findsAt (tg_sh a0) a1 a2 m10) (fun r31 m31 =>
              if r31 = 0 then
                tg_bd (f_X4_put (tg_sh a0) a2 a3 m31) (fun _ m53 =>
                  some (1, m53))
              else
                tg_bd (f_X7_found r31 m31) (fun r44 m44 =>
                  some (r44, m44))))
        else
          some ((-2), m10)))
theorem hy_X7_lay : yX7_lay.cls = RX7 ∧ yX7_lay.cls ≠ "java/lang/invoke/MethodHandle" ∧ yX7_lay.cls ≠ "java/lang/invoke/VarHandle" ∧ (parseMethodDescriptor yX7_lay.desc).map (fun q => q.parameters.length) = some 4 := by decide +kernel
set_option maxRecDepth 100000 in
set_option maxHeartbeats 4000000 in
theorem k_X7_lay   (a0 : Int) (a1 : Int) (a2 : Int) (a3 : Int) (m : tg_Mem) : tg_C yX7_lay cX7_lay 7 (some .int) 3 LX [tr_ 0, ti_ a0, ti_ a1, ti_ a2, ti_ a3] (f_X7_lay a0 a1 a2 a3 m) m := by
  refine ta_enter2 (own := RX7) (by decide +kernel) rfl rfl (Nat.le_of_ble_eq_true rfl) rfl (fun E hE => ?_)
  unfold f_X7_lay
  refine ta_iloadn hE dX7_lay_0 rfl ?_
  refine ta_iconst (v := 4) hE dX7_lay_1 rfl ⟨by decide, by decide⟩ ?_
  refine ta_callS (st := []) hE dX7_lay_2 (k_X7_isBelow a0 4 m) ml_X7_60 st_X7_isBelow in_X7 co_X7_isBelow hy_X7_isBelow.2 ⟨Nat.le_of_ble_eq_true rfl, Nat.le_of_ble_eq_true rfl⟩ rfl rfl (fun _ => Nat.le_of_ble_eq_true rfl) (fun r2 m2 hx2 hr2 => ?_)
  change tg_AW E _ _ _ _ _ (ti_ r2 :: _) _
  refine ta_if_eq (tgt := 16) hE dX7_lay_5 (by decide) (fun c5 => ?_) (fun c5 => ?_)
  · refine bp_n2 hE dX7_lay_16 ?_
    exact ta_iret hE dX7_lay_18
  · refine ta_iloadn hE dX7_lay_8 rfl ?_
    refine ta_iconst (v := 3) hE dX7_lay_9 rfl ⟨by decide, by decide⟩ ?_
    refine ta_callS (st := []) hE dX7_lay_10 (k_X7_isBelow a1 3 m2) ml_X7_60 st_X7_isBelow in_X7 co_X7_isBelow hy_X7_isBelow.2 ⟨Nat.le_of_ble_eq_true rfl, Nat.le_of_ble_eq_true rfl⟩ rfl rfl (fun _ => Nat.le_of_ble_eq_true rfl) (fun r10 m10 hx10 hr10 => ?_)
    change tg_AW E _ _ _ _ _ (ti_ r10 :: _) _
    refine ta_if_ne (tgt := 19) hE dX7_lay_13 (by decide) (fun c13 => ?_) (fun c13 => ?_)
    · refine ta_aloadn hE dX7_lay_19 rfl ?_
      refine gr_X7_51 hE dX7_lay_20 lx_0 rfl ?_
      refine ta_iloadn hE dX7_lay_23 rfl ?_
      refine ta_aald (n' := 4) hE dX7_lay_24 lx_39 rfl rfl (fun h24a h24b => ?_)
      change tg_AW E _ _ _ _ _ (tr_ (tg_sh a0) :: _) _
      refine ta_astore (lv2 := [tr_ 0, ti_ a0, ti_ a1, ti_ a2, ti_ a3, tr_ (tg_sh a0), tj_]) hE dX7_lay_25 (Nat.le_of_ble_eq_true rfl) rfl rfl ?_
      refine ta_aload hE dX7_lay_27 rfl ?_
      refine ta_iloadn hE dX7_lay_29 rfl ?_
      refine ta_iloadn hE dX7_lay_30 rfl ?_
      refine ta_callV (C := RX4) (T := TX4) (st := []) hE dX7_lay_31 (k_X4_findsAt (ok_sh h24a h24b) a1 a2 m10) ml_X7_186 im_X4_findsAt se_X4_findsAt in_X4 co_X4_findsAt hy_X4_findsAt ⟨Nat.le_of_ble_eq_true rfl, Nat.le_of_ble_eq_true rfl⟩ ((ok_sh h24a h24b).1) rfl rfl rfl (fun _ => Nat.le_of_ble_eq_true rfl) (fun r31 m31 hx31 hr31 => ?_)
      change tg_AW E _ _ _ _ _ (ti_ r31 :: _) _
      refine ta_istore (lv2 := [tr_ 0, ti_ a0, ti_ a1, ti_ a2, ti_ a3, tr_ (tg_sh a0), ti_ r31]) hE dX7_lay_34 (Nat.le_of_ble_eq_true rfl) rfl rfl ?_
      refine ta_iload hE dX7_lay_36 rfl ?_
      refine ta_if_eq (tgt := 48) hE dX7_lay_38 (by decide) (fun c38 => ?_) (fun c38 => ?_)
      · refine ta_aload hE dX7_lay_48 rfl ?_
        refine ta_iloadn hE dX7_lay_50 rfl ?_
        refine ta_iload hE dX7_lay_51 rfl ?_
        refine ta_callV (C := RX4) (T := TX4) (st := []) hE dX7_lay_53 (k_X4_put (ok_sh h24a h24b) a2 a3 m31) ml_X7_189 im_X4_put se_X4_put in_X4 co_X4_put hy_X4_put ⟨Nat.le_of_ble_eq_true rfl, Nat.le_of_ble_eq_true rfl⟩ ((ok_sh h24a h24b).1) rfl rfl rfl (fun _ => Nat.le_of_ble_eq_true rfl) (fun r53 m53 hx53 hr53 => ?_)
        change tg_AW E _ _ _ _ _ [] _
        refine ta_iconst (v := 1) hE dX7_lay_56 rfl ⟨by decide, by decide⟩ ?_
        exact ta_iret hE dX7_lay_57
      · refine ta_aloadn hE dX7_lay_41 rfl ?_
        refine ta_iload hE dX7_lay_42 rfl ?_
        refine ta_callV (C := RX7) (T := TX7) (st := []) hE dX7_lay_44 (k_X7_found r31 m31) ml_X7_113 im_X7_found se_X7_found in_X7 co_X7_found hy_X7_found ⟨Nat.le_of_ble_eq_true rfl, Nat.le_of_ble_eq_true rfl⟩ lx_0 rfl rfl rfl (fun _ => Nat.le_of_ble_eq_true rfl) (fun r44 m44 hx44 hr44 => ?_)
        change tg_AW E _ _ _ _ _ (ti_ r44 :: _) _
        exact ta_iret hE dX7_lay_47
    · refine bp_n2 hE dX7_lay_16 ?_
      exact ta_iret hE dX7_lay_18
noncomputable def f_X4_item (k : Nat) (a0 : Int) (m : tg_Mem) : tg_R :=
  tg_bd (f_X7_isBelow a0 (m k 2) m) (fun r5 m5 =>
    tg_jn (γ := tg_Mem → tg_R) (fun (m_29 : tg_Mem) => some (0, m_29)) (fun j29 =>
      if r5 = 0 then
        j29 m5
      else
        tg_bd (f_X7_isBelow a0 60 m5) (fun r14 m14 =>
          if r14 = 0 then
            j29 m14
          else
            tg_ck (0 ≤ a0 ∧ a0 < 60) (
              some (m14 (k + 1) (a0).toNat, m14)))))
theorem hy_X4_item : yX4_item.cls = RX4 ∧ yX4_item.cls ≠ "java/lang/invoke/MethodHandle" ∧ yX4_item.cls ≠ "java/lang/invoke/VarHandle" ∧ (parseMethodDescriptor yX4_item.desc).map (fun q => q.parameters.length) = some 1 := by decide +kernel
set_option maxRecDepth 100000 in
set_option maxHeartbeats 4000000 in
theorem k_X4_item {k : Nat} (hk : tg_okS k) (a0 : Int) (m : tg_Mem) : tg_C yX4_item cX4_item 2 (some .int) 2 LX [tr_ k, ti_ a0] (f_X4_item k a0 m) m := by
  refine ta_enter2 (own := RX4) (by decide +kernel) rfl rfl (Nat.le_of_ble_eq_true rfl) rfl (fun E hE => ?_)
  unfold f_X4_item
  refine ta_iloadn hE dX4_item_0 rfl ?_
  refine ta_aloadn hE dX4_item_1 rfl ?_
  refine gf_X4_19 hE dX4_item_2 (hk.1) rfl ?_
  refine ta_callN (host := RX7) (st := []) hE dX4_item_5 (k_X7_isBelow a0 (m k 2) m) nn_X4_28 st_X7_isBelow in_X7 co_X7_isBelow hy_X7_isBelow.2 ⟨Nat.le_of_ble_eq_true rfl, Nat.le_of_ble_eq_true rfl⟩ rfl rfl (fun _ => Nat.le_of_ble_eq_true rfl) (fun r5 m5 hx5 hr5 => ?_)
  change tg_AW E _ _ _ _ _ (ti_ r5 :: _) _
  refine ta_join (γ := tg_Mem → tg_R) (fun J => ∀ (m_29 : tg_Mem), tg_AW E LX (some .int) (J m_29) 29 [tj_, tj_] [] m_29) ?_ (fun j29 hj29 => ?_)
  · intro m_29
    refine ta_iconst (v := 0) hE dX4_item_29 rfl ⟨by decide, by decide⟩ ?_
    exact ta_iret hE dX4_item_30
  · refine ta_if_eq (tgt := 29) hE dX4_item_8 (by decide) (fun c8 => ?_) (fun c8 => ?_)
    · exact (ta_wk (i := 0) (lv2 := [tj_, ti_ a0]) rfl (ta_wk (i := 1) (lv2 := [tj_, tj_]) rfl (hj29 m5)))
    · refine ta_iloadn hE dX4_item_11 rfl ?_
      refine bp_60 hE dX4_item_12 ?_
      refine ta_callN (host := RX7) (st := []) hE dX4_item_14 (k_X7_isBelow a0 60 m5) nn_X4_28 st_X7_isBelow in_X7 co_X7_isBelow hy_X7_isBelow.2 ⟨Nat.le_of_ble_eq_true rfl, Nat.le_of_ble_eq_true rfl⟩ rfl rfl (fun _ => Nat.le_of_ble_eq_true rfl) (fun r14 m14 hx14 hr14 => ?_)
      change tg_AW E _ _ _ _ _ (ti_ r14 :: _) _
      refine ta_if_eq (tgt := 29) hE dX4_item_17 (by decide) (fun c17 => ?_) (fun c17 => ?_)
      · exact (ta_wk (i := 0) (lv2 := [tj_, ti_ a0]) rfl (ta_wk (i := 1) (lv2 := [tj_, tj_]) rfl (hj29 m14)))
      · refine ta_aloadn hE dX4_item_20 rfl ?_
        refine gr_X4_9 hE dX4_item_21 (hk.1) rfl ?_
        refine ta_iloadn hE dX4_item_24 rfl ?_
        refine ta_iald (n' := 60) hE dX4_item_25 (hk.2) rfl (fun _ _ => ?_)
        refine ta_goto (tgt := 30) hE dX4_item_26 (by decide) ?_
        exact ta_iret hE dX4_item_30
noncomputable def f_X7_get (a0 : Int) (a1 : Int) (a2 : Int) (m : tg_Mem) : tg_R :=
  tg_bd (f_X7_isBelow a0 4 m) (fun r2 m2 =>
    if r2 = 0 then
      some ((-2147483648), m2)
    else
      tg_bd (f_X7_isBelow a1 3 m2) (fun r10 m10 =>
        if r10 ≠ 0 then
          tg_ck (0 ≤ a0 ∧ a0 < 4) (
            tg_bd (f_X4_findsAt (tg_sh a0) a1 a2 m10) (fun r31 m31 =>
              if r31 = 0 then
                tg_bd (f_X4_item (tg_sh a0) a2 m31) (fun r54 m54 =>
                  some (r54, m54))
              else
                tg_bd (f_X7_found r31 m31) (fun _ m44 =>
                  some ((-2147483648), m44))))
        else
          some ((-2147483648), m10)))
theorem hy_X7_get : yX7_get.cls = RX7 ∧ yX7_get.cls ≠ "java/lang/invoke/MethodHandle" ∧ yX7_get.cls ≠ "java/lang/invoke/VarHandle" ∧ (parseMethodDescriptor yX7_get.desc).map (fun q => q.parameters.length) = some 3 := by decide +kernel
set_option maxRecDepth 100000 in
set_option maxHeartbeats 4000000 in
theorem k_X7_get   (a0 : Int) (a1 : Int) (a2 : Int) (m : tg_Mem) : tg_C yX7_get cX7_get 6 (some .int) 3 LX [tr_ 0, ti_ a0, ti_ a1, ti_ a2] (f_X7_get a0 a1 a2 m) m := by
  refine ta_enter2 (own := RX7) (by decide +kernel) rfl rfl (Nat.le_of_ble_eq_true rfl) rfl (fun E hE => ?_)
  unfold f_X7_get
  refine ta_iloadn hE dX7_get_0 rfl ?_
  refine ta_iconst (v := 4) hE dX7_get_1 rfl ⟨by decide, by decide⟩ ?_
  refine ta_callS (st := []) hE dX7_get_2 (k_X7_isBelow a0 4 m) ml_X7_60 st_X7_isBelow in_X7 co_X7_isBelow hy_X7_isBelow.2 ⟨Nat.le_of_ble_eq_true rfl, Nat.le_of_ble_eq_true rfl⟩ rfl rfl (fun _ => Nat.le_of_ble_eq_true rfl) (fun r2 m2 hx2 hr2 => ?_)
  change tg_AW E _ _ _ _ _ (ti_ r2 :: _) _
  refine ta_if_eq (tgt := 16) hE dX7_get_5 (by decide) (fun c5 => ?_) (fun c5 => ?_)
  · refine ta_ldc (v := (-2147483648)) hE dX7_get_16 ic_X7_192 ⟨by decide, by decide⟩ ?_
    exact ta_iret hE dX7_get_18
  · refine ta_iloadn hE dX7_get_8 rfl ?_
    refine ta_iconst (v := 3) hE dX7_get_9 rfl ⟨by decide, by decide⟩ ?_
    refine ta_callS (st := []) hE dX7_get_10 (k_X7_isBelow a1 3 m2) ml_X7_60 st_X7_isBelow in_X7 co_X7_isBelow hy_X7_isBelow.2 ⟨Nat.le_of_ble_eq_true rfl, Nat.le_of_ble_eq_true rfl⟩ rfl rfl (fun _ => Nat.le_of_ble_eq_true rfl) (fun r10 m10 hx10 hr10 => ?_)
    change tg_AW E _ _ _ _ _ (ti_ r10 :: _) _
    refine ta_if_ne (tgt := 19) hE dX7_get_13 (by decide) (fun c13 => ?_) (fun c13 => ?_)
    · refine ta_aloadn hE dX7_get_19 rfl ?_
      refine gr_X7_51 hE dX7_get_20 lx_0 rfl ?_
      refine ta_iloadn hE dX7_get_23 rfl ?_
      refine ta_aald (n' := 4) hE dX7_get_24 lx_39 rfl rfl (fun h24a h24b => ?_)
      change tg_AW E _ _ _ _ _ (tr_ (tg_sh a0) :: _) _
      refine ta_astore (lv2 := [tr_ 0, ti_ a0, ti_ a1, ti_ a2, tr_ (tg_sh a0), tj_]) hE dX7_get_25 (Nat.le_of_ble_eq_true rfl) rfl rfl ?_
      refine ta_aload hE dX7_get_27 rfl ?_
      refine ta_iloadn hE dX7_get_29 rfl ?_
      refine ta_iloadn hE dX7_get_30 rfl ?_
      refine ta_callV (C := RX4) (T := TX4) (st := []) hE dX7_get_31 (k_X4_findsAt (ok_sh h24a h24b) a1 a2 m10) ml_X7_186 im_X4_findsAt se_X4_findsAt in_X4 co_X4_findsAt hy_X4_findsAt ⟨Nat.le_of_ble_eq_true rfl, Nat.le_of_ble_eq_true rfl⟩ ((ok_sh h24a h24b).1) rfl rfl rfl (fun _ => Nat.le_of_ble_eq_true rfl) (fun r31 m31 hx31 hr31 => ?_)
      change tg_AW E _ _ _ _ _ (ti_ r31 :: _) _
      refine ta_istore (lv2 := [tr_ 0, ti_ a0, ti_ a1, ti_ a2, tr_ (tg_sh a0), ti_ r31]) hE dX7_get_34 (Nat.le_of_ble_eq_true rfl) rfl rfl ?_
      refine ta_iload hE dX7_get_36 rfl ?_
      refine ta_if_eq (tgt := 51) hE dX7_get_38 (by decide) (fun c38 => ?_) (fun c38 => ?_)
      · refine ta_aload hE dX7_get_51 rfl ?_
        refine ta_iloadn hE dX7_get_53 rfl ?_
        refine ta_callV (C := RX4) (T := TX4) (st := []) hE dX7_get_54 (k_X4_item (ok_sh h24a h24b) a2 m31) ml_X7_193 im_X4_item se_X4_item in_X4 co_X4_item hy_X4_item ⟨Nat.le_of_ble_eq_true rfl, Nat.le_of_ble_eq_true rfl⟩ ((ok_sh h24a h24b).1) rfl rfl rfl (fun _ => Nat.le_of_ble_eq_true rfl) (fun r54 m54 hx54 hr54 => ?_)
        change tg_AW E _ _ _ _ _ (ti_ r54 :: _) _
        exact ta_iret hE dX7_get_57
      · refine ta_aloadn hE dX7_get_41 rfl ?_
        refine ta_iload hE dX7_get_42 rfl ?_
        refine ta_callV (C := RX7) (T := TX7) (st := []) hE dX7_get_44 (k_X7_found r31 m31) ml_X7_113 im_X7_found se_X7_found in_X7 co_X7_found hy_X7_found ⟨Nat.le_of_ble_eq_true rfl, Nat.le_of_ble_eq_true rfl⟩ lx_0 rfl rfl rfl (fun _ => Nat.le_of_ble_eq_true rfl) (fun r44 m44 hx44 hr44 => ?_)
        change tg_AW E _ _ _ _ _ (ti_ r44 :: _) _
        refine ta_pop hE dX7_get_47 (fun _ => rfl) ?_
        refine ta_ldc (v := (-2147483648)) hE dX7_get_48 ic_X7_192 ⟨by decide, by decide⟩ ?_
        exact ta_iret hE dX7_get_50
    · refine ta_ldc (v := (-2147483648)) hE dX7_get_16 ic_X7_192 ⟨by decide, by decide⟩ ?_
      exact ta_iret hE dX7_get_18
noncomputable def f_X4_hasItems (k : Nat) (a0 : Int) (a1 : Int) (m : tg_Mem) : tg_R :=
  tg_jn (γ := tg_R) (some (0, m)) (fun j30 =>
    if a0 < 0 then
      j30
    else
      if a1 < 0 then
        j30
      else
        if m k 2 < a0 then
          j30
        else
          if tg_wi ((m k 2) - a0) < a1 then
            j30
          else
            some (1, m))
theorem hy_X4_hasItems : yX4_hasItems.cls = RX4 ∧ yX4_hasItems.cls ≠ "java/lang/invoke/MethodHandle" ∧ yX4_hasItems.cls ≠ "java/lang/invoke/VarHandle" ∧ (parseMethodDescriptor yX4_hasItems.desc).map (fun q => q.parameters.length) = some 2 := by decide +kernel
set_option maxRecDepth 100000 in
set_option maxHeartbeats 4000000 in
theorem k_X4_hasItems {k : Nat} (hk : tg_okS k) (a0 : Int) (a1 : Int) (m : tg_Mem) : tg_C yX4_hasItems cX4_hasItems 3 (some .boolean) 1 LX [tr_ k, ti_ a0, ti_ a1] (f_X4_hasItems k a0 a1 m) m := by
  refine ta_enter2 (own := RX4) (by decide +kernel) rfl rfl (Nat.le_of_ble_eq_true rfl) rfl (fun E hE => ?_)
  unfold f_X4_hasItems
  refine ta_iloadn hE dX4_hasItems_0 rfl ?_
  refine ta_join (γ := tg_R) (fun J => tg_AW E LX (some .boolean) J 30 [tj_, tj_, tj_] [] m) ?_ (fun j30 hj30 => ?_)
  · refine ta_iconst (v := 0) hE dX4_hasItems_30 rfl ⟨by decide, by decide⟩ ?_
    exact ta_zret hE dX4_hasItems_31 (Or.inl rfl)
  · refine ta_if_lt (tgt := 30) hE dX4_hasItems_1 (by decide) (fun c1 => ?_) (fun c1 => ?_)
    · exact (ta_wk (i := 0) (lv2 := [tj_, ti_ a0, ti_ a1]) rfl (ta_wk (i := 1) (lv2 := [tj_, tj_, ti_ a1]) rfl (ta_wk (i := 2) (lv2 := [tj_, tj_, tj_]) rfl hj30)))
    · refine ta_iloadn hE dX4_hasItems_4 rfl ?_
      refine ta_if_lt (tgt := 30) hE dX4_hasItems_5 (by decide) (fun c5 => ?_) (fun c5 => ?_)
      · exact (ta_wk (i := 0) (lv2 := [tj_, ti_ a0, ti_ a1]) rfl (ta_wk (i := 1) (lv2 := [tj_, tj_, ti_ a1]) rfl (ta_wk (i := 2) (lv2 := [tj_, tj_, tj_]) rfl hj30)))
      · refine ta_iloadn hE dX4_hasItems_8 rfl ?_
        refine ta_aloadn hE dX4_hasItems_9 rfl ?_
        refine gf_X4_19 hE dX4_hasItems_10 (hk.1) rfl ?_
        refine ta_icmp_gt (tgt := 30) hE dX4_hasItems_13 (by decide) (fun c13 => ?_) (fun c13 => ?_)
        · exact (ta_wk (i := 0) (lv2 := [tj_, ti_ a0, ti_ a1]) rfl (ta_wk (i := 1) (lv2 := [tj_, tj_, ti_ a1]) rfl (ta_wk (i := 2) (lv2 := [tj_, tj_, tj_]) rfl hj30)))
        · refine ta_iloadn hE dX4_hasItems_16 rfl ?_
          refine ta_aloadn hE dX4_hasItems_17 rfl ?_
          refine gf_X4_19 hE dX4_hasItems_18 (hk.1) rfl ?_
          refine ta_iloadn hE dX4_hasItems_21 rfl ?_
          refine ta_isub hE dX4_hasItems_22 ?_
          refine ta_icmp_gt (tgt := 30) hE dX4_hasItems_23 (by decide) (fun c23 => ?_) (fun c23 => ?_)
          · exact (ta_wk (i := 0) (lv2 := [tj_, ti_ a0, ti_ a1]) rfl (ta_wk (i := 1) (lv2 := [tj_, tj_, ti_ a1]) rfl (ta_wk (i := 2) (lv2 := [tj_, tj_, tj_]) rfl hj30)))
          · refine ta_iconst (v := 1) hE dX4_hasItems_26 rfl ⟨by decide, by decide⟩ ?_
            refine ta_goto (tgt := 31) hE dX4_hasItems_27 (by decide) ?_
            exact ta_zret hE dX4_hasItems_31 (Or.inr rfl)
noncomputable def f_X7_copy (a0 : Int) (a1 : Int) (a2 : Int) (a3 : Int) (a4 : Int) (m : tg_Mem) : tg_R :=
  tg_bd (f_X7_isBelow a0 4 m) (fun r2 m2 =>
    if r2 = 0 then
      some ((-2), m2)
    else
      tg_bd (f_X7_isBelow a2 4 m2) (fun r10 m10 =>
        if r10 ≠ 0 then
          tg_ck (0 ≤ a0 ∧ a0 < 4) (
            tg_ck (0 ≤ a2 ∧ a2 < 4) (
              tg_jn (γ := tg_R) (tg_bd (f_X7_found 1 m10) (fun r55 m55 =>
                some (r55, m55))) (fun j53 =>
                if m10 (tg_sh a0) 1 = (-1) then
                  j53
                else
                  if m10 (tg_sh a2) 1 ≠ (-1) then
                    if m10 (tg_sh a0) 1 = m10 (tg_sh a2) 1 then
                      tg_bd (f_X4_hasItems (tg_sh a0) a1 a4 m10) (fun r83 m83 =>
                        tg_jn (γ := tg_Mem → tg_R) (fun (m_101 : tg_Mem) => tg_bd (f_X7_found 2 m_101) (fun r103 m103 =>
                          some (r103, m103))) (fun j101 =>
                          if r83 = 0 then
                            j101 m83
                          else
                            tg_bd (f_X4_hasItems (tg_sh a2) a3 a4 m83) (fun r95 m95 =>
                              if r95 ≠ 0 then
                                tg_ck (0 ≤ a1 ∧ 0 ≤ a3 ∧ 0 ≤ a4 ∧ a1 + a4 ≤ 60 ∧ a3 + a4 ≤ 60) (
                                  tg_lt (tg_cpy m95 (tg_sh a0 + 1) (a1).toNat (tg_sh a2 + 1) (a3).toNat (a4).toNat) (fun m122 =>
                                    some (1, m122)))
                              else
                                j101 m95)))
                    else
                      tg_bd (f_X7_found 4 m10) (fun r74 m74 =>
                        some (r74, m74))
                  else
                    j53)))
        else
          some ((-2), m10)))
theorem hy_X7_copy : yX7_copy.cls = RX7 ∧ yX7_copy.cls ≠ "java/lang/invoke/MethodHandle" ∧ yX7_copy.cls ≠ "java/lang/invoke/VarHandle" ∧ (parseMethodDescriptor yX7_copy.desc).map (fun q => q.parameters.length) = some 5 := by decide +kernel
set_option maxRecDepth 100000 in
set_option maxHeartbeats 4000000 in
theorem k_X7_copy   (a0 : Int) (a1 : Int) (a2 : Int) (a3 : Int) (a4 : Int) (m : tg_Mem) : tg_C yX7_copy cX7_copy 8 (some .int) 2 LX [tr_ 0, ti_ a0, ti_ a1, ti_ a2, ti_ a3, ti_ a4] (f_X7_copy a0 a1 a2 a3 a4 m) m := by
  refine ta_enter2 (own := RX7) (by decide +kernel) rfl rfl (Nat.le_of_ble_eq_true rfl) rfl (fun E hE => ?_)
  unfold f_X7_copy
  refine ta_iloadn hE dX7_copy_0 rfl ?_
  refine ta_iconst (v := 4) hE dX7_copy_1 rfl ⟨by decide, by decide⟩ ?_
  refine ta_callS (st := []) hE dX7_copy_2 (k_X7_isBelow a0 4 m) ml_X7_60 st_X7_isBelow in_X7 co_X7_isBelow hy_X7_isBelow.2 ⟨Nat.le_of_ble_eq_true rfl, Nat.le_of_ble_eq_true rfl⟩ rfl rfl (fun _ => Nat.le_of_ble_eq_true rfl) (fun r2 m2 hx2 hr2 => ?_)
  change tg_AW E _ _ _ _ _ (ti_ r2 :: _) _
  refine ta_if_eq (tgt := 16) hE dX7_copy_5 (by decide) (fun c5 => ?_) (fun c5 => ?_)
  · refine bp_n2 hE dX7_copy_16 ?_
    exact ta_iret hE dX7_copy_18
  · refine ta_iloadn hE dX7_copy_8 rfl ?_
    refine ta_iconst (v := 4) hE dX7_copy_9 rfl ⟨by decide, by decide⟩ ?_
    refine ta_callS (st := []) hE dX7_copy_10 (k_X7_isBelow a2 4 m2) ml_X7_60 st_X7_isBelow in_X7 co_X7_isBelow hy_X7_isBelow.2 ⟨Nat.le_of_ble_eq_true rfl, Nat.le_of_ble_eq_true rfl⟩ rfl rfl (fun _ => Nat.le_of_ble_eq_true rfl) (fun r10 m10 hx10 hr10 => ?_)
    change tg_AW E _ _ _ _ _ (ti_ r10 :: _) _
    refine ta_if_ne (tgt := 19) hE dX7_copy_13 (by decide) (fun c13 => ?_) (fun c13 => ?_)
    · refine ta_aloadn hE dX7_copy_19 rfl ?_
      refine gr_X7_51 hE dX7_copy_20 lx_0 rfl ?_
      refine ta_iloadn hE dX7_copy_23 rfl ?_
      refine ta_aald (n' := 4) hE dX7_copy_24 lx_39 rfl rfl (fun h24a h24b => ?_)
      change tg_AW E _ _ _ _ _ (tr_ (tg_sh a0) :: _) _
      refine ta_astore (lv2 := [tr_ 0, ti_ a0, ti_ a1, ti_ a2, ti_ a3, ti_ a4, tr_ (tg_sh a0), tj_]) hE dX7_copy_25 (Nat.le_of_ble_eq_true rfl) rfl rfl ?_
      refine ta_aloadn hE dX7_copy_27 rfl ?_
      refine gr_X7_51 hE dX7_copy_28 lx_0 rfl ?_
      refine ta_iloadn hE dX7_copy_31 rfl ?_
      refine ta_aald (n' := 4) hE dX7_copy_32 lx_39 rfl rfl (fun h32a h32b => ?_)
      change tg_AW E _ _ _ _ _ (tr_ (tg_sh a2) :: _) _
      refine ta_astore (lv2 := [tr_ 0, ti_ a0, ti_ a1, ti_ a2, ti_ a3, ti_ a4, tr_ (tg_sh a0), tr_ (tg_sh a2)]) hE dX7_copy_33 (Nat.le_of_ble_eq_true rfl) rfl rfl ?_
      refine ta_aload hE dX7_copy_35 rfl ?_
      refine gf_X7_110 hE dX7_copy_37 ((ok_sh h24a h24b).1) rfl ?_
      refine ta_iconst (v := (-1)) hE dX7_copy_40 rfl ⟨by decide, by decide⟩ ?_
      refine ta_join (γ := tg_R) (fun J => tg_AW E LX (some .int) J 53 [tr_ 0, tj_, tj_, tj_, tj_, tj_, tj_, tj_] [] m10) ?_ (fun j53 hj53 => ?_)
      · refine ta_aloadn hE dX7_copy_53 rfl ?_
        refine ta_iconst (v := 1) hE dX7_copy_54 rfl ⟨by decide, by decide⟩ ?_
        refine ta_callV (C := RX7) (T := TX7) (st := []) hE dX7_copy_55 (k_X7_found 1 m10) ml_X7_113 im_X7_found se_X7_found in_X7 co_X7_found hy_X7_found ⟨Nat.le_of_ble_eq_true rfl, Nat.le_of_ble_eq_true rfl⟩ lx_0 rfl rfl rfl (fun _ => Nat.le_of_ble_eq_true rfl) (fun r55 m55 hx55 hr55 => ?_)
        change tg_AW E _ _ _ _ _ (ti_ r55 :: _) _
        exact ta_iret hE dX7_copy_58
      · refine ta_icmp_eq (tgt := 53) hE dX7_copy_41 (by decide) (fun c41 => ?_) (fun c41 => ?_)
        · exact (ta_wk (i := 1) (lv2 := [tr_ 0, tj_, ti_ a1, ti_ a2, ti_ a3, ti_ a4, tr_ (tg_sh a0), tr_ (tg_sh a2)]) rfl (ta_wk (i := 2) (lv2 := [tr_ 0, tj_, tj_, ti_ a2, ti_ a3, ti_ a4, tr_ (tg_sh a0), tr_ (tg_sh a2)]) rfl (ta_wk (i := 3) (lv2 := [tr_ 0, tj_, tj_, tj_, ti_ a3, ti_ a4, tr_ (tg_sh a0), tr_ (tg_sh a2)]) rfl (ta_wk (i := 4) (lv2 := [tr_ 0, tj_, tj_, tj_, tj_, ti_ a4, tr_ (tg_sh a0), tr_ (tg_sh a2)]) rfl (ta_wk (i := 5) (lv2 := [tr_ 0, tj_, tj_, tj_, tj_, tj_, tr_ (tg_sh a0), tr_ (tg_sh a2)]) rfl (ta_wk (i := 6) (lv2 := [tr_ 0, tj_, tj_, tj_, tj_, tj_, tj_, tr_ (tg_sh a2)]) rfl (ta_wk (i := 7) (lv2 := [tr_ 0, tj_, tj_, tj_, tj_, tj_, tj_, tj_]) rfl hj53)))))))
        · refine ta_aload hE dX7_copy_44 rfl ?_
          refine gf_X7_110 hE dX7_copy_46 ((ok_sh h32a h32b).1) rfl ?_
          refine ta_iconst (v := (-1)) hE dX7_copy_49 rfl ⟨by decide, by decide⟩ ?_
          refine ta_icmp_ne (tgt := 59) hE dX7_copy_50 (by decide) (fun c50 => ?_) (fun c50 => ?_)
          · refine ta_aload hE dX7_copy_59 rfl ?_
            refine gf_X7_110 hE dX7_copy_61 ((ok_sh h24a h24b).1) rfl ?_
            refine ta_aload hE dX7_copy_64 rfl ?_
            refine gf_X7_110 hE dX7_copy_66 ((ok_sh h32a h32b).1) rfl ?_
            refine ta_icmp_eq (tgt := 78) hE dX7_copy_69 (by decide) (fun c69 => ?_) (fun c69 => ?_)
            · refine ta_aload hE dX7_copy_78 rfl ?_
              refine ta_iloadn hE dX7_copy_80 rfl ?_
              refine ta_iload hE dX7_copy_81 rfl ?_
              refine ta_callV (C := RX4) (T := TX4) (st := []) hE dX7_copy_83 (k_X4_hasItems (ok_sh h24a h24b) a1 a4 m10) ml_X7_196 im_X4_hasItems se_X4_hasItems in_X4 co_X4_hasItems hy_X4_hasItems ⟨Nat.le_of_ble_eq_true rfl, Nat.le_of_ble_eq_true rfl⟩ ((ok_sh h24a h24b).1) rfl rfl rfl (fun _ => Nat.le_of_ble_eq_true rfl) (fun r83 m83 hx83 hr83 => ?_)
              change tg_AW E _ _ _ _ _ (ti_ r83 :: _) _
              refine ta_join (γ := tg_Mem → tg_R) (fun J => ∀ (m_101 : tg_Mem), tg_AW E LX (some .int) (J m_101) 101 [tr_ 0, tj_, tj_, tj_, tj_, tj_, tj_, tj_] [] m_101) ?_ (fun j101 hj101 => ?_)
              · intro m_101
                refine ta_aloadn hE dX7_copy_101 rfl ?_
                refine ta_iconst (v := 2) hE dX7_copy_102 rfl ⟨by decide, by decide⟩ ?_
                refine ta_callV (C := RX7) (T := TX7) (st := []) hE dX7_copy_103 (k_X7_found 2 m_101) ml_X7_113 im_X7_found se_X7_found in_X7 co_X7_found hy_X7_found ⟨Nat.le_of_ble_eq_true rfl, Nat.le_of_ble_eq_true rfl⟩ lx_0 rfl rfl rfl (fun _ => Nat.le_of_ble_eq_true rfl) (fun r103 m103 hx103 hr103 => ?_)
                change tg_AW E _ _ _ _ _ (ti_ r103 :: _) _
                exact ta_iret hE dX7_copy_106
              · refine ta_if_eq (tgt := 101) hE dX7_copy_86 (by decide) (fun c86 => ?_) (fun c86 => ?_)
                · exact (ta_wk (i := 1) (lv2 := [tr_ 0, tj_, ti_ a1, ti_ a2, ti_ a3, ti_ a4, tr_ (tg_sh a0), tr_ (tg_sh a2)]) rfl (ta_wk (i := 2) (lv2 := [tr_ 0, tj_, tj_, ti_ a2, ti_ a3, ti_ a4, tr_ (tg_sh a0), tr_ (tg_sh a2)]) rfl (ta_wk (i := 3) (lv2 := [tr_ 0, tj_, tj_, tj_, ti_ a3, ti_ a4, tr_ (tg_sh a0), tr_ (tg_sh a2)]) rfl (ta_wk (i := 4) (lv2 := [tr_ 0, tj_, tj_, tj_, tj_, ti_ a4, tr_ (tg_sh a0), tr_ (tg_sh a2)]) rfl (ta_wk (i := 5) (lv2 := [tr_ 0, tj_, tj_, tj_, tj_, tj_, tr_ (tg_sh a0), tr_ (tg_sh a2)]) rfl (ta_wk (i := 6) (lv2 := [tr_ 0, tj_, tj_, tj_, tj_, tj_, tj_, tr_ (tg_sh a2)]) rfl (ta_wk (i := 7) (lv2 := [tr_ 0, tj_, tj_, tj_, tj_, tj_, tj_, tj_]) rfl (hj101 m83))))))))
                · refine ta_aload hE dX7_copy_89 rfl ?_
                  refine ta_iload hE dX7_copy_91 rfl ?_
                  refine ta_iload hE dX7_copy_93 rfl ?_
                  refine ta_callV (C := RX4) (T := TX4) (st := []) hE dX7_copy_95 (k_X4_hasItems (ok_sh h32a h32b) a3 a4 m83) ml_X7_196 im_X4_hasItems se_X4_hasItems in_X4 co_X4_hasItems hy_X4_hasItems ⟨Nat.le_of_ble_eq_true rfl, Nat.le_of_ble_eq_true rfl⟩ ((ok_sh h32a h32b).1) rfl rfl rfl (fun _ => Nat.le_of_ble_eq_true rfl) (fun r95 m95 hx95 hr95 => ?_)
                  change tg_AW E _ _ _ _ _ (ti_ r95 :: _) _
                  refine ta_if_ne (tgt := 107) hE dX7_copy_98 (by decide) (fun c98 => ?_) (fun c98 => ?_)
                  · refine ta_aload hE dX7_copy_107 rfl ?_
                    refine gr_X7_122 hE dX7_copy_109 ((ok_sh h24a h24b).1) rfl ?_
                    refine ta_iloadn hE dX7_copy_112 rfl ?_
                    refine ta_aload hE dX7_copy_113 rfl ?_
                    refine gr_X7_122 hE dX7_copy_115 ((ok_sh h32a h32b).1) rfl ?_
                    refine ta_iload hE dX7_copy_118 rfl ?_
                    refine ta_iload hE dX7_copy_120 rfl ?_
                    refine ta_ck (fun hc122 => ?_)
                    refine ta_copy hE dX7_copy_122 ((ok_sh h24a h24b).2) ((ok_sh h32a h32b).2) ml_X7_199 na_copy st_copy in_J10 hc122.1 hc122.2.1 hc122.2.2.1 hc122.2.2.2.1 hc122.2.2.2.2 rfl (Nat.le_of_ble_eq_true rfl) (fun _ => rfl) ?_
                    refine ta_nmm (fun m122 => ?_)
                    refine ta_iconst (v := 1) hE dX7_copy_125 rfl ⟨by decide, by decide⟩ ?_
                    exact ta_iret hE dX7_copy_126
                  · exact (ta_wk (i := 1) (lv2 := [tr_ 0, tj_, ti_ a1, ti_ a2, ti_ a3, ti_ a4, tr_ (tg_sh a0), tr_ (tg_sh a2)]) rfl (ta_wk (i := 2) (lv2 := [tr_ 0, tj_, tj_, ti_ a2, ti_ a3, ti_ a4, tr_ (tg_sh a0), tr_ (tg_sh a2)]) rfl (ta_wk (i := 3) (lv2 := [tr_ 0, tj_, tj_, tj_, ti_ a3, ti_ a4, tr_ (tg_sh a0), tr_ (tg_sh a2)]) rfl (ta_wk (i := 4) (lv2 := [tr_ 0, tj_, tj_, tj_, tj_, ti_ a4, tr_ (tg_sh a0), tr_ (tg_sh a2)]) rfl (ta_wk (i := 5) (lv2 := [tr_ 0, tj_, tj_, tj_, tj_, tj_, tr_ (tg_sh a0), tr_ (tg_sh a2)]) rfl (ta_wk (i := 6) (lv2 := [tr_ 0, tj_, tj_, tj_, tj_, tj_, tj_, tr_ (tg_sh a2)]) rfl (ta_wk (i := 7) (lv2 := [tr_ 0, tj_, tj_, tj_, tj_, tj_, tj_, tj_]) rfl (hj101 m95))))))))
            · refine ta_aloadn hE dX7_copy_72 rfl ?_
              refine ta_iconst (v := 4) hE dX7_copy_73 rfl ⟨by decide, by decide⟩ ?_
              refine ta_callV (C := RX7) (T := TX7) (st := []) hE dX7_copy_74 (k_X7_found 4 m10) ml_X7_113 im_X7_found se_X7_found in_X7 co_X7_found hy_X7_found ⟨Nat.le_of_ble_eq_true rfl, Nat.le_of_ble_eq_true rfl⟩ lx_0 rfl rfl rfl (fun _ => Nat.le_of_ble_eq_true rfl) (fun r74 m74 hx74 hr74 => ?_)
              change tg_AW E _ _ _ _ _ (ti_ r74 :: _) _
              exact ta_iret hE dX7_copy_77
          · exact (ta_wk (i := 1) (lv2 := [tr_ 0, tj_, ti_ a1, ti_ a2, ti_ a3, ti_ a4, tr_ (tg_sh a0), tr_ (tg_sh a2)]) rfl (ta_wk (i := 2) (lv2 := [tr_ 0, tj_, tj_, ti_ a2, ti_ a3, ti_ a4, tr_ (tg_sh a0), tr_ (tg_sh a2)]) rfl (ta_wk (i := 3) (lv2 := [tr_ 0, tj_, tj_, tj_, ti_ a3, ti_ a4, tr_ (tg_sh a0), tr_ (tg_sh a2)]) rfl (ta_wk (i := 4) (lv2 := [tr_ 0, tj_, tj_, tj_, tj_, ti_ a4, tr_ (tg_sh a0), tr_ (tg_sh a2)]) rfl (ta_wk (i := 5) (lv2 := [tr_ 0, tj_, tj_, tj_, tj_, tj_, tr_ (tg_sh a0), tr_ (tg_sh a2)]) rfl (ta_wk (i := 6) (lv2 := [tr_ 0, tj_, tj_, tj_, tj_, tj_, tj_, tr_ (tg_sh a2)]) rfl (ta_wk (i := 7) (lv2 := [tr_ 0, tj_, tj_, tj_, tj_, tj_, tj_, tj_]) rfl hj53)))))))
    · refine bp_n2 hE dX7_copy_16 ?_
      exact ta_iret hE dX7_copy_18
noncomputable def f_X7_write_B67 (a1 : Int) (r42 : Int) (v5_62 : Int) (self67 : Int → tg_Mem → tg_R) (v6_67 : Int) (m_67 : tg_Mem) : tg_R :=
  if v5_62 ≤ v6_67 then
    some (v5_62, m_67)
  else
    tg_bd (f_X1_pathAt (r42.toNat + 3) v6_67 m_67) (fun r81 m81 =>
      tg_bd (f_X4_put (tg_sh a1) v6_67 r81 m81) (fun _ m84 =>
        tg_lt (tg_wi (v6_67 + 1)) (fun v6_87 =>
          self67 v6_87 m84)))
noncomputable def f_X7_write (a0 : Int) (a1 : Int) (m : tg_Mem) : tg_R :=
  tg_bd (f_X7_isBelow a0 2 m) (fun r2 m2 =>
    if r2 = 0 then
      some ((-2), m2)
    else
      tg_bd (f_X7_isBelow a1 4 m2) (fun r10 m10 =>
        if r10 ≠ 0 then
          tg_ck (0 ≤ a1 ∧ a1 < 4) (
            if m10 (tg_sh a1) 1 ≠ (-1) then
              tg_bd (f_X7_ended a0 m10) (fun r42 m42 =>
                tg_lt (tg_min (m42 (tg_sh a1) 2) (m42 (r42.toNat + 3) 4)) (fun v5_62 =>
                  tg_fx (γ := Int → tg_Mem → tg_R) (f_X7_write_B67 a1 r42 v5_62) (fun _ _ => none) tg_FU 0 m42))
            else
              tg_bd (f_X7_found 1 m10) (fun r36 m36 =>
                some (r36, m36)))
        else
          some ((-2), m10)))
theorem hy_X7_write : yX7_write.cls = RX7 ∧ yX7_write.cls ≠ "java/lang/invoke/MethodHandle" ∧ yX7_write.cls ≠ "java/lang/invoke/VarHandle" ∧ (parseMethodDescriptor yX7_write.desc).map (fun q => q.parameters.length) = some 2 := by decide +kernel
set_option maxRecDepth 100000 in
set_option maxHeartbeats 4000000 in
theorem k_X7_write   (a0 : Int) (a1 : Int) (m : tg_Mem) : tg_C yX7_write cX7_write 7 (some .int) 7 LX [tr_ 0, ti_ a0, ti_ a1] (f_X7_write a0 a1 m) m := by
  refine ta_enter2 (own := RX7) (by decide +kernel) rfl rfl (Nat.le_of_ble_eq_true rfl) rfl (fun E hE => ?_)
  unfold f_X7_write
  refine ta_iloadn hE dX7_write_0 rfl ?_
  refine ta_iconst (v := 2) hE dX7_write_1 rfl ⟨by decide, by decide⟩ ?_
  refine ta_callS (st := []) hE dX7_write_2 (k_X7_isBelow a0 2 m) ml_X7_60 st_X7_isBelow in_X7 co_X7_isBelow hy_X7_isBelow.2 ⟨Nat.le_of_ble_eq_true rfl, Nat.le_of_ble_eq_true rfl⟩ rfl rfl (fun _ => Nat.le_of_ble_eq_true rfl) (fun r2 m2 hx2 hr2 => ?_)
  change tg_AW E _ _ _ _ _ (ti_ r2 :: _) _
  refine ta_if_eq (tgt := 16) hE dX7_write_5 (by decide) (fun c5 => ?_) (fun c5 => ?_)
  · refine bp_n2 hE dX7_write_16 ?_
    exact ta_iret hE dX7_write_18
  · refine ta_iloadn hE dX7_write_8 rfl ?_
    refine ta_iconst (v := 4) hE dX7_write_9 rfl ⟨by decide, by decide⟩ ?_
    refine ta_callS (st := []) hE dX7_write_10 (k_X7_isBelow a1 4 m2) ml_X7_60 st_X7_isBelow in_X7 co_X7_isBelow hy_X7_isBelow.2 ⟨Nat.le_of_ble_eq_true rfl, Nat.le_of_ble_eq_true rfl⟩ rfl rfl (fun _ => Nat.le_of_ble_eq_true rfl) (fun r10 m10 hx10 hr10 => ?_)
    change tg_AW E _ _ _ _ _ (ti_ r10 :: _) _
    refine ta_if_ne (tgt := 19) hE dX7_write_13 (by decide) (fun c13 => ?_) (fun c13 => ?_)
    · refine ta_aloadn hE dX7_write_19 rfl ?_
      refine gr_X7_51 hE dX7_write_20 lx_0 rfl ?_
      refine ta_iloadn hE dX7_write_23 rfl ?_
      refine ta_aald (n' := 4) hE dX7_write_24 lx_39 rfl rfl (fun h24a h24b => ?_)
      change tg_AW E _ _ _ _ _ (tr_ (tg_sh a1) :: _) _
      refine ta_astoren (lv2 := [tr_ 0, ti_ a0, ti_ a1, tr_ (tg_sh a1), tj_, tj_, tj_]) hE dX7_write_25 (Nat.le_of_ble_eq_true rfl) rfl rfl ?_
      refine ta_aloadn hE dX7_write_26 rfl ?_
      refine gf_X7_110 hE dX7_write_27 ((ok_sh h24a h24b).1) rfl ?_
      refine ta_iconst (v := (-1)) hE dX7_write_30 rfl ⟨by decide, by decide⟩ ?_
      refine ta_icmp_ne (tgt := 40) hE dX7_write_31 (by decide) (fun c31 => ?_) (fun c31 => ?_)
      · refine ta_aloadn hE dX7_write_40 rfl ?_
        refine ta_iloadn hE dX7_write_41 rfl ?_
        refine ta_callV (C := RX7) (T := TX7) (st := []) hE dX7_write_42 (k_X7_ended a0 m10) ml_X7_128 im_X7_ended se_X7_ended in_X7 co_X7_ended hy_X7_ended ⟨Nat.le_of_ble_eq_true rfl, Nat.le_of_ble_eq_true rfl⟩ lx_0 rfl rfl rfl (fun _ => Nat.le_of_ble_eq_true rfl) (fun r42 m42 hx42 hr42 => ?_)
        change tg_AW E _ _ _ _ _ (tr_ r42.toNat :: _) _
        refine gr_X7_140 hE dX7_write_45 ((ok_X7_ended hx42).1) rfl ?_
        refine ta_astore (lv2 := [tr_ 0, ti_ a0, ti_ a1, tr_ (tg_sh a1), tr_ (r42.toNat + 3), tj_, tj_]) hE dX7_write_48 (Nat.le_of_ble_eq_true rfl) rfl rfl ?_
        refine ta_aloadn hE dX7_write_50 rfl ?_
        refine gf_X7_121 hE dX7_write_51 ((ok_sh h24a h24b).1) rfl ?_
        refine ta_aload hE dX7_write_54 rfl ?_
        refine gf_X7_154 hE dX7_write_56 ((ok_X7_ended hx42).2.2.1.1) rfl ?_
        refine ta_mmin hE dX7_write_59 ml_X7_205 st_J9_min_7cf53 in_J9 co_J9_min_7cf53 rfl (Nat.le_of_ble_eq_true rfl) (fun _ => Nat.le_of_ble_eq_true rfl) ?_
        refine ta_nmi (fun v5_62 => ?_)
        refine ta_istore (lv2 := [tr_ 0, ti_ a0, ti_ a1, tr_ (tg_sh a1), tr_ (r42.toNat + 3), ti_ v5_62, tj_]) hE dX7_write_62 (Nat.le_of_ble_eq_true rfl) rfl rfl ?_
        refine ta_iconst (v := 0) hE dX7_write_64 rfl ⟨by decide, by decide⟩ ?_
        refine ta_istore (lv2 := [tr_ 0, ti_ a0, ti_ a1, tr_ (tg_sh a1), tr_ (r42.toNat + 3), ti_ v5_62, ti_ 0]) hE dX7_write_65 (Nat.le_of_ble_eq_true rfl) rfl rfl ?_
        have hl67 := ta_fx (γ := Int → tg_Mem → tg_R) (F := (f_X7_write_B67 a1 r42 v5_62)) (z := (fun _ _ => none)) (fun J => ∀ (v6_67 : Int) (m_67 : tg_Mem), tg_AW E LX (some .int) (J v6_67 m_67) 67 [tj_, tj_, tj_, tr_ (tg_sh a1), tr_ (r42.toNat + 3), ti_ v5_62, ti_ v6_67] [] m_67) (by intros; exact ta_none) (fun self67 hself67 => by
            intro v6_67 m_67
            unfold f_X7_write_B67
            refine ta_iload hE dX7_write_67 rfl ?_
            refine ta_iload hE dX7_write_69 rfl ?_
            refine ta_icmp_ge (tgt := 93) hE dX7_write_71 (by decide) (fun c71 => ?_) (fun c71 => ?_)
            · refine ta_iload hE dX7_write_93 rfl ?_
              exact ta_iret hE dX7_write_95
            · refine ta_aloadn hE dX7_write_74 rfl ?_
              refine ta_iload hE dX7_write_75 rfl ?_
              refine ta_aload hE dX7_write_77 rfl ?_
              refine ta_iload hE dX7_write_79 rfl ?_
              refine ta_callV (C := RX1) (T := TX1) (st := [ti_ v6_67, tr_ (tg_sh a1)]) hE dX7_write_81 (k_X1_pathAt ((ok_X7_ended hx42).2.2.1) v6_67 m_67) ml_X7_143 im_X1_pathAt se_X1_pathAt in_X1 co_X1_pathAt hy_X1_pathAt ⟨Nat.le_of_ble_eq_true rfl, Nat.le_of_ble_eq_true rfl⟩ ((ok_X7_ended hx42).2.2.1.1) rfl rfl rfl (fun _ => Nat.le_of_ble_eq_true rfl) (fun r81 m81 hx81 hr81 => ?_)
              change tg_AW E _ _ _ _ _ (ti_ r81 :: _) _
              refine ta_callV (C := RX4) (T := TX4) (st := []) hE dX7_write_84 (k_X4_put (ok_sh h24a h24b) v6_67 r81 m81) ml_X7_189 im_X4_put se_X4_put in_X4 co_X4_put hy_X4_put ⟨Nat.le_of_ble_eq_true rfl, Nat.le_of_ble_eq_true rfl⟩ ((ok_sh h24a h24b).1) rfl rfl rfl (fun _ => Nat.le_of_ble_eq_true rfl) (fun r84 m84 hx84 hr84 => ?_)
              change tg_AW E _ _ _ _ _ [] _
              refine ta_iincn (lv2 := fun v6_87 => [tj_, tj_, tj_, tr_ (tg_sh a1), tr_ (r42.toNat + 3), ti_ v5_62, ti_ v6_87]) hE dX7_write_87 rfl rfl rfl (fun v6_87 => ?_)
              refine ta_goto (tgt := 67) hE dX7_write_90 (by decide) ?_
              exact (hself67 v6_87 m84))
        exact (ta_wk (i := 0) (lv2 := [tj_, ti_ a0, ti_ a1, tr_ (tg_sh a1), tr_ (r42.toNat + 3), ti_ v5_62, ti_ 0]) rfl (ta_wk (i := 1) (lv2 := [tj_, tj_, ti_ a1, tr_ (tg_sh a1), tr_ (r42.toNat + 3), ti_ v5_62, ti_ 0]) rfl (ta_wk (i := 2) (lv2 := [tj_, tj_, tj_, tr_ (tg_sh a1), tr_ (r42.toNat + 3), ti_ v5_62, ti_ 0]) rfl (hl67 tg_FU 0 m42))))
      · refine ta_aloadn hE dX7_write_34 rfl ?_
        refine ta_iconst (v := 1) hE dX7_write_35 rfl ⟨by decide, by decide⟩ ?_
        refine ta_callV (C := RX7) (T := TX7) (st := []) hE dX7_write_36 (k_X7_found 1 m10) ml_X7_113 im_X7_found se_X7_found in_X7 co_X7_found hy_X7_found ⟨Nat.le_of_ble_eq_true rfl, Nat.le_of_ble_eq_true rfl⟩ lx_0 rfl rfl rfl (fun _ => Nat.le_of_ble_eq_true rfl) (fun r36 m36 hx36 hr36 => ?_)
        change tg_AW E _ _ _ _ _ (ti_ r36 :: _) _
        exact ta_iret hE dX7_write_39
    · refine bp_n2 hE dX7_write_16 ?_
      exact ta_iret hE dX7_write_18
noncomputable def f_X2_allYards_B4  (self4 : Int → Int → tg_Mem → tg_R) (v1_4 : Int) (v2_4 : Int) (m_4 : tg_Mem) : tg_R :=
  if m_4 1 8 ≤ v2_4 then
    some (v1_4, m_4)
  else
    tg_bd (f_X2_yardsOf v2_4 m_4) (fun r15 m15 =>
      tg_lt (tg_wi (v1_4 + r15)) (fun v1_19 =>
        tg_lt (tg_wi (v2_4 + 1)) (fun v2_20 =>
          self4 v1_19 v2_20 m15)))
noncomputable def f_X2_allYards  (m : tg_Mem) : tg_R :=
  tg_fx (γ := Int → Int → tg_Mem → tg_R) (f_X2_allYards_B4) (fun _ _ _ => none) tg_FU 0 0 m
theorem hy_X2_allYards : yX2_allYards.cls = RX2 ∧ yX2_allYards.cls ≠ "java/lang/invoke/MethodHandle" ∧ yX2_allYards.cls ≠ "java/lang/invoke/VarHandle" ∧ (parseMethodDescriptor yX2_allYards.desc).map (fun q => q.parameters.length) = some 0 := by decide +kernel
set_option maxRecDepth 100000 in
set_option maxHeartbeats 4000000 in
theorem k_X2_allYards    (m : tg_Mem) : tg_C yX2_allYards cX2_allYards 3 (some .int) 2 LX [tr_ 1] (f_X2_allYards  m) m := by
  refine ta_enter2 (own := RX2) (by decide +kernel) rfl rfl (Nat.le_of_ble_eq_true rfl) rfl (fun E hE => ?_)
  unfold f_X2_allYards
  refine ta_iconst (v := 0) hE dX2_allYards_0 rfl ⟨by decide, by decide⟩ ?_
  refine ta_istoren (lv2 := [tr_ 1, ti_ 0, tj_]) hE dX2_allYards_1 (Nat.le_of_ble_eq_true rfl) rfl rfl ?_
  refine ta_iconst (v := 0) hE dX2_allYards_2 rfl ⟨by decide, by decide⟩ ?_
  refine ta_istoren (lv2 := [tr_ 1, ti_ 0, ti_ 0]) hE dX2_allYards_3 (Nat.le_of_ble_eq_true rfl) rfl rfl ?_
  have hl4 := ta_fx (γ := Int → Int → tg_Mem → tg_R) (F := (f_X2_allYards_B4)) (z := (fun _ _ _ => none)) (fun J => ∀ (v1_4 : Int) (v2_4 : Int) (m_4 : tg_Mem), tg_AW E LX (some .int) (J v1_4 v2_4 m_4) 4 [tr_ 1, ti_ v1_4, ti_ v2_4] [] m_4) (by intros; exact ta_none) (fun self4 hself4 => by
      intro v1_4 v2_4 m_4
      unfold f_X2_allYards_B4
      refine ta_iloadn hE dX2_allYards_4 rfl ?_
      refine ta_aloadn hE dX2_allYards_5 rfl ?_
      refine gf_X2_41 hE dX2_allYards_6 lx_1 rfl ?_
      refine ta_icmp_ge (tgt := 26) hE dX2_allYards_9 (by decide) (fun c9 => ?_) (fun c9 => ?_)
      · refine ta_iloadn hE dX2_allYards_26 rfl ?_
        exact ta_iret hE dX2_allYards_27
      · refine ta_iloadn hE dX2_allYards_12 rfl ?_
        refine ta_aloadn hE dX2_allYards_13 rfl ?_
        refine ta_iloadn hE dX2_allYards_14 rfl ?_
        refine ta_callV (C := RX2) (T := TX2) (st := [ti_ v1_4]) hE dX2_allYards_15 (k_X2_yardsOf v2_4 m_4) ml_X2_81 im_X2_yardsOf se_X2_yardsOf in_X2 co_X2_yardsOf hy_X2_yardsOf ⟨Nat.le_of_ble_eq_true rfl, Nat.le_of_ble_eq_true rfl⟩ lx_1 rfl rfl rfl (fun _ => Nat.le_of_ble_eq_true rfl) (fun r15 m15 hx15 hr15 => ?_)
        change tg_AW E _ _ _ _ _ (ti_ r15 :: _) _
        refine ta_iadd hE dX2_allYards_18 ?_
        refine ta_nmi (fun v1_19 => ?_)
        refine ta_istoren (lv2 := [tr_ 1, ti_ v1_19, ti_ v2_4]) hE dX2_allYards_19 (Nat.le_of_ble_eq_true rfl) rfl rfl ?_
        refine ta_iincn (lv2 := fun v2_20 => [tr_ 1, ti_ v1_19, ti_ v2_20]) hE dX2_allYards_20 rfl rfl rfl (fun v2_20 => ?_)
        refine ta_goto (tgt := 4) hE dX2_allYards_23 (by decide) ?_
        exact (hself4 v1_19 v2_20 m15))
  exact (hl4 tg_FU 0 0 m)
noncomputable def f_X7_count (a0 : Int) (m : tg_Mem) : tg_R :=
  tg_bd (f_X7_isBelow a0 9 m) (fun r3 m3 =>
    if r3 ≠ 0 then
      tg_jn (γ := tg_R) (tg_bd (f_X7_textOf (tg_wi (a0 - 1)) m3) (fun r116 m116 =>
        some (m116 (r116.toNat) 1, m116))) (fun j112 =>
        if a0 = 0 then
          some (m3 1 8, m3)
        else
          if a0 = 1 then
            j112
          else
            if a0 = 2 then
              j112
            else
              if a0 = 3 then
                j112
              else
                if a0 = 4 then
                  tg_bd (f_X2_allYards  m3) (fun r76 m76 =>
                    some (r76, m76))
                else
                  if a0 = 5 then
                    tg_bd (f_X2_worthBeside 0 m3) (fun r85 m85 =>
                      some (r85, m85))
                  else
                    if a0 = 6 then
                      tg_bd (f_X7_ended 0 m3) (fun r91 m91 =>
                        some (m91 (r91.toNat) 7, m91))
                    else
                      if a0 = 7 then
                        tg_bd (f_X7_ended 1 m3) (fun r100 m100 =>
                          some (m100 (r100.toNat) 7, m100))
                      else
                        if a0 = 8 then
                          some (m3 0 7, m3)
                        else
                          j112)
    else
      some ((-2), m3))
theorem hy_X7_count : yX7_count.cls = RX7 ∧ yX7_count.cls ≠ "java/lang/invoke/MethodHandle" ∧ yX7_count.cls ≠ "java/lang/invoke/VarHandle" ∧ (parseMethodDescriptor yX7_count.desc).map (fun q => q.parameters.length) = some 1 := by decide +kernel
set_option maxRecDepth 100000 in
set_option maxHeartbeats 4000000 in
theorem k_X7_count   (a0 : Int) (m : tg_Mem) : tg_C yX7_count cX7_count 2 (some .int) 7 LX [tr_ 0, ti_ a0] (f_X7_count a0 m) m := by
  refine ta_enter2 (own := RX7) (by decide +kernel) rfl rfl (Nat.le_of_ble_eq_true rfl) rfl (fun E hE => ?_)
  unfold f_X7_count
  refine ta_iloadn hE dX7_count_0 rfl ?_
  refine bp_9 hE dX7_count_1 ?_
  refine ta_callS (st := []) hE dX7_count_3 (k_X7_isBelow a0 9 m) ml_X7_60 st_X7_isBelow in_X7 co_X7_isBelow hy_X7_isBelow.2 ⟨Nat.le_of_ble_eq_true rfl, Nat.le_of_ble_eq_true rfl⟩ rfl rfl (fun _ => Nat.le_of_ble_eq_true rfl) (fun r3 m3 hx3 hr3 => ?_)
  change tg_AW E _ _ _ _ _ (ti_ r3 :: _) _
  refine ta_if_ne (tgt := 12) hE dX7_count_6 (by decide) (fun c6 => ?_) (fun c6 => ?_)
  · refine ta_iloadn hE dX7_count_12 rfl ?_
    refine ta_join (γ := tg_R) (fun J => tg_AW E LX (some .int) J 112 [tr_ 0, ti_ a0] [] m3) ?_ (fun j112 hj112 => ?_)
    · refine ta_aloadn hE dX7_count_112 rfl ?_
      refine ta_iloadn hE dX7_count_113 rfl ?_
      refine ta_iconst (v := 1) hE dX7_count_114 rfl ⟨by decide, by decide⟩ ?_
      refine ta_isub hE dX7_count_115 ?_
      refine ta_callV (C := RX7) (T := TX7) (st := []) hE dX7_count_116 (k_X7_textOf (tg_wi (a0 - 1)) m3) ml_X7_64 im_X7_textOf se_X7_textOf in_X7 co_X7_textOf hy_X7_textOf ⟨Nat.le_of_ble_eq_true rfl, Nat.le_of_ble_eq_true rfl⟩ lx_0 rfl rfl rfl (fun _ => Nat.le_of_ble_eq_true rfl) (fun r116 m116 hx116 hr116 => ?_)
      change tg_AW E _ _ _ _ _ (tr_ r116.toNat :: _) _
      refine gf_X7_68 hE dX7_count_119 ((ok_X7_textOf hx116).1) rfl ?_
      exact ta_iret hE dX7_count_122
    · refine ta_ite (fun q0 => ?_) (fun q0 => ?_)
      · refine ta_swc (tgt := 64) 0 hE dX7_count_13 q0 (by decide) (by decide) rfl (by decide) ?_
        refine ta_aloadn hE dX7_count_64 rfl ?_
        refine gr_X7_12 hE dX7_count_65 lx_0 rfl ?_
        refine gf_X7_83 hE dX7_count_68 lx_1 rfl ?_
        exact ta_iret hE dX7_count_71
      · refine ta_ite (fun q1 => ?_) (fun q1 => ?_)
        · refine ta_swc (tgt := 112) 1 hE dX7_count_13 q1 (by decide) (by decide) rfl (by decide) ?_
          exact hj112
        · refine ta_ite (fun q2 => ?_) (fun q2 => ?_)
          · refine ta_swc (tgt := 112) 2 hE dX7_count_13 q2 (by decide) (by decide) rfl (by decide) ?_
            exact hj112
          · refine ta_ite (fun q3 => ?_) (fun q3 => ?_)
            · refine ta_swc (tgt := 112) 3 hE dX7_count_13 q3 (by decide) (by decide) rfl (by decide) ?_
              exact hj112
            · refine ta_ite (fun q4 => ?_) (fun q4 => ?_)
              · refine ta_swc (tgt := 72) 4 hE dX7_count_13 q4 (by decide) (by decide) rfl (by decide) ?_
                refine ta_aloadn hE dX7_count_72 rfl ?_
                refine gr_X7_12 hE dX7_count_73 lx_0 rfl ?_
                refine ta_callV (C := RX2) (T := TX2) (st := []) hE dX7_count_76 (k_X2_allYards m3) ml_X7_210 im_X2_allYards se_X2_allYards in_X2 co_X2_allYards hy_X2_allYards ⟨Nat.le_of_ble_eq_true rfl, Nat.le_of_ble_eq_true rfl⟩ lx_1 rfl rfl rfl (fun _ => Nat.le_of_ble_eq_true rfl) (fun r76 m76 hx76 hr76 => ?_)
                change tg_AW E _ _ _ _ _ (ti_ r76 :: _) _
                exact ta_iret hE dX7_count_79
              · refine ta_ite (fun q5 => ?_) (fun q5 => ?_)
                · refine ta_swc (tgt := 80) 5 hE dX7_count_13 q5 (by decide) (by decide) rfl (by decide) ?_
                  refine ta_aloadn hE dX7_count_80 rfl ?_
                  refine gr_X7_12 hE dX7_count_81 lx_0 rfl ?_
                  refine ta_iconst (v := 0) hE dX7_count_84 rfl ⟨by decide, by decide⟩ ?_
                  refine ta_callV (C := RX2) (T := TX2) (st := []) hE dX7_count_85 (k_X2_worthBeside 0 m3) ml_X7_213 im_X2_worthBeside se_X2_worthBeside in_X2 co_X2_worthBeside hy_X2_worthBeside ⟨Nat.le_of_ble_eq_true rfl, Nat.le_of_ble_eq_true rfl⟩ lx_1 rfl rfl rfl (fun _ => Nat.le_of_ble_eq_true rfl) (fun r85 m85 hx85 hr85 => ?_)
                  change tg_AW E _ _ _ _ _ (ti_ r85 :: _) _
                  exact ta_iret hE dX7_count_88
                · refine ta_ite (fun q6 => ?_) (fun q6 => ?_)
                  · refine ta_swc (tgt := 89) 6 hE dX7_count_13 q6 (by decide) (by decide) rfl (by decide) ?_
                    refine ta_aloadn hE dX7_count_89 rfl ?_
                    refine ta_iconst (v := 0) hE dX7_count_90 rfl ⟨by decide, by decide⟩ ?_
                    refine ta_callV (C := RX7) (T := TX7) (st := []) hE dX7_count_91 (k_X7_ended 0 m3) ml_X7_128 im_X7_ended se_X7_ended in_X7 co_X7_ended hy_X7_ended ⟨Nat.le_of_ble_eq_true rfl, Nat.le_of_ble_eq_true rfl⟩ lx_0 rfl rfl rfl (fun _ => Nat.le_of_ble_eq_true rfl) (fun r91 m91 hx91 hr91 => ?_)
                    change tg_AW E _ _ _ _ _ (tr_ r91.toNat :: _) _
                    refine gf_X7_131 hE dX7_count_94 ((ok_X7_ended hx91).1) rfl ?_
                    exact ta_iret hE dX7_count_97
                  · refine ta_ite (fun q7 => ?_) (fun q7 => ?_)
                    · refine ta_swc (tgt := 98) 7 hE dX7_count_13 q7 (by decide) (by decide) rfl (by decide) ?_
                      refine ta_aloadn hE dX7_count_98 rfl ?_
                      refine ta_iconst (v := 1) hE dX7_count_99 rfl ⟨by decide, by decide⟩ ?_
                      refine ta_callV (C := RX7) (T := TX7) (st := []) hE dX7_count_100 (k_X7_ended 1 m3) ml_X7_128 im_X7_ended se_X7_ended in_X7 co_X7_ended hy_X7_ended ⟨Nat.le_of_ble_eq_true rfl, Nat.le_of_ble_eq_true rfl⟩ lx_0 rfl rfl rfl (fun _ => Nat.le_of_ble_eq_true rfl) (fun r100 m100 hx100 hr100 => ?_)
                      change tg_AW E _ _ _ _ _ (tr_ r100.toNat :: _) _
                      refine gf_X7_131 hE dX7_count_103 ((ok_X7_ended hx100).1) rfl ?_
                      exact ta_iret hE dX7_count_106
                    · refine ta_ite (fun q8 => ?_) (fun q8 => ?_)
                      · refine ta_swc (tgt := 107) 8 hE dX7_count_13 q8 (by decide) (by decide) rfl (by decide) ?_
                        refine ta_aloadn hE dX7_count_107 rfl ?_
                        refine gf_X7_55 hE dX7_count_108 lx_0 rfl ?_
                        exact ta_iret hE dX7_count_111
                      · refine ta_swd (tgt := 112) hE dX7_count_13 (by omega) (by decide) ?_
                        exact hj112
  · refine bp_n2 hE dX7_count_9 ?_
    exact ta_iret hE dX7_count_11
noncomputable def f_X7_digest_B125 (v3_94 : Int) (v4_107 : Int) (j155 : Int → tg_Mem → tg_R) (self125 : Int → Int → tg_Mem → tg_R) (v1_125 : Int) (v5_125 : Int) (m_125 : tg_Mem) : tg_R :=
  if 8 ≤ v5_125 then
    j155 v1_125 m_125
  else
    tg_bd (f_X7_state v3_94 v4_107 v5_125 m_125) (fun r143 m143 =>
      tg_lt (tg_wl ((tg_wl (31 * v1_125)) + r143)) (fun v1_148 =>
        tg_lt (tg_wi (v5_125 + 1)) (fun v5_149 =>
          self125 v1_148 v5_149 m143)))
noncomputable def f_X7_digest_B94 (j291 : Int → tg_Mem → tg_R) (self94 : Int → Int → tg_Mem → tg_R) (v1_94 : Int) (v3_94 : Int) (m_94 : tg_Mem) : tg_R :=
  if 2 ≤ v3_94 then
    j291 v1_94 m_94
  else
    tg_bd (f_X7_ended v3_94 m_94) (fun r101 m101 =>
      tg_lt (m101 (r101.toNat) 7) (fun v4_107 =>
        tg_bd (f_X7_judged v3_94 m101) (fun r116 m116 =>
          tg_lt (tg_wl ((tg_wl (31 * v1_94)) + r116)) (fun v1_121 =>
            tg_jn (γ := Int → tg_Mem → tg_R) (fun (v1_155 : Int) (m_155 : tg_Mem) => tg_bd (f_X7_rope v3_94 v4_107 0 m_155) (fun r165 m165 =>
              tg_lt (tg_wl ((tg_wl (31 * v1_155)) + r165)) (fun v1_170 =>
                tg_bd (f_X7_needs v3_94 m165) (fun r178 m178 =>
                  tg_lt (tg_wl ((tg_wl (31 * v1_170)) + r178)) (fun v1_183 =>
                    tg_bd (f_X7_soon v3_94 0 1 m178) (fun r193 m193 =>
                      tg_lt (tg_wl ((tg_wl (31 * v1_183)) + r193)) (fun v1_198 =>
                        tg_bd (f_X7_soon v3_94 2 2 m193) (fun r208 m208 =>
                          tg_lt (tg_wl ((tg_wl (31 * v1_198)) + r208)) (fun v1_213 =>
                            tg_bd (f_X7_loose v3_94 m208) (fun r221 m221 =>
                              tg_lt (tg_wl ((tg_wl (31 * v1_213)) + r221)) (fun v1_226 =>
                                tg_bd (f_X7_began v3_94 0 m221) (fun r235 m235 =>
                                  tg_lt (tg_wl ((tg_wl (31 * v1_226)) + r235)) (fun v1_240 =>
                                    tg_bd (f_X7_began v3_94 1 m235) (fun r249 m249 =>
                                      tg_lt (tg_wl ((tg_wl (31 * v1_240)) + r249)) (fun v1_254 =>
                                        tg_bd (f_X7_game v3_94 3 0 m249) (fun r264 m264 =>
                                          tg_lt (tg_wl ((tg_wl (31 * v1_254)) + r264)) (fun v1_269 =>
                                            tg_bd (f_X7_game v3_94 3 1 m264) (fun r279 m279 =>
                                              tg_lt (tg_wl ((tg_wl (31 * v1_269)) + r279)) (fun v1_284 =>
                                                tg_lt (tg_wi (v3_94 + 1)) (fun v3_285 =>
                                                  self94 v1_284 v3_285 m279)))))))))))))))))))) (fun j155 =>
              tg_fx (γ := Int → Int → tg_Mem → tg_R) (f_X7_digest_B125 v3_94 v4_107 j155) (fun _ _ _ => none) tg_FU v1_121 0 m116)))))
noncomputable def f_X7_digest_B59 (v3_45 : Int) (j86 : Int → tg_Mem → tg_R) (self59 : Int → Int → tg_Mem → tg_R) (v1_59 : Int) (v4_59 : Int) (m_59 : tg_Mem) : tg_R :=
  if 3 ≤ v4_59 then
    j86 v1_59 m_59
  else
    tg_bd (f_X7_path v3_45 v4_59 m_59) (fun r74 m74 =>
      tg_lt (tg_wl ((tg_wl (31 * v1_59)) + r74)) (fun v1_79 =>
        tg_lt (tg_wi (v4_59 + 1)) (fun v4_80 =>
          self59 v1_79 v4_80 m74)))
noncomputable def f_X7_digest_B45 (j92 : Int → tg_Mem → tg_R) (self45 : Int → Int → tg_Mem → tg_R) (v1_45 : Int) (v3_45 : Int) (m_45 : tg_Mem) : tg_R :=
  if m_45 1 8 ≤ v3_45 then
    j92 v1_45 m_45
  else
    tg_jn (γ := Int → tg_Mem → tg_R) (fun (v1_86 : Int) (m_86 : tg_Mem) => tg_lt (tg_wi (v3_45 + 1)) (fun v3_86 =>
      self45 v1_86 v3_86 m_86)) (fun j86 =>
      tg_fx (γ := Int → Int → tg_Mem → tg_R) (f_X7_digest_B59 v3_45 j86) (fun _ _ _ => none) tg_FU v1_45 0 m_45)
noncomputable def f_X7_digest_B6 (j31 : Int → tg_Mem → tg_R) (self6 : Int → Int → tg_Mem → tg_R) (v1_6 : Int) (v3_6 : Int) (m_6 : tg_Mem) : tg_R :=
  if 8 ≤ v3_6 then
    j31 v1_6 m_6
  else
    tg_bd (f_X7_count v3_6 m_6) (fun r19 m19 =>
      tg_lt (tg_wl ((tg_wl (31 * v1_6)) + r19)) (fun v1_24 =>
        tg_lt (tg_wi (v3_6 + 1)) (fun v3_25 =>
          self6 v1_24 v3_25 m19)))
noncomputable def f_X7_digest  (m : tg_Mem) : tg_R :=
  tg_jn (γ := Int → tg_Mem → tg_R) (fun (v1_31 : Int) (m_31 : tg_Mem) => tg_bd (f_X7_fault  m_31) (fun r37 m37 =>
    tg_lt (tg_wl ((tg_wl (31 * v1_31)) + r37)) (fun v1_42 =>
      tg_jn (γ := Int → tg_Mem → tg_R) (fun (v1_92 : Int) (m_92 : tg_Mem) => tg_jn (γ := Int → tg_Mem → tg_R) (fun (v1_291 : Int) (m_291 : tg_Mem) => tg_bd (f_X7_pulled 0 0 1 0 m_291) (fun r301 m301 =>
        tg_lt (tg_wl ((tg_wl (31 * v1_291)) + r301)) (fun v1_306 =>
          tg_bd (f_X7_pulled 0 0 1 1 m301) (fun r317 m317 =>
            tg_lt (tg_wl ((tg_wl (31 * v1_306)) + r317)) (fun v1_322 =>
              tg_bd (f_X7_alike  m317) (fun r329 m329 =>
                some (tg_wl ((tg_wl (31 * v1_322)) + r329), m329))))))) (fun j291 =>
        tg_fx (γ := Int → Int → tg_Mem → tg_R) (f_X7_digest_B94 j291) (fun _ _ _ => none) tg_FU v1_92 0 m_92)) (fun j92 =>
        tg_fx (γ := Int → Int → tg_Mem → tg_R) (f_X7_digest_B45 j92) (fun _ _ _ => none) tg_FU v1_42 0 m37)))) (fun j31 =>
    tg_fx (γ := Int → Int → tg_Mem → tg_R) (f_X7_digest_B6 j31) (fun _ _ _ => none) tg_FU 17 0 m)
theorem hy_X7_digest : yX7_digest.cls = RX7 ∧ yX7_digest.cls ≠ "java/lang/invoke/MethodHandle" ∧ yX7_digest.cls ≠ "java/lang/invoke/VarHandle" ∧ (parseMethodDescriptor yX7_digest.desc).map (fun q => q.parameters.length) = some 0 := by decide +kernel
set_option maxRecDepth 100000 in
set_option maxHeartbeats 4000000 in
theorem k_X7_digest    (m : tg_Mem) : tg_C yX7_digest cX7_digest 6 (some .long) 19 LX [tr_ 0] (f_X7_digest  m) m := by
  refine ta_enter2 (own := RX7) (by decide +kernel) rfl rfl (Nat.le_of_ble_eq_true rfl) rfl (fun E hE => ?_)
  unfold f_X7_digest
  refine ta_ldc2 (v := 17) hE dX7_digest_0 lc_X7_216 ⟨by decide, by decide⟩ ?_
  refine ta_lstoren (lv2 := [tr_ 0, tl_ 17, tj_, tj_, tj_, tj_]) hE dX7_digest_3 (Nat.le_of_ble_eq_true rfl) rfl rfl ?_
  refine ta_iconst (v := 0) hE dX7_digest_4 rfl ⟨by decide, by decide⟩ ?_
  refine ta_istoren (lv2 := [tr_ 0, tl_ 17, tj_, ti_ 0, tj_, tj_]) hE dX7_digest_5 (Nat.le_of_ble_eq_true rfl) rfl rfl ?_
  refine ta_join (γ := Int → tg_Mem → tg_R) (fun J => ∀ (v1_31 : Int) (m_31 : tg_Mem), tg_AW E LX (some .long) (J v1_31 m_31) 31 [tr_ 0, tl_ v1_31, tj_, tj_, tj_, tj_] [] m_31) ?_ (fun j31 hj31 => ?_)
  · intro v1_31 m_31
    refine ta_ldc2 (v := 31) hE dX7_digest_31 lc_X7_218 ⟨by decide, by decide⟩ ?_
    refine ta_lloadn hE dX7_digest_34 rfl ?_
    refine ta_lmul hE dX7_digest_35 ?_
    refine ta_aloadn hE dX7_digest_36 rfl ?_
    refine ta_callV (C := RX7) (T := TX7) (st := [tl_ (tg_wl (31 * v1_31))]) hE dX7_digest_37 (k_X7_fault m_31) ml_X7_223 im_X7_fault se_X7_fault in_X7 co_X7_fault hy_X7_fault ⟨Nat.le_of_ble_eq_true rfl, Nat.le_of_ble_eq_true rfl⟩ lx_0 rfl rfl rfl (fun _ => Nat.le_of_ble_eq_true rfl) (fun r37 m37 hx37 hr37 => ?_)
    change tg_AW E _ _ _ _ _ (ti_ r37 :: _) _
    refine ta_i2l hE dX7_digest_40 ?_
    refine ta_ladd hE dX7_digest_41 ?_
    refine ta_nml (fun v1_42 => ?_)
    refine ta_lstoren (lv2 := [tr_ 0, tl_ v1_42, tj_, tj_, tj_, tj_]) hE dX7_digest_42 (Nat.le_of_ble_eq_true rfl) rfl rfl ?_
    refine ta_iconst (v := 0) hE dX7_digest_43 rfl ⟨by decide, by decide⟩ ?_
    refine ta_istoren (lv2 := [tr_ 0, tl_ v1_42, tj_, ti_ 0, tj_, tj_]) hE dX7_digest_44 (Nat.le_of_ble_eq_true rfl) rfl rfl ?_
    refine ta_join (γ := Int → tg_Mem → tg_R) (fun J => ∀ (v1_92 : Int) (m_92 : tg_Mem), tg_AW E LX (some .long) (J v1_92 m_92) 92 [tr_ 0, tl_ v1_92, tj_, tj_, tj_, tj_] [] m_92) ?_ (fun j92 hj92 => ?_)
    · intro v1_92 m_92
      refine ta_iconst (v := 0) hE dX7_digest_92 rfl ⟨by decide, by decide⟩ ?_
      refine ta_istoren (lv2 := [tr_ 0, tl_ v1_92, tj_, ti_ 0, tj_, tj_]) hE dX7_digest_93 (Nat.le_of_ble_eq_true rfl) rfl rfl ?_
      refine ta_join (γ := Int → tg_Mem → tg_R) (fun J => ∀ (v1_291 : Int) (m_291 : tg_Mem), tg_AW E LX (some .long) (J v1_291 m_291) 291 [tr_ 0, tl_ v1_291, tj_, tj_, tj_, tj_] [] m_291) ?_ (fun j291 hj291 => ?_)
      · intro v1_291 m_291
        refine ta_ldc2 (v := 31) hE dX7_digest_291 lc_X7_218 ⟨by decide, by decide⟩ ?_
        refine ta_lloadn hE dX7_digest_294 rfl ?_
        refine ta_lmul hE dX7_digest_295 ?_
        refine ta_aloadn hE dX7_digest_296 rfl ?_
        refine ta_iconst (v := 0) hE dX7_digest_297 rfl ⟨by decide, by decide⟩ ?_
        refine ta_iconst (v := 0) hE dX7_digest_298 rfl ⟨by decide, by decide⟩ ?_
        refine ta_iconst (v := 1) hE dX7_digest_299 rfl ⟨by decide, by decide⟩ ?_
        refine ta_iconst (v := 0) hE dX7_digest_300 rfl ⟨by decide, by decide⟩ ?_
        refine ta_callV (C := RX7) (T := TX7) (st := [tl_ (tg_wl (31 * v1_291))]) hE dX7_digest_301 (k_X7_pulled 0 0 1 0 m_291) ml_X7_254 im_X7_pulled se_X7_pulled in_X7 co_X7_pulled hy_X7_pulled ⟨Nat.le_of_ble_eq_true rfl, Nat.le_of_ble_eq_true rfl⟩ lx_0 rfl rfl rfl (fun _ => Nat.le_of_ble_eq_true rfl) (fun r301 m301 hx301 hr301 => ?_)
        change tg_AW E _ _ _ _ _ (ti_ r301 :: _) _
        refine ta_i2l hE dX7_digest_304 ?_
        refine ta_ladd hE dX7_digest_305 ?_
        refine ta_nml (fun v1_306 => ?_)
        refine ta_lstoren (lv2 := [tr_ 0, tl_ v1_306, tj_, tj_, tj_, tj_]) hE dX7_digest_306 (Nat.le_of_ble_eq_true rfl) rfl rfl ?_
        refine ta_ldc2 (v := 31) hE dX7_digest_307 lc_X7_218 ⟨by decide, by decide⟩ ?_
        refine ta_lloadn hE dX7_digest_310 rfl ?_
        refine ta_lmul hE dX7_digest_311 ?_
        refine ta_aloadn hE dX7_digest_312 rfl ?_
        refine ta_iconst (v := 0) hE dX7_digest_313 rfl ⟨by decide, by decide⟩ ?_
        refine ta_iconst (v := 0) hE dX7_digest_314 rfl ⟨by decide, by decide⟩ ?_
        refine ta_iconst (v := 1) hE dX7_digest_315 rfl ⟨by decide, by decide⟩ ?_
        refine ta_iconst (v := 1) hE dX7_digest_316 rfl ⟨by decide, by decide⟩ ?_
        refine ta_callV (C := RX7) (T := TX7) (st := [tl_ (tg_wl (31 * v1_306))]) hE dX7_digest_317 (k_X7_pulled 0 0 1 1 m301) ml_X7_254 im_X7_pulled se_X7_pulled in_X7 co_X7_pulled hy_X7_pulled ⟨Nat.le_of_ble_eq_true rfl, Nat.le_of_ble_eq_true rfl⟩ lx_0 rfl rfl rfl (fun _ => Nat.le_of_ble_eq_true rfl) (fun r317 m317 hx317 hr317 => ?_)
        change tg_AW E _ _ _ _ _ (ti_ r317 :: _) _
        refine ta_i2l hE dX7_digest_320 ?_
        refine ta_ladd hE dX7_digest_321 ?_
        refine ta_nml (fun v1_322 => ?_)
        refine ta_lstoren (lv2 := [tr_ 0, tl_ v1_322, tj_, tj_, tj_, tj_]) hE dX7_digest_322 (Nat.le_of_ble_eq_true rfl) rfl rfl ?_
        refine ta_ldc2 (v := 31) hE dX7_digest_323 lc_X7_218 ⟨by decide, by decide⟩ ?_
        refine ta_lloadn hE dX7_digest_326 rfl ?_
        refine ta_lmul hE dX7_digest_327 ?_
        refine ta_aloadn hE dX7_digest_328 rfl ?_
        refine ta_callV (C := RX7) (T := TX7) (st := [tl_ (tg_wl (31 * v1_322))]) hE dX7_digest_329 (k_X7_alike m317) ml_X7_258 im_X7_alike se_X7_alike in_X7 co_X7_alike hy_X7_alike ⟨Nat.le_of_ble_eq_true rfl, Nat.le_of_ble_eq_true rfl⟩ lx_0 rfl rfl rfl (fun _ => Nat.le_of_ble_eq_true rfl) (fun r329 m329 hx329 hr329 => ?_)
        change tg_AW E _ _ _ _ _ (ti_ r329 :: _) _
        refine ta_i2l hE dX7_digest_332 ?_
        refine ta_ladd hE dX7_digest_333 ?_
        exact ta_lret hE dX7_digest_334
      · have hl94 := ta_fx (γ := Int → Int → tg_Mem → tg_R) (F := (f_X7_digest_B94 j291)) (z := (fun _ _ _ => none)) (fun J => ∀ (v1_94 : Int) (v3_94 : Int) (m_94 : tg_Mem), tg_AW E LX (some .long) (J v1_94 v3_94 m_94) 94 [tr_ 0, tl_ v1_94, tj_, ti_ v3_94, tj_, tj_] [] m_94) (by intros; exact ta_none) (fun self94 hself94 => by
            intro v1_94 v3_94 m_94
            unfold f_X7_digest_B94
            refine ta_iloadn hE dX7_digest_94 rfl ?_
            refine ta_iconst (v := 2) hE dX7_digest_95 rfl ⟨by decide, by decide⟩ ?_
            refine ta_icmp_ge (tgt := 291) hE dX7_digest_96 (by decide) (fun c96 => ?_) (fun c96 => ?_)
            · exact (ta_wk (i := 3) (lv2 := [tr_ 0, tl_ v1_94, tj_, tj_, tj_, tj_]) rfl (hj291 v1_94 m_94))
            · refine ta_aloadn hE dX7_digest_99 rfl ?_
              refine ta_iloadn hE dX7_digest_100 rfl ?_
              refine ta_callV (C := RX7) (T := TX7) (st := []) hE dX7_digest_101 (k_X7_ended v3_94 m_94) ml_X7_128 im_X7_ended se_X7_ended in_X7 co_X7_ended hy_X7_ended ⟨Nat.le_of_ble_eq_true rfl, Nat.le_of_ble_eq_true rfl⟩ lx_0 rfl rfl rfl (fun _ => Nat.le_of_ble_eq_true rfl) (fun r101 m101 hx101 hr101 => ?_)
              change tg_AW E _ _ _ _ _ (tr_ r101.toNat :: _) _
              refine gf_X7_131 hE dX7_digest_104 ((ok_X7_ended hx101).1) rfl ?_
              refine ta_nmi (fun v4_107 => ?_)
              refine ta_istore (lv2 := [tr_ 0, tl_ v1_94, tj_, ti_ v3_94, ti_ v4_107, tj_]) hE dX7_digest_107 (Nat.le_of_ble_eq_true rfl) rfl rfl ?_
              refine ta_ldc2 (v := 31) hE dX7_digest_109 lc_X7_218 ⟨by decide, by decide⟩ ?_
              refine ta_lloadn hE dX7_digest_112 rfl ?_
              refine ta_lmul hE dX7_digest_113 ?_
              refine ta_aloadn hE dX7_digest_114 rfl ?_
              refine ta_iloadn hE dX7_digest_115 rfl ?_
              refine ta_callV (C := RX7) (T := TX7) (st := [tl_ (tg_wl (31 * v1_94))]) hE dX7_digest_116 (k_X7_judged v3_94 m101) ml_X7_229 im_X7_judged se_X7_judged in_X7 co_X7_judged hy_X7_judged ⟨Nat.le_of_ble_eq_true rfl, Nat.le_of_ble_eq_true rfl⟩ lx_0 rfl rfl rfl (fun _ => Nat.le_of_ble_eq_true rfl) (fun r116 m116 hx116 hr116 => ?_)
              change tg_AW E _ _ _ _ _ (ti_ r116 :: _) _
              refine ta_i2l hE dX7_digest_119 ?_
              refine ta_ladd hE dX7_digest_120 ?_
              refine ta_nml (fun v1_121 => ?_)
              refine ta_lstoren (lv2 := [tr_ 0, tl_ v1_121, tj_, ti_ v3_94, ti_ v4_107, tj_]) hE dX7_digest_121 (Nat.le_of_ble_eq_true rfl) rfl rfl ?_
              refine ta_iconst (v := 0) hE dX7_digest_122 rfl ⟨by decide, by decide⟩ ?_
              refine ta_istore (lv2 := [tr_ 0, tl_ v1_121, tj_, ti_ v3_94, ti_ v4_107, ti_ 0]) hE dX7_digest_123 (Nat.le_of_ble_eq_true rfl) rfl rfl ?_
              refine ta_join (γ := Int → tg_Mem → tg_R) (fun J => ∀ (v1_155 : Int) (m_155 : tg_Mem), tg_AW E LX (some .long) (J v1_155 m_155) 155 [tr_ 0, tl_ v1_155, tj_, ti_ v3_94, ti_ v4_107, tj_] [] m_155) ?_ (fun j155 hj155 => ?_)
              · intro v1_155 m_155
                refine ta_ldc2 (v := 31) hE dX7_digest_155 lc_X7_218 ⟨by decide, by decide⟩ ?_
                refine ta_lloadn hE dX7_digest_158 rfl ?_
                refine ta_lmul hE dX7_digest_159 ?_
                refine ta_aloadn hE dX7_digest_160 rfl ?_
                refine ta_iloadn hE dX7_digest_161 rfl ?_
                refine ta_iload hE dX7_digest_162 rfl ?_
                refine ta_iconst (v := 0) hE dX7_digest_164 rfl ⟨by decide, by decide⟩ ?_
                refine ta_callV (C := RX7) (T := TX7) (st := [tl_ (tg_wl (31 * v1_155))]) hE dX7_digest_165 (k_X7_rope v3_94 v4_107 0 m_155) ml_X7_236 im_X7_rope se_X7_rope in_X7 co_X7_rope hy_X7_rope ⟨Nat.le_of_ble_eq_true rfl, Nat.le_of_ble_eq_true rfl⟩ lx_0 rfl rfl rfl (fun _ => Nat.le_of_ble_eq_true rfl) (fun r165 m165 hx165 hr165 => ?_)
                change tg_AW E _ _ _ _ _ (ti_ r165 :: _) _
                refine ta_i2l hE dX7_digest_168 ?_
                refine ta_ladd hE dX7_digest_169 ?_
                refine ta_nml (fun v1_170 => ?_)
                refine ta_lstoren (lv2 := [tr_ 0, tl_ v1_170, tj_, ti_ v3_94, ti_ v4_107, tj_]) hE dX7_digest_170 (Nat.le_of_ble_eq_true rfl) rfl rfl ?_
                refine ta_ldc2 (v := 31) hE dX7_digest_171 lc_X7_218 ⟨by decide, by decide⟩ ?_
                refine ta_lloadn hE dX7_digest_174 rfl ?_
                refine ta_lmul hE dX7_digest_175 ?_
                refine ta_aloadn hE dX7_digest_176 rfl ?_
                refine ta_iloadn hE dX7_digest_177 rfl ?_
                refine ta_callV (C := RX7) (T := TX7) (st := [tl_ (tg_wl (31 * v1_170))]) hE dX7_digest_178 (k_X7_needs v3_94 m165) ml_X7_239 im_X7_needs se_X7_needs in_X7 co_X7_needs hy_X7_needs ⟨Nat.le_of_ble_eq_true rfl, Nat.le_of_ble_eq_true rfl⟩ lx_0 rfl rfl rfl (fun _ => Nat.le_of_ble_eq_true rfl) (fun r178 m178 hx178 hr178 => ?_)
                change tg_AW E _ _ _ _ _ (ti_ r178 :: _) _
                refine ta_i2l hE dX7_digest_181 ?_
                refine ta_ladd hE dX7_digest_182 ?_
                refine ta_nml (fun v1_183 => ?_)
                refine ta_lstoren (lv2 := [tr_ 0, tl_ v1_183, tj_, ti_ v3_94, ti_ v4_107, tj_]) hE dX7_digest_183 (Nat.le_of_ble_eq_true rfl) rfl rfl ?_
                refine ta_ldc2 (v := 31) hE dX7_digest_184 lc_X7_218 ⟨by decide, by decide⟩ ?_
                refine ta_lloadn hE dX7_digest_187 rfl ?_
                refine ta_lmul hE dX7_digest_188 ?_
                refine ta_aloadn hE dX7_digest_189 rfl ?_
                refine ta_iloadn hE dX7_digest_190 rfl ?_
                refine ta_iconst (v := 0) hE dX7_digest_191 rfl ⟨by decide, by decide⟩ ?_
                refine ta_iconst (v := 1) hE dX7_digest_192 rfl ⟨by decide, by decide⟩ ?_
                refine ta_callV (C := RX7) (T := TX7) (st := [tl_ (tg_wl (31 * v1_183))]) hE dX7_digest_193 (k_X7_soon v3_94 0 1 m178) ml_X7_242 im_X7_soon se_X7_soon in_X7 co_X7_soon hy_X7_soon ⟨Nat.le_of_ble_eq_true rfl, Nat.le_of_ble_eq_true rfl⟩ lx_0 rfl rfl rfl (fun _ => Nat.le_of_ble_eq_true rfl) (fun r193 m193 hx193 hr193 => ?_)
                change tg_AW E _ _ _ _ _ (ti_ r193 :: _) _
                refine ta_i2l hE dX7_digest_196 ?_
                refine ta_ladd hE dX7_digest_197 ?_
                refine ta_nml (fun v1_198 => ?_)
                refine ta_lstoren (lv2 := [tr_ 0, tl_ v1_198, tj_, ti_ v3_94, ti_ v4_107, tj_]) hE dX7_digest_198 (Nat.le_of_ble_eq_true rfl) rfl rfl ?_
                refine ta_ldc2 (v := 31) hE dX7_digest_199 lc_X7_218 ⟨by decide, by decide⟩ ?_
                refine ta_lloadn hE dX7_digest_202 rfl ?_
                refine ta_lmul hE dX7_digest_203 ?_
                refine ta_aloadn hE dX7_digest_204 rfl ?_
                refine ta_iloadn hE dX7_digest_205 rfl ?_
                refine ta_iconst (v := 2) hE dX7_digest_206 rfl ⟨by decide, by decide⟩ ?_
                refine ta_iconst (v := 2) hE dX7_digest_207 rfl ⟨by decide, by decide⟩ ?_
                refine ta_callV (C := RX7) (T := TX7) (st := [tl_ (tg_wl (31 * v1_198))]) hE dX7_digest_208 (k_X7_soon v3_94 2 2 m193) ml_X7_242 im_X7_soon se_X7_soon in_X7 co_X7_soon hy_X7_soon ⟨Nat.le_of_ble_eq_true rfl, Nat.le_of_ble_eq_true rfl⟩ lx_0 rfl rfl rfl (fun _ => Nat.le_of_ble_eq_true rfl) (fun r208 m208 hx208 hr208 => ?_)
                change tg_AW E _ _ _ _ _ (ti_ r208 :: _) _
                refine ta_i2l hE dX7_digest_211 ?_
                refine ta_ladd hE dX7_digest_212 ?_
                refine ta_nml (fun v1_213 => ?_)
                refine ta_lstoren (lv2 := [tr_ 0, tl_ v1_213, tj_, ti_ v3_94, ti_ v4_107, tj_]) hE dX7_digest_213 (Nat.le_of_ble_eq_true rfl) rfl rfl ?_
                refine ta_ldc2 (v := 31) hE dX7_digest_214 lc_X7_218 ⟨by decide, by decide⟩ ?_
                refine ta_lloadn hE dX7_digest_217 rfl ?_
                refine ta_lmul hE dX7_digest_218 ?_
                refine ta_aloadn hE dX7_digest_219 rfl ?_
                refine ta_iloadn hE dX7_digest_220 rfl ?_
                refine ta_callV (C := RX7) (T := TX7) (st := [tl_ (tg_wl (31 * v1_213))]) hE dX7_digest_221 (k_X7_loose v3_94 m208) ml_X7_245 im_X7_loose se_X7_loose in_X7 co_X7_loose hy_X7_loose ⟨Nat.le_of_ble_eq_true rfl, Nat.le_of_ble_eq_true rfl⟩ lx_0 rfl rfl rfl (fun _ => Nat.le_of_ble_eq_true rfl) (fun r221 m221 hx221 hr221 => ?_)
                change tg_AW E _ _ _ _ _ (ti_ r221 :: _) _
                refine ta_i2l hE dX7_digest_224 ?_
                refine ta_ladd hE dX7_digest_225 ?_
                refine ta_nml (fun v1_226 => ?_)
                refine ta_lstoren (lv2 := [tr_ 0, tl_ v1_226, tj_, ti_ v3_94, ti_ v4_107, tj_]) hE dX7_digest_226 (Nat.le_of_ble_eq_true rfl) rfl rfl ?_
                refine ta_ldc2 (v := 31) hE dX7_digest_227 lc_X7_218 ⟨by decide, by decide⟩ ?_
                refine ta_lloadn hE dX7_digest_230 rfl ?_
                refine ta_lmul hE dX7_digest_231 ?_
                refine ta_aloadn hE dX7_digest_232 rfl ?_
                refine ta_iloadn hE dX7_digest_233 rfl ?_
                refine ta_iconst (v := 0) hE dX7_digest_234 rfl ⟨by decide, by decide⟩ ?_
                refine ta_callV (C := RX7) (T := TX7) (st := [tl_ (tg_wl (31 * v1_226))]) hE dX7_digest_235 (k_X7_began v3_94 0 m221) ml_X7_248 im_X7_began se_X7_began in_X7 co_X7_began hy_X7_began ⟨Nat.le_of_ble_eq_true rfl, Nat.le_of_ble_eq_true rfl⟩ lx_0 rfl rfl rfl (fun _ => Nat.le_of_ble_eq_true rfl) (fun r235 m235 hx235 hr235 => ?_)
                change tg_AW E _ _ _ _ _ (ti_ r235 :: _) _
                refine ta_i2l hE dX7_digest_238 ?_
                refine ta_ladd hE dX7_digest_239 ?_
                refine ta_nml (fun v1_240 => ?_)
                refine ta_lstoren (lv2 := [tr_ 0, tl_ v1_240, tj_, ti_ v3_94, ti_ v4_107, tj_]) hE dX7_digest_240 (Nat.le_of_ble_eq_true rfl) rfl rfl ?_
                refine ta_ldc2 (v := 31) hE dX7_digest_241 lc_X7_218 ⟨by decide, by decide⟩ ?_
                refine ta_lloadn hE dX7_digest_244 rfl ?_
                refine ta_lmul hE dX7_digest_245 ?_
                refine ta_aloadn hE dX7_digest_246 rfl ?_
                refine ta_iloadn hE dX7_digest_247 rfl ?_
                refine ta_iconst (v := 1) hE dX7_digest_248 rfl ⟨by decide, by decide⟩ ?_
                refine ta_callV (C := RX7) (T := TX7) (st := [tl_ (tg_wl (31 * v1_240))]) hE dX7_digest_249 (k_X7_began v3_94 1 m235) ml_X7_248 im_X7_began se_X7_began in_X7 co_X7_began hy_X7_began ⟨Nat.le_of_ble_eq_true rfl, Nat.le_of_ble_eq_true rfl⟩ lx_0 rfl rfl rfl (fun _ => Nat.le_of_ble_eq_true rfl) (fun r249 m249 hx249 hr249 => ?_)
                change tg_AW E _ _ _ _ _ (ti_ r249 :: _) _
                refine ta_i2l hE dX7_digest_252 ?_
                refine ta_ladd hE dX7_digest_253 ?_
                refine ta_nml (fun v1_254 => ?_)
                refine ta_lstoren (lv2 := [tr_ 0, tl_ v1_254, tj_, ti_ v3_94, ti_ v4_107, tj_]) hE dX7_digest_254 (Nat.le_of_ble_eq_true rfl) rfl rfl ?_
                refine ta_ldc2 (v := 31) hE dX7_digest_255 lc_X7_218 ⟨by decide, by decide⟩ ?_
                refine ta_lloadn hE dX7_digest_258 rfl ?_
                refine ta_lmul hE dX7_digest_259 ?_
                refine ta_aloadn hE dX7_digest_260 rfl ?_
                refine ta_iloadn hE dX7_digest_261 rfl ?_
                refine ta_iconst (v := 3) hE dX7_digest_262 rfl ⟨by decide, by decide⟩ ?_
                refine ta_iconst (v := 0) hE dX7_digest_263 rfl ⟨by decide, by decide⟩ ?_
                refine ta_callV (C := RX7) (T := TX7) (st := [tl_ (tg_wl (31 * v1_254))]) hE dX7_digest_264 (k_X7_game v3_94 3 0 m249) ml_X7_251 im_X7_game se_X7_game in_X7 co_X7_game hy_X7_game ⟨Nat.le_of_ble_eq_true rfl, Nat.le_of_ble_eq_true rfl⟩ lx_0 rfl rfl rfl (fun _ => Nat.le_of_ble_eq_true rfl) (fun r264 m264 hx264 hr264 => ?_)
                change tg_AW E _ _ _ _ _ (ti_ r264 :: _) _
                refine ta_i2l hE dX7_digest_267 ?_
                refine ta_ladd hE dX7_digest_268 ?_
                refine ta_nml (fun v1_269 => ?_)
                refine ta_lstoren (lv2 := [tr_ 0, tl_ v1_269, tj_, ti_ v3_94, ti_ v4_107, tj_]) hE dX7_digest_269 (Nat.le_of_ble_eq_true rfl) rfl rfl ?_
                refine ta_ldc2 (v := 31) hE dX7_digest_270 lc_X7_218 ⟨by decide, by decide⟩ ?_
                refine ta_lloadn hE dX7_digest_273 rfl ?_
                refine ta_lmul hE dX7_digest_274 ?_
                refine ta_aloadn hE dX7_digest_275 rfl ?_
                refine ta_iloadn hE dX7_digest_276 rfl ?_
                refine ta_iconst (v := 3) hE dX7_digest_277 rfl ⟨by decide, by decide⟩ ?_
                refine ta_iconst (v := 1) hE dX7_digest_278 rfl ⟨by decide, by decide⟩ ?_
                refine ta_callV (C := RX7) (T := TX7) (st := [tl_ (tg_wl (31 * v1_269))]) hE dX7_digest_279 (k_X7_game v3_94 3 1 m264) ml_X7_251 im_X7_game se_X7_game in_X7 co_X7_game hy_X7_game ⟨Nat.le_of_ble_eq_true rfl, Nat.le_of_ble_eq_true rfl⟩ lx_0 rfl rfl rfl (fun _ => Nat.le_of_ble_eq_true rfl) (fun r279 m279 hx279 hr279 => ?_)
                change tg_AW E _ _ _ _ _ (ti_ r279 :: _) _
                refine ta_i2l hE dX7_digest_282 ?_
                refine ta_ladd hE dX7_digest_283 ?_
                refine ta_nml (fun v1_284 => ?_)
                refine ta_lstoren (lv2 := [tr_ 0, tl_ v1_284, tj_, ti_ v3_94, ti_ v4_107, tj_]) hE dX7_digest_284 (Nat.le_of_ble_eq_true rfl) rfl rfl ?_
                refine ta_iincn (lv2 := fun v3_285 => [tr_ 0, tl_ v1_284, tj_, ti_ v3_285, ti_ v4_107, tj_]) hE dX7_digest_285 rfl rfl rfl (fun v3_285 => ?_)
                refine ta_goto (tgt := 94) hE dX7_digest_288 (by decide) ?_
                exact (ta_wk (i := 4) (lv2 := [tr_ 0, tl_ v1_284, tj_, ti_ v3_285, tj_, tj_]) rfl (hself94 v1_284 v3_285 m279))
              · have hl125 := ta_fx (γ := Int → Int → tg_Mem → tg_R) (F := (f_X7_digest_B125 v3_94 v4_107 j155)) (z := (fun _ _ _ => none)) (fun J => ∀ (v1_125 : Int) (v5_125 : Int) (m_125 : tg_Mem), tg_AW E LX (some .long) (J v1_125 v5_125 m_125) 125 [tr_ 0, tl_ v1_125, tj_, ti_ v3_94, ti_ v4_107, ti_ v5_125] [] m_125) (by intros; exact ta_none) (fun self125 hself125 => by
                    intro v1_125 v5_125 m_125
                    unfold f_X7_digest_B125
                    refine ta_iload hE dX7_digest_125 rfl ?_
                    refine bp_8 hE dX7_digest_127 ?_
                    refine ta_icmp_ge (tgt := 155) hE dX7_digest_129 (by decide) (fun c129 => ?_) (fun c129 => ?_)
                    · exact (ta_wk (i := 5) (lv2 := [tr_ 0, tl_ v1_125, tj_, ti_ v3_94, ti_ v4_107, tj_]) rfl (hj155 v1_125 m_125))
                    · refine ta_ldc2 (v := 31) hE dX7_digest_132 lc_X7_218 ⟨by decide, by decide⟩ ?_
                      refine ta_lloadn hE dX7_digest_135 rfl ?_
                      refine ta_lmul hE dX7_digest_136 ?_
                      refine ta_aloadn hE dX7_digest_137 rfl ?_
                      refine ta_iloadn hE dX7_digest_138 rfl ?_
                      refine ta_iload hE dX7_digest_139 rfl ?_
                      refine ta_iload hE dX7_digest_141 rfl ?_
                      refine ta_callV (C := RX7) (T := TX7) (st := [tl_ (tg_wl (31 * v1_125))]) hE dX7_digest_143 (k_X7_state v3_94 v4_107 v5_125 m_125) ml_X7_232 im_X7_state se_X7_state in_X7 co_X7_state hy_X7_state ⟨Nat.le_of_ble_eq_true rfl, Nat.le_of_ble_eq_true rfl⟩ lx_0 rfl rfl rfl (fun _ => Nat.le_of_ble_eq_true rfl) (fun r143 m143 hx143 hr143 => ?_)
                      change tg_AW E _ _ _ _ _ (ti_ r143 :: _) _
                      refine ta_i2l hE dX7_digest_146 ?_
                      refine ta_ladd hE dX7_digest_147 ?_
                      refine ta_nml (fun v1_148 => ?_)
                      refine ta_lstoren (lv2 := [tr_ 0, tl_ v1_148, tj_, ti_ v3_94, ti_ v4_107, ti_ v5_125]) hE dX7_digest_148 (Nat.le_of_ble_eq_true rfl) rfl rfl ?_
                      refine ta_iincn (lv2 := fun v5_149 => [tr_ 0, tl_ v1_148, tj_, ti_ v3_94, ti_ v4_107, ti_ v5_149]) hE dX7_digest_149 rfl rfl rfl (fun v5_149 => ?_)
                      refine ta_goto (tgt := 125) hE dX7_digest_152 (by decide) ?_
                      exact (hself125 v1_148 v5_149 m143))
                exact (hl125 tg_FU v1_121 0 m116))
        exact (hl94 tg_FU v1_92 0 m_92)
    · have hl45 := ta_fx (γ := Int → Int → tg_Mem → tg_R) (F := (f_X7_digest_B45 j92)) (z := (fun _ _ _ => none)) (fun J => ∀ (v1_45 : Int) (v3_45 : Int) (m_45 : tg_Mem), tg_AW E LX (some .long) (J v1_45 v3_45 m_45) 45 [tr_ 0, tl_ v1_45, tj_, ti_ v3_45, tj_, tj_] [] m_45) (by intros; exact ta_none) (fun self45 hself45 => by
          intro v1_45 v3_45 m_45
          unfold f_X7_digest_B45
          refine ta_iloadn hE dX7_digest_45 rfl ?_
          refine ta_aloadn hE dX7_digest_46 rfl ?_
          refine gr_X7_12 hE dX7_digest_47 lx_0 rfl ?_
          refine gf_X7_83 hE dX7_digest_50 lx_1 rfl ?_
          refine ta_icmp_ge (tgt := 92) hE dX7_digest_53 (by decide) (fun c53 => ?_) (fun c53 => ?_)
          · exact (ta_wk (i := 3) (lv2 := [tr_ 0, tl_ v1_45, tj_, tj_, tj_, tj_]) rfl (hj92 v1_45 m_45))
          · refine ta_iconst (v := 0) hE dX7_digest_56 rfl ⟨by decide, by decide⟩ ?_
            refine ta_istore (lv2 := [tr_ 0, tl_ v1_45, tj_, ti_ v3_45, ti_ 0, tj_]) hE dX7_digest_57 (Nat.le_of_ble_eq_true rfl) rfl rfl ?_
            refine ta_join (γ := Int → tg_Mem → tg_R) (fun J => ∀ (v1_86 : Int) (m_86 : tg_Mem), tg_AW E LX (some .long) (J v1_86 m_86) 86 [tr_ 0, tl_ v1_86, tj_, ti_ v3_45, tj_, tj_] [] m_86) ?_ (fun j86 hj86 => ?_)
            · intro v1_86 m_86
              refine ta_iincn (lv2 := fun v3_86 => [tr_ 0, tl_ v1_86, tj_, ti_ v3_86, tj_, tj_]) hE dX7_digest_86 rfl rfl rfl (fun v3_86 => ?_)
              refine ta_goto (tgt := 45) hE dX7_digest_89 (by decide) ?_
              exact (hself45 v1_86 v3_86 m_86)
            · have hl59 := ta_fx (γ := Int → Int → tg_Mem → tg_R) (F := (f_X7_digest_B59 v3_45 j86)) (z := (fun _ _ _ => none)) (fun J => ∀ (v1_59 : Int) (v4_59 : Int) (m_59 : tg_Mem), tg_AW E LX (some .long) (J v1_59 v4_59 m_59) 59 [tr_ 0, tl_ v1_59, tj_, ti_ v3_45, ti_ v4_59, tj_] [] m_59) (by intros; exact ta_none) (fun self59 hself59 => by
                  intro v1_59 v4_59 m_59
                  unfold f_X7_digest_B59
                  refine ta_iload hE dX7_digest_59 rfl ?_
                  refine ta_iconst (v := 3) hE dX7_digest_61 rfl ⟨by decide, by decide⟩ ?_
                  refine ta_icmp_ge (tgt := 86) hE dX7_digest_62 (by decide) (fun c62 => ?_) (fun c62 => ?_)
                  · exact (ta_wk (i := 4) (lv2 := [tr_ 0, tl_ v1_59, tj_, ti_ v3_45, tj_, tj_]) rfl (hj86 v1_59 m_59))
                  · refine ta_ldc2 (v := 31) hE dX7_digest_65 lc_X7_218 ⟨by decide, by decide⟩ ?_
                    refine ta_lloadn hE dX7_digest_68 rfl ?_
                    refine ta_lmul hE dX7_digest_69 ?_
                    refine ta_aloadn hE dX7_digest_70 rfl ?_
                    refine ta_iloadn hE dX7_digest_71 rfl ?_
                    refine ta_iload hE dX7_digest_72 rfl ?_
                    refine ta_callV (C := RX7) (T := TX7) (st := [tl_ (tg_wl (31 * v1_59))]) hE dX7_digest_74 (k_X7_path v3_45 v4_59 m_59) ml_X7_226 im_X7_path se_X7_path in_X7 co_X7_path hy_X7_path ⟨Nat.le_of_ble_eq_true rfl, Nat.le_of_ble_eq_true rfl⟩ lx_0 rfl rfl rfl (fun _ => Nat.le_of_ble_eq_true rfl) (fun r74 m74 hx74 hr74 => ?_)
                    change tg_AW E _ _ _ _ _ (ti_ r74 :: _) _
                    refine ta_i2l hE dX7_digest_77 ?_
                    refine ta_ladd hE dX7_digest_78 ?_
                    refine ta_nml (fun v1_79 => ?_)
                    refine ta_lstoren (lv2 := [tr_ 0, tl_ v1_79, tj_, ti_ v3_45, ti_ v4_59, tj_]) hE dX7_digest_79 (Nat.le_of_ble_eq_true rfl) rfl rfl ?_
                    refine ta_iincn (lv2 := fun v4_80 => [tr_ 0, tl_ v1_79, tj_, ti_ v3_45, ti_ v4_80, tj_]) hE dX7_digest_80 rfl rfl rfl (fun v4_80 => ?_)
                    refine ta_goto (tgt := 59) hE dX7_digest_83 (by decide) ?_
                    exact (hself59 v1_79 v4_80 m74))
              exact (hl59 tg_FU v1_45 0 m_45))
      exact (hl45 tg_FU v1_42 0 m37)
  · have hl6 := ta_fx (γ := Int → Int → tg_Mem → tg_R) (F := (f_X7_digest_B6 j31)) (z := (fun _ _ _ => none)) (fun J => ∀ (v1_6 : Int) (v3_6 : Int) (m_6 : tg_Mem), tg_AW E LX (some .long) (J v1_6 v3_6 m_6) 6 [tr_ 0, tl_ v1_6, tj_, ti_ v3_6, tj_, tj_] [] m_6) (by intros; exact ta_none) (fun self6 hself6 => by
        intro v1_6 v3_6 m_6
        unfold f_X7_digest_B6
        refine ta_iloadn hE dX7_digest_6 rfl ?_
        refine bp_8 hE dX7_digest_7 ?_
        refine ta_icmp_ge (tgt := 31) hE dX7_digest_9 (by decide) (fun c9 => ?_) (fun c9 => ?_)
        · exact (ta_wk (i := 3) (lv2 := [tr_ 0, tl_ v1_6, tj_, tj_, tj_, tj_]) rfl (hj31 v1_6 m_6))
        · refine ta_ldc2 (v := 31) hE dX7_digest_12 lc_X7_218 ⟨by decide, by decide⟩ ?_
          refine ta_lloadn hE dX7_digest_15 rfl ?_
          refine ta_lmul hE dX7_digest_16 ?_
          refine ta_aloadn hE dX7_digest_17 rfl ?_
          refine ta_iloadn hE dX7_digest_18 rfl ?_
          refine ta_callV (C := RX7) (T := TX7) (st := [tl_ (tg_wl (31 * v1_6))]) hE dX7_digest_19 (k_X7_count v3_6 m_6) ml_X7_220 im_X7_count se_X7_count in_X7 co_X7_count hy_X7_count ⟨Nat.le_of_ble_eq_true rfl, Nat.le_of_ble_eq_true rfl⟩ lx_0 rfl rfl rfl (fun _ => Nat.le_of_ble_eq_true rfl) (fun r19 m19 hx19 hr19 => ?_)
          change tg_AW E _ _ _ _ _ (ti_ r19 :: _) _
          refine ta_i2l hE dX7_digest_22 ?_
          refine ta_ladd hE dX7_digest_23 ?_
          refine ta_nml (fun v1_24 => ?_)
          refine ta_lstoren (lv2 := [tr_ 0, tl_ v1_24, tj_, ti_ v3_6, tj_, tj_]) hE dX7_digest_24 (Nat.le_of_ble_eq_true rfl) rfl rfl ?_
          refine ta_iincn (lv2 := fun v3_25 => [tr_ 0, tl_ v1_24, tj_, ti_ v3_25, tj_, tj_]) hE dX7_digest_25 rfl rfl rfl (fun v3_25 => ?_)
          refine ta_goto (tgt := 6) hE dX7_digest_28 (by decide) ?_
          exact (hself6 v1_24 v3_25 m19))
    exact (hl6 tg_FU 17 0 m)
noncomputable def f_X8_in (a0 : Int) (a1 : Int) (a2 : Int) (m : tg_Mem) : tg_R :=
  tg_jn (γ := tg_R) (some (0, m)) (fun j17 =>
    if a0 < a1 then
      j17
    else
      if a2 < a0 then
        j17
      else
        some (1, m))
theorem hy_X8_in : yX8_in.cls = RX8 ∧ yX8_in.cls ≠ "java/lang/invoke/MethodHandle" ∧ yX8_in.cls ≠ "java/lang/invoke/VarHandle" ∧ (parseMethodDescriptor yX8_in.desc).map (fun q => q.parameters.length) = some 3 := by decide +kernel
set_option maxRecDepth 100000 in
set_option maxHeartbeats 4000000 in
theorem k_X8_in   (a0 : Int) (a1 : Int) (a2 : Int) (m : tg_Mem) : tg_C yX8_in cX8_in 6 (some .boolean) 1 LM [tl_ a0, tl_ a1, tl_ a2] (f_X8_in a0 a1 a2 m) m := by
  refine ta_enter2 (own := RX8) (by decide +kernel) rfl rfl (Nat.le_of_ble_eq_true rfl) rfl (fun E hE => ?_)
  unfold f_X8_in
  refine ta_lloadn hE dX8_in_0 rfl ?_
  refine ta_lloadn hE dX8_in_1 rfl ?_
  refine ta_join (γ := tg_R) (fun J => tg_AW E LM (some .boolean) J 17 [tj_, tj_, tj_, tj_, tj_, tj_] [] m) ?_ (fun j17 hj17 => ?_)
  · refine ta_iconst (v := 0) hE dX8_in_17 rfl ⟨by decide, by decide⟩ ?_
    exact ta_zret hE dX8_in_18 (Or.inl rfl)
  · refine ta_lcmp_lt (tgt := 17) hE dX8_in_2 dX8_in_3 (by decide) (fun c2 => ?_) (fun c2 => ?_)
    · exact (ta_wk (i := 0) (lv2 := [tj_, tj_, tl_ a1, tj_, tl_ a2, tj_]) rfl (ta_wk (i := 2) (lv2 := [tj_, tj_, tj_, tj_, tl_ a2, tj_]) rfl (ta_wk (i := 4) (lv2 := [tj_, tj_, tj_, tj_, tj_, tj_]) rfl hj17)))
    · refine ta_lloadn hE dX8_in_6 rfl ?_
      refine ta_lload hE dX8_in_7 rfl ?_
      refine ta_lcmp_gt (tgt := 17) hE dX8_in_9 dX8_in_10 (by decide) (fun c9 => ?_) (fun c9 => ?_)
      · exact (ta_wk (i := 0) (lv2 := [tj_, tj_, tl_ a1, tj_, tl_ a2, tj_]) rfl (ta_wk (i := 2) (lv2 := [tj_, tj_, tj_, tj_, tl_ a2, tj_]) rfl (ta_wk (i := 4) (lv2 := [tj_, tj_, tj_, tj_, tj_, tj_]) rfl hj17)))
      · refine ta_iconst (v := 1) hE dX8_in_13 rfl ⟨by decide, by decide⟩ ?_
        refine ta_goto (tgt := 18) hE dX8_in_14 (by decide) ?_
        exact ta_zret hE dX8_in_18 (Or.inr rfl)
noncomputable def f_X8_isSheet (a0 : Int) (m : tg_Mem) : tg_R :=
  tg_bd (f_X8_in a0 0 3 m) (fun r6 m6 =>
    some (r6, m6))
theorem hy_X8_isSheet : yX8_isSheet.cls = RX8 ∧ yX8_isSheet.cls ≠ "java/lang/invoke/MethodHandle" ∧ yX8_isSheet.cls ≠ "java/lang/invoke/VarHandle" ∧ (parseMethodDescriptor yX8_isSheet.desc).map (fun q => q.parameters.length) = some 1 := by decide +kernel
set_option maxRecDepth 100000 in
set_option maxHeartbeats 4000000 in
theorem k_X8_isSheet   (a0 : Int) (m : tg_Mem) : tg_C yX8_isSheet cX8_isSheet 1 (some .boolean) 2 LM [ti_ a0] (f_X8_isSheet a0 m) m := by
  refine ta_enter2 (own := RX8) (by decide +kernel) rfl rfl (Nat.le_of_ble_eq_true rfl) rfl (fun E hE => ?_)
  unfold f_X8_isSheet
  refine ta_iloadn hE dX8_isSheet_0 rfl ?_
  refine ta_i2l hE dX8_isSheet_1 ?_
  refine ta_lconst (v := 0) hE dX8_isSheet_2 rfl ⟨by decide, by decide⟩ ?_
  refine ta_ldc2 (v := 3) hE dX8_isSheet_3 lc_X8_85 ⟨by decide, by decide⟩ ?_
  refine ta_callS (st := []) hE dX8_isSheet_6 (k_X8_in a0 0 3 m) ml_X8_77 st_X8_in in_X8 co_X8_in hy_X8_in.2 ⟨Nat.le_of_ble_eq_true rfl, Nat.le_of_ble_eq_true rfl⟩ rfl rfl (fun _ => Nat.le_of_ble_eq_true rfl) (fun r6 m6 hx6 hr6 => ?_)
  change tg_AW E _ _ _ _ _ (ti_ r6 :: _) _
  exact ta_zret hE dX8_isSheet_9 hr6
noncomputable def f_X8_met (a0 : Int) (m : tg_Mem) : tg_R :=
  tg_lt (tg_up m 0 4 a0) (fun m2 =>
    some (tg_wi ((-10) - a0), m2))
theorem hy_X8_met : yX8_met.cls = RX8 ∧ yX8_met.cls ≠ "java/lang/invoke/MethodHandle" ∧ yX8_met.cls ≠ "java/lang/invoke/VarHandle" ∧ (parseMethodDescriptor yX8_met.desc).map (fun q => q.parameters.length) = some 1 := by decide +kernel
set_option maxRecDepth 100000 in
set_option maxHeartbeats 4000000 in
theorem k_X8_met   (a0 : Int) (m : tg_Mem) : tg_C yX8_met cX8_met 2 (some .int) 1 LM [tr_ 0, ti_ a0] (f_X8_met a0 m) m := by
  refine ta_enter2 (own := RX8) (by decide +kernel) rfl rfl (Nat.le_of_ble_eq_true rfl) rfl (fun E hE => ?_)
  unfold f_X8_met
  refine ta_aloadn hE dX8_met_0 rfl ?_
  refine ta_iloadn hE dX8_met_1 rfl ?_
  refine pf_X8_81 hE dX8_met_2 lm_0 rfl ?_
  refine ta_nmm (fun m2 => ?_)
  refine bp_n10 hE dX8_met_5 ?_
  refine ta_iloadn hE dX8_met_7 rfl ?_
  refine ta_isub hE dX8_met_8 ?_
  exact ta_iret hE dX8_met_9
noncomputable def f_X8_sheet_B55 (a0 : Int) (a2 : Int) (self55 : Int → tg_Mem → tg_R) (v4_55 : Int) (m_55 : tg_Mem) : tg_R :=
  if a2 ≤ v4_55 then
    some (a2, m_55)
  else
    tg_ck (0 ≤ tg_wi ((tg_wi (60 * a0)) + v4_55) ∧ tg_wi ((tg_wi (60 * a0)) + v4_55) < 240) (
      tg_lt (tg_up m_55 3 (tg_wi ((tg_wi (60 * a0)) + v4_55)).toNat 0) (fun m73 =>
        tg_lt (tg_wi (v4_55 + 1)) (fun v4_74 =>
          self55 v4_74 m73)))
noncomputable def f_X8_sheet (a0 : Int) (a1 : Int) (a2 : Int) (m : tg_Mem) : tg_R :=
  tg_bd (f_X8_isSheet a0 m) (fun r1 m1 =>
    if r1 = 0 then
      some ((-2), m1)
    else
      tg_bd (f_X8_in a1 0 2 m1) (fun r13 m13 =>
        if r13 = 0 then
          some ((-2), m13)
        else
          if a2 ≤ 60 then
            if 0 ≤ a2 then
              tg_ck (0 ≤ a0 ∧ a0 < 4) (
                tg_lt (tg_up m13 1 (a0).toNat a1) (fun m44 =>
                  tg_ck (0 ≤ a0 ∧ a0 < 4) (
                    tg_lt (tg_up m44 2 (a0).toNat a2) (fun m51 =>
                      tg_fx (γ := Int → tg_Mem → tg_R) (f_X8_sheet_B55 a0 a2) (fun _ _ => none) tg_FU 0 m51))))
            else
              tg_bd (f_X8_met 5 m13) (fun r34 m34 =>
                some (r34, m34))
          else
            some ((-2), m13)))
theorem hy_X8_sheet : yX8_sheet.cls = RX8 ∧ yX8_sheet.cls ≠ "java/lang/invoke/MethodHandle" ∧ yX8_sheet.cls ≠ "java/lang/invoke/VarHandle" ∧ (parseMethodDescriptor yX8_sheet.desc).map (fun q => q.parameters.length) = some 3 := by decide +kernel
set_option maxRecDepth 100000 in
set_option maxHeartbeats 4000000 in
theorem k_X8_sheet   (a0 : Int) (a1 : Int) (a2 : Int) (m : tg_Mem) : tg_C yX8_sheet cX8_sheet 5 (some .int) 3 LM [tr_ 0, ti_ a0, ti_ a1, ti_ a2] (f_X8_sheet a0 a1 a2 m) m := by
  refine ta_enter2 (own := RX8) (by decide +kernel) rfl rfl (Nat.le_of_ble_eq_true rfl) rfl (fun E hE => ?_)
  unfold f_X8_sheet
  refine ta_iloadn hE dX8_sheet_0 rfl ?_
  refine ta_callS (st := []) hE dX8_sheet_1 (k_X8_isSheet a0 m) ml_X8_87 st_X8_isSheet in_X8 co_X8_isSheet hy_X8_isSheet.2 ⟨Nat.le_of_ble_eq_true rfl, Nat.le_of_ble_eq_true rfl⟩ rfl rfl (fun _ => Nat.le_of_ble_eq_true rfl) (fun r1 m1 hx1 hr1 => ?_)
  change tg_AW E _ _ _ _ _ (ti_ r1 :: _) _
  refine ta_if_eq (tgt := 25) hE dX8_sheet_4 (by decide) (fun c4 => ?_) (fun c4 => ?_)
  · refine bp_n2 hE dX8_sheet_25 ?_
    exact ta_iret hE dX8_sheet_27
  · refine ta_iloadn hE dX8_sheet_7 rfl ?_
    refine ta_i2l hE dX8_sheet_8 ?_
    refine ta_lconst (v := 0) hE dX8_sheet_9 rfl ⟨by decide, by decide⟩ ?_
    refine ta_ldc2 (v := 2) hE dX8_sheet_10 lc_X8_91 ⟨by decide, by decide⟩ ?_
    refine ta_callS (st := []) hE dX8_sheet_13 (k_X8_in a1 0 2 m1) ml_X8_77 st_X8_in in_X8 co_X8_in hy_X8_in.2 ⟨Nat.le_of_ble_eq_true rfl, Nat.le_of_ble_eq_true rfl⟩ rfl rfl (fun _ => Nat.le_of_ble_eq_true rfl) (fun r13 m13 hx13 hr13 => ?_)
    change tg_AW E _ _ _ _ _ (ti_ r13 :: _) _
    refine ta_if_eq (tgt := 25) hE dX8_sheet_16 (by decide) (fun c16 => ?_) (fun c16 => ?_)
    · refine bp_n2 hE dX8_sheet_25 ?_
      exact ta_iret hE dX8_sheet_27
    · refine ta_iloadn hE dX8_sheet_19 rfl ?_
      refine bp_60 hE dX8_sheet_20 ?_
      refine ta_icmp_le (tgt := 28) hE dX8_sheet_22 (by decide) (fun c22 => ?_) (fun c22 => ?_)
      · refine ta_iloadn hE dX8_sheet_28 rfl ?_
        refine ta_if_ge (tgt := 38) hE dX8_sheet_29 (by decide) (fun c29 => ?_) (fun c29 => ?_)
        · refine ta_aloadn hE dX8_sheet_38 rfl ?_
          refine gr_X8_7 hE dX8_sheet_39 lm_0 rfl ?_
          refine ta_iloadn hE dX8_sheet_42 rfl ?_
          refine ta_iloadn hE dX8_sheet_43 rfl ?_
          refine ta_iast (n' := 4) hE dX8_sheet_44 lm_1 rfl (fun _ _ => ?_)
          refine ta_nmm (fun m44 => ?_)
          refine ta_aloadn hE dX8_sheet_45 rfl ?_
          refine gr_X8_13 hE dX8_sheet_46 lm_0 rfl ?_
          refine ta_iloadn hE dX8_sheet_49 rfl ?_
          refine ta_iloadn hE dX8_sheet_50 rfl ?_
          refine ta_iast (n' := 4) hE dX8_sheet_51 lm_2 rfl (fun _ _ => ?_)
          refine ta_nmm (fun m51 => ?_)
          refine ta_iconst (v := 0) hE dX8_sheet_52 rfl ⟨by decide, by decide⟩ ?_
          refine ta_istore (lv2 := [tr_ 0, ti_ a0, ti_ a1, ti_ a2, ti_ 0]) hE dX8_sheet_53 (Nat.le_of_ble_eq_true rfl) rfl rfl ?_
          have hl55 := ta_fx (γ := Int → tg_Mem → tg_R) (F := (f_X8_sheet_B55 a0 a2)) (z := (fun _ _ => none)) (fun J => ∀ (v4_55 : Int) (m_55 : tg_Mem), tg_AW E LM (some .int) (J v4_55 m_55) 55 [tr_ 0, ti_ a0, tj_, ti_ a2, ti_ v4_55] [] m_55) (by intros; exact ta_none) (fun self55 hself55 => by
              intro v4_55 m_55
              unfold f_X8_sheet_B55
              refine ta_iload hE dX8_sheet_55 rfl ?_
              refine ta_iloadn hE dX8_sheet_57 rfl ?_
              refine ta_icmp_ge (tgt := 80) hE dX8_sheet_58 (by decide) (fun c58 => ?_) (fun c58 => ?_)
              · refine ta_iloadn hE dX8_sheet_80 rfl ?_
                exact ta_iret hE dX8_sheet_81
              · refine ta_aloadn hE dX8_sheet_61 rfl ?_
                refine gr_X8_16 hE dX8_sheet_62 lm_0 rfl ?_
                refine bp_60 hE dX8_sheet_65 ?_
                refine ta_iloadn hE dX8_sheet_67 rfl ?_
                refine ta_imul hE dX8_sheet_68 ?_
                refine ta_iload hE dX8_sheet_69 rfl ?_
                refine ta_iadd hE dX8_sheet_71 ?_
                refine ta_iconst (v := 0) hE dX8_sheet_72 rfl ⟨by decide, by decide⟩ ?_
                refine ta_iast (n' := 240) hE dX8_sheet_73 lm_3 rfl (fun _ _ => ?_)
                refine ta_nmm (fun m73 => ?_)
                refine ta_iincn (lv2 := fun v4_74 => [tr_ 0, ti_ a0, tj_, ti_ a2, ti_ v4_74]) hE dX8_sheet_74 rfl rfl rfl (fun v4_74 => ?_)
                refine ta_goto (tgt := 55) hE dX8_sheet_77 (by decide) ?_
                exact (hself55 v4_74 m73))
          exact (ta_wk (i := 2) (lv2 := [tr_ 0, ti_ a0, tj_, ti_ a2, ti_ 0]) rfl (hl55 tg_FU 0 m51))
        · refine ta_aloadn hE dX8_sheet_32 rfl ?_
          refine ta_iconst (v := 5) hE dX8_sheet_33 rfl ⟨by decide, by decide⟩ ?_
          refine ta_callV (C := RX8) (T := TX8) (st := []) hE dX8_sheet_34 (k_X8_met 5 m13) ml_X8_93 im_X8_met se_X8_met in_X8 co_X8_met hy_X8_met ⟨Nat.le_of_ble_eq_true rfl, Nat.le_of_ble_eq_true rfl⟩ lm_0 rfl rfl rfl (fun _ => Nat.le_of_ble_eq_true rfl) (fun r34 m34 hx34 hr34 => ?_)
          change tg_AW E _ _ _ _ _ (ti_ r34 :: _) _
          exact ta_iret hE dX8_sheet_37
      · refine bp_n2 hE dX8_sheet_25 ?_
        exact ta_iret hE dX8_sheet_27
