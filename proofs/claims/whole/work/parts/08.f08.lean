noncomputable def f_X8_pulled (a0 : Int) (a1 : Int) (a2 : Int) (a3 : Int) (m : tg_Mem) : tg_R :=
  tg_bd (f_X8_isPath a1 m) (fun r2 m2 =>
    tg_jn (γ := Int → tg_Mem → tg_R) (fun (s0_26 : Int) (m_26 : tg_Mem) => tg_jn (γ := tg_Mem → tg_R) (fun (m_60 : tg_Mem) => some ((-2), m_60)) (fun j60 =>
      if s0_26 = 0 then
        j60 m_26
      else
        tg_bd (f_X8_isTwo a0 m_26) (fun r34 m34 =>
          if r34 = 0 then
            j60 m34
          else
            tg_bd (f_X8_isTwo a3 m34) (fun r42 m42 =>
              if r42 = 0 then
                j60 m42
              else
                tg_bd (f_X8_pulledOf a0 a1 a2 a3 m42) (fun r54 m54 =>
                  some (r54, m54)))))) (fun j26 =>
      tg_jn (γ := tg_Mem → tg_R) (fun (m_25 : tg_Mem) => j26 0 m_25) (fun j25 =>
        if r2 = 0 then
          j25 m2
        else
          tg_bd (f_X8_isPath a2 m2) (fun r10 m10 =>
            if r10 = 0 then
              j25 m10
            else
              if a1 = a2 then
                j25 m10
              else
                j26 1 m10))))
theorem hy_X8_pulled : yX8_pulled.cls = RX8 ∧ yX8_pulled.cls ≠ "java/lang/invoke/MethodHandle" ∧ yX8_pulled.cls ≠ "java/lang/invoke/VarHandle" ∧ (parseMethodDescriptor yX8_pulled.desc).map (fun q => q.parameters.length) = some 4 := by decide +kernel
set_option maxRecDepth 100000 in
set_option maxHeartbeats 4000000 in
theorem k_X8_pulled   (a0 : Int) (a1 : Int) (a2 : Int) (a3 : Int) (m : tg_Mem) : tg_C yX8_pulled cX8_pulled 6 (some .int) 7 LM [tr_ 0, ti_ a0, ti_ a1, ti_ a2, ti_ a3] (f_X8_pulled a0 a1 a2 a3 m) m := by
  refine ta_enter2 (own := RX8) (by decide +kernel) rfl rfl (Nat.le_of_ble_eq_true rfl) rfl (fun E hE => ?_)
  unfold f_X8_pulled
  refine ta_aloadn hE dX8_pulled_0 rfl ?_
  refine ta_iloadn hE dX8_pulled_1 rfl ?_
  refine ta_callV (C := RX8) (T := TX8) (st := []) hE dX8_pulled_2 (k_X8_isPath a1 m) ml_X8_132 im_X8_isPath se_X8_isPath in_X8 co_X8_isPath hy_X8_isPath ⟨Nat.le_of_ble_eq_true rfl, Nat.le_of_ble_eq_true rfl⟩ lm_0 rfl rfl rfl (fun _ => Nat.le_of_ble_eq_true rfl) (fun r2 m2 hx2 hr2 => ?_)
  change tg_AW E _ _ _ _ _ (ti_ r2 :: _) _
  refine ta_join (γ := Int → tg_Mem → tg_R) (fun J => ∀ (s0_26 : Int) (m_26 : tg_Mem), tg_AW E LM (some .int) (J s0_26 m_26) 26 [tr_ 0, ti_ a0, ti_ a1, ti_ a2, ti_ a3, tj_] [ti_ s0_26] m_26) ?_ (fun j26 hj26 => ?_)
  · intro s0_26 m_26
    refine ta_istore (lv2 := [tr_ 0, ti_ a0, ti_ a1, ti_ a2, ti_ a3, ti_ s0_26]) hE dX8_pulled_26 (Nat.le_of_ble_eq_true rfl) rfl rfl ?_
    refine ta_iload hE dX8_pulled_28 rfl ?_
    refine ta_join (γ := tg_Mem → tg_R) (fun J => ∀ (m_60 : tg_Mem), tg_AW E LM (some .int) (J m_60) 60 [tj_, tj_, tj_, tj_, tj_, tj_] [] m_60) ?_ (fun j60 hj60 => ?_)
    · intro m_60
      refine bp_n2 hE dX8_pulled_60 ?_
      exact ta_iret hE dX8_pulled_62
    · refine ta_if_eq (tgt := 60) hE dX8_pulled_30 (by decide) (fun c30 => ?_) (fun c30 => ?_)
      · exact (ta_wk (i := 0) (lv2 := [tj_, ti_ a0, ti_ a1, ti_ a2, ti_ a3, ti_ s0_26]) rfl (ta_wk (i := 1) (lv2 := [tj_, tj_, ti_ a1, ti_ a2, ti_ a3, ti_ s0_26]) rfl (ta_wk (i := 2) (lv2 := [tj_, tj_, tj_, ti_ a2, ti_ a3, ti_ s0_26]) rfl (ta_wk (i := 3) (lv2 := [tj_, tj_, tj_, tj_, ti_ a3, ti_ s0_26]) rfl (ta_wk (i := 4) (lv2 := [tj_, tj_, tj_, tj_, tj_, ti_ s0_26]) rfl (ta_wk (i := 5) (lv2 := [tj_, tj_, tj_, tj_, tj_, tj_]) rfl (hj60 m_26)))))))
      · refine ta_iloadn hE dX8_pulled_33 rfl ?_
        refine ta_callS (st := []) hE dX8_pulled_34 (k_X8_isTwo a0 m_26) ml_X8_135 st_X8_isTwo in_X8 co_X8_isTwo hy_X8_isTwo.2 ⟨Nat.le_of_ble_eq_true rfl, Nat.le_of_ble_eq_true rfl⟩ rfl rfl (fun _ => Nat.le_of_ble_eq_true rfl) (fun r34 m34 hx34 hr34 => ?_)
        change tg_AW E _ _ _ _ _ (ti_ r34 :: _) _
        refine ta_if_eq (tgt := 60) hE dX8_pulled_37 (by decide) (fun c37 => ?_) (fun c37 => ?_)
        · exact (ta_wk (i := 0) (lv2 := [tj_, ti_ a0, ti_ a1, ti_ a2, ti_ a3, ti_ s0_26]) rfl (ta_wk (i := 1) (lv2 := [tj_, tj_, ti_ a1, ti_ a2, ti_ a3, ti_ s0_26]) rfl (ta_wk (i := 2) (lv2 := [tj_, tj_, tj_, ti_ a2, ti_ a3, ti_ s0_26]) rfl (ta_wk (i := 3) (lv2 := [tj_, tj_, tj_, tj_, ti_ a3, ti_ s0_26]) rfl (ta_wk (i := 4) (lv2 := [tj_, tj_, tj_, tj_, tj_, ti_ s0_26]) rfl (ta_wk (i := 5) (lv2 := [tj_, tj_, tj_, tj_, tj_, tj_]) rfl (hj60 m34)))))))
        · refine ta_iload hE dX8_pulled_40 rfl ?_
          refine ta_callS (st := []) hE dX8_pulled_42 (k_X8_isTwo a3 m34) ml_X8_135 st_X8_isTwo in_X8 co_X8_isTwo hy_X8_isTwo.2 ⟨Nat.le_of_ble_eq_true rfl, Nat.le_of_ble_eq_true rfl⟩ rfl rfl (fun _ => Nat.le_of_ble_eq_true rfl) (fun r42 m42 hx42 hr42 => ?_)
          change tg_AW E _ _ _ _ _ (ti_ r42 :: _) _
          refine ta_if_eq (tgt := 60) hE dX8_pulled_45 (by decide) (fun c45 => ?_) (fun c45 => ?_)
          · exact (ta_wk (i := 0) (lv2 := [tj_, ti_ a0, ti_ a1, ti_ a2, ti_ a3, ti_ s0_26]) rfl (ta_wk (i := 1) (lv2 := [tj_, tj_, ti_ a1, ti_ a2, ti_ a3, ti_ s0_26]) rfl (ta_wk (i := 2) (lv2 := [tj_, tj_, tj_, ti_ a2, ti_ a3, ti_ s0_26]) rfl (ta_wk (i := 3) (lv2 := [tj_, tj_, tj_, tj_, ti_ a3, ti_ s0_26]) rfl (ta_wk (i := 4) (lv2 := [tj_, tj_, tj_, tj_, tj_, ti_ s0_26]) rfl (ta_wk (i := 5) (lv2 := [tj_, tj_, tj_, tj_, tj_, tj_]) rfl (hj60 m42)))))))
          · refine ta_aloadn hE dX8_pulled_48 rfl ?_
            refine ta_iloadn hE dX8_pulled_49 rfl ?_
            refine ta_iloadn hE dX8_pulled_50 rfl ?_
            refine ta_iloadn hE dX8_pulled_51 rfl ?_
            refine ta_iload hE dX8_pulled_52 rfl ?_
            refine ta_callV (C := RX8) (T := TX8) (st := []) hE dX8_pulled_54 (k_X8_pulledOf a0 a1 a2 a3 m42) ml_X8_240 im_X8_pulledOf se_X8_pulledOf in_X8 co_X8_pulledOf hy_X8_pulledOf ⟨Nat.le_of_ble_eq_true rfl, Nat.le_of_ble_eq_true rfl⟩ lm_0 rfl rfl rfl (fun _ => Nat.le_of_ble_eq_true rfl) (fun r54 m54 hx54 hr54 => ?_)
            change tg_AW E _ _ _ _ _ (ti_ r54 :: _) _
            refine ta_goto (tgt := 62) hE dX8_pulled_57 (by decide) ?_
            exact ta_iret hE dX8_pulled_62
  · refine ta_join (γ := tg_Mem → tg_R) (fun J => ∀ (m_25 : tg_Mem), tg_AW E LM (some .int) (J m_25) 25 [tr_ 0, ti_ a0, ti_ a1, ti_ a2, ti_ a3, tj_] [] m_25) ?_ (fun j25 hj25 => ?_)
    · intro m_25
      refine ta_iconst (v := 0) hE dX8_pulled_25 rfl ⟨by decide, by decide⟩ ?_
      exact (hj26 0 m_25)
    · refine ta_if_eq (tgt := 25) hE dX8_pulled_5 (by decide) (fun c5 => ?_) (fun c5 => ?_)
      · exact (hj25 m2)
      · refine ta_aloadn hE dX8_pulled_8 rfl ?_
        refine ta_iloadn hE dX8_pulled_9 rfl ?_
        refine ta_callV (C := RX8) (T := TX8) (st := []) hE dX8_pulled_10 (k_X8_isPath a2 m2) ml_X8_132 im_X8_isPath se_X8_isPath in_X8 co_X8_isPath hy_X8_isPath ⟨Nat.le_of_ble_eq_true rfl, Nat.le_of_ble_eq_true rfl⟩ lm_0 rfl rfl rfl (fun _ => Nat.le_of_ble_eq_true rfl) (fun r10 m10 hx10 hr10 => ?_)
        change tg_AW E _ _ _ _ _ (ti_ r10 :: _) _
        refine ta_if_eq (tgt := 25) hE dX8_pulled_13 (by decide) (fun c13 => ?_) (fun c13 => ?_)
        · exact (hj25 m10)
        · refine ta_iloadn hE dX8_pulled_16 rfl ?_
          refine ta_iloadn hE dX8_pulled_17 rfl ?_
          refine ta_icmp_eq (tgt := 25) hE dX8_pulled_18 (by decide) (fun c18 => ?_) (fun c18 => ?_)
          · exact (hj25 m10)
          · refine ta_iconst (v := 1) hE dX8_pulled_21 rfl ⟨by decide, by decide⟩ ?_
            refine ta_goto (tgt := 26) hE dX8_pulled_22 (by decide) ?_
            exact (hj26 1 m10)
noncomputable def f_X8_beganOf_B201 (j253 : Int → tg_Mem → tg_R) (self201 : Int → Int → Int → tg_Mem → tg_R) (v3_201 : Int) (v4_201 : Int) (v5_201 : Int) (m_201 : tg_Mem) : tg_R :=
  if m_201 0 15 ≤ v5_201 then
    j253 v4_201 m_201
  else
    tg_ck (0 ≤ v5_201 ∧ v5_201 < 64) (
      tg_bd (f_X8_otherEnd (m_201 12 (v5_201).toNat) v3_201 m_201) (fun r219 m219 =>
        tg_ck (0 ≤ r219 ∧ r219 < 8) (
          tg_jn (γ := Int → tg_R) (fun (s0_245 : Int) => tg_lt (tg_wi (v5_201 + 1)) (fun v5_247 =>
            self201 r219 s0_245 v5_247 m219)) (fun j245 =>
            if v4_201 ≤ m219 17 (r219).toNat then
              j245 v4_201
            else
              tg_ck (0 ≤ r219 ∧ r219 < 8) (
                j245 (m219 17 (r219).toNat))))))
noncomputable def f_X8_beganOf_B42 (j171 : tg_Mem → tg_R) (self42 : Int → tg_Mem → tg_R) (v4_42 : Int) (m_42 : tg_Mem) : tg_R :=
  if m_42 0 8 ≤ v4_42 then
    j171 m_42
  else
    tg_ck (0 ≤ tg_wi (3 * v4_42) ∧ tg_wi (3 * v4_42) < 24) (
      tg_lt (m_42 7 (tg_wi (3 * v4_42)).toNat) (fun v5_60 =>
        tg_ck (0 ≤ tg_wi ((tg_wi (3 * v4_42)) + 1) ∧ tg_wi ((tg_wi (3 * v4_42)) + 1) < 24) (
          tg_lt (m_42 7 (tg_wi ((tg_wi (3 * v4_42)) + 1)).toNat) (fun v6_73 =>
            tg_ck (0 ≤ v6_73 ∧ v6_73 < 8) (
              tg_ck (0 ≤ v5_60 ∧ v5_60 < 8) (
                tg_jn (γ := Int → tg_R) (fun (s0_119 : Int) => tg_ck (0 ≤ v5_60 ∧ v5_60 < 8) (
                  tg_lt (tg_up m_42 17 (v5_60).toNat s0_119) (fun m119 =>
                    tg_ck (0 ≤ v5_60 ∧ v5_60 < 8) (
                      tg_ck (0 ≤ v6_73 ∧ v6_73 < 8) (
                        tg_jn (γ := Int → tg_R) (fun (s0_164 : Int) => tg_ck (0 ≤ v6_73 ∧ v6_73 < 8) (
                          tg_lt (tg_up m119 17 (v6_73).toNat s0_164) (fun m164 =>
                            tg_lt (tg_wi (v4_42 + 1)) (fun v4_165 =>
                              self42 v4_165 m164)))) (fun j164 =>
                          if m119 17 (v6_73).toNat ≤ tg_wi ((m119 17 (v5_60).toNat) + 1) then
                            tg_ck (0 ≤ v6_73 ∧ v6_73 < 8) (
                              j164 (m119 17 (v6_73).toNat))
                          else
                            tg_ck (0 ≤ v5_60 ∧ v5_60 < 8) (
                              j164 (tg_wi ((m119 17 (v5_60).toNat) + 1))))))))) (fun j119 =>
                  if m_42 17 (v5_60).toNat ≤ tg_wi ((m_42 17 (v6_73).toNat) + 1) then
                    tg_ck (0 ≤ v5_60 ∧ v5_60 < 8) (
                      j119 (m_42 17 (v5_60).toNat))
                  else
                    tg_ck (0 ≤ v6_73 ∧ v6_73 < 8) (
                      j119 (tg_wi ((m_42 17 (v6_73).toNat) + 1))))))))))
noncomputable def f_X8_beganOf_B33 (j177 : tg_Mem → tg_R) (self33 : Int → tg_Mem → tg_R) (v3_33 : Int) (m_33 : tg_Mem) : tg_R :=
  if 8 ≤ v3_33 then
    j177 m_33
  else
    tg_jn (γ := tg_Mem → tg_R) (fun (m_171 : tg_Mem) => tg_lt (tg_wi (v3_33 + 1)) (fun v3_171 =>
      self33 v3_171 m_171)) (fun j171 =>
      tg_fx (γ := Int → tg_Mem → tg_R) (f_X8_beganOf_B42 j171) (fun _ _ => none) tg_FU 0 m_33)
noncomputable def f_X8_beganOf_B2 (a1 : Int) (j31 : tg_Mem → tg_R) (self2 : Int → tg_Mem → tg_R) (v3_2 : Int) (m_2 : tg_Mem) : tg_R :=
  if 8 ≤ v3_2 then
    j31 m_2
  else
    tg_jn (γ := Int → tg_R) (fun (s0_24 : Int) => tg_ck (0 ≤ v3_2 ∧ v3_2 < 8) (
      tg_lt (tg_up m_2 17 (v3_2).toNat s0_24) (fun m24 =>
        tg_lt (tg_wi (v3_2 + 1)) (fun v3_25 =>
          self2 v3_25 m24)))) (fun j24 =>
      if v3_2 ≠ a1 then
        j24 100000
      else
        j24 0)
noncomputable def f_X8_beganOf (a0 : Int) (a1 : Int) (m : tg_Mem) : tg_R :=
  tg_jn (γ := tg_Mem → tg_R) (fun (m_31 : tg_Mem) => tg_jn (γ := tg_Mem → tg_R) (fun (m_177 : tg_Mem) => tg_bd (f_X8_done a0 m_177) (fun _ m179 =>
    tg_ck (0 ≤ 0 ∧ 0 < 2) (
      tg_lt (m179 11 0) (fun v3_189 =>
        tg_ck (0 ≤ v3_189 ∧ v3_189 < 8) (
          tg_lt (m179 17 (v3_189).toNat) (fun v4_196 =>
            tg_jn (γ := Int → tg_Mem → tg_R) (fun (v4_253 : Int) (m_253 : tg_Mem) => if v4_253 < 100000 then
              some (tg_wi ((m_253 0 15) + (tg_wi (2 * v4_253))), m_253)
            else
              some ((-1), m_253)) (fun j253 =>
              tg_fx (γ := Int → Int → Int → tg_Mem → tg_R) (f_X8_beganOf_B201 j253) (fun _ _ _ _ => none) tg_FU v3_189 v4_196 0 m179))))))) (fun j177 =>
    tg_fx (γ := Int → tg_Mem → tg_R) (f_X8_beganOf_B33 j177) (fun _ _ => none) tg_FU 0 m_31)) (fun j31 =>
    tg_fx (γ := Int → tg_Mem → tg_R) (f_X8_beganOf_B2 a1 j31) (fun _ _ => none) tg_FU 0 m)
theorem hy_X8_beganOf : yX8_beganOf.cls = RX8 ∧ yX8_beganOf.cls ≠ "java/lang/invoke/MethodHandle" ∧ yX8_beganOf.cls ≠ "java/lang/invoke/VarHandle" ∧ (parseMethodDescriptor yX8_beganOf.desc).map (fun q => q.parameters.length) = some 2 := by decide +kernel
set_option maxRecDepth 100000 in
set_option maxHeartbeats 4000000 in
theorem k_X8_beganOf   (a0 : Int) (a1 : Int) (m : tg_Mem) : tg_C yX8_beganOf cX8_beganOf 7 (some .int) 6 LM [tr_ 0, ti_ a0, ti_ a1] (f_X8_beganOf a0 a1 m) m := by
  refine ta_enter2 (own := RX8) (by decide +kernel) rfl rfl (Nat.le_of_ble_eq_true rfl) rfl (fun E hE => ?_)
  unfold f_X8_beganOf
  refine ta_iconst (v := 0) hE dX8_beganOf_0 rfl ⟨by decide, by decide⟩ ?_
  refine ta_istoren (lv2 := [tr_ 0, ti_ a0, ti_ a1, ti_ 0, tj_, tj_, tj_]) hE dX8_beganOf_1 (Nat.le_of_ble_eq_true rfl) rfl rfl ?_
  refine ta_join (γ := tg_Mem → tg_R) (fun J => ∀ (m_31 : tg_Mem), tg_AW E LM (some .int) (J m_31) 31 [tr_ 0, ti_ a0, tj_, tj_, tj_, tj_, tj_] [] m_31) ?_ (fun j31 hj31 => ?_)
  · intro m_31
    refine ta_iconst (v := 0) hE dX8_beganOf_31 rfl ⟨by decide, by decide⟩ ?_
    refine ta_istoren (lv2 := [tr_ 0, ti_ a0, tj_, ti_ 0, tj_, tj_, tj_]) hE dX8_beganOf_32 (Nat.le_of_ble_eq_true rfl) rfl rfl ?_
    refine ta_join (γ := tg_Mem → tg_R) (fun J => ∀ (m_177 : tg_Mem), tg_AW E LM (some .int) (J m_177) 177 [tr_ 0, ti_ a0, tj_, tj_, tj_, tj_, tj_] [] m_177) ?_ (fun j177 hj177 => ?_)
    · intro m_177
      refine ta_aloadn hE dX8_beganOf_177 rfl ?_
      refine ta_iloadn hE dX8_beganOf_178 rfl ?_
      refine ta_callV (C := RX8) (T := TX8) (st := []) hE dX8_beganOf_179 (k_X8_done a0 m_177) ml_X8_200 im_X8_done se_X8_done in_X8 co_X8_done hy_X8_done ⟨Nat.le_of_ble_eq_true rfl, Nat.le_of_ble_eq_true rfl⟩ lm_0 rfl rfl rfl (fun _ => Nat.le_of_ble_eq_true rfl) (fun r179 m179 hx179 hr179 => ?_)
      change tg_AW E _ _ _ _ _ (ti_ r179 :: _) _
      refine ta_pop hE dX8_beganOf_182 (fun _ => rfl) ?_
      refine ta_aloadn hE dX8_beganOf_183 rfl ?_
      refine gr_X8_40 hE dX8_beganOf_184 lm_0 rfl ?_
      refine ta_iconst (v := 0) hE dX8_beganOf_187 rfl ⟨by decide, by decide⟩ ?_
      refine ta_iald (n' := 2) hE dX8_beganOf_188 lm_11 rfl (fun _ _ => ?_)
      refine ta_nmi (fun v3_189 => ?_)
      refine ta_istoren (lv2 := [tr_ 0, ti_ a0, tj_, ti_ v3_189, tj_, tj_, tj_]) hE dX8_beganOf_189 (Nat.le_of_ble_eq_true rfl) rfl rfl ?_
      refine ta_aloadn hE dX8_beganOf_190 rfl ?_
      refine gr_X8_59 hE dX8_beganOf_191 lm_0 rfl ?_
      refine ta_iloadn hE dX8_beganOf_194 rfl ?_
      refine ta_iald (n' := 8) hE dX8_beganOf_195 lm_17 rfl (fun _ _ => ?_)
      refine ta_nmi (fun v4_196 => ?_)
      refine ta_istore (lv2 := [tr_ 0, ti_ a0, tj_, ti_ v3_189, ti_ v4_196, tj_, tj_]) hE dX8_beganOf_196 (Nat.le_of_ble_eq_true rfl) rfl rfl ?_
      refine ta_iconst (v := 0) hE dX8_beganOf_198 rfl ⟨by decide, by decide⟩ ?_
      refine ta_istore (lv2 := [tr_ 0, ti_ a0, tj_, ti_ v3_189, ti_ v4_196, ti_ 0, tj_]) hE dX8_beganOf_199 (Nat.le_of_ble_eq_true rfl) rfl rfl ?_
      refine ta_join (γ := Int → tg_Mem → tg_R) (fun J => ∀ (v4_253 : Int) (m_253 : tg_Mem), tg_AW E LM (some .int) (J v4_253 m_253) 253 [tr_ 0, tj_, tj_, tj_, ti_ v4_253, tj_, tj_] [] m_253) ?_ (fun j253 hj253 => ?_)
      · intro v4_253 m_253
        refine ta_iload hE dX8_beganOf_253 rfl ?_
        refine ta_ldc (v := 100000) hE dX8_beganOf_255 ic_X8_244 ⟨by decide, by decide⟩ ?_
        refine ta_icmp_lt (tgt := 264) hE dX8_beganOf_257 (by decide) (fun c257 => ?_) (fun c257 => ?_)
        · refine ta_aloadn hE dX8_beganOf_264 rfl ?_
          refine gf_X8_150 hE dX8_beganOf_265 lm_0 rfl ?_
          refine ta_iconst (v := 2) hE dX8_beganOf_268 rfl ⟨by decide, by decide⟩ ?_
          refine ta_iload hE dX8_beganOf_269 rfl ?_
          refine ta_imul hE dX8_beganOf_271 ?_
          refine ta_iadd hE dX8_beganOf_272 ?_
          exact ta_iret hE dX8_beganOf_273
        · refine ta_iconst (v := (-1)) hE dX8_beganOf_260 rfl ⟨by decide, by decide⟩ ?_
          refine ta_goto (tgt := 273) hE dX8_beganOf_261 (by decide) ?_
          exact ta_iret hE dX8_beganOf_273
      · have hl201 := ta_fx (γ := Int → Int → Int → tg_Mem → tg_R) (F := (f_X8_beganOf_B201 j253)) (z := (fun _ _ _ _ => none)) (fun J => ∀ (v3_201 : Int) (v4_201 : Int) (v5_201 : Int) (m_201 : tg_Mem), tg_AW E LM (some .int) (J v3_201 v4_201 v5_201 m_201) 201 [tr_ 0, tj_, tj_, ti_ v3_201, ti_ v4_201, ti_ v5_201, tj_] [] m_201) (by intros; exact ta_none) (fun self201 hself201 => by
            intro v3_201 v4_201 v5_201 m_201
            unfold f_X8_beganOf_B201
            refine ta_iload hE dX8_beganOf_201 rfl ?_
            refine ta_aloadn hE dX8_beganOf_203 rfl ?_
            refine gf_X8_150 hE dX8_beganOf_204 lm_0 rfl ?_
            refine ta_icmp_ge (tgt := 253) hE dX8_beganOf_207 (by decide) (fun c207 => ?_) (fun c207 => ?_)
            · exact (ta_wk (i := 3) (lv2 := [tr_ 0, tj_, tj_, tj_, ti_ v4_201, ti_ v5_201, tj_]) rfl (ta_wk (i := 5) (lv2 := [tr_ 0, tj_, tj_, tj_, ti_ v4_201, tj_, tj_]) rfl (hj253 v4_201 m_201)))
            · refine ta_aloadn hE dX8_beganOf_210 rfl ?_
              refine ta_aloadn hE dX8_beganOf_211 rfl ?_
              refine gr_X8_43 hE dX8_beganOf_212 lm_0 rfl ?_
              refine ta_iload hE dX8_beganOf_215 rfl ?_
              refine ta_iald (n' := 64) hE dX8_beganOf_217 lm_12 rfl (fun _ _ => ?_)
              refine ta_iloadn hE dX8_beganOf_218 rfl ?_
              refine ta_callV (C := RX8) (T := TX8) (st := []) hE dX8_beganOf_219 (k_X8_otherEnd (m_201 12 (v5_201).toNat) v3_201 m_201) ml_X8_156 im_X8_otherEnd se_X8_otherEnd in_X8 co_X8_otherEnd hy_X8_otherEnd ⟨Nat.le_of_ble_eq_true rfl, Nat.le_of_ble_eq_true rfl⟩ lm_0 rfl rfl rfl (fun _ => Nat.le_of_ble_eq_true rfl) (fun r219 m219 hx219 hr219 => ?_)
              change tg_AW E _ _ _ _ _ (ti_ r219 :: _) _
              refine ta_istoren (lv2 := [tr_ 0, tj_, tj_, ti_ r219, ti_ v4_201, ti_ v5_201, tj_]) hE dX8_beganOf_222 (Nat.le_of_ble_eq_true rfl) rfl rfl ?_
              refine ta_aloadn hE dX8_beganOf_223 rfl ?_
              refine gr_X8_59 hE dX8_beganOf_224 lm_0 rfl ?_
              refine ta_iloadn hE dX8_beganOf_227 rfl ?_
              refine ta_iald (n' := 8) hE dX8_beganOf_228 lm_17 rfl (fun _ _ => ?_)
              refine ta_iload hE dX8_beganOf_229 rfl ?_
              refine ta_join (γ := Int → tg_R) (fun J => ∀ (s0_245 : Int), tg_AW E LM (some .int) (J s0_245) 245 [tr_ 0, tj_, tj_, ti_ r219, tj_, ti_ v5_201, tj_] [ti_ s0_245] m219) ?_ (fun j245 hj245 => ?_)
              · intro s0_245
                refine ta_istore (lv2 := [tr_ 0, tj_, tj_, ti_ r219, ti_ s0_245, ti_ v5_201, tj_]) hE dX8_beganOf_245 (Nat.le_of_ble_eq_true rfl) rfl rfl ?_
                refine ta_iincn (lv2 := fun v5_247 => [tr_ 0, tj_, tj_, ti_ r219, ti_ s0_245, ti_ v5_247, tj_]) hE dX8_beganOf_247 rfl rfl rfl (fun v5_247 => ?_)
                refine ta_goto (tgt := 201) hE dX8_beganOf_250 (by decide) ?_
                exact (hself201 r219 s0_245 v5_247 m219)
              · refine ta_icmp_ge (tgt := 243) hE dX8_beganOf_231 (by decide) (fun c231 => ?_) (fun c231 => ?_)
                · refine ta_iload hE dX8_beganOf_243 rfl ?_
                  exact (ta_wk (i := 4) (lv2 := [tr_ 0, tj_, tj_, ti_ r219, tj_, ti_ v5_201, tj_]) rfl (hj245 v4_201))
                · refine ta_aloadn hE dX8_beganOf_234 rfl ?_
                  refine gr_X8_59 hE dX8_beganOf_235 lm_0 rfl ?_
                  refine ta_iloadn hE dX8_beganOf_238 rfl ?_
                  refine ta_iald (n' := 8) hE dX8_beganOf_239 lm_17 rfl (fun _ _ => ?_)
                  refine ta_goto (tgt := 245) hE dX8_beganOf_240 (by decide) ?_
                  exact (ta_wk (i := 4) (lv2 := [tr_ 0, tj_, tj_, ti_ r219, tj_, ti_ v5_201, tj_]) rfl (hj245 (m219 17 (r219).toNat))))
        exact (ta_wk (i := 1) (lv2 := [tr_ 0, tj_, tj_, ti_ v3_189, ti_ v4_196, ti_ 0, tj_]) rfl (hl201 tg_FU v3_189 v4_196 0 m179))
    · have hl33 := ta_fx (γ := Int → tg_Mem → tg_R) (F := (f_X8_beganOf_B33 j177)) (z := (fun _ _ => none)) (fun J => ∀ (v3_33 : Int) (m_33 : tg_Mem), tg_AW E LM (some .int) (J v3_33 m_33) 33 [tr_ 0, ti_ a0, tj_, ti_ v3_33, tj_, tj_, tj_] [] m_33) (by intros; exact ta_none) (fun self33 hself33 => by
          intro v3_33 m_33
          unfold f_X8_beganOf_B33
          refine ta_iloadn hE dX8_beganOf_33 rfl ?_
          refine bp_8 hE dX8_beganOf_34 ?_
          refine ta_icmp_ge (tgt := 177) hE dX8_beganOf_36 (by decide) (fun c36 => ?_) (fun c36 => ?_)
          · exact (ta_wk (i := 3) (lv2 := [tr_ 0, ti_ a0, tj_, tj_, tj_, tj_, tj_]) rfl (hj177 m_33))
          · refine ta_iconst (v := 0) hE dX8_beganOf_39 rfl ⟨by decide, by decide⟩ ?_
            refine ta_istore (lv2 := [tr_ 0, ti_ a0, tj_, ti_ v3_33, ti_ 0, tj_, tj_]) hE dX8_beganOf_40 (Nat.le_of_ble_eq_true rfl) rfl rfl ?_
            refine ta_join (γ := tg_Mem → tg_R) (fun J => ∀ (m_171 : tg_Mem), tg_AW E LM (some .int) (J m_171) 171 [tr_ 0, ti_ a0, tj_, ti_ v3_33, tj_, tj_, tj_] [] m_171) ?_ (fun j171 hj171 => ?_)
            · intro m_171
              refine ta_iincn (lv2 := fun v3_171 => [tr_ 0, ti_ a0, tj_, ti_ v3_171, tj_, tj_, tj_]) hE dX8_beganOf_171 rfl rfl rfl (fun v3_171 => ?_)
              refine ta_goto (tgt := 33) hE dX8_beganOf_174 (by decide) ?_
              exact (hself33 v3_171 m_171)
            · have hl42 := ta_fx (γ := Int → tg_Mem → tg_R) (F := (f_X8_beganOf_B42 j171)) (z := (fun _ _ => none)) (fun J => ∀ (v4_42 : Int) (m_42 : tg_Mem), tg_AW E LM (some .int) (J v4_42 m_42) 42 [tr_ 0, ti_ a0, tj_, ti_ v3_33, ti_ v4_42, tj_, tj_] [] m_42) (by intros; exact ta_none) (fun self42 hself42 => by
                  intro v4_42 m_42
                  unfold f_X8_beganOf_B42
                  refine ta_iload hE dX8_beganOf_42 rfl ?_
                  refine ta_aloadn hE dX8_beganOf_44 rfl ?_
                  refine gf_X8_111 hE dX8_beganOf_45 lm_0 rfl ?_
                  refine ta_icmp_ge (tgt := 171) hE dX8_beganOf_48 (by decide) (fun c48 => ?_) (fun c48 => ?_)
                  · exact (ta_wk (i := 4) (lv2 := [tr_ 0, ti_ a0, tj_, ti_ v3_33, tj_, tj_, tj_]) rfl (hj171 m_42))
                  · refine ta_aloadn hE dX8_beganOf_51 rfl ?_
                    refine gr_X8_28 hE dX8_beganOf_52 lm_0 rfl ?_
                    refine ta_iconst (v := 3) hE dX8_beganOf_55 rfl ⟨by decide, by decide⟩ ?_
                    refine ta_iload hE dX8_beganOf_56 rfl ?_
                    refine ta_imul hE dX8_beganOf_58 ?_
                    refine ta_iald (n' := 24) hE dX8_beganOf_59 lm_7 rfl (fun _ _ => ?_)
                    refine ta_nmi (fun v5_60 => ?_)
                    refine ta_istore (lv2 := [tr_ 0, ti_ a0, tj_, ti_ v3_33, ti_ v4_42, ti_ v5_60, tj_]) hE dX8_beganOf_60 (Nat.le_of_ble_eq_true rfl) rfl rfl ?_
                    refine ta_aloadn hE dX8_beganOf_62 rfl ?_
                    refine gr_X8_28 hE dX8_beganOf_63 lm_0 rfl ?_
                    refine ta_iconst (v := 3) hE dX8_beganOf_66 rfl ⟨by decide, by decide⟩ ?_
                    refine ta_iload hE dX8_beganOf_67 rfl ?_
                    refine ta_imul hE dX8_beganOf_69 ?_
                    refine ta_iconst (v := 1) hE dX8_beganOf_70 rfl ⟨by decide, by decide⟩ ?_
                    refine ta_iadd hE dX8_beganOf_71 ?_
                    refine ta_iald (n' := 24) hE dX8_beganOf_72 lm_7 rfl (fun _ _ => ?_)
                    refine ta_nmi (fun v6_73 => ?_)
                    refine ta_istore (lv2 := [tr_ 0, ti_ a0, tj_, ti_ v3_33, ti_ v4_42, ti_ v5_60, ti_ v6_73]) hE dX8_beganOf_73 (Nat.le_of_ble_eq_true rfl) rfl rfl ?_
                    refine ta_aloadn hE dX8_beganOf_75 rfl ?_
                    refine gr_X8_59 hE dX8_beganOf_76 lm_0 rfl ?_
                    refine ta_iload hE dX8_beganOf_79 rfl ?_
                    refine ta_aloadn hE dX8_beganOf_81 rfl ?_
                    refine gr_X8_59 hE dX8_beganOf_82 lm_0 rfl ?_
                    refine ta_iload hE dX8_beganOf_85 rfl ?_
                    refine ta_iald (n' := 8) hE dX8_beganOf_87 lm_17 rfl (fun _ _ => ?_)
                    refine ta_iconst (v := 1) hE dX8_beganOf_88 rfl ⟨by decide, by decide⟩ ?_
                    refine ta_iadd hE dX8_beganOf_89 ?_
                    refine ta_aloadn hE dX8_beganOf_90 rfl ?_
                    refine gr_X8_59 hE dX8_beganOf_91 lm_0 rfl ?_
                    refine ta_iload hE dX8_beganOf_94 rfl ?_
                    refine ta_iald (n' := 8) hE dX8_beganOf_96 lm_17 rfl (fun _ _ => ?_)
                    refine ta_join (γ := Int → tg_R) (fun J => ∀ (s0_119 : Int), tg_AW E LM (some .int) (J s0_119) 119 [tr_ 0, ti_ a0, tj_, ti_ v3_33, ti_ v4_42, ti_ v5_60, ti_ v6_73] [ti_ s0_119, ti_ v5_60, tr_ 17] m_42) ?_ (fun j119 hj119 => ?_)
                    · intro s0_119
                      refine ta_iast (n' := 8) hE dX8_beganOf_119 lm_17 rfl (fun _ _ => ?_)
                      refine ta_nmm (fun m119 => ?_)
                      refine ta_aloadn hE dX8_beganOf_120 rfl ?_
                      refine gr_X8_59 hE dX8_beganOf_121 lm_0 rfl ?_
                      refine ta_iload hE dX8_beganOf_124 rfl ?_
                      refine ta_aloadn hE dX8_beganOf_126 rfl ?_
                      refine gr_X8_59 hE dX8_beganOf_127 lm_0 rfl ?_
                      refine ta_iload hE dX8_beganOf_130 rfl ?_
                      refine ta_iald (n' := 8) hE dX8_beganOf_132 lm_17 rfl (fun _ _ => ?_)
                      refine ta_iconst (v := 1) hE dX8_beganOf_133 rfl ⟨by decide, by decide⟩ ?_
                      refine ta_iadd hE dX8_beganOf_134 ?_
                      refine ta_aloadn hE dX8_beganOf_135 rfl ?_
                      refine gr_X8_59 hE dX8_beganOf_136 lm_0 rfl ?_
                      refine ta_iload hE dX8_beganOf_139 rfl ?_
                      refine ta_iald (n' := 8) hE dX8_beganOf_141 lm_17 rfl (fun _ _ => ?_)
                      refine ta_join (γ := Int → tg_R) (fun J => ∀ (s0_164 : Int), tg_AW E LM (some .int) (J s0_164) 164 [tr_ 0, ti_ a0, tj_, ti_ v3_33, ti_ v4_42, tj_, tj_] [ti_ s0_164, ti_ v6_73, tr_ 17] m119) ?_ (fun j164 hj164 => ?_)
                      · intro s0_164
                        refine ta_iast (n' := 8) hE dX8_beganOf_164 lm_17 rfl (fun _ _ => ?_)
                        refine ta_nmm (fun m164 => ?_)
                        refine ta_iincn (lv2 := fun v4_165 => [tr_ 0, ti_ a0, tj_, ti_ v3_33, ti_ v4_165, tj_, tj_]) hE dX8_beganOf_165 rfl rfl rfl (fun v4_165 => ?_)
                        refine ta_goto (tgt := 42) hE dX8_beganOf_168 (by decide) ?_
                        exact (hself42 v4_165 m164)
                      · refine ta_icmp_ge (tgt := 157) hE dX8_beganOf_142 (by decide) (fun c142 => ?_) (fun c142 => ?_)
                        · refine ta_aloadn hE dX8_beganOf_157 rfl ?_
                          refine gr_X8_59 hE dX8_beganOf_158 lm_0 rfl ?_
                          refine ta_iload hE dX8_beganOf_161 rfl ?_
                          refine ta_iald (n' := 8) hE dX8_beganOf_163 lm_17 rfl (fun _ _ => ?_)
                          exact (ta_wk (i := 5) (lv2 := [tr_ 0, ti_ a0, tj_, ti_ v3_33, ti_ v4_42, tj_, ti_ v6_73]) rfl (ta_wk (i := 6) (lv2 := [tr_ 0, ti_ a0, tj_, ti_ v3_33, ti_ v4_42, tj_, tj_]) rfl (hj164 (m119 17 (v6_73).toNat))))
                        · refine ta_aloadn hE dX8_beganOf_145 rfl ?_
                          refine gr_X8_59 hE dX8_beganOf_146 lm_0 rfl ?_
                          refine ta_iload hE dX8_beganOf_149 rfl ?_
                          refine ta_iald (n' := 8) hE dX8_beganOf_151 lm_17 rfl (fun _ _ => ?_)
                          refine ta_iconst (v := 1) hE dX8_beganOf_152 rfl ⟨by decide, by decide⟩ ?_
                          refine ta_iadd hE dX8_beganOf_153 ?_
                          refine ta_goto (tgt := 164) hE dX8_beganOf_154 (by decide) ?_
                          exact (ta_wk (i := 5) (lv2 := [tr_ 0, ti_ a0, tj_, ti_ v3_33, ti_ v4_42, tj_, ti_ v6_73]) rfl (ta_wk (i := 6) (lv2 := [tr_ 0, ti_ a0, tj_, ti_ v3_33, ti_ v4_42, tj_, tj_]) rfl (hj164 (tg_wi ((m119 17 (v5_60).toNat) + 1)))))
                    · refine ta_icmp_ge (tgt := 112) hE dX8_beganOf_97 (by decide) (fun c97 => ?_) (fun c97 => ?_)
                      · refine ta_aloadn hE dX8_beganOf_112 rfl ?_
                        refine gr_X8_59 hE dX8_beganOf_113 lm_0 rfl ?_
                        refine ta_iload hE dX8_beganOf_116 rfl ?_
                        refine ta_iald (n' := 8) hE dX8_beganOf_118 lm_17 rfl (fun _ _ => ?_)
                        exact (hj119 (m_42 17 (v5_60).toNat))
                      · refine ta_aloadn hE dX8_beganOf_100 rfl ?_
                        refine gr_X8_59 hE dX8_beganOf_101 lm_0 rfl ?_
                        refine ta_iload hE dX8_beganOf_104 rfl ?_
                        refine ta_iald (n' := 8) hE dX8_beganOf_106 lm_17 rfl (fun _ _ => ?_)
                        refine ta_iconst (v := 1) hE dX8_beganOf_107 rfl ⟨by decide, by decide⟩ ?_
                        refine ta_iadd hE dX8_beganOf_108 ?_
                        refine ta_goto (tgt := 119) hE dX8_beganOf_109 (by decide) ?_
                        exact (hj119 (tg_wi ((m_42 17 (v6_73).toNat) + 1))))
              exact (hl42 tg_FU 0 m_33))
      exact (hl33 tg_FU 0 m_31)
  · have hl2 := ta_fx (γ := Int → tg_Mem → tg_R) (F := (f_X8_beganOf_B2 a1 j31)) (z := (fun _ _ => none)) (fun J => ∀ (v3_2 : Int) (m_2 : tg_Mem), tg_AW E LM (some .int) (J v3_2 m_2) 2 [tr_ 0, ti_ a0, ti_ a1, ti_ v3_2, tj_, tj_, tj_] [] m_2) (by intros; exact ta_none) (fun self2 hself2 => by
        intro v3_2 m_2
        unfold f_X8_beganOf_B2
        refine ta_iloadn hE dX8_beganOf_2 rfl ?_
        refine bp_8 hE dX8_beganOf_3 ?_
        refine ta_icmp_ge (tgt := 31) hE dX8_beganOf_5 (by decide) (fun c5 => ?_) (fun c5 => ?_)
        · exact (ta_wk (i := 2) (lv2 := [tr_ 0, ti_ a0, tj_, ti_ v3_2, tj_, tj_, tj_]) rfl (ta_wk (i := 3) (lv2 := [tr_ 0, ti_ a0, tj_, tj_, tj_, tj_, tj_]) rfl (hj31 m_2)))
        · refine ta_aloadn hE dX8_beganOf_8 rfl ?_
          refine gr_X8_59 hE dX8_beganOf_9 lm_0 rfl ?_
          refine ta_iloadn hE dX8_beganOf_12 rfl ?_
          refine ta_iloadn hE dX8_beganOf_13 rfl ?_
          refine ta_iloadn hE dX8_beganOf_14 rfl ?_
          refine ta_join (γ := Int → tg_R) (fun J => ∀ (s0_24 : Int), tg_AW E LM (some .int) (J s0_24) 24 [tr_ 0, ti_ a0, ti_ a1, ti_ v3_2, tj_, tj_, tj_] [ti_ s0_24, ti_ v3_2, tr_ 17] m_2) ?_ (fun j24 hj24 => ?_)
          · intro s0_24
            refine ta_iast (n' := 8) hE dX8_beganOf_24 lm_17 rfl (fun _ _ => ?_)
            refine ta_nmm (fun m24 => ?_)
            refine ta_iincn (lv2 := fun v3_25 => [tr_ 0, ti_ a0, ti_ a1, ti_ v3_25, tj_, tj_, tj_]) hE dX8_beganOf_25 rfl rfl rfl (fun v3_25 => ?_)
            refine ta_goto (tgt := 2) hE dX8_beganOf_28 (by decide) ?_
            exact (hself2 v3_25 m24)
          · refine ta_icmp_ne (tgt := 22) hE dX8_beganOf_15 (by decide) (fun c15 => ?_) (fun c15 => ?_)
            · refine ta_ldc (v := 100000) hE dX8_beganOf_22 ic_X8_244 ⟨by decide, by decide⟩ ?_
              exact (hj24 100000)
            · refine ta_iconst (v := 0) hE dX8_beganOf_18 rfl ⟨by decide, by decide⟩ ?_
              refine ta_goto (tgt := 24) hE dX8_beganOf_19 (by decide) ?_
              exact (hj24 0))
    exact (hl2 tg_FU 0 m)
noncomputable def f_X8_began (a0 : Int) (a1 : Int) (m : tg_Mem) : tg_R :=
  tg_bd (f_X8_reads  m) (fun _ m1 =>
    tg_bd (f_X8_isTwo a0 m1) (fun r6 m6 =>
      tg_jn (γ := tg_Mem → tg_R) (fun (m_28 : tg_Mem) => some ((-2), m_28)) (fun j28 =>
        if r6 = 0 then
          j28 m6
        else
          tg_bd (f_X8_isPlace a1 m6) (fun r13 m13 =>
            if r13 = 0 then
              j28 m13
            else
              tg_bd (f_X8_beganOf a0 a1 m13) (fun r22 m22 =>
                some (r22, m22))))))
theorem hy_X8_began : yX8_began.cls = RX8 ∧ yX8_began.cls ≠ "java/lang/invoke/MethodHandle" ∧ yX8_began.cls ≠ "java/lang/invoke/VarHandle" ∧ (parseMethodDescriptor yX8_began.desc).map (fun q => q.parameters.length) = some 2 := by decide +kernel
set_option maxRecDepth 100000 in
set_option maxHeartbeats 4000000 in
theorem k_X8_began   (a0 : Int) (a1 : Int) (m : tg_Mem) : tg_C yX8_began cX8_began 3 (some .int) 7 LM [tr_ 0, ti_ a0, ti_ a1] (f_X8_began a0 a1 m) m := by
  refine ta_enter2 (own := RX8) (by decide +kernel) rfl rfl (Nat.le_of_ble_eq_true rfl) rfl (fun E hE => ?_)
  unfold f_X8_began
  refine ta_aloadn hE dX8_began_0 rfl ?_
  refine ta_callV (C := RX8) (T := TX8) (st := []) hE dX8_began_1 (k_X8_reads m) ml_X8_129 im_X8_reads se_X8_reads in_X8 co_X8_reads hy_X8_reads ⟨Nat.le_of_ble_eq_true rfl, Nat.le_of_ble_eq_true rfl⟩ lm_0 rfl rfl rfl (fun _ => Nat.le_of_ble_eq_true rfl) (fun r1 m1 hx1 hr1 => ?_)
  change tg_AW E _ _ _ _ _ (ti_ r1 :: _) _
  refine ta_pop hE dX8_began_4 (fun _ => rfl) ?_
  refine ta_iloadn hE dX8_began_5 rfl ?_
  refine ta_callS (st := []) hE dX8_began_6 (k_X8_isTwo a0 m1) ml_X8_135 st_X8_isTwo in_X8 co_X8_isTwo hy_X8_isTwo.2 ⟨Nat.le_of_ble_eq_true rfl, Nat.le_of_ble_eq_true rfl⟩ rfl rfl (fun _ => Nat.le_of_ble_eq_true rfl) (fun r6 m6 hx6 hr6 => ?_)
  change tg_AW E _ _ _ _ _ (ti_ r6 :: _) _
  refine ta_join (γ := tg_Mem → tg_R) (fun J => ∀ (m_28 : tg_Mem), tg_AW E LM (some .int) (J m_28) 28 [tj_, tj_, tj_] [] m_28) ?_ (fun j28 hj28 => ?_)
  · intro m_28
    refine bp_n2 hE dX8_began_28 ?_
    exact ta_iret hE dX8_began_30
  · refine ta_if_eq (tgt := 28) hE dX8_began_9 (by decide) (fun c9 => ?_) (fun c9 => ?_)
    · exact (ta_wk (i := 0) (lv2 := [tj_, ti_ a0, ti_ a1]) rfl (ta_wk (i := 1) (lv2 := [tj_, tj_, ti_ a1]) rfl (ta_wk (i := 2) (lv2 := [tj_, tj_, tj_]) rfl (hj28 m6))))
    · refine ta_iloadn hE dX8_began_12 rfl ?_
      refine ta_callS (st := []) hE dX8_began_13 (k_X8_isPlace a1 m6) ml_X8_138 st_X8_isPlace in_X8 co_X8_isPlace hy_X8_isPlace.2 ⟨Nat.le_of_ble_eq_true rfl, Nat.le_of_ble_eq_true rfl⟩ rfl rfl (fun _ => Nat.le_of_ble_eq_true rfl) (fun r13 m13 hx13 hr13 => ?_)
      change tg_AW E _ _ _ _ _ (ti_ r13 :: _) _
      refine ta_if_eq (tgt := 28) hE dX8_began_16 (by decide) (fun c16 => ?_) (fun c16 => ?_)
      · exact (ta_wk (i := 0) (lv2 := [tj_, ti_ a0, ti_ a1]) rfl (ta_wk (i := 1) (lv2 := [tj_, tj_, ti_ a1]) rfl (ta_wk (i := 2) (lv2 := [tj_, tj_, tj_]) rfl (hj28 m13))))
      · refine ta_aloadn hE dX8_began_19 rfl ?_
        refine ta_iloadn hE dX8_began_20 rfl ?_
        refine ta_iloadn hE dX8_began_21 rfl ?_
        refine ta_callV (C := RX8) (T := TX8) (st := []) hE dX8_began_22 (k_X8_beganOf a0 a1 m13) ml_X8_245 im_X8_beganOf se_X8_beganOf in_X8 co_X8_beganOf hy_X8_beganOf ⟨Nat.le_of_ble_eq_true rfl, Nat.le_of_ble_eq_true rfl⟩ lm_0 rfl rfl rfl (fun _ => Nat.le_of_ble_eq_true rfl) (fun r22 m22 hx22 hr22 => ?_)
        change tg_AW E _ _ _ _ _ (ti_ r22 :: _) _
        refine ta_goto (tgt := 30) hE dX8_began_25 (by decide) ?_
        exact ta_iret hE dX8_began_30
noncomputable def f_X8_enters (a0 : Int) (a1 : Int) (a2 : Int) (a3 : Int) (m : tg_Mem) : tg_R :=
  tg_ck (0 ≤ a0 ∧ a0 < 6) (
    tg_lt (tg_up m 18 (a0).toNat a1) (fun m6 =>
      tg_ck (0 ≤ a0 ∧ a0 < 6) (
        tg_lt (tg_up m6 19 (a0).toNat a2) (fun m14 =>
          tg_ck (0 ≤ a0 ∧ a0 < 6) (
            tg_lt (tg_up m14 20 (a0).toNat a3) (fun m22 =>
              tg_ck (0 ≤ a0 ∧ a0 < 6) (
                tg_lt (tg_up m22 21 (a0).toNat (-2)) (fun m30 =>
                  some (0, m30)))))))))
theorem hy_X8_enters : yX8_enters.cls = RX8 ∧ yX8_enters.cls ≠ "java/lang/invoke/MethodHandle" ∧ yX8_enters.cls ≠ "java/lang/invoke/VarHandle" ∧ (parseMethodDescriptor yX8_enters.desc).map (fun q => q.parameters.length) = some 4 := by decide +kernel
set_option maxRecDepth 100000 in
set_option maxHeartbeats 4000000 in
theorem k_X8_enters   (a0 : Int) (a1 : Int) (a2 : Int) (a3 : Int) (m : tg_Mem) : tg_C yX8_enters cX8_enters 6 none 1 LM [tr_ 0, ti_ a0, tl_ a1, ti_ a2, ti_ a3] (f_X8_enters a0 a1 a2 a3 m) m := by
  refine ta_enter2 (own := RX8) (by decide +kernel) rfl rfl (Nat.le_of_ble_eq_true rfl) rfl (fun E hE => ?_)
  unfold f_X8_enters
  refine ta_aloadn hE dX8_enters_0 rfl ?_
  refine gr_X8_62 hE dX8_enters_1 lm_0 rfl ?_
  refine ta_iloadn hE dX8_enters_4 rfl ?_
  refine ta_lloadn hE dX8_enters_5 rfl ?_
  refine ta_last (n' := 6) hE dX8_enters_6 lm_18 rfl (fun _ _ => ?_)
  refine ta_nmm (fun m6 => ?_)
  refine ta_aloadn hE dX8_enters_7 rfl ?_
  refine gr_X8_65 hE dX8_enters_8 lm_0 rfl ?_
  refine ta_iloadn hE dX8_enters_11 rfl ?_
  refine ta_iload hE dX8_enters_12 rfl ?_
  refine ta_iast (n' := 6) hE dX8_enters_14 lm_19 rfl (fun _ _ => ?_)
  refine ta_nmm (fun m14 => ?_)
  refine ta_aloadn hE dX8_enters_15 rfl ?_
  refine gr_X8_68 hE dX8_enters_16 lm_0 rfl ?_
  refine ta_iloadn hE dX8_enters_19 rfl ?_
  refine ta_iload hE dX8_enters_20 rfl ?_
  refine ta_iast (n' := 6) hE dX8_enters_22 lm_20 rfl (fun _ _ => ?_)
  refine ta_nmm (fun m22 => ?_)
  refine ta_aloadn hE dX8_enters_23 rfl ?_
  refine gr_X8_71 hE dX8_enters_24 lm_0 rfl ?_
  refine ta_iloadn hE dX8_enters_27 rfl ?_
  refine bp_n2 hE dX8_enters_28 ?_
  refine ta_iast (n' := 6) hE dX8_enters_30 lm_21 rfl (fun _ _ => ?_)
  refine ta_nmm (fun m30 => ?_)
  exact ta_vret hE dX8_enters_31
noncomputable def f_X8_mayPick (a0 : Int) (a1 : Int) (m : tg_Mem) : tg_R :=
  tg_jn (γ := tg_Mem → tg_R) (fun (m_34 : tg_Mem) => some (1, m_34)) (fun j34 =>
    if a1 = (-1) then
      j34 m
    else
      tg_ck (0 ≤ a0 ∧ a0 < 2) (
        tg_bd (f_X8_touches a1 (m 11 (a0).toNat) m) (fun r13 m13 =>
          tg_jn (γ := tg_Mem → tg_R) (fun (m_38 : tg_Mem) => some (0, m_38)) (fun j38 =>
            if r13 = 0 then
              j38 m13
            else
              tg_bd (f_X8_lengthBehind a0 a1 m13) (fun r22 m22 =>
                tg_ck (0 ≤ 2 ∧ 2 < 3) (
                  if m22 9 2 < r22 then
                    j38 m22
                  else
                    j34 m22))))))
theorem hy_X8_mayPick : yX8_mayPick.cls = RX8 ∧ yX8_mayPick.cls ≠ "java/lang/invoke/MethodHandle" ∧ yX8_mayPick.cls ≠ "java/lang/invoke/VarHandle" ∧ (parseMethodDescriptor yX8_mayPick.desc).map (fun q => q.parameters.length) = some 2 := by decide +kernel
set_option maxRecDepth 100000 in
set_option maxHeartbeats 4000000 in
theorem k_X8_mayPick   (a0 : Int) (a1 : Int) (m : tg_Mem) : tg_C yX8_mayPick cX8_mayPick 3 (some .boolean) 3 LM [tr_ 0, ti_ a0, ti_ a1] (f_X8_mayPick a0 a1 m) m := by
  refine ta_enter2 (own := RX8) (by decide +kernel) rfl rfl (Nat.le_of_ble_eq_true rfl) rfl (fun E hE => ?_)
  unfold f_X8_mayPick
  refine ta_iloadn hE dX8_mayPick_0 rfl ?_
  refine ta_iconst (v := (-1)) hE dX8_mayPick_1 rfl ⟨by decide, by decide⟩ ?_
  refine ta_join (γ := tg_Mem → tg_R) (fun J => ∀ (m_34 : tg_Mem), tg_AW E LM (some .boolean) (J m_34) 34 [tj_, tj_, tj_] [] m_34) ?_ (fun j34 hj34 => ?_)
  · intro m_34
    refine ta_iconst (v := 1) hE dX8_mayPick_34 rfl ⟨by decide, by decide⟩ ?_
    refine ta_goto (tgt := 39) hE dX8_mayPick_35 (by decide) ?_
    exact ta_zret hE dX8_mayPick_39 (Or.inr rfl)
  · refine ta_icmp_eq (tgt := 34) hE dX8_mayPick_2 (by decide) (fun c2 => ?_) (fun c2 => ?_)
    · exact (ta_wk (i := 0) (lv2 := [tj_, ti_ a0, ti_ a1]) rfl (ta_wk (i := 1) (lv2 := [tj_, tj_, ti_ a1]) rfl (ta_wk (i := 2) (lv2 := [tj_, tj_, tj_]) rfl (hj34 m))))
    · refine ta_aloadn hE dX8_mayPick_5 rfl ?_
      refine ta_iloadn hE dX8_mayPick_6 rfl ?_
      refine ta_aloadn hE dX8_mayPick_7 rfl ?_
      refine gr_X8_40 hE dX8_mayPick_8 lm_0 rfl ?_
      refine ta_iloadn hE dX8_mayPick_11 rfl ?_
      refine ta_iald (n' := 2) hE dX8_mayPick_12 lm_11 rfl (fun _ _ => ?_)
      refine ta_callV (C := RX8) (T := TX8) (st := []) hE dX8_mayPick_13 (k_X8_touches a1 (m 11 (a0).toNat) m) ml_X8_173 im_X8_touches se_X8_touches in_X8 co_X8_touches hy_X8_touches ⟨Nat.le_of_ble_eq_true rfl, Nat.le_of_ble_eq_true rfl⟩ lm_0 rfl rfl rfl (fun _ => Nat.le_of_ble_eq_true rfl) (fun r13 m13 hx13 hr13 => ?_)
      change tg_AW E _ _ _ _ _ (ti_ r13 :: _) _
      refine ta_join (γ := tg_Mem → tg_R) (fun J => ∀ (m_38 : tg_Mem), tg_AW E LM (some .boolean) (J m_38) 38 [tj_, tj_, tj_] [] m_38) ?_ (fun j38 hj38 => ?_)
      · intro m_38
        refine ta_iconst (v := 0) hE dX8_mayPick_38 rfl ⟨by decide, by decide⟩ ?_
        exact ta_zret hE dX8_mayPick_39 (Or.inl rfl)
      · refine ta_if_eq (tgt := 38) hE dX8_mayPick_16 (by decide) (fun c16 => ?_) (fun c16 => ?_)
        · exact (ta_wk (i := 0) (lv2 := [tj_, ti_ a0, ti_ a1]) rfl (ta_wk (i := 1) (lv2 := [tj_, tj_, ti_ a1]) rfl (ta_wk (i := 2) (lv2 := [tj_, tj_, tj_]) rfl (hj38 m13))))
        · refine ta_aloadn hE dX8_mayPick_19 rfl ?_
          refine ta_iloadn hE dX8_mayPick_20 rfl ?_
          refine ta_iloadn hE dX8_mayPick_21 rfl ?_
          refine ta_callV (C := RX8) (T := TX8) (st := []) hE dX8_mayPick_22 (k_X8_lengthBehind a0 a1 m13) ml_X8_177 im_X8_lengthBehind se_X8_lengthBehind in_X8 co_X8_lengthBehind hy_X8_lengthBehind ⟨Nat.le_of_ble_eq_true rfl, Nat.le_of_ble_eq_true rfl⟩ lm_0 rfl rfl rfl (fun _ => Nat.le_of_ble_eq_true rfl) (fun r22 m22 hx22 hr22 => ?_)
          change tg_AW E _ _ _ _ _ (ti_ r22 :: _) _
          refine ta_aloadn hE dX8_mayPick_25 rfl ?_
          refine gr_X8_34 hE dX8_mayPick_26 lm_0 rfl ?_
          refine ta_iconst (v := 2) hE dX8_mayPick_29 rfl ⟨by decide, by decide⟩ ?_
          refine ta_iald (n' := 3) hE dX8_mayPick_30 lm_9 rfl (fun _ _ => ?_)
          refine ta_icmp_gt (tgt := 38) hE dX8_mayPick_31 (by decide) (fun c31 => ?_) (fun c31 => ?_)
          · exact (ta_wk (i := 0) (lv2 := [tj_, ti_ a0, ti_ a1]) rfl (ta_wk (i := 1) (lv2 := [tj_, tj_, ti_ a1]) rfl (ta_wk (i := 2) (lv2 := [tj_, tj_, tj_]) rfl (hj38 m22))))
          · exact (ta_wk (i := 0) (lv2 := [tj_, ti_ a0, ti_ a1]) rfl (ta_wk (i := 1) (lv2 := [tj_, tj_, ti_ a1]) rfl (ta_wk (i := 2) (lv2 := [tj_, tj_, tj_]) rfl (hj34 m22))))
noncomputable def f_X8_gameOf_B62 (v4_29 : Int) (v7_38 : Int) (j116 : tg_Mem → tg_R) (self62 : tg_Mem → tg_R) (m_62 : tg_Mem) : tg_R :=
  tg_ck (0 ≤ v4_29 ∧ v4_29 < 6) (
    if m_62 21 (v4_29).toNat < 0 then
      j116 m_62
    else
      tg_ck (0 ≤ v4_29 ∧ v4_29 < 6) (
        if m_62 0 8 ≤ m_62 21 (v4_29).toNat then
          j116 m_62
        else
          tg_ck (0 ≤ v4_29 ∧ v4_29 < 6) (
            tg_bd (f_X8_mayPick v7_38 (m_62 21 (v4_29).toNat) m_62) (fun r96 m96 =>
              if r96 ≠ 0 then
                j116 m96
              else
                tg_ck (0 ≤ v4_29 ∧ v4_29 < 6) (
                  tg_ck (0 ≤ v4_29 ∧ v4_29 < 6) (
                    tg_lt (tg_up m96 21 (v4_29).toNat (tg_wi ((m96 21 (v4_29).toNat) + 1))) (fun m112 =>
                      self62 m112)))))))
noncomputable def f_X8_gameOf_B29 (a1 : Int) (j427 : Int → Int → tg_Mem → tg_R) (self29 : Int → Int → Int → tg_Mem → tg_R) (v4_29 : Int) (v5_29 : Int) (v6_29 : Int) (m_29 : tg_Mem) : tg_R :=
  if v4_29 < 0 then
    j427 v5_29 v6_29 m_29
  else
    tg_lt (tg_irem v4_29 2) (fun v7_38 =>
      tg_ck (0 ≤ v4_29 ∧ v4_29 < 6) (
        tg_bd (f_X8_comesTo (m_29 18 (v4_29).toNat) m_29) (fun _ m48 =>
          tg_ck (0 ≤ v4_29 ∧ v4_29 < 6) (
            tg_ck (0 ≤ v4_29 ∧ v4_29 < 6) (
              tg_lt (tg_up m48 21 (v4_29).toNat (tg_wi ((m48 21 (v4_29).toNat) + 1))) (fun m61 =>
                tg_jn (γ := tg_Mem → tg_R) (fun (m_116 : tg_Mem) => tg_jn (γ := Int → tg_R) (fun (s0_151 : Int) => tg_jn (γ := Int → Int → Int → tg_Mem → tg_R) (fun (v4_424 : Int) (v5_424 : Int) (v6_424 : Int) (m_424 : tg_Mem) => self29 v4_424 v5_424 v6_424 m_424) (fun j424 =>
                  if s0_151 = 0 then
                    tg_ck (0 ≤ v4_29 ∧ v4_29 < 6) (
                      tg_lt (m_116 21 (v4_29).toNat) (fun v9_312 =>
                        tg_ck (0 ≤ v4_29 ∧ v4_29 < 6) (
                          tg_lt (m_116 20 (v4_29).toNat) (fun v10_321 =>
                            tg_ck (0 ≤ v4_29 ∧ v4_29 < 6) (
                              tg_lt (m_116 19 (v4_29).toNat) (fun v11_330 =>
                                tg_jn (γ := Int → Int → tg_Mem → tg_R) (fun (v10_405 : Int) (v11_405 : Int) (m_405 : tg_Mem) => tg_bd (f_X8_wayNow  m_405) (fun r411 m411 =>
                                  tg_bd (f_X8_enters (tg_wi (v4_29 + 1)) r411 v11_405 v10_405 m411) (fun _ m418 =>
                                    tg_lt (tg_wi (v4_29 + 1)) (fun v4_421 =>
                                      j424 v4_421 v5_29 v6_29 m418)))) (fun j405 =>
                                  if v9_312 = (-1) then
                                    j405 v10_321 v11_330 m_116
                                  else
                                    tg_bd (f_X8_goes v7_38 v9_312 m_116) (fun _ m343 =>
                                      tg_ck (0 ≤ v7_38 ∧ v7_38 < 2) (
                                        tg_lt (m343 11 (v7_38).toNat) (fun v12_353 =>
                                          tg_jn (γ := Int → tg_R) (fun (s0_376 : Int) => tg_jn (γ := Int → tg_R) (fun (s0_393 : Int) => tg_lt (tg_wi (v10_321 + s0_393)) (fun v10_394 =>
                                            tg_lt (tg_ior v11_330 (tg_ishl 1 v12_353)) (fun v11_403 =>
                                              j405 v10_394 v11_403 m343))) (fun j393 =>
                                            if v7_38 ≠ 0 then
                                              j393 (tg_wi (-s0_376))
                                            else
                                              j393 s0_376)) (fun j376 =>
                                            if tg_iand (tg_ishr v11_330 v12_353) 1 ≠ 0 then
                                              j376 0
                                            else
                                              tg_ck (0 ≤ v12_353 ∧ v12_353 < 8) (
                                                j376 (m343 10 (v12_353).toNat)))))))))))))
                  else
                    tg_jn (γ := Int → tg_R) (fun (s0_181 : Int) => tg_lt (tg_wi (v4_29 + (-1))) (fun v4_183 =>
                      if v4_183 < 0 then
                        j424 v4_183 v5_29 s0_181 m_116
                      else
                        tg_ck (0 ≤ v4_183 ∧ v4_183 < 6) (
                          tg_jn (γ := Int → tg_R) (fun (s0_207 : Int) => tg_jn (γ := Int → tg_R) (fun (s0_253 : Int) => tg_jn (γ := Int → tg_R) (fun (s0_276 : Int) => tg_jn (γ := Int → tg_R) (fun (s0_301 : Int) => tg_ck (0 ≤ v4_183 ∧ v4_183 < 6) (
                            tg_lt (tg_up m_116 22 (v4_183).toNat s0_301) (fun m301 =>
                              j424 v4_183 s0_276 s0_181 m301))) (fun j301 =>
                            if s0_253 = 0 then
                              tg_ck (0 ≤ v4_183 ∧ v4_183 < 6) (
                                j301 (m_116 22 (v4_183).toNat))
                            else
                              j301 s0_181)) (fun j276 =>
                            tg_jn (γ := tg_R) (j276 v5_29) (fun j274 =>
                              if s0_253 = 0 then
                                j274
                              else
                                if v4_183 ≠ 0 then
                                  j274
                                else
                                  tg_ck (0 ≤ 0 ∧ 0 < 6) (
                                    j276 (m_116 21 0))))) (fun j253 =>
                            tg_jn (γ := tg_R) (j253 1) (fun j248 =>
                              if s0_207 ≠ 0 then
                                j248
                              else
                                tg_jn (γ := tg_R) (j253 0) (fun j252 =>
                                  if tg_irem v4_183 2 ≠ 0 then
                                    tg_ck (0 ≤ v4_183 ∧ v4_183 < 6) (
                                      if m_116 22 (v4_183).toNat ≤ s0_181 then
                                        j252
                                      else
                                        j248)
                                  else
                                    tg_ck (0 ≤ v4_183 ∧ v4_183 < 6) (
                                      if s0_181 ≤ m_116 22 (v4_183).toNat then
                                        j252
                                      else
                                        j248))))) (fun j207 =>
                            if m_116 21 (v4_183).toNat ≠ (-1) then
                              j207 0
                            else
                              j207 1)))) (fun j181 =>
                      if v4_29 ≠ a1 then
                        tg_ck (0 ≤ v4_29 ∧ v4_29 < 6) (
                          j181 (m_116 22 (v4_29).toNat))
                      else
                        tg_ck (0 ≤ v4_29 ∧ v4_29 < 6) (
                          j181 (m_116 20 (v4_29).toNat))))) (fun j151 =>
                  tg_jn (γ := tg_R) (j151 1) (fun j146 =>
                    if v4_29 = a1 then
                      j146
                    else
                      tg_ck (0 ≤ v4_29 ∧ v4_29 < 6) (
                        tg_jn (γ := tg_R) (j151 0) (fun j150 =>
                          if m_116 21 (v4_29).toNat < 0 then
                            j150
                          else
                            tg_ck (0 ≤ v4_29 ∧ v4_29 < 6) (
                              if m_116 21 (v4_29).toNat < m_116 0 8 then
                                j150
                              else
                                j146)))))) (fun j116 =>
                  tg_fx (γ := tg_Mem → tg_R) (f_X8_gameOf_B62 v4_29 v7_38 j116) (fun _ => none) tg_FU m61)))))))
noncomputable def f_X8_gameOf (a0 : Int) (a1 : Int) (a2 : Int) (m : tg_Mem) : tg_R :=
  tg_bd (f_X8_done a0 m) (fun _ m2 =>
    tg_bd (f_X8_wayNow  m2) (fun r18 m18 =>
      tg_bd (f_X8_enters 0 r18 (m18 0 19) 0 m18) (fun _ m26 =>
        tg_jn (γ := Int → Int → tg_Mem → tg_R) (fun (v5_427 : Int) (v6_427 : Int) (m_427 : tg_Mem) => if a2 ≠ 0 then
          some (v5_427, m_427)
        else
          some (v6_427, m_427)) (fun j427 =>
          tg_fx (γ := Int → Int → Int → tg_Mem → tg_R) (f_X8_gameOf_B29 a1 j427) (fun _ _ _ _ => none) tg_FU 0 (-1) 0 m26))))
theorem hy_X8_gameOf : yX8_gameOf.cls = RX8 ∧ yX8_gameOf.cls ≠ "java/lang/invoke/MethodHandle" ∧ yX8_gameOf.cls ≠ "java/lang/invoke/VarHandle" ∧ (parseMethodDescriptor yX8_gameOf.desc).map (fun q => q.parameters.length) = some 3 := by decide +kernel
set_option maxRecDepth 100000 in
set_option maxHeartbeats 4000000 in
theorem k_X8_gameOf   (a0 : Int) (a1 : Int) (a2 : Int) (m : tg_Mem) : tg_C yX8_gameOf cX8_gameOf 14 (some .int) 6 LM [tr_ 0, ti_ a0, ti_ a1, ti_ a2] (f_X8_gameOf a0 a1 a2 m) m := by
  refine ta_enter2 (own := RX8) (by decide +kernel) rfl rfl (Nat.le_of_ble_eq_true rfl) rfl (fun E hE => ?_)
  unfold f_X8_gameOf
  refine ta_aloadn hE dX8_gameOf_0 rfl ?_
  refine ta_iloadn hE dX8_gameOf_1 rfl ?_
  refine ta_callV (C := RX8) (T := TX8) (st := []) hE dX8_gameOf_2 (k_X8_done a0 m) ml_X8_200 im_X8_done se_X8_done in_X8 co_X8_done hy_X8_done ⟨Nat.le_of_ble_eq_true rfl, Nat.le_of_ble_eq_true rfl⟩ lm_0 rfl rfl rfl (fun _ => Nat.le_of_ble_eq_true rfl) (fun r2 m2 hx2 hr2 => ?_)
  change tg_AW E _ _ _ _ _ (ti_ r2 :: _) _
  refine ta_pop hE dX8_gameOf_5 (fun _ => rfl) ?_
  refine ta_iconst (v := 0) hE dX8_gameOf_6 rfl ⟨by decide, by decide⟩ ?_
  refine ta_istore (lv2 := [tr_ 0, ti_ a0, ti_ a1, ti_ a2, ti_ 0, tj_, tj_, tj_, tj_, tj_, tj_, tj_, tj_, tj_]) hE dX8_gameOf_7 (Nat.le_of_ble_eq_true rfl) rfl rfl ?_
  refine ta_iconst (v := (-1)) hE dX8_gameOf_9 rfl ⟨by decide, by decide⟩ ?_
  refine ta_istore (lv2 := [tr_ 0, ti_ a0, ti_ a1, ti_ a2, ti_ 0, ti_ (-1), tj_, tj_, tj_, tj_, tj_, tj_, tj_, tj_]) hE dX8_gameOf_10 (Nat.le_of_ble_eq_true rfl) rfl rfl ?_
  refine ta_iconst (v := 0) hE dX8_gameOf_12 rfl ⟨by decide, by decide⟩ ?_
  refine ta_istore (lv2 := [tr_ 0, ti_ a0, ti_ a1, ti_ a2, ti_ 0, ti_ (-1), ti_ 0, tj_, tj_, tj_, tj_, tj_, tj_, tj_]) hE dX8_gameOf_13 (Nat.le_of_ble_eq_true rfl) rfl rfl ?_
  refine ta_aloadn hE dX8_gameOf_15 rfl ?_
  refine ta_iconst (v := 0) hE dX8_gameOf_16 rfl ⟨by decide, by decide⟩ ?_
  refine ta_aloadn hE dX8_gameOf_17 rfl ?_
  refine ta_callV (C := RX8) (T := TX8) (st := [ti_ 0, tr_ 0]) hE dX8_gameOf_18 (k_X8_wayNow m2) ml_X8_220 im_X8_wayNow se_X8_wayNow in_X8 co_X8_wayNow hy_X8_wayNow ⟨Nat.le_of_ble_eq_true rfl, Nat.le_of_ble_eq_true rfl⟩ lm_0 rfl rfl rfl (fun _ => Nat.le_of_ble_eq_true rfl) (fun r18 m18 hx18 hr18 => ?_)
  change tg_AW E _ _ _ _ _ (tl_ r18 :: _) _
  refine ta_aloadn hE dX8_gameOf_21 rfl ?_
  refine gf_X8_162 hE dX8_gameOf_22 lm_0 rfl ?_
  refine ta_iconst (v := 0) hE dX8_gameOf_25 rfl ⟨by decide, by decide⟩ ?_
  refine ta_callV (C := RX8) (T := TX8) (st := []) hE dX8_gameOf_26 (k_X8_enters 0 r18 (m18 0 19) 0 m18) ml_X8_248 im_X8_enters se_X8_enters in_X8 co_X8_enters hy_X8_enters ⟨Nat.le_of_ble_eq_true rfl, Nat.le_of_ble_eq_true rfl⟩ lm_0 rfl rfl rfl (fun _ => Nat.le_of_ble_eq_true rfl) (fun r26 m26 hx26 hr26 => ?_)
  change tg_AW E _ _ _ _ _ [] _
  refine ta_join (γ := Int → Int → tg_Mem → tg_R) (fun J => ∀ (v5_427 : Int) (v6_427 : Int) (m_427 : tg_Mem), tg_AW E LM (some .int) (J v5_427 v6_427 m_427) 427 [tj_, tj_, tj_, ti_ a2, tj_, ti_ v5_427, ti_ v6_427, tj_, tj_, tj_, tj_, tj_, tj_, tj_] [] m_427) ?_ (fun j427 hj427 => ?_)
  · intro v5_427 v6_427 m_427
    refine ta_iloadn hE dX8_gameOf_427 rfl ?_
    refine ta_if_ne (tgt := 436) hE dX8_gameOf_428 (by decide) (fun c428 => ?_) (fun c428 => ?_)
    · refine ta_iload hE dX8_gameOf_436 rfl ?_
      exact ta_iret hE dX8_gameOf_438
    · refine ta_iload hE dX8_gameOf_431 rfl ?_
      refine ta_goto (tgt := 438) hE dX8_gameOf_433 (by decide) ?_
      exact ta_iret hE dX8_gameOf_438
  · have hl29 := ta_fx (γ := Int → Int → Int → tg_Mem → tg_R) (F := (f_X8_gameOf_B29 a1 j427)) (z := (fun _ _ _ _ => none)) (fun J => ∀ (v4_29 : Int) (v5_29 : Int) (v6_29 : Int) (m_29 : tg_Mem), tg_AW E LM (some .int) (J v4_29 v5_29 v6_29 m_29) 29 [tr_ 0, tj_, ti_ a1, ti_ a2, ti_ v4_29, ti_ v5_29, ti_ v6_29, tj_, tj_, tj_, tj_, tj_, tj_, tj_] [] m_29) (by intros; exact ta_none) (fun self29 hself29 => by
        intro v4_29 v5_29 v6_29 m_29
        unfold f_X8_gameOf_B29
        refine ta_iload hE dX8_gameOf_29 rfl ?_
        refine ta_if_lt (tgt := 427) hE dX8_gameOf_31 (by decide) (fun c31 => ?_) (fun c31 => ?_)
        · exact (ta_wk (i := 0) (lv2 := [tj_, tj_, ti_ a1, ti_ a2, ti_ v4_29, ti_ v5_29, ti_ v6_29, tj_, tj_, tj_, tj_, tj_, tj_, tj_]) rfl (ta_wk (i := 2) (lv2 := [tj_, tj_, tj_, ti_ a2, ti_ v4_29, ti_ v5_29, ti_ v6_29, tj_, tj_, tj_, tj_, tj_, tj_, tj_]) rfl (ta_wk (i := 4) (lv2 := [tj_, tj_, tj_, ti_ a2, tj_, ti_ v5_29, ti_ v6_29, tj_, tj_, tj_, tj_, tj_, tj_, tj_]) rfl (hj427 v5_29 v6_29 m_29))))
        · refine ta_iload hE dX8_gameOf_34 rfl ?_
          refine ta_iconst (v := 2) hE dX8_gameOf_36 rfl ⟨by decide, by decide⟩ ?_
          refine ta_irem hE dX8_gameOf_37 (by decide +kernel) ?_
          refine ta_nmi (fun v7_38 => ?_)
          refine ta_istore (lv2 := [tr_ 0, tj_, ti_ a1, ti_ a2, ti_ v4_29, ti_ v5_29, ti_ v6_29, ti_ v7_38, tj_, tj_, tj_, tj_, tj_, tj_]) hE dX8_gameOf_38 (Nat.le_of_ble_eq_true rfl) rfl rfl ?_
          refine ta_aloadn hE dX8_gameOf_40 rfl ?_
          refine ta_aloadn hE dX8_gameOf_41 rfl ?_
          refine gr_X8_62 hE dX8_gameOf_42 lm_0 rfl ?_
          refine ta_iload hE dX8_gameOf_45 rfl ?_
          refine ta_lald (n' := 6) hE dX8_gameOf_47 lm_18 rfl (fun _ _ => ?_)
          refine ta_callV (C := RX8) (T := TX8) (st := []) hE dX8_gameOf_48 (k_X8_comesTo (m_29 18 (v4_29).toNat) m_29) ml_X8_228 im_X8_comesTo se_X8_comesTo in_X8 co_X8_comesTo hy_X8_comesTo ⟨Nat.le_of_ble_eq_true rfl, Nat.le_of_ble_eq_true rfl⟩ lm_0 rfl rfl rfl (fun _ => Nat.le_of_ble_eq_true rfl) (fun r48 m48 hx48 hr48 => ?_)
          change tg_AW E _ _ _ _ _ [] _
          refine ta_aloadn hE dX8_gameOf_51 rfl ?_
          refine gr_X8_71 hE dX8_gameOf_52 lm_0 rfl ?_
          refine ta_iload hE dX8_gameOf_55 rfl ?_
          refine ta_dup2 hE dX8_gameOf_57 (fun _ => rfl) (fun _ => rfl) ?_
          refine ta_iald (n' := 6) hE dX8_gameOf_58 lm_21 rfl (fun _ _ => ?_)
          refine ta_iconst (v := 1) hE dX8_gameOf_59 rfl ⟨by decide, by decide⟩ ?_
          refine ta_iadd hE dX8_gameOf_60 ?_
          refine ta_iast (n' := 6) hE dX8_gameOf_61 lm_21 rfl (fun _ _ => ?_)
          refine ta_nmm (fun m61 => ?_)
          refine ta_join (γ := tg_Mem → tg_R) (fun J => ∀ (m_116 : tg_Mem), tg_AW E LM (some .int) (J m_116) 116 [tr_ 0, tj_, ti_ a1, ti_ a2, ti_ v4_29, ti_ v5_29, ti_ v6_29, ti_ v7_38, tj_, tj_, tj_, tj_, tj_, tj_] [] m_116) ?_ (fun j116 hj116 => ?_)
          · intro m_116
            refine ta_iload hE dX8_gameOf_116 rfl ?_
            refine ta_iloadn hE dX8_gameOf_118 rfl ?_
            refine ta_join (γ := Int → tg_R) (fun J => ∀ (s0_151 : Int), tg_AW E LM (some .int) (J s0_151) 151 [tr_ 0, tj_, ti_ a1, ti_ a2, ti_ v4_29, ti_ v5_29, ti_ v6_29, ti_ v7_38, tj_, tj_, tj_, tj_, tj_, tj_] [ti_ s0_151] m_116) ?_ (fun j151 hj151 => ?_)
            · intro s0_151
              refine ta_istore (lv2 := [tr_ 0, tj_, ti_ a1, ti_ a2, ti_ v4_29, ti_ v5_29, ti_ v6_29, ti_ v7_38, ti_ s0_151, tj_, tj_, tj_, tj_, tj_]) hE dX8_gameOf_151 (Nat.le_of_ble_eq_true rfl) rfl rfl ?_
              refine ta_iload hE dX8_gameOf_153 rfl ?_
              refine ta_join (γ := Int → Int → Int → tg_Mem → tg_R) (fun J => ∀ (v4_424 : Int) (v5_424 : Int) (v6_424 : Int) (m_424 : tg_Mem), tg_AW E LM (some .int) (J v4_424 v5_424 v6_424 m_424) 424 [tr_ 0, tj_, ti_ a1, ti_ a2, ti_ v4_424, ti_ v5_424, ti_ v6_424, tj_, tj_, tj_, tj_, tj_, tj_, tj_] [] m_424) ?_ (fun j424 hj424 => ?_)
              · intro v4_424 v5_424 v6_424 m_424
                refine ta_goto (tgt := 29) hE dX8_gameOf_424 (by decide) ?_
                exact (hself29 v4_424 v5_424 v6_424 m_424)
              · refine ta_if_eq (tgt := 305) hE dX8_gameOf_155 (by decide) (fun c155 => ?_) (fun c155 => ?_)
                · refine ta_aloadn hE dX8_gameOf_305 rfl ?_
                  refine gr_X8_71 hE dX8_gameOf_306 lm_0 rfl ?_
                  refine ta_iload hE dX8_gameOf_309 rfl ?_
                  refine ta_iald (n' := 6) hE dX8_gameOf_311 lm_21 rfl (fun _ _ => ?_)
                  refine ta_nmi (fun v9_312 => ?_)
                  refine ta_istore (lv2 := [tr_ 0, tj_, ti_ a1, ti_ a2, ti_ v4_29, ti_ v5_29, ti_ v6_29, ti_ v7_38, ti_ s0_151, ti_ v9_312, tj_, tj_, tj_, tj_]) hE dX8_gameOf_312 (Nat.le_of_ble_eq_true rfl) rfl rfl ?_
                  refine ta_aloadn hE dX8_gameOf_314 rfl ?_
                  refine gr_X8_68 hE dX8_gameOf_315 lm_0 rfl ?_
                  refine ta_iload hE dX8_gameOf_318 rfl ?_
                  refine ta_iald (n' := 6) hE dX8_gameOf_320 lm_20 rfl (fun _ _ => ?_)
                  refine ta_nmi (fun v10_321 => ?_)
                  refine ta_istore (lv2 := [tr_ 0, tj_, ti_ a1, ti_ a2, ti_ v4_29, ti_ v5_29, ti_ v6_29, ti_ v7_38, ti_ s0_151, ti_ v9_312, ti_ v10_321, tj_, tj_, tj_]) hE dX8_gameOf_321 (Nat.le_of_ble_eq_true rfl) rfl rfl ?_
                  refine ta_aloadn hE dX8_gameOf_323 rfl ?_
                  refine gr_X8_65 hE dX8_gameOf_324 lm_0 rfl ?_
                  refine ta_iload hE dX8_gameOf_327 rfl ?_
                  refine ta_iald (n' := 6) hE dX8_gameOf_329 lm_19 rfl (fun _ _ => ?_)
                  refine ta_nmi (fun v11_330 => ?_)
                  refine ta_istore (lv2 := [tr_ 0, tj_, ti_ a1, ti_ a2, ti_ v4_29, ti_ v5_29, ti_ v6_29, ti_ v7_38, ti_ s0_151, ti_ v9_312, ti_ v10_321, ti_ v11_330, tj_, tj_]) hE dX8_gameOf_330 (Nat.le_of_ble_eq_true rfl) rfl rfl ?_
                  refine ta_iload hE dX8_gameOf_332 rfl ?_
                  refine ta_iconst (v := (-1)) hE dX8_gameOf_334 rfl ⟨by decide, by decide⟩ ?_
                  refine ta_join (γ := Int → Int → tg_Mem → tg_R) (fun J => ∀ (v10_405 : Int) (v11_405 : Int) (m_405 : tg_Mem), tg_AW E LM (some .int) (J v10_405 v11_405 m_405) 405 [tr_ 0, tj_, ti_ a1, ti_ a2, ti_ v4_29, ti_ v5_29, ti_ v6_29, tj_, tj_, tj_, ti_ v10_405, ti_ v11_405, tj_, tj_] [] m_405) ?_ (fun j405 hj405 => ?_)
                  · intro v10_405 v11_405 m_405
                    refine ta_aloadn hE dX8_gameOf_405 rfl ?_
                    refine ta_iload hE dX8_gameOf_406 rfl ?_
                    refine ta_iconst (v := 1) hE dX8_gameOf_408 rfl ⟨by decide, by decide⟩ ?_
                    refine ta_iadd hE dX8_gameOf_409 ?_
                    refine ta_aloadn hE dX8_gameOf_410 rfl ?_
                    refine ta_callV (C := RX8) (T := TX8) (st := [ti_ (tg_wi (v4_29 + 1)), tr_ 0]) hE dX8_gameOf_411 (k_X8_wayNow m_405) ml_X8_220 im_X8_wayNow se_X8_wayNow in_X8 co_X8_wayNow hy_X8_wayNow ⟨Nat.le_of_ble_eq_true rfl, Nat.le_of_ble_eq_true rfl⟩ lm_0 rfl rfl rfl (fun _ => Nat.le_of_ble_eq_true rfl) (fun r411 m411 hx411 hr411 => ?_)
                    change tg_AW E _ _ _ _ _ (tl_ r411 :: _) _
                    refine ta_iload hE dX8_gameOf_414 rfl ?_
                    refine ta_iload hE dX8_gameOf_416 rfl ?_
                    refine ta_callV (C := RX8) (T := TX8) (st := []) hE dX8_gameOf_418 (k_X8_enters (tg_wi (v4_29 + 1)) r411 v11_405 v10_405 m411) ml_X8_248 im_X8_enters se_X8_enters in_X8 co_X8_enters hy_X8_enters ⟨Nat.le_of_ble_eq_true rfl, Nat.le_of_ble_eq_true rfl⟩ lm_0 rfl rfl rfl (fun _ => Nat.le_of_ble_eq_true rfl) (fun r418 m418 hx418 hr418 => ?_)
                    change tg_AW E _ _ _ _ _ [] _
                    refine ta_iincn (lv2 := fun v4_421 => [tr_ 0, tj_, ti_ a1, ti_ a2, ti_ v4_421, ti_ v5_29, ti_ v6_29, tj_, tj_, tj_, ti_ v10_405, ti_ v11_405, tj_, tj_]) hE dX8_gameOf_421 rfl rfl rfl (fun v4_421 => ?_)
                    exact (ta_wk (i := 10) (lv2 := [tr_ 0, tj_, ti_ a1, ti_ a2, ti_ v4_421, ti_ v5_29, ti_ v6_29, tj_, tj_, tj_, tj_, ti_ v11_405, tj_, tj_]) rfl (ta_wk (i := 11) (lv2 := [tr_ 0, tj_, ti_ a1, ti_ a2, ti_ v4_421, ti_ v5_29, ti_ v6_29, tj_, tj_, tj_, tj_, tj_, tj_, tj_]) rfl (hj424 v4_421 v5_29 v6_29 m418)))
                  · refine ta_icmp_eq (tgt := 405) hE dX8_gameOf_335 (by decide) (fun c335 => ?_) (fun c335 => ?_)
                    · exact (ta_wk (i := 7) (lv2 := [tr_ 0, tj_, ti_ a1, ti_ a2, ti_ v4_29, ti_ v5_29, ti_ v6_29, tj_, ti_ s0_151, ti_ v9_312, ti_ v10_321, ti_ v11_330, tj_, tj_]) rfl (ta_wk (i := 8) (lv2 := [tr_ 0, tj_, ti_ a1, ti_ a2, ti_ v4_29, ti_ v5_29, ti_ v6_29, tj_, tj_, ti_ v9_312, ti_ v10_321, ti_ v11_330, tj_, tj_]) rfl (ta_wk (i := 9) (lv2 := [tr_ 0, tj_, ti_ a1, ti_ a2, ti_ v4_29, ti_ v5_29, ti_ v6_29, tj_, tj_, tj_, ti_ v10_321, ti_ v11_330, tj_, tj_]) rfl (hj405 v10_321 v11_330 m_116))))
                    · refine ta_aloadn hE dX8_gameOf_338 rfl ?_
                      refine ta_iload hE dX8_gameOf_339 rfl ?_
                      refine ta_iload hE dX8_gameOf_341 rfl ?_
                      refine ta_callV (C := RX8) (T := TX8) (st := []) hE dX8_gameOf_343 (k_X8_goes v7_38 v9_312 m_116) ml_X8_180 im_X8_goes se_X8_goes in_X8 co_X8_goes hy_X8_goes ⟨Nat.le_of_ble_eq_true rfl, Nat.le_of_ble_eq_true rfl⟩ lm_0 rfl rfl rfl (fun _ => Nat.le_of_ble_eq_true rfl) (fun r343 m343 hx343 hr343 => ?_)
                      change tg_AW E _ _ _ _ _ [] _
                      refine ta_aloadn hE dX8_gameOf_346 rfl ?_
                      refine gr_X8_40 hE dX8_gameOf_347 lm_0 rfl ?_
                      refine ta_iload hE dX8_gameOf_350 rfl ?_
                      refine ta_iald (n' := 2) hE dX8_gameOf_352 lm_11 rfl (fun _ _ => ?_)
                      refine ta_nmi (fun v12_353 => ?_)
                      refine ta_istore (lv2 := [tr_ 0, tj_, ti_ a1, ti_ a2, ti_ v4_29, ti_ v5_29, ti_ v6_29, ti_ v7_38, ti_ s0_151, ti_ v9_312, ti_ v10_321, ti_ v11_330, ti_ v12_353, tj_]) hE dX8_gameOf_353 (Nat.le_of_ble_eq_true rfl) rfl rfl ?_
                      refine ta_iload hE dX8_gameOf_355 rfl ?_
                      refine ta_iload hE dX8_gameOf_357 rfl ?_
                      refine ta_ishr hE dX8_gameOf_359 ?_
                      refine ta_iconst (v := 1) hE dX8_gameOf_360 rfl ⟨by decide, by decide⟩ ?_
                      refine ta_iand hE dX8_gameOf_361 ?_
                      refine ta_join (γ := Int → tg_R) (fun J => ∀ (s0_376 : Int), tg_AW E LM (some .int) (J s0_376) 376 [tr_ 0, tj_, ti_ a1, ti_ a2, ti_ v4_29, ti_ v5_29, ti_ v6_29, ti_ v7_38, tj_, tj_, ti_ v10_321, ti_ v11_330, ti_ v12_353, tj_] [ti_ s0_376] m343) ?_ (fun j376 hj376 => ?_)
                      · intro s0_376
                        refine ta_istore (lv2 := [tr_ 0, tj_, ti_ a1, ti_ a2, ti_ v4_29, ti_ v5_29, ti_ v6_29, ti_ v7_38, tj_, tj_, ti_ v10_321, ti_ v11_330, ti_ v12_353, ti_ s0_376]) hE dX8_gameOf_376 (Nat.le_of_ble_eq_true rfl) rfl rfl ?_
                        refine ta_iload hE dX8_gameOf_378 rfl ?_
                        refine ta_iload hE dX8_gameOf_380 rfl ?_
                        refine ta_join (γ := Int → tg_R) (fun J => ∀ (s0_393 : Int), tg_AW E LM (some .int) (J s0_393) 393 [tr_ 0, tj_, ti_ a1, ti_ a2, ti_ v4_29, ti_ v5_29, ti_ v6_29, tj_, tj_, tj_, tj_, ti_ v11_330, ti_ v12_353, tj_] [ti_ s0_393, ti_ v10_321] m343) ?_ (fun j393 hj393 => ?_)
                        · intro s0_393
                          refine ta_iadd hE dX8_gameOf_393 ?_
                          refine ta_nmi (fun v10_394 => ?_)
                          refine ta_istore (lv2 := [tr_ 0, tj_, ti_ a1, ti_ a2, ti_ v4_29, ti_ v5_29, ti_ v6_29, tj_, tj_, tj_, ti_ v10_394, ti_ v11_330, ti_ v12_353, tj_]) hE dX8_gameOf_394 (Nat.le_of_ble_eq_true rfl) rfl rfl ?_
                          refine ta_iload hE dX8_gameOf_396 rfl ?_
                          refine ta_iconst (v := 1) hE dX8_gameOf_398 rfl ⟨by decide, by decide⟩ ?_
                          refine ta_iload hE dX8_gameOf_399 rfl ?_
                          refine ta_ishl hE dX8_gameOf_401 ?_
                          refine ta_ior hE dX8_gameOf_402 ?_
                          refine ta_nmi (fun v11_403 => ?_)
                          refine ta_istore (lv2 := [tr_ 0, tj_, ti_ a1, ti_ a2, ti_ v4_29, ti_ v5_29, ti_ v6_29, tj_, tj_, tj_, ti_ v10_394, ti_ v11_403, ti_ v12_353, tj_]) hE dX8_gameOf_403 (Nat.le_of_ble_eq_true rfl) rfl rfl ?_
                          exact (ta_wk (i := 12) (lv2 := [tr_ 0, tj_, ti_ a1, ti_ a2, ti_ v4_29, ti_ v5_29, ti_ v6_29, tj_, tj_, tj_, ti_ v10_394, ti_ v11_403, tj_, tj_]) rfl (hj405 v10_394 v11_403 m343))
                        · refine ta_if_ne (tgt := 390) hE dX8_gameOf_382 (by decide) (fun c382 => ?_) (fun c382 => ?_)
                          · refine ta_iload hE dX8_gameOf_390 rfl ?_
                            refine ta_ineg hE dX8_gameOf_392 ?_
                            exact (ta_wk (i := 7) (lv2 := [tr_ 0, tj_, ti_ a1, ti_ a2, ti_ v4_29, ti_ v5_29, ti_ v6_29, tj_, tj_, tj_, ti_ v10_321, ti_ v11_330, ti_ v12_353, ti_ s0_376]) rfl (ta_wk (i := 10) (lv2 := [tr_ 0, tj_, ti_ a1, ti_ a2, ti_ v4_29, ti_ v5_29, ti_ v6_29, tj_, tj_, tj_, tj_, ti_ v11_330, ti_ v12_353, ti_ s0_376]) rfl (ta_wk (i := 13) (lv2 := [tr_ 0, tj_, ti_ a1, ti_ a2, ti_ v4_29, ti_ v5_29, ti_ v6_29, tj_, tj_, tj_, tj_, ti_ v11_330, ti_ v12_353, tj_]) rfl (hj393 (tg_wi (-s0_376))))))
                          · refine ta_iload hE dX8_gameOf_385 rfl ?_
                            refine ta_goto (tgt := 393) hE dX8_gameOf_387 (by decide) ?_
                            exact (ta_wk (i := 7) (lv2 := [tr_ 0, tj_, ti_ a1, ti_ a2, ti_ v4_29, ti_ v5_29, ti_ v6_29, tj_, tj_, tj_, ti_ v10_321, ti_ v11_330, ti_ v12_353, ti_ s0_376]) rfl (ta_wk (i := 10) (lv2 := [tr_ 0, tj_, ti_ a1, ti_ a2, ti_ v4_29, ti_ v5_29, ti_ v6_29, tj_, tj_, tj_, tj_, ti_ v11_330, ti_ v12_353, ti_ s0_376]) rfl (ta_wk (i := 13) (lv2 := [tr_ 0, tj_, ti_ a1, ti_ a2, ti_ v4_29, ti_ v5_29, ti_ v6_29, tj_, tj_, tj_, tj_, ti_ v11_330, ti_ v12_353, tj_]) rfl (hj393 s0_376))))
                      · refine ta_if_ne (tgt := 375) hE dX8_gameOf_362 (by decide) (fun c362 => ?_) (fun c362 => ?_)
                        · refine ta_iconst (v := 0) hE dX8_gameOf_375 rfl ⟨by decide, by decide⟩ ?_
                          exact (ta_wk (i := 8) (lv2 := [tr_ 0, tj_, ti_ a1, ti_ a2, ti_ v4_29, ti_ v5_29, ti_ v6_29, ti_ v7_38, tj_, ti_ v9_312, ti_ v10_321, ti_ v11_330, ti_ v12_353, tj_]) rfl (ta_wk (i := 9) (lv2 := [tr_ 0, tj_, ti_ a1, ti_ a2, ti_ v4_29, ti_ v5_29, ti_ v6_29, ti_ v7_38, tj_, tj_, ti_ v10_321, ti_ v11_330, ti_ v12_353, tj_]) rfl (hj376 0)))
                        · refine ta_aloadn hE dX8_gameOf_365 rfl ?_
                          refine gr_X8_37 hE dX8_gameOf_366 lm_0 rfl ?_
                          refine ta_iload hE dX8_gameOf_369 rfl ?_
                          refine ta_iald (n' := 8) hE dX8_gameOf_371 lm_10 rfl (fun _ _ => ?_)
                          refine ta_goto (tgt := 376) hE dX8_gameOf_372 (by decide) ?_
                          exact (ta_wk (i := 8) (lv2 := [tr_ 0, tj_, ti_ a1, ti_ a2, ti_ v4_29, ti_ v5_29, ti_ v6_29, ti_ v7_38, tj_, ti_ v9_312, ti_ v10_321, ti_ v11_330, ti_ v12_353, tj_]) rfl (ta_wk (i := 9) (lv2 := [tr_ 0, tj_, ti_ a1, ti_ a2, ti_ v4_29, ti_ v5_29, ti_ v6_29, ti_ v7_38, tj_, tj_, ti_ v10_321, ti_ v11_330, ti_ v12_353, tj_]) rfl (hj376 (m343 10 (v12_353).toNat))))
                · refine ta_iload hE dX8_gameOf_158 rfl ?_
                  refine ta_iloadn hE dX8_gameOf_160 rfl ?_
                  refine ta_join (γ := Int → tg_R) (fun J => ∀ (s0_181 : Int), tg_AW E LM (some .int) (J s0_181) 181 [tr_ 0, tj_, ti_ a1, ti_ a2, ti_ v4_29, ti_ v5_29, tj_, tj_, tj_, tj_, tj_, tj_, tj_, tj_] [ti_ s0_181] m_116) ?_ (fun j181 hj181 => ?_)
                  · intro s0_181
                    refine ta_istore (lv2 := [tr_ 0, tj_, ti_ a1, ti_ a2, ti_ v4_29, ti_ v5_29, ti_ s0_181, tj_, tj_, tj_, tj_, tj_, tj_, tj_]) hE dX8_gameOf_181 (Nat.le_of_ble_eq_true rfl) rfl rfl ?_
                    refine ta_iincn (lv2 := fun v4_183 => [tr_ 0, tj_, ti_ a1, ti_ a2, ti_ v4_183, ti_ v5_29, ti_ s0_181, tj_, tj_, tj_, tj_, tj_, tj_, tj_]) hE dX8_gameOf_183 rfl rfl rfl (fun v4_183 => ?_)
                    refine ta_iload hE dX8_gameOf_186 rfl ?_
                    refine ta_if_lt (tgt := 424) hE dX8_gameOf_188 (by decide) (fun c188 => ?_) (fun c188 => ?_)
                    · exact (hj424 v4_183 v5_29 s0_181 m_116)
                    · refine ta_aloadn hE dX8_gameOf_191 rfl ?_
                      refine gr_X8_71 hE dX8_gameOf_192 lm_0 rfl ?_
                      refine ta_iload hE dX8_gameOf_195 rfl ?_
                      refine ta_iald (n' := 6) hE dX8_gameOf_197 lm_21 rfl (fun _ _ => ?_)
                      refine ta_iconst (v := (-1)) hE dX8_gameOf_198 rfl ⟨by decide, by decide⟩ ?_
                      refine ta_join (γ := Int → tg_R) (fun J => ∀ (s0_207 : Int), tg_AW E LM (some .int) (J s0_207) 207 [tr_ 0, tj_, ti_ a1, ti_ a2, ti_ v4_183, ti_ v5_29, ti_ s0_181, tj_, tj_, tj_, tj_, tj_, tj_, tj_] [ti_ s0_207] m_116) ?_ (fun j207 hj207 => ?_)
                      · intro s0_207
                        refine ta_istore (lv2 := [tr_ 0, tj_, ti_ a1, ti_ a2, ti_ v4_183, ti_ v5_29, ti_ s0_181, tj_, tj_, ti_ s0_207, tj_, tj_, tj_, tj_]) hE dX8_gameOf_207 (Nat.le_of_ble_eq_true rfl) rfl rfl ?_
                        refine ta_iload hE dX8_gameOf_209 rfl ?_
                        refine ta_join (γ := Int → tg_R) (fun J => ∀ (s0_253 : Int), tg_AW E LM (some .int) (J s0_253) 253 [tr_ 0, tj_, ti_ a1, ti_ a2, ti_ v4_183, ti_ v5_29, ti_ s0_181, tj_, tj_, tj_, tj_, tj_, tj_, tj_] [ti_ s0_253] m_116) ?_ (fun j253 hj253 => ?_)
                        · intro s0_253
                          refine ta_istore (lv2 := [tr_ 0, tj_, ti_ a1, ti_ a2, ti_ v4_183, ti_ v5_29, ti_ s0_181, tj_, tj_, tj_, ti_ s0_253, tj_, tj_, tj_]) hE dX8_gameOf_253 (Nat.le_of_ble_eq_true rfl) rfl rfl ?_
                          refine ta_iload hE dX8_gameOf_255 rfl ?_
                          refine ta_join (γ := Int → tg_R) (fun J => ∀ (s0_276 : Int), tg_AW E LM (some .int) (J s0_276) 276 [tr_ 0, tj_, ti_ a1, ti_ a2, ti_ v4_183, tj_, ti_ s0_181, tj_, tj_, tj_, ti_ s0_253, tj_, tj_, tj_] [ti_ s0_276] m_116) ?_ (fun j276 hj276 => ?_)
                          · intro s0_276
                            refine ta_istore (lv2 := [tr_ 0, tj_, ti_ a1, ti_ a2, ti_ v4_183, ti_ s0_276, ti_ s0_181, tj_, tj_, tj_, ti_ s0_253, tj_, tj_, tj_]) hE dX8_gameOf_276 (Nat.le_of_ble_eq_true rfl) rfl rfl ?_
                            refine ta_aloadn hE dX8_gameOf_278 rfl ?_
                            refine gr_X8_74 hE dX8_gameOf_279 lm_0 rfl ?_
                            refine ta_iload hE dX8_gameOf_282 rfl ?_
                            refine ta_iload hE dX8_gameOf_284 rfl ?_
                            refine ta_join (γ := Int → tg_R) (fun J => ∀ (s0_301 : Int), tg_AW E LM (some .int) (J s0_301) 301 [tr_ 0, tj_, ti_ a1, ti_ a2, ti_ v4_183, ti_ s0_276, ti_ s0_181, tj_, tj_, tj_, tj_, tj_, tj_, tj_] [ti_ s0_301, ti_ v4_183, tr_ 22] m_116) ?_ (fun j301 hj301 => ?_)
                            · intro s0_301
                              refine ta_iast (n' := 6) hE dX8_gameOf_301 lm_22 rfl (fun _ _ => ?_)
                              refine ta_nmm (fun m301 => ?_)
                              refine ta_goto (tgt := 424) hE dX8_gameOf_302 (by decide) ?_
                              exact (hj424 v4_183 s0_276 s0_181 m301)
                            · refine ta_if_eq (tgt := 294) hE dX8_gameOf_286 (by decide) (fun c286 => ?_) (fun c286 => ?_)
                              · refine ta_aloadn hE dX8_gameOf_294 rfl ?_
                                refine gr_X8_74 hE dX8_gameOf_295 lm_0 rfl ?_
                                refine ta_iload hE dX8_gameOf_298 rfl ?_
                                refine ta_iald (n' := 6) hE dX8_gameOf_300 lm_22 rfl (fun _ _ => ?_)
                                exact (ta_wk (i := 10) (lv2 := [tr_ 0, tj_, ti_ a1, ti_ a2, ti_ v4_183, ti_ s0_276, ti_ s0_181, tj_, tj_, tj_, tj_, tj_, tj_, tj_]) rfl (hj301 (m_116 22 (v4_183).toNat)))
                              · refine ta_iload hE dX8_gameOf_289 rfl ?_
                                refine ta_goto (tgt := 301) hE dX8_gameOf_291 (by decide) ?_
                                exact (ta_wk (i := 10) (lv2 := [tr_ 0, tj_, ti_ a1, ti_ a2, ti_ v4_183, ti_ s0_276, ti_ s0_181, tj_, tj_, tj_, tj_, tj_, tj_, tj_]) rfl (hj301 s0_181))
                          · refine ta_join (γ := tg_R) (fun J => tg_AW E LM (some .int) J 274 [tr_ 0, tj_, ti_ a1, ti_ a2, ti_ v4_183, ti_ v5_29, ti_ s0_181, tj_, tj_, tj_, ti_ s0_253, tj_, tj_, tj_] [] m_116) ?_ (fun j274 hj274 => ?_)
                            · refine ta_iload hE dX8_gameOf_274 rfl ?_
                              exact (ta_wk (i := 5) (lv2 := [tr_ 0, tj_, ti_ a1, ti_ a2, ti_ v4_183, tj_, ti_ s0_181, tj_, tj_, tj_, ti_ s0_253, tj_, tj_, tj_]) rfl (hj276 v5_29))
                            · refine ta_if_eq (tgt := 274) hE dX8_gameOf_257 (by decide) (fun c257 => ?_) (fun c257 => ?_)
                              · exact hj274
                              · refine ta_iload hE dX8_gameOf_260 rfl ?_
                                refine ta_if_ne (tgt := 274) hE dX8_gameOf_262 (by decide) (fun c262 => ?_) (fun c262 => ?_)
                                · exact hj274
                                · refine ta_aloadn hE dX8_gameOf_265 rfl ?_
                                  refine gr_X8_71 hE dX8_gameOf_266 lm_0 rfl ?_
                                  refine ta_iconst (v := 0) hE dX8_gameOf_269 rfl ⟨by decide, by decide⟩ ?_
                                  refine ta_iald (n' := 6) hE dX8_gameOf_270 lm_21 rfl (fun _ _ => ?_)
                                  refine ta_goto (tgt := 276) hE dX8_gameOf_271 (by decide) ?_
                                  exact (ta_wk (i := 5) (lv2 := [tr_ 0, tj_, ti_ a1, ti_ a2, ti_ v4_183, tj_, ti_ s0_181, tj_, tj_, tj_, ti_ s0_253, tj_, tj_, tj_]) rfl (hj276 (m_116 21 0)))
                        · refine ta_join (γ := tg_R) (fun J => tg_AW E LM (some .int) J 248 [tr_ 0, tj_, ti_ a1, ti_ a2, ti_ v4_183, ti_ v5_29, ti_ s0_181, tj_, tj_, tj_, tj_, tj_, tj_, tj_] [] m_116) ?_ (fun j248 hj248 => ?_)
                          · refine ta_iconst (v := 1) hE dX8_gameOf_248 rfl ⟨by decide, by decide⟩ ?_
                            refine ta_goto (tgt := 253) hE dX8_gameOf_249 (by decide) ?_
                            exact (hj253 1)
                          · refine ta_if_ne (tgt := 248) hE dX8_gameOf_211 (by decide) (fun c211 => ?_) (fun c211 => ?_)
                            · exact (ta_wk (i := 9) (lv2 := [tr_ 0, tj_, ti_ a1, ti_ a2, ti_ v4_183, ti_ v5_29, ti_ s0_181, tj_, tj_, tj_, tj_, tj_, tj_, tj_]) rfl hj248)
                            · refine ta_iload hE dX8_gameOf_214 rfl ?_
                              refine ta_iconst (v := 2) hE dX8_gameOf_216 rfl ⟨by decide, by decide⟩ ?_
                              refine ta_irem hE dX8_gameOf_217 (by decide +kernel) ?_
                              refine ta_join (γ := tg_R) (fun J => tg_AW E LM (some .int) J 252 [tr_ 0, tj_, ti_ a1, ti_ a2, ti_ v4_183, ti_ v5_29, ti_ s0_181, tj_, tj_, tj_, tj_, tj_, tj_, tj_] [] m_116) ?_ (fun j252 hj252 => ?_)
                              · refine ta_iconst (v := 0) hE dX8_gameOf_252 rfl ⟨by decide, by decide⟩ ?_
                                exact (hj253 0)
                              · refine ta_if_ne (tgt := 236) hE dX8_gameOf_218 (by decide) (fun c218 => ?_) (fun c218 => ?_)
                                · refine ta_iload hE dX8_gameOf_236 rfl ?_
                                  refine ta_aloadn hE dX8_gameOf_238 rfl ?_
                                  refine gr_X8_74 hE dX8_gameOf_239 lm_0 rfl ?_
                                  refine ta_iload hE dX8_gameOf_242 rfl ?_
                                  refine ta_iald (n' := 6) hE dX8_gameOf_244 lm_22 rfl (fun _ _ => ?_)
                                  refine ta_icmp_ge (tgt := 252) hE dX8_gameOf_245 (by decide) (fun c245 => ?_) (fun c245 => ?_)
                                  · exact (ta_wk (i := 9) (lv2 := [tr_ 0, tj_, ti_ a1, ti_ a2, ti_ v4_183, ti_ v5_29, ti_ s0_181, tj_, tj_, tj_, tj_, tj_, tj_, tj_]) rfl hj252)
                                  · exact (ta_wk (i := 9) (lv2 := [tr_ 0, tj_, ti_ a1, ti_ a2, ti_ v4_183, ti_ v5_29, ti_ s0_181, tj_, tj_, tj_, tj_, tj_, tj_, tj_]) rfl hj248)
                                · refine ta_iload hE dX8_gameOf_221 rfl ?_
                                  refine ta_aloadn hE dX8_gameOf_223 rfl ?_
                                  refine gr_X8_74 hE dX8_gameOf_224 lm_0 rfl ?_
                                  refine ta_iload hE dX8_gameOf_227 rfl ?_
                                  refine ta_iald (n' := 6) hE dX8_gameOf_229 lm_22 rfl (fun _ _ => ?_)
                                  refine ta_icmp_le (tgt := 252) hE dX8_gameOf_230 (by decide) (fun c230 => ?_) (fun c230 => ?_)
                                  · exact (ta_wk (i := 9) (lv2 := [tr_ 0, tj_, ti_ a1, ti_ a2, ti_ v4_183, ti_ v5_29, ti_ s0_181, tj_, tj_, tj_, tj_, tj_, tj_, tj_]) rfl hj252)
                                  · refine ta_goto (tgt := 248) hE dX8_gameOf_233 (by decide) ?_
                                    exact (ta_wk (i := 9) (lv2 := [tr_ 0, tj_, ti_ a1, ti_ a2, ti_ v4_183, ti_ v5_29, ti_ s0_181, tj_, tj_, tj_, tj_, tj_, tj_, tj_]) rfl hj248)
                      · refine ta_icmp_ne (tgt := 206) hE dX8_gameOf_199 (by decide) (fun c199 => ?_) (fun c199 => ?_)
                        · refine ta_iconst (v := 0) hE dX8_gameOf_206 rfl ⟨by decide, by decide⟩ ?_
                          exact (hj207 0)
                        · refine ta_iconst (v := 1) hE dX8_gameOf_202 rfl ⟨by decide, by decide⟩ ?_
                          refine ta_goto (tgt := 207) hE dX8_gameOf_203 (by decide) ?_
                          exact (hj207 1)
                  · refine ta_icmp_ne (tgt := 174) hE dX8_gameOf_161 (by decide) (fun c161 => ?_) (fun c161 => ?_)
                    · refine ta_aloadn hE dX8_gameOf_174 rfl ?_
                      refine gr_X8_74 hE dX8_gameOf_175 lm_0 rfl ?_
                      refine ta_iload hE dX8_gameOf_178 rfl ?_
                      refine ta_iald (n' := 6) hE dX8_gameOf_180 lm_22 rfl (fun _ _ => ?_)
                      exact (ta_wk (i := 6) (lv2 := [tr_ 0, tj_, ti_ a1, ti_ a2, ti_ v4_29, ti_ v5_29, tj_, ti_ v7_38, ti_ s0_151, tj_, tj_, tj_, tj_, tj_]) rfl (ta_wk (i := 7) (lv2 := [tr_ 0, tj_, ti_ a1, ti_ a2, ti_ v4_29, ti_ v5_29, tj_, tj_, ti_ s0_151, tj_, tj_, tj_, tj_, tj_]) rfl (ta_wk (i := 8) (lv2 := [tr_ 0, tj_, ti_ a1, ti_ a2, ti_ v4_29, ti_ v5_29, tj_, tj_, tj_, tj_, tj_, tj_, tj_, tj_]) rfl (hj181 (m_116 22 (v4_29).toNat)))))
                    · refine ta_aloadn hE dX8_gameOf_164 rfl ?_
                      refine gr_X8_68 hE dX8_gameOf_165 lm_0 rfl ?_
                      refine ta_iload hE dX8_gameOf_168 rfl ?_
                      refine ta_iald (n' := 6) hE dX8_gameOf_170 lm_20 rfl (fun _ _ => ?_)
                      refine ta_goto (tgt := 181) hE dX8_gameOf_171 (by decide) ?_
                      exact (ta_wk (i := 6) (lv2 := [tr_ 0, tj_, ti_ a1, ti_ a2, ti_ v4_29, ti_ v5_29, tj_, ti_ v7_38, ti_ s0_151, tj_, tj_, tj_, tj_, tj_]) rfl (ta_wk (i := 7) (lv2 := [tr_ 0, tj_, ti_ a1, ti_ a2, ti_ v4_29, ti_ v5_29, tj_, tj_, ti_ s0_151, tj_, tj_, tj_, tj_, tj_]) rfl (ta_wk (i := 8) (lv2 := [tr_ 0, tj_, ti_ a1, ti_ a2, ti_ v4_29, ti_ v5_29, tj_, tj_, tj_, tj_, tj_, tj_, tj_, tj_]) rfl (hj181 (m_116 20 (v4_29).toNat)))))
            · refine ta_join (γ := tg_R) (fun J => tg_AW E LM (some .int) J 146 [tr_ 0, tj_, ti_ a1, ti_ a2, ti_ v4_29, ti_ v5_29, ti_ v6_29, ti_ v7_38, tj_, tj_, tj_, tj_, tj_, tj_] [] m_116) ?_ (fun j146 hj146 => ?_)
              · refine ta_iconst (v := 1) hE dX8_gameOf_146 rfl ⟨by decide, by decide⟩ ?_
                refine ta_goto (tgt := 151) hE dX8_gameOf_147 (by decide) ?_
                exact (hj151 1)
              · refine ta_icmp_eq (tgt := 146) hE dX8_gameOf_119 (by decide) (fun c119 => ?_) (fun c119 => ?_)
                · exact hj146
                · refine ta_aloadn hE dX8_gameOf_122 rfl ?_
                  refine gr_X8_71 hE dX8_gameOf_123 lm_0 rfl ?_
                  refine ta_iload hE dX8_gameOf_126 rfl ?_
                  refine ta_iald (n' := 6) hE dX8_gameOf_128 lm_21 rfl (fun _ _ => ?_)
                  refine ta_join (γ := tg_R) (fun J => tg_AW E LM (some .int) J 150 [tr_ 0, tj_, ti_ a1, ti_ a2, ti_ v4_29, ti_ v5_29, ti_ v6_29, ti_ v7_38, tj_, tj_, tj_, tj_, tj_, tj_] [] m_116) ?_ (fun j150 hj150 => ?_)
                  · refine ta_iconst (v := 0) hE dX8_gameOf_150 rfl ⟨by decide, by decide⟩ ?_
                    exact (hj151 0)
                  · refine ta_if_lt (tgt := 150) hE dX8_gameOf_129 (by decide) (fun c129 => ?_) (fun c129 => ?_)
                    · exact hj150
                    · refine ta_aloadn hE dX8_gameOf_132 rfl ?_
                      refine gr_X8_71 hE dX8_gameOf_133 lm_0 rfl ?_
                      refine ta_iload hE dX8_gameOf_136 rfl ?_
                      refine ta_iald (n' := 6) hE dX8_gameOf_138 lm_21 rfl (fun _ _ => ?_)
                      refine ta_aloadn hE dX8_gameOf_139 rfl ?_
                      refine gf_X8_111 hE dX8_gameOf_140 lm_0 rfl ?_
                      refine ta_icmp_lt (tgt := 150) hE dX8_gameOf_143 (by decide) (fun c143 => ?_) (fun c143 => ?_)
                      · exact hj150
                      · exact hj146
          · have hl62 := ta_fx (γ := tg_Mem → tg_R) (F := (f_X8_gameOf_B62 v4_29 v7_38 j116)) (z := (fun _ => none)) (fun J => ∀ (m_62 : tg_Mem), tg_AW E LM (some .int) (J m_62) 62 [tr_ 0, tj_, ti_ a1, ti_ a2, ti_ v4_29, ti_ v5_29, ti_ v6_29, ti_ v7_38, tj_, tj_, tj_, tj_, tj_, tj_] [] m_62) (by intros; exact ta_none) (fun self62 hself62 => by
                intro m_62
                unfold f_X8_gameOf_B62
                refine ta_aloadn hE dX8_gameOf_62 rfl ?_
                refine gr_X8_71 hE dX8_gameOf_63 lm_0 rfl ?_
                refine ta_iload hE dX8_gameOf_66 rfl ?_
                refine ta_iald (n' := 6) hE dX8_gameOf_68 lm_21 rfl (fun _ _ => ?_)
                refine ta_if_lt (tgt := 116) hE dX8_gameOf_69 (by decide) (fun c69 => ?_) (fun c69 => ?_)
                · exact (hj116 m_62)
                · refine ta_aloadn hE dX8_gameOf_72 rfl ?_
                  refine gr_X8_71 hE dX8_gameOf_73 lm_0 rfl ?_
                  refine ta_iload hE dX8_gameOf_76 rfl ?_
                  refine ta_iald (n' := 6) hE dX8_gameOf_78 lm_21 rfl (fun _ _ => ?_)
                  refine ta_aloadn hE dX8_gameOf_79 rfl ?_
                  refine gf_X8_111 hE dX8_gameOf_80 lm_0 rfl ?_
                  refine ta_icmp_ge (tgt := 116) hE dX8_gameOf_83 (by decide) (fun c83 => ?_) (fun c83 => ?_)
                  · exact (hj116 m_62)
                  · refine ta_aloadn hE dX8_gameOf_86 rfl ?_
                    refine ta_iload hE dX8_gameOf_87 rfl ?_
                    refine ta_aloadn hE dX8_gameOf_89 rfl ?_
                    refine gr_X8_71 hE dX8_gameOf_90 lm_0 rfl ?_
                    refine ta_iload hE dX8_gameOf_93 rfl ?_
                    refine ta_iald (n' := 6) hE dX8_gameOf_95 lm_21 rfl (fun _ _ => ?_)
                    refine ta_callV (C := RX8) (T := TX8) (st := []) hE dX8_gameOf_96 (k_X8_mayPick v7_38 (m_62 21 (v4_29).toNat) m_62) ml_X8_252 im_X8_mayPick se_X8_mayPick in_X8 co_X8_mayPick hy_X8_mayPick ⟨Nat.le_of_ble_eq_true rfl, Nat.le_of_ble_eq_true rfl⟩ lm_0 rfl rfl rfl (fun _ => Nat.le_of_ble_eq_true rfl) (fun r96 m96 hx96 hr96 => ?_)
                    change tg_AW E _ _ _ _ _ (ti_ r96 :: _) _
                    refine ta_if_ne (tgt := 116) hE dX8_gameOf_99 (by decide) (fun c99 => ?_) (fun c99 => ?_)
                    · exact (hj116 m96)
                    · refine ta_aloadn hE dX8_gameOf_102 rfl ?_
                      refine gr_X8_71 hE dX8_gameOf_103 lm_0 rfl ?_
                      refine ta_iload hE dX8_gameOf_106 rfl ?_
                      refine ta_dup2 hE dX8_gameOf_108 (fun _ => rfl) (fun _ => rfl) ?_
                      refine ta_iald (n' := 6) hE dX8_gameOf_109 lm_21 rfl (fun _ _ => ?_)
                      refine ta_iconst (v := 1) hE dX8_gameOf_110 rfl ⟨by decide, by decide⟩ ?_
                      refine ta_iadd hE dX8_gameOf_111 ?_
                      refine ta_iast (n' := 6) hE dX8_gameOf_112 lm_21 rfl (fun _ _ => ?_)
                      refine ta_nmm (fun m112 => ?_)
                      refine ta_goto (tgt := 62) hE dX8_gameOf_113 (by decide) ?_
                      exact (hself62 m112))
            exact (hl62 tg_FU m61))
    exact (ta_wk (i := 1) (lv2 := [tr_ 0, tj_, ti_ a1, ti_ a2, ti_ 0, ti_ (-1), ti_ 0, tj_, tj_, tj_, tj_, tj_, tj_, tj_]) rfl (hl29 tg_FU 0 (-1) 0 m26))
noncomputable def f_X8_game (a0 : Int) (a1 : Int) (a2 : Int) (m : tg_Mem) : tg_R :=
  tg_bd (f_X8_reads  m) (fun _ m1 =>
    tg_bd (f_X8_isTwo a0 m1) (fun r6 m6 =>
      tg_jn (γ := tg_Mem → tg_R) (fun (m_41 : tg_Mem) => some ((-10002), m_41)) (fun j41 =>
        if r6 = 0 then
          j41 m6
        else
          tg_bd (f_X8_in a1 1 5 m6) (fun r18 m18 =>
            if r18 = 0 then
              j41 m18
            else
              tg_bd (f_X8_isTwo a2 m18) (fun r25 m25 =>
                if r25 = 0 then
                  j41 m25
                else
                  tg_bd (f_X8_gameOf a0 a1 a2 m25) (fun r35 m35 =>
                    some (r35, m35)))))))
theorem hy_X8_game : yX8_game.cls = RX8 ∧ yX8_game.cls ≠ "java/lang/invoke/MethodHandle" ∧ yX8_game.cls ≠ "java/lang/invoke/VarHandle" ∧ (parseMethodDescriptor yX8_game.desc).map (fun q => q.parameters.length) = some 3 := by decide +kernel
set_option maxRecDepth 100000 in
set_option maxHeartbeats 4000000 in
theorem k_X8_game   (a0 : Int) (a1 : Int) (a2 : Int) (m : tg_Mem) : tg_C yX8_game cX8_game 4 (some .int) 7 LM [tr_ 0, ti_ a0, ti_ a1, ti_ a2] (f_X8_game a0 a1 a2 m) m := by
  refine ta_enter2 (own := RX8) (by decide +kernel) rfl rfl (Nat.le_of_ble_eq_true rfl) rfl (fun E hE => ?_)
  unfold f_X8_game
  refine ta_aloadn hE dX8_game_0 rfl ?_
  refine ta_callV (C := RX8) (T := TX8) (st := []) hE dX8_game_1 (k_X8_reads m) ml_X8_129 im_X8_reads se_X8_reads in_X8 co_X8_reads hy_X8_reads ⟨Nat.le_of_ble_eq_true rfl, Nat.le_of_ble_eq_true rfl⟩ lm_0 rfl rfl rfl (fun _ => Nat.le_of_ble_eq_true rfl) (fun r1 m1 hx1 hr1 => ?_)
  change tg_AW E _ _ _ _ _ (ti_ r1 :: _) _
  refine ta_pop hE dX8_game_4 (fun _ => rfl) ?_
  refine ta_iloadn hE dX8_game_5 rfl ?_
  refine ta_callS (st := []) hE dX8_game_6 (k_X8_isTwo a0 m1) ml_X8_135 st_X8_isTwo in_X8 co_X8_isTwo hy_X8_isTwo.2 ⟨Nat.le_of_ble_eq_true rfl, Nat.le_of_ble_eq_true rfl⟩ rfl rfl (fun _ => Nat.le_of_ble_eq_true rfl) (fun r6 m6 hx6 hr6 => ?_)
  change tg_AW E _ _ _ _ _ (ti_ r6 :: _) _
  refine ta_join (γ := tg_Mem → tg_R) (fun J => ∀ (m_41 : tg_Mem), tg_AW E LM (some .int) (J m_41) 41 [tj_, tj_, tj_, tj_] [] m_41) ?_ (fun j41 hj41 => ?_)
  · intro m_41
    refine sp_n10002 hE dX8_game_41 ?_
    exact ta_iret hE dX8_game_44
  · refine ta_if_eq (tgt := 41) hE dX8_game_9 (by decide) (fun c9 => ?_) (fun c9 => ?_)
    · exact (ta_wk (i := 0) (lv2 := [tj_, ti_ a0, ti_ a1, ti_ a2]) rfl (ta_wk (i := 1) (lv2 := [tj_, tj_, ti_ a1, ti_ a2]) rfl (ta_wk (i := 2) (lv2 := [tj_, tj_, tj_, ti_ a2]) rfl (ta_wk (i := 3) (lv2 := [tj_, tj_, tj_, tj_]) rfl (hj41 m6)))))
    · refine ta_iloadn hE dX8_game_12 rfl ?_
      refine ta_i2l hE dX8_game_13 ?_
      refine ta_lconst (v := 1) hE dX8_game_14 rfl ⟨by decide, by decide⟩ ?_
      refine ta_ldc2 (v := 5) hE dX8_game_15 lc_X8_255 ⟨by decide, by decide⟩ ?_
      refine ta_callS (st := []) hE dX8_game_18 (k_X8_in a1 1 5 m6) ml_X8_77 st_X8_in in_X8 co_X8_in hy_X8_in.2 ⟨Nat.le_of_ble_eq_true rfl, Nat.le_of_ble_eq_true rfl⟩ rfl rfl (fun _ => Nat.le_of_ble_eq_true rfl) (fun r18 m18 hx18 hr18 => ?_)
      change tg_AW E _ _ _ _ _ (ti_ r18 :: _) _
      refine ta_if_eq (tgt := 41) hE dX8_game_21 (by decide) (fun c21 => ?_) (fun c21 => ?_)
      · exact (ta_wk (i := 0) (lv2 := [tj_, ti_ a0, ti_ a1, ti_ a2]) rfl (ta_wk (i := 1) (lv2 := [tj_, tj_, ti_ a1, ti_ a2]) rfl (ta_wk (i := 2) (lv2 := [tj_, tj_, tj_, ti_ a2]) rfl (ta_wk (i := 3) (lv2 := [tj_, tj_, tj_, tj_]) rfl (hj41 m18)))))
      · refine ta_iloadn hE dX8_game_24 rfl ?_
        refine ta_callS (st := []) hE dX8_game_25 (k_X8_isTwo a2 m18) ml_X8_135 st_X8_isTwo in_X8 co_X8_isTwo hy_X8_isTwo.2 ⟨Nat.le_of_ble_eq_true rfl, Nat.le_of_ble_eq_true rfl⟩ rfl rfl (fun _ => Nat.le_of_ble_eq_true rfl) (fun r25 m25 hx25 hr25 => ?_)
        change tg_AW E _ _ _ _ _ (ti_ r25 :: _) _
        refine ta_if_eq (tgt := 41) hE dX8_game_28 (by decide) (fun c28 => ?_) (fun c28 => ?_)
        · exact (ta_wk (i := 0) (lv2 := [tj_, ti_ a0, ti_ a1, ti_ a2]) rfl (ta_wk (i := 1) (lv2 := [tj_, tj_, ti_ a1, ti_ a2]) rfl (ta_wk (i := 2) (lv2 := [tj_, tj_, tj_, ti_ a2]) rfl (ta_wk (i := 3) (lv2 := [tj_, tj_, tj_, tj_]) rfl (hj41 m25)))))
        · refine ta_aloadn hE dX8_game_31 rfl ?_
          refine ta_iloadn hE dX8_game_32 rfl ?_
          refine ta_iloadn hE dX8_game_33 rfl ?_
          refine ta_iloadn hE dX8_game_34 rfl ?_
          refine ta_callV (C := RX8) (T := TX8) (st := []) hE dX8_game_35 (k_X8_gameOf a0 a1 a2 m25) ml_X8_257 im_X8_gameOf se_X8_gameOf in_X8 co_X8_gameOf hy_X8_gameOf ⟨Nat.le_of_ble_eq_true rfl, Nat.le_of_ble_eq_true rfl⟩ lm_0 rfl rfl rfl (fun _ => Nat.le_of_ble_eq_true rfl) (fun r35 m35 hx35 hr35 => ?_)
          change tg_AW E _ _ _ _ _ (ti_ r35 :: _) _
          refine ta_goto (tgt := 44) hE dX8_game_38 (by decide) ?_
          exact ta_iret hE dX8_game_44
noncomputable def f_X8_alikeNow  (m : tg_Mem) : tg_R :=
  tg_bd (f_X8_done 0 m) (fun _ m2 =>
    tg_bd (f_X8_wayNow  m2) (fun r7 m7 =>
      tg_ck (0 ≤ 0 ∧ 0 < 2) (
        tg_lt (m7 11 0) (fun v3_17 =>
          tg_ck (0 ≤ 1 ∧ 1 < 2) (
            tg_lt (m7 11 1) (fun v4_24 =>
              tg_bd (f_X8_done 1 m7) (fun _ m28 =>
                tg_bd (f_X8_wayNow  m28) (fun r34 m34 =>
                  if r7 ≠ r34 then
                    tg_ck (0 ≤ 0 ∧ 0 < 2) (
                      tg_jn (γ := tg_R) (some (0, m34)) (fun j70 =>
                        if v3_17 ≠ m34 11 0 then
                          j70
                        else
                          tg_ck (0 ≤ 1 ∧ 1 < 2) (
                            if v4_24 ≠ m34 11 1 then
                              j70
                            else
                              some (2, m34))))
                  else
                    some (1, m34)))))))))
theorem hy_X8_alikeNow : yX8_alikeNow.cls = RX8 ∧ yX8_alikeNow.cls ≠ "java/lang/invoke/MethodHandle" ∧ yX8_alikeNow.cls ≠ "java/lang/invoke/VarHandle" ∧ (parseMethodDescriptor yX8_alikeNow.desc).map (fun q => q.parameters.length) = some 0 := by decide +kernel
set_option maxRecDepth 100000 in
set_option maxHeartbeats 4000000 in
theorem k_X8_alikeNow    (m : tg_Mem) : tg_C yX8_alikeNow cX8_alikeNow 5 (some .int) 6 LM [tr_ 0] (f_X8_alikeNow  m) m := by
  refine ta_enter2 (own := RX8) (by decide +kernel) rfl rfl (Nat.le_of_ble_eq_true rfl) rfl (fun E hE => ?_)
  unfold f_X8_alikeNow
  refine ta_aloadn hE dX8_alikeNow_0 rfl ?_
  refine ta_iconst (v := 0) hE dX8_alikeNow_1 rfl ⟨by decide, by decide⟩ ?_
  refine ta_callV (C := RX8) (T := TX8) (st := []) hE dX8_alikeNow_2 (k_X8_done 0 m) ml_X8_200 im_X8_done se_X8_done in_X8 co_X8_done hy_X8_done ⟨Nat.le_of_ble_eq_true rfl, Nat.le_of_ble_eq_true rfl⟩ lm_0 rfl rfl rfl (fun _ => Nat.le_of_ble_eq_true rfl) (fun r2 m2 hx2 hr2 => ?_)
  change tg_AW E _ _ _ _ _ (ti_ r2 :: _) _
  refine ta_pop hE dX8_alikeNow_5 (fun _ => rfl) ?_
  refine ta_aloadn hE dX8_alikeNow_6 rfl ?_
  refine ta_callV (C := RX8) (T := TX8) (st := []) hE dX8_alikeNow_7 (k_X8_wayNow m2) ml_X8_220 im_X8_wayNow se_X8_wayNow in_X8 co_X8_wayNow hy_X8_wayNow ⟨Nat.le_of_ble_eq_true rfl, Nat.le_of_ble_eq_true rfl⟩ lm_0 rfl rfl rfl (fun _ => Nat.le_of_ble_eq_true rfl) (fun r7 m7 hx7 hr7 => ?_)
  change tg_AW E _ _ _ _ _ (tl_ r7 :: _) _
  refine ta_lstoren (lv2 := [tr_ 0, tl_ r7, tj_, tj_, tj_]) hE dX8_alikeNow_10 (Nat.le_of_ble_eq_true rfl) rfl rfl ?_
  refine ta_aloadn hE dX8_alikeNow_11 rfl ?_
  refine gr_X8_40 hE dX8_alikeNow_12 lm_0 rfl ?_
  refine ta_iconst (v := 0) hE dX8_alikeNow_15 rfl ⟨by decide, by decide⟩ ?_
  refine ta_iald (n' := 2) hE dX8_alikeNow_16 lm_11 rfl (fun _ _ => ?_)
  refine ta_nmi (fun v3_17 => ?_)
  refine ta_istoren (lv2 := [tr_ 0, tl_ r7, tj_, ti_ v3_17, tj_]) hE dX8_alikeNow_17 (Nat.le_of_ble_eq_true rfl) rfl rfl ?_
  refine ta_aloadn hE dX8_alikeNow_18 rfl ?_
  refine gr_X8_40 hE dX8_alikeNow_19 lm_0 rfl ?_
  refine ta_iconst (v := 1) hE dX8_alikeNow_22 rfl ⟨by decide, by decide⟩ ?_
  refine ta_iald (n' := 2) hE dX8_alikeNow_23 lm_11 rfl (fun _ _ => ?_)
  refine ta_nmi (fun v4_24 => ?_)
  refine ta_istore (lv2 := [tr_ 0, tl_ r7, tj_, ti_ v3_17, ti_ v4_24]) hE dX8_alikeNow_24 (Nat.le_of_ble_eq_true rfl) rfl rfl ?_
  refine ta_aloadn hE dX8_alikeNow_26 rfl ?_
  refine ta_iconst (v := 1) hE dX8_alikeNow_27 rfl ⟨by decide, by decide⟩ ?_
  refine ta_callV (C := RX8) (T := TX8) (st := []) hE dX8_alikeNow_28 (k_X8_done 1 m7) ml_X8_200 im_X8_done se_X8_done in_X8 co_X8_done hy_X8_done ⟨Nat.le_of_ble_eq_true rfl, Nat.le_of_ble_eq_true rfl⟩ lm_0 rfl rfl rfl (fun _ => Nat.le_of_ble_eq_true rfl) (fun r28 m28 hx28 hr28 => ?_)
  change tg_AW E _ _ _ _ _ (ti_ r28 :: _) _
  refine ta_pop hE dX8_alikeNow_31 (fun _ => rfl) ?_
  refine ta_lloadn hE dX8_alikeNow_32 rfl ?_
  refine ta_aloadn hE dX8_alikeNow_33 rfl ?_
  refine ta_callV (C := RX8) (T := TX8) (st := [tl_ r7]) hE dX8_alikeNow_34 (k_X8_wayNow m28) ml_X8_220 im_X8_wayNow se_X8_wayNow in_X8 co_X8_wayNow hy_X8_wayNow ⟨Nat.le_of_ble_eq_true rfl, Nat.le_of_ble_eq_true rfl⟩ lm_0 rfl rfl rfl (fun _ => Nat.le_of_ble_eq_true rfl) (fun r34 m34 hx34 hr34 => ?_)
  change tg_AW E _ _ _ _ _ (tl_ r34 :: _) _
  refine ta_lcmp_ne (tgt := 45) hE dX8_alikeNow_37 dX8_alikeNow_38 (by decide) (fun c37 => ?_) (fun c37 => ?_)
  · refine ta_iloadn hE dX8_alikeNow_45 rfl ?_
    refine ta_aloadn hE dX8_alikeNow_46 rfl ?_
    refine gr_X8_40 hE dX8_alikeNow_47 lm_0 rfl ?_
    refine ta_iconst (v := 0) hE dX8_alikeNow_50 rfl ⟨by decide, by decide⟩ ?_
    refine ta_iald (n' := 2) hE dX8_alikeNow_51 lm_11 rfl (fun _ _ => ?_)
    refine ta_join (γ := tg_R) (fun J => tg_AW E LM (some .int) J 70 [tj_, tj_, tj_, tj_, tj_] [] m34) ?_ (fun j70 hj70 => ?_)
    · refine ta_iconst (v := 0) hE dX8_alikeNow_70 rfl ⟨by decide, by decide⟩ ?_
      exact ta_iret hE dX8_alikeNow_71
    · refine ta_icmp_ne (tgt := 70) hE dX8_alikeNow_52 (by decide) (fun c52 => ?_) (fun c52 => ?_)
      · exact (ta_wk (i := 0) (lv2 := [tj_, tl_ r7, tj_, ti_ v3_17, ti_ v4_24]) rfl (ta_wk (i := 1) (lv2 := [tj_, tj_, tj_, ti_ v3_17, ti_ v4_24]) rfl (ta_wk (i := 3) (lv2 := [tj_, tj_, tj_, tj_, ti_ v4_24]) rfl (ta_wk (i := 4) (lv2 := [tj_, tj_, tj_, tj_, tj_]) rfl hj70))))
      · refine ta_iload hE dX8_alikeNow_55 rfl ?_
        refine ta_aloadn hE dX8_alikeNow_57 rfl ?_
        refine gr_X8_40 hE dX8_alikeNow_58 lm_0 rfl ?_
        refine ta_iconst (v := 1) hE dX8_alikeNow_61 rfl ⟨by decide, by decide⟩ ?_
        refine ta_iald (n' := 2) hE dX8_alikeNow_62 lm_11 rfl (fun _ _ => ?_)
        refine ta_icmp_ne (tgt := 70) hE dX8_alikeNow_63 (by decide) (fun c63 => ?_) (fun c63 => ?_)
        · exact (ta_wk (i := 0) (lv2 := [tj_, tl_ r7, tj_, ti_ v3_17, ti_ v4_24]) rfl (ta_wk (i := 1) (lv2 := [tj_, tj_, tj_, ti_ v3_17, ti_ v4_24]) rfl (ta_wk (i := 3) (lv2 := [tj_, tj_, tj_, tj_, ti_ v4_24]) rfl (ta_wk (i := 4) (lv2 := [tj_, tj_, tj_, tj_, tj_]) rfl hj70))))
        · refine ta_iconst (v := 2) hE dX8_alikeNow_66 rfl ⟨by decide, by decide⟩ ?_
          refine ta_goto (tgt := 71) hE dX8_alikeNow_67 (by decide) ?_
          exact ta_iret hE dX8_alikeNow_71
  · refine ta_iconst (v := 1) hE dX8_alikeNow_41 rfl ⟨by decide, by decide⟩ ?_
    refine ta_goto (tgt := 71) hE dX8_alikeNow_42 (by decide) ?_
    exact ta_iret hE dX8_alikeNow_71
