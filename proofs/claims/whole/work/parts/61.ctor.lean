-- constructors (laid by wip/gen/gen_ctor.py)
abbrev tk_wX5 (G : tg_G) (h0 : Nat) (u : Nat → Nat) : va_W := [(h0, .inr (5, [.ref (u 0), .int 0])), (u 0, .inl (G.1, 40, .inl (fun _ => 0)))]
set_option maxRecDepth 100000 in
set_option maxHeartbeats 8000000 in
theorem kc_X5 (l : Launch) (D : va_G) (G : tg_G) (h0 : Nat) (sz : Nat) : tk_M l D G yX5_init cX5_init 1 { frames := 1, cells := 1, slots := 40, locals := 40 } h0 [] [(h0, .inr (5, [.null, .int 0]))] (tk_wX5 G h0) 1 40 sz := by
  unfold tk_M
  refine Met.ofW (cc := cX5_init) (maxL := 1) (ret := none) (by decide) rfl ?_
  intro p e s m args below meth c s₁ B hml hv
  obtain ⟨rfl, hsz, ⟨hP, hK, hN⟩, hD0⟩ := hv
  have hx := B.exec
  have hb := B.bytes
  have hr := B.returns
  have hts0 := atoms_spec (ws := .code yX5_init cX5_init 1 none :: tg_ALL) B.pre
  have hts := fun w h => hts0 w (List.mem_cons_of_mem _ h)
  have hown : s.vm.findClass RX5 = some m.cls := findClass_of_methodNamed B.named
  have hlocks := B.notSynchronized
  have hin : meth.name = "<init>" := (name_of_methodNamed B.named B.method).1
  subst hsz
  have hD := hD0.self (sz := s.heap.size)
  generalize hAe : va_A [(h0, .inr (5, [.null, .int 0]))] s.heap.size = A at hD ⊢
  have hA : ∀ q : Nat, s.heap.size ≤ q → A q := fun q h => by rw [← hAe]; exact Or.inr h
  have hS : va_S A s.heap s.heap [] := va_S.rf
  have hP : va_P D vwCl [(h0, .inr (5, [.null, .int 0]))] s.heap := hP
  have hl := lv_entry ([.ref h0]) (n := 1) (Nat.le_of_ble_eq_true rfl)
  rw [lg_entry_eq]
  generalize (lg_sl ([.ref h0]) ++ List.replicate (1 - (lg_sl ([.ref h0])).length) Slot.unset).toArray = ls at hl ⊢
  have hl : lv_has ls 1 [(0, .ref h0)] := hl
  refine lv_aload_n hx hb dX5_init_0 rfl (lv_at hl 0 rfl) ?_
  refine W.objInit hx hb hown (hts _ ml_X5_3) (hts _ im_objInit) (hts _ co_objInit) rfl (by rw [hml]; exact hl.1) rfl dX5_init_1 (Nat.le_of_ble_eq_true rfl) (Nat.le_of_ble_eq_true rfl) ?_
  refine W.eq (g2 := F0 m 4 ls []) rfl ?_
  refine lv_aload_n hx hb dX5_init_4 rfl (lv_at hl 0 rfl) ?_
  refine lv_bipush (v := 40) hx hb dX5_init_5 (by decide) ?_
  refine tk_newI (N := 40) hx hb (hts _ ac_1_43) hK hP hD hS hA (by decide) (by decide) (Nat.le_of_ble_eq_true rfl) (Nat.le_of_ble_eq_true rfl) (Nat.le_of_ble_eq_true rfl) dX5_init_7 (fun q7 H hP hD hS => ?_)
  refine W.widen (k := 1) (n := 40) (Nat.le_of_ble_eq_true rfl) (Nat.le_of_ble_eq_true rfl) ?_
  have hP : va_P D vwCl [(h0, .inr (5, [.null, .int 0])), (q7, .inl (G.1, 40, .inl (fun _ => 0)))] H := hP
  have hD : va_D A [(h0, .inr (5, [.null, .int 0])), (q7, .inl (G.1, 40, .inl (fun _ => 0)))] := hD
  refine va_putF (D := D) (ci := 5) (v := .ref q7) (ty := (.array .int)) (C := RX5) (T := TX5) (N := 2) hx hb hts inAX5 tyX5 tyX5_ok nmX5 hown hK hP hD hS 0 rfl rfl 0 (by decide) (hts _ fl_X5_9) (fun _ h9 => h9) rfl hin rfl (by decide +kernel) rfl rfl (Nat.le_of_ble_eq_true rfl) dX5_init_9 (fun H locs hP hD hS => ?_)
  have hP : va_P D vwCl [(h0, .inr (5, [.ref q7, .int 0])), (q7, .inl (G.1, 40, .inl (fun _ => 0)))] H := hP
  have hD : va_D A [(h0, .inr (5, [.ref q7, .int 0])), (q7, .inl (G.1, 40, .inl (fun _ => 0)))] := hD
  refine lv_aload_n hx hb dX5_init_12 rfl (lv_at hl 0 rfl) ?_
  refine lv_iconst (v := 0) hx hb dX5_init_13 (by decide) ?_
  refine va_put (D := D) (ci := 5) (v := .int 0) (ty := .int) (C := RX5) (T := TX5) (N := 2) hx hb hts inAX5 tyX5 tyX5_ok nmX5 hown hK hP hD hS 0 rfl rfl 1 (by decide) (hts _ fl_X5_15) (fun _ h9 => h9) rfl (by decide +kernel) rfl rfl (Nat.le_of_ble_eq_true rfl) dX5_init_14 (fun H locs hP hD hS => ?_)
  have hP : va_P D vwCl [(h0, .inr (5, [.ref q7, .int 0])), (q7, .inl (G.1, 40, .inl (fun _ => 0)))] H := hP
  have hD : va_D A [(h0, .inr (5, [.ref q7, .int 0])), (q7, .inl (G.1, 40, .inl (fun _ => 0)))] := hD
  refine W.widen (k := 1) (n := 40) (Nat.le_of_ble_eq_true rfl) (Nat.le_of_ble_eq_true rfl) ?_
  exact W.vret hx hb hr (fun t ht hW => ⟨⟨fun k => [q7].getD k 0, rfl, trivial, ⟨by rw [ht]; exact hP, va_K.moved hW.alike hK, tk_nest_warm hW hN⟩, hD⟩, hS.F ht⟩) hS.2.2 dX5_init_17 hlocks
abbrev tk_wX1 (G : tg_G) (h0 : Nat) (hm : Nat) (u : Nat → Nat) : va_W := [(h0, .inr (1, [.ref hm, .ref (u 0), .ref (u 1), .int 0, .int 0, .int 0])), (u 0, .inl (G.1, 2, .inl (fun _ => 0))), (u 1, .inl (G.1, 64, .inl (fun _ => 0)))]
set_option maxRecDepth 100000 in
set_option maxHeartbeats 8000000 in
theorem kc_X1 (l : Launch) (D : va_G) (G : tg_G) (h0 : Nat) (hm : Nat) (sz : Nat) : tk_M l D G yX1_init cX1_init 2 { frames := 1, cells := 2, slots := 66, locals := 40 } h0 [.ref hm] [(h0, .inr (1, [.null, .null, .null, .int 0, .int 0, .int 0]))] (tk_wX1 G h0 hm) 2 66 sz := by
  unfold tk_M
  refine Met.ofW (cc := cX1_init) (maxL := 2) (ret := none) (by decide) rfl ?_
  intro p e s m args below meth c s₁ B hml hv
  obtain ⟨rfl, hsz, ⟨hP, hK, hN⟩, hD0⟩ := hv
  have hx := B.exec
  have hb := B.bytes
  have hr := B.returns
  have hts0 := atoms_spec (ws := .code yX1_init cX1_init 2 none :: tg_ALL) B.pre
  have hts := fun w h => hts0 w (List.mem_cons_of_mem _ h)
  have hown : s.vm.findClass RX1 = some m.cls := findClass_of_methodNamed B.named
  have hlocks := B.notSynchronized
  have hin : meth.name = "<init>" := (name_of_methodNamed B.named B.method).1
  subst hsz
  have hD := hD0.self (sz := s.heap.size)
  generalize hAe : va_A [(h0, .inr (1, [.null, .null, .null, .int 0, .int 0, .int 0]))] s.heap.size = A at hD ⊢
  have hA : ∀ q : Nat, s.heap.size ≤ q → A q := fun q h => by rw [← hAe]; exact Or.inr h
  have hS : va_S A s.heap s.heap [] := va_S.rf
  have hP : va_P D vwCl [(h0, .inr (1, [.null, .null, .null, .int 0, .int 0, .int 0]))] s.heap := hP
  have hl := lv_entry ([.ref h0, .ref hm]) (n := 2) (Nat.le_of_ble_eq_true rfl)
  rw [lg_entry_eq]
  generalize (lg_sl ([.ref h0, .ref hm]) ++ List.replicate (2 - (lg_sl ([.ref h0, .ref hm])).length) Slot.unset).toArray = ls at hl ⊢
  have hl : lv_has ls 2 [(0, .ref h0), (1, .ref hm)] := hl
  refine lv_aload_n hx hb dX1_init_0 rfl (lv_at hl 0 rfl) ?_
  refine W.objInit hx hb hown (hts _ ml_X1_3) (hts _ im_objInit) (hts _ co_objInit) rfl (by rw [hml]; exact hl.1) rfl dX1_init_1 (Nat.le_of_ble_eq_true rfl) (Nat.le_of_ble_eq_true rfl) ?_
  refine W.eq (g2 := F0 m 4 ls []) rfl ?_
  refine lv_aload_n hx hb dX1_init_4 rfl (lv_at hl 0 rfl) ?_
  refine lv_iconst (v := 2) hx hb dX1_init_5 (by decide) ?_
  refine tk_newI (N := 2) hx hb (hts _ ac_1_43) hK hP hD hS hA (by decide) (by decide) (Nat.le_of_ble_eq_true rfl) (Nat.le_of_ble_eq_true rfl) (Nat.le_of_ble_eq_true rfl) dX1_init_6 (fun q6 H hP hD hS => ?_)
  refine W.widen (k := 1) (n := 2) (Nat.le_of_ble_eq_true rfl) (Nat.le_of_ble_eq_true rfl) ?_
  have hP : va_P D vwCl [(h0, .inr (1, [.null, .null, .null, .int 0, .int 0, .int 0])), (q6, .inl (G.1, 2, .inl (fun _ => 0)))] H := hP
  have hD : va_D A [(h0, .inr (1, [.null, .null, .null, .int 0, .int 0, .int 0])), (q6, .inl (G.1, 2, .inl (fun _ => 0)))] := hD
  refine va_putF (D := D) (ci := 1) (v := .ref q6) (ty := (.array .int)) (C := RX1) (T := TX1) (N := 6) hx hb hts inAX1 tyX1 tyX1_ok nmX1 hown hK hP hD hS 0 rfl rfl 1 (by decide) (hts _ fl_X1_9) (fun _ h9 => h9) rfl hin rfl (by decide +kernel) rfl rfl (Nat.le_of_ble_eq_true rfl) dX1_init_8 (fun H locs hP hD hS => ?_)
  have hP : va_P D vwCl [(h0, .inr (1, [.null, .ref q6, .null, .int 0, .int 0, .int 0])), (q6, .inl (G.1, 2, .inl (fun _ => 0)))] H := hP
  have hD : va_D A [(h0, .inr (1, [.null, .ref q6, .null, .int 0, .int 0, .int 0])), (q6, .inl (G.1, 2, .inl (fun _ => 0)))] := hD
  refine lv_aload_n hx hb dX1_init_11 rfl (lv_at hl 0 rfl) ?_
  refine lv_bipush (v := 64) hx hb dX1_init_12 (by decide) ?_
  refine tk_newI (N := 64) hx hb (hts _ ac_1_43) hK hP hD hS hA (by decide) (by decide) (Nat.le_of_ble_eq_true rfl) (Nat.le_of_ble_eq_true rfl) (Nat.le_of_ble_eq_true rfl) dX1_init_14 (fun q14 H hP hD hS => ?_)
  refine W.widen (k := 2) (n := 66) (Nat.le_of_ble_eq_true rfl) (Nat.le_of_ble_eq_true rfl) ?_
  have hP : va_P D vwCl [(h0, .inr (1, [.null, .ref q6, .null, .int 0, .int 0, .int 0])), (q6, .inl (G.1, 2, .inl (fun _ => 0))), (q14, .inl (G.1, 64, .inl (fun _ => 0)))] H := hP
  have hD : va_D A [(h0, .inr (1, [.null, .ref q6, .null, .int 0, .int 0, .int 0])), (q6, .inl (G.1, 2, .inl (fun _ => 0))), (q14, .inl (G.1, 64, .inl (fun _ => 0)))] := hD
  refine va_putF (D := D) (ci := 1) (v := .ref q14) (ty := (.array .int)) (C := RX1) (T := TX1) (N := 6) hx hb hts inAX1 tyX1 tyX1_ok nmX1 hown hK hP hD hS 0 rfl rfl 2 (by decide) (hts _ fl_X1_15) (fun _ h9 => h9) rfl hin rfl (by decide +kernel) rfl rfl (Nat.le_of_ble_eq_true rfl) dX1_init_16 (fun H locs hP hD hS => ?_)
  have hP : va_P D vwCl [(h0, .inr (1, [.null, .ref q6, .ref q14, .int 0, .int 0, .int 0])), (q6, .inl (G.1, 2, .inl (fun _ => 0))), (q14, .inl (G.1, 64, .inl (fun _ => 0)))] H := hP
  have hD : va_D A [(h0, .inr (1, [.null, .ref q6, .ref q14, .int 0, .int 0, .int 0])), (q6, .inl (G.1, 2, .inl (fun _ => 0))), (q14, .inl (G.1, 64, .inl (fun _ => 0)))] := hD
  refine lv_aload_n hx hb dX1_init_19 rfl (lv_at hl 0 rfl) ?_
  refine lv_iconst (v := 0) hx hb dX1_init_20 (by decide) ?_
  refine va_put (D := D) (ci := 1) (v := .int 0) (ty := .int) (C := RX1) (T := TX1) (N := 6) hx hb hts inAX1 tyX1 tyX1_ok nmX1 hown hK hP hD hS 0 rfl rfl 3 (by decide) (hts _ fl_X1_18) (fun _ h9 => h9) rfl (by decide +kernel) rfl rfl (Nat.le_of_ble_eq_true rfl) dX1_init_21 (fun H locs hP hD hS => ?_)
  have hP : va_P D vwCl [(h0, .inr (1, [.null, .ref q6, .ref q14, .int 0, .int 0, .int 0])), (q6, .inl (G.1, 2, .inl (fun _ => 0))), (q14, .inl (G.1, 64, .inl (fun _ => 0)))] H := hP
  have hD : va_D A [(h0, .inr (1, [.null, .ref q6, .ref q14, .int 0, .int 0, .int 0])), (q6, .inl (G.1, 2, .inl (fun _ => 0))), (q14, .inl (G.1, 64, .inl (fun _ => 0)))] := hD
  refine lv_aload_n hx hb dX1_init_24 rfl (lv_at hl 0 rfl) ?_
  refine lv_iconst (v := 0) hx hb dX1_init_25 (by decide) ?_
  refine va_put (D := D) (ci := 1) (v := .int 0) (ty := .int) (C := RX1) (T := TX1) (N := 6) hx hb hts inAX1 tyX1 tyX1_ok nmX1 hown hK hP hD hS 0 rfl rfl 4 (by decide) (hts _ fl_X1_22) (fun _ h9 => h9) rfl (by decide +kernel) rfl rfl (Nat.le_of_ble_eq_true rfl) dX1_init_26 (fun H locs hP hD hS => ?_)
  have hP : va_P D vwCl [(h0, .inr (1, [.null, .ref q6, .ref q14, .int 0, .int 0, .int 0])), (q6, .inl (G.1, 2, .inl (fun _ => 0))), (q14, .inl (G.1, 64, .inl (fun _ => 0)))] H := hP
  have hD : va_D A [(h0, .inr (1, [.null, .ref q6, .ref q14, .int 0, .int 0, .int 0])), (q6, .inl (G.1, 2, .inl (fun _ => 0))), (q14, .inl (G.1, 64, .inl (fun _ => 0)))] := hD
  refine lv_aload_n hx hb dX1_init_29 rfl (lv_at hl 0 rfl) ?_
  refine lv_iconst (v := 0) hx hb dX1_init_30 (by decide) ?_
  refine va_put (D := D) (ci := 1) (v := .int 0) (ty := .int) (C := RX1) (T := TX1) (N := 6) hx hb hts inAX1 tyX1 tyX1_ok nmX1 hown hK hP hD hS 0 rfl rfl 5 (by decide) (hts _ fl_X1_25) (fun _ h9 => h9) rfl (by decide +kernel) rfl rfl (Nat.le_of_ble_eq_true rfl) dX1_init_31 (fun H locs hP hD hS => ?_)
  have hP : va_P D vwCl [(h0, .inr (1, [.null, .ref q6, .ref q14, .int 0, .int 0, .int 0])), (q6, .inl (G.1, 2, .inl (fun _ => 0))), (q14, .inl (G.1, 64, .inl (fun _ => 0)))] H := hP
  have hD : va_D A [(h0, .inr (1, [.null, .ref q6, .ref q14, .int 0, .int 0, .int 0])), (q6, .inl (G.1, 2, .inl (fun _ => 0))), (q14, .inl (G.1, 64, .inl (fun _ => 0)))] := hD
  refine lv_aload_n hx hb dX1_init_34 rfl (lv_at hl 0 rfl) ?_
  refine lv_aload_n hx hb dX1_init_35 rfl (lv_at hl 1 rfl) ?_
  refine va_putF (D := D) (ci := 1) (v := .ref hm) (ty := (.object "TwoGoats$Meadow")) (C := RX1) (T := TX1) (N := 6) hx hb hts inAX1 tyX1 tyX1_ok nmX1 hown hK hP hD hS 0 rfl rfl 0 (by decide) (hts _ fl_X1_28) (fun _ h9 => h9) rfl hin rfl (by decide +kernel) rfl rfl (Nat.le_of_ble_eq_true rfl) dX1_init_36 (fun H locs hP hD hS => ?_)
  have hP : va_P D vwCl [(h0, .inr (1, [.ref hm, .ref q6, .ref q14, .int 0, .int 0, .int 0])), (q6, .inl (G.1, 2, .inl (fun _ => 0))), (q14, .inl (G.1, 64, .inl (fun _ => 0)))] H := hP
  have hD : va_D A [(h0, .inr (1, [.ref hm, .ref q6, .ref q14, .int 0, .int 0, .int 0])), (q6, .inl (G.1, 2, .inl (fun _ => 0))), (q14, .inl (G.1, 64, .inl (fun _ => 0)))] := hD
  refine W.widen (k := 2) (n := 66) (Nat.le_of_ble_eq_true rfl) (Nat.le_of_ble_eq_true rfl) ?_
  exact W.vret hx hb hr (fun t ht hW => ⟨⟨fun k => [q6, q14].getD k 0, rfl, trivial, ⟨by rw [ht]; exact hP, va_K.moved hW.alike hK, tk_nest_warm hW hN⟩, hD⟩, hS.F ht⟩) hS.2.2 dX1_init_39 hlocks
abbrev tk_wX4 (G : tg_G) (h0 : Nat) (u : Nat → Nat) : va_W := [(h0, .inr (4, [.ref (u 0), .int (-1), .int 0])), (u 0, .inl (G.1, 60, .inl (fun _ => 0)))]
set_option maxRecDepth 100000 in
set_option maxHeartbeats 8000000 in
theorem kc_X4 (l : Launch) (D : va_G) (G : tg_G) (h0 : Nat) (sz : Nat) : tk_M l D G yX4_init cX4_init 1 { frames := 1, cells := 1, slots := 60, locals := 40 } h0 [] [(h0, .inr (4, [.null, .int 0, .int 0]))] (tk_wX4 G h0) 1 60 sz := by
  unfold tk_M
  refine Met.ofW (cc := cX4_init) (maxL := 1) (ret := none) (by decide) rfl ?_
  intro p e s m args below meth c s₁ B hml hv
  obtain ⟨rfl, hsz, ⟨hP, hK, hN⟩, hD0⟩ := hv
  have hx := B.exec
  have hb := B.bytes
  have hr := B.returns
  have hts0 := atoms_spec (ws := .code yX4_init cX4_init 1 none :: tg_ALL) B.pre
  have hts := fun w h => hts0 w (List.mem_cons_of_mem _ h)
  have hown : s.vm.findClass RX4 = some m.cls := findClass_of_methodNamed B.named
  have hlocks := B.notSynchronized
  have hin : meth.name = "<init>" := (name_of_methodNamed B.named B.method).1
  subst hsz
  have hD := hD0.self (sz := s.heap.size)
  generalize hAe : va_A [(h0, .inr (4, [.null, .int 0, .int 0]))] s.heap.size = A at hD ⊢
  have hA : ∀ q : Nat, s.heap.size ≤ q → A q := fun q h => by rw [← hAe]; exact Or.inr h
  have hS : va_S A s.heap s.heap [] := va_S.rf
  have hP : va_P D vwCl [(h0, .inr (4, [.null, .int 0, .int 0]))] s.heap := hP
  have hl := lv_entry ([.ref h0]) (n := 1) (Nat.le_of_ble_eq_true rfl)
  rw [lg_entry_eq]
  generalize (lg_sl ([.ref h0]) ++ List.replicate (1 - (lg_sl ([.ref h0])).length) Slot.unset).toArray = ls at hl ⊢
  have hl : lv_has ls 1 [(0, .ref h0)] := hl
  refine lv_aload_n hx hb dX4_init_0 rfl (lv_at hl 0 rfl) ?_
  refine W.objInit hx hb hown (hts _ ml_X4_3) (hts _ im_objInit) (hts _ co_objInit) rfl (by rw [hml]; exact hl.1) rfl dX4_init_1 (Nat.le_of_ble_eq_true rfl) (Nat.le_of_ble_eq_true rfl) ?_
  refine W.eq (g2 := F0 m 4 ls []) rfl ?_
  refine lv_aload_n hx hb dX4_init_4 rfl (lv_at hl 0 rfl) ?_
  refine lv_bipush (v := 60) hx hb dX4_init_5 (by decide) ?_
  refine tk_newI (N := 60) hx hb (hts _ ac_1_43) hK hP hD hS hA (by decide) (by decide) (Nat.le_of_ble_eq_true rfl) (Nat.le_of_ble_eq_true rfl) (Nat.le_of_ble_eq_true rfl) dX4_init_7 (fun q7 H hP hD hS => ?_)
  refine W.widen (k := 1) (n := 60) (Nat.le_of_ble_eq_true rfl) (Nat.le_of_ble_eq_true rfl) ?_
  have hP : va_P D vwCl [(h0, .inr (4, [.null, .int 0, .int 0])), (q7, .inl (G.1, 60, .inl (fun _ => 0)))] H := hP
  have hD : va_D A [(h0, .inr (4, [.null, .int 0, .int 0])), (q7, .inl (G.1, 60, .inl (fun _ => 0)))] := hD
  refine va_putF (D := D) (ci := 4) (v := .ref q7) (ty := (.array .int)) (C := RX4) (T := TX4) (N := 3) hx hb hts inAX4 tyX4 tyX4_ok nmX4 hown hK hP hD hS 0 rfl rfl 0 (by decide) (hts _ fl_X4_9) (fun _ h9 => h9) rfl hin rfl (by decide +kernel) rfl rfl (Nat.le_of_ble_eq_true rfl) dX4_init_9 (fun H locs hP hD hS => ?_)
  have hP : va_P D vwCl [(h0, .inr (4, [.ref q7, .int 0, .int 0])), (q7, .inl (G.1, 60, .inl (fun _ => 0)))] H := hP
  have hD : va_D A [(h0, .inr (4, [.ref q7, .int 0, .int 0])), (q7, .inl (G.1, 60, .inl (fun _ => 0)))] := hD
  refine lv_aload_n hx hb dX4_init_12 rfl (lv_at hl 0 rfl) ?_
  refine lv_iconst (v := (-1)) hx hb dX4_init_13 (by decide) ?_
  refine va_put (D := D) (ci := 4) (v := .int (-1)) (ty := .int) (C := RX4) (T := TX4) (N := 3) hx hb hts inAX4 tyX4 tyX4_ok nmX4 hown hK hP hD hS 0 rfl rfl 1 (by decide) (hts _ fl_X4_15) (fun _ h9 => h9) rfl (by decide +kernel) rfl rfl (Nat.le_of_ble_eq_true rfl) dX4_init_14 (fun H locs hP hD hS => ?_)
  have hP : va_P D vwCl [(h0, .inr (4, [.ref q7, .int (-1), .int 0])), (q7, .inl (G.1, 60, .inl (fun _ => 0)))] H := hP
  have hD : va_D A [(h0, .inr (4, [.ref q7, .int (-1), .int 0])), (q7, .inl (G.1, 60, .inl (fun _ => 0)))] := hD
  refine lv_aload_n hx hb dX4_init_17 rfl (lv_at hl 0 rfl) ?_
  refine lv_iconst (v := 0) hx hb dX4_init_18 (by decide) ?_
  refine va_put (D := D) (ci := 4) (v := .int 0) (ty := .int) (C := RX4) (T := TX4) (N := 3) hx hb hts inAX4 tyX4 tyX4_ok nmX4 hown hK hP hD hS 0 rfl rfl 2 (by decide) (hts _ fl_X4_19) (fun _ h9 => h9) rfl (by decide +kernel) rfl rfl (Nat.le_of_ble_eq_true rfl) dX4_init_19 (fun H locs hP hD hS => ?_)
  have hP : va_P D vwCl [(h0, .inr (4, [.ref q7, .int (-1), .int 0])), (q7, .inl (G.1, 60, .inl (fun _ => 0)))] H := hP
  have hD : va_D A [(h0, .inr (4, [.ref q7, .int (-1), .int 0])), (q7, .inl (G.1, 60, .inl (fun _ => 0)))] := hD
  refine W.widen (k := 1) (n := 60) (Nat.le_of_ble_eq_true rfl) (Nat.le_of_ble_eq_true rfl) ?_
  exact W.vret hx hb hr (fun t ht hW => ⟨⟨fun k => [q7].getD k 0, rfl, trivial, ⟨by rw [ht]; exact hP, va_K.moved hW.alike hK, tk_nest_warm hW hN⟩, hD⟩, hS.F ht⟩) hS.2.2 dX4_init_22 hlocks
abbrev tk_wX2 (G : tg_G) (h0 : Nat) (u : Nat → Nat) : va_W := [(h0, .inr (2, [.ref (u 0), .ref (u 2), .ref (u 3), .ref (u 4), .ref (u 5), .ref (u 6), .ref (u 7), .int 9, .int 0, .int (-1)])), (u 0, .inr (5, [.ref (u 1), .int 0])), (u 1, .inl (G.1, 40, .inl (fun _ => 0))), (u 2, .inl (G.1, 2, .inl (upd (upd (fun _ => 0) (0 : Int32).toNatClampNeg 5) (1 : Int32).toNatClampNeg 5))), (u 3, .inl (G.1, 8, .inl (fun _ => 0))), (u 4, .inl (G.1, 8, .inl (fun _ => 0))), (u 5, .inl (G.1, 8, .inl (fun _ => 0))), (u 6, .inl (G.1, 8, .inl (fun _ => 0))), (u 7, .inl (G.1, 8, .inl (fun _ => 0)))]
set_option maxRecDepth 100000 in
set_option maxHeartbeats 8000000 in
theorem kc_X2 (l : Launch) (D : va_G) (G : tg_G) (h0 : Nat) (sz : Nat) : tk_M l D G yX2_init cX2_init 1 { frames := 2, cells := 8, slots := 84, locals := 80 } h0 [] [(h0, .inr (2, [.null, .null, .null, .null, .null, .null, .null, .int 0, .int 0, .int 0]))] (tk_wX2 G h0) 8 84 sz := by
  unfold tk_M
  refine Met.ofW (cc := cX2_init) (maxL := 1) (ret := none) (by decide) rfl ?_
  intro p e s m args below meth c s₁ B hml hv
  obtain ⟨rfl, hsz, ⟨hP, hK, hN⟩, hD0⟩ := hv
  have hx := B.exec
  have hb := B.bytes
  have hr := B.returns
  have hts0 := atoms_spec (ws := .code yX2_init cX2_init 1 none :: tg_ALL) B.pre
  have hts := fun w h => hts0 w (List.mem_cons_of_mem _ h)
  have hown : s.vm.findClass RX2 = some m.cls := findClass_of_methodNamed B.named
  have hlocks := B.notSynchronized
  have hin : meth.name = "<init>" := (name_of_methodNamed B.named B.method).1
  subst hsz
  have hD := hD0.self (sz := s.heap.size)
  generalize hAe : va_A [(h0, .inr (2, [.null, .null, .null, .null, .null, .null, .null, .int 0, .int 0, .int 0]))] s.heap.size = A at hD ⊢
  have hA : ∀ q : Nat, s.heap.size ≤ q → A q := fun q h => by rw [← hAe]; exact Or.inr h
  have hS : va_S A s.heap s.heap [] := va_S.rf
  have hP : va_P D vwCl [(h0, .inr (2, [.null, .null, .null, .null, .null, .null, .null, .int 0, .int 0, .int 0]))] s.heap := hP
  have hl := lv_entry ([.ref h0]) (n := 1) (Nat.le_of_ble_eq_true rfl)
  rw [lg_entry_eq]
  generalize (lg_sl ([.ref h0]) ++ List.replicate (1 - (lg_sl ([.ref h0])).length) Slot.unset).toArray = ls at hl ⊢
  have hl : lv_has ls 1 [(0, .ref h0)] := hl
  refine lv_aload_n hx hb dX2_init_0 rfl (lv_at hl 0 rfl) ?_
  refine W.objInit hx hb hown (hts _ ml_X2_3) (hts _ im_objInit) (hts _ co_objInit) rfl (by rw [hml]; exact hl.1) rfl dX2_init_1 (Nat.le_of_ble_eq_true rfl) (Nat.le_of_ble_eq_true rfl) ?_
  refine W.eq (g2 := F0 m 4 ls []) rfl ?_
  refine lv_aload_n hx hb dX2_init_4 rfl (lv_at hl 0 rfl) ?_
  refine va_new (ci := 5) (fs := [.null, .int 0]) (C := RX5) (T := TX5) (N := 2) hx hb hts inAX5 tyX5 tyX5_ok hown (hts _ cl_X2_9) (hts _ it_X5) (hts _ in_X5) hK hP hD hS hA rfl (fun j hj => by rcases (show j = 0 ∨ j = 1 by omega) with rfl | rfl <;> rfl) (Nat.le_of_ble_eq_true rfl) (Nat.le_of_ble_eq_true rfl) dX2_init_5 (fun q5_4 H hP hD hS => ?_)
  refine W.widen (k := 1) (n := 2) (Nat.le_of_ble_eq_true rfl) (Nat.le_of_ble_eq_true rfl) ?_
  have hP : va_P D vwCl [(h0, .inr (2, [.null, .null, .null, .null, .null, .null, .null, .int 0, .int 0, .int 0])), (q5_4, .inr (5, [.null, .int 0]))] H := hP
  have hD : va_D A [(h0, .inr (2, [.null, .null, .null, .null, .null, .null, .null, .int 0, .int 0, .int 0])), (q5_4, .inr (5, [.null, .int 0]))] := hD
  refine lv_dup hx hb dX2_init_8 rfl ?_
  refine tk_callN (w0 := [(q5_4, .inr (5, [.null, .int 0]))]) (wr := [(h0, .inr (2, [.null, .null, .null, .null, .null, .null, .null, .int 0, .int 0, .int 0]))]) (wf := tk_wX5 G q5_4) hx hb hml hown hts hK hN hP hD hS hA (kc_X5 l D G q5_4 H.size) [1] [0] rfl rfl rfl rfl (by decide) (show (RX2, 11, yX5_init, RX7) ∈ tk_nests by simp [tk_nests]) im_X5_init in_X5 co_X5_init rfl (show yX5_init.cls ≠ "java/lang/invoke/MethodHandle" ∧ yX5_init.cls ≠ "java/lang/invoke/VarHandle" ∧ (parseMethodDescriptor yX5_init.desc).map (fun q => q.parameters.length) = some 0 by decide +kernel) rfl rfl ⟨(Nat.le_of_ble_eq_true rfl), (Nat.le_of_ble_eq_true rfl)⟩ hl.1 rfl (Nat.le_of_ble_eq_true rfl) dX2_init_9 ⟨(Nat.le_of_ble_eq_true rfl), (Nat.le_of_ble_eq_true rfl)⟩ (fun u9_6 H locs hP hD hS => ?_)
  refine W.widen (k := 2) (n := 42) (Nat.le_of_ble_eq_true rfl) (Nat.le_of_ble_eq_true rfl) ?_
  have hP : va_P D vwCl [(h0, .inr (2, [.null, .null, .null, .null, .null, .null, .null, .int 0, .int 0, .int 0])), (q5_4, .inr (5, [.ref (u9_6 0), .int 0])), (u9_6 0, .inl (G.1, 40, .inl (fun _ => 0)))] H := hP
  have hD : va_D A [(h0, .inr (2, [.null, .null, .null, .null, .null, .null, .null, .int 0, .int 0, .int 0])), (q5_4, .inr (5, [.ref (u9_6 0), .int 0])), (u9_6 0, .inl (G.1, 40, .inl (fun _ => 0)))] := hD
  refine va_putF (D := D) (ci := 2) (v := .ref q5_4) (ty := (.object "TwoGoats$Text")) (C := RX2) (T := TX2) (N := 10) hx hb hts inAX2 tyX2 tyX2_ok nmX2 hown hK hP hD hS 0 rfl rfl 0 (by decide) (hts _ fl_X2_12) (fun _ h9 => h9) rfl hin rfl (by decide +kernel) rfl rfl (Nat.le_of_ble_eq_true rfl) dX2_init_12 (fun H locs hP hD hS => ?_)
  have hP : va_P D vwCl [(h0, .inr (2, [.ref q5_4, .null, .null, .null, .null, .null, .null, .int 0, .int 0, .int 0])), (q5_4, .inr (5, [.ref (u9_6 0), .int 0])), (u9_6 0, .inl (G.1, 40, .inl (fun _ => 0)))] H := hP
  have hD : va_D A [(h0, .inr (2, [.ref q5_4, .null, .null, .null, .null, .null, .null, .int 0, .int 0, .int 0])), (q5_4, .inr (5, [.ref (u9_6 0), .int 0])), (u9_6 0, .inl (G.1, 40, .inl (fun _ => 0)))] := hD
  refine lv_aload_n hx hb dX2_init_15 rfl (lv_at hl 0 rfl) ?_
  refine lv_iconst (v := 2) hx hb dX2_init_16 (by decide) ?_
  refine tk_newI (N := 2) hx hb (hts _ ac_1_43) hK hP hD hS hA (by decide) (by decide) (Nat.le_of_ble_eq_true rfl) (Nat.le_of_ble_eq_true rfl) (Nat.le_of_ble_eq_true rfl) dX2_init_17 (fun q17 H hP hD hS => ?_)
  refine W.widen (k := 3) (n := 44) (Nat.le_of_ble_eq_true rfl) (Nat.le_of_ble_eq_true rfl) ?_
  have hP : va_P D vwCl [(h0, .inr (2, [.ref q5_4, .null, .null, .null, .null, .null, .null, .int 0, .int 0, .int 0])), (q5_4, .inr (5, [.ref (u9_6 0), .int 0])), (u9_6 0, .inl (G.1, 40, .inl (fun _ => 0))), (q17, .inl (G.1, 2, .inl (fun _ => 0)))] H := hP
  have hD : va_D A [(h0, .inr (2, [.ref q5_4, .null, .null, .null, .null, .null, .null, .int 0, .int 0, .int 0])), (q5_4, .inr (5, [.ref (u9_6 0), .int 0])), (u9_6 0, .inl (G.1, 40, .inl (fun _ => 0))), (q17, .inl (G.1, 2, .inl (fun _ => 0)))] := hD
  refine lv_dup hx hb dX2_init_19 rfl ?_
  refine lv_iconst (v := 0) hx hb dX2_init_20 (by decide) ?_
  refine lv_iconst (v := 5) hx hb dX2_init_21 (by decide) ?_
  refine va_iast hx hb hK hP hD hS 3 0 rfl rfl (by unfold vp_in; decide) dX2_init_22 (fun H locs hP hD hS => ?_)
  have hP : va_P D vwCl [(h0, .inr (2, [.ref q5_4, .null, .null, .null, .null, .null, .null, .int 0, .int 0, .int 0])), (q5_4, .inr (5, [.ref (u9_6 0), .int 0])), (u9_6 0, .inl (G.1, 40, .inl (fun _ => 0))), (q17, .inl (G.1, 2, .inl (upd (fun _ => 0) (0 : Int32).toNatClampNeg 5)))] H := hP
  have hD : va_D A [(h0, .inr (2, [.ref q5_4, .null, .null, .null, .null, .null, .null, .int 0, .int 0, .int 0])), (q5_4, .inr (5, [.ref (u9_6 0), .int 0])), (u9_6 0, .inl (G.1, 40, .inl (fun _ => 0))), (q17, .inl (G.1, 2, .inl (upd (fun _ => 0) (0 : Int32).toNatClampNeg 5)))] := hD
  refine lv_dup hx hb dX2_init_23 rfl ?_
  refine lv_iconst (v := 1) hx hb dX2_init_24 (by decide) ?_
  refine lv_iconst (v := 5) hx hb dX2_init_25 (by decide) ?_
  refine va_iast hx hb hK hP hD hS 3 0 rfl rfl (by unfold vp_in; decide) dX2_init_26 (fun H locs hP hD hS => ?_)
  have hP : va_P D vwCl [(h0, .inr (2, [.ref q5_4, .null, .null, .null, .null, .null, .null, .int 0, .int 0, .int 0])), (q5_4, .inr (5, [.ref (u9_6 0), .int 0])), (u9_6 0, .inl (G.1, 40, .inl (fun _ => 0))), (q17, .inl (G.1, 2, .inl (upd (upd (fun _ => 0) (0 : Int32).toNatClampNeg 5) (1 : Int32).toNatClampNeg 5)))] H := hP
  have hD : va_D A [(h0, .inr (2, [.ref q5_4, .null, .null, .null, .null, .null, .null, .int 0, .int 0, .int 0])), (q5_4, .inr (5, [.ref (u9_6 0), .int 0])), (u9_6 0, .inl (G.1, 40, .inl (fun _ => 0))), (q17, .inl (G.1, 2, .inl (upd (upd (fun _ => 0) (0 : Int32).toNatClampNeg 5) (1 : Int32).toNatClampNeg 5)))] := hD
  refine va_putF (D := D) (ci := 2) (v := .ref q17) (ty := (.array .int)) (C := RX2) (T := TX2) (N := 10) hx hb hts inAX2 tyX2 tyX2_ok nmX2 hown hK hP hD hS 0 rfl rfl 1 (by decide) (hts _ fl_X2_18) (fun _ h9 => h9) rfl hin rfl (by decide +kernel) rfl rfl (Nat.le_of_ble_eq_true rfl) dX2_init_27 (fun H locs hP hD hS => ?_)
  have hP : va_P D vwCl [(h0, .inr (2, [.ref q5_4, .ref q17, .null, .null, .null, .null, .null, .int 0, .int 0, .int 0])), (q5_4, .inr (5, [.ref (u9_6 0), .int 0])), (u9_6 0, .inl (G.1, 40, .inl (fun _ => 0))), (q17, .inl (G.1, 2, .inl (upd (upd (fun _ => 0) (0 : Int32).toNatClampNeg 5) (1 : Int32).toNatClampNeg 5)))] H := hP
  have hD : va_D A [(h0, .inr (2, [.ref q5_4, .ref q17, .null, .null, .null, .null, .null, .int 0, .int 0, .int 0])), (q5_4, .inr (5, [.ref (u9_6 0), .int 0])), (u9_6 0, .inl (G.1, 40, .inl (fun _ => 0))), (q17, .inl (G.1, 2, .inl (upd (upd (fun _ => 0) (0 : Int32).toNatClampNeg 5) (1 : Int32).toNatClampNeg 5)))] := hD
  refine lv_aload_n hx hb dX2_init_30 rfl (lv_at hl 0 rfl) ?_
  refine lv_bipush (v := 8) hx hb dX2_init_31 (by decide) ?_
  refine tk_newI (N := 8) hx hb (hts _ ac_1_43) hK hP hD hS hA (by decide) (by decide) (Nat.le_of_ble_eq_true rfl) (Nat.le_of_ble_eq_true rfl) (Nat.le_of_ble_eq_true rfl) dX2_init_33 (fun q33 H hP hD hS => ?_)
  refine W.widen (k := 4) (n := 52) (Nat.le_of_ble_eq_true rfl) (Nat.le_of_ble_eq_true rfl) ?_
  have hP : va_P D vwCl [(h0, .inr (2, [.ref q5_4, .ref q17, .null, .null, .null, .null, .null, .int 0, .int 0, .int 0])), (q5_4, .inr (5, [.ref (u9_6 0), .int 0])), (u9_6 0, .inl (G.1, 40, .inl (fun _ => 0))), (q17, .inl (G.1, 2, .inl (upd (upd (fun _ => 0) (0 : Int32).toNatClampNeg 5) (1 : Int32).toNatClampNeg 5))), (q33, .inl (G.1, 8, .inl (fun _ => 0)))] H := hP
  have hD : va_D A [(h0, .inr (2, [.ref q5_4, .ref q17, .null, .null, .null, .null, .null, .int 0, .int 0, .int 0])), (q5_4, .inr (5, [.ref (u9_6 0), .int 0])), (u9_6 0, .inl (G.1, 40, .inl (fun _ => 0))), (q17, .inl (G.1, 2, .inl (upd (upd (fun _ => 0) (0 : Int32).toNatClampNeg 5) (1 : Int32).toNatClampNeg 5))), (q33, .inl (G.1, 8, .inl (fun _ => 0)))] := hD
  refine va_putF (D := D) (ci := 2) (v := .ref q33) (ty := (.array .int)) (C := RX2) (T := TX2) (N := 10) hx hb hts inAX2 tyX2 tyX2_ok nmX2 hown hK hP hD hS 0 rfl rfl 2 (by decide) (hts _ fl_X2_22) (fun _ h9 => h9) rfl hin rfl (by decide +kernel) rfl rfl (Nat.le_of_ble_eq_true rfl) dX2_init_35 (fun H locs hP hD hS => ?_)
  have hP : va_P D vwCl [(h0, .inr (2, [.ref q5_4, .ref q17, .ref q33, .null, .null, .null, .null, .int 0, .int 0, .int 0])), (q5_4, .inr (5, [.ref (u9_6 0), .int 0])), (u9_6 0, .inl (G.1, 40, .inl (fun _ => 0))), (q17, .inl (G.1, 2, .inl (upd (upd (fun _ => 0) (0 : Int32).toNatClampNeg 5) (1 : Int32).toNatClampNeg 5))), (q33, .inl (G.1, 8, .inl (fun _ => 0)))] H := hP
  have hD : va_D A [(h0, .inr (2, [.ref q5_4, .ref q17, .ref q33, .null, .null, .null, .null, .int 0, .int 0, .int 0])), (q5_4, .inr (5, [.ref (u9_6 0), .int 0])), (u9_6 0, .inl (G.1, 40, .inl (fun _ => 0))), (q17, .inl (G.1, 2, .inl (upd (upd (fun _ => 0) (0 : Int32).toNatClampNeg 5) (1 : Int32).toNatClampNeg 5))), (q33, .inl (G.1, 8, .inl (fun _ => 0)))] := hD
  refine lv_aload_n hx hb dX2_init_38 rfl (lv_at hl 0 rfl) ?_
  refine lv_bipush (v := 8) hx hb dX2_init_39 (by decide) ?_
  refine tk_newI (N := 8) hx hb (hts _ ac_1_43) hK hP hD hS hA (by decide) (by decide) (Nat.le_of_ble_eq_true rfl) (Nat.le_of_ble_eq_true rfl) (Nat.le_of_ble_eq_true rfl) dX2_init_41 (fun q41 H hP hD hS => ?_)
  refine W.widen (k := 5) (n := 60) (Nat.le_of_ble_eq_true rfl) (Nat.le_of_ble_eq_true rfl) ?_
  have hP : va_P D vwCl [(h0, .inr (2, [.ref q5_4, .ref q17, .ref q33, .null, .null, .null, .null, .int 0, .int 0, .int 0])), (q5_4, .inr (5, [.ref (u9_6 0), .int 0])), (u9_6 0, .inl (G.1, 40, .inl (fun _ => 0))), (q17, .inl (G.1, 2, .inl (upd (upd (fun _ => 0) (0 : Int32).toNatClampNeg 5) (1 : Int32).toNatClampNeg 5))), (q33, .inl (G.1, 8, .inl (fun _ => 0))), (q41, .inl (G.1, 8, .inl (fun _ => 0)))] H := hP
  have hD : va_D A [(h0, .inr (2, [.ref q5_4, .ref q17, .ref q33, .null, .null, .null, .null, .int 0, .int 0, .int 0])), (q5_4, .inr (5, [.ref (u9_6 0), .int 0])), (u9_6 0, .inl (G.1, 40, .inl (fun _ => 0))), (q17, .inl (G.1, 2, .inl (upd (upd (fun _ => 0) (0 : Int32).toNatClampNeg 5) (1 : Int32).toNatClampNeg 5))), (q33, .inl (G.1, 8, .inl (fun _ => 0))), (q41, .inl (G.1, 8, .inl (fun _ => 0)))] := hD
  refine va_putF (D := D) (ci := 2) (v := .ref q41) (ty := (.array .int)) (C := RX2) (T := TX2) (N := 10) hx hb hts inAX2 tyX2 tyX2_ok nmX2 hown hK hP hD hS 0 rfl rfl 3 (by decide) (hts _ fl_X2_25) (fun _ h9 => h9) rfl hin rfl (by decide +kernel) rfl rfl (Nat.le_of_ble_eq_true rfl) dX2_init_43 (fun H locs hP hD hS => ?_)
  have hP : va_P D vwCl [(h0, .inr (2, [.ref q5_4, .ref q17, .ref q33, .ref q41, .null, .null, .null, .int 0, .int 0, .int 0])), (q5_4, .inr (5, [.ref (u9_6 0), .int 0])), (u9_6 0, .inl (G.1, 40, .inl (fun _ => 0))), (q17, .inl (G.1, 2, .inl (upd (upd (fun _ => 0) (0 : Int32).toNatClampNeg 5) (1 : Int32).toNatClampNeg 5))), (q33, .inl (G.1, 8, .inl (fun _ => 0))), (q41, .inl (G.1, 8, .inl (fun _ => 0)))] H := hP
  have hD : va_D A [(h0, .inr (2, [.ref q5_4, .ref q17, .ref q33, .ref q41, .null, .null, .null, .int 0, .int 0, .int 0])), (q5_4, .inr (5, [.ref (u9_6 0), .int 0])), (u9_6 0, .inl (G.1, 40, .inl (fun _ => 0))), (q17, .inl (G.1, 2, .inl (upd (upd (fun _ => 0) (0 : Int32).toNatClampNeg 5) (1 : Int32).toNatClampNeg 5))), (q33, .inl (G.1, 8, .inl (fun _ => 0))), (q41, .inl (G.1, 8, .inl (fun _ => 0)))] := hD
  refine lv_aload_n hx hb dX2_init_46 rfl (lv_at hl 0 rfl) ?_
  refine lv_bipush (v := 8) hx hb dX2_init_47 (by decide) ?_
  refine tk_newI (N := 8) hx hb (hts _ ac_1_43) hK hP hD hS hA (by decide) (by decide) (Nat.le_of_ble_eq_true rfl) (Nat.le_of_ble_eq_true rfl) (Nat.le_of_ble_eq_true rfl) dX2_init_49 (fun q49 H hP hD hS => ?_)
  refine W.widen (k := 6) (n := 68) (Nat.le_of_ble_eq_true rfl) (Nat.le_of_ble_eq_true rfl) ?_
  have hP : va_P D vwCl [(h0, .inr (2, [.ref q5_4, .ref q17, .ref q33, .ref q41, .null, .null, .null, .int 0, .int 0, .int 0])), (q5_4, .inr (5, [.ref (u9_6 0), .int 0])), (u9_6 0, .inl (G.1, 40, .inl (fun _ => 0))), (q17, .inl (G.1, 2, .inl (upd (upd (fun _ => 0) (0 : Int32).toNatClampNeg 5) (1 : Int32).toNatClampNeg 5))), (q33, .inl (G.1, 8, .inl (fun _ => 0))), (q41, .inl (G.1, 8, .inl (fun _ => 0))), (q49, .inl (G.1, 8, .inl (fun _ => 0)))] H := hP
  have hD : va_D A [(h0, .inr (2, [.ref q5_4, .ref q17, .ref q33, .ref q41, .null, .null, .null, .int 0, .int 0, .int 0])), (q5_4, .inr (5, [.ref (u9_6 0), .int 0])), (u9_6 0, .inl (G.1, 40, .inl (fun _ => 0))), (q17, .inl (G.1, 2, .inl (upd (upd (fun _ => 0) (0 : Int32).toNatClampNeg 5) (1 : Int32).toNatClampNeg 5))), (q33, .inl (G.1, 8, .inl (fun _ => 0))), (q41, .inl (G.1, 8, .inl (fun _ => 0))), (q49, .inl (G.1, 8, .inl (fun _ => 0)))] := hD
  refine va_putF (D := D) (ci := 2) (v := .ref q49) (ty := (.array .int)) (C := RX2) (T := TX2) (N := 10) hx hb hts inAX2 tyX2 tyX2_ok nmX2 hown hK hP hD hS 0 rfl rfl 4 (by decide) (hts _ fl_X2_28) (fun _ h9 => h9) rfl hin rfl (by decide +kernel) rfl rfl (Nat.le_of_ble_eq_true rfl) dX2_init_51 (fun H locs hP hD hS => ?_)
  have hP : va_P D vwCl [(h0, .inr (2, [.ref q5_4, .ref q17, .ref q33, .ref q41, .ref q49, .null, .null, .int 0, .int 0, .int 0])), (q5_4, .inr (5, [.ref (u9_6 0), .int 0])), (u9_6 0, .inl (G.1, 40, .inl (fun _ => 0))), (q17, .inl (G.1, 2, .inl (upd (upd (fun _ => 0) (0 : Int32).toNatClampNeg 5) (1 : Int32).toNatClampNeg 5))), (q33, .inl (G.1, 8, .inl (fun _ => 0))), (q41, .inl (G.1, 8, .inl (fun _ => 0))), (q49, .inl (G.1, 8, .inl (fun _ => 0)))] H := hP
  have hD : va_D A [(h0, .inr (2, [.ref q5_4, .ref q17, .ref q33, .ref q41, .ref q49, .null, .null, .int 0, .int 0, .int 0])), (q5_4, .inr (5, [.ref (u9_6 0), .int 0])), (u9_6 0, .inl (G.1, 40, .inl (fun _ => 0))), (q17, .inl (G.1, 2, .inl (upd (upd (fun _ => 0) (0 : Int32).toNatClampNeg 5) (1 : Int32).toNatClampNeg 5))), (q33, .inl (G.1, 8, .inl (fun _ => 0))), (q41, .inl (G.1, 8, .inl (fun _ => 0))), (q49, .inl (G.1, 8, .inl (fun _ => 0)))] := hD
  refine lv_aload_n hx hb dX2_init_54 rfl (lv_at hl 0 rfl) ?_
  refine lv_bipush (v := 8) hx hb dX2_init_55 (by decide) ?_
  refine tk_newI (N := 8) hx hb (hts _ ac_1_43) hK hP hD hS hA (by decide) (by decide) (Nat.le_of_ble_eq_true rfl) (Nat.le_of_ble_eq_true rfl) (Nat.le_of_ble_eq_true rfl) dX2_init_57 (fun q57 H hP hD hS => ?_)
  refine W.widen (k := 7) (n := 76) (Nat.le_of_ble_eq_true rfl) (Nat.le_of_ble_eq_true rfl) ?_
  have hP : va_P D vwCl [(h0, .inr (2, [.ref q5_4, .ref q17, .ref q33, .ref q41, .ref q49, .null, .null, .int 0, .int 0, .int 0])), (q5_4, .inr (5, [.ref (u9_6 0), .int 0])), (u9_6 0, .inl (G.1, 40, .inl (fun _ => 0))), (q17, .inl (G.1, 2, .inl (upd (upd (fun _ => 0) (0 : Int32).toNatClampNeg 5) (1 : Int32).toNatClampNeg 5))), (q33, .inl (G.1, 8, .inl (fun _ => 0))), (q41, .inl (G.1, 8, .inl (fun _ => 0))), (q49, .inl (G.1, 8, .inl (fun _ => 0))), (q57, .inl (G.1, 8, .inl (fun _ => 0)))] H := hP
  have hD : va_D A [(h0, .inr (2, [.ref q5_4, .ref q17, .ref q33, .ref q41, .ref q49, .null, .null, .int 0, .int 0, .int 0])), (q5_4, .inr (5, [.ref (u9_6 0), .int 0])), (u9_6 0, .inl (G.1, 40, .inl (fun _ => 0))), (q17, .inl (G.1, 2, .inl (upd (upd (fun _ => 0) (0 : Int32).toNatClampNeg 5) (1 : Int32).toNatClampNeg 5))), (q33, .inl (G.1, 8, .inl (fun _ => 0))), (q41, .inl (G.1, 8, .inl (fun _ => 0))), (q49, .inl (G.1, 8, .inl (fun _ => 0))), (q57, .inl (G.1, 8, .inl (fun _ => 0)))] := hD
  refine va_putF (D := D) (ci := 2) (v := .ref q57) (ty := (.array .int)) (C := RX2) (T := TX2) (N := 10) hx hb hts inAX2 tyX2 tyX2_ok nmX2 hown hK hP hD hS 0 rfl rfl 5 (by decide) (hts _ fl_X2_31) (fun _ h9 => h9) rfl hin rfl (by decide +kernel) rfl rfl (Nat.le_of_ble_eq_true rfl) dX2_init_59 (fun H locs hP hD hS => ?_)
  have hP : va_P D vwCl [(h0, .inr (2, [.ref q5_4, .ref q17, .ref q33, .ref q41, .ref q49, .ref q57, .null, .int 0, .int 0, .int 0])), (q5_4, .inr (5, [.ref (u9_6 0), .int 0])), (u9_6 0, .inl (G.1, 40, .inl (fun _ => 0))), (q17, .inl (G.1, 2, .inl (upd (upd (fun _ => 0) (0 : Int32).toNatClampNeg 5) (1 : Int32).toNatClampNeg 5))), (q33, .inl (G.1, 8, .inl (fun _ => 0))), (q41, .inl (G.1, 8, .inl (fun _ => 0))), (q49, .inl (G.1, 8, .inl (fun _ => 0))), (q57, .inl (G.1, 8, .inl (fun _ => 0)))] H := hP
  have hD : va_D A [(h0, .inr (2, [.ref q5_4, .ref q17, .ref q33, .ref q41, .ref q49, .ref q57, .null, .int 0, .int 0, .int 0])), (q5_4, .inr (5, [.ref (u9_6 0), .int 0])), (u9_6 0, .inl (G.1, 40, .inl (fun _ => 0))), (q17, .inl (G.1, 2, .inl (upd (upd (fun _ => 0) (0 : Int32).toNatClampNeg 5) (1 : Int32).toNatClampNeg 5))), (q33, .inl (G.1, 8, .inl (fun _ => 0))), (q41, .inl (G.1, 8, .inl (fun _ => 0))), (q49, .inl (G.1, 8, .inl (fun _ => 0))), (q57, .inl (G.1, 8, .inl (fun _ => 0)))] := hD
  refine lv_aload_n hx hb dX2_init_62 rfl (lv_at hl 0 rfl) ?_
  refine lv_bipush (v := 8) hx hb dX2_init_63 (by decide) ?_
  refine tk_newI (N := 8) hx hb (hts _ ac_1_43) hK hP hD hS hA (by decide) (by decide) (Nat.le_of_ble_eq_true rfl) (Nat.le_of_ble_eq_true rfl) (Nat.le_of_ble_eq_true rfl) dX2_init_65 (fun q65 H hP hD hS => ?_)
  refine W.widen (k := 8) (n := 84) (Nat.le_of_ble_eq_true rfl) (Nat.le_of_ble_eq_true rfl) ?_
  have hP : va_P D vwCl [(h0, .inr (2, [.ref q5_4, .ref q17, .ref q33, .ref q41, .ref q49, .ref q57, .null, .int 0, .int 0, .int 0])), (q5_4, .inr (5, [.ref (u9_6 0), .int 0])), (u9_6 0, .inl (G.1, 40, .inl (fun _ => 0))), (q17, .inl (G.1, 2, .inl (upd (upd (fun _ => 0) (0 : Int32).toNatClampNeg 5) (1 : Int32).toNatClampNeg 5))), (q33, .inl (G.1, 8, .inl (fun _ => 0))), (q41, .inl (G.1, 8, .inl (fun _ => 0))), (q49, .inl (G.1, 8, .inl (fun _ => 0))), (q57, .inl (G.1, 8, .inl (fun _ => 0))), (q65, .inl (G.1, 8, .inl (fun _ => 0)))] H := hP
  have hD : va_D A [(h0, .inr (2, [.ref q5_4, .ref q17, .ref q33, .ref q41, .ref q49, .ref q57, .null, .int 0, .int 0, .int 0])), (q5_4, .inr (5, [.ref (u9_6 0), .int 0])), (u9_6 0, .inl (G.1, 40, .inl (fun _ => 0))), (q17, .inl (G.1, 2, .inl (upd (upd (fun _ => 0) (0 : Int32).toNatClampNeg 5) (1 : Int32).toNatClampNeg 5))), (q33, .inl (G.1, 8, .inl (fun _ => 0))), (q41, .inl (G.1, 8, .inl (fun _ => 0))), (q49, .inl (G.1, 8, .inl (fun _ => 0))), (q57, .inl (G.1, 8, .inl (fun _ => 0))), (q65, .inl (G.1, 8, .inl (fun _ => 0)))] := hD
  refine va_putF (D := D) (ci := 2) (v := .ref q65) (ty := (.array .int)) (C := RX2) (T := TX2) (N := 10) hx hb hts inAX2 tyX2 tyX2_ok nmX2 hown hK hP hD hS 0 rfl rfl 6 (by decide) (hts _ fl_X2_34) (fun _ h9 => h9) rfl hin rfl (by decide +kernel) rfl rfl (Nat.le_of_ble_eq_true rfl) dX2_init_67 (fun H locs hP hD hS => ?_)
  have hP : va_P D vwCl [(h0, .inr (2, [.ref q5_4, .ref q17, .ref q33, .ref q41, .ref q49, .ref q57, .ref q65, .int 0, .int 0, .int 0])), (q5_4, .inr (5, [.ref (u9_6 0), .int 0])), (u9_6 0, .inl (G.1, 40, .inl (fun _ => 0))), (q17, .inl (G.1, 2, .inl (upd (upd (fun _ => 0) (0 : Int32).toNatClampNeg 5) (1 : Int32).toNatClampNeg 5))), (q33, .inl (G.1, 8, .inl (fun _ => 0))), (q41, .inl (G.1, 8, .inl (fun _ => 0))), (q49, .inl (G.1, 8, .inl (fun _ => 0))), (q57, .inl (G.1, 8, .inl (fun _ => 0))), (q65, .inl (G.1, 8, .inl (fun _ => 0)))] H := hP
  have hD : va_D A [(h0, .inr (2, [.ref q5_4, .ref q17, .ref q33, .ref q41, .ref q49, .ref q57, .ref q65, .int 0, .int 0, .int 0])), (q5_4, .inr (5, [.ref (u9_6 0), .int 0])), (u9_6 0, .inl (G.1, 40, .inl (fun _ => 0))), (q17, .inl (G.1, 2, .inl (upd (upd (fun _ => 0) (0 : Int32).toNatClampNeg 5) (1 : Int32).toNatClampNeg 5))), (q33, .inl (G.1, 8, .inl (fun _ => 0))), (q41, .inl (G.1, 8, .inl (fun _ => 0))), (q49, .inl (G.1, 8, .inl (fun _ => 0))), (q57, .inl (G.1, 8, .inl (fun _ => 0))), (q65, .inl (G.1, 8, .inl (fun _ => 0)))] := hD
  refine lv_aload_n hx hb dX2_init_70 rfl (lv_at hl 0 rfl) ?_
  refine lv_bipush (v := 9) hx hb dX2_init_71 (by decide) ?_
  refine va_put (D := D) (ci := 2) (v := .int 9) (ty := .int) (C := RX2) (T := TX2) (N := 10) hx hb hts inAX2 tyX2 tyX2_ok nmX2 hown hK hP hD hS 0 rfl rfl 7 (by decide) (hts _ fl_X2_37) (fun _ h9 => h9) rfl (by decide +kernel) rfl rfl (Nat.le_of_ble_eq_true rfl) dX2_init_73 (fun H locs hP hD hS => ?_)
  have hP : va_P D vwCl [(h0, .inr (2, [.ref q5_4, .ref q17, .ref q33, .ref q41, .ref q49, .ref q57, .ref q65, .int 9, .int 0, .int 0])), (q5_4, .inr (5, [.ref (u9_6 0), .int 0])), (u9_6 0, .inl (G.1, 40, .inl (fun _ => 0))), (q17, .inl (G.1, 2, .inl (upd (upd (fun _ => 0) (0 : Int32).toNatClampNeg 5) (1 : Int32).toNatClampNeg 5))), (q33, .inl (G.1, 8, .inl (fun _ => 0))), (q41, .inl (G.1, 8, .inl (fun _ => 0))), (q49, .inl (G.1, 8, .inl (fun _ => 0))), (q57, .inl (G.1, 8, .inl (fun _ => 0))), (q65, .inl (G.1, 8, .inl (fun _ => 0)))] H := hP
  have hD : va_D A [(h0, .inr (2, [.ref q5_4, .ref q17, .ref q33, .ref q41, .ref q49, .ref q57, .ref q65, .int 9, .int 0, .int 0])), (q5_4, .inr (5, [.ref (u9_6 0), .int 0])), (u9_6 0, .inl (G.1, 40, .inl (fun _ => 0))), (q17, .inl (G.1, 2, .inl (upd (upd (fun _ => 0) (0 : Int32).toNatClampNeg 5) (1 : Int32).toNatClampNeg 5))), (q33, .inl (G.1, 8, .inl (fun _ => 0))), (q41, .inl (G.1, 8, .inl (fun _ => 0))), (q49, .inl (G.1, 8, .inl (fun _ => 0))), (q57, .inl (G.1, 8, .inl (fun _ => 0))), (q65, .inl (G.1, 8, .inl (fun _ => 0)))] := hD
  refine lv_aload_n hx hb dX2_init_76 rfl (lv_at hl 0 rfl) ?_
  refine lv_iconst (v := 0) hx hb dX2_init_77 (by decide) ?_
  refine va_put (D := D) (ci := 2) (v := .int 0) (ty := .int) (C := RX2) (T := TX2) (N := 10) hx hb hts inAX2 tyX2 tyX2_ok nmX2 hown hK hP hD hS 0 rfl rfl 8 (by decide) (hts _ fl_X2_41) (fun _ h9 => h9) rfl (by decide +kernel) rfl rfl (Nat.le_of_ble_eq_true rfl) dX2_init_78 (fun H locs hP hD hS => ?_)
  have hP : va_P D vwCl [(h0, .inr (2, [.ref q5_4, .ref q17, .ref q33, .ref q41, .ref q49, .ref q57, .ref q65, .int 9, .int 0, .int 0])), (q5_4, .inr (5, [.ref (u9_6 0), .int 0])), (u9_6 0, .inl (G.1, 40, .inl (fun _ => 0))), (q17, .inl (G.1, 2, .inl (upd (upd (fun _ => 0) (0 : Int32).toNatClampNeg 5) (1 : Int32).toNatClampNeg 5))), (q33, .inl (G.1, 8, .inl (fun _ => 0))), (q41, .inl (G.1, 8, .inl (fun _ => 0))), (q49, .inl (G.1, 8, .inl (fun _ => 0))), (q57, .inl (G.1, 8, .inl (fun _ => 0))), (q65, .inl (G.1, 8, .inl (fun _ => 0)))] H := hP
  have hD : va_D A [(h0, .inr (2, [.ref q5_4, .ref q17, .ref q33, .ref q41, .ref q49, .ref q57, .ref q65, .int 9, .int 0, .int 0])), (q5_4, .inr (5, [.ref (u9_6 0), .int 0])), (u9_6 0, .inl (G.1, 40, .inl (fun _ => 0))), (q17, .inl (G.1, 2, .inl (upd (upd (fun _ => 0) (0 : Int32).toNatClampNeg 5) (1 : Int32).toNatClampNeg 5))), (q33, .inl (G.1, 8, .inl (fun _ => 0))), (q41, .inl (G.1, 8, .inl (fun _ => 0))), (q49, .inl (G.1, 8, .inl (fun _ => 0))), (q57, .inl (G.1, 8, .inl (fun _ => 0))), (q65, .inl (G.1, 8, .inl (fun _ => 0)))] := hD
  refine lv_aload_n hx hb dX2_init_81 rfl (lv_at hl 0 rfl) ?_
  refine lv_iconst (v := (-1)) hx hb dX2_init_82 (by decide) ?_
  refine va_put (D := D) (ci := 2) (v := .int (-1)) (ty := .int) (C := RX2) (T := TX2) (N := 10) hx hb hts inAX2 tyX2 tyX2_ok nmX2 hown hK hP hD hS 0 rfl rfl 9 (by decide) (hts _ fl_X2_44) (fun _ h9 => h9) rfl (by decide +kernel) rfl rfl (Nat.le_of_ble_eq_true rfl) dX2_init_83 (fun H locs hP hD hS => ?_)
  have hP : va_P D vwCl [(h0, .inr (2, [.ref q5_4, .ref q17, .ref q33, .ref q41, .ref q49, .ref q57, .ref q65, .int 9, .int 0, .int (-1)])), (q5_4, .inr (5, [.ref (u9_6 0), .int 0])), (u9_6 0, .inl (G.1, 40, .inl (fun _ => 0))), (q17, .inl (G.1, 2, .inl (upd (upd (fun _ => 0) (0 : Int32).toNatClampNeg 5) (1 : Int32).toNatClampNeg 5))), (q33, .inl (G.1, 8, .inl (fun _ => 0))), (q41, .inl (G.1, 8, .inl (fun _ => 0))), (q49, .inl (G.1, 8, .inl (fun _ => 0))), (q57, .inl (G.1, 8, .inl (fun _ => 0))), (q65, .inl (G.1, 8, .inl (fun _ => 0)))] H := hP
  have hD : va_D A [(h0, .inr (2, [.ref q5_4, .ref q17, .ref q33, .ref q41, .ref q49, .ref q57, .ref q65, .int 9, .int 0, .int (-1)])), (q5_4, .inr (5, [.ref (u9_6 0), .int 0])), (u9_6 0, .inl (G.1, 40, .inl (fun _ => 0))), (q17, .inl (G.1, 2, .inl (upd (upd (fun _ => 0) (0 : Int32).toNatClampNeg 5) (1 : Int32).toNatClampNeg 5))), (q33, .inl (G.1, 8, .inl (fun _ => 0))), (q41, .inl (G.1, 8, .inl (fun _ => 0))), (q49, .inl (G.1, 8, .inl (fun _ => 0))), (q57, .inl (G.1, 8, .inl (fun _ => 0))), (q65, .inl (G.1, 8, .inl (fun _ => 0)))] := hD
  refine W.widen (k := 8) (n := 84) (Nat.le_of_ble_eq_true rfl) (Nat.le_of_ble_eq_true rfl) ?_
  exact W.vret hx hb hr (fun t ht hW => ⟨⟨fun k => [q5_4, u9_6 0, q17, q33, q41, q49, q57, q65].getD k 0, rfl, trivial, ⟨by rw [ht]; exact hP, va_K.moved hW.alike hK, tk_nest_warm hW hN⟩, hD⟩, hS.F ht⟩) hS.2.2 dX2_init_86 hlocks
abbrev tk_wX0 (G : tg_G) (h0 : Nat) (hm : Nat) (u : Nat → Nat) : va_W := [(h0, .inr (0, [.ref hm, .ref (u 0), .ref (u 4), .ref (u 2), .ref (u 3), .int 0, .int 0, .int 0])), (u 0, .inr (5, [.ref (u 1), .int 0])), (u 1, .inl (G.1, 40, .inl (fun _ => 0))), (u 2, .inl (G.1, 2, .inl (fun _ => 0))), (u 3, .inl (G.1, 2, .inl (fun _ => 0))), (u 4, .inr (1, [.ref hm, .ref (u 5), .ref (u 6), .int 0, .int 0, .int 0])), (u 5, .inl (G.1, 2, .inl (fun _ => 0))), (u 6, .inl (G.1, 64, .inl (fun _ => 0)))]
set_option maxRecDepth 100000 in
set_option maxHeartbeats 8000000 in
theorem kc_X0 (l : Launch) (D : va_G) (G : tg_G) (h0 : Nat) (hm : Nat) (sz : Nat) : tk_M l D G yX0_init cX0_init 2 { frames := 2, cells := 7, slots := 118, locals := 80 } h0 [.ref hm] [(h0, .inr (0, [.null, .null, .null, .null, .null, .int 0, .int 0, .int 0]))] (tk_wX0 G h0 hm) 7 118 sz := by
  unfold tk_M
  refine Met.ofW (cc := cX0_init) (maxL := 2) (ret := none) (by decide) rfl ?_
  intro p e s m args below meth c s₁ B hml hv
  obtain ⟨rfl, hsz, ⟨hP, hK, hN⟩, hD0⟩ := hv
  have hx := B.exec
  have hb := B.bytes
  have hr := B.returns
  have hts0 := atoms_spec (ws := .code yX0_init cX0_init 2 none :: tg_ALL) B.pre
  have hts := fun w h => hts0 w (List.mem_cons_of_mem _ h)
  have hown : s.vm.findClass RX0 = some m.cls := findClass_of_methodNamed B.named
  have hlocks := B.notSynchronized
  have hin : meth.name = "<init>" := (name_of_methodNamed B.named B.method).1
  subst hsz
  have hD := hD0.self (sz := s.heap.size)
  generalize hAe : va_A [(h0, .inr (0, [.null, .null, .null, .null, .null, .int 0, .int 0, .int 0]))] s.heap.size = A at hD ⊢
  have hA : ∀ q : Nat, s.heap.size ≤ q → A q := fun q h => by rw [← hAe]; exact Or.inr h
  have hS : va_S A s.heap s.heap [] := va_S.rf
  have hP : va_P D vwCl [(h0, .inr (0, [.null, .null, .null, .null, .null, .int 0, .int 0, .int 0]))] s.heap := hP
  have hl := lv_entry ([.ref h0, .ref hm]) (n := 2) (Nat.le_of_ble_eq_true rfl)
  rw [lg_entry_eq]
  generalize (lg_sl ([.ref h0, .ref hm]) ++ List.replicate (2 - (lg_sl ([.ref h0, .ref hm])).length) Slot.unset).toArray = ls at hl ⊢
  have hl : lv_has ls 2 [(0, .ref h0), (1, .ref hm)] := hl
  refine lv_aload_n hx hb dX0_init_0 rfl (lv_at hl 0 rfl) ?_
  refine W.objInit hx hb hown (hts _ ml_X0_3) (hts _ im_objInit) (hts _ co_objInit) rfl (by rw [hml]; exact hl.1) rfl dX0_init_1 (Nat.le_of_ble_eq_true rfl) (Nat.le_of_ble_eq_true rfl) ?_
  refine W.eq (g2 := F0 m 4 ls []) rfl ?_
  refine lv_aload_n hx hb dX0_init_4 rfl (lv_at hl 0 rfl) ?_
  refine va_new (ci := 5) (fs := [.null, .int 0]) (C := RX5) (T := TX5) (N := 2) hx hb hts inAX5 tyX5 tyX5_ok hown (hts _ cl_X0_9) (hts _ it_X5) (hts _ in_X5) hK hP hD hS hA rfl (fun j hj => by rcases (show j = 0 ∨ j = 1 by omega) with rfl | rfl <;> rfl) (Nat.le_of_ble_eq_true rfl) (Nat.le_of_ble_eq_true rfl) dX0_init_5 (fun q5_4 H hP hD hS => ?_)
  refine W.widen (k := 1) (n := 2) (Nat.le_of_ble_eq_true rfl) (Nat.le_of_ble_eq_true rfl) ?_
  have hP : va_P D vwCl [(h0, .inr (0, [.null, .null, .null, .null, .null, .int 0, .int 0, .int 0])), (q5_4, .inr (5, [.null, .int 0]))] H := hP
  have hD : va_D A [(h0, .inr (0, [.null, .null, .null, .null, .null, .int 0, .int 0, .int 0])), (q5_4, .inr (5, [.null, .int 0]))] := hD
  refine lv_dup hx hb dX0_init_8 rfl ?_
  refine tk_callN (w0 := [(q5_4, .inr (5, [.null, .int 0]))]) (wr := [(h0, .inr (0, [.null, .null, .null, .null, .null, .int 0, .int 0, .int 0]))]) (wf := tk_wX5 G q5_4) hx hb hml hown hts hK hN hP hD hS hA (kc_X5 l D G q5_4 H.size) [1] [0] rfl rfl rfl rfl (by decide) (show (RX0, 11, yX5_init, RX7) ∈ tk_nests by simp [tk_nests]) im_X5_init in_X5 co_X5_init rfl (show yX5_init.cls ≠ "java/lang/invoke/MethodHandle" ∧ yX5_init.cls ≠ "java/lang/invoke/VarHandle" ∧ (parseMethodDescriptor yX5_init.desc).map (fun q => q.parameters.length) = some 0 by decide +kernel) rfl rfl ⟨(Nat.le_of_ble_eq_true rfl), (Nat.le_of_ble_eq_true rfl)⟩ hl.1 rfl (Nat.le_of_ble_eq_true rfl) dX0_init_9 ⟨(Nat.le_of_ble_eq_true rfl), (Nat.le_of_ble_eq_true rfl)⟩ (fun u9_6 H locs hP hD hS => ?_)
  refine W.widen (k := 2) (n := 42) (Nat.le_of_ble_eq_true rfl) (Nat.le_of_ble_eq_true rfl) ?_
  have hP : va_P D vwCl [(h0, .inr (0, [.null, .null, .null, .null, .null, .int 0, .int 0, .int 0])), (q5_4, .inr (5, [.ref (u9_6 0), .int 0])), (u9_6 0, .inl (G.1, 40, .inl (fun _ => 0)))] H := hP
  have hD : va_D A [(h0, .inr (0, [.null, .null, .null, .null, .null, .int 0, .int 0, .int 0])), (q5_4, .inr (5, [.ref (u9_6 0), .int 0])), (u9_6 0, .inl (G.1, 40, .inl (fun _ => 0)))] := hD
  refine va_putF (D := D) (ci := 0) (v := .ref q5_4) (ty := (.object "TwoGoats$Text")) (C := RX0) (T := TX0) (N := 8) hx hb hts inAX0 tyX0 tyX0_ok nmX0 hown hK hP hD hS 0 rfl rfl 1 (by decide) (hts _ fl_X0_12) (fun _ h9 => h9) rfl hin rfl (by decide +kernel) rfl rfl (Nat.le_of_ble_eq_true rfl) dX0_init_12 (fun H locs hP hD hS => ?_)
  have hP : va_P D vwCl [(h0, .inr (0, [.null, .ref q5_4, .null, .null, .null, .int 0, .int 0, .int 0])), (q5_4, .inr (5, [.ref (u9_6 0), .int 0])), (u9_6 0, .inl (G.1, 40, .inl (fun _ => 0)))] H := hP
  have hD : va_D A [(h0, .inr (0, [.null, .ref q5_4, .null, .null, .null, .int 0, .int 0, .int 0])), (q5_4, .inr (5, [.ref (u9_6 0), .int 0])), (u9_6 0, .inl (G.1, 40, .inl (fun _ => 0)))] := hD
  refine lv_aload_n hx hb dX0_init_15 rfl (lv_at hl 0 rfl) ?_
  refine lv_iconst (v := 2) hx hb dX0_init_16 (by decide) ?_
  refine tk_newI (N := 2) hx hb (hts _ ac_1_43) hK hP hD hS hA (by decide) (by decide) (Nat.le_of_ble_eq_true rfl) (Nat.le_of_ble_eq_true rfl) (Nat.le_of_ble_eq_true rfl) dX0_init_17 (fun q17 H hP hD hS => ?_)
  refine W.widen (k := 3) (n := 44) (Nat.le_of_ble_eq_true rfl) (Nat.le_of_ble_eq_true rfl) ?_
  have hP : va_P D vwCl [(h0, .inr (0, [.null, .ref q5_4, .null, .null, .null, .int 0, .int 0, .int 0])), (q5_4, .inr (5, [.ref (u9_6 0), .int 0])), (u9_6 0, .inl (G.1, 40, .inl (fun _ => 0))), (q17, .inl (G.1, 2, .inl (fun _ => 0)))] H := hP
  have hD : va_D A [(h0, .inr (0, [.null, .ref q5_4, .null, .null, .null, .int 0, .int 0, .int 0])), (q5_4, .inr (5, [.ref (u9_6 0), .int 0])), (u9_6 0, .inl (G.1, 40, .inl (fun _ => 0))), (q17, .inl (G.1, 2, .inl (fun _ => 0)))] := hD
  refine va_putF (D := D) (ci := 0) (v := .ref q17) (ty := (.array .int)) (C := RX0) (T := TX0) (N := 8) hx hb hts inAX0 tyX0 tyX0_ok nmX0 hown hK hP hD hS 0 rfl rfl 3 (by decide) (hts _ fl_X0_18) (fun _ h9 => h9) rfl hin rfl (by decide +kernel) rfl rfl (Nat.le_of_ble_eq_true rfl) dX0_init_19 (fun H locs hP hD hS => ?_)
  have hP : va_P D vwCl [(h0, .inr (0, [.null, .ref q5_4, .null, .ref q17, .null, .int 0, .int 0, .int 0])), (q5_4, .inr (5, [.ref (u9_6 0), .int 0])), (u9_6 0, .inl (G.1, 40, .inl (fun _ => 0))), (q17, .inl (G.1, 2, .inl (fun _ => 0)))] H := hP
  have hD : va_D A [(h0, .inr (0, [.null, .ref q5_4, .null, .ref q17, .null, .int 0, .int 0, .int 0])), (q5_4, .inr (5, [.ref (u9_6 0), .int 0])), (u9_6 0, .inl (G.1, 40, .inl (fun _ => 0))), (q17, .inl (G.1, 2, .inl (fun _ => 0)))] := hD
  refine lv_aload_n hx hb dX0_init_22 rfl (lv_at hl 0 rfl) ?_
  refine lv_iconst (v := 2) hx hb dX0_init_23 (by decide) ?_
  refine tk_newI (N := 2) hx hb (hts _ ac_1_43) hK hP hD hS hA (by decide) (by decide) (Nat.le_of_ble_eq_true rfl) (Nat.le_of_ble_eq_true rfl) (Nat.le_of_ble_eq_true rfl) dX0_init_24 (fun q24 H hP hD hS => ?_)
  refine W.widen (k := 4) (n := 46) (Nat.le_of_ble_eq_true rfl) (Nat.le_of_ble_eq_true rfl) ?_
  have hP : va_P D vwCl [(h0, .inr (0, [.null, .ref q5_4, .null, .ref q17, .null, .int 0, .int 0, .int 0])), (q5_4, .inr (5, [.ref (u9_6 0), .int 0])), (u9_6 0, .inl (G.1, 40, .inl (fun _ => 0))), (q17, .inl (G.1, 2, .inl (fun _ => 0))), (q24, .inl (G.1, 2, .inl (fun _ => 0)))] H := hP
  have hD : va_D A [(h0, .inr (0, [.null, .ref q5_4, .null, .ref q17, .null, .int 0, .int 0, .int 0])), (q5_4, .inr (5, [.ref (u9_6 0), .int 0])), (u9_6 0, .inl (G.1, 40, .inl (fun _ => 0))), (q17, .inl (G.1, 2, .inl (fun _ => 0))), (q24, .inl (G.1, 2, .inl (fun _ => 0)))] := hD
  refine va_putF (D := D) (ci := 0) (v := .ref q24) (ty := (.array .int)) (C := RX0) (T := TX0) (N := 8) hx hb hts inAX0 tyX0 tyX0_ok nmX0 hown hK hP hD hS 0 rfl rfl 4 (by decide) (hts _ fl_X0_22) (fun _ h9 => h9) rfl hin rfl (by decide +kernel) rfl rfl (Nat.le_of_ble_eq_true rfl) dX0_init_26 (fun H locs hP hD hS => ?_)
  have hP : va_P D vwCl [(h0, .inr (0, [.null, .ref q5_4, .null, .ref q17, .ref q24, .int 0, .int 0, .int 0])), (q5_4, .inr (5, [.ref (u9_6 0), .int 0])), (u9_6 0, .inl (G.1, 40, .inl (fun _ => 0))), (q17, .inl (G.1, 2, .inl (fun _ => 0))), (q24, .inl (G.1, 2, .inl (fun _ => 0)))] H := hP
  have hD : va_D A [(h0, .inr (0, [.null, .ref q5_4, .null, .ref q17, .ref q24, .int 0, .int 0, .int 0])), (q5_4, .inr (5, [.ref (u9_6 0), .int 0])), (u9_6 0, .inl (G.1, 40, .inl (fun _ => 0))), (q17, .inl (G.1, 2, .inl (fun _ => 0))), (q24, .inl (G.1, 2, .inl (fun _ => 0)))] := hD
  refine lv_aload_n hx hb dX0_init_29 rfl (lv_at hl 0 rfl) ?_
  refine lv_iconst (v := 0) hx hb dX0_init_30 (by decide) ?_
  refine va_put (D := D) (ci := 0) (v := .int 0) (ty := .int) (C := RX0) (T := TX0) (N := 8) hx hb hts inAX0 tyX0 tyX0_ok nmX0 hown hK hP hD hS 0 rfl rfl 5 (by decide) (hts _ fl_X0_25) (fun _ h9 => h9) rfl (by decide +kernel) rfl rfl (Nat.le_of_ble_eq_true rfl) dX0_init_31 (fun H locs hP hD hS => ?_)
  have hP : va_P D vwCl [(h0, .inr (0, [.null, .ref q5_4, .null, .ref q17, .ref q24, .int 0, .int 0, .int 0])), (q5_4, .inr (5, [.ref (u9_6 0), .int 0])), (u9_6 0, .inl (G.1, 40, .inl (fun _ => 0))), (q17, .inl (G.1, 2, .inl (fun _ => 0))), (q24, .inl (G.1, 2, .inl (fun _ => 0)))] H := hP
  have hD : va_D A [(h0, .inr (0, [.null, .ref q5_4, .null, .ref q17, .ref q24, .int 0, .int 0, .int 0])), (q5_4, .inr (5, [.ref (u9_6 0), .int 0])), (u9_6 0, .inl (G.1, 40, .inl (fun _ => 0))), (q17, .inl (G.1, 2, .inl (fun _ => 0))), (q24, .inl (G.1, 2, .inl (fun _ => 0)))] := hD
  refine lv_aload_n hx hb dX0_init_34 rfl (lv_at hl 0 rfl) ?_
  refine lv_iconst (v := 0) hx hb dX0_init_35 (by decide) ?_
  refine va_put (D := D) (ci := 0) (v := .int 0) (ty := .int) (C := RX0) (T := TX0) (N := 8) hx hb hts inAX0 tyX0 tyX0_ok nmX0 hown hK hP hD hS 0 rfl rfl 6 (by decide) (hts _ fl_X0_29) (fun _ h9 => h9) rfl (by decide +kernel) rfl rfl (Nat.le_of_ble_eq_true rfl) dX0_init_36 (fun H locs hP hD hS => ?_)
  have hP : va_P D vwCl [(h0, .inr (0, [.null, .ref q5_4, .null, .ref q17, .ref q24, .int 0, .int 0, .int 0])), (q5_4, .inr (5, [.ref (u9_6 0), .int 0])), (u9_6 0, .inl (G.1, 40, .inl (fun _ => 0))), (q17, .inl (G.1, 2, .inl (fun _ => 0))), (q24, .inl (G.1, 2, .inl (fun _ => 0)))] H := hP
  have hD : va_D A [(h0, .inr (0, [.null, .ref q5_4, .null, .ref q17, .ref q24, .int 0, .int 0, .int 0])), (q5_4, .inr (5, [.ref (u9_6 0), .int 0])), (u9_6 0, .inl (G.1, 40, .inl (fun _ => 0))), (q17, .inl (G.1, 2, .inl (fun _ => 0))), (q24, .inl (G.1, 2, .inl (fun _ => 0)))] := hD
  refine lv_aload_n hx hb dX0_init_39 rfl (lv_at hl 0 rfl) ?_
  refine lv_iconst (v := 0) hx hb dX0_init_40 (by decide) ?_
  refine va_put (D := D) (ci := 0) (v := .int 0) (ty := .int) (C := RX0) (T := TX0) (N := 8) hx hb hts inAX0 tyX0 tyX0_ok nmX0 hown hK hP hD hS 0 rfl rfl 7 (by decide) (hts _ fl_X0_32) (fun _ h9 => h9) rfl (by decide +kernel) rfl rfl (Nat.le_of_ble_eq_true rfl) dX0_init_41 (fun H locs hP hD hS => ?_)
  have hP : va_P D vwCl [(h0, .inr (0, [.null, .ref q5_4, .null, .ref q17, .ref q24, .int 0, .int 0, .int 0])), (q5_4, .inr (5, [.ref (u9_6 0), .int 0])), (u9_6 0, .inl (G.1, 40, .inl (fun _ => 0))), (q17, .inl (G.1, 2, .inl (fun _ => 0))), (q24, .inl (G.1, 2, .inl (fun _ => 0)))] H := hP
  have hD : va_D A [(h0, .inr (0, [.null, .ref q5_4, .null, .ref q17, .ref q24, .int 0, .int 0, .int 0])), (q5_4, .inr (5, [.ref (u9_6 0), .int 0])), (u9_6 0, .inl (G.1, 40, .inl (fun _ => 0))), (q17, .inl (G.1, 2, .inl (fun _ => 0))), (q24, .inl (G.1, 2, .inl (fun _ => 0)))] := hD
  refine lv_aload_n hx hb dX0_init_44 rfl (lv_at hl 0 rfl) ?_
  refine lv_aload_n hx hb dX0_init_45 rfl (lv_at hl 1 rfl) ?_
  refine va_putF (D := D) (ci := 0) (v := .ref hm) (ty := (.object "TwoGoats$Meadow")) (C := RX0) (T := TX0) (N := 8) hx hb hts inAX0 tyX0 tyX0_ok nmX0 hown hK hP hD hS 0 rfl rfl 0 (by decide) (hts _ fl_X0_35) (fun _ h9 => h9) rfl hin rfl (by decide +kernel) rfl rfl (Nat.le_of_ble_eq_true rfl) dX0_init_46 (fun H locs hP hD hS => ?_)
  have hP : va_P D vwCl [(h0, .inr (0, [.ref hm, .ref q5_4, .null, .ref q17, .ref q24, .int 0, .int 0, .int 0])), (q5_4, .inr (5, [.ref (u9_6 0), .int 0])), (u9_6 0, .inl (G.1, 40, .inl (fun _ => 0))), (q17, .inl (G.1, 2, .inl (fun _ => 0))), (q24, .inl (G.1, 2, .inl (fun _ => 0)))] H := hP
  have hD : va_D A [(h0, .inr (0, [.ref hm, .ref q5_4, .null, .ref q17, .ref q24, .int 0, .int 0, .int 0])), (q5_4, .inr (5, [.ref (u9_6 0), .int 0])), (u9_6 0, .inl (G.1, 40, .inl (fun _ => 0))), (q17, .inl (G.1, 2, .inl (fun _ => 0))), (q24, .inl (G.1, 2, .inl (fun _ => 0)))] := hD
  refine lv_aload_n hx hb dX0_init_49 rfl (lv_at hl 0 rfl) ?_
  refine va_new (ci := 1) (fs := [.null, .null, .null, .int 0, .int 0, .int 0]) (C := RX1) (T := TX1) (N := 6) hx hb hts inAX1 tyX1 tyX1_ok hown (hts _ cl_X0_39) (hts _ it_X1) (hts _ in_X1) hK hP hD hS hA rfl (fun j hj => by rcases (show j = 0 ∨ j = 1 ∨ j = 2 ∨ j = 3 ∨ j = 4 ∨ j = 5 by omega) with rfl | rfl | rfl | rfl | rfl | rfl <;> rfl) (Nat.le_of_ble_eq_true rfl) (Nat.le_of_ble_eq_true rfl) dX0_init_50 (fun q50_29 H hP hD hS => ?_)
  refine W.widen (k := 5) (n := 52) (Nat.le_of_ble_eq_true rfl) (Nat.le_of_ble_eq_true rfl) ?_
  have hP : va_P D vwCl [(h0, .inr (0, [.ref hm, .ref q5_4, .null, .ref q17, .ref q24, .int 0, .int 0, .int 0])), (q5_4, .inr (5, [.ref (u9_6 0), .int 0])), (u9_6 0, .inl (G.1, 40, .inl (fun _ => 0))), (q17, .inl (G.1, 2, .inl (fun _ => 0))), (q24, .inl (G.1, 2, .inl (fun _ => 0))), (q50_29, .inr (1, [.null, .null, .null, .int 0, .int 0, .int 0]))] H := hP
  have hD : va_D A [(h0, .inr (0, [.ref hm, .ref q5_4, .null, .ref q17, .ref q24, .int 0, .int 0, .int 0])), (q5_4, .inr (5, [.ref (u9_6 0), .int 0])), (u9_6 0, .inl (G.1, 40, .inl (fun _ => 0))), (q17, .inl (G.1, 2, .inl (fun _ => 0))), (q24, .inl (G.1, 2, .inl (fun _ => 0))), (q50_29, .inr (1, [.null, .null, .null, .int 0, .int 0, .int 0]))] := hD
  refine lv_dup hx hb dX0_init_53 rfl ?_
  refine lv_aload_n hx hb dX0_init_54 rfl (lv_at hl 1 rfl) ?_
  refine tk_callI (w0 := [(q50_29, .inr (1, [.null, .null, .null, .int 0, .int 0, .int 0]))]) (wr := [(h0, .inr (0, [.ref hm, .ref q5_4, .null, .ref q17, .ref q24, .int 0, .int 0, .int 0])), (q5_4, .inr (5, [.ref (u9_6 0), .int 0])), (u9_6 0, .inl (G.1, 40, .inl (fun _ => 0))), (q17, .inl (G.1, 2, .inl (fun _ => 0))), (q24, .inl (G.1, 2, .inl (fun _ => 0)))]) (wf := tk_wX1 G q50_29 hm) hx hb hml hown hts hK hN hP hD hS hA (kc_X1 l D G q50_29 hm H.size) [5] [0, 1, 2, 3, 4] rfl rfl rfl rfl (by decide) ml_X0_41 im_X1_init in_X1 co_X1_init rfl (show yX1_init.cls ≠ "java/lang/invoke/MethodHandle" ∧ yX1_init.cls ≠ "java/lang/invoke/VarHandle" ∧ (parseMethodDescriptor yX1_init.desc).map (fun q => q.parameters.length) = some 1 by decide +kernel) rfl rfl ⟨(Nat.le_of_ble_eq_true rfl), (Nat.le_of_ble_eq_true rfl)⟩ hl.1 rfl (Nat.le_of_ble_eq_true rfl) dX0_init_55 ⟨(Nat.le_of_ble_eq_true rfl), (Nat.le_of_ble_eq_true rfl)⟩ (fun u55_32 H locs hP hD hS => ?_)
  refine W.widen (k := 7) (n := 118) (Nat.le_of_ble_eq_true rfl) (Nat.le_of_ble_eq_true rfl) ?_
  have hP : va_P D vwCl [(h0, .inr (0, [.ref hm, .ref q5_4, .null, .ref q17, .ref q24, .int 0, .int 0, .int 0])), (q5_4, .inr (5, [.ref (u9_6 0), .int 0])), (u9_6 0, .inl (G.1, 40, .inl (fun _ => 0))), (q17, .inl (G.1, 2, .inl (fun _ => 0))), (q24, .inl (G.1, 2, .inl (fun _ => 0))), (q50_29, .inr (1, [.ref hm, .ref (u55_32 0), .ref (u55_32 1), .int 0, .int 0, .int 0])), (u55_32 0, .inl (G.1, 2, .inl (fun _ => 0))), (u55_32 1, .inl (G.1, 64, .inl (fun _ => 0)))] H := hP
  have hD : va_D A [(h0, .inr (0, [.ref hm, .ref q5_4, .null, .ref q17, .ref q24, .int 0, .int 0, .int 0])), (q5_4, .inr (5, [.ref (u9_6 0), .int 0])), (u9_6 0, .inl (G.1, 40, .inl (fun _ => 0))), (q17, .inl (G.1, 2, .inl (fun _ => 0))), (q24, .inl (G.1, 2, .inl (fun _ => 0))), (q50_29, .inr (1, [.ref hm, .ref (u55_32 0), .ref (u55_32 1), .int 0, .int 0, .int 0])), (u55_32 0, .inl (G.1, 2, .inl (fun _ => 0))), (u55_32 1, .inl (G.1, 64, .inl (fun _ => 0)))] := hD
  refine va_putF (D := D) (ci := 0) (v := .ref q50_29) (ty := (.object "TwoGoats$Goats")) (C := RX0) (T := TX0) (N := 8) hx hb hts inAX0 tyX0 tyX0_ok nmX0 hown hK hP hD hS 0 rfl rfl 2 (by decide) (hts _ fl_X0_44) (fun _ h9 => h9) rfl hin rfl (by decide +kernel) rfl rfl (Nat.le_of_ble_eq_true rfl) dX0_init_58 (fun H locs hP hD hS => ?_)
  have hP : va_P D vwCl [(h0, .inr (0, [.ref hm, .ref q5_4, .ref q50_29, .ref q17, .ref q24, .int 0, .int 0, .int 0])), (q5_4, .inr (5, [.ref (u9_6 0), .int 0])), (u9_6 0, .inl (G.1, 40, .inl (fun _ => 0))), (q17, .inl (G.1, 2, .inl (fun _ => 0))), (q24, .inl (G.1, 2, .inl (fun _ => 0))), (q50_29, .inr (1, [.ref hm, .ref (u55_32 0), .ref (u55_32 1), .int 0, .int 0, .int 0])), (u55_32 0, .inl (G.1, 2, .inl (fun _ => 0))), (u55_32 1, .inl (G.1, 64, .inl (fun _ => 0)))] H := hP
  have hD : va_D A [(h0, .inr (0, [.ref hm, .ref q5_4, .ref q50_29, .ref q17, .ref q24, .int 0, .int 0, .int 0])), (q5_4, .inr (5, [.ref (u9_6 0), .int 0])), (u9_6 0, .inl (G.1, 40, .inl (fun _ => 0))), (q17, .inl (G.1, 2, .inl (fun _ => 0))), (q24, .inl (G.1, 2, .inl (fun _ => 0))), (q50_29, .inr (1, [.ref hm, .ref (u55_32 0), .ref (u55_32 1), .int 0, .int 0, .int 0])), (u55_32 0, .inl (G.1, 2, .inl (fun _ => 0))), (u55_32 1, .inl (G.1, 64, .inl (fun _ => 0)))] := hD
  refine W.widen (k := 7) (n := 118) (Nat.le_of_ble_eq_true rfl) (Nat.le_of_ble_eq_true rfl) ?_
  exact W.vret hx hb hr (fun t ht hW => ⟨⟨fun k => [q5_4, u9_6 0, q17, q24, q50_29, u55_32 0, u55_32 1].getD k 0, rfl, trivial, ⟨by rw [ht]; exact hP, va_K.moved hW.alike hK, tk_nest_warm hW hN⟩, hD⟩, hS.F ht⟩) hS.2.2 dX0_init_61 hlocks
abbrev tk_wX3 (G : tg_G) (h0 : Nat) (hm : Nat) (u : Nat → Nat) : va_W := [(h0, .inr (3, [.ref hm, .ref (u 2), .ref (u 0), .ref (u 1), .int 0])), (u 0, .inl (G.2.1, 1001, .inr (.inl (fun _ => 0)))), (u 1, .inl (G.1, 2048, .inl (fun _ => 0))), (u 2, .inr (1, [.ref hm, .ref (u 3), .ref (u 4), .int 0, .int 0, .int 0])), (u 3, .inl (G.1, 2, .inl (fun _ => 0))), (u 4, .inl (G.1, 64, .inl (fun _ => 0)))]
set_option maxRecDepth 100000 in
set_option maxHeartbeats 8000000 in
theorem kc_X3 (l : Launch) (D : va_G) (G : tg_G) (h0 : Nat) (hm : Nat) (sz : Nat) : tk_M l D G yX3_init cX3_init 2 { frames := 2, cells := 5, slots := 3121, locals := 80 } h0 [.ref hm] [(h0, .inr (3, [.null, .null, .null, .null, .int 0]))] (tk_wX3 G h0 hm) 5 3121 sz := by
  unfold tk_M
  refine Met.ofW (cc := cX3_init) (maxL := 2) (ret := none) (by decide) rfl ?_
  intro p e s m args below meth c s₁ B hml hv
  obtain ⟨rfl, hsz, ⟨hP, hK, hN⟩, hD0⟩ := hv
  have hx := B.exec
  have hb := B.bytes
  have hr := B.returns
  have hts0 := atoms_spec (ws := .code yX3_init cX3_init 2 none :: tg_ALL) B.pre
  have hts := fun w h => hts0 w (List.mem_cons_of_mem _ h)
  have hown : s.vm.findClass RX3 = some m.cls := findClass_of_methodNamed B.named
  have hlocks := B.notSynchronized
  have hin : meth.name = "<init>" := (name_of_methodNamed B.named B.method).1
  subst hsz
  have hD := hD0.self (sz := s.heap.size)
  generalize hAe : va_A [(h0, .inr (3, [.null, .null, .null, .null, .int 0]))] s.heap.size = A at hD ⊢
  have hA : ∀ q : Nat, s.heap.size ≤ q → A q := fun q h => by rw [← hAe]; exact Or.inr h
  have hS : va_S A s.heap s.heap [] := va_S.rf
  have hP : va_P D vwCl [(h0, .inr (3, [.null, .null, .null, .null, .int 0]))] s.heap := hP
  have hl := lv_entry ([.ref h0, .ref hm]) (n := 2) (Nat.le_of_ble_eq_true rfl)
  rw [lg_entry_eq]
  generalize (lg_sl ([.ref h0, .ref hm]) ++ List.replicate (2 - (lg_sl ([.ref h0, .ref hm])).length) Slot.unset).toArray = ls at hl ⊢
  have hl : lv_has ls 2 [(0, .ref h0), (1, .ref hm)] := hl
  refine lv_aload_n hx hb dX3_init_0 rfl (lv_at hl 0 rfl) ?_
  refine W.objInit hx hb hown (hts _ ml_X3_3) (hts _ im_objInit) (hts _ co_objInit) rfl (by rw [hml]; exact hl.1) rfl dX3_init_1 (Nat.le_of_ble_eq_true rfl) (Nat.le_of_ble_eq_true rfl) ?_
  refine W.eq (g2 := F0 m 4 ls []) rfl ?_
  refine lv_aload_n hx hb dX3_init_4 rfl (lv_at hl 0 rfl) ?_
  refine lv_sipush (v := 1001) hx hb dX3_init_5 (by decide) ?_
  refine tk_newL (N := 1001) hx hb (hts _ ac_1_184) hK hP hD hS hA (by decide) (by decide) (Nat.le_of_ble_eq_true rfl) (Nat.le_of_ble_eq_true rfl) (Nat.le_of_ble_eq_true rfl) dX3_init_8 (fun q8 H hP hD hS => ?_)
  refine W.widen (k := 1) (n := 1001) (Nat.le_of_ble_eq_true rfl) (Nat.le_of_ble_eq_true rfl) ?_
  have hP : va_P D vwCl [(h0, .inr (3, [.null, .null, .null, .null, .int 0])), (q8, .inl (G.2.1, 1001, .inr (.inl (fun _ => 0))))] H := hP
  have hD : va_D A [(h0, .inr (3, [.null, .null, .null, .null, .int 0])), (q8, .inl (G.2.1, 1001, .inr (.inl (fun _ => 0))))] := hD
  refine va_putF (D := D) (ci := 3) (v := .ref q8) (ty := (.array .long)) (C := RX3) (T := TX3) (N := 5) hx hb hts inAX3 tyX3 tyX3_ok nmX3 hown hK hP hD hS 0 rfl rfl 2 (by decide) (hts _ fl_X3_11) (fun _ h9 => h9) rfl hin rfl (by decide +kernel) rfl rfl (Nat.le_of_ble_eq_true rfl) dX3_init_10 (fun H locs hP hD hS => ?_)
  have hP : va_P D vwCl [(h0, .inr (3, [.null, .null, .ref q8, .null, .int 0])), (q8, .inl (G.2.1, 1001, .inr (.inl (fun _ => 0))))] H := hP
  have hD : va_D A [(h0, .inr (3, [.null, .null, .ref q8, .null, .int 0])), (q8, .inl (G.2.1, 1001, .inr (.inl (fun _ => 0))))] := hD
  refine lv_aload_n hx hb dX3_init_13 rfl (lv_at hl 0 rfl) ?_
  refine lv_sipush (v := 2048) hx hb dX3_init_14 (by decide) ?_
  refine tk_newI (N := 2048) hx hb (hts _ ac_1_43) hK hP hD hS hA (by decide) (by decide) (Nat.le_of_ble_eq_true rfl) (Nat.le_of_ble_eq_true rfl) (Nat.le_of_ble_eq_true rfl) dX3_init_17 (fun q17 H hP hD hS => ?_)
  refine W.widen (k := 2) (n := 3049) (Nat.le_of_ble_eq_true rfl) (Nat.le_of_ble_eq_true rfl) ?_
  have hP : va_P D vwCl [(h0, .inr (3, [.null, .null, .ref q8, .null, .int 0])), (q8, .inl (G.2.1, 1001, .inr (.inl (fun _ => 0)))), (q17, .inl (G.1, 2048, .inl (fun _ => 0)))] H := hP
  have hD : va_D A [(h0, .inr (3, [.null, .null, .ref q8, .null, .int 0])), (q8, .inl (G.2.1, 1001, .inr (.inl (fun _ => 0)))), (q17, .inl (G.1, 2048, .inl (fun _ => 0)))] := hD
  refine va_putF (D := D) (ci := 3) (v := .ref q17) (ty := (.array .int)) (C := RX3) (T := TX3) (N := 5) hx hb hts inAX3 tyX3 tyX3_ok nmX3 hown hK hP hD hS 0 rfl rfl 3 (by decide) (hts _ fl_X3_15) (fun _ h9 => h9) rfl hin rfl (by decide +kernel) rfl rfl (Nat.le_of_ble_eq_true rfl) dX3_init_19 (fun H locs hP hD hS => ?_)
  have hP : va_P D vwCl [(h0, .inr (3, [.null, .null, .ref q8, .ref q17, .int 0])), (q8, .inl (G.2.1, 1001, .inr (.inl (fun _ => 0)))), (q17, .inl (G.1, 2048, .inl (fun _ => 0)))] H := hP
  have hD : va_D A [(h0, .inr (3, [.null, .null, .ref q8, .ref q17, .int 0])), (q8, .inl (G.2.1, 1001, .inr (.inl (fun _ => 0)))), (q17, .inl (G.1, 2048, .inl (fun _ => 0)))] := hD
  refine lv_aload_n hx hb dX3_init_22 rfl (lv_at hl 0 rfl) ?_
  refine lv_iconst (v := 0) hx hb dX3_init_23 (by decide) ?_
  refine va_put (D := D) (ci := 3) (v := .int 0) (ty := .int) (C := RX3) (T := TX3) (N := 5) hx hb hts inAX3 tyX3 tyX3_ok nmX3 hown hK hP hD hS 0 rfl rfl 4 (by decide) (hts _ fl_X3_19) (fun _ h9 => h9) rfl (by decide +kernel) rfl rfl (Nat.le_of_ble_eq_true rfl) dX3_init_24 (fun H locs hP hD hS => ?_)
  have hP : va_P D vwCl [(h0, .inr (3, [.null, .null, .ref q8, .ref q17, .int 0])), (q8, .inl (G.2.1, 1001, .inr (.inl (fun _ => 0)))), (q17, .inl (G.1, 2048, .inl (fun _ => 0)))] H := hP
  have hD : va_D A [(h0, .inr (3, [.null, .null, .ref q8, .ref q17, .int 0])), (q8, .inl (G.2.1, 1001, .inr (.inl (fun _ => 0)))), (q17, .inl (G.1, 2048, .inl (fun _ => 0)))] := hD
  refine lv_aload_n hx hb dX3_init_27 rfl (lv_at hl 0 rfl) ?_
  refine lv_aload_n hx hb dX3_init_28 rfl (lv_at hl 1 rfl) ?_
  refine va_putF (D := D) (ci := 3) (v := .ref hm) (ty := (.object "TwoGoats$Meadow")) (C := RX3) (T := TX3) (N := 5) hx hb hts inAX3 tyX3 tyX3_ok nmX3 hown hK hP hD hS 0 rfl rfl 0 (by decide) (hts _ fl_X3_23) (fun _ h9 => h9) rfl hin rfl (by decide +kernel) rfl rfl (Nat.le_of_ble_eq_true rfl) dX3_init_29 (fun H locs hP hD hS => ?_)
  have hP : va_P D vwCl [(h0, .inr (3, [.ref hm, .null, .ref q8, .ref q17, .int 0])), (q8, .inl (G.2.1, 1001, .inr (.inl (fun _ => 0)))), (q17, .inl (G.1, 2048, .inl (fun _ => 0)))] H := hP
  have hD : va_D A [(h0, .inr (3, [.ref hm, .null, .ref q8, .ref q17, .int 0])), (q8, .inl (G.2.1, 1001, .inr (.inl (fun _ => 0)))), (q17, .inl (G.1, 2048, .inl (fun _ => 0)))] := hD
  refine lv_aload_n hx hb dX3_init_32 rfl (lv_at hl 0 rfl) ?_
  refine va_new (ci := 1) (fs := [.null, .null, .null, .int 0, .int 0, .int 0]) (C := RX1) (T := TX1) (N := 6) hx hb hts inAX1 tyX1 tyX1_ok hown (hts _ cl_X3_27) (hts _ it_X1) (hts _ in_X1) hK hP hD hS hA rfl (fun j hj => by rcases (show j = 0 ∨ j = 1 ∨ j = 2 ∨ j = 3 ∨ j = 4 ∨ j = 5 by omega) with rfl | rfl | rfl | rfl | rfl | rfl <;> rfl) (Nat.le_of_ble_eq_true rfl) (Nat.le_of_ble_eq_true rfl) dX3_init_33 (fun q33_18 H hP hD hS => ?_)
  refine W.widen (k := 3) (n := 3055) (Nat.le_of_ble_eq_true rfl) (Nat.le_of_ble_eq_true rfl) ?_
  have hP : va_P D vwCl [(h0, .inr (3, [.ref hm, .null, .ref q8, .ref q17, .int 0])), (q8, .inl (G.2.1, 1001, .inr (.inl (fun _ => 0)))), (q17, .inl (G.1, 2048, .inl (fun _ => 0))), (q33_18, .inr (1, [.null, .null, .null, .int 0, .int 0, .int 0]))] H := hP
  have hD : va_D A [(h0, .inr (3, [.ref hm, .null, .ref q8, .ref q17, .int 0])), (q8, .inl (G.2.1, 1001, .inr (.inl (fun _ => 0)))), (q17, .inl (G.1, 2048, .inl (fun _ => 0))), (q33_18, .inr (1, [.null, .null, .null, .int 0, .int 0, .int 0]))] := hD
  refine lv_dup hx hb dX3_init_36 rfl ?_
  refine lv_aload_n hx hb dX3_init_37 rfl (lv_at hl 1 rfl) ?_
  refine tk_callI (w0 := [(q33_18, .inr (1, [.null, .null, .null, .int 0, .int 0, .int 0]))]) (wr := [(h0, .inr (3, [.ref hm, .null, .ref q8, .ref q17, .int 0])), (q8, .inl (G.2.1, 1001, .inr (.inl (fun _ => 0)))), (q17, .inl (G.1, 2048, .inl (fun _ => 0)))]) (wf := tk_wX1 G q33_18 hm) hx hb hml hown hts hK hN hP hD hS hA (kc_X1 l D G q33_18 hm H.size) [3] [0, 1, 2] rfl rfl rfl rfl (by decide) ml_X3_29 im_X1_init in_X1 co_X1_init rfl (show yX1_init.cls ≠ "java/lang/invoke/MethodHandle" ∧ yX1_init.cls ≠ "java/lang/invoke/VarHandle" ∧ (parseMethodDescriptor yX1_init.desc).map (fun q => q.parameters.length) = some 1 by decide +kernel) rfl rfl ⟨(Nat.le_of_ble_eq_true rfl), (Nat.le_of_ble_eq_true rfl)⟩ hl.1 rfl (Nat.le_of_ble_eq_true rfl) dX3_init_38 ⟨(Nat.le_of_ble_eq_true rfl), (Nat.le_of_ble_eq_true rfl)⟩ (fun u38_21 H locs hP hD hS => ?_)
  refine W.widen (k := 5) (n := 3121) (Nat.le_of_ble_eq_true rfl) (Nat.le_of_ble_eq_true rfl) ?_
  have hP : va_P D vwCl [(h0, .inr (3, [.ref hm, .null, .ref q8, .ref q17, .int 0])), (q8, .inl (G.2.1, 1001, .inr (.inl (fun _ => 0)))), (q17, .inl (G.1, 2048, .inl (fun _ => 0))), (q33_18, .inr (1, [.ref hm, .ref (u38_21 0), .ref (u38_21 1), .int 0, .int 0, .int 0])), (u38_21 0, .inl (G.1, 2, .inl (fun _ => 0))), (u38_21 1, .inl (G.1, 64, .inl (fun _ => 0)))] H := hP
  have hD : va_D A [(h0, .inr (3, [.ref hm, .null, .ref q8, .ref q17, .int 0])), (q8, .inl (G.2.1, 1001, .inr (.inl (fun _ => 0)))), (q17, .inl (G.1, 2048, .inl (fun _ => 0))), (q33_18, .inr (1, [.ref hm, .ref (u38_21 0), .ref (u38_21 1), .int 0, .int 0, .int 0])), (u38_21 0, .inl (G.1, 2, .inl (fun _ => 0))), (u38_21 1, .inl (G.1, 64, .inl (fun _ => 0)))] := hD
  refine va_putF (D := D) (ci := 3) (v := .ref q33_18) (ty := (.object "TwoGoats$Goats")) (C := RX3) (T := TX3) (N := 5) hx hb hts inAX3 tyX3 tyX3_ok nmX3 hown hK hP hD hS 0 rfl rfl 1 (by decide) (hts _ fl_X3_32) (fun _ h9 => h9) rfl hin rfl (by decide +kernel) rfl rfl (Nat.le_of_ble_eq_true rfl) dX3_init_41 (fun H locs hP hD hS => ?_)
  have hP : va_P D vwCl [(h0, .inr (3, [.ref hm, .ref q33_18, .ref q8, .ref q17, .int 0])), (q8, .inl (G.2.1, 1001, .inr (.inl (fun _ => 0)))), (q17, .inl (G.1, 2048, .inl (fun _ => 0))), (q33_18, .inr (1, [.ref hm, .ref (u38_21 0), .ref (u38_21 1), .int 0, .int 0, .int 0])), (u38_21 0, .inl (G.1, 2, .inl (fun _ => 0))), (u38_21 1, .inl (G.1, 64, .inl (fun _ => 0)))] H := hP
  have hD : va_D A [(h0, .inr (3, [.ref hm, .ref q33_18, .ref q8, .ref q17, .int 0])), (q8, .inl (G.2.1, 1001, .inr (.inl (fun _ => 0)))), (q17, .inl (G.1, 2048, .inl (fun _ => 0))), (q33_18, .inr (1, [.ref hm, .ref (u38_21 0), .ref (u38_21 1), .int 0, .int 0, .int 0])), (u38_21 0, .inl (G.1, 2, .inl (fun _ => 0))), (u38_21 1, .inl (G.1, 64, .inl (fun _ => 0)))] := hD
  refine W.widen (k := 5) (n := 3121) (Nat.le_of_ble_eq_true rfl) (Nat.le_of_ble_eq_true rfl) ?_
  exact W.vret hx hb hr (fun t ht hW => ⟨⟨fun k => [q8, q17, q33_18, u38_21 0, u38_21 1].getD k 0, rfl, trivial, ⟨by rw [ht]; exact hP, va_K.moved hW.alike hK, tk_nest_warm hW hN⟩, hD⟩, hS.F ht⟩) hS.2.2 dX3_init_44 hlocks
abbrev tk_wX6 (G : tg_G) (h0 : Nat) (hm : Nat) (u : Nat → Nat) : va_W := [(h0, .inr (6, [.ref hm, .ref (u 0), .int 0, .int (-1)])), (u 0, .inr (1, [.ref hm, .ref (u 1), .ref (u 2), .int 0, .int 0, .int 0])), (u 1, .inl (G.1, 2, .inl (fun _ => 0))), (u 2, .inl (G.1, 64, .inl (fun _ => 0)))]
set_option maxRecDepth 100000 in
set_option maxHeartbeats 8000000 in
theorem kc_X6 (l : Launch) (D : va_G) (G : tg_G) (h0 : Nat) (hm : Nat) (sz : Nat) : tk_M l D G yX6_init cX6_init 2 { frames := 2, cells := 3, slots := 72, locals := 80 } h0 [.ref hm] [(h0, .inr (6, [.null, .null, .int 0, .int 0]))] (tk_wX6 G h0 hm) 3 72 sz := by
  unfold tk_M
  refine Met.ofW (cc := cX6_init) (maxL := 2) (ret := none) (by decide) rfl ?_
  intro p e s m args below meth c s₁ B hml hv
  obtain ⟨rfl, hsz, ⟨hP, hK, hN⟩, hD0⟩ := hv
  have hx := B.exec
  have hb := B.bytes
  have hr := B.returns
  have hts0 := atoms_spec (ws := .code yX6_init cX6_init 2 none :: tg_ALL) B.pre
  have hts := fun w h => hts0 w (List.mem_cons_of_mem _ h)
  have hown : s.vm.findClass RX6 = some m.cls := findClass_of_methodNamed B.named
  have hlocks := B.notSynchronized
  have hin : meth.name = "<init>" := (name_of_methodNamed B.named B.method).1
  subst hsz
  have hD := hD0.self (sz := s.heap.size)
  generalize hAe : va_A [(h0, .inr (6, [.null, .null, .int 0, .int 0]))] s.heap.size = A at hD ⊢
  have hA : ∀ q : Nat, s.heap.size ≤ q → A q := fun q h => by rw [← hAe]; exact Or.inr h
  have hS : va_S A s.heap s.heap [] := va_S.rf
  have hP : va_P D vwCl [(h0, .inr (6, [.null, .null, .int 0, .int 0]))] s.heap := hP
  have hl := lv_entry ([.ref h0, .ref hm]) (n := 2) (Nat.le_of_ble_eq_true rfl)
  rw [lg_entry_eq]
  generalize (lg_sl ([.ref h0, .ref hm]) ++ List.replicate (2 - (lg_sl ([.ref h0, .ref hm])).length) Slot.unset).toArray = ls at hl ⊢
  have hl : lv_has ls 2 [(0, .ref h0), (1, .ref hm)] := hl
  refine lv_aload_n hx hb dX6_init_0 rfl (lv_at hl 0 rfl) ?_
  refine W.objInit hx hb hown (hts _ ml_X6_3) (hts _ im_objInit) (hts _ co_objInit) rfl (by rw [hml]; exact hl.1) rfl dX6_init_1 (Nat.le_of_ble_eq_true rfl) (Nat.le_of_ble_eq_true rfl) ?_
  refine W.eq (g2 := F0 m 4 ls []) rfl ?_
  refine lv_aload_n hx hb dX6_init_4 rfl (lv_at hl 0 rfl) ?_
  refine lv_iconst (v := 0) hx hb dX6_init_5 (by decide) ?_
  refine va_put (D := D) (ci := 6) (v := .int 0) (ty := .int) (C := RX6) (T := TX6) (N := 4) hx hb hts inAX6 tyX6 tyX6_ok nmX6 hown hK hP hD hS 0 rfl rfl 2 (by decide) (hts _ fl_X6_9) (fun _ h9 => h9) rfl (by decide +kernel) rfl rfl (Nat.le_of_ble_eq_true rfl) dX6_init_6 (fun H locs hP hD hS => ?_)
  have hP : va_P D vwCl [(h0, .inr (6, [.null, .null, .int 0, .int 0]))] H := hP
  have hD : va_D A [(h0, .inr (6, [.null, .null, .int 0, .int 0]))] := hD
  refine lv_aload_n hx hb dX6_init_9 rfl (lv_at hl 0 rfl) ?_
  refine lv_iconst (v := (-1)) hx hb dX6_init_10 (by decide) ?_
  refine va_put (D := D) (ci := 6) (v := .int (-1)) (ty := .int) (C := RX6) (T := TX6) (N := 4) hx hb hts inAX6 tyX6 tyX6_ok nmX6 hown hK hP hD hS 0 rfl rfl 3 (by decide) (hts _ fl_X6_15) (fun _ h9 => h9) rfl (by decide +kernel) rfl rfl (Nat.le_of_ble_eq_true rfl) dX6_init_11 (fun H locs hP hD hS => ?_)
  have hP : va_P D vwCl [(h0, .inr (6, [.null, .null, .int 0, .int (-1)]))] H := hP
  have hD : va_D A [(h0, .inr (6, [.null, .null, .int 0, .int (-1)]))] := hD
  refine lv_aload_n hx hb dX6_init_14 rfl (lv_at hl 0 rfl) ?_
  refine lv_aload_n hx hb dX6_init_15 rfl (lv_at hl 1 rfl) ?_
  refine va_putF (D := D) (ci := 6) (v := .ref hm) (ty := (.object "TwoGoats$Meadow")) (C := RX6) (T := TX6) (N := 4) hx hb hts inAX6 tyX6 tyX6_ok nmX6 hown hK hP hD hS 0 rfl rfl 0 (by decide) (hts _ fl_X6_18) (fun _ h9 => h9) rfl hin rfl (by decide +kernel) rfl rfl (Nat.le_of_ble_eq_true rfl) dX6_init_16 (fun H locs hP hD hS => ?_)
  have hP : va_P D vwCl [(h0, .inr (6, [.ref hm, .null, .int 0, .int (-1)]))] H := hP
  have hD : va_D A [(h0, .inr (6, [.ref hm, .null, .int 0, .int (-1)]))] := hD
  refine lv_aload_n hx hb dX6_init_19 rfl (lv_at hl 0 rfl) ?_
  refine va_new (ci := 1) (fs := [.null, .null, .null, .int 0, .int 0, .int 0]) (C := RX1) (T := TX1) (N := 6) hx hb hts inAX1 tyX1 tyX1_ok hown (hts _ cl_X6_22) (hts _ it_X1) (hts _ in_X1) hK hP hD hS hA rfl (fun j hj => by rcases (show j = 0 ∨ j = 1 ∨ j = 2 ∨ j = 3 ∨ j = 4 ∨ j = 5 by omega) with rfl | rfl | rfl | rfl | rfl | rfl <;> rfl) (Nat.le_of_ble_eq_true rfl) (Nat.le_of_ble_eq_true rfl) dX6_init_20 (fun q20_13 H hP hD hS => ?_)
  refine W.widen (k := 1) (n := 6) (Nat.le_of_ble_eq_true rfl) (Nat.le_of_ble_eq_true rfl) ?_
  have hP : va_P D vwCl [(h0, .inr (6, [.ref hm, .null, .int 0, .int (-1)])), (q20_13, .inr (1, [.null, .null, .null, .int 0, .int 0, .int 0]))] H := hP
  have hD : va_D A [(h0, .inr (6, [.ref hm, .null, .int 0, .int (-1)])), (q20_13, .inr (1, [.null, .null, .null, .int 0, .int 0, .int 0]))] := hD
  refine lv_dup hx hb dX6_init_23 rfl ?_
  refine lv_aload_n hx hb dX6_init_24 rfl (lv_at hl 1 rfl) ?_
  refine tk_callI (w0 := [(q20_13, .inr (1, [.null, .null, .null, .int 0, .int 0, .int 0]))]) (wr := [(h0, .inr (6, [.ref hm, .null, .int 0, .int (-1)]))]) (wf := tk_wX1 G q20_13 hm) hx hb hml hown hts hK hN hP hD hS hA (kc_X1 l D G q20_13 hm H.size) [1] [0] rfl rfl rfl rfl (by decide) ml_X6_24 im_X1_init in_X1 co_X1_init rfl (show yX1_init.cls ≠ "java/lang/invoke/MethodHandle" ∧ yX1_init.cls ≠ "java/lang/invoke/VarHandle" ∧ (parseMethodDescriptor yX1_init.desc).map (fun q => q.parameters.length) = some 1 by decide +kernel) rfl rfl ⟨(Nat.le_of_ble_eq_true rfl), (Nat.le_of_ble_eq_true rfl)⟩ hl.1 rfl (Nat.le_of_ble_eq_true rfl) dX6_init_25 ⟨(Nat.le_of_ble_eq_true rfl), (Nat.le_of_ble_eq_true rfl)⟩ (fun u25_16 H locs hP hD hS => ?_)
  refine W.widen (k := 3) (n := 72) (Nat.le_of_ble_eq_true rfl) (Nat.le_of_ble_eq_true rfl) ?_
  have hP : va_P D vwCl [(h0, .inr (6, [.ref hm, .null, .int 0, .int (-1)])), (q20_13, .inr (1, [.ref hm, .ref (u25_16 0), .ref (u25_16 1), .int 0, .int 0, .int 0])), (u25_16 0, .inl (G.1, 2, .inl (fun _ => 0))), (u25_16 1, .inl (G.1, 64, .inl (fun _ => 0)))] H := hP
  have hD : va_D A [(h0, .inr (6, [.ref hm, .null, .int 0, .int (-1)])), (q20_13, .inr (1, [.ref hm, .ref (u25_16 0), .ref (u25_16 1), .int 0, .int 0, .int 0])), (u25_16 0, .inl (G.1, 2, .inl (fun _ => 0))), (u25_16 1, .inl (G.1, 64, .inl (fun _ => 0)))] := hD
  refine va_putF (D := D) (ci := 6) (v := .ref q20_13) (ty := (.object "TwoGoats$Goats")) (C := RX6) (T := TX6) (N := 4) hx hb hts inAX6 tyX6 tyX6_ok nmX6 hown hK hP hD hS 0 rfl rfl 1 (by decide) (hts _ fl_X6_27) (fun _ h9 => h9) rfl hin rfl (by decide +kernel) rfl rfl (Nat.le_of_ble_eq_true rfl) dX6_init_28 (fun H locs hP hD hS => ?_)
  have hP : va_P D vwCl [(h0, .inr (6, [.ref hm, .ref q20_13, .int 0, .int (-1)])), (q20_13, .inr (1, [.ref hm, .ref (u25_16 0), .ref (u25_16 1), .int 0, .int 0, .int 0])), (u25_16 0, .inl (G.1, 2, .inl (fun _ => 0))), (u25_16 1, .inl (G.1, 64, .inl (fun _ => 0)))] H := hP
  have hD : va_D A [(h0, .inr (6, [.ref hm, .ref q20_13, .int 0, .int (-1)])), (q20_13, .inr (1, [.ref hm, .ref (u25_16 0), .ref (u25_16 1), .int 0, .int 0, .int 0])), (u25_16 0, .inl (G.1, 2, .inl (fun _ => 0))), (u25_16 1, .inl (G.1, 64, .inl (fun _ => 0)))] := hD
  refine W.widen (k := 3) (n := 72) (Nat.le_of_ble_eq_true rfl) (Nat.le_of_ble_eq_true rfl) ?_
  exact W.vret hx hb hr (fun t ht hW => ⟨⟨fun k => [q20_13, u25_16 0, u25_16 1].getD k 0, rfl, trivial, ⟨by rw [ht]; exact hP, va_K.moved hW.alike hK, tk_nest_warm hW hN⟩, hD⟩, hS.F ht⟩) hS.2.2 dX6_init_31 hlocks
