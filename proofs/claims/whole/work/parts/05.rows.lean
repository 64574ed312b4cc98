section TGR
variable {E : tg_E} {L : List tg_Sh} {kd : Option FieldType} {X : tg_R} {own : String} {cc : ByteArray} {nL d pc : Nat} {lv st : List tg_V} {μ : tg_Mem}
theorem tg_go {pc2 : Nat} {lv2 st2 : List tg_V} (K : tg_AW E L kd X pc2 lv2 st2 μ) (hok : (∀ v ∈ lv, tg_vok v) → (∀ v ∈ st, tg_vok v) → (∀ v ∈ lv2, tg_vok v) ∧ (∀ v ∈ st2, tg_vok v))
    (hW : ∀ (p : Program) (l : Launch) (e : Env) (R : Room) (s : State) (m : MethodId) (args : Array Value) (below : List Frame) (meth : Method) (c : Code) (D : va_G) (G : tg_G) (ad : Nat → Nat) (A : Nat → Prop), E = (p, l, e, R, s, m, args, below, meth, c, D, G, ad, A) →
      ∀ (H : Heap) (locs : List Loc) (ls : Array Slot) (Q : State → Prop), tg_lc ad ls lv → (∀ v ∈ lv, tg_vok v) → (∀ v ∈ st, tg_vok v) → (∀ ls2, tg_lc ad ls2 lv2 → W p l e R s m args below meth c H locs 0 0 Q (F0 m pc2 ls2 (st2.map (tg_cv ad)))) → W p l e R s m args below meth c H locs 0 0 Q (F0 m pc ls (st.map (tg_cv ad)))) : tg_AW E L kd X pc lv st μ := by
  obtain ⟨p, l, e, R, s, m, args, below, meth, c, D, G, ad, A⟩ := E
  intro hm hl hs r μ' hX
  obtain ⟨h1, h2⟩ := hok hl hs
  exact fun H locs ls hP hS hlc => hW _ _ _ _ _ _ _ _ _ _ _ _ _ _ rfl H locs ls _ hlc hl hs (fun ls2 hl2 => K hm h1 h2 r μ' hX H locs ls2 hP hS hl2)
theorem ta_iadd {a b : Int} (hE : tg_Am E L kd own cc nL d) (hd : decode cc pc = .ok (.iadd, 1)) (K : tg_AW E L kd X (pc + 1) lv (ti_ (tg_wi (a + b)) :: st) μ) : tg_AW E L kd X pc lv (ti_ b :: ti_ a :: st) μ := by
  refine tg_go K (fun hl hs => ⟨hl, List.forall_mem_cons.mpr ⟨?_, (List.forall_mem_cons.mp (List.forall_mem_cons.mp hs).2).2⟩⟩) (fun p l e R s m args below meth c D G ad A hEe H locs ls Q hlc hlk hsk kk => ?_)
  · exact tg_i32_in _
  subst hEe
  obtain ⟨hx, hb, hml, hown, hts, hK, hD, hA, hlk0, hret, hR, hN⟩ := hE
  have e9 : tg_I (tg_wi (a + b)) = tg_I a + tg_I b := by
    first | (rw [tg_I_wi]; first | exact Int32.ofInt_add a b | exact Int32.ofInt_sub a b | exact Int32.ofInt_mul a b | exact Int64.ofInt_add a b | exact Int64.ofInt_sub a b | exact Int64.ofInt_mul a b) | exact tg_I_toInt _ | exact tg_J_toInt _
  exact lv_iadd hx hb hd (by rw [← e9]; exact kk ls hlc)
theorem ta_isub {a b : Int} (hE : tg_Am E L kd own cc nL d) (hd : decode cc pc = .ok (.isub, 1)) (K : tg_AW E L kd X (pc + 1) lv (ti_ (tg_wi (a - b)) :: st) μ) : tg_AW E L kd X pc lv (ti_ b :: ti_ a :: st) μ := by
  refine tg_go K (fun hl hs => ⟨hl, List.forall_mem_cons.mpr ⟨?_, (List.forall_mem_cons.mp (List.forall_mem_cons.mp hs).2).2⟩⟩) (fun p l e R s m args below meth c D G ad A hEe H locs ls Q hlc hlk hsk kk => ?_)
  · exact tg_i32_in _
  subst hEe
  obtain ⟨hx, hb, hml, hown, hts, hK, hD, hA, hlk0, hret, hR, hN⟩ := hE
  have e9 : tg_I (tg_wi (a - b)) = tg_I a - tg_I b := by
    first | (rw [tg_I_wi]; first | exact Int32.ofInt_add a b | exact Int32.ofInt_sub a b | exact Int32.ofInt_mul a b | exact Int64.ofInt_add a b | exact Int64.ofInt_sub a b | exact Int64.ofInt_mul a b) | exact tg_I_toInt _ | exact tg_J_toInt _
  exact lv_isub hx hb hd (by rw [← e9]; exact kk ls hlc)
theorem ta_imul {a b : Int} (hE : tg_Am E L kd own cc nL d) (hd : decode cc pc = .ok (.imul, 1)) (K : tg_AW E L kd X (pc + 1) lv (ti_ (tg_wi (a * b)) :: st) μ) : tg_AW E L kd X pc lv (ti_ b :: ti_ a :: st) μ := by
  refine tg_go K (fun hl hs => ⟨hl, List.forall_mem_cons.mpr ⟨?_, (List.forall_mem_cons.mp (List.forall_mem_cons.mp hs).2).2⟩⟩) (fun p l e R s m args below meth c D G ad A hEe H locs ls Q hlc hlk hsk kk => ?_)
  · exact tg_i32_in _
  subst hEe
  obtain ⟨hx, hb, hml, hown, hts, hK, hD, hA, hlk0, hret, hR, hN⟩ := hE
  have e9 : tg_I (tg_wi (a * b)) = tg_I a * tg_I b := by
    first | (rw [tg_I_wi]; first | exact Int32.ofInt_add a b | exact Int32.ofInt_sub a b | exact Int32.ofInt_mul a b | exact Int64.ofInt_add a b | exact Int64.ofInt_sub a b | exact Int64.ofInt_mul a b) | exact tg_I_toInt _ | exact tg_J_toInt _
  exact lv_imul hx hb hd (by rw [← e9]; exact kk ls hlc)
theorem ta_idiv {a b : Int} (hE : tg_Am E L kd own cc nL d) (hd : decode cc pc = .ok (.idiv, 1)) (hb0 : tg_I b ≠ 0) (K : tg_AW E L kd X (pc + 1) lv (ti_ (tg_idiv a b) :: st) μ) : tg_AW E L kd X pc lv (ti_ b :: ti_ a :: st) μ := by
  refine tg_go K (fun hl hs => ⟨hl, List.forall_mem_cons.mpr ⟨?_, (List.forall_mem_cons.mp (List.forall_mem_cons.mp hs).2).2⟩⟩) (fun p l e R s m args below meth c D G ad A hEe H locs ls Q hlc hlk hsk kk => ?_)
  · exact tg_i32_in _
  subst hEe
  obtain ⟨hx, hb, hml, hown, hts, hK, hD, hA, hlk0, hret, hR, hN⟩ := hE
  have e9 : tg_I (tg_idiv a b) = tg_I a / tg_I b := by
    first | (rw [tg_I_wi]; first | exact Int32.ofInt_add a b | exact Int32.ofInt_sub a b | exact Int32.ofInt_mul a b | exact Int64.ofInt_add a b | exact Int64.ofInt_sub a b | exact Int64.ofInt_mul a b) | exact tg_I_toInt _ | exact tg_J_toInt _
  exact lv_idiv hx hb hd hb0 (by rw [← e9]; exact kk ls hlc)
theorem ta_irem {a b : Int} (hE : tg_Am E L kd own cc nL d) (hd : decode cc pc = .ok (.irem, 1)) (hb0 : tg_I b ≠ 0) (K : tg_AW E L kd X (pc + 1) lv (ti_ (tg_irem a b) :: st) μ) : tg_AW E L kd X pc lv (ti_ b :: ti_ a :: st) μ := by
  refine tg_go K (fun hl hs => ⟨hl, List.forall_mem_cons.mpr ⟨?_, (List.forall_mem_cons.mp (List.forall_mem_cons.mp hs).2).2⟩⟩) (fun p l e R s m args below meth c D G ad A hEe H locs ls Q hlc hlk hsk kk => ?_)
  · exact tg_i32_in _
  subst hEe
  obtain ⟨hx, hb, hml, hown, hts, hK, hD, hA, hlk0, hret, hR, hN⟩ := hE
  have e9 : tg_I (tg_irem a b) = tg_I a - tg_I a / tg_I b * tg_I b := by
    first | (rw [tg_I_wi]; first | exact Int32.ofInt_add a b | exact Int32.ofInt_sub a b | exact Int32.ofInt_mul a b | exact Int64.ofInt_add a b | exact Int64.ofInt_sub a b | exact Int64.ofInt_mul a b) | exact tg_I_toInt _ | exact tg_J_toInt _
  exact lv_irem hx hb hd hb0 (by rw [← e9]; exact kk ls hlc)
theorem ta_iand {a b : Int} (hE : tg_Am E L kd own cc nL d) (hd : decode cc pc = .ok (.iand, 1)) (K : tg_AW E L kd X (pc + 1) lv (ti_ (tg_iand a b) :: st) μ) : tg_AW E L kd X pc lv (ti_ b :: ti_ a :: st) μ := by
  refine tg_go K (fun hl hs => ⟨hl, List.forall_mem_cons.mpr ⟨?_, (List.forall_mem_cons.mp (List.forall_mem_cons.mp hs).2).2⟩⟩) (fun p l e R s m args below meth c D G ad A hEe H locs ls Q hlc hlk hsk kk => ?_)
  · exact tg_i32_in _
  subst hEe
  obtain ⟨hx, hb, hml, hown, hts, hK, hD, hA, hlk0, hret, hR, hN⟩ := hE
  have e9 : tg_I (tg_iand a b) = tg_I a &&& tg_I b := by
    first | (rw [tg_I_wi]; first | exact Int32.ofInt_add a b | exact Int32.ofInt_sub a b | exact Int32.ofInt_mul a b | exact Int64.ofInt_add a b | exact Int64.ofInt_sub a b | exact Int64.ofInt_mul a b) | exact tg_I_toInt _ | exact tg_J_toInt _
  exact lv_iand hx hb hd (by rw [← e9]; exact kk ls hlc)
theorem ta_ior {a b : Int} (hE : tg_Am E L kd own cc nL d) (hd : decode cc pc = .ok (.ior, 1)) (K : tg_AW E L kd X (pc + 1) lv (ti_ (tg_ior a b) :: st) μ) : tg_AW E L kd X pc lv (ti_ b :: ti_ a :: st) μ := by
  refine tg_go K (fun hl hs => ⟨hl, List.forall_mem_cons.mpr ⟨?_, (List.forall_mem_cons.mp (List.forall_mem_cons.mp hs).2).2⟩⟩) (fun p l e R s m args below meth c D G ad A hEe H locs ls Q hlc hlk hsk kk => ?_)
  · exact tg_i32_in _
  subst hEe
  obtain ⟨hx, hb, hml, hown, hts, hK, hD, hA, hlk0, hret, hR, hN⟩ := hE
  have e9 : tg_I (tg_ior a b) = tg_I a ||| tg_I b := by
    first | (rw [tg_I_wi]; first | exact Int32.ofInt_add a b | exact Int32.ofInt_sub a b | exact Int32.ofInt_mul a b | exact Int64.ofInt_add a b | exact Int64.ofInt_sub a b | exact Int64.ofInt_mul a b) | exact tg_I_toInt _ | exact tg_J_toInt _
  exact lv_ior hx hb hd (by rw [← e9]; exact kk ls hlc)
theorem ta_ishl {a b : Int} (hE : tg_Am E L kd own cc nL d) (hd : decode cc pc = .ok (.ishl, 1)) (K : tg_AW E L kd X (pc + 1) lv (ti_ (tg_ishl a b) :: st) μ) : tg_AW E L kd X pc lv (ti_ b :: ti_ a :: st) μ := by
  refine tg_go K (fun hl hs => ⟨hl, List.forall_mem_cons.mpr ⟨?_, (List.forall_mem_cons.mp (List.forall_mem_cons.mp hs).2).2⟩⟩) (fun p l e R s m args below meth c D G ad A hEe H locs ls Q hlc hlk hsk kk => ?_)
  · exact tg_i32_in _
  subst hEe
  obtain ⟨hx, hb, hml, hown, hts, hK, hD, hA, hlk0, hret, hR, hN⟩ := hE
  have e9 : tg_I (tg_ishl a b) = tg_I a <<< (tg_I b &&& 31) := by
    first | (rw [tg_I_wi]; first | exact Int32.ofInt_add a b | exact Int32.ofInt_sub a b | exact Int32.ofInt_mul a b | exact Int64.ofInt_add a b | exact Int64.ofInt_sub a b | exact Int64.ofInt_mul a b) | exact tg_I_toInt _ | exact tg_J_toInt _
  exact lv_ishl hx hb hd (by rw [← e9]; exact kk ls hlc)
theorem ta_ishr {a b : Int} (hE : tg_Am E L kd own cc nL d) (hd : decode cc pc = .ok (.ishr, 1)) (K : tg_AW E L kd X (pc + 1) lv (ti_ (tg_ishr a b) :: st) μ) : tg_AW E L kd X pc lv (ti_ b :: ti_ a :: st) μ := by
  refine tg_go K (fun hl hs => ⟨hl, List.forall_mem_cons.mpr ⟨?_, (List.forall_mem_cons.mp (List.forall_mem_cons.mp hs).2).2⟩⟩) (fun p l e R s m args below meth c D G ad A hEe H locs ls Q hlc hlk hsk kk => ?_)
  · exact tg_i32_in _
  subst hEe
  obtain ⟨hx, hb, hml, hown, hts, hK, hD, hA, hlk0, hret, hR, hN⟩ := hE
  have e9 : tg_I (tg_ishr a b) = tg_I a >>> (tg_I b &&& 31) := by
    first | (rw [tg_I_wi]; first | exact Int32.ofInt_add a b | exact Int32.ofInt_sub a b | exact Int32.ofInt_mul a b | exact Int64.ofInt_add a b | exact Int64.ofInt_sub a b | exact Int64.ofInt_mul a b) | exact tg_I_toInt _ | exact tg_J_toInt _
  exact lv_ishr hx hb hd (by rw [← e9]; exact kk ls hlc)
theorem ta_ladd {a b : Int} (hE : tg_Am E L kd own cc nL d) (hd : decode cc pc = .ok (.ladd, 1)) (K : tg_AW E L kd X (pc + 1) lv (tl_ (tg_wl (a + b)) :: st) μ) : tg_AW E L kd X pc lv (tl_ b :: tl_ a :: st) μ := by
  refine tg_go K (fun hl hs => ⟨hl, List.forall_mem_cons.mpr ⟨?_, (List.forall_mem_cons.mp (List.forall_mem_cons.mp hs).2).2⟩⟩) (fun p l e R s m args below meth c D G ad A hEe H locs ls Q hlc hlk hsk kk => ?_)
  · exact tg_i64_in _
  subst hEe
  obtain ⟨hx, hb, hml, hown, hts, hK, hD, hA, hlk0, hret, hR, hN⟩ := hE
  have e9 : tg_J (tg_wl (a + b)) = tg_J a + tg_J b := by
    first | (rw [tg_J_wl]; first | exact Int32.ofInt_add a b | exact Int32.ofInt_sub a b | exact Int32.ofInt_mul a b | exact Int64.ofInt_add a b | exact Int64.ofInt_sub a b | exact Int64.ofInt_mul a b) | exact tg_I_toInt _ | exact tg_J_toInt _
  exact lv_ladd hx hb hd (by rw [← e9]; exact kk ls hlc)
theorem ta_lsub {a b : Int} (hE : tg_Am E L kd own cc nL d) (hd : decode cc pc = .ok (.lsub, 1)) (K : tg_AW E L kd X (pc + 1) lv (tl_ (tg_wl (a - b)) :: st) μ) : tg_AW E L kd X pc lv (tl_ b :: tl_ a :: st) μ := by
  refine tg_go K (fun hl hs => ⟨hl, List.forall_mem_cons.mpr ⟨?_, (List.forall_mem_cons.mp (List.forall_mem_cons.mp hs).2).2⟩⟩) (fun p l e R s m args below meth c D G ad A hEe H locs ls Q hlc hlk hsk kk => ?_)
  · exact tg_i64_in _
  subst hEe
  obtain ⟨hx, hb, hml, hown, hts, hK, hD, hA, hlk0, hret, hR, hN⟩ := hE
  have e9 : tg_J (tg_wl (a - b)) = tg_J a - tg_J b := by
    first | (rw [tg_J_wl]; first | exact Int32.ofInt_add a b | exact Int32.ofInt_sub a b | exact Int32.ofInt_mul a b | exact Int64.ofInt_add a b | exact Int64.ofInt_sub a b | exact Int64.ofInt_mul a b) | exact tg_I_toInt _ | exact tg_J_toInt _
  exact lv_lsub hx hb hd (by rw [← e9]; exact kk ls hlc)
theorem ta_lmul {a b : Int} (hE : tg_Am E L kd own cc nL d) (hd : decode cc pc = .ok (.lmul, 1)) (K : tg_AW E L kd X (pc + 1) lv (tl_ (tg_wl (a * b)) :: st) μ) : tg_AW E L kd X pc lv (tl_ b :: tl_ a :: st) μ := by
  refine tg_go K (fun hl hs => ⟨hl, List.forall_mem_cons.mpr ⟨?_, (List.forall_mem_cons.mp (List.forall_mem_cons.mp hs).2).2⟩⟩) (fun p l e R s m args below meth c D G ad A hEe H locs ls Q hlc hlk hsk kk => ?_)
  · exact tg_i64_in _
  subst hEe
  obtain ⟨hx, hb, hml, hown, hts, hK, hD, hA, hlk0, hret, hR, hN⟩ := hE
  have e9 : tg_J (tg_wl (a * b)) = tg_J a * tg_J b := by
    first | (rw [tg_J_wl]; first | exact Int32.ofInt_add a b | exact Int32.ofInt_sub a b | exact Int32.ofInt_mul a b | exact Int64.ofInt_add a b | exact Int64.ofInt_sub a b | exact Int64.ofInt_mul a b) | exact tg_I_toInt _ | exact tg_J_toInt _
  exact lv_lmul hx hb hd (by rw [← e9]; exact kk ls hlc)
theorem ta_land {a b : Int} (hE : tg_Am E L kd own cc nL d) (hd : decode cc pc = .ok (.land, 1)) (K : tg_AW E L kd X (pc + 1) lv (tl_ (tg_land a b) :: st) μ) : tg_AW E L kd X pc lv (tl_ b :: tl_ a :: st) μ := by
  refine tg_go K (fun hl hs => ⟨hl, List.forall_mem_cons.mpr ⟨?_, (List.forall_mem_cons.mp (List.forall_mem_cons.mp hs).2).2⟩⟩) (fun p l e R s m args below meth c D G ad A hEe H locs ls Q hlc hlk hsk kk => ?_)
  · exact tg_i64_in _
  subst hEe
  obtain ⟨hx, hb, hml, hown, hts, hK, hD, hA, hlk0, hret, hR, hN⟩ := hE
  have e9 : tg_J (tg_land a b) = tg_J a &&& tg_J b := by
    first | (rw [tg_J_wl]; first | exact Int32.ofInt_add a b | exact Int32.ofInt_sub a b | exact Int32.ofInt_mul a b | exact Int64.ofInt_add a b | exact Int64.ofInt_sub a b | exact Int64.ofInt_mul a b) | exact tg_I_toInt _ | exact tg_J_toInt _
  exact lv_land hx hb hd (by rw [← e9]; exact kk ls hlc)
theorem ta_lor {a b : Int} (hE : tg_Am E L kd own cc nL d) (hd : decode cc pc = .ok (.lor, 1)) (K : tg_AW E L kd X (pc + 1) lv (tl_ (tg_lor a b) :: st) μ) : tg_AW E L kd X pc lv (tl_ b :: tl_ a :: st) μ := by
  refine tg_go K (fun hl hs => ⟨hl, List.forall_mem_cons.mpr ⟨?_, (List.forall_mem_cons.mp (List.forall_mem_cons.mp hs).2).2⟩⟩) (fun p l e R s m args below meth c D G ad A hEe H locs ls Q hlc hlk hsk kk => ?_)
  · exact tg_i64_in _
  subst hEe
  obtain ⟨hx, hb, hml, hown, hts, hK, hD, hA, hlk0, hret, hR, hN⟩ := hE
  have e9 : tg_J (tg_lor a b) = tg_J a ||| tg_J b := by
    first | (rw [tg_J_wl]; first | exact Int32.ofInt_add a b | exact Int32.ofInt_sub a b | exact Int32.ofInt_mul a b | exact Int64.ofInt_add a b | exact Int64.ofInt_sub a b | exact Int64.ofInt_mul a b) | exact tg_I_toInt _ | exact tg_J_toInt _
  exact lv_lor hx hb hd (by rw [← e9]; exact kk ls hlc)
theorem ta_lshl' {a b : Int} (hE : tg_Am E L kd own cc nL d) (hd : decode cc pc = .ok (.lshl, 1)) (K : tg_AW E L kd X (pc + 1) lv (tl_ (tg_lshl a b) :: st) μ) : tg_AW E L kd X pc lv (ti_ b :: tl_ a :: st) μ := by
  refine tg_go K (fun hl hs => ⟨hl, List.forall_mem_cons.mpr ⟨tg_i64_in _, (List.forall_mem_cons.mp (List.forall_mem_cons.mp hs).2).2⟩⟩) (fun p l e R s m args below meth c D G ad A hEe H locs ls Q hlc hlk hsk kk => ?_)
  subst hEe
  obtain ⟨hx, hb, hml, hown, hts, hK, hD, hA, hlk0, hret, hR, hN⟩ := hE
  exact lv_lshl hx hb hd (tg_J_toInt _).symm (kk ls hlc)
theorem ta_lshr' {a b : Int} (hE : tg_Am E L kd own cc nL d) (hd : decode cc pc = .ok (.lshr, 1)) (K : tg_AW E L kd X (pc + 1) lv (tl_ (tg_lshr a b) :: st) μ) : tg_AW E L kd X pc lv (ti_ b :: tl_ a :: st) μ := by
  refine tg_go K (fun hl hs => ⟨hl, List.forall_mem_cons.mpr ⟨tg_i64_in _, (List.forall_mem_cons.mp (List.forall_mem_cons.mp hs).2).2⟩⟩) (fun p l e R s m args below meth c D G ad A hEe H locs ls Q hlc hlk hsk kk => ?_)
  subst hEe
  obtain ⟨hx, hb, hml, hown, hts, hK, hD, hA, hlk0, hret, hR, hN⟩ := hE
  exact lv_lshr hx hb hd (tg_J_toInt _).symm (kk ls hlc)
theorem ta_lushr' {a b : Int} (hE : tg_Am E L kd own cc nL d) (hd : decode cc pc = .ok (.lushr, 1)) (K : tg_AW E L kd X (pc + 1) lv (tl_ (tg_lushr a b) :: st) μ) : tg_AW E L kd X pc lv (ti_ b :: tl_ a :: st) μ := by
  refine tg_go K (fun hl hs => ⟨hl, List.forall_mem_cons.mpr ⟨tg_i64_in _, (List.forall_mem_cons.mp (List.forall_mem_cons.mp hs).2).2⟩⟩) (fun p l e R s m args below meth c D G ad A hEe H locs ls Q hlc hlk hsk kk => ?_)
  subst hEe
  obtain ⟨hx, hb, hml, hown, hts, hK, hD, hA, hlk0, hret, hR, hN⟩ := hE
  exact lv_lushr hx hb hd (tg_J_toInt _).symm (kk ls hlc)
theorem ta_ineg {a : Int} (hE : tg_Am E L kd own cc nL d) (hd : decode cc pc = .ok (.ineg, 1)) (K : tg_AW E L kd X (pc + 1) lv (ti_ (tg_wi (-a)) :: st) μ) : tg_AW E L kd X pc lv (ti_ a :: st) μ := by
  refine tg_go K (fun hl hs => ⟨hl, List.forall_mem_cons.mpr ⟨tg_i32_in _, (List.forall_mem_cons.mp hs).2⟩⟩) (fun p l e R s m args below meth c D G ad A hEe H locs ls Q hlc hlk hsk kk => ?_)
  subst hEe
  obtain ⟨hx, hb, hml, hown, hts, hK, hD, hA, hlk0, hret, hR, hN⟩ := hE
  have e9 : tg_I (tg_wi (-a)) = -tg_I a := by rw [tg_I_wi]; exact Int32.ofInt_neg a
  exact lv_ineg hx hb hd (by rw [← e9]; exact kk ls hlc)
theorem ta_i2l {a : Int} (hE : tg_Am E L kd own cc nL d) (hd : decode cc pc = .ok (.i2l, 1)) (K : tg_AW E L kd X (pc + 1) lv (tl_ (a) :: st) μ) : tg_AW E L kd X pc lv (ti_ a :: st) μ := by
  refine tg_go K (fun hl hs => ⟨hl, List.forall_mem_cons.mpr ⟨tg_inL_of (List.forall_mem_cons.mp hs).1, (List.forall_mem_cons.mp hs).2⟩⟩) (fun p l e R s m args below meth c D G ad A hEe H locs ls Q hlc hlk hsk kk => ?_)
  subst hEe
  obtain ⟨hx, hb, hml, hown, hts, hK, hD, hA, hlk0, hret, hR, hN⟩ := hE
  have e9 : (tg_I a).toInt64 = tg_J a := by
    have h9 : tg_inR a := (List.forall_mem_cons.mp hsk).1
    exact Int32.toInt64_ofInt (by have := h9.1; rw [Int32.toInt_minValue]; omega) (by have := h9.2; rw [Int32.toInt_maxValue]; omega)
  exact lv_i2l hx hb hd e9 (kk ls hlc)
theorem ta_l2i {a : Int} (hE : tg_Am E L kd own cc nL d) (hd : decode cc pc = .ok (.l2i, 1)) (K : tg_AW E L kd X (pc + 1) lv (ti_ (tg_l2i a) :: st) μ) : tg_AW E L kd X pc lv (tl_ a :: st) μ := by
  refine tg_go K (fun hl hs => ⟨hl, List.forall_mem_cons.mpr ⟨tg_i32_in _, (List.forall_mem_cons.mp hs).2⟩⟩) (fun p l e R s m args below meth c D G ad A hEe H locs ls Q hlc hlk hsk kk => ?_)
  subst hEe
  obtain ⟨hx, hb, hml, hown, hts, hK, hD, hA, hlk0, hret, hR, hN⟩ := hE
  have e9 : (tg_J a).toInt32 = tg_I (tg_l2i a) := by
    rw [show tg_l2i a = tg_wi a from rfl, tg_I_wi]; exact Int64.toInt32_ofInt
  exact lv_l2i hx hb hd e9 (kk ls hlc)
theorem ta_i2b {a : Int} (hE : tg_Am E L kd own cc nL d) (hd : decode cc pc = .ok (.i2b, 1)) (K : tg_AW E L kd X (pc + 1) lv (ti_ (tg_i2b a) :: st) μ) : tg_AW E L kd X pc lv (ti_ a :: st) μ := by
  refine tg_go K (fun hl hs => ⟨hl, List.forall_mem_cons.mpr ⟨tg_i32_in _, (List.forall_mem_cons.mp hs).2⟩⟩) (fun p l e R s m args below meth c D G ad A hEe H locs ls Q hlc hlk hsk kk => ?_)
  subst hEe
  obtain ⟨hx, hb, hml, hown, hts, hK, hD, hA, hlk0, hret, hR, hN⟩ := hE
  exact lv_i2b hx hb hd (tg_I_toInt _).symm (kk ls hlc)
theorem ta_i2s {a : Int} (hE : tg_Am E L kd own cc nL d) (hd : decode cc pc = .ok (.i2s, 1)) (K : tg_AW E L kd X (pc + 1) lv (ti_ (tg_i2s a) :: st) μ) : tg_AW E L kd X pc lv (ti_ a :: st) μ := by
  refine tg_go K (fun hl hs => ⟨hl, List.forall_mem_cons.mpr ⟨tg_i32_in _, (List.forall_mem_cons.mp hs).2⟩⟩) (fun p l e R s m args below meth c D G ad A hEe H locs ls Q hlc hlk hsk kk => ?_)
  subst hEe
  obtain ⟨hx, hb, hml, hown, hts, hK, hD, hA, hlk0, hret, hR, hN⟩ := hE
  exact lv_i2s hx hb hd (tg_I_toInt _).symm (kk ls hlc)
theorem ta_iconst {n : Int} {v : Int} (hE : tg_Am E L kd own cc nL d) (hd : decode cc pc = .ok (.iconst n, 1)) (hv : n = v) (ho : tg_inR v) (K : tg_AW E L kd X (pc + 1) lv (ti_ v :: st) μ) : tg_AW E L kd X pc lv st μ := by
  refine tg_go K (fun hl hs => ⟨hl, List.forall_mem_cons.mpr ⟨ho, hs⟩⟩) (fun p l e R s m args below meth c D G ad A hEe H locs ls Q hlc hlk hsk kk => ?_)
  subst hEe
  obtain ⟨hx, hb, hml, hown, hts, hK, hD, hA, hlk0, hret, hR, hN⟩ := hE
  exact lv_iconst hx hb hd (show Int32.ofInt n = tg_I v by rw [hv]; rfl) (kk ls hlc)
theorem ta_bipush {n : Int} {v : Int} (hE : tg_Am E L kd own cc nL d) (hd : decode cc pc = .ok (.bipush n, 2)) (hv : (Int8.ofInt n).toInt32 = tg_I v) (ho : tg_inR v) (K : tg_AW E L kd X (pc + 2) lv (ti_ v :: st) μ) : tg_AW E L kd X pc lv st μ := by
  refine tg_go K (fun hl hs => ⟨hl, List.forall_mem_cons.mpr ⟨ho, hs⟩⟩) (fun p l e R s m args below meth c D G ad A hEe H locs ls Q hlc hlk hsk kk => ?_)
  subst hEe
  obtain ⟨hx, hb, hml, hown, hts, hK, hD, hA, hlk0, hret, hR, hN⟩ := hE
  exact lv_bipush hx hb hd hv (kk ls hlc)
theorem ta_sipush {n : Int} {v : Int} (hE : tg_Am E L kd own cc nL d) (hd : decode cc pc = .ok (.sipush n, 3)) (hv : (Int16.ofInt n).toInt32 = tg_I v) (ho : tg_inR v) (K : tg_AW E L kd X (pc + 3) lv (ti_ v :: st) μ) : tg_AW E L kd X pc lv st μ := by
  refine tg_go K (fun hl hs => ⟨hl, List.forall_mem_cons.mpr ⟨ho, hs⟩⟩) (fun p l e R s m args below meth c D G ad A hEe H locs ls Q hlc hlk hsk kk => ?_)
  subst hEe
  obtain ⟨hx, hb, hml, hown, hts, hK, hD, hA, hlk0, hret, hR, hN⟩ := hE
  exact lv_sipush hx hb hd hv (kk ls hlc)
theorem ta_lconst {n : Fin 2} {v : Int} (hE : tg_Am E L kd own cc nL d) (hd : decode cc pc = .ok (.lconst n, 1)) (hv : Int64.ofNat (n : Nat) = tg_J v) (ho : tg_inL v) (K : tg_AW E L kd X (pc + 1) lv (tl_ v :: st) μ) : tg_AW E L kd X pc lv st μ := by
  refine tg_go K (fun hl hs => ⟨hl, List.forall_mem_cons.mpr ⟨ho, hs⟩⟩) (fun p l e R s m args below meth c D G ad A hEe H locs ls Q hlc hlk hsk kk => ?_)
  subst hEe
  obtain ⟨hx, hb, hml, hown, hts, hK, hD, hA, hlk0, hret, hR, hN⟩ := hE
  exact lv_lconst hx hb hd hv (kk ls hlc)
theorem ta_ldc {v : Int} {index : Nat} (hE : tg_Am E L kd own cc nL d) (hd : decode cc pc = .ok (.ldc index, 2)) (hw : Cond.constant own index (tg_I v) ∈ tg_ALL) (ho : tg_inR v) (K : tg_AW E L kd X (pc + 2) lv (ti_ v :: st) μ) : tg_AW E L kd X pc lv st μ := by
  refine tg_go K (fun hl hs => ⟨hl, List.forall_mem_cons.mpr ⟨ho, hs⟩⟩) (fun p l e R s m args below meth c D G ad A hEe H locs ls Q hlc hlk hsk kk => ?_)
  subst hEe
  obtain ⟨hx, hb, hml, hown, hts, hK, hD, hA, hlk0, hret, hR, hN⟩ := hE
  exact lv_ldc hx hb hown (hts _ hw) hd (kk ls hlc)
theorem ta_ldc2 {v : Int} {index : Nat} (hE : tg_Am E L kd own cc nL d) (hd : decode cc pc = .ok (.ldc2_w index, 3)) (hw : Cond.constantLong own index (tg_J v) ∈ tg_ALL) (ho : tg_inL v) (K : tg_AW E L kd X (pc + 3) lv (tl_ v :: st) μ) : tg_AW E L kd X pc lv st μ := by
  refine tg_go K (fun hl hs => ⟨hl, List.forall_mem_cons.mpr ⟨ho, hs⟩⟩) (fun p l e R s m args below meth c D G ad A hEe H locs ls Q hlc hlk hsk kk => ?_)
  subst hEe
  obtain ⟨hx, hb, hml, hown, hts, hK, hD, hA, hlk0, hret, hR, hN⟩ := hE
  exact lv_ldc2 hx hb hown (hts _ hw) hd (kk ls hlc)
theorem tg_lc_at {ad : Nat → Nat} {ls : Array Slot} {i : Nat} {v : tg_V} (h : tg_lc ad ls lv) (hi : lv[i]? = some v) (hv : v ≠ tj_) : ls[i]? = some (.val (tg_cv ad v)) := h.2.2 i v hi hv
theorem ta_iloadn {k : Fin 4} {a : Int} (hE : tg_Am E L kd own cc nL d) (hd : decode cc pc = .ok (.iload_n k, 1)) (hi : lv[(k : Nat)]? = some (ti_ a)) (K : tg_AW E L kd X (pc + 1) lv (ti_ a :: st) μ) : tg_AW E L kd X pc lv st μ := by
  refine tg_go K (fun hl hs => ⟨hl, List.forall_mem_cons.mpr ⟨hl _ (List.mem_of_getElem? hi), hs⟩⟩) (fun p l e R s m args below meth c D G ad A hEe H locs ls Q hlc hlk hsk kk => ?_)
  subst hEe
  obtain ⟨hx, hb, hml, hown, hts, hK, hD, hA, hlk0, hret, hR, hN⟩ := hE
  exact lv_iload_n hx hb hd rfl (tg_lc_at hlc hi (fun q => by cases q)) (kk ls hlc)
theorem ta_iload {k : Nat} {a : Int} (hE : tg_Am E L kd own cc nL d) (hd : decode cc pc = .ok (.iload k, 2)) (hi : lv[k]? = some (ti_ a)) (K : tg_AW E L kd X (pc + 2) lv (ti_ a :: st) μ) : tg_AW E L kd X pc lv st μ := by
  refine tg_go K (fun hl hs => ⟨hl, List.forall_mem_cons.mpr ⟨hl _ (List.mem_of_getElem? hi), hs⟩⟩) (fun p l e R s m args below meth c D G ad A hEe H locs ls Q hlc hlk hsk kk => ?_)
  subst hEe
  obtain ⟨hx, hb, hml, hown, hts, hK, hD, hA, hlk0, hret, hR, hN⟩ := hE
  exact lv_iload hx hb hd (tg_lc_at hlc hi (fun q => by cases q)) (kk ls hlc)
theorem ta_lloadn {k : Fin 4} {a : Int} (hE : tg_Am E L kd own cc nL d) (hd : decode cc pc = .ok (.lload_n k, 1)) (hi : lv[(k : Nat)]? = some (tl_ a)) (K : tg_AW E L kd X (pc + 1) lv (tl_ a :: st) μ) : tg_AW E L kd X pc lv st μ := by
  refine tg_go K (fun hl hs => ⟨hl, List.forall_mem_cons.mpr ⟨hl _ (List.mem_of_getElem? hi), hs⟩⟩) (fun p l e R s m args below meth c D G ad A hEe H locs ls Q hlc hlk hsk kk => ?_)
  subst hEe
  obtain ⟨hx, hb, hml, hown, hts, hK, hD, hA, hlk0, hret, hR, hN⟩ := hE
  exact lv_lload_n hx hb hd rfl (tg_lc_at hlc hi (fun q => by cases q)) (kk ls hlc)
theorem ta_lload {k : Nat} {a : Int} (hE : tg_Am E L kd own cc nL d) (hd : decode cc pc = .ok (.lload k, 2)) (hi : lv[k]? = some (tl_ a)) (K : tg_AW E L kd X (pc + 2) lv (tl_ a :: st) μ) : tg_AW E L kd X pc lv st μ := by
  refine tg_go K (fun hl hs => ⟨hl, List.forall_mem_cons.mpr ⟨hl _ (List.mem_of_getElem? hi), hs⟩⟩) (fun p l e R s m args below meth c D G ad A hEe H locs ls Q hlc hlk hsk kk => ?_)
  subst hEe
  obtain ⟨hx, hb, hml, hown, hts, hK, hD, hA, hlk0, hret, hR, hN⟩ := hE
  exact lv_lload hx hb hd (tg_lc_at hlc hi (fun q => by cases q)) (kk ls hlc)
theorem ta_aloadn {k : Fin 4} {a : Nat} (hE : tg_Am E L kd own cc nL d) (hd : decode cc pc = .ok (.aload_n k, 1)) (hi : lv[(k : Nat)]? = some (tr_ a)) (K : tg_AW E L kd X (pc + 1) lv (tr_ a :: st) μ) : tg_AW E L kd X pc lv st μ := by
  refine tg_go K (fun hl hs => ⟨hl, List.forall_mem_cons.mpr ⟨hl _ (List.mem_of_getElem? hi), hs⟩⟩) (fun p l e R s m args below meth c D G ad A hEe H locs ls Q hlc hlk hsk kk => ?_)
  subst hEe
  obtain ⟨hx, hb, hml, hown, hts, hK, hD, hA, hlk0, hret, hR, hN⟩ := hE
  exact lv_aload_n hx hb hd rfl (tg_lc_at hlc hi (fun q => by cases q)) (kk ls hlc)
theorem ta_aload {k : Nat} {a : Nat} (hE : tg_Am E L kd own cc nL d) (hd : decode cc pc = .ok (.aload k, 2)) (hi : lv[k]? = some (tr_ a)) (K : tg_AW E L kd X (pc + 2) lv (tr_ a :: st) μ) : tg_AW E L kd X pc lv st μ := by
  refine tg_go K (fun hl hs => ⟨hl, List.forall_mem_cons.mpr ⟨hl _ (List.mem_of_getElem? hi), hs⟩⟩) (fun p l e R s m args below meth c D G ad A hEe H locs ls Q hlc hlk hsk kk => ?_)
  subst hEe
  obtain ⟨hx, hb, hml, hown, hts, hK, hD, hA, hlk0, hret, hR, hN⟩ := hE
  exact lv_aload hx hb hd (tg_lc_at hlc hi (fun q => by cases q)) (kk ls hlc)
def tg_n2o (x : Option tg_V) : Bool := match x with
  | some (.inr (.inl _)) => false
  | _ => true
def tg_n2 (lv : List tg_V) (i : Nat) : Bool := match i with
  | 0 => true
  | j + 1 => tg_n2o lv[j]?
def tg_prs (ad : Nat → Nat) (lv : List tg_V) : List (Nat × Value) := (lv.mapIdx (fun i v => (i, v))).filterMap (fun q => match q.2 with
  | .inr (.inr (.inr _)) => none
  | v => some (q.1, tg_cv ad v))
theorem tg_prs_mem {ad : Nat → Nat} {i : Nat} {w : Value} : (i, w) ∈ tg_prs ad lv ↔ ∃ v, lv[i]? = some v ∧ v ≠ tj_ ∧ w = tg_cv ad v := by
  unfold tg_prs
  rw [List.mem_filterMap]
  constructor
  · rintro ⟨⟨j, v⟩, hm, hq⟩
    rw [List.mem_mapIdx] at hm
    obtain ⟨k, hk, e9⟩ := hm
    have e1 : k = j := congrArg Prod.fst e9
    have e2 : lv[k] = v := congrArg Prod.snd e9
    have hv : lv[j]? = some v := by rw [← e1, List.getElem?_eq_getElem hk, e2]
    clear e9 e1 e2 hk
    match v, hv, hq with
    | .inl a, hv, hq => cases hq; exact ⟨_, hv, fun q => (by cases q), rfl⟩
    | .inr (.inl a), hv, hq => cases hq; exact ⟨_, hv, fun q => (by cases q), rfl⟩
    | .inr (.inr (.inl a)), hv, hq => cases hq; exact ⟨_, hv, fun q => (by cases q), rfl⟩
    | .inr (.inr (.inr a)), hv, hq => cases hq
  · rintro ⟨v, hv, hj, rfl⟩
    obtain ⟨hk, e9⟩ := List.getElem?_eq_some_iff.mp hv
    refine ⟨(i, v), List.mem_mapIdx.mpr ⟨i, hk, by rw [e9]⟩, ?_⟩
    match v, hj with
    | .inl a, _ => rfl
    | .inr (.inl a), _ => rfl
    | .inr (.inr (.inl a)), _ => rfl
    | .inr (.inr (.inr ())), hj => exact absurd rfl hj
theorem tg_lc_has {ad : Nat → Nat} {ls : Array Slot} (h : tg_lc ad ls lv) : lv_has ls lv.length (tg_prs ad lv) := by
  refine ⟨h.1, h.2.1, fun q hq => ?_⟩
  obtain ⟨v, h1, h2, h3⟩ := tg_prs_mem.mp (show (q.1, q.2) ∈ _ from hq)
  rw [h3]; exact h.2.2 _ _ h1 h2
theorem tg_cat (ad : Nat → Nat) (v : tg_V) : (tg_cv ad v).category = 2 ↔ ∃ a, v = tl_ a := by
  match v with
  | .inl a => constructor
              · intro h; cases h
              · rintro ⟨b, h⟩; cases h
  | .inr (.inl a) => constructor
                     · intro _; exact ⟨a, rfl⟩
                     · intro _; rfl
  | .inr (.inr (.inl a)) => constructor
                            · intro h; cases h
                            · rintro ⟨b, h⟩; cases h
  | .inr (.inr (.inr a)) => constructor
                            · intro h; cases h
                            · rintro ⟨b, h⟩; cases h
theorem tg_n2_of {i j : Nat} (h : tg_n2 lv i = true) (hj : j + 1 = i) : ∀ a, lv[j]? ≠ some (tl_ a) := by
  intro a ha
  subst hj
  have h9 : tg_n2o lv[j]? = true := h
  rw [ha] at h9
  cases h9
theorem tg_lc_st1 {ad : Nat → Nat} {ls : Array Slot} {i : Nat} {v : tg_V} (hv : v ≠ tj_) (h2 : tg_n2 lv i = true)
    (h : lv_has ls lv.length ((i, tg_cv ad v) :: (tg_prs ad lv).filter (fun q => !(q.1 == i) && !(q.1 + 1 == i && q.2.category == 2)))) (hi : i < lv.length) : tg_lc ad ls (lv.set i v) := by
  refine ⟨by rw [List.length_set]; exact h.1, h.2.1, fun j w hj hw => ?_⟩
  rw [List.getElem?_set] at hj
  by_cases e9 : i = j
  · subst e9
    rw [if_pos rfl, if_pos hi] at hj
    cases hj
    exact h.2.2 (i, tg_cv ad v) List.mem_cons_self
  · rw [if_neg e9] at hj
    refine h.2.2 (j, tg_cv ad w) (List.mem_cons_of_mem _ (List.mem_filter.mpr ⟨tg_prs_mem.mpr ⟨w, hj, hw, rfl⟩, ?_⟩))
    have n1 : (j == i) = false := by rw [beq_eq_false_iff_ne]; exact fun q => e9 q.symm
    rw [n1]
    by_cases e8 : j + 1 = i
    · have n2 : ((tg_cv ad w).category == 2) = false := by
        rw [beq_eq_false_iff_ne]
        intro q
        obtain ⟨a, rfl⟩ := (tg_cat ad w).mp q
        exact tg_n2_of h2 e8 a hj
      simp [n2]
    · have n3 : (j + 1 == i) = false := by rw [beq_eq_false_iff_ne]; exact e8
      simp [n3]
theorem tg_lc_st2 {ad : Nat → Nat} {ls : Array Slot} {i : Nat} {a : Int} (h2 : tg_n2 lv i = true)
    (h : lv_has ls lv.length ((i, .long (tg_J a)) :: (tg_prs ad lv).filter (fun q => !(q.1 == i) && (!(q.1 == i + 1) && !(q.1 + 1 == i && q.2.category == 2))))) (hi : i + 1 < lv.length) : tg_lc ad ls ((lv.set i (tl_ a)).set (i + 1) tj_) := by
  refine ⟨by rw [List.length_set, List.length_set]; exact h.1, h.2.1, fun j w hj hw => ?_⟩
  rw [List.getElem?_set] at hj
  by_cases e7 : i + 1 = j
  · subst e7
    rw [if_pos rfl, if_pos (by rw [List.length_set]; exact hi)] at hj
    cases hj
    exact absurd rfl hw
  · rw [if_neg e7, List.getElem?_set] at hj
    by_cases e9 : i = j
    · subst e9
      rw [if_pos rfl, if_pos (by omega)] at hj
      cases hj
      exact h.2.2 (i, .long (tg_J a)) List.mem_cons_self
    · rw [if_neg e9] at hj
      refine h.2.2 (j, tg_cv ad w) (List.mem_cons_of_mem _ (List.mem_filter.mpr ⟨tg_prs_mem.mpr ⟨w, hj, hw, rfl⟩, ?_⟩))
      have n1 : (j == i) = false := by rw [beq_eq_false_iff_ne]; exact fun q => e9 q.symm
      have n4 : (j == i + 1) = false := by rw [beq_eq_false_iff_ne]; exact fun q => e7 q.symm
      simp only [n1, n4]
      by_cases e8 : j + 1 = i
      · have n2 : ((tg_cv ad w).category == 2) = false := by
          rw [beq_eq_false_iff_ne]
          intro q
          obtain ⟨b, rfl⟩ := (tg_cat ad w).mp q
          exact tg_n2_of h2 e8 b hj
        simp [n2]
      · have n3 : (j + 1 == i) = false := by rw [beq_eq_false_iff_ne]; exact e8
        simp [n3]
theorem tg_set_ok {i : Nat} {v : tg_V} (hl : ∀ x ∈ lv, tg_vok x) (hv : tg_vok v) : ∀ x ∈ lv.set i v, tg_vok x := fun x hx => by
  rcases List.mem_or_eq_of_mem_set hx with h | h
  · exact hl x h
  · rw [h]; exact hv
theorem ta_istoren {k : Fin 4} {a : Int} {lv2 : List tg_V} (hE : tg_Am E L kd own cc nL d) (hd : decode cc pc = .ok (.istore_n k, 1)) (hi : (k : Nat) < lv.length) (h2 : tg_n2 lv (k : Nat) = true) (he : lv.set (k : Nat) (ti_ a) = lv2) (K : tg_AW E L kd X (pc + 1) lv2 st μ) : tg_AW E L kd X pc lv (ti_ a :: st) μ := by
  subst he
  refine tg_go K (fun hl hs => ⟨tg_set_ok hl (List.forall_mem_cons.mp hs).1, (List.forall_mem_cons.mp hs).2⟩) (fun p l e R s m args below meth c D G ad A hEe H locs ls Q hlc hlk hsk kk => ?_)
  subst hEe
  obtain ⟨hx, hb, hml, hown, hts, hK, hD, hA, hlk0, hret, hR, hN⟩ := hE
  exact lv_istore_n hx hb hd rfl (tg_lc_has hlc) hi rfl (fun ls2 h9 => kk ls2 (tg_lc_st1 (v := ti_ a) (fun q => by cases q) h2 h9 hi))
theorem ta_istore {k : Nat} {a : Int} {lv2 : List tg_V} (hE : tg_Am E L kd own cc nL d) (hd : decode cc pc = .ok (.istore k, 2)) (hi : k < lv.length) (h2 : tg_n2 lv k = true) (he : lv.set k (ti_ a) = lv2) (K : tg_AW E L kd X (pc + 2) lv2 st μ) : tg_AW E L kd X pc lv (ti_ a :: st) μ := by
  subst he
  refine tg_go K (fun hl hs => ⟨tg_set_ok hl (List.forall_mem_cons.mp hs).1, (List.forall_mem_cons.mp hs).2⟩) (fun p l e R s m args below meth c D G ad A hEe H locs ls Q hlc hlk hsk kk => ?_)
  subst hEe
  obtain ⟨hx, hb, hml, hown, hts, hK, hD, hA, hlk0, hret, hR, hN⟩ := hE
  exact lv_istore hx hb hd (tg_lc_has hlc) hi rfl (fun ls2 h9 => kk ls2 (tg_lc_st1 (v := ti_ a) (fun q => by cases q) h2 h9 hi))
theorem ta_astoren {k : Fin 4} {a : Nat} {lv2 : List tg_V} (hE : tg_Am E L kd own cc nL d) (hd : decode cc pc = .ok (.astore_n k, 1)) (hi : (k : Nat) < lv.length) (h2 : tg_n2 lv (k : Nat) = true) (he : lv.set (k : Nat) (tr_ a) = lv2) (K : tg_AW E L kd X (pc + 1) lv2 st μ) : tg_AW E L kd X pc lv (tr_ a :: st) μ := by
  subst he
  refine tg_go K (fun hl hs => ⟨tg_set_ok hl (List.forall_mem_cons.mp hs).1, (List.forall_mem_cons.mp hs).2⟩) (fun p l e R s m args below meth c D G ad A hEe H locs ls Q hlc hlk hsk kk => ?_)
  subst hEe
  obtain ⟨hx, hb, hml, hown, hts, hK, hD, hA, hlk0, hret, hR, hN⟩ := hE
  exact lv_astore_n hx hb hd rfl (tg_lc_has hlc) hi rfl (fun ls2 h9 => kk ls2 (tg_lc_st1 (v := tr_ a) (fun q => by cases q) h2 h9 hi))
theorem ta_astore {k : Nat} {a : Nat} {lv2 : List tg_V} (hE : tg_Am E L kd own cc nL d) (hd : decode cc pc = .ok (.astore k, 2)) (hi : k < lv.length) (h2 : tg_n2 lv k = true) (he : lv.set k (tr_ a) = lv2) (K : tg_AW E L kd X (pc + 2) lv2 st μ) : tg_AW E L kd X pc lv (tr_ a :: st) μ := by
  subst he
  refine tg_go K (fun hl hs => ⟨tg_set_ok hl (List.forall_mem_cons.mp hs).1, (List.forall_mem_cons.mp hs).2⟩) (fun p l e R s m args below meth c D G ad A hEe H locs ls Q hlc hlk hsk kk => ?_)
  subst hEe
  obtain ⟨hx, hb, hml, hown, hts, hK, hD, hA, hlk0, hret, hR, hN⟩ := hE
  exact lv_astore hx hb hd (tg_lc_has hlc) hi rfl (fun ls2 h9 => kk ls2 (tg_lc_st1 (v := tr_ a) (fun q => by cases q) h2 h9 hi))
theorem ta_lstoren {k : Fin 4} {a : Int} {lv2 : List tg_V} (hE : tg_Am E L kd own cc nL d) (hd : decode cc pc = .ok (.lstore_n k, 1)) (hi : (k : Nat) + 1 < lv.length) (h2 : tg_n2 lv (k : Nat) = true) (he : (lv.set (k : Nat) (tl_ a)).set ((k : Nat) + 1) tj_ = lv2) (K : tg_AW E L kd X (pc + 1) lv2 st μ) : tg_AW E L kd X pc lv (tl_ a :: st) μ := by
  subst he
  refine tg_go K (fun hl hs => ⟨tg_set_ok (tg_set_ok hl (List.forall_mem_cons.mp hs).1) trivial, (List.forall_mem_cons.mp hs).2⟩) (fun p l e R s m args below meth c D G ad A hEe H locs ls Q hlc hlk hsk kk => ?_)
  subst hEe
  obtain ⟨hx, hb, hml, hown, hts, hK, hD, hA, hlk0, hret, hR, hN⟩ := hE
  exact lv_lstore_n hx hb hd rfl (tg_lc_has hlc) hi rfl (fun ls2 h9 => kk ls2 (tg_lc_st2 h2 h9 hi))
theorem ta_lstore {k : Nat} {a : Int} {lv2 : List tg_V} (hE : tg_Am E L kd own cc nL d) (hd : decode cc pc = .ok (.lstore k, 2)) (hi : k + 1 < lv.length) (h2 : tg_n2 lv k = true) (he : (lv.set k (tl_ a)).set (k + 1) tj_ = lv2) (K : tg_AW E L kd X (pc + 2) lv2 st μ) : tg_AW E L kd X pc lv (tl_ a :: st) μ := by
  subst he
  refine tg_go K (fun hl hs => ⟨tg_set_ok (tg_set_ok hl (List.forall_mem_cons.mp hs).1) trivial, (List.forall_mem_cons.mp hs).2⟩) (fun p l e R s m args below meth c D G ad A hEe H locs ls Q hlc hlk hsk kk => ?_)
  subst hEe
  obtain ⟨hx, hb, hml, hown, hts, hK, hD, hA, hlk0, hret, hR, hN⟩ := hE
  exact lv_lstore hx hb hd (tg_lc_has hlc) hi rfl (fun ls2 h9 => kk ls2 (tg_lc_st2 h2 h9 hi))
theorem ta_iinc {k : Nat} {n a : Int} {lv2 : List tg_V} (hE : tg_Am E L kd own cc nL d) (hd : decode cc pc = .ok (.iinc k n, 3)) (hi : lv[k]? = some (ti_ a)) (h2 : tg_n2 lv k = true) (he : lv.set k (ti_ (tg_wi (a + n))) = lv2) (K : tg_AW E L kd X (pc + 3) lv2 st μ) : tg_AW E L kd X pc lv st μ := by
  subst he
  have hlt : k < lv.length := (List.getElem?_eq_some_iff.mp hi).1
  refine tg_go K (fun hl hs => ⟨tg_set_ok hl (tg_wi_in _), hs⟩) (fun p l e R s m args below meth c D G ad A hEe H locs ls Q hlc hlk hsk kk => ?_)
  subst hEe
  obtain ⟨hx, hb, hml, hown, hts, hK, hD, hA, hlk0, hret, hR, hN⟩ := hE
  have hm9 : (k, Value.int (tg_I a)) ∈ tg_prs ad lv := tg_prs_mem.mpr ⟨ti_ a, hi, (fun q => by cases q), rfl⟩
  obtain ⟨q9, hq9⟩ := List.getElem?_of_mem hm9
  have e9 : tg_I a + Int32.ofInt n = tg_I (tg_wi (a + n)) := by rw [tg_I_wi]; exact (Int32.ofInt_add a n).symm
  exact lv_iinc hx hb hd (tg_lc_has hlc) hq9 e9 hlt rfl (fun ls2 h9 => kk ls2 (tg_lc_st1 (v := ti_ (tg_wi (a + n))) (fun q => by cases q) h2 h9 hlt))
theorem ta_dup {v : tg_V} (hE : tg_Am E L kd own cc nL d) (hd : decode cc pc = .ok (.dup, 1)) (hc : ∀ ad, (tg_cv ad v).category = 1) (K : tg_AW E L kd X (pc + 1) lv (v :: v :: st) μ) : tg_AW E L kd X pc lv (v :: st) μ := by
  refine tg_go K (fun hl hs => ⟨hl, List.forall_mem_cons.mpr ⟨(List.forall_mem_cons.mp hs).1, hs⟩⟩) (fun p l e R s m args below meth c D G ad A hEe H locs ls Q hlc hlk hsk kk => ?_)
  subst hEe
  obtain ⟨hx, hb, hml, hown, hts, hK, hD, hA, hlk0, hret, hR, hN⟩ := hE
  exact lv_dup hx hb hd (hc ad) (kk ls hlc)
theorem ta_dup2 {v w : tg_V} (hE : tg_Am E L kd own cc nL d) (hd : decode cc pc = .ok (.dup2, 1)) (hc : ∀ ad, (tg_cv ad v).category = 1) (hc2 : ∀ ad, (tg_cv ad w).category = 1) (K : tg_AW E L kd X (pc + 1) lv (v :: w :: v :: w :: st) μ) : tg_AW E L kd X pc lv (v :: w :: st) μ := by
  refine tg_go K (fun hl hs => ⟨hl, List.forall_mem_cons.mpr ⟨(List.forall_mem_cons.mp hs).1, List.forall_mem_cons.mpr ⟨(List.forall_mem_cons.mp (List.forall_mem_cons.mp hs).2).1, hs⟩⟩⟩) (fun p l e R s m args below meth c D G ad A hEe H locs ls Q hlc hlk hsk kk => ?_)
  subst hEe
  obtain ⟨hx, hb, hml, hown, hts, hK, hD, hA, hlk0, hret, hR, hN⟩ := hE
  exact lv_dup2_11 hx hb hd (hc ad) (hc2 ad) (kk ls hlc)
theorem ta_pop {v : tg_V} (hE : tg_Am E L kd own cc nL d) (hd : decode cc pc = .ok (.pop, 1)) (hc : ∀ ad, (tg_cv ad v).category = 1) (K : tg_AW E L kd X (pc + 1) lv st μ) : tg_AW E L kd X pc lv (v :: st) μ := by
  refine tg_go K (fun hl hs => ⟨hl, (List.forall_mem_cons.mp hs).2⟩) (fun p l e R s m args below meth c D G ad A hEe H locs ls Q hlc hlk hsk kk => ?_)
  subst hEe
  obtain ⟨hx, hb, hml, hown, hts, hK, hD, hA, hlk0, hret, hR, hN⟩ := hE
  exact lv_pop hx hb hd (hc ad) (kk ls hlc)
theorem ta_goto {off : Int} {tgt : Nat} (hE : tg_Am E L kd own cc nL d) (hd : decode cc pc = .ok (.goto off, 3)) (ht : (pc : Int) + off = (tgt : Int)) (K : tg_AW E L kd X tgt lv st μ) : tg_AW E L kd X pc lv st μ := by
  refine tg_go K (fun hl hs => ⟨hl, hs⟩) (fun p l e R s m args below meth c D G ad A hEe H locs ls Q hlc hlk hsk kk => ?_)
  subst hEe
  obtain ⟨hx, hb, hml, hown, hts, hK, hD, hA, hlk0, hret, hR, hN⟩ := hE
  exact lv_goto hx hb hd ht (kk ls hlc)
theorem ta_wk {i : Nat} {lv2 : List tg_V} (he : lv.set i tj_ = lv2) (K : tg_AW E L kd X pc lv2 st μ) : tg_AW E L kd X pc lv st μ := by
  subst he
  refine tg_go K (fun hl hs => ⟨tg_set_ok hl trivial, hs⟩) (fun p l e R s m args below meth c D G ad A hEe H locs ls Q hlc hlk hsk kk => kk ls ⟨by rw [List.length_set]; exact hlc.1, hlc.2.1, fun j w hj hw => ?_⟩)
  rw [List.getElem?_set] at hj
  by_cases e9 : i = j
  · rw [if_pos e9] at hj
    by_cases e8 : i < lv.length
    · rw [if_pos e8] at hj; cases hj; exact absurd rfl hw
    · rw [if_neg e8] at hj; cases hj
  · rw [if_neg e9] at hj
    exact hlc.2.2 j w hj hw
theorem tg_br {X1 X2 : tg_R} {cnd : Prop} [Decidable cnd] {pc1 pc2 : Nat} {st2 : List tg_V} (hok : (∀ v ∈ st, tg_vok v) → (∀ v ∈ st2, tg_vok v))
    (hW : ∀ (p : Program) (l : Launch) (e : Env) (R : Room) (s : State) (m : MethodId) (args : Array Value) (below : List Frame) (meth : Method) (c : Code) (D : va_G) (G : tg_G) (ad : Nat → Nat) (A : Nat → Prop), E = (p, l, e, R, s, m, args, below, meth, c, D, G, ad, A) →
      ∀ (H : Heap) (locs : List Loc) (ls : Array Slot) (Q : State → Prop), (∀ v ∈ st, tg_vok v) → (cnd → W p l e R s m args below meth c H locs 0 0 Q (F0 m pc1 ls (st2.map (tg_cv ad)))) → (¬ cnd → W p l e R s m args below meth c H locs 0 0 Q (F0 m pc2 ls (st2.map (tg_cv ad)))) → W p l e R s m args below meth c H locs 0 0 Q (F0 m pc ls (st.map (tg_cv ad))))
    (K1 : cnd → tg_AW E L kd X1 pc1 lv st2 μ) (K2 : ¬ cnd → tg_AW E L kd X2 pc2 lv st2 μ) : tg_AW E L kd (if cnd then X1 else X2) pc lv st μ := by
  obtain ⟨p, l, e, R, s, m, args, below, meth, c, D, G, ad, A⟩ := E
  intro hm hl hs r μ' hX
  have h2 := hok hs
  by_cases hc : cnd
  · rw [if_pos hc] at hX
    exact fun H locs ls hP hS hlc => hW _ _ _ _ _ _ _ _ _ _ _ _ _ _ rfl H locs ls _ hs (fun _ => K1 hc hm hl h2 r μ' hX H locs ls hP hS hlc) (fun q => absurd hc q)
  · rw [if_neg hc] at hX
    exact fun H locs ls hP hS hlc => hW _ _ _ _ _ _ _ _ _ _ _ _ _ _ rfl H locs ls _ hs (fun q => absurd q hc) (fun _ => K2 hc hm hl h2 r μ' hX H locs ls hP hS hlc)
theorem ta_icmp_eq {X1 X2 : tg_R} {a b off : Int} {tgt : Nat} (hE : tg_Am E L kd own cc nL d) (hd : decode cc pc = .ok (.if_icmp .eq off, 3)) (ht : (pc : Int) + off = (tgt : Int)) (K1 : a = b → tg_AW E L kd X1 tgt lv st μ) (K2 : ¬ (a = b) → tg_AW E L kd X2 (pc + 3) lv st μ) : tg_AW E L kd (if a = b then X1 else X2) pc lv (ti_ b :: ti_ a :: st) μ := by
  refine tg_br (fun hs => (List.forall_mem_cons.mp (List.forall_mem_cons.mp hs).2).2) (fun p l e R s m args below meth c D G ad A hEe H locs ls Q hsk k1 k2 => ?_) K1 K2
  subst hEe
  obtain ⟨hx, hb, hml, hown, hts, hK, hD, hA, hlk0, hret, hR, hN⟩ := hE
  have hb0 : tg_inR b := (List.forall_mem_cons.mp hsk).1
  have ha : tg_inR a := (List.forall_mem_cons.mp (List.forall_mem_cons.mp hsk).2).1
  exact lv_icmp_eq hx hb hd ht (fun q => k1 ((tg_I_eq ha hb0).mp q)) (fun q => k2 (fun z => q ((tg_I_eq ha hb0).mpr z)))
theorem ta_icmp_ne {X1 X2 : tg_R} {a b off : Int} {tgt : Nat} (hE : tg_Am E L kd own cc nL d) (hd : decode cc pc = .ok (.if_icmp .ne off, 3)) (ht : (pc : Int) + off = (tgt : Int)) (K1 : a ≠ b → tg_AW E L kd X1 tgt lv st μ) (K2 : ¬ (a ≠ b) → tg_AW E L kd X2 (pc + 3) lv st μ) : tg_AW E L kd (if a ≠ b then X1 else X2) pc lv (ti_ b :: ti_ a :: st) μ := by
  refine tg_br (fun hs => (List.forall_mem_cons.mp (List.forall_mem_cons.mp hs).2).2) (fun p l e R s m args below meth c D G ad A hEe H locs ls Q hsk k1 k2 => ?_) K1 K2
  subst hEe
  obtain ⟨hx, hb, hml, hown, hts, hK, hD, hA, hlk0, hret, hR, hN⟩ := hE
  have hb0 : tg_inR b := (List.forall_mem_cons.mp hsk).1
  have ha : tg_inR a := (List.forall_mem_cons.mp (List.forall_mem_cons.mp hsk).2).1
  exact lv_icmp_ne hx hb hd ht (fun q => k1 ((not_congr (tg_I_eq ha hb0)).mp q)) (fun q => k2 (fun z => ((not_congr (tg_I_eq ha hb0)).mpr z) q))
theorem ta_icmp_lt {X1 X2 : tg_R} {a b off : Int} {tgt : Nat} (hE : tg_Am E L kd own cc nL d) (hd : decode cc pc = .ok (.if_icmp .lt off, 3)) (ht : (pc : Int) + off = (tgt : Int)) (K1 : a < b → tg_AW E L kd X1 tgt lv st μ) (K2 : ¬ (a < b) → tg_AW E L kd X2 (pc + 3) lv st μ) : tg_AW E L kd (if a < b then X1 else X2) pc lv (ti_ b :: ti_ a :: st) μ := by
  refine tg_br (fun hs => (List.forall_mem_cons.mp (List.forall_mem_cons.mp hs).2).2) (fun p l e R s m args below meth c D G ad A hEe H locs ls Q hsk k1 k2 => ?_) K1 K2
  subst hEe
  obtain ⟨hx, hb, hml, hown, hts, hK, hD, hA, hlk0, hret, hR, hN⟩ := hE
  have hb0 : tg_inR b := (List.forall_mem_cons.mp hsk).1
  have ha : tg_inR a := (List.forall_mem_cons.mp (List.forall_mem_cons.mp hsk).2).1
  exact lv_icmp_lt hx hb hd ht (fun q => k1 ((tg_I_lt ha hb0).mp q)) (fun q => k2 (fun z => q ((tg_I_lt ha hb0).mpr z)))
theorem ta_icmp_ge {X1 X2 : tg_R} {a b off : Int} {tgt : Nat} (hE : tg_Am E L kd own cc nL d) (hd : decode cc pc = .ok (.if_icmp .ge off, 3)) (ht : (pc : Int) + off = (tgt : Int)) (K1 : b ≤ a → tg_AW E L kd X1 tgt lv st μ) (K2 : ¬ (b ≤ a) → tg_AW E L kd X2 (pc + 3) lv st μ) : tg_AW E L kd (if b ≤ a then X1 else X2) pc lv (ti_ b :: ti_ a :: st) μ := by
  refine tg_br (fun hs => (List.forall_mem_cons.mp (List.forall_mem_cons.mp hs).2).2) (fun p l e R s m args below meth c D G ad A hEe H locs ls Q hsk k1 k2 => ?_) K1 K2
  subst hEe
  obtain ⟨hx, hb, hml, hown, hts, hK, hD, hA, hlk0, hret, hR, hN⟩ := hE
  have hb0 : tg_inR b := (List.forall_mem_cons.mp hsk).1
  have ha : tg_inR a := (List.forall_mem_cons.mp (List.forall_mem_cons.mp hsk).2).1
  exact lv_icmp_ge hx hb hd ht (fun q => k1 ((tg_I_le hb0 ha).mp q)) (fun q => k2 (fun z => q ((tg_I_le hb0 ha).mpr z)))
theorem ta_icmp_gt {X1 X2 : tg_R} {a b off : Int} {tgt : Nat} (hE : tg_Am E L kd own cc nL d) (hd : decode cc pc = .ok (.if_icmp .gt off, 3)) (ht : (pc : Int) + off = (tgt : Int)) (K1 : b < a → tg_AW E L kd X1 tgt lv st μ) (K2 : ¬ (b < a) → tg_AW E L kd X2 (pc + 3) lv st μ) : tg_AW E L kd (if b < a then X1 else X2) pc lv (ti_ b :: ti_ a :: st) μ := by
  refine tg_br (fun hs => (List.forall_mem_cons.mp (List.forall_mem_cons.mp hs).2).2) (fun p l e R s m args below meth c D G ad A hEe H locs ls Q hsk k1 k2 => ?_) K1 K2
  subst hEe
  obtain ⟨hx, hb, hml, hown, hts, hK, hD, hA, hlk0, hret, hR, hN⟩ := hE
  have hb0 : tg_inR b := (List.forall_mem_cons.mp hsk).1
  have ha : tg_inR a := (List.forall_mem_cons.mp (List.forall_mem_cons.mp hsk).2).1
  exact lv_icmp_gt hx hb hd ht (fun q => k1 ((tg_I_lt hb0 ha).mp q)) (fun q => k2 (fun z => q ((tg_I_lt hb0 ha).mpr z)))
theorem ta_icmp_le {X1 X2 : tg_R} {a b off : Int} {tgt : Nat} (hE : tg_Am E L kd own cc nL d) (hd : decode cc pc = .ok (.if_icmp .le off, 3)) (ht : (pc : Int) + off = (tgt : Int)) (K1 : a ≤ b → tg_AW E L kd X1 tgt lv st μ) (K2 : ¬ (a ≤ b) → tg_AW E L kd X2 (pc + 3) lv st μ) : tg_AW E L kd (if a ≤ b then X1 else X2) pc lv (ti_ b :: ti_ a :: st) μ := by
  refine tg_br (fun hs => (List.forall_mem_cons.mp (List.forall_mem_cons.mp hs).2).2) (fun p l e R s m args below meth c D G ad A hEe H locs ls Q hsk k1 k2 => ?_) K1 K2
  subst hEe
  obtain ⟨hx, hb, hml, hown, hts, hK, hD, hA, hlk0, hret, hR, hN⟩ := hE
  have hb0 : tg_inR b := (List.forall_mem_cons.mp hsk).1
  have ha : tg_inR a := (List.forall_mem_cons.mp (List.forall_mem_cons.mp hsk).2).1
  exact lv_icmp_le hx hb hd ht (fun q => k1 ((tg_I_le ha hb0).mp q)) (fun q => k2 (fun z => q ((tg_I_le ha hb0).mpr z)))
theorem ta_if_eq {X1 X2 : tg_R} {a off : Int} {tgt : Nat} (hE : tg_Am E L kd own cc nL d) (hd : decode cc pc = .ok (.ifCond .eq off, 3)) (ht : (pc : Int) + off = (tgt : Int)) (K1 : a = 0 → tg_AW E L kd X1 tgt lv st μ) (K2 : ¬ (a = 0) → tg_AW E L kd X2 (pc + 3) lv st μ) : tg_AW E L kd (if a = 0 then X1 else X2) pc lv (ti_ a :: st) μ := by
  refine tg_br (fun hs => (List.forall_mem_cons.mp hs).2) (fun p l e R s m args below meth c D G ad A hEe H locs ls Q hsk k1 k2 => ?_) K1 K2
  subst hEe
  obtain ⟨hx, hb, hml, hown, hts, hK, hD, hA, hlk0, hret, hR, hN⟩ := hE
  have ha : tg_inR a := (List.forall_mem_cons.mp hsk).1
  exact lv_if_eq hx hb hd ht (fun q => k1 ((tg_I_eq ha tg_R0).mp q)) (fun q => k2 (fun z => q ((tg_I_eq ha tg_R0).mpr z)))
theorem ta_if_ne {X1 X2 : tg_R} {a off : Int} {tgt : Nat} (hE : tg_Am E L kd own cc nL d) (hd : decode cc pc = .ok (.ifCond .ne off, 3)) (ht : (pc : Int) + off = (tgt : Int)) (K1 : a ≠ 0 → tg_AW E L kd X1 tgt lv st μ) (K2 : ¬ (a ≠ 0) → tg_AW E L kd X2 (pc + 3) lv st μ) : tg_AW E L kd (if a ≠ 0 then X1 else X2) pc lv (ti_ a :: st) μ := by
  refine tg_br (fun hs => (List.forall_mem_cons.mp hs).2) (fun p l e R s m args below meth c D G ad A hEe H locs ls Q hsk k1 k2 => ?_) K1 K2
  subst hEe
  obtain ⟨hx, hb, hml, hown, hts, hK, hD, hA, hlk0, hret, hR, hN⟩ := hE
  have ha : tg_inR a := (List.forall_mem_cons.mp hsk).1
  exact lv_if_ne hx hb hd ht (fun q => k1 ((not_congr (tg_I_eq ha tg_R0)).mp q)) (fun q => k2 (fun z => ((not_congr (tg_I_eq ha tg_R0)).mpr z) q))
theorem ta_if_lt {X1 X2 : tg_R} {a off : Int} {tgt : Nat} (hE : tg_Am E L kd own cc nL d) (hd : decode cc pc = .ok (.ifCond .lt off, 3)) (ht : (pc : Int) + off = (tgt : Int)) (K1 : a < 0 → tg_AW E L kd X1 tgt lv st μ) (K2 : ¬ (a < 0) → tg_AW E L kd X2 (pc + 3) lv st μ) : tg_AW E L kd (if a < 0 then X1 else X2) pc lv (ti_ a :: st) μ := by
  refine tg_br (fun hs => (List.forall_mem_cons.mp hs).2) (fun p l e R s m args below meth c D G ad A hEe H locs ls Q hsk k1 k2 => ?_) K1 K2
  subst hEe
  obtain ⟨hx, hb, hml, hown, hts, hK, hD, hA, hlk0, hret, hR, hN⟩ := hE
  have ha : tg_inR a := (List.forall_mem_cons.mp hsk).1
  exact lv_if_lt hx hb hd ht (fun q => k1 ((tg_I_lt ha tg_R0).mp q)) (fun q => k2 (fun z => q ((tg_I_lt ha tg_R0).mpr z)))
theorem ta_if_ge {X1 X2 : tg_R} {a off : Int} {tgt : Nat} (hE : tg_Am E L kd own cc nL d) (hd : decode cc pc = .ok (.ifCond .ge off, 3)) (ht : (pc : Int) + off = (tgt : Int)) (K1 : 0 ≤ a → tg_AW E L kd X1 tgt lv st μ) (K2 : ¬ (0 ≤ a) → tg_AW E L kd X2 (pc + 3) lv st μ) : tg_AW E L kd (if 0 ≤ a then X1 else X2) pc lv (ti_ a :: st) μ := by
  refine tg_br (fun hs => (List.forall_mem_cons.mp hs).2) (fun p l e R s m args below meth c D G ad A hEe H locs ls Q hsk k1 k2 => ?_) K1 K2
  subst hEe
  obtain ⟨hx, hb, hml, hown, hts, hK, hD, hA, hlk0, hret, hR, hN⟩ := hE
  have ha : tg_inR a := (List.forall_mem_cons.mp hsk).1
  exact lv_if_ge hx hb hd ht (fun q => k1 ((tg_I_le tg_R0 ha).mp q)) (fun q => k2 (fun z => q ((tg_I_le tg_R0 ha).mpr z)))
theorem ta_if_gt {X1 X2 : tg_R} {a off : Int} {tgt : Nat} (hE : tg_Am E L kd own cc nL d) (hd : decode cc pc = .ok (.ifCond .gt off, 3)) (ht : (pc : Int) + off = (tgt : Int)) (K1 : 0 < a → tg_AW E L kd X1 tgt lv st μ) (K2 : ¬ (0 < a) → tg_AW E L kd X2 (pc + 3) lv st μ) : tg_AW E L kd (if 0 < a then X1 else X2) pc lv (ti_ a :: st) μ := by
  refine tg_br (fun hs => (List.forall_mem_cons.mp hs).2) (fun p l e R s m args below meth c D G ad A hEe H locs ls Q hsk k1 k2 => ?_) K1 K2
  subst hEe
  obtain ⟨hx, hb, hml, hown, hts, hK, hD, hA, hlk0, hret, hR, hN⟩ := hE
  have ha : tg_inR a := (List.forall_mem_cons.mp hsk).1
  exact lv_if_gt hx hb hd ht (fun q => k1 ((tg_I_lt tg_R0 ha).mp q)) (fun q => k2 (fun z => q ((tg_I_lt tg_R0 ha).mpr z)))
theorem ta_if_le {X1 X2 : tg_R} {a off : Int} {tgt : Nat} (hE : tg_Am E L kd own cc nL d) (hd : decode cc pc = .ok (.ifCond .le off, 3)) (ht : (pc : Int) + off = (tgt : Int)) (K1 : a ≤ 0 → tg_AW E L kd X1 tgt lv st μ) (K2 : ¬ (a ≤ 0) → tg_AW E L kd X2 (pc + 3) lv st μ) : tg_AW E L kd (if a ≤ 0 then X1 else X2) pc lv (ti_ a :: st) μ := by
  refine tg_br (fun hs => (List.forall_mem_cons.mp hs).2) (fun p l e R s m args below meth c D G ad A hEe H locs ls Q hsk k1 k2 => ?_) K1 K2
  subst hEe
  obtain ⟨hx, hb, hml, hown, hts, hK, hD, hA, hlk0, hret, hR, hN⟩ := hE
  have ha : tg_inR a := (List.forall_mem_cons.mp hsk).1
  exact lv_if_le hx hb hd ht (fun q => k1 ((tg_I_le ha tg_R0).mp q)) (fun q => k2 (fun z => q ((tg_I_le ha tg_R0).mpr z)))
theorem tg_cmpv (x y : Int64) : lg_cmp x y = (if y < x then 1 else if x = y then 0 else -1) := rfl
theorem ta_lcmp_eq {X1 X2 : tg_R} {a b off : Int} {tgt : Nat} (hE : tg_Am E L kd own cc nL d) (hd0 : decode cc pc = .ok (.lcmp, 1)) (hd : decode cc (pc + 1) = .ok (.ifCond .eq off, 3)) (ht : ((pc + 1 : Nat) : Int) + off = (tgt : Int)) (K1 : a = b → tg_AW E L kd X1 tgt lv st μ) (K2 : ¬ (a = b) → tg_AW E L kd X2 (pc + 1 + 3) lv st μ) : tg_AW E L kd (if a = b then X1 else X2) pc lv (tl_ b :: tl_ a :: st) μ := by
  refine tg_br (fun hs => (List.forall_mem_cons.mp (List.forall_mem_cons.mp hs).2).2) (fun p l e R s m args below meth c D G ad A hEe H locs ls Q hsk k1 k2 => ?_) K1 K2
  subst hEe
  obtain ⟨hx, hb, hml, hown, hts, hK, hD, hA, hlk0, hret, hR, hN⟩ := hE
  have hb0 : tg_inL b := (List.forall_mem_cons.mp hsk).1
  have ha : tg_inL a := (List.forall_mem_cons.mp (List.forall_mem_cons.mp hsk).2).1
  have f1 : lg_cmp (tg_J a) (tg_J b) = 0 ↔ tg_J a = tg_J b := by
    rcases Int.lt_trichotomy (tg_J a).toInt (tg_J b).toInt with h | h | h
    · have h1 : ¬ tg_J b < tg_J a := by rw [Int64.lt_iff_toInt_lt]; omega
      have h2 : ¬ tg_J a = tg_J b := fun q => by rw [q] at h; omega
      have h3 : tg_J a < tg_J b := by rw [Int64.lt_iff_toInt_lt]; omega
      have h4 : tg_J a ≤ tg_J b := by rw [Int64.le_iff_toInt_le]; omega
      have h5 : ¬ tg_J b ≤ tg_J a := by rw [Int64.le_iff_toInt_le]; omega
      rw [tg_cmpv, if_neg h1, if_neg h2]
      simp [h1, h2, h3, h4, h5]
    · have h2 : tg_J a = tg_J b := Int64.toInt_inj.mp h
      have h1 : ¬ tg_J b < tg_J a := by rw [Int64.lt_iff_toInt_lt]; omega
      have h3 : ¬ tg_J a < tg_J b := by rw [Int64.lt_iff_toInt_lt]; omega
      have h4 : tg_J a ≤ tg_J b := by rw [Int64.le_iff_toInt_le]; omega
      have h5 : tg_J b ≤ tg_J a := by rw [Int64.le_iff_toInt_le]; omega
      rw [tg_cmpv, if_neg h1, if_pos h2]
      simp [h1, h2, h3, h4, h5]
    · have h1 : tg_J b < tg_J a := by rw [Int64.lt_iff_toInt_lt]; omega
      have h2 : ¬ tg_J a = tg_J b := fun q => by rw [q] at h; omega
      have h3 : ¬ tg_J a < tg_J b := by rw [Int64.lt_iff_toInt_lt]; omega
      have h4 : ¬ tg_J a ≤ tg_J b := by rw [Int64.le_iff_toInt_le]; omega
      have h5 : tg_J b ≤ tg_J a := by rw [Int64.le_iff_toInt_le]; omega
      rw [tg_cmpv, if_pos h1]
      simp [h1, h2, h3, h4, h5]
  refine W.lcmp hx hb hd0 ?_
  exact lv_if_eq hx hb hd ht (fun q => k1 ((tg_J_eq ha hb0).mp (f1.mp q))) (fun q => k2 (fun z => q (f1.mpr ((tg_J_eq ha hb0).mpr z))))
theorem ta_lcmp_ne {X1 X2 : tg_R} {a b off : Int} {tgt : Nat} (hE : tg_Am E L kd own cc nL d) (hd0 : decode cc pc = .ok (.lcmp, 1)) (hd : decode cc (pc + 1) = .ok (.ifCond .ne off, 3)) (ht : ((pc + 1 : Nat) : Int) + off = (tgt : Int)) (K1 : a ≠ b → tg_AW E L kd X1 tgt lv st μ) (K2 : ¬ (a ≠ b) → tg_AW E L kd X2 (pc + 1 + 3) lv st μ) : tg_AW E L kd (if a ≠ b then X1 else X2) pc lv (tl_ b :: tl_ a :: st) μ := by
  refine tg_br (fun hs => (List.forall_mem_cons.mp (List.forall_mem_cons.mp hs).2).2) (fun p l e R s m args below meth c D G ad A hEe H locs ls Q hsk k1 k2 => ?_) K1 K2
  subst hEe
  obtain ⟨hx, hb, hml, hown, hts, hK, hD, hA, hlk0, hret, hR, hN⟩ := hE
  have hb0 : tg_inL b := (List.forall_mem_cons.mp hsk).1
  have ha : tg_inL a := (List.forall_mem_cons.mp (List.forall_mem_cons.mp hsk).2).1
  have f1 : lg_cmp (tg_J a) (tg_J b) ≠ 0 ↔ ¬ tg_J a = tg_J b := by
    rcases Int.lt_trichotomy (tg_J a).toInt (tg_J b).toInt with h | h | h
    · have h1 : ¬ tg_J b < tg_J a := by rw [Int64.lt_iff_toInt_lt]; omega
      have h2 : ¬ tg_J a = tg_J b := fun q => by rw [q] at h; omega
      have h3 : tg_J a < tg_J b := by rw [Int64.lt_iff_toInt_lt]; omega
      have h4 : tg_J a ≤ tg_J b := by rw [Int64.le_iff_toInt_le]; omega
      have h5 : ¬ tg_J b ≤ tg_J a := by rw [Int64.le_iff_toInt_le]; omega
      rw [tg_cmpv, if_neg h1, if_neg h2]
      simp [h1, h2, h3, h4, h5]
    · have h2 : tg_J a = tg_J b := Int64.toInt_inj.mp h
      have h1 : ¬ tg_J b < tg_J a := by rw [Int64.lt_iff_toInt_lt]; omega
      have h3 : ¬ tg_J a < tg_J b := by rw [Int64.lt_iff_toInt_lt]; omega
      have h4 : tg_J a ≤ tg_J b := by rw [Int64.le_iff_toInt_le]; omega
      have h5 : tg_J b ≤ tg_J a := by rw [Int64.le_iff_toInt_le]; omega
      rw [tg_cmpv, if_neg h1, if_pos h2]
      simp [h1, h2, h3, h4, h5]
    · have h1 : tg_J b < tg_J a := by rw [Int64.lt_iff_toInt_lt]; omega
      have h2 : ¬ tg_J a = tg_J b := fun q => by rw [q] at h; omega
      have h3 : ¬ tg_J a < tg_J b := by rw [Int64.lt_iff_toInt_lt]; omega
      have h4 : ¬ tg_J a ≤ tg_J b := by rw [Int64.le_iff_toInt_le]; omega
      have h5 : tg_J b ≤ tg_J a := by rw [Int64.le_iff_toInt_le]; omega
      rw [tg_cmpv, if_pos h1]
      simp [h1, h2, h3, h4, h5]
  refine W.lcmp hx hb hd0 ?_
  exact lv_if_ne hx hb hd ht (fun q => k1 ((not_congr (tg_J_eq ha hb0)).mp (f1.mp q))) (fun q => k2 (fun z => (f1.mpr ((not_congr (tg_J_eq ha hb0)).mpr z)) q))
theorem ta_lcmp_lt {X1 X2 : tg_R} {a b off : Int} {tgt : Nat} (hE : tg_Am E L kd own cc nL d) (hd0 : decode cc pc = .ok (.lcmp, 1)) (hd : decode cc (pc + 1) = .ok (.ifCond .lt off, 3)) (ht : ((pc + 1 : Nat) : Int) + off = (tgt : Int)) (K1 : a < b → tg_AW E L kd X1 tgt lv st μ) (K2 : ¬ (a < b) → tg_AW E L kd X2 (pc + 1 + 3) lv st μ) : tg_AW E L kd (if a < b then X1 else X2) pc lv (tl_ b :: tl_ a :: st) μ := by
  refine tg_br (fun hs => (List.forall_mem_cons.mp (List.forall_mem_cons.mp hs).2).2) (fun p l e R s m args below meth c D G ad A hEe H locs ls Q hsk k1 k2 => ?_) K1 K2
  subst hEe
  obtain ⟨hx, hb, hml, hown, hts, hK, hD, hA, hlk0, hret, hR, hN⟩ := hE
  have hb0 : tg_inL b := (List.forall_mem_cons.mp hsk).1
  have ha : tg_inL a := (List.forall_mem_cons.mp (List.forall_mem_cons.mp hsk).2).1
  have f1 : lg_cmp (tg_J a) (tg_J b) < 0 ↔ tg_J a < tg_J b := by
    rcases Int.lt_trichotomy (tg_J a).toInt (tg_J b).toInt with h | h | h
    · have h1 : ¬ tg_J b < tg_J a := by rw [Int64.lt_iff_toInt_lt]; omega
      have h2 : ¬ tg_J a = tg_J b := fun q => by rw [q] at h; omega
      have h3 : tg_J a < tg_J b := by rw [Int64.lt_iff_toInt_lt]; omega
      have h4 : tg_J a ≤ tg_J b := by rw [Int64.le_iff_toInt_le]; omega
      have h5 : ¬ tg_J b ≤ tg_J a := by rw [Int64.le_iff_toInt_le]; omega
      rw [tg_cmpv, if_neg h1, if_neg h2]
      simp [h1, h2, h3, h4, h5]
    · have h2 : tg_J a = tg_J b := Int64.toInt_inj.mp h
      have h1 : ¬ tg_J b < tg_J a := by rw [Int64.lt_iff_toInt_lt]; omega
      have h3 : ¬ tg_J a < tg_J b := by rw [Int64.lt_iff_toInt_lt]; omega
      have h4 : tg_J a ≤ tg_J b := by rw [Int64.le_iff_toInt_le]; omega
      have h5 : tg_J b ≤ tg_J a := by rw [Int64.le_iff_toInt_le]; omega
      rw [tg_cmpv, if_neg h1, if_pos h2]
      simp [h1, h2, h3, h4, h5]
    · have h1 : tg_J b < tg_J a := by rw [Int64.lt_iff_toInt_lt]; omega
      have h2 : ¬ tg_J a = tg_J b := fun q => by rw [q] at h; omega
      have h3 : ¬ tg_J a < tg_J b := by rw [Int64.lt_iff_toInt_lt]; omega
      have h4 : ¬ tg_J a ≤ tg_J b := by rw [Int64.le_iff_toInt_le]; omega
      have h5 : tg_J b ≤ tg_J a := by rw [Int64.le_iff_toInt_le]; omega
      rw [tg_cmpv, if_pos h1]
      simp [h1, h2, h3, h4, h5]
  refine W.lcmp hx hb hd0 ?_
  exact lv_if_lt hx hb hd ht (fun q => k1 ((tg_J_lt ha hb0).mp (f1.mp q))) (fun q => k2 (fun z => q (f1.mpr ((tg_J_lt ha hb0).mpr z))))
theorem ta_lcmp_ge {X1 X2 : tg_R} {a b off : Int} {tgt : Nat} (hE : tg_Am E L kd own cc nL d) (hd0 : decode cc pc = .ok (.lcmp, 1)) (hd : decode cc (pc + 1) = .ok (.ifCond .ge off, 3)) (ht : ((pc + 1 : Nat) : Int) + off = (tgt : Int)) (K1 : b ≤ a → tg_AW E L kd X1 tgt lv st μ) (K2 : ¬ (b ≤ a) → tg_AW E L kd X2 (pc + 1 + 3) lv st μ) : tg_AW E L kd (if b ≤ a then X1 else X2) pc lv (tl_ b :: tl_ a :: st) μ := by
  refine tg_br (fun hs => (List.forall_mem_cons.mp (List.forall_mem_cons.mp hs).2).2) (fun p l e R s m args below meth c D G ad A hEe H locs ls Q hsk k1 k2 => ?_) K1 K2
  subst hEe
  obtain ⟨hx, hb, hml, hown, hts, hK, hD, hA, hlk0, hret, hR, hN⟩ := hE
  have hb0 : tg_inL b := (List.forall_mem_cons.mp hsk).1
  have ha : tg_inL a := (List.forall_mem_cons.mp (List.forall_mem_cons.mp hsk).2).1
  have f1 : 0 ≤ lg_cmp (tg_J a) (tg_J b) ↔ tg_J b ≤ tg_J a := by
    rcases Int.lt_trichotomy (tg_J a).toInt (tg_J b).toInt with h | h | h
    · have h1 : ¬ tg_J b < tg_J a := by rw [Int64.lt_iff_toInt_lt]; omega
      have h2 : ¬ tg_J a = tg_J b := fun q => by rw [q] at h; omega
      have h3 : tg_J a < tg_J b := by rw [Int64.lt_iff_toInt_lt]; omega
      have h4 : tg_J a ≤ tg_J b := by rw [Int64.le_iff_toInt_le]; omega
      have h5 : ¬ tg_J b ≤ tg_J a := by rw [Int64.le_iff_toInt_le]; omega
      rw [tg_cmpv, if_neg h1, if_neg h2]
      simp [h1, h2, h3, h4, h5]
    · have h2 : tg_J a = tg_J b := Int64.toInt_inj.mp h
      have h1 : ¬ tg_J b < tg_J a := by rw [Int64.lt_iff_toInt_lt]; omega
      have h3 : ¬ tg_J a < tg_J b := by rw [Int64.lt_iff_toInt_lt]; omega
      have h4 : tg_J a ≤ tg_J b := by rw [Int64.le_iff_toInt_le]; omega
      have h5 : tg_J b ≤ tg_J a := by rw [Int64.le_iff_toInt_le]; omega
      rw [tg_cmpv, if_neg h1, if_pos h2]
      simp [h1, h2, h3, h4, h5]
    · have h1 : tg_J b < tg_J a := by rw [Int64.lt_iff_toInt_lt]; omega
      have h2 : ¬ tg_J a = tg_J b := fun q => by rw [q] at h; omega
      have h3 : ¬ tg_J a < tg_J b := by rw [Int64.lt_iff_toInt_lt]; omega
      have h4 : ¬ tg_J a ≤ tg_J b := by rw [Int64.le_iff_toInt_le]; omega
      have h5 : tg_J b ≤ tg_J a := by rw [Int64.le_iff_toInt_le]; omega
      rw [tg_cmpv, if_pos h1]
      simp [h1, h2, h3, h4, h5]
  refine W.lcmp hx hb hd0 ?_
  exact lv_if_ge hx hb hd ht (fun q => k1 ((tg_J_le hb0 ha).mp (f1.mp q))) (fun q => k2 (fun z => q (f1.mpr ((tg_J_le hb0 ha).mpr z))))
theorem ta_lcmp_gt {X1 X2 : tg_R} {a b off : Int} {tgt : Nat} (hE : tg_Am E L kd own cc nL d) (hd0 : decode cc pc = .ok (.lcmp, 1)) (hd : decode cc (pc + 1) = .ok (.ifCond .gt off, 3)) (ht : ((pc + 1 : Nat) : Int) + off = (tgt : Int)) (K1 : b < a → tg_AW E L kd X1 tgt lv st μ) (K2 : ¬ (b < a) → tg_AW E L kd X2 (pc + 1 + 3) lv st μ) : tg_AW E L kd (if b < a then X1 else X2) pc lv (tl_ b :: tl_ a :: st) μ := by
  refine tg_br (fun hs => (List.forall_mem_cons.mp (List.forall_mem_cons.mp hs).2).2) (fun p l e R s m args below meth c D G ad A hEe H locs ls Q hsk k1 k2 => ?_) K1 K2
  subst hEe
  obtain ⟨hx, hb, hml, hown, hts, hK, hD, hA, hlk0, hret, hR, hN⟩ := hE
  have hb0 : tg_inL b := (List.forall_mem_cons.mp hsk).1
  have ha : tg_inL a := (List.forall_mem_cons.mp (List.forall_mem_cons.mp hsk).2).1
  have f1 : 0 < lg_cmp (tg_J a) (tg_J b) ↔ tg_J b < tg_J a := by
    rcases Int.lt_trichotomy (tg_J a).toInt (tg_J b).toInt with h | h | h
    · have h1 : ¬ tg_J b < tg_J a := by rw [Int64.lt_iff_toInt_lt]; omega
      have h2 : ¬ tg_J a = tg_J b := fun q => by rw [q] at h; omega
      have h3 : tg_J a < tg_J b := by rw [Int64.lt_iff_toInt_lt]; omega
      have h4 : tg_J a ≤ tg_J b := by rw [Int64.le_iff_toInt_le]; omega
      have h5 : ¬ tg_J b ≤ tg_J a := by rw [Int64.le_iff_toInt_le]; omega
      rw [tg_cmpv, if_neg h1, if_neg h2]
      simp [h1, h2, h3, h4, h5]
    · have h2 : tg_J a = tg_J b := Int64.toInt_inj.mp h
      have h1 : ¬ tg_J b < tg_J a := by rw [Int64.lt_iff_toInt_lt]; omega
      have h3 : ¬ tg_J a < tg_J b := by rw [Int64.lt_iff_toInt_lt]; omega
      have h4 : tg_J a ≤ tg_J b := by rw [Int64.le_iff_toInt_le]; omega
      have h5 : tg_J b ≤ tg_J a := by rw [Int64.le_iff_toInt_le]; omega
      rw [tg_cmpv, if_neg h1, if_pos h2]
      simp [h1, h2, h3, h4, h5]
    · have h1 : tg_J b < tg_J a := by rw [Int64.lt_iff_toInt_lt]; omega
      have h2 : ¬ tg_J a = tg_J b := fun q => by rw [q] at h; omega
      have h3 : ¬ tg_J a < tg_J b := by rw [Int64.lt_iff_toInt_lt]; omega
      have h4 : ¬ tg_J a ≤ tg_J b := by rw [Int64.le_iff_toInt_le]; omega
      have h5 : tg_J b ≤ tg_J a := by rw [Int64.le_iff_toInt_le]; omega
      rw [tg_cmpv, if_pos h1]
      simp [h1, h2, h3, h4, h5]
  refine W.lcmp hx hb hd0 ?_
  exact lv_if_gt hx hb hd ht (fun q => k1 ((tg_J_lt hb0 ha).mp (f1.mp q))) (fun q => k2 (fun z => q (f1.mpr ((tg_J_lt hb0 ha).mpr z))))
theorem ta_lcmp_le {X1 X2 : tg_R} {a b off : Int} {tgt : Nat} (hE : tg_Am E L kd own cc nL d) (hd0 : decode cc pc = .ok (.lcmp, 1)) (hd : decode cc (pc + 1) = .ok (.ifCond .le off, 3)) (ht : ((pc + 1 : Nat) : Int) + off = (tgt : Int)) (K1 : a ≤ b → tg_AW E L kd X1 tgt lv st μ) (K2 : ¬ (a ≤ b) → tg_AW E L kd X2 (pc + 1 + 3) lv st μ) : tg_AW E L kd (if a ≤ b then X1 else X2) pc lv (tl_ b :: tl_ a :: st) μ := by
  refine tg_br (fun hs => (List.forall_mem_cons.mp (List.forall_mem_cons.mp hs).2).2) (fun p l e R s m args below meth c D G ad A hEe H locs ls Q hsk k1 k2 => ?_) K1 K2
  subst hEe
  obtain ⟨hx, hb, hml, hown, hts, hK, hD, hA, hlk0, hret, hR, hN⟩ := hE
  have hb0 : tg_inL b := (List.forall_mem_cons.mp hsk).1
  have ha : tg_inL a := (List.forall_mem_cons.mp (List.forall_mem_cons.mp hsk).2).1
  have f1 : lg_cmp (tg_J a) (tg_J b) ≤ 0 ↔ tg_J a ≤ tg_J b := by
    rcases Int.lt_trichotomy (tg_J a).toInt (tg_J b).toInt with h | h | h
    · have h1 : ¬ tg_J b < tg_J a := by rw [Int64.lt_iff_toInt_lt]; omega
      have h2 : ¬ tg_J a = tg_J b := fun q => by rw [q] at h; omega
      have h3 : tg_J a < tg_J b := by rw [Int64.lt_iff_toInt_lt]; omega
      have h4 : tg_J a ≤ tg_J b := by rw [Int64.le_iff_toInt_le]; omega
      have h5 : ¬ tg_J b ≤ tg_J a := by rw [Int64.le_iff_toInt_le]; omega
      rw [tg_cmpv, if_neg h1, if_neg h2]
      simp [h1, h2, h3, h4, h5]
    · have h2 : tg_J a = tg_J b := Int64.toInt_inj.mp h
      have h1 : ¬ tg_J b < tg_J a := by rw [Int64.lt_iff_toInt_lt]; omega
      have h3 : ¬ tg_J a < tg_J b := by rw [Int64.lt_iff_toInt_lt]; omega
      have h4 : tg_J a ≤ tg_J b := by rw [Int64.le_iff_toInt_le]; omega
      have h5 : tg_J b ≤ tg_J a := by rw [Int64.le_iff_toInt_le]; omega
      rw [tg_cmpv, if_neg h1, if_pos h2]
      simp [h1, h2, h3, h4, h5]
    · have h1 : tg_J b < tg_J a := by rw [Int64.lt_iff_toInt_lt]; omega
      have h2 : ¬ tg_J a = tg_J b := fun q => by rw [q] at h; omega
      have h3 : ¬ tg_J a < tg_J b := by rw [Int64.lt_iff_toInt_lt]; omega
      have h4 : ¬ tg_J a ≤ tg_J b := by rw [Int64.le_iff_toInt_le]; omega
      have h5 : tg_J b ≤ tg_J a := by rw [Int64.le_iff_toInt_le]; omega
      rw [tg_cmpv, if_pos h1]
      simp [h1, h2, h3, h4, h5]
  refine W.lcmp hx hb hd0 ?_
  exact lv_if_le hx hb hd ht (fun q => k1 ((tg_J_le ha hb0).mp (f1.mp q))) (fun q => k2 (fun z => q (f1.mpr ((tg_J_le ha hb0).mpr z))))
end TGR
