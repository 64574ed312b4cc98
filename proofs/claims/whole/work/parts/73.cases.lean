-- the law's cases (laid by wip/gen/gen_law.py)
section LC
variable {p : Program} {l : Launch} {e : Env} {s : State} {m : MethodId} {below : List Frame} {meth : Method} {c : Code} {b L n : Nat} {xs : Nat → Int32} {D : va_G} {G : tg_G} {a7 a8 : Nat → Nat} {H : Heap} {locs : List Loc} {cells slots : Nat} {Q : State → Prop} {ls : Array Slot} {μ ν : tg_Mem}
set_option maxRecDepth 100000 in
set_option maxHeartbeats 4000000 in
theorem lc_0 (cx : lk_Cx p s m c b L xs D G a7 a8) (hR : R_all μ ν) (hm7 : tg_mok LX μ) (hm8 : tg_mok LM ν) (hP7 : va_P D vwCl (tg_W G a7 LX μ) H) (hP8 : va_P D vwCl (tg_W G a8 LM ν) H) (hS : va_S (fun q : Nat => s.heap.size ≤ q) s.heap H locs) (hl : lv_has ls 4 [(3, .int (tg_I (n : Int))), (2, .ref (a8 0)), (1, .ref (a7 0)), (0, .ref b)]) (hn : n + 6 ≤ L) (hcs : cells ≤ room_1.cells ∧ slots ≤ room_1.slots)
    (kk : ∀ (μ1 ν1 : tg_Mem) (H1 : Heap) (locs1 : List Loc), R_all μ1 ν1 → tg_mok LX μ1 → tg_mok LM ν1 → va_P D vwCl (tg_W G a7 LX μ1) H1 → va_P D vwCl (tg_W G a8 LM ν1) H1 → va_S (fun q : Nat => s.heap.size ≤ q) s.heap H1 locs1 → W p l e room_1 s m #[Value.ref b] below meth c H1 locs1 cells slots Q (F0 m 1048 ls [])) : W p l e room_1 s m #[Value.ref b] below meth c H locs cells slots Q (F0 m 156 ls []) := by
  obtain ⟨hx, hb, hml, hown, hts, hK, hN, hDD, hX, hbl, hL⟩ := id cx
  have hA : ∀ q : Nat, s.heap.size ≤ q → (fun q : Nat => s.heap.size ≤ q) q := fun _ h => h
  have hbA : ¬ (fun q : Nat => s.heap.size ≤ q) b := Nat.not_le.mpr hbl
  have hD7 : ∀ μ, va_D (fun q : Nat => s.heap.size ≤ q) (tg_W G a7 LX μ) := fun μ => tk_D_left (hDD μ (fun _ _ => 0))
  have hD8 : ∀ ν, va_D (fun q : Nat => s.heap.size ≤ q) (tg_W G a8 LM ν) := fun ν => tk_D_right (hDD (fun _ _ => 0) ν)
  obtain ⟨r, μ1, ν1, f7, f8, hR1⟩ := s_type (xs (n + 1)).toInt (xs (n + 2)).toInt μ ν hR
  have h78 := tk_ap (hDD μ ν)
  have h87 : ∀ (i j : Nat) (p q : Nat × va_E), (tg_W G a8 LM ν)[i]? = some p → (tg_W G a7 LX μ1)[j]? = some q → p.1 ≠ q.1 := fun i j p q hi hj e => tk_ap (hDD μ1 ν) j i q p hj hi e.symm
  refine lv_aload_n hx hb dL_law_156 rfl (lv_at hl 2 rfl) ?_
  refine lk_arg (jn := 1) hx hb hX hbl hbA hS hl hn hL ⟨rfl, by decide⟩ dL_law_157 dL_law_158 dL_law_159 dL_law_160 dL_law_161 ?_
  refine lk_arg (jn := 2) hx hb hX hbl hbA hS hl hn hL ⟨rfl, by decide⟩ dL_law_162 dL_law_163 dL_law_164 dL_law_165 dL_law_166 ?_
  refine lk_call (k := 0) (rest := []) (tas := [ti_ (xs (n + 1)).toInt, ti_ (xs (n + 2)).toInt]) hx hb hml hown hts hK hN hD7 hA h78 hm7 hP7 hP8 hS (k_X7_type _ _ μ) f7 (by simp [tg_vok, tg_i32_in]) ml_L_13 im_X7_type se_X7_type in_X7 co_X7_type hy_X7_type ⟨Nat.le_of_ble_eq_true rfl, Nat.le_of_ble_eq_true rfl⟩ lx_0 rfl (by simp [tg_cv, tg_I_toInt]) hl.1 (Nat.le_of_ble_eq_true rfl) dL_law_167 hcs (fun h7 hm71 H locs hP7 hP8 hS => ?_)
  refine lv_aload_n hx hb dL_law_170 rfl (lv_at hl 1 rfl) ?_
  refine lk_arg (jn := 1) hx hb hX hbl hbA hS hl hn hL ⟨rfl, by decide⟩ dL_law_171 dL_law_172 dL_law_173 dL_law_174 dL_law_175 ?_
  refine lk_arg (jn := 2) hx hb hX hbl hbA hS hl hn hL ⟨rfl, by decide⟩ dL_law_176 dL_law_177 dL_law_178 dL_law_179 dL_law_180 ?_
  refine lk_call (k := 0) (rest := [.int (tg_I r)]) (tas := [ti_ (xs (n + 1)).toInt, ti_ (xs (n + 2)).toInt]) hx hb hml hown hts hK hN hD8 hA h87 hm8 hP8 hP7 hS (k_X8_type _ _ ν) f8 (by simp [tg_vok, tg_i32_in]) ml_L_17 im_X8_type se_X8_type in_X8 co_X8_type hy_X8_type ⟨Nat.le_of_ble_eq_true rfl, Nat.le_of_ble_eq_true rfl⟩ lm_0 rfl (by simp [tg_cv, tg_I_toInt]; rfl) hl.1 (Nat.le_of_ble_eq_true rfl) dL_law_181 hcs (fun h8 hm81 H locs hP8 hP7 hS => ?_)
  refine lv_icmp_eq (tgt := 1048) hx hb dL_law_184 (by decide) (fun _ => ?_) (fun c9 => absurd rfl c9)
  exact kk μ1 ν1 H locs hR1 hm71 hm81 hP7 hP8 hS
set_option maxRecDepth 100000 in
set_option maxHeartbeats 4000000 in
theorem lc_1 (cx : lk_Cx p s m c b L xs D G a7 a8) (hR : R_all μ ν) (hm7 : tg_mok LX μ) (hm8 : tg_mok LM ν) (hP7 : va_P D vwCl (tg_W G a7 LX μ) H) (hP8 : va_P D vwCl (tg_W G a8 LM ν) H) (hS : va_S (fun q : Nat => s.heap.size ≤ q) s.heap H locs) (hl : lv_has ls 4 [(3, .int (tg_I (n : Int))), (2, .ref (a8 0)), (1, .ref (a7 0)), (0, .ref b)]) (hn : n + 6 ≤ L) (hcs : cells ≤ room_1.cells ∧ slots ≤ room_1.slots)
    (kk : ∀ (μ1 ν1 : tg_Mem) (H1 : Heap) (locs1 : List Loc), R_all μ1 ν1 → tg_mok LX μ1 → tg_mok LM ν1 → va_P D vwCl (tg_W G a7 LX μ1) H1 → va_P D vwCl (tg_W G a8 LM ν1) H1 → va_S (fun q : Nat => s.heap.size ≤ q) s.heap H1 locs1 → W p l e room_1 s m #[Value.ref b] below meth c H1 locs1 cells slots Q (F0 m 1048 ls [])) : W p l e room_1 s m #[Value.ref b] below meth c H locs cells slots Q (F0 m 189 ls []) := by
  obtain ⟨hx, hb, hml, hown, hts, hK, hN, hDD, hX, hbl, hL⟩ := id cx
  have hA : ∀ q : Nat, s.heap.size ≤ q → (fun q : Nat => s.heap.size ≤ q) q := fun _ h => h
  have hbA : ¬ (fun q : Nat => s.heap.size ≤ q) b := Nat.not_le.mpr hbl
  have hD7 : ∀ μ, va_D (fun q : Nat => s.heap.size ≤ q) (tg_W G a7 LX μ) := fun μ => tk_D_left (hDD μ (fun _ _ => 0))
  have hD8 : ∀ ν, va_D (fun q : Nat => s.heap.size ≤ q) (tg_W G a8 LM ν) := fun ν => tk_D_right (hDD (fun _ _ => 0) ν)
  obtain ⟨r, μ1, ν1, f7, f8, hR1⟩ := s_wipe (xs (n + 1)).toInt μ ν hR
  have h78 := tk_ap (hDD μ ν)
  have h87 : ∀ (i j : Nat) (p q : Nat × va_E), (tg_W G a8 LM ν)[i]? = some p → (tg_W G a7 LX μ1)[j]? = some q → p.1 ≠ q.1 := fun i j p q hi hj e => tk_ap (hDD μ1 ν) j i q p hj hi e.symm
  refine lv_aload_n hx hb dL_law_189 rfl (lv_at hl 2 rfl) ?_
  refine lk_arg (jn := 1) hx hb hX hbl hbA hS hl hn hL ⟨rfl, by decide⟩ dL_law_190 dL_law_191 dL_law_192 dL_law_193 dL_law_194 ?_
  refine lk_call (k := 0) (rest := []) (tas := [ti_ (xs (n + 1)).toInt]) hx hb hml hown hts hK hN hD7 hA h78 hm7 hP7 hP8 hS (k_X7_wipe _ μ) f7 (by simp [tg_vok, tg_i32_in]) ml_L_18 im_X7_wipe se_X7_wipe in_X7 co_X7_wipe hy_X7_wipe ⟨Nat.le_of_ble_eq_true rfl, Nat.le_of_ble_eq_true rfl⟩ lx_0 rfl (by simp [tg_cv, tg_I_toInt]) hl.1 (Nat.le_of_ble_eq_true rfl) dL_law_195 hcs (fun h7 hm71 H locs hP7 hP8 hS => ?_)
  refine lv_aload_n hx hb dL_law_198 rfl (lv_at hl 1 rfl) ?_
  refine lk_arg (jn := 1) hx hb hX hbl hbA hS hl hn hL ⟨rfl, by decide⟩ dL_law_199 dL_law_200 dL_law_201 dL_law_202 dL_law_203 ?_
  refine lk_call (k := 0) (rest := [.int (tg_I r)]) (tas := [ti_ (xs (n + 1)).toInt]) hx hb hml hown hts hK hN hD8 hA h87 hm8 hP8 hP7 hS (k_X8_wipe _ ν) f8 (by simp [tg_vok, tg_i32_in]) ml_L_22 im_X8_wipe se_X8_wipe in_X8 co_X8_wipe hy_X8_wipe ⟨Nat.le_of_ble_eq_true rfl, Nat.le_of_ble_eq_true rfl⟩ lm_0 rfl (by simp [tg_cv, tg_I_toInt]; rfl) hl.1 (Nat.le_of_ble_eq_true rfl) dL_law_204 hcs (fun h8 hm81 H locs hP8 hP7 hS => ?_)
  refine lv_icmp_eq (tgt := 1048) hx hb dL_law_207 (by decide) (fun _ => ?_) (fun c9 => absurd rfl c9)
  exact kk μ1 ν1 H locs hR1 hm71 hm81 hP7 hP8 hS
set_option maxRecDepth 100000 in
set_option maxHeartbeats 4000000 in
theorem lc_2 (cx : lk_Cx p s m c b L xs D G a7 a8) (hR : R_all μ ν) (hm7 : tg_mok LX μ) (hm8 : tg_mok LM ν) (hP7 : va_P D vwCl (tg_W G a7 LX μ) H) (hP8 : va_P D vwCl (tg_W G a8 LM ν) H) (hS : va_S (fun q : Nat => s.heap.size ≤ q) s.heap H locs) (hl : lv_has ls 4 [(3, .int (tg_I (n : Int))), (2, .ref (a8 0)), (1, .ref (a7 0)), (0, .ref b)]) (hn : n + 6 ≤ L) (hcs : cells ≤ room_1.cells ∧ slots ≤ room_1.slots)
    (kk : ∀ (μ1 ν1 : tg_Mem) (H1 : Heap) (locs1 : List Loc), R_all μ1 ν1 → tg_mok LX μ1 → tg_mok LM ν1 → va_P D vwCl (tg_W G a7 LX μ1) H1 → va_P D vwCl (tg_W G a8 LM ν1) H1 → va_S (fun q : Nat => s.heap.size ≤ q) s.heap H1 locs1 → W p l e room_1 s m #[Value.ref b] below meth c H1 locs1 cells slots Q (F0 m 1048 ls [])) : W p l e room_1 s m #[Value.ref b] below meth c H locs cells slots Q (F0 m 212 ls []) := by
  obtain ⟨hx, hb, hml, hown, hts, hK, hN, hDD, hX, hbl, hL⟩ := id cx
  have hA : ∀ q : Nat, s.heap.size ≤ q → (fun q : Nat => s.heap.size ≤ q) q := fun _ h => h
  have hbA : ¬ (fun q : Nat => s.heap.size ≤ q) b := Nat.not_le.mpr hbl
  have hD7 : ∀ μ, va_D (fun q : Nat => s.heap.size ≤ q) (tg_W G a7 LX μ) := fun μ => tk_D_left (hDD μ (fun _ _ => 0))
  have hD8 : ∀ ν, va_D (fun q : Nat => s.heap.size ≤ q) (tg_W G a8 LM ν) := fun ν => tk_D_right (hDD (fun _ _ => 0) ν)
  obtain ⟨r, μ1, ν1, f7, f8, hR1⟩ := s_fault μ ν hR
  have h78 := tk_ap (hDD μ ν)
  have h87 : ∀ (i j : Nat) (p q : Nat × va_E), (tg_W G a8 LM ν)[i]? = some p → (tg_W G a7 LX μ1)[j]? = some q → p.1 ≠ q.1 := fun i j p q hi hj e => tk_ap (hDD μ1 ν) j i q p hj hi e.symm
  refine lv_aload_n hx hb dL_law_212 rfl (lv_at hl 2 rfl) ?_
  refine lk_call (k := 0) (rest := []) (tas := []) hx hb hml hown hts hK hN hD7 hA h78 hm7 hP7 hP8 hS (k_X7_fault μ) f7 (fun v hv => by cases hv) ml_L_23 im_X7_fault se_X7_fault in_X7 co_X7_fault hy_X7_fault ⟨Nat.le_of_ble_eq_true rfl, Nat.le_of_ble_eq_true rfl⟩ lx_0 rfl rfl hl.1 (Nat.le_of_ble_eq_true rfl) dL_law_213 hcs (fun h7 hm71 H locs hP7 hP8 hS => ?_)
  refine lv_aload_n hx hb dL_law_216 rfl (lv_at hl 1 rfl) ?_
  refine lk_call (k := 0) (rest := [.int (tg_I r)]) (tas := []) hx hb hml hown hts hK hN hD8 hA h87 hm8 hP8 hP7 hS (k_X8_fault ν) f8 (fun v hv => by cases hv) ml_L_27 im_X8_fault se_X8_fault in_X8 co_X8_fault hy_X8_fault ⟨Nat.le_of_ble_eq_true rfl, Nat.le_of_ble_eq_true rfl⟩ lm_0 rfl rfl hl.1 (Nat.le_of_ble_eq_true rfl) dL_law_217 hcs (fun h8 hm81 H locs hP8 hP7 hS => ?_)
  refine lv_icmp_eq (tgt := 1048) hx hb dL_law_220 (by decide) (fun _ => ?_) (fun c9 => absurd rfl c9)
  exact kk μ1 ν1 H locs hR1 hm71 hm81 hP7 hP8 hS
set_option maxRecDepth 100000 in
set_option maxHeartbeats 4000000 in
theorem lc_3 (cx : lk_Cx p s m c b L xs D G a7 a8) (hR : R_all μ ν) (hm7 : tg_mok LX μ) (hm8 : tg_mok LM ν) (hP7 : va_P D vwCl (tg_W G a7 LX μ) H) (hP8 : va_P D vwCl (tg_W G a8 LM ν) H) (hS : va_S (fun q : Nat => s.heap.size ≤ q) s.heap H locs) (hl : lv_has ls 4 [(3, .int (tg_I (n : Int))), (2, .ref (a8 0)), (1, .ref (a7 0)), (0, .ref b)]) (hn : n + 6 ≤ L) (hcs : cells ≤ room_1.cells ∧ slots ≤ room_1.slots)
    (kk : ∀ (μ1 ν1 : tg_Mem) (H1 : Heap) (locs1 : List Loc), R_all μ1 ν1 → tg_mok LX μ1 → tg_mok LM ν1 → va_P D vwCl (tg_W G a7 LX μ1) H1 → va_P D vwCl (tg_W G a8 LM ν1) H1 → va_S (fun q : Nat => s.heap.size ≤ q) s.heap H1 locs1 → W p l e room_1 s m #[Value.ref b] below meth c H1 locs1 cells slots Q (F0 m 1048 ls [])) : W p l e room_1 s m #[Value.ref b] below meth c H locs cells slots Q (F0 m 225 ls []) := by
  obtain ⟨hx, hb, hml, hown, hts, hK, hN, hDD, hX, hbl, hL⟩ := id cx
  have hA : ∀ q : Nat, s.heap.size ≤ q → (fun q : Nat => s.heap.size ≤ q) q := fun _ h => h
  have hbA : ¬ (fun q : Nat => s.heap.size ≤ q) b := Nat.not_le.mpr hbl
  have hD7 : ∀ μ, va_D (fun q : Nat => s.heap.size ≤ q) (tg_W G a7 LX μ) := fun μ => tk_D_left (hDD μ (fun _ _ => 0))
  have hD8 : ∀ ν, va_D (fun q : Nat => s.heap.size ≤ q) (tg_W G a8 LM ν) := fun ν => tk_D_right (hDD (fun _ _ => 0) ν)
  obtain ⟨r, μ1, ν1, f7, f8, hR1⟩ := s_path (xs (n + 1)).toInt (xs (n + 2)).toInt μ ν hR
  have h78 := tk_ap (hDD μ ν)
  have h87 : ∀ (i j : Nat) (p q : Nat × va_E), (tg_W G a8 LM ν)[i]? = some p → (tg_W G a7 LX μ1)[j]? = some q → p.1 ≠ q.1 := fun i j p q hi hj e => tk_ap (hDD μ1 ν) j i q p hj hi e.symm
  refine lv_aload_n hx hb dL_law_225 rfl (lv_at hl 2 rfl) ?_
  refine lk_arg (jn := 1) hx hb hX hbl hbA hS hl hn hL ⟨rfl, by decide⟩ dL_law_226 dL_law_227 dL_law_228 dL_law_229 dL_law_230 ?_
  refine lk_arg (jn := 2) hx hb hX hbl hbA hS hl hn hL ⟨rfl, by decide⟩ dL_law_231 dL_law_232 dL_law_233 dL_law_234 dL_law_235 ?_
  refine lk_call (k := 0) (rest := []) (tas := [ti_ (xs (n + 1)).toInt, ti_ (xs (n + 2)).toInt]) hx hb hml hown hts hK hN hD7 hA h78 hm7 hP7 hP8 hS (k_X7_path _ _ μ) f7 (by simp [tg_vok, tg_i32_in]) ml_L_28 im_X7_path se_X7_path in_X7 co_X7_path hy_X7_path ⟨Nat.le_of_ble_eq_true rfl, Nat.le_of_ble_eq_true rfl⟩ lx_0 rfl (by simp [tg_cv, tg_I_toInt]) hl.1 (Nat.le_of_ble_eq_true rfl) dL_law_236 hcs (fun h7 hm71 H locs hP7 hP8 hS => ?_)
  refine lv_aload_n hx hb dL_law_239 rfl (lv_at hl 1 rfl) ?_
  refine lk_arg (jn := 1) hx hb hX hbl hbA hS hl hn hL ⟨rfl, by decide⟩ dL_law_240 dL_law_241 dL_law_242 dL_law_243 dL_law_244 ?_
  refine lk_arg (jn := 2) hx hb hX hbl hbA hS hl hn hL ⟨rfl, by decide⟩ dL_law_245 dL_law_246 dL_law_247 dL_law_248 dL_law_249 ?_
  refine lk_call (k := 0) (rest := [.int (tg_I r)]) (tas := [ti_ (xs (n + 1)).toInt, ti_ (xs (n + 2)).toInt]) hx hb hml hown hts hK hN hD8 hA h87 hm8 hP8 hP7 hS (k_X8_path _ _ ν) f8 (by simp [tg_vok, tg_i32_in]) ml_L_31 im_X8_path se_X8_path in_X8 co_X8_path hy_X8_path ⟨Nat.le_of_ble_eq_true rfl, Nat.le_of_ble_eq_true rfl⟩ lm_0 rfl (by simp [tg_cv, tg_I_toInt]; rfl) hl.1 (Nat.le_of_ble_eq_true rfl) dL_law_250 hcs (fun h8 hm81 H locs hP8 hP7 hS => ?_)
  refine lv_icmp_eq (tgt := 1048) hx hb dL_law_253 (by decide) (fun _ => ?_) (fun c9 => absurd rfl c9)
  exact kk μ1 ν1 H locs hR1 hm71 hm81 hP7 hP8 hS
set_option maxRecDepth 100000 in
set_option maxHeartbeats 4000000 in
theorem lc_4 (cx : lk_Cx p s m c b L xs D G a7 a8) (hR : R_all μ ν) (hm7 : tg_mok LX μ) (hm8 : tg_mok LM ν) (hP7 : va_P D vwCl (tg_W G a7 LX μ) H) (hP8 : va_P D vwCl (tg_W G a8 LM ν) H) (hS : va_S (fun q : Nat => s.heap.size ≤ q) s.heap H locs) (hl : lv_has ls 4 [(3, .int (tg_I (n : Int))), (2, .ref (a8 0)), (1, .ref (a7 0)), (0, .ref b)]) (hn : n + 6 ≤ L) (hcs : cells ≤ room_1.cells ∧ slots ≤ room_1.slots)
    (kk : ∀ (μ1 ν1 : tg_Mem) (H1 : Heap) (locs1 : List Loc), R_all μ1 ν1 → tg_mok LX μ1 → tg_mok LM ν1 → va_P D vwCl (tg_W G a7 LX μ1) H1 → va_P D vwCl (tg_W G a8 LM ν1) H1 → va_S (fun q : Nat => s.heap.size ≤ q) s.heap H1 locs1 → W p l e room_1 s m #[Value.ref b] below meth c H1 locs1 cells slots Q (F0 m 1048 ls [])) : W p l e room_1 s m #[Value.ref b] below meth c H locs cells slots Q (F0 m 258 ls []) := by
  obtain ⟨hx, hb, hml, hown, hts, hK, hN, hDD, hX, hbl, hL⟩ := id cx
  have hA : ∀ q : Nat, s.heap.size ≤ q → (fun q : Nat => s.heap.size ≤ q) q := fun _ h => h
  have hbA : ¬ (fun q : Nat => s.heap.size ≤ q) b := Nat.not_le.mpr hbl
  have hD7 : ∀ μ, va_D (fun q : Nat => s.heap.size ≤ q) (tg_W G a7 LX μ) := fun μ => tk_D_left (hDD μ (fun _ _ => 0))
  have hD8 : ∀ ν, va_D (fun q : Nat => s.heap.size ≤ q) (tg_W G a8 LM ν) := fun ν => tk_D_right (hDD (fun _ _ => 0) ν)
  obtain ⟨r, μ1, ν1, f7, f8, hR1⟩ := s_start (xs (n + 1)).toInt (xs (n + 2)).toInt μ ν hR
  have h78 := tk_ap (hDD μ ν)
  have h87 : ∀ (i j : Nat) (p q : Nat × va_E), (tg_W G a8 LM ν)[i]? = some p → (tg_W G a7 LX μ1)[j]? = some q → p.1 ≠ q.1 := fun i j p q hi hj e => tk_ap (hDD μ1 ν) j i q p hj hi e.symm
  refine lv_aload_n hx hb dL_law_258 rfl (lv_at hl 2 rfl) ?_
  refine lk_arg (jn := 1) hx hb hX hbl hbA hS hl hn hL ⟨rfl, by decide⟩ dL_law_259 dL_law_260 dL_law_261 dL_law_262 dL_law_263 ?_
  refine lk_arg (jn := 2) hx hb hX hbl hbA hS hl hn hL ⟨rfl, by decide⟩ dL_law_264 dL_law_265 dL_law_266 dL_law_267 dL_law_268 ?_
  refine lk_call (k := 0) (rest := []) (tas := [ti_ (xs (n + 1)).toInt, ti_ (xs (n + 2)).toInt]) hx hb hml hown hts hK hN hD7 hA h78 hm7 hP7 hP8 hS (k_X7_start _ _ μ) f7 (by simp [tg_vok, tg_i32_in]) ml_L_32 im_X7_start se_X7_start in_X7 co_X7_start hy_X7_start ⟨Nat.le_of_ble_eq_true rfl, Nat.le_of_ble_eq_true rfl⟩ lx_0 rfl (by simp [tg_cv, tg_I_toInt]) hl.1 (Nat.le_of_ble_eq_true rfl) dL_law_269 hcs (fun h7 hm71 H locs hP7 hP8 hS => ?_)
  refine lv_aload_n hx hb dL_law_272 rfl (lv_at hl 1 rfl) ?_
  refine lk_arg (jn := 1) hx hb hX hbl hbA hS hl hn hL ⟨rfl, by decide⟩ dL_law_273 dL_law_274 dL_law_275 dL_law_276 dL_law_277 ?_
  refine lk_arg (jn := 2) hx hb hX hbl hbA hS hl hn hL ⟨rfl, by decide⟩ dL_law_278 dL_law_279 dL_law_280 dL_law_281 dL_law_282 ?_
  refine lk_call (k := 0) (rest := [.int (tg_I r)]) (tas := [ti_ (xs (n + 1)).toInt, ti_ (xs (n + 2)).toInt]) hx hb hml hown hts hK hN hD8 hA h87 hm8 hP8 hP7 hS (k_X8_start _ _ ν) f8 (by simp [tg_vok, tg_i32_in]) ml_L_35 im_X8_start se_X8_start in_X8 co_X8_start hy_X8_start ⟨Nat.le_of_ble_eq_true rfl, Nat.le_of_ble_eq_true rfl⟩ lm_0 rfl (by simp [tg_cv, tg_I_toInt]; rfl) hl.1 (Nat.le_of_ble_eq_true rfl) dL_law_283 hcs (fun h8 hm81 H locs hP8 hP7 hS => ?_)
  refine lv_icmp_eq (tgt := 1048) hx hb dL_law_286 (by decide) (fun _ => ?_) (fun c9 => absurd rfl c9)
  exact kk μ1 ν1 H locs hR1 hm71 hm81 hP7 hP8 hS
set_option maxRecDepth 100000 in
set_option maxHeartbeats 4000000 in
theorem lc_5 (cx : lk_Cx p s m c b L xs D G a7 a8) (hR : R_all μ ν) (hm7 : tg_mok LX μ) (hm8 : tg_mok LM ν) (hP7 : va_P D vwCl (tg_W G a7 LX μ) H) (hP8 : va_P D vwCl (tg_W G a8 LM ν) H) (hS : va_S (fun q : Nat => s.heap.size ≤ q) s.heap H locs) (hl : lv_has ls 4 [(3, .int (tg_I (n : Int))), (2, .ref (a8 0)), (1, .ref (a7 0)), (0, .ref b)]) (hn : n + 6 ≤ L) (hcs : cells ≤ room_1.cells ∧ slots ≤ room_1.slots)
    (kk : ∀ (μ1 ν1 : tg_Mem) (H1 : Heap) (locs1 : List Loc), R_all μ1 ν1 → tg_mok LX μ1 → tg_mok LM ν1 → va_P D vwCl (tg_W G a7 LX μ1) H1 → va_P D vwCl (tg_W G a8 LM ν1) H1 → va_S (fun q : Nat => s.heap.size ≤ q) s.heap H1 locs1 → W p l e room_1 s m #[Value.ref b] below meth c H1 locs1 cells slots Q (F0 m 1048 ls [])) : W p l e room_1 s m #[Value.ref b] below meth c H locs cells slots Q (F0 m 291 ls []) := by
  obtain ⟨hx, hb, hml, hown, hts, hK, hN, hDD, hX, hbl, hL⟩ := id cx
  have hA : ∀ q : Nat, s.heap.size ≤ q → (fun q : Nat => s.heap.size ≤ q) q := fun _ h => h
  have hbA : ¬ (fun q : Nat => s.heap.size ≤ q) b := Nat.not_le.mpr hbl
  have hD7 : ∀ μ, va_D (fun q : Nat => s.heap.size ≤ q) (tg_W G a7 LX μ) := fun μ => tk_D_left (hDD μ (fun _ _ => 0))
  have hD8 : ∀ ν, va_D (fun q : Nat => s.heap.size ≤ q) (tg_W G a8 LM ν) := fun ν => tk_D_right (hDD (fun _ _ => 0) ν)
  obtain ⟨r, μ1, ν1, f7, f8, hR1⟩ := s_set (xs (n + 1)).toInt (xs (n + 2)).toInt μ ν hR
  have h78 := tk_ap (hDD μ ν)
  have h87 : ∀ (i j : Nat) (p q : Nat × va_E), (tg_W G a8 LM ν)[i]? = some p → (tg_W G a7 LX μ1)[j]? = some q → p.1 ≠ q.1 := fun i j p q hi hj e => tk_ap (hDD μ1 ν) j i q p hj hi e.symm
  refine lv_aload_n hx hb dL_law_291 rfl (lv_at hl 2 rfl) ?_
  refine lk_arg (jn := 1) hx hb hX hbl hbA hS hl hn hL ⟨rfl, by decide⟩ dL_law_292 dL_law_293 dL_law_294 dL_law_295 dL_law_296 ?_
  refine lk_arg (jn := 2) hx hb hX hbl hbA hS hl hn hL ⟨rfl, by decide⟩ dL_law_297 dL_law_298 dL_law_299 dL_law_300 dL_law_301 ?_
  refine lk_call (k := 0) (rest := []) (tas := [ti_ (xs (n + 1)).toInt, ti_ (xs (n + 2)).toInt]) hx hb hml hown hts hK hN hD7 hA h78 hm7 hP7 hP8 hS (k_X7_set _ _ μ) f7 (by simp [tg_vok, tg_i32_in]) ml_L_36 im_X7_set se_X7_set in_X7 co_X7_set hy_X7_set ⟨Nat.le_of_ble_eq_true rfl, Nat.le_of_ble_eq_true rfl⟩ lx_0 rfl (by simp [tg_cv, tg_I_toInt]) hl.1 (Nat.le_of_ble_eq_true rfl) dL_law_302 hcs (fun h7 hm71 H locs hP7 hP8 hS => ?_)
  refine lv_aload_n hx hb dL_law_305 rfl (lv_at hl 1 rfl) ?_
  refine lk_arg (jn := 1) hx hb hX hbl hbA hS hl hn hL ⟨rfl, by decide⟩ dL_law_306 dL_law_307 dL_law_308 dL_law_309 dL_law_310 ?_
  refine lk_arg (jn := 2) hx hb hX hbl hbA hS hl hn hL ⟨rfl, by decide⟩ dL_law_311 dL_law_312 dL_law_313 dL_law_314 dL_law_315 ?_
  refine lk_call (k := 0) (rest := [.int (tg_I r)]) (tas := [ti_ (xs (n + 1)).toInt, ti_ (xs (n + 2)).toInt]) hx hb hml hown hts hK hN hD8 hA h87 hm8 hP8 hP7 hS (k_X8_set _ _ ν) f8 (by simp [tg_vok, tg_i32_in]) ml_L_39 im_X8_set se_X8_set in_X8 co_X8_set hy_X8_set ⟨Nat.le_of_ble_eq_true rfl, Nat.le_of_ble_eq_true rfl⟩ lm_0 rfl (by simp [tg_cv, tg_I_toInt]; rfl) hl.1 (Nat.le_of_ble_eq_true rfl) dL_law_316 hcs (fun h8 hm81 H locs hP8 hP7 hS => ?_)
  refine lv_icmp_eq (tgt := 1048) hx hb dL_law_319 (by decide) (fun _ => ?_) (fun c9 => absurd rfl c9)
  exact kk μ1 ν1 H locs hR1 hm71 hm81 hP7 hP8 hS
set_option maxRecDepth 100000 in
set_option maxHeartbeats 4000000 in
theorem lc_6 (cx : lk_Cx p s m c b L xs D G a7 a8) (hR : R_all μ ν) (hm7 : tg_mok LX μ) (hm8 : tg_mok LM ν) (hP7 : va_P D vwCl (tg_W G a7 LX μ) H) (hP8 : va_P D vwCl (tg_W G a8 LM ν) H) (hS : va_S (fun q : Nat => s.heap.size ≤ q) s.heap H locs) (hl : lv_has ls 4 [(3, .int (tg_I (n : Int))), (2, .ref (a8 0)), (1, .ref (a7 0)), (0, .ref b)]) (hn : n + 6 ≤ L) (hcs : cells ≤ room_1.cells ∧ slots ≤ room_1.slots)
    (kk : ∀ (μ1 ν1 : tg_Mem) (H1 : Heap) (locs1 : List Loc), R_all μ1 ν1 → tg_mok LX μ1 → tg_mok LM ν1 → va_P D vwCl (tg_W G a7 LX μ1) H1 → va_P D vwCl (tg_W G a8 LM ν1) H1 → va_S (fun q : Nat => s.heap.size ≤ q) s.heap H1 locs1 → W p l e room_1 s m #[Value.ref b] below meth c H1 locs1 cells slots Q (F0 m 1048 ls [])) : W p l e room_1 s m #[Value.ref b] below meth c H locs cells slots Q (F0 m 324 ls []) := by
  obtain ⟨hx, hb, hml, hown, hts, hK, hN, hDD, hX, hbl, hL⟩ := id cx
  have hA : ∀ q : Nat, s.heap.size ≤ q → (fun q : Nat => s.heap.size ≤ q) q := fun _ h => h
  have hbA : ¬ (fun q : Nat => s.heap.size ≤ q) b := Nat.not_le.mpr hbl
  have hD7 : ∀ μ, va_D (fun q : Nat => s.heap.size ≤ q) (tg_W G a7 LX μ) := fun μ => tk_D_left (hDD μ (fun _ _ => 0))
  have hD8 : ∀ ν, va_D (fun q : Nat => s.heap.size ≤ q) (tg_W G a8 LM ν) := fun ν => tk_D_right (hDD (fun _ _ => 0) ν)
  obtain ⟨r, μ1, ν1, f7, f8, hR1⟩ := s_thistle (xs (n + 1)).toInt (xs (n + 2)).toInt μ ν hR
  have h78 := tk_ap (hDD μ ν)
  have h87 : ∀ (i j : Nat) (p q : Nat × va_E), (tg_W G a8 LM ν)[i]? = some p → (tg_W G a7 LX μ1)[j]? = some q → p.1 ≠ q.1 := fun i j p q hi hj e => tk_ap (hDD μ1 ν) j i q p hj hi e.symm
  refine lv_aload_n hx hb dL_law_324 rfl (lv_at hl 2 rfl) ?_
  refine lk_arg (jn := 1) hx hb hX hbl hbA hS hl hn hL ⟨rfl, by decide⟩ dL_law_325 dL_law_326 dL_law_327 dL_law_328 dL_law_329 ?_
  refine lk_arg (jn := 2) hx hb hX hbl hbA hS hl hn hL ⟨rfl, by decide⟩ dL_law_330 dL_law_331 dL_law_332 dL_law_333 dL_law_334 ?_
  refine lk_call (k := 0) (rest := []) (tas := [ti_ (xs (n + 1)).toInt, ti_ (xs (n + 2)).toInt]) hx hb hml hown hts hK hN hD7 hA h78 hm7 hP7 hP8 hS (k_X7_thistle _ _ μ) f7 (by simp [tg_vok, tg_i32_in]) ml_L_40 im_X7_thistle se_X7_thistle in_X7 co_X7_thistle hy_X7_thistle ⟨Nat.le_of_ble_eq_true rfl, Nat.le_of_ble_eq_true rfl⟩ lx_0 rfl (by simp [tg_cv, tg_I_toInt]) hl.1 (Nat.le_of_ble_eq_true rfl) dL_law_335 hcs (fun h7 hm71 H locs hP7 hP8 hS => ?_)
  refine lv_aload_n hx hb dL_law_338 rfl (lv_at hl 1 rfl) ?_
  refine lk_arg (jn := 1) hx hb hX hbl hbA hS hl hn hL ⟨rfl, by decide⟩ dL_law_339 dL_law_340 dL_law_341 dL_law_342 dL_law_343 ?_
  refine lk_arg (jn := 2) hx hb hX hbl hbA hS hl hn hL ⟨rfl, by decide⟩ dL_law_344 dL_law_345 dL_law_346 dL_law_347 dL_law_348 ?_
  refine lk_call (k := 0) (rest := [.int (tg_I r)]) (tas := [ti_ (xs (n + 1)).toInt, ti_ (xs (n + 2)).toInt]) hx hb hml hown hts hK hN hD8 hA h87 hm8 hP8 hP7 hS (k_X8_thistle _ _ ν) f8 (by simp [tg_vok, tg_i32_in]) ml_L_43 im_X8_thistle se_X8_thistle in_X8 co_X8_thistle hy_X8_thistle ⟨Nat.le_of_ble_eq_true rfl, Nat.le_of_ble_eq_true rfl⟩ lm_0 rfl (by simp [tg_cv, tg_I_toInt]; rfl) hl.1 (Nat.le_of_ble_eq_true rfl) dL_law_349 hcs (fun h8 hm81 H locs hP8 hP7 hS => ?_)
  refine lv_icmp_eq (tgt := 1048) hx hb dL_law_352 (by decide) (fun _ => ?_) (fun c9 => absurd rfl c9)
  exact kk μ1 ν1 H locs hR1 hm71 hm81 hP7 hP8 hS
set_option maxRecDepth 100000 in
set_option maxHeartbeats 4000000 in
theorem lc_7 (cx : lk_Cx p s m c b L xs D G a7 a8) (hR : R_all μ ν) (hm7 : tg_mok LX μ) (hm8 : tg_mok LM ν) (hP7 : va_P D vwCl (tg_W G a7 LX μ) H) (hP8 : va_P D vwCl (tg_W G a8 LM ν) H) (hS : va_S (fun q : Nat => s.heap.size ≤ q) s.heap H locs) (hl : lv_has ls 4 [(3, .int (tg_I (n : Int))), (2, .ref (a8 0)), (1, .ref (a7 0)), (0, .ref b)]) (hn : n + 6 ≤ L) (hcs : cells ≤ room_1.cells ∧ slots ≤ room_1.slots)
    (kk : ∀ (μ1 ν1 : tg_Mem) (H1 : Heap) (locs1 : List Loc), R_all μ1 ν1 → tg_mok LX μ1 → tg_mok LM ν1 → va_P D vwCl (tg_W G a7 LX μ1) H1 → va_P D vwCl (tg_W G a8 LM ν1) H1 → va_S (fun q : Nat => s.heap.size ≤ q) s.heap H1 locs1 → W p l e room_1 s m #[Value.ref b] below meth c H1 locs1 cells slots Q (F0 m 1048 ls [])) : W p l e room_1 s m #[Value.ref b] below meth c H locs cells slots Q (F0 m 357 ls []) := by
  obtain ⟨hx, hb, hml, hown, hts, hK, hN, hDD, hX, hbl, hL⟩ := id cx
  have hA : ∀ q : Nat, s.heap.size ≤ q → (fun q : Nat => s.heap.size ≤ q) q := fun _ h => h
  have hbA : ¬ (fun q : Nat => s.heap.size ≤ q) b := Nat.not_le.mpr hbl
  have hD7 : ∀ μ, va_D (fun q : Nat => s.heap.size ≤ q) (tg_W G a7 LX μ) := fun μ => tk_D_left (hDD μ (fun _ _ => 0))
  have hD8 : ∀ ν, va_D (fun q : Nat => s.heap.size ≤ q) (tg_W G a8 LM ν) := fun ν => tk_D_right (hDD (fun _ _ => 0) ν)
  obtain ⟨r, μ1, ν1, f7, f8, hR1⟩ := s_read (xs (n + 1)).toInt (xs (n + 2)).toInt μ ν hR
  have h78 := tk_ap (hDD μ ν)
  have h87 : ∀ (i j : Nat) (p q : Nat × va_E), (tg_W G a8 LM ν)[i]? = some p → (tg_W G a7 LX μ1)[j]? = some q → p.1 ≠ q.1 := fun i j p q hi hj e => tk_ap (hDD μ1 ν) j i q p hj hi e.symm
  refine lv_aload_n hx hb dL_law_357 rfl (lv_at hl 2 rfl) ?_
  refine lk_arg (jn := 1) hx hb hX hbl hbA hS hl hn hL ⟨rfl, by decide⟩ dL_law_358 dL_law_359 dL_law_360 dL_law_361 dL_law_362 ?_
  refine lk_arg (jn := 2) hx hb hX hbl hbA hS hl hn hL ⟨rfl, by decide⟩ dL_law_363 dL_law_364 dL_law_365 dL_law_366 dL_law_367 ?_
  refine lk_call (k := 0) (rest := []) (tas := [ti_ (xs (n + 1)).toInt, ti_ (xs (n + 2)).toInt]) hx hb hml hown hts hK hN hD7 hA h78 hm7 hP7 hP8 hS (k_X7_read _ _ μ) f7 (by simp [tg_vok, tg_i32_in]) ml_L_44 im_X7_read se_X7_read in_X7 co_X7_read hy_X7_read ⟨Nat.le_of_ble_eq_true rfl, Nat.le_of_ble_eq_true rfl⟩ lx_0 rfl (by simp [tg_cv, tg_I_toInt]) hl.1 (Nat.le_of_ble_eq_true rfl) dL_law_368 hcs (fun h7 hm71 H locs hP7 hP8 hS => ?_)
  refine lv_aload_n hx hb dL_law_371 rfl (lv_at hl 1 rfl) ?_
  refine lk_arg (jn := 1) hx hb hX hbl hbA hS hl hn hL ⟨rfl, by decide⟩ dL_law_372 dL_law_373 dL_law_374 dL_law_375 dL_law_376 ?_
  refine lk_arg (jn := 2) hx hb hX hbl hbA hS hl hn hL ⟨rfl, by decide⟩ dL_law_377 dL_law_378 dL_law_379 dL_law_380 dL_law_381 ?_
  refine lk_call (k := 0) (rest := [.int (tg_I r)]) (tas := [ti_ (xs (n + 1)).toInt, ti_ (xs (n + 2)).toInt]) hx hb hml hown hts hK hN hD8 hA h87 hm8 hP8 hP7 hS (k_X8_read _ _ ν) f8 (by simp [tg_vok, tg_i32_in]) ml_L_47 im_X8_read se_X8_read in_X8 co_X8_read hy_X8_read ⟨Nat.le_of_ble_eq_true rfl, Nat.le_of_ble_eq_true rfl⟩ lm_0 rfl (by simp [tg_cv, tg_I_toInt]; rfl) hl.1 (Nat.le_of_ble_eq_true rfl) dL_law_382 hcs (fun h8 hm81 H locs hP8 hP7 hS => ?_)
  refine lv_icmp_eq (tgt := 1048) hx hb dL_law_385 (by decide) (fun _ => ?_) (fun c9 => absurd rfl c9)
  exact kk μ1 ν1 H locs hR1 hm71 hm81 hP7 hP8 hS
set_option maxRecDepth 100000 in
set_option maxHeartbeats 4000000 in
theorem lc_8 (cx : lk_Cx p s m c b L xs D G a7 a8) (hR : R_all μ ν) (hm7 : tg_mok LX μ) (hm8 : tg_mok LM ν) (hP7 : va_P D vwCl (tg_W G a7 LX μ) H) (hP8 : va_P D vwCl (tg_W G a8 LM ν) H) (hS : va_S (fun q : Nat => s.heap.size ≤ q) s.heap H locs) (hl : lv_has ls 4 [(3, .int (tg_I (n : Int))), (2, .ref (a8 0)), (1, .ref (a7 0)), (0, .ref b)]) (hn : n + 6 ≤ L) (hcs : cells ≤ room_1.cells ∧ slots ≤ room_1.slots)
    (kk : ∀ (μ1 ν1 : tg_Mem) (H1 : Heap) (locs1 : List Loc), R_all μ1 ν1 → tg_mok LX μ1 → tg_mok LM ν1 → va_P D vwCl (tg_W G a7 LX μ1) H1 → va_P D vwCl (tg_W G a8 LM ν1) H1 → va_S (fun q : Nat => s.heap.size ≤ q) s.heap H1 locs1 → W p l e room_1 s m #[Value.ref b] below meth c H1 locs1 cells slots Q (F0 m 1048 ls [])) : W p l e room_1 s m #[Value.ref b] below meth c H locs cells slots Q (F0 m 390 ls []) := by
  obtain ⟨hx, hb, hml, hown, hts, hK, hN, hDD, hX, hbl, hL⟩ := id cx
  have hA : ∀ q : Nat, s.heap.size ≤ q → (fun q : Nat => s.heap.size ≤ q) q := fun _ h => h
  have hbA : ¬ (fun q : Nat => s.heap.size ≤ q) b := Nat.not_le.mpr hbl
  have hD7 : ∀ μ, va_D (fun q : Nat => s.heap.size ≤ q) (tg_W G a7 LX μ) := fun μ => tk_D_left (hDD μ (fun _ _ => 0))
  have hD8 : ∀ ν, va_D (fun q : Nat => s.heap.size ≤ q) (tg_W G a8 LM ν) := fun ν => tk_D_right (hDD (fun _ _ => 0) ν)
  obtain ⟨r, μ1, ν1, f7, f8, hR1⟩ := s_undo (xs (n + 1)).toInt μ ν hR
  have h78 := tk_ap (hDD μ ν)
  have h87 : ∀ (i j : Nat) (p q : Nat × va_E), (tg_W G a8 LM ν)[i]? = some p → (tg_W G a7 LX μ1)[j]? = some q → p.1 ≠ q.1 := fun i j p q hi hj e => tk_ap (hDD μ1 ν) j i q p hj hi e.symm
  refine lv_aload_n hx hb dL_law_390 rfl (lv_at hl 2 rfl) ?_
  refine lk_arg (jn := 1) hx hb hX hbl hbA hS hl hn hL ⟨rfl, by decide⟩ dL_law_391 dL_law_392 dL_law_393 dL_law_394 dL_law_395 ?_
  refine lk_call (k := 0) (rest := []) (tas := [ti_ (xs (n + 1)).toInt]) hx hb hml hown hts hK hN hD7 hA h78 hm7 hP7 hP8 hS (k_X7_undo _ μ) f7 (by simp [tg_vok, tg_i32_in]) ml_L_48 im_X7_undo se_X7_undo in_X7 co_X7_undo hy_X7_undo ⟨Nat.le_of_ble_eq_true rfl, Nat.le_of_ble_eq_true rfl⟩ lx_0 rfl (by simp [tg_cv, tg_I_toInt]) hl.1 (Nat.le_of_ble_eq_true rfl) dL_law_396 hcs (fun h7 hm71 H locs hP7 hP8 hS => ?_)
  refine lv_aload_n hx hb dL_law_399 rfl (lv_at hl 1 rfl) ?_
  refine lk_arg (jn := 1) hx hb hX hbl hbA hS hl hn hL ⟨rfl, by decide⟩ dL_law_400 dL_law_401 dL_law_402 dL_law_403 dL_law_404 ?_
  refine lk_call (k := 0) (rest := [.int (tg_I r)]) (tas := [ti_ (xs (n + 1)).toInt]) hx hb hml hown hts hK hN hD8 hA h87 hm8 hP8 hP7 hS (k_X8_undo _ ν) f8 (by simp [tg_vok, tg_i32_in]) ml_L_51 im_X8_undo se_X8_undo in_X8 co_X8_undo hy_X8_undo ⟨Nat.le_of_ble_eq_true rfl, Nat.le_of_ble_eq_true rfl⟩ lm_0 rfl (by simp [tg_cv, tg_I_toInt]; rfl) hl.1 (Nat.le_of_ble_eq_true rfl) dL_law_405 hcs (fun h8 hm81 H locs hP8 hP7 hS => ?_)
  refine lv_icmp_eq (tgt := 1048) hx hb dL_law_408 (by decide) (fun _ => ?_) (fun c9 => absurd rfl c9)
  exact kk μ1 ν1 H locs hR1 hm71 hm81 hP7 hP8 hS
set_option maxRecDepth 100000 in
set_option maxHeartbeats 4000000 in
theorem lc_9 (cx : lk_Cx p s m c b L xs D G a7 a8) (hR : R_all μ ν) (hm7 : tg_mok LX μ) (hm8 : tg_mok LM ν) (hP7 : va_P D vwCl (tg_W G a7 LX μ) H) (hP8 : va_P D vwCl (tg_W G a8 LM ν) H) (hS : va_S (fun q : Nat => s.heap.size ≤ q) s.heap H locs) (hl : lv_has ls 4 [(3, .int (tg_I (n : Int))), (2, .ref (a8 0)), (1, .ref (a7 0)), (0, .ref b)]) (hn : n + 6 ≤ L) (hcs : cells ≤ room_1.cells ∧ slots ≤ room_1.slots)
    (kk : ∀ (μ1 ν1 : tg_Mem) (H1 : Heap) (locs1 : List Loc), R_all μ1 ν1 → tg_mok LX μ1 → tg_mok LM ν1 → va_P D vwCl (tg_W G a7 LX μ1) H1 → va_P D vwCl (tg_W G a8 LM ν1) H1 → va_S (fun q : Nat => s.heap.size ≤ q) s.heap H1 locs1 → W p l e room_1 s m #[Value.ref b] below meth c H1 locs1 cells slots Q (F0 m 1048 ls [])) : W p l e room_1 s m #[Value.ref b] below meth c H locs cells slots Q (F0 m 413 ls []) := by
  obtain ⟨hx, hb, hml, hown, hts, hK, hN, hDD, hX, hbl, hL⟩ := id cx
  have hA : ∀ q : Nat, s.heap.size ≤ q → (fun q : Nat => s.heap.size ≤ q) q := fun _ h => h
  have hbA : ¬ (fun q : Nat => s.heap.size ≤ q) b := Nat.not_le.mpr hbl
  have hD7 : ∀ μ, va_D (fun q : Nat => s.heap.size ≤ q) (tg_W G a7 LX μ) := fun μ => tk_D_left (hDD μ (fun _ _ => 0))
  have hD8 : ∀ ν, va_D (fun q : Nat => s.heap.size ≤ q) (tg_W G a8 LM ν) := fun ν => tk_D_right (hDD (fun _ _ => 0) ν)
  obtain ⟨r, μ1, ν1, f7, f8, hR1⟩ := s_judged (xs (n + 1)).toInt μ ν hR
  have h78 := tk_ap (hDD μ ν)
  have h87 : ∀ (i j : Nat) (p q : Nat × va_E), (tg_W G a8 LM ν)[i]? = some p → (tg_W G a7 LX μ1)[j]? = some q → p.1 ≠ q.1 := fun i j p q hi hj e => tk_ap (hDD μ1 ν) j i q p hj hi e.symm
  refine lv_aload_n hx hb dL_law_413 rfl (lv_at hl 2 rfl) ?_
  refine lk_arg (jn := 1) hx hb hX hbl hbA hS hl hn hL ⟨rfl, by decide⟩ dL_law_414 dL_law_415 dL_law_416 dL_law_417 dL_law_418 ?_
  refine lk_call (k := 0) (rest := []) (tas := [ti_ (xs (n + 1)).toInt]) hx hb hml hown hts hK hN hD7 hA h78 hm7 hP7 hP8 hS (k_X7_judged _ μ) f7 (by simp [tg_vok, tg_i32_in]) ml_L_52 im_X7_judged se_X7_judged in_X7 co_X7_judged hy_X7_judged ⟨Nat.le_of_ble_eq_true rfl, Nat.le_of_ble_eq_true rfl⟩ lx_0 rfl (by simp [tg_cv, tg_I_toInt]) hl.1 (Nat.le_of_ble_eq_true rfl) dL_law_419 hcs (fun h7 hm71 H locs hP7 hP8 hS => ?_)
  refine lv_aload_n hx hb dL_law_422 rfl (lv_at hl 1 rfl) ?_
  refine lk_arg (jn := 1) hx hb hX hbl hbA hS hl hn hL ⟨rfl, by decide⟩ dL_law_423 dL_law_424 dL_law_425 dL_law_426 dL_law_427 ?_
  refine lk_call (k := 0) (rest := [.int (tg_I r)]) (tas := [ti_ (xs (n + 1)).toInt]) hx hb hml hown hts hK hN hD8 hA h87 hm8 hP8 hP7 hS (k_X8_judged _ ν) f8 (by simp [tg_vok, tg_i32_in]) ml_L_55 im_X8_judged se_X8_judged in_X8 co_X8_judged hy_X8_judged ⟨Nat.le_of_ble_eq_true rfl, Nat.le_of_ble_eq_true rfl⟩ lm_0 rfl (by simp [tg_cv, tg_I_toInt]; rfl) hl.1 (Nat.le_of_ble_eq_true rfl) dL_law_428 hcs (fun h8 hm81 H locs hP8 hP7 hS => ?_)
  refine lv_icmp_eq (tgt := 1048) hx hb dL_law_431 (by decide) (fun _ => ?_) (fun c9 => absurd rfl c9)
  exact kk μ1 ν1 H locs hR1 hm71 hm81 hP7 hP8 hS
set_option maxRecDepth 100000 in
set_option maxHeartbeats 4000000 in
theorem lc_10 (cx : lk_Cx p s m c b L xs D G a7 a8) (hR : R_all μ ν) (hm7 : tg_mok LX μ) (hm8 : tg_mok LM ν) (hP7 : va_P D vwCl (tg_W G a7 LX μ) H) (hP8 : va_P D vwCl (tg_W G a8 LM ν) H) (hS : va_S (fun q : Nat => s.heap.size ≤ q) s.heap H locs) (hl : lv_has ls 4 [(3, .int (tg_I (n : Int))), (2, .ref (a8 0)), (1, .ref (a7 0)), (0, .ref b)]) (hn : n + 6 ≤ L) (hcs : cells ≤ room_1.cells ∧ slots ≤ room_1.slots)
    (kk : ∀ (μ1 ν1 : tg_Mem) (H1 : Heap) (locs1 : List Loc), R_all μ1 ν1 → tg_mok LX μ1 → tg_mok LM ν1 → va_P D vwCl (tg_W G a7 LX μ1) H1 → va_P D vwCl (tg_W G a8 LM ν1) H1 → va_S (fun q : Nat => s.heap.size ≤ q) s.heap H1 locs1 → W p l e room_1 s m #[Value.ref b] below meth c H1 locs1 cells slots Q (F0 m 1048 ls [])) : W p l e room_1 s m #[Value.ref b] below meth c H locs cells slots Q (F0 m 436 ls []) := by
  obtain ⟨hx, hb, hml, hown, hts, hK, hN, hDD, hX, hbl, hL⟩ := id cx
  have hA : ∀ q : Nat, s.heap.size ≤ q → (fun q : Nat => s.heap.size ≤ q) q := fun _ h => h
  have hbA : ¬ (fun q : Nat => s.heap.size ≤ q) b := Nat.not_le.mpr hbl
  have hD7 : ∀ μ, va_D (fun q : Nat => s.heap.size ≤ q) (tg_W G a7 LX μ) := fun μ => tk_D_left (hDD μ (fun _ _ => 0))
  have hD8 : ∀ ν, va_D (fun q : Nat => s.heap.size ≤ q) (tg_W G a8 LM ν) := fun ν => tk_D_right (hDD (fun _ _ => 0) ν)
  obtain ⟨r, μ1, ν1, f7, f8, hR1⟩ := s_state (xs (n + 1)).toInt (xs (n + 2)).toInt (xs (n + 3)).toInt μ ν hR
  have h78 := tk_ap (hDD μ ν)
  have h87 : ∀ (i j : Nat) (p q : Nat × va_E), (tg_W G a8 LM ν)[i]? = some p → (tg_W G a7 LX μ1)[j]? = some q → p.1 ≠ q.1 := fun i j p q hi hj e => tk_ap (hDD μ1 ν) j i q p hj hi e.symm
  refine lv_aload_n hx hb dL_law_436 rfl (lv_at hl 2 rfl) ?_
  refine lk_arg (jn := 1) hx hb hX hbl hbA hS hl hn hL ⟨rfl, by decide⟩ dL_law_437 dL_law_438 dL_law_439 dL_law_440 dL_law_441 ?_
  refine lk_arg (jn := 2) hx hb hX hbl hbA hS hl hn hL ⟨rfl, by decide⟩ dL_law_442 dL_law_443 dL_law_444 dL_law_445 dL_law_446 ?_
  refine lk_arg (jn := 3) hx hb hX hbl hbA hS hl hn hL ⟨rfl, by decide⟩ dL_law_447 dL_law_448 dL_law_449 dL_law_450 dL_law_451 ?_
  refine lk_call (k := 0) (rest := []) (tas := [ti_ (xs (n + 1)).toInt, ti_ (xs (n + 2)).toInt, ti_ (xs (n + 3)).toInt]) hx hb hml hown hts hK hN hD7 hA h78 hm7 hP7 hP8 hS (k_X7_state _ _ _ μ) f7 (by simp [tg_vok, tg_i32_in]) ml_L_56 im_X7_state se_X7_state in_X7 co_X7_state hy_X7_state ⟨Nat.le_of_ble_eq_true rfl, Nat.le_of_ble_eq_true rfl⟩ lx_0 rfl (by simp [tg_cv, tg_I_toInt]) hl.1 (Nat.le_of_ble_eq_true rfl) dL_law_452 hcs (fun h7 hm71 H locs hP7 hP8 hS => ?_)
  refine lv_aload_n hx hb dL_law_455 rfl (lv_at hl 1 rfl) ?_
  refine lk_arg (jn := 1) hx hb hX hbl hbA hS hl hn hL ⟨rfl, by decide⟩ dL_law_456 dL_law_457 dL_law_458 dL_law_459 dL_law_460 ?_
  refine lk_arg (jn := 2) hx hb hX hbl hbA hS hl hn hL ⟨rfl, by decide⟩ dL_law_461 dL_law_462 dL_law_463 dL_law_464 dL_law_465 ?_
  refine lk_arg (jn := 3) hx hb hX hbl hbA hS hl hn hL ⟨rfl, by decide⟩ dL_law_466 dL_law_467 dL_law_468 dL_law_469 dL_law_470 ?_
  refine lk_call (k := 0) (rest := [.int (tg_I r)]) (tas := [ti_ (xs (n + 1)).toInt, ti_ (xs (n + 2)).toInt, ti_ (xs (n + 3)).toInt]) hx hb hml hown hts hK hN hD8 hA h87 hm8 hP8 hP7 hS (k_X8_state _ _ _ ν) f8 (by simp [tg_vok, tg_i32_in]) ml_L_60 im_X8_state se_X8_state in_X8 co_X8_state hy_X8_state ⟨Nat.le_of_ble_eq_true rfl, Nat.le_of_ble_eq_true rfl⟩ lm_0 rfl (by simp [tg_cv, tg_I_toInt]; rfl) hl.1 (Nat.le_of_ble_eq_true rfl) dL_law_471 hcs (fun h8 hm81 H locs hP8 hP7 hS => ?_)
  refine lv_icmp_eq (tgt := 1048) hx hb dL_law_474 (by decide) (fun _ => ?_) (fun c9 => absurd rfl c9)
  exact kk μ1 ν1 H locs hR1 hm71 hm81 hP7 hP8 hS
set_option maxRecDepth 100000 in
set_option maxHeartbeats 4000000 in
theorem lc_11 (cx : lk_Cx p s m c b L xs D G a7 a8) (hR : R_all μ ν) (hm7 : tg_mok LX μ) (hm8 : tg_mok LM ν) (hP7 : va_P D vwCl (tg_W G a7 LX μ) H) (hP8 : va_P D vwCl (tg_W G a8 LM ν) H) (hS : va_S (fun q : Nat => s.heap.size ≤ q) s.heap H locs) (hl : lv_has ls 4 [(3, .int (tg_I (n : Int))), (2, .ref (a8 0)), (1, .ref (a7 0)), (0, .ref b)]) (hn : n + 6 ≤ L) (hcs : cells ≤ room_1.cells ∧ slots ≤ room_1.slots)
    (kk : ∀ (μ1 ν1 : tg_Mem) (H1 : Heap) (locs1 : List Loc), R_all μ1 ν1 → tg_mok LX μ1 → tg_mok LM ν1 → va_P D vwCl (tg_W G a7 LX μ1) H1 → va_P D vwCl (tg_W G a8 LM ν1) H1 → va_S (fun q : Nat => s.heap.size ≤ q) s.heap H1 locs1 → W p l e room_1 s m #[Value.ref b] below meth c H1 locs1 cells slots Q (F0 m 1048 ls [])) : W p l e room_1 s m #[Value.ref b] below meth c H locs cells slots Q (F0 m 479 ls []) := by
  obtain ⟨hx, hb, hml, hown, hts, hK, hN, hDD, hX, hbl, hL⟩ := id cx
  have hA : ∀ q : Nat, s.heap.size ≤ q → (fun q : Nat => s.heap.size ≤ q) q := fun _ h => h
  have hbA : ¬ (fun q : Nat => s.heap.size ≤ q) b := Nat.not_le.mpr hbl
  have hD7 : ∀ μ, va_D (fun q : Nat => s.heap.size ≤ q) (tg_W G a7 LX μ) := fun μ => tk_D_left (hDD μ (fun _ _ => 0))
  have hD8 : ∀ ν, va_D (fun q : Nat => s.heap.size ≤ q) (tg_W G a8 LM ν) := fun ν => tk_D_right (hDD (fun _ _ => 0) ν)
  obtain ⟨r, μ1, ν1, f7, f8, hR1⟩ := s_rope (xs (n + 1)).toInt (xs (n + 2)).toInt (xs (n + 3)).toInt μ ν hR
  have h78 := tk_ap (hDD μ ν)
  have h87 : ∀ (i j : Nat) (p q : Nat × va_E), (tg_W G a8 LM ν)[i]? = some p → (tg_W G a7 LX μ1)[j]? = some q → p.1 ≠ q.1 := fun i j p q hi hj e => tk_ap (hDD μ1 ν) j i q p hj hi e.symm
  refine lv_aload_n hx hb dL_law_479 rfl (lv_at hl 2 rfl) ?_
  refine lk_arg (jn := 1) hx hb hX hbl hbA hS hl hn hL ⟨rfl, by decide⟩ dL_law_480 dL_law_481 dL_law_482 dL_law_483 dL_law_484 ?_
  refine lk_arg (jn := 2) hx hb hX hbl hbA hS hl hn hL ⟨rfl, by decide⟩ dL_law_485 dL_law_486 dL_law_487 dL_law_488 dL_law_489 ?_
  refine lk_arg (jn := 3) hx hb hX hbl hbA hS hl hn hL ⟨rfl, by decide⟩ dL_law_490 dL_law_491 dL_law_492 dL_law_493 dL_law_494 ?_
  refine lk_call (k := 0) (rest := []) (tas := [ti_ (xs (n + 1)).toInt, ti_ (xs (n + 2)).toInt, ti_ (xs (n + 3)).toInt]) hx hb hml hown hts hK hN hD7 hA h78 hm7 hP7 hP8 hS (k_X7_rope _ _ _ μ) f7 (by simp [tg_vok, tg_i32_in]) ml_L_61 im_X7_rope se_X7_rope in_X7 co_X7_rope hy_X7_rope ⟨Nat.le_of_ble_eq_true rfl, Nat.le_of_ble_eq_true rfl⟩ lx_0 rfl (by simp [tg_cv, tg_I_toInt]) hl.1 (Nat.le_of_ble_eq_true rfl) dL_law_495 hcs (fun h7 hm71 H locs hP7 hP8 hS => ?_)
  refine lv_aload_n hx hb dL_law_498 rfl (lv_at hl 1 rfl) ?_
  refine lk_arg (jn := 1) hx hb hX hbl hbA hS hl hn hL ⟨rfl, by decide⟩ dL_law_499 dL_law_500 dL_law_501 dL_law_502 dL_law_503 ?_
  refine lk_arg (jn := 2) hx hb hX hbl hbA hS hl hn hL ⟨rfl, by decide⟩ dL_law_504 dL_law_505 dL_law_506 dL_law_507 dL_law_508 ?_
  refine lk_arg (jn := 3) hx hb hX hbl hbA hS hl hn hL ⟨rfl, by decide⟩ dL_law_509 dL_law_510 dL_law_511 dL_law_512 dL_law_513 ?_
  refine lk_call (k := 0) (rest := [.int (tg_I r)]) (tas := [ti_ (xs (n + 1)).toInt, ti_ (xs (n + 2)).toInt, ti_ (xs (n + 3)).toInt]) hx hb hml hown hts hK hN hD8 hA h87 hm8 hP8 hP7 hS (k_X8_rope _ _ _ ν) f8 (by simp [tg_vok, tg_i32_in]) ml_L_64 im_X8_rope se_X8_rope in_X8 co_X8_rope hy_X8_rope ⟨Nat.le_of_ble_eq_true rfl, Nat.le_of_ble_eq_true rfl⟩ lm_0 rfl (by simp [tg_cv, tg_I_toInt]; rfl) hl.1 (Nat.le_of_ble_eq_true rfl) dL_law_514 hcs (fun h8 hm81 H locs hP8 hP7 hS => ?_)
  refine lv_icmp_eq (tgt := 1048) hx hb dL_law_517 (by decide) (fun _ => ?_) (fun c9 => absurd rfl c9)
  exact kk μ1 ν1 H locs hR1 hm71 hm81 hP7 hP8 hS
set_option maxRecDepth 100000 in
set_option maxHeartbeats 4000000 in
theorem lc_12 (cx : lk_Cx p s m c b L xs D G a7 a8) (hR : R_all μ ν) (hm7 : tg_mok LX μ) (hm8 : tg_mok LM ν) (hP7 : va_P D vwCl (tg_W G a7 LX μ) H) (hP8 : va_P D vwCl (tg_W G a8 LM ν) H) (hS : va_S (fun q : Nat => s.heap.size ≤ q) s.heap H locs) (hl : lv_has ls 4 [(3, .int (tg_I (n : Int))), (2, .ref (a8 0)), (1, .ref (a7 0)), (0, .ref b)]) (hn : n + 6 ≤ L) (hcs : cells ≤ room_1.cells ∧ slots ≤ room_1.slots)
    (kk : ∀ (μ1 ν1 : tg_Mem) (H1 : Heap) (locs1 : List Loc), R_all μ1 ν1 → tg_mok LX μ1 → tg_mok LM ν1 → va_P D vwCl (tg_W G a7 LX μ1) H1 → va_P D vwCl (tg_W G a8 LM ν1) H1 → va_S (fun q : Nat => s.heap.size ≤ q) s.heap H1 locs1 → W p l e room_1 s m #[Value.ref b] below meth c H1 locs1 cells slots Q (F0 m 1048 ls [])) : W p l e room_1 s m #[Value.ref b] below meth c H locs cells slots Q (F0 m 522 ls []) := by
  obtain ⟨hx, hb, hml, hown, hts, hK, hN, hDD, hX, hbl, hL⟩ := id cx
  have hA : ∀ q : Nat, s.heap.size ≤ q → (fun q : Nat => s.heap.size ≤ q) q := fun _ h => h
  have hbA : ¬ (fun q : Nat => s.heap.size ≤ q) b := Nat.not_le.mpr hbl
  have hD7 : ∀ μ, va_D (fun q : Nat => s.heap.size ≤ q) (tg_W G a7 LX μ) := fun μ => tk_D_left (hDD μ (fun _ _ => 0))
  have hD8 : ∀ ν, va_D (fun q : Nat => s.heap.size ≤ q) (tg_W G a8 LM ν) := fun ν => tk_D_right (hDD (fun _ _ => 0) ν)
  obtain ⟨r, μ1, ν1, f7, f8, hR1⟩ := s_needs (xs (n + 1)).toInt μ ν hR
  have h78 := tk_ap (hDD μ ν)
  have h87 : ∀ (i j : Nat) (p q : Nat × va_E), (tg_W G a8 LM ν)[i]? = some p → (tg_W G a7 LX μ1)[j]? = some q → p.1 ≠ q.1 := fun i j p q hi hj e => tk_ap (hDD μ1 ν) j i q p hj hi e.symm
  refine lv_aload_n hx hb dL_law_522 rfl (lv_at hl 2 rfl) ?_
  refine lk_arg (jn := 1) hx hb hX hbl hbA hS hl hn hL ⟨rfl, by decide⟩ dL_law_523 dL_law_524 dL_law_525 dL_law_526 dL_law_527 ?_
  refine lk_call (k := 0) (rest := []) (tas := [ti_ (xs (n + 1)).toInt]) hx hb hml hown hts hK hN hD7 hA h78 hm7 hP7 hP8 hS (k_X7_needs _ μ) f7 (by simp [tg_vok, tg_i32_in]) ml_L_65 im_X7_needs se_X7_needs in_X7 co_X7_needs hy_X7_needs ⟨Nat.le_of_ble_eq_true rfl, Nat.le_of_ble_eq_true rfl⟩ lx_0 rfl (by simp [tg_cv, tg_I_toInt]) hl.1 (Nat.le_of_ble_eq_true rfl) dL_law_528 hcs (fun h7 hm71 H locs hP7 hP8 hS => ?_)
  refine lv_aload_n hx hb dL_law_531 rfl (lv_at hl 1 rfl) ?_
  refine lk_arg (jn := 1) hx hb hX hbl hbA hS hl hn hL ⟨rfl, by decide⟩ dL_law_532 dL_law_533 dL_law_534 dL_law_535 dL_law_536 ?_
  refine lk_call (k := 0) (rest := [.int (tg_I r)]) (tas := [ti_ (xs (n + 1)).toInt]) hx hb hml hown hts hK hN hD8 hA h87 hm8 hP8 hP7 hS (k_X8_needs _ ν) f8 (by simp [tg_vok, tg_i32_in]) ml_L_68 im_X8_needs se_X8_needs in_X8 co_X8_needs hy_X8_needs ⟨Nat.le_of_ble_eq_true rfl, Nat.le_of_ble_eq_true rfl⟩ lm_0 rfl (by simp [tg_cv, tg_I_toInt]; rfl) hl.1 (Nat.le_of_ble_eq_true rfl) dL_law_537 hcs (fun h8 hm81 H locs hP8 hP7 hS => ?_)
  refine lv_icmp_eq (tgt := 1048) hx hb dL_law_540 (by decide) (fun _ => ?_) (fun c9 => absurd rfl c9)
  exact kk μ1 ν1 H locs hR1 hm71 hm81 hP7 hP8 hS
set_option maxRecDepth 100000 in
set_option maxHeartbeats 4000000 in
theorem lc_13 (cx : lk_Cx p s m c b L xs D G a7 a8) (hR : R_all μ ν) (hm7 : tg_mok LX μ) (hm8 : tg_mok LM ν) (hP7 : va_P D vwCl (tg_W G a7 LX μ) H) (hP8 : va_P D vwCl (tg_W G a8 LM ν) H) (hS : va_S (fun q : Nat => s.heap.size ≤ q) s.heap H locs) (hl : lv_has ls 4 [(3, .int (tg_I (n : Int))), (2, .ref (a8 0)), (1, .ref (a7 0)), (0, .ref b)]) (hn : n + 6 ≤ L) (hcs : cells ≤ room_1.cells ∧ slots ≤ room_1.slots)
    (kk : ∀ (μ1 ν1 : tg_Mem) (H1 : Heap) (locs1 : List Loc), R_all μ1 ν1 → tg_mok LX μ1 → tg_mok LM ν1 → va_P D vwCl (tg_W G a7 LX μ1) H1 → va_P D vwCl (tg_W G a8 LM ν1) H1 → va_S (fun q : Nat => s.heap.size ≤ q) s.heap H1 locs1 → W p l e room_1 s m #[Value.ref b] below meth c H1 locs1 cells slots Q (F0 m 1048 ls [])) : W p l e room_1 s m #[Value.ref b] below meth c H locs cells slots Q (F0 m 545 ls []) := by
  obtain ⟨hx, hb, hml, hown, hts, hK, hN, hDD, hX, hbl, hL⟩ := id cx
  have hA : ∀ q : Nat, s.heap.size ≤ q → (fun q : Nat => s.heap.size ≤ q) q := fun _ h => h
  have hbA : ¬ (fun q : Nat => s.heap.size ≤ q) b := Nat.not_le.mpr hbl
  have hD7 : ∀ μ, va_D (fun q : Nat => s.heap.size ≤ q) (tg_W G a7 LX μ) := fun μ => tk_D_left (hDD μ (fun _ _ => 0))
  have hD8 : ∀ ν, va_D (fun q : Nat => s.heap.size ≤ q) (tg_W G a8 LM ν) := fun ν => tk_D_right (hDD (fun _ _ => 0) ν)
  obtain ⟨r, μ1, ν1, f7, f8, hR1⟩ := s_soon (xs (n + 1)).toInt (xs (n + 2)).toInt (xs (n + 3)).toInt μ ν hR
  have h78 := tk_ap (hDD μ ν)
  have h87 : ∀ (i j : Nat) (p q : Nat × va_E), (tg_W G a8 LM ν)[i]? = some p → (tg_W G a7 LX μ1)[j]? = some q → p.1 ≠ q.1 := fun i j p q hi hj e => tk_ap (hDD μ1 ν) j i q p hj hi e.symm
  refine lv_aload_n hx hb dL_law_545 rfl (lv_at hl 2 rfl) ?_
  refine lk_arg (jn := 1) hx hb hX hbl hbA hS hl hn hL ⟨rfl, by decide⟩ dL_law_546 dL_law_547 dL_law_548 dL_law_549 dL_law_550 ?_
  refine lk_arg (jn := 2) hx hb hX hbl hbA hS hl hn hL ⟨rfl, by decide⟩ dL_law_551 dL_law_552 dL_law_553 dL_law_554 dL_law_555 ?_
  refine lk_arg (jn := 3) hx hb hX hbl hbA hS hl hn hL ⟨rfl, by decide⟩ dL_law_556 dL_law_557 dL_law_558 dL_law_559 dL_law_560 ?_
  refine lk_call (k := 0) (rest := []) (tas := [ti_ (xs (n + 1)).toInt, ti_ (xs (n + 2)).toInt, ti_ (xs (n + 3)).toInt]) hx hb hml hown hts hK hN hD7 hA h78 hm7 hP7 hP8 hS (k_X7_soon _ _ _ μ) f7 (by simp [tg_vok, tg_i32_in]) ml_L_69 im_X7_soon se_X7_soon in_X7 co_X7_soon hy_X7_soon ⟨Nat.le_of_ble_eq_true rfl, Nat.le_of_ble_eq_true rfl⟩ lx_0 rfl (by simp [tg_cv, tg_I_toInt]) hl.1 (Nat.le_of_ble_eq_true rfl) dL_law_561 hcs (fun h7 hm71 H locs hP7 hP8 hS => ?_)
  refine lv_aload_n hx hb dL_law_564 rfl (lv_at hl 1 rfl) ?_
  refine lk_arg (jn := 1) hx hb hX hbl hbA hS hl hn hL ⟨rfl, by decide⟩ dL_law_565 dL_law_566 dL_law_567 dL_law_568 dL_law_569 ?_
  refine lk_arg (jn := 2) hx hb hX hbl hbA hS hl hn hL ⟨rfl, by decide⟩ dL_law_570 dL_law_571 dL_law_572 dL_law_573 dL_law_574 ?_
  refine lk_arg (jn := 3) hx hb hX hbl hbA hS hl hn hL ⟨rfl, by decide⟩ dL_law_575 dL_law_576 dL_law_577 dL_law_578 dL_law_579 ?_
  refine lk_call (k := 0) (rest := [.int (tg_I r)]) (tas := [ti_ (xs (n + 1)).toInt, ti_ (xs (n + 2)).toInt, ti_ (xs (n + 3)).toInt]) hx hb hml hown hts hK hN hD8 hA h87 hm8 hP8 hP7 hS (k_X8_soon _ _ _ ν) f8 (by simp [tg_vok, tg_i32_in]) ml_L_72 im_X8_soon se_X8_soon in_X8 co_X8_soon hy_X8_soon ⟨Nat.le_of_ble_eq_true rfl, Nat.le_of_ble_eq_true rfl⟩ lm_0 rfl (by simp [tg_cv, tg_I_toInt]; rfl) hl.1 (Nat.le_of_ble_eq_true rfl) dL_law_580 hcs (fun h8 hm81 H locs hP8 hP7 hS => ?_)
  refine lv_icmp_eq (tgt := 1048) hx hb dL_law_583 (by decide) (fun _ => ?_) (fun c9 => absurd rfl c9)
  exact kk μ1 ν1 H locs hR1 hm71 hm81 hP7 hP8 hS
set_option maxRecDepth 100000 in
set_option maxHeartbeats 4000000 in
theorem lc_14 (cx : lk_Cx p s m c b L xs D G a7 a8) (hR : R_all μ ν) (hm7 : tg_mok LX μ) (hm8 : tg_mok LM ν) (hP7 : va_P D vwCl (tg_W G a7 LX μ) H) (hP8 : va_P D vwCl (tg_W G a8 LM ν) H) (hS : va_S (fun q : Nat => s.heap.size ≤ q) s.heap H locs) (hl : lv_has ls 4 [(3, .int (tg_I (n : Int))), (2, .ref (a8 0)), (1, .ref (a7 0)), (0, .ref b)]) (hn : n + 6 ≤ L) (hcs : cells ≤ room_1.cells ∧ slots ≤ room_1.slots)
    (kk : ∀ (μ1 ν1 : tg_Mem) (H1 : Heap) (locs1 : List Loc), R_all μ1 ν1 → tg_mok LX μ1 → tg_mok LM ν1 → va_P D vwCl (tg_W G a7 LX μ1) H1 → va_P D vwCl (tg_W G a8 LM ν1) H1 → va_S (fun q : Nat => s.heap.size ≤ q) s.heap H1 locs1 → W p l e room_1 s m #[Value.ref b] below meth c H1 locs1 cells slots Q (F0 m 1048 ls [])) : W p l e room_1 s m #[Value.ref b] below meth c H locs cells slots Q (F0 m 588 ls []) := by
  obtain ⟨hx, hb, hml, hown, hts, hK, hN, hDD, hX, hbl, hL⟩ := id cx
  have hA : ∀ q : Nat, s.heap.size ≤ q → (fun q : Nat => s.heap.size ≤ q) q := fun _ h => h
  have hbA : ¬ (fun q : Nat => s.heap.size ≤ q) b := Nat.not_le.mpr hbl
  have hD7 : ∀ μ, va_D (fun q : Nat => s.heap.size ≤ q) (tg_W G a7 LX μ) := fun μ => tk_D_left (hDD μ (fun _ _ => 0))
  have hD8 : ∀ ν, va_D (fun q : Nat => s.heap.size ≤ q) (tg_W G a8 LM ν) := fun ν => tk_D_right (hDD (fun _ _ => 0) ν)
  obtain ⟨r, μ1, ν1, f7, f8, hR1⟩ := s_loose (xs (n + 1)).toInt μ ν hR
  have h78 := tk_ap (hDD μ ν)
  have h87 : ∀ (i j : Nat) (p q : Nat × va_E), (tg_W G a8 LM ν)[i]? = some p → (tg_W G a7 LX μ1)[j]? = some q → p.1 ≠ q.1 := fun i j p q hi hj e => tk_ap (hDD μ1 ν) j i q p hj hi e.symm
  refine lv_aload_n hx hb dL_law_588 rfl (lv_at hl 2 rfl) ?_
  refine lk_arg (jn := 1) hx hb hX hbl hbA hS hl hn hL ⟨rfl, by decide⟩ dL_law_589 dL_law_590 dL_law_591 dL_law_592 dL_law_593 ?_
  refine lk_call (k := 0) (rest := []) (tas := [ti_ (xs (n + 1)).toInt]) hx hb hml hown hts hK hN hD7 hA h78 hm7 hP7 hP8 hS (k_X7_loose _ μ) f7 (by simp [tg_vok, tg_i32_in]) ml_L_73 im_X7_loose se_X7_loose in_X7 co_X7_loose hy_X7_loose ⟨Nat.le_of_ble_eq_true rfl, Nat.le_of_ble_eq_true rfl⟩ lx_0 rfl (by simp [tg_cv, tg_I_toInt]) hl.1 (Nat.le_of_ble_eq_true rfl) dL_law_594 hcs (fun h7 hm71 H locs hP7 hP8 hS => ?_)
  refine lv_aload_n hx hb dL_law_597 rfl (lv_at hl 1 rfl) ?_
  refine lk_arg (jn := 1) hx hb hX hbl hbA hS hl hn hL ⟨rfl, by decide⟩ dL_law_598 dL_law_599 dL_law_600 dL_law_601 dL_law_602 ?_
  refine lk_call (k := 0) (rest := [.int (tg_I r)]) (tas := [ti_ (xs (n + 1)).toInt]) hx hb hml hown hts hK hN hD8 hA h87 hm8 hP8 hP7 hS (k_X8_loose _ ν) f8 (by simp [tg_vok, tg_i32_in]) ml_L_76 im_X8_loose se_X8_loose in_X8 co_X8_loose hy_X8_loose ⟨Nat.le_of_ble_eq_true rfl, Nat.le_of_ble_eq_true rfl⟩ lm_0 rfl (by simp [tg_cv, tg_I_toInt]; rfl) hl.1 (Nat.le_of_ble_eq_true rfl) dL_law_603 hcs (fun h8 hm81 H locs hP8 hP7 hS => ?_)
  refine lv_icmp_eq (tgt := 1048) hx hb dL_law_606 (by decide) (fun _ => ?_) (fun c9 => absurd rfl c9)
  exact kk μ1 ν1 H locs hR1 hm71 hm81 hP7 hP8 hS
set_option maxRecDepth 100000 in
set_option maxHeartbeats 4000000 in
theorem lc_15 (cx : lk_Cx p s m c b L xs D G a7 a8) (hR : R_all μ ν) (hm7 : tg_mok LX μ) (hm8 : tg_mok LM ν) (hP7 : va_P D vwCl (tg_W G a7 LX μ) H) (hP8 : va_P D vwCl (tg_W G a8 LM ν) H) (hS : va_S (fun q : Nat => s.heap.size ≤ q) s.heap H locs) (hl : lv_has ls 4 [(3, .int (tg_I (n : Int))), (2, .ref (a8 0)), (1, .ref (a7 0)), (0, .ref b)]) (hn : n + 6 ≤ L) (hcs : cells ≤ room_1.cells ∧ slots ≤ room_1.slots)
    (kk : ∀ (μ1 ν1 : tg_Mem) (H1 : Heap) (locs1 : List Loc), R_all μ1 ν1 → tg_mok LX μ1 → tg_mok LM ν1 → va_P D vwCl (tg_W G a7 LX μ1) H1 → va_P D vwCl (tg_W G a8 LM ν1) H1 → va_S (fun q : Nat => s.heap.size ≤ q) s.heap H1 locs1 → W p l e room_1 s m #[Value.ref b] below meth c H1 locs1 cells slots Q (F0 m 1048 ls [])) : W p l e room_1 s m #[Value.ref b] below meth c H locs cells slots Q (F0 m 611 ls []) := by
  obtain ⟨hx, hb, hml, hown, hts, hK, hN, hDD, hX, hbl, hL⟩ := id cx
  have hA : ∀ q : Nat, s.heap.size ≤ q → (fun q : Nat => s.heap.size ≤ q) q := fun _ h => h
  have hbA : ¬ (fun q : Nat => s.heap.size ≤ q) b := Nat.not_le.mpr hbl
  have hD7 : ∀ μ, va_D (fun q : Nat => s.heap.size ≤ q) (tg_W G a7 LX μ) := fun μ => tk_D_left (hDD μ (fun _ _ => 0))
  have hD8 : ∀ ν, va_D (fun q : Nat => s.heap.size ≤ q) (tg_W G a8 LM ν) := fun ν => tk_D_right (hDD (fun _ _ => 0) ν)
  obtain ⟨r, μ1, ν1, f7, f8, hR1⟩ := s_pulled (xs (n + 1)).toInt (xs (n + 2)).toInt (xs (n + 3)).toInt (xs (n + 4)).toInt μ ν hR
  have h78 := tk_ap (hDD μ ν)
  have h87 : ∀ (i j : Nat) (p q : Nat × va_E), (tg_W G a8 LM ν)[i]? = some p → (tg_W G a7 LX μ1)[j]? = some q → p.1 ≠ q.1 := fun i j p q hi hj e => tk_ap (hDD μ1 ν) j i q p hj hi e.symm
  refine lv_aload_n hx hb dL_law_611 rfl (lv_at hl 2 rfl) ?_
  refine lk_arg (jn := 1) hx hb hX hbl hbA hS hl hn hL ⟨rfl, by decide⟩ dL_law_612 dL_law_613 dL_law_614 dL_law_615 dL_law_616 ?_
  refine lk_arg (jn := 2) hx hb hX hbl hbA hS hl hn hL ⟨rfl, by decide⟩ dL_law_617 dL_law_618 dL_law_619 dL_law_620 dL_law_621 ?_
  refine lk_arg (jn := 3) hx hb hX hbl hbA hS hl hn hL ⟨rfl, by decide⟩ dL_law_622 dL_law_623 dL_law_624 dL_law_625 dL_law_626 ?_
  refine lk_arg (jn := 4) hx hb hX hbl hbA hS hl hn hL ⟨rfl, by decide⟩ dL_law_627 dL_law_628 dL_law_629 dL_law_630 dL_law_631 ?_
  refine lk_call (k := 0) (rest := []) (tas := [ti_ (xs (n + 1)).toInt, ti_ (xs (n + 2)).toInt, ti_ (xs (n + 3)).toInt, ti_ (xs (n + 4)).toInt]) hx hb hml hown hts hK hN hD7 hA h78 hm7 hP7 hP8 hS (k_X7_pulled _ _ _ _ μ) f7 (by simp [tg_vok, tg_i32_in]) ml_L_77 im_X7_pulled se_X7_pulled in_X7 co_X7_pulled hy_X7_pulled ⟨Nat.le_of_ble_eq_true rfl, Nat.le_of_ble_eq_true rfl⟩ lx_0 rfl (by simp [tg_cv, tg_I_toInt]) hl.1 (Nat.le_of_ble_eq_true rfl) dL_law_632 hcs (fun h7 hm71 H locs hP7 hP8 hS => ?_)
  refine lv_aload_n hx hb dL_law_635 rfl (lv_at hl 1 rfl) ?_
  refine lk_arg (jn := 1) hx hb hX hbl hbA hS hl hn hL ⟨rfl, by decide⟩ dL_law_636 dL_law_637 dL_law_638 dL_law_639 dL_law_640 ?_
  refine lk_arg (jn := 2) hx hb hX hbl hbA hS hl hn hL ⟨rfl, by decide⟩ dL_law_641 dL_law_642 dL_law_643 dL_law_644 dL_law_645 ?_
  refine lk_arg (jn := 3) hx hb hX hbl hbA hS hl hn hL ⟨rfl, by decide⟩ dL_law_646 dL_law_647 dL_law_648 dL_law_649 dL_law_650 ?_
  refine lk_arg (jn := 4) hx hb hX hbl hbA hS hl hn hL ⟨rfl, by decide⟩ dL_law_651 dL_law_652 dL_law_653 dL_law_654 dL_law_655 ?_
  refine lk_call (k := 0) (rest := [.int (tg_I r)]) (tas := [ti_ (xs (n + 1)).toInt, ti_ (xs (n + 2)).toInt, ti_ (xs (n + 3)).toInt, ti_ (xs (n + 4)).toInt]) hx hb hml hown hts hK hN hD8 hA h87 hm8 hP8 hP7 hS (k_X8_pulled _ _ _ _ ν) f8 (by simp [tg_vok, tg_i32_in]) ml_L_81 im_X8_pulled se_X8_pulled in_X8 co_X8_pulled hy_X8_pulled ⟨Nat.le_of_ble_eq_true rfl, Nat.le_of_ble_eq_true rfl⟩ lm_0 rfl (by simp [tg_cv, tg_I_toInt]; rfl) hl.1 (Nat.le_of_ble_eq_true rfl) dL_law_656 hcs (fun h8 hm81 H locs hP8 hP7 hS => ?_)
  refine lv_icmp_eq (tgt := 1048) hx hb dL_law_659 (by decide) (fun _ => ?_) (fun c9 => absurd rfl c9)
  exact kk μ1 ν1 H locs hR1 hm71 hm81 hP7 hP8 hS
set_option maxRecDepth 100000 in
set_option maxHeartbeats 4000000 in
theorem lc_16 (cx : lk_Cx p s m c b L xs D G a7 a8) (hR : R_all μ ν) (hm7 : tg_mok LX μ) (hm8 : tg_mok LM ν) (hP7 : va_P D vwCl (tg_W G a7 LX μ) H) (hP8 : va_P D vwCl (tg_W G a8 LM ν) H) (hS : va_S (fun q : Nat => s.heap.size ≤ q) s.heap H locs) (hl : lv_has ls 4 [(3, .int (tg_I (n : Int))), (2, .ref (a8 0)), (1, .ref (a7 0)), (0, .ref b)]) (hn : n + 6 ≤ L) (hcs : cells ≤ room_1.cells ∧ slots ≤ room_1.slots)
    (kk : ∀ (μ1 ν1 : tg_Mem) (H1 : Heap) (locs1 : List Loc), R_all μ1 ν1 → tg_mok LX μ1 → tg_mok LM ν1 → va_P D vwCl (tg_W G a7 LX μ1) H1 → va_P D vwCl (tg_W G a8 LM ν1) H1 → va_S (fun q : Nat => s.heap.size ≤ q) s.heap H1 locs1 → W p l e room_1 s m #[Value.ref b] below meth c H1 locs1 cells slots Q (F0 m 1048 ls [])) : W p l e room_1 s m #[Value.ref b] below meth c H locs cells slots Q (F0 m 664 ls []) := by
  obtain ⟨hx, hb, hml, hown, hts, hK, hN, hDD, hX, hbl, hL⟩ := id cx
  have hA : ∀ q : Nat, s.heap.size ≤ q → (fun q : Nat => s.heap.size ≤ q) q := fun _ h => h
  have hbA : ¬ (fun q : Nat => s.heap.size ≤ q) b := Nat.not_le.mpr hbl
  have hD7 : ∀ μ, va_D (fun q : Nat => s.heap.size ≤ q) (tg_W G a7 LX μ) := fun μ => tk_D_left (hDD μ (fun _ _ => 0))
  have hD8 : ∀ ν, va_D (fun q : Nat => s.heap.size ≤ q) (tg_W G a8 LM ν) := fun ν => tk_D_right (hDD (fun _ _ => 0) ν)
  obtain ⟨r, μ1, ν1, f7, f8, hR1⟩ := s_began (xs (n + 1)).toInt (xs (n + 2)).toInt μ ν hR
  have h78 := tk_ap (hDD μ ν)
  have h87 : ∀ (i j : Nat) (p q : Nat × va_E), (tg_W G a8 LM ν)[i]? = some p → (tg_W G a7 LX μ1)[j]? = some q → p.1 ≠ q.1 := fun i j p q hi hj e => tk_ap (hDD μ1 ν) j i q p hj hi e.symm
  refine lv_aload_n hx hb dL_law_664 rfl (lv_at hl 2 rfl) ?_
  refine lk_arg (jn := 1) hx hb hX hbl hbA hS hl hn hL ⟨rfl, by decide⟩ dL_law_665 dL_law_666 dL_law_667 dL_law_668 dL_law_669 ?_
  refine lk_arg (jn := 2) hx hb hX hbl hbA hS hl hn hL ⟨rfl, by decide⟩ dL_law_670 dL_law_671 dL_law_672 dL_law_673 dL_law_674 ?_
  refine lk_call (k := 0) (rest := []) (tas := [ti_ (xs (n + 1)).toInt, ti_ (xs (n + 2)).toInt]) hx hb hml hown hts hK hN hD7 hA h78 hm7 hP7 hP8 hS (k_X7_began _ _ μ) f7 (by simp [tg_vok, tg_i32_in]) ml_L_82 im_X7_began se_X7_began in_X7 co_X7_began hy_X7_began ⟨Nat.le_of_ble_eq_true rfl, Nat.le_of_ble_eq_true rfl⟩ lx_0 rfl (by simp [tg_cv, tg_I_toInt]) hl.1 (Nat.le_of_ble_eq_true rfl) dL_law_675 hcs (fun h7 hm71 H locs hP7 hP8 hS => ?_)
  refine lv_aload_n hx hb dL_law_678 rfl (lv_at hl 1 rfl) ?_
  refine lk_arg (jn := 1) hx hb hX hbl hbA hS hl hn hL ⟨rfl, by decide⟩ dL_law_679 dL_law_680 dL_law_681 dL_law_682 dL_law_683 ?_
  refine lk_arg (jn := 2) hx hb hX hbl hbA hS hl hn hL ⟨rfl, by decide⟩ dL_law_684 dL_law_685 dL_law_686 dL_law_687 dL_law_688 ?_
  refine lk_call (k := 0) (rest := [.int (tg_I r)]) (tas := [ti_ (xs (n + 1)).toInt, ti_ (xs (n + 2)).toInt]) hx hb hml hown hts hK hN hD8 hA h87 hm8 hP8 hP7 hS (k_X8_began _ _ ν) f8 (by simp [tg_vok, tg_i32_in]) ml_L_85 im_X8_began se_X8_began in_X8 co_X8_began hy_X8_began ⟨Nat.le_of_ble_eq_true rfl, Nat.le_of_ble_eq_true rfl⟩ lm_0 rfl (by simp [tg_cv, tg_I_toInt]; rfl) hl.1 (Nat.le_of_ble_eq_true rfl) dL_law_689 hcs (fun h8 hm81 H locs hP8 hP7 hS => ?_)
  refine lv_icmp_eq (tgt := 1048) hx hb dL_law_692 (by decide) (fun _ => ?_) (fun c9 => absurd rfl c9)
  exact kk μ1 ν1 H locs hR1 hm71 hm81 hP7 hP8 hS
set_option maxRecDepth 100000 in
set_option maxHeartbeats 4000000 in
theorem lc_17 (cx : lk_Cx p s m c b L xs D G a7 a8) (hR : R_all μ ν) (hm7 : tg_mok LX μ) (hm8 : tg_mok LM ν) (hP7 : va_P D vwCl (tg_W G a7 LX μ) H) (hP8 : va_P D vwCl (tg_W G a8 LM ν) H) (hS : va_S (fun q : Nat => s.heap.size ≤ q) s.heap H locs) (hl : lv_has ls 4 [(3, .int (tg_I (n : Int))), (2, .ref (a8 0)), (1, .ref (a7 0)), (0, .ref b)]) (hn : n + 6 ≤ L) (hcs : cells ≤ room_1.cells ∧ slots ≤ room_1.slots)
    (kk : ∀ (μ1 ν1 : tg_Mem) (H1 : Heap) (locs1 : List Loc), R_all μ1 ν1 → tg_mok LX μ1 → tg_mok LM ν1 → va_P D vwCl (tg_W G a7 LX μ1) H1 → va_P D vwCl (tg_W G a8 LM ν1) H1 → va_S (fun q : Nat => s.heap.size ≤ q) s.heap H1 locs1 → W p l e room_1 s m #[Value.ref b] below meth c H1 locs1 cells slots Q (F0 m 1048 ls [])) : W p l e room_1 s m #[Value.ref b] below meth c H locs cells slots Q (F0 m 697 ls []) := by
  obtain ⟨hx, hb, hml, hown, hts, hK, hN, hDD, hX, hbl, hL⟩ := id cx
  have hA : ∀ q : Nat, s.heap.size ≤ q → (fun q : Nat => s.heap.size ≤ q) q := fun _ h => h
  have hbA : ¬ (fun q : Nat => s.heap.size ≤ q) b := Nat.not_le.mpr hbl
  have hD7 : ∀ μ, va_D (fun q : Nat => s.heap.size ≤ q) (tg_W G a7 LX μ) := fun μ => tk_D_left (hDD μ (fun _ _ => 0))
  have hD8 : ∀ ν, va_D (fun q : Nat => s.heap.size ≤ q) (tg_W G a8 LM ν) := fun ν => tk_D_right (hDD (fun _ _ => 0) ν)
  obtain ⟨r, μ1, ν1, f7, f8, hR1⟩ := s_game (xs (n + 1)).toInt (xs (n + 2)).toInt (xs (n + 3)).toInt μ ν hR
  have h78 := tk_ap (hDD μ ν)
  have h87 : ∀ (i j : Nat) (p q : Nat × va_E), (tg_W G a8 LM ν)[i]? = some p → (tg_W G a7 LX μ1)[j]? = some q → p.1 ≠ q.1 := fun i j p q hi hj e => tk_ap (hDD μ1 ν) j i q p hj hi e.symm
  refine lv_aload_n hx hb dL_law_697 rfl (lv_at hl 2 rfl) ?_
  refine lk_arg (jn := 1) hx hb hX hbl hbA hS hl hn hL ⟨rfl, by decide⟩ dL_law_698 dL_law_699 dL_law_700 dL_law_701 dL_law_702 ?_
  refine lk_arg (jn := 2) hx hb hX hbl hbA hS hl hn hL ⟨rfl, by decide⟩ dL_law_703 dL_law_704 dL_law_705 dL_law_706 dL_law_707 ?_
  refine lk_arg (jn := 3) hx hb hX hbl hbA hS hl hn hL ⟨rfl, by decide⟩ dL_law_708 dL_law_709 dL_law_710 dL_law_711 dL_law_712 ?_
  refine lk_call (k := 0) (rest := []) (tas := [ti_ (xs (n + 1)).toInt, ti_ (xs (n + 2)).toInt, ti_ (xs (n + 3)).toInt]) hx hb hml hown hts hK hN hD7 hA h78 hm7 hP7 hP8 hS (k_X7_game _ _ _ μ) f7 (by simp [tg_vok, tg_i32_in]) ml_L_86 im_X7_game se_X7_game in_X7 co_X7_game hy_X7_game ⟨Nat.le_of_ble_eq_true rfl, Nat.le_of_ble_eq_true rfl⟩ lx_0 rfl (by simp [tg_cv, tg_I_toInt]) hl.1 (Nat.le_of_ble_eq_true rfl) dL_law_713 hcs (fun h7 hm71 H locs hP7 hP8 hS => ?_)
  refine lv_aload_n hx hb dL_law_716 rfl (lv_at hl 1 rfl) ?_
  refine lk_arg (jn := 1) hx hb hX hbl hbA hS hl hn hL ⟨rfl, by decide⟩ dL_law_717 dL_law_718 dL_law_719 dL_law_720 dL_law_721 ?_
  refine lk_arg (jn := 2) hx hb hX hbl hbA hS hl hn hL ⟨rfl, by decide⟩ dL_law_722 dL_law_723 dL_law_724 dL_law_725 dL_law_726 ?_
  refine lk_arg (jn := 3) hx hb hX hbl hbA hS hl hn hL ⟨rfl, by decide⟩ dL_law_727 dL_law_728 dL_law_729 dL_law_730 dL_law_731 ?_
  refine lk_call (k := 0) (rest := [.int (tg_I r)]) (tas := [ti_ (xs (n + 1)).toInt, ti_ (xs (n + 2)).toInt, ti_ (xs (n + 3)).toInt]) hx hb hml hown hts hK hN hD8 hA h87 hm8 hP8 hP7 hS (k_X8_game _ _ _ ν) f8 (by simp [tg_vok, tg_i32_in]) ml_L_89 im_X8_game se_X8_game in_X8 co_X8_game hy_X8_game ⟨Nat.le_of_ble_eq_true rfl, Nat.le_of_ble_eq_true rfl⟩ lm_0 rfl (by simp [tg_cv, tg_I_toInt]; rfl) hl.1 (Nat.le_of_ble_eq_true rfl) dL_law_732 hcs (fun h8 hm81 H locs hP8 hP7 hS => ?_)
  refine lv_icmp_eq (tgt := 1048) hx hb dL_law_735 (by decide) (fun _ => ?_) (fun c9 => absurd rfl c9)
  exact kk μ1 ν1 H locs hR1 hm71 hm81 hP7 hP8 hS
set_option maxRecDepth 100000 in
set_option maxHeartbeats 4000000 in
theorem lc_18 (cx : lk_Cx p s m c b L xs D G a7 a8) (hR : R_all μ ν) (hm7 : tg_mok LX μ) (hm8 : tg_mok LM ν) (hP7 : va_P D vwCl (tg_W G a7 LX μ) H) (hP8 : va_P D vwCl (tg_W G a8 LM ν) H) (hS : va_S (fun q : Nat => s.heap.size ≤ q) s.heap H locs) (hl : lv_has ls 4 [(3, .int (tg_I (n : Int))), (2, .ref (a8 0)), (1, .ref (a7 0)), (0, .ref b)]) (hn : n + 6 ≤ L) (hcs : cells ≤ room_1.cells ∧ slots ≤ room_1.slots)
    (kk : ∀ (μ1 ν1 : tg_Mem) (H1 : Heap) (locs1 : List Loc), R_all μ1 ν1 → tg_mok LX μ1 → tg_mok LM ν1 → va_P D vwCl (tg_W G a7 LX μ1) H1 → va_P D vwCl (tg_W G a8 LM ν1) H1 → va_S (fun q : Nat => s.heap.size ≤ q) s.heap H1 locs1 → W p l e room_1 s m #[Value.ref b] below meth c H1 locs1 cells slots Q (F0 m 1048 ls [])) : W p l e room_1 s m #[Value.ref b] below meth c H locs cells slots Q (F0 m 740 ls []) := by
  obtain ⟨hx, hb, hml, hown, hts, hK, hN, hDD, hX, hbl, hL⟩ := id cx
  have hA : ∀ q : Nat, s.heap.size ≤ q → (fun q : Nat => s.heap.size ≤ q) q := fun _ h => h
  have hbA : ¬ (fun q : Nat => s.heap.size ≤ q) b := Nat.not_le.mpr hbl
  have hD7 : ∀ μ, va_D (fun q : Nat => s.heap.size ≤ q) (tg_W G a7 LX μ) := fun μ => tk_D_left (hDD μ (fun _ _ => 0))
  have hD8 : ∀ ν, va_D (fun q : Nat => s.heap.size ≤ q) (tg_W G a8 LM ν) := fun ν => tk_D_right (hDD (fun _ _ => 0) ν)
  obtain ⟨r, μ1, ν1, f7, f8, hR1⟩ := s_alike μ ν hR
  have h78 := tk_ap (hDD μ ν)
  have h87 : ∀ (i j : Nat) (p q : Nat × va_E), (tg_W G a8 LM ν)[i]? = some p → (tg_W G a7 LX μ1)[j]? = some q → p.1 ≠ q.1 := fun i j p q hi hj e => tk_ap (hDD μ1 ν) j i q p hj hi e.symm
  refine lv_aload_n hx hb dL_law_740 rfl (lv_at hl 2 rfl) ?_
  refine lk_call (k := 0) (rest := []) (tas := []) hx hb hml hown hts hK hN hD7 hA h78 hm7 hP7 hP8 hS (k_X7_alike μ) f7 (fun v hv => by cases hv) ml_L_90 im_X7_alike se_X7_alike in_X7 co_X7_alike hy_X7_alike ⟨Nat.le_of_ble_eq_true rfl, Nat.le_of_ble_eq_true rfl⟩ lx_0 rfl rfl hl.1 (Nat.le_of_ble_eq_true rfl) dL_law_741 hcs (fun h7 hm71 H locs hP7 hP8 hS => ?_)
  refine lv_aload_n hx hb dL_law_744 rfl (lv_at hl 1 rfl) ?_
  refine lk_call (k := 0) (rest := [.int (tg_I r)]) (tas := []) hx hb hml hown hts hK hN hD8 hA h87 hm8 hP8 hP7 hS (k_X8_alike ν) f8 (fun v hv => by cases hv) ml_L_93 im_X8_alike se_X8_alike in_X8 co_X8_alike hy_X8_alike ⟨Nat.le_of_ble_eq_true rfl, Nat.le_of_ble_eq_true rfl⟩ lm_0 rfl rfl hl.1 (Nat.le_of_ble_eq_true rfl) dL_law_745 hcs (fun h8 hm81 H locs hP8 hP7 hS => ?_)
  refine lv_icmp_eq (tgt := 1048) hx hb dL_law_748 (by decide) (fun _ => ?_) (fun c9 => absurd rfl c9)
  exact kk μ1 ν1 H locs hR1 hm71 hm81 hP7 hP8 hS
set_option maxRecDepth 100000 in
set_option maxHeartbeats 4000000 in
theorem lc_19 (cx : lk_Cx p s m c b L xs D G a7 a8) (hR : R_all μ ν) (hm7 : tg_mok LX μ) (hm8 : tg_mok LM ν) (hP7 : va_P D vwCl (tg_W G a7 LX μ) H) (hP8 : va_P D vwCl (tg_W G a8 LM ν) H) (hS : va_S (fun q : Nat => s.heap.size ≤ q) s.heap H locs) (hl : lv_has ls 4 [(3, .int (tg_I (n : Int))), (2, .ref (a8 0)), (1, .ref (a7 0)), (0, .ref b)]) (hn : n + 6 ≤ L) (hcs : cells ≤ room_1.cells ∧ slots ≤ room_1.slots)
    (kk : ∀ (μ1 ν1 : tg_Mem) (H1 : Heap) (locs1 : List Loc), R_all μ1 ν1 → tg_mok LX μ1 → tg_mok LM ν1 → va_P D vwCl (tg_W G a7 LX μ1) H1 → va_P D vwCl (tg_W G a8 LM ν1) H1 → va_S (fun q : Nat => s.heap.size ≤ q) s.heap H1 locs1 → W p l e room_1 s m #[Value.ref b] below meth c H1 locs1 cells slots Q (F0 m 1048 ls [])) : W p l e room_1 s m #[Value.ref b] below meth c H locs cells slots Q (F0 m 753 ls []) := by
  obtain ⟨hx, hb, hml, hown, hts, hK, hN, hDD, hX, hbl, hL⟩ := id cx
  have hA : ∀ q : Nat, s.heap.size ≤ q → (fun q : Nat => s.heap.size ≤ q) q := fun _ h => h
  have hbA : ¬ (fun q : Nat => s.heap.size ≤ q) b := Nat.not_le.mpr hbl
  have hD7 : ∀ μ, va_D (fun q : Nat => s.heap.size ≤ q) (tg_W G a7 LX μ) := fun μ => tk_D_left (hDD μ (fun _ _ => 0))
  have hD8 : ∀ ν, va_D (fun q : Nat => s.heap.size ≤ q) (tg_W G a8 LM ν) := fun ν => tk_D_right (hDD (fun _ _ => 0) ν)
  obtain ⟨r, μ1, ν1, f7, f8, hR1⟩ := s_sheet (xs (n + 1)).toInt (xs (n + 2)).toInt (xs (n + 3)).toInt μ ν hR
  have h78 := tk_ap (hDD μ ν)
  have h87 : ∀ (i j : Nat) (p q : Nat × va_E), (tg_W G a8 LM ν)[i]? = some p → (tg_W G a7 LX μ1)[j]? = some q → p.1 ≠ q.1 := fun i j p q hi hj e => tk_ap (hDD μ1 ν) j i q p hj hi e.symm
  refine lv_aload_n hx hb dL_law_753 rfl (lv_at hl 2 rfl) ?_
  refine lk_arg (jn := 1) hx hb hX hbl hbA hS hl hn hL ⟨rfl, by decide⟩ dL_law_754 dL_law_755 dL_law_756 dL_law_757 dL_law_758 ?_
  refine lk_arg (jn := 2) hx hb hX hbl hbA hS hl hn hL ⟨rfl, by decide⟩ dL_law_759 dL_law_760 dL_law_761 dL_law_762 dL_law_763 ?_
  refine lk_arg (jn := 3) hx hb hX hbl hbA hS hl hn hL ⟨rfl, by decide⟩ dL_law_764 dL_law_765 dL_law_766 dL_law_767 dL_law_768 ?_
  refine lk_call (k := 0) (rest := []) (tas := [ti_ (xs (n + 1)).toInt, ti_ (xs (n + 2)).toInt, ti_ (xs (n + 3)).toInt]) hx hb hml hown hts hK hN hD7 hA h78 hm7 hP7 hP8 hS (k_X7_sheet _ _ _ μ) f7 (by simp [tg_vok, tg_i32_in]) ml_L_94 im_X7_sheet se_X7_sheet in_X7 co_X7_sheet hy_X7_sheet ⟨Nat.le_of_ble_eq_true rfl, Nat.le_of_ble_eq_true rfl⟩ lx_0 rfl (by simp [tg_cv, tg_I_toInt]) hl.1 (Nat.le_of_ble_eq_true rfl) dL_law_769 hcs (fun h7 hm71 H locs hP7 hP8 hS => ?_)
  refine lv_aload_n hx hb dL_law_772 rfl (lv_at hl 1 rfl) ?_
  refine lk_arg (jn := 1) hx hb hX hbl hbA hS hl hn hL ⟨rfl, by decide⟩ dL_law_773 dL_law_774 dL_law_775 dL_law_776 dL_law_777 ?_
  refine lk_arg (jn := 2) hx hb hX hbl hbA hS hl hn hL ⟨rfl, by decide⟩ dL_law_778 dL_law_779 dL_law_780 dL_law_781 dL_law_782 ?_
  refine lk_arg (jn := 3) hx hb hX hbl hbA hS hl hn hL ⟨rfl, by decide⟩ dL_law_783 dL_law_784 dL_law_785 dL_law_786 dL_law_787 ?_
  refine lk_call (k := 0) (rest := [.int (tg_I r)]) (tas := [ti_ (xs (n + 1)).toInt, ti_ (xs (n + 2)).toInt, ti_ (xs (n + 3)).toInt]) hx hb hml hown hts hK hN hD8 hA h87 hm8 hP8 hP7 hS (k_X8_sheet _ _ _ ν) f8 (by simp [tg_vok, tg_i32_in]) ml_L_97 im_X8_sheet se_X8_sheet in_X8 co_X8_sheet hy_X8_sheet ⟨Nat.le_of_ble_eq_true rfl, Nat.le_of_ble_eq_true rfl⟩ lm_0 rfl (by simp [tg_cv, tg_I_toInt]; rfl) hl.1 (Nat.le_of_ble_eq_true rfl) dL_law_788 hcs (fun h8 hm81 H locs hP8 hP7 hS => ?_)
  refine lv_icmp_eq (tgt := 1048) hx hb dL_law_791 (by decide) (fun _ => ?_) (fun c9 => absurd rfl c9)
  exact kk μ1 ν1 H locs hR1 hm71 hm81 hP7 hP8 hS
set_option maxRecDepth 100000 in
set_option maxHeartbeats 4000000 in
theorem lc_20 (cx : lk_Cx p s m c b L xs D G a7 a8) (hR : R_all μ ν) (hm7 : tg_mok LX μ) (hm8 : tg_mok LM ν) (hP7 : va_P D vwCl (tg_W G a7 LX μ) H) (hP8 : va_P D vwCl (tg_W G a8 LM ν) H) (hS : va_S (fun q : Nat => s.heap.size ≤ q) s.heap H locs) (hl : lv_has ls 4 [(3, .int (tg_I (n : Int))), (2, .ref (a8 0)), (1, .ref (a7 0)), (0, .ref b)]) (hn : n + 6 ≤ L) (hcs : cells ≤ room_1.cells ∧ slots ≤ room_1.slots)
    (kk : ∀ (μ1 ν1 : tg_Mem) (H1 : Heap) (locs1 : List Loc), R_all μ1 ν1 → tg_mok LX μ1 → tg_mok LM ν1 → va_P D vwCl (tg_W G a7 LX μ1) H1 → va_P D vwCl (tg_W G a8 LM ν1) H1 → va_S (fun q : Nat => s.heap.size ≤ q) s.heap H1 locs1 → W p l e room_1 s m #[Value.ref b] below meth c H1 locs1 cells slots Q (F0 m 1048 ls [])) : W p l e room_1 s m #[Value.ref b] below meth c H locs cells slots Q (F0 m 796 ls []) := by
  obtain ⟨hx, hb, hml, hown, hts, hK, hN, hDD, hX, hbl, hL⟩ := id cx
  have hA : ∀ q : Nat, s.heap.size ≤ q → (fun q : Nat => s.heap.size ≤ q) q := fun _ h => h
  have hbA : ¬ (fun q : Nat => s.heap.size ≤ q) b := Nat.not_le.mpr hbl
  have hD7 : ∀ μ, va_D (fun q : Nat => s.heap.size ≤ q) (tg_W G a7 LX μ) := fun μ => tk_D_left (hDD μ (fun _ _ => 0))
  have hD8 : ∀ ν, va_D (fun q : Nat => s.heap.size ≤ q) (tg_W G a8 LM ν) := fun ν => tk_D_right (hDD (fun _ _ => 0) ν)
  obtain ⟨r, μ1, ν1, f7, f8, hR1⟩ := s_lose (xs (n + 1)).toInt μ ν hR
  have h78 := tk_ap (hDD μ ν)
  have h87 : ∀ (i j : Nat) (p q : Nat × va_E), (tg_W G a8 LM ν)[i]? = some p → (tg_W G a7 LX μ1)[j]? = some q → p.1 ≠ q.1 := fun i j p q hi hj e => tk_ap (hDD μ1 ν) j i q p hj hi e.symm
  refine lv_aload_n hx hb dL_law_796 rfl (lv_at hl 2 rfl) ?_
  refine lk_arg (jn := 1) hx hb hX hbl hbA hS hl hn hL ⟨rfl, by decide⟩ dL_law_797 dL_law_798 dL_law_799 dL_law_800 dL_law_801 ?_
  refine lk_call (k := 0) (rest := []) (tas := [ti_ (xs (n + 1)).toInt]) hx hb hml hown hts hK hN hD7 hA h78 hm7 hP7 hP8 hS (k_X7_lose _ μ) f7 (by simp [tg_vok, tg_i32_in]) ml_L_98 im_X7_lose se_X7_lose in_X7 co_X7_lose hy_X7_lose ⟨Nat.le_of_ble_eq_true rfl, Nat.le_of_ble_eq_true rfl⟩ lx_0 rfl (by simp [tg_cv, tg_I_toInt]) hl.1 (Nat.le_of_ble_eq_true rfl) dL_law_802 hcs (fun h7 hm71 H locs hP7 hP8 hS => ?_)
  refine lv_aload_n hx hb dL_law_805 rfl (lv_at hl 1 rfl) ?_
  refine lk_arg (jn := 1) hx hb hX hbl hbA hS hl hn hL ⟨rfl, by decide⟩ dL_law_806 dL_law_807 dL_law_808 dL_law_809 dL_law_810 ?_
  refine lk_call (k := 0) (rest := [.int (tg_I r)]) (tas := [ti_ (xs (n + 1)).toInt]) hx hb hml hown hts hK hN hD8 hA h87 hm8 hP8 hP7 hS (k_X8_lose _ ν) f8 (by simp [tg_vok, tg_i32_in]) ml_L_101 im_X8_lose se_X8_lose in_X8 co_X8_lose hy_X8_lose ⟨Nat.le_of_ble_eq_true rfl, Nat.le_of_ble_eq_true rfl⟩ lm_0 rfl (by simp [tg_cv, tg_I_toInt]; rfl) hl.1 (Nat.le_of_ble_eq_true rfl) dL_law_811 hcs (fun h8 hm81 H locs hP8 hP7 hS => ?_)
  refine lv_icmp_eq (tgt := 1048) hx hb dL_law_814 (by decide) (fun _ => ?_) (fun c9 => absurd rfl c9)
  exact kk μ1 ν1 H locs hR1 hm71 hm81 hP7 hP8 hS
set_option maxRecDepth 100000 in
set_option maxHeartbeats 4000000 in
theorem lc_21 (cx : lk_Cx p s m c b L xs D G a7 a8) (hR : R_all μ ν) (hm7 : tg_mok LX μ) (hm8 : tg_mok LM ν) (hP7 : va_P D vwCl (tg_W G a7 LX μ) H) (hP8 : va_P D vwCl (tg_W G a8 LM ν) H) (hS : va_S (fun q : Nat => s.heap.size ≤ q) s.heap H locs) (hl : lv_has ls 4 [(3, .int (tg_I (n : Int))), (2, .ref (a8 0)), (1, .ref (a7 0)), (0, .ref b)]) (hn : n + 6 ≤ L) (hcs : cells ≤ room_1.cells ∧ slots ≤ room_1.slots)
    (kk : ∀ (μ1 ν1 : tg_Mem) (H1 : Heap) (locs1 : List Loc), R_all μ1 ν1 → tg_mok LX μ1 → tg_mok LM ν1 → va_P D vwCl (tg_W G a7 LX μ1) H1 → va_P D vwCl (tg_W G a8 LM ν1) H1 → va_S (fun q : Nat => s.heap.size ≤ q) s.heap H1 locs1 → W p l e room_1 s m #[Value.ref b] below meth c H1 locs1 cells slots Q (F0 m 1048 ls [])) : W p l e room_1 s m #[Value.ref b] below meth c H locs cells slots Q (F0 m 819 ls []) := by
  obtain ⟨hx, hb, hml, hown, hts, hK, hN, hDD, hX, hbl, hL⟩ := id cx
  have hA : ∀ q : Nat, s.heap.size ≤ q → (fun q : Nat => s.heap.size ≤ q) q := fun _ h => h
  have hbA : ¬ (fun q : Nat => s.heap.size ≤ q) b := Nat.not_le.mpr hbl
  have hD7 : ∀ μ, va_D (fun q : Nat => s.heap.size ≤ q) (tg_W G a7 LX μ) := fun μ => tk_D_left (hDD μ (fun _ _ => 0))
  have hD8 : ∀ ν, va_D (fun q : Nat => s.heap.size ≤ q) (tg_W G a8 LM ν) := fun ν => tk_D_right (hDD (fun _ _ => 0) ν)
  obtain ⟨r, μ1, ν1, f7, f8, hR1⟩ := s_lay (xs (n + 1)).toInt (xs (n + 2)).toInt (xs (n + 3)).toInt (xs (n + 4)).toInt μ ν hR
  have h78 := tk_ap (hDD μ ν)
  have h87 : ∀ (i j : Nat) (p q : Nat × va_E), (tg_W G a8 LM ν)[i]? = some p → (tg_W G a7 LX μ1)[j]? = some q → p.1 ≠ q.1 := fun i j p q hi hj e => tk_ap (hDD μ1 ν) j i q p hj hi e.symm
  refine lv_aload_n hx hb dL_law_819 rfl (lv_at hl 2 rfl) ?_
  refine lk_arg (jn := 1) hx hb hX hbl hbA hS hl hn hL ⟨rfl, by decide⟩ dL_law_820 dL_law_821 dL_law_822 dL_law_823 dL_law_824 ?_
  refine lk_arg (jn := 2) hx hb hX hbl hbA hS hl hn hL ⟨rfl, by decide⟩ dL_law_825 dL_law_826 dL_law_827 dL_law_828 dL_law_829 ?_
  refine lk_arg (jn := 3) hx hb hX hbl hbA hS hl hn hL ⟨rfl, by decide⟩ dL_law_830 dL_law_831 dL_law_832 dL_law_833 dL_law_834 ?_
  refine lk_arg (jn := 4) hx hb hX hbl hbA hS hl hn hL ⟨rfl, by decide⟩ dL_law_835 dL_law_836 dL_law_837 dL_law_838 dL_law_839 ?_
  refine lk_call (k := 0) (rest := []) (tas := [ti_ (xs (n + 1)).toInt, ti_ (xs (n + 2)).toInt, ti_ (xs (n + 3)).toInt, ti_ (xs (n + 4)).toInt]) hx hb hml hown hts hK hN hD7 hA h78 hm7 hP7 hP8 hS (k_X7_lay _ _ _ _ μ) f7 (by simp [tg_vok, tg_i32_in]) ml_L_102 im_X7_lay se_X7_lay in_X7 co_X7_lay hy_X7_lay ⟨Nat.le_of_ble_eq_true rfl, Nat.le_of_ble_eq_true rfl⟩ lx_0 rfl (by simp [tg_cv, tg_I_toInt]) hl.1 (Nat.le_of_ble_eq_true rfl) dL_law_840 hcs (fun h7 hm71 H locs hP7 hP8 hS => ?_)
  refine lv_aload_n hx hb dL_law_843 rfl (lv_at hl 1 rfl) ?_
  refine lk_arg (jn := 1) hx hb hX hbl hbA hS hl hn hL ⟨rfl, by decide⟩ dL_law_844 dL_law_845 dL_law_846 dL_law_847 dL_law_848 ?_
  refine lk_arg (jn := 2) hx hb hX hbl hbA hS hl hn hL ⟨rfl, by decide⟩ dL_law_849 dL_law_850 dL_law_851 dL_law_852 dL_law_853 ?_
  refine lk_arg (jn := 3) hx hb hX hbl hbA hS hl hn hL ⟨rfl, by decide⟩ dL_law_854 dL_law_855 dL_law_856 dL_law_857 dL_law_858 ?_
  refine lk_arg (jn := 4) hx hb hX hbl hbA hS hl hn hL ⟨rfl, by decide⟩ dL_law_859 dL_law_860 dL_law_861 dL_law_862 dL_law_863 ?_
  refine lk_call (k := 0) (rest := [.int (tg_I r)]) (tas := [ti_ (xs (n + 1)).toInt, ti_ (xs (n + 2)).toInt, ti_ (xs (n + 3)).toInt, ti_ (xs (n + 4)).toInt]) hx hb hml hown hts hK hN hD8 hA h87 hm8 hP8 hP7 hS (k_X8_lay _ _ _ _ ν) f8 (by simp [tg_vok, tg_i32_in]) ml_L_105 im_X8_lay se_X8_lay in_X8 co_X8_lay hy_X8_lay ⟨Nat.le_of_ble_eq_true rfl, Nat.le_of_ble_eq_true rfl⟩ lm_0 rfl (by simp [tg_cv, tg_I_toInt]; rfl) hl.1 (Nat.le_of_ble_eq_true rfl) dL_law_864 hcs (fun h8 hm81 H locs hP8 hP7 hS => ?_)
  refine lv_icmp_eq (tgt := 1048) hx hb dL_law_867 (by decide) (fun _ => ?_) (fun c9 => absurd rfl c9)
  exact kk μ1 ν1 H locs hR1 hm71 hm81 hP7 hP8 hS
set_option maxRecDepth 100000 in
set_option maxHeartbeats 4000000 in
theorem lc_22 (cx : lk_Cx p s m c b L xs D G a7 a8) (hR : R_all μ ν) (hm7 : tg_mok LX μ) (hm8 : tg_mok LM ν) (hP7 : va_P D vwCl (tg_W G a7 LX μ) H) (hP8 : va_P D vwCl (tg_W G a8 LM ν) H) (hS : va_S (fun q : Nat => s.heap.size ≤ q) s.heap H locs) (hl : lv_has ls 4 [(3, .int (tg_I (n : Int))), (2, .ref (a8 0)), (1, .ref (a7 0)), (0, .ref b)]) (hn : n + 6 ≤ L) (hcs : cells ≤ room_1.cells ∧ slots ≤ room_1.slots)
    (kk : ∀ (μ1 ν1 : tg_Mem) (H1 : Heap) (locs1 : List Loc), R_all μ1 ν1 → tg_mok LX μ1 → tg_mok LM ν1 → va_P D vwCl (tg_W G a7 LX μ1) H1 → va_P D vwCl (tg_W G a8 LM ν1) H1 → va_S (fun q : Nat => s.heap.size ≤ q) s.heap H1 locs1 → W p l e room_1 s m #[Value.ref b] below meth c H1 locs1 cells slots Q (F0 m 1048 ls [])) : W p l e room_1 s m #[Value.ref b] below meth c H locs cells slots Q (F0 m 872 ls []) := by
  obtain ⟨hx, hb, hml, hown, hts, hK, hN, hDD, hX, hbl, hL⟩ := id cx
  have hA : ∀ q : Nat, s.heap.size ≤ q → (fun q : Nat => s.heap.size ≤ q) q := fun _ h => h
  have hbA : ¬ (fun q : Nat => s.heap.size ≤ q) b := Nat.not_le.mpr hbl
  have hD7 : ∀ μ, va_D (fun q : Nat => s.heap.size ≤ q) (tg_W G a7 LX μ) := fun μ => tk_D_left (hDD μ (fun _ _ => 0))
  have hD8 : ∀ ν, va_D (fun q : Nat => s.heap.size ≤ q) (tg_W G a8 LM ν) := fun ν => tk_D_right (hDD (fun _ _ => 0) ν)
  obtain ⟨r, μ1, ν1, f7, f8, hR1⟩ := s_get (xs (n + 1)).toInt (xs (n + 2)).toInt (xs (n + 3)).toInt μ ν hR
  have h78 := tk_ap (hDD μ ν)
  have h87 : ∀ (i j : Nat) (p q : Nat × va_E), (tg_W G a8 LM ν)[i]? = some p → (tg_W G a7 LX μ1)[j]? = some q → p.1 ≠ q.1 := fun i j p q hi hj e => tk_ap (hDD μ1 ν) j i q p hj hi e.symm
  refine lv_aload_n hx hb dL_law_872 rfl (lv_at hl 2 rfl) ?_
  refine lk_arg (jn := 1) hx hb hX hbl hbA hS hl hn hL ⟨rfl, by decide⟩ dL_law_873 dL_law_874 dL_law_875 dL_law_876 dL_law_877 ?_
  refine lk_arg (jn := 2) hx hb hX hbl hbA hS hl hn hL ⟨rfl, by decide⟩ dL_law_878 dL_law_879 dL_law_880 dL_law_881 dL_law_882 ?_
  refine lk_arg (jn := 3) hx hb hX hbl hbA hS hl hn hL ⟨rfl, by decide⟩ dL_law_883 dL_law_884 dL_law_885 dL_law_886 dL_law_887 ?_
  refine lk_call (k := 0) (rest := []) (tas := [ti_ (xs (n + 1)).toInt, ti_ (xs (n + 2)).toInt, ti_ (xs (n + 3)).toInt]) hx hb hml hown hts hK hN hD7 hA h78 hm7 hP7 hP8 hS (k_X7_get _ _ _ μ) f7 (by simp [tg_vok, tg_i32_in]) ml_L_106 im_X7_get se_X7_get in_X7 co_X7_get hy_X7_get ⟨Nat.le_of_ble_eq_true rfl, Nat.le_of_ble_eq_true rfl⟩ lx_0 rfl (by simp [tg_cv, tg_I_toInt]) hl.1 (Nat.le_of_ble_eq_true rfl) dL_law_888 hcs (fun h7 hm71 H locs hP7 hP8 hS => ?_)
  refine lv_aload_n hx hb dL_law_891 rfl (lv_at hl 1 rfl) ?_
  refine lk_arg (jn := 1) hx hb hX hbl hbA hS hl hn hL ⟨rfl, by decide⟩ dL_law_892 dL_law_893 dL_law_894 dL_law_895 dL_law_896 ?_
  refine lk_arg (jn := 2) hx hb hX hbl hbA hS hl hn hL ⟨rfl, by decide⟩ dL_law_897 dL_law_898 dL_law_899 dL_law_900 dL_law_901 ?_
  refine lk_arg (jn := 3) hx hb hX hbl hbA hS hl hn hL ⟨rfl, by decide⟩ dL_law_902 dL_law_903 dL_law_904 dL_law_905 dL_law_906 ?_
  refine lk_call (k := 0) (rest := [.int (tg_I r)]) (tas := [ti_ (xs (n + 1)).toInt, ti_ (xs (n + 2)).toInt, ti_ (xs (n + 3)).toInt]) hx hb hml hown hts hK hN hD8 hA h87 hm8 hP8 hP7 hS (k_X8_get _ _ _ ν) f8 (by simp [tg_vok, tg_i32_in]) ml_L_109 im_X8_get se_X8_get in_X8 co_X8_get hy_X8_get ⟨Nat.le_of_ble_eq_true rfl, Nat.le_of_ble_eq_true rfl⟩ lm_0 rfl (by simp [tg_cv, tg_I_toInt]; rfl) hl.1 (Nat.le_of_ble_eq_true rfl) dL_law_907 hcs (fun h8 hm81 H locs hP8 hP7 hS => ?_)
  refine lv_icmp_eq (tgt := 1048) hx hb dL_law_910 (by decide) (fun _ => ?_) (fun c9 => absurd rfl c9)
  exact kk μ1 ν1 H locs hR1 hm71 hm81 hP7 hP8 hS
set_option maxRecDepth 100000 in
set_option maxHeartbeats 4000000 in
theorem lc_23 (cx : lk_Cx p s m c b L xs D G a7 a8) (hR : R_all μ ν) (hm7 : tg_mok LX μ) (hm8 : tg_mok LM ν) (hP7 : va_P D vwCl (tg_W G a7 LX μ) H) (hP8 : va_P D vwCl (tg_W G a8 LM ν) H) (hS : va_S (fun q : Nat => s.heap.size ≤ q) s.heap H locs) (hl : lv_has ls 4 [(3, .int (tg_I (n : Int))), (2, .ref (a8 0)), (1, .ref (a7 0)), (0, .ref b)]) (hn : n + 6 ≤ L) (hcs : cells ≤ room_1.cells ∧ slots ≤ room_1.slots)
    (kk : ∀ (μ1 ν1 : tg_Mem) (H1 : Heap) (locs1 : List Loc), R_all μ1 ν1 → tg_mok LX μ1 → tg_mok LM ν1 → va_P D vwCl (tg_W G a7 LX μ1) H1 → va_P D vwCl (tg_W G a8 LM ν1) H1 → va_S (fun q : Nat => s.heap.size ≤ q) s.heap H1 locs1 → W p l e room_1 s m #[Value.ref b] below meth c H1 locs1 cells slots Q (F0 m 1048 ls [])) : W p l e room_1 s m #[Value.ref b] below meth c H locs cells slots Q (F0 m 915 ls []) := by
  obtain ⟨hx, hb, hml, hown, hts, hK, hN, hDD, hX, hbl, hL⟩ := id cx
  have hA : ∀ q : Nat, s.heap.size ≤ q → (fun q : Nat => s.heap.size ≤ q) q := fun _ h => h
  have hbA : ¬ (fun q : Nat => s.heap.size ≤ q) b := Nat.not_le.mpr hbl
  have hD7 : ∀ μ, va_D (fun q : Nat => s.heap.size ≤ q) (tg_W G a7 LX μ) := fun μ => tk_D_left (hDD μ (fun _ _ => 0))
  have hD8 : ∀ ν, va_D (fun q : Nat => s.heap.size ≤ q) (tg_W G a8 LM ν) := fun ν => tk_D_right (hDD (fun _ _ => 0) ν)
  obtain ⟨r, μ1, ν1, f7, f8, hR1⟩ := s_copy (xs (n + 1)).toInt (xs (n + 2)).toInt (xs (n + 3)).toInt (xs (n + 4)).toInt (xs (n + 5)).toInt (tg_i32_in _) (tg_i32_in _) (tg_i32_in _) μ ν hR
  have h78 := tk_ap (hDD μ ν)
  have h87 : ∀ (i j : Nat) (p q : Nat × va_E), (tg_W G a8 LM ν)[i]? = some p → (tg_W G a7 LX μ1)[j]? = some q → p.1 ≠ q.1 := fun i j p q hi hj e => tk_ap (hDD μ1 ν) j i q p hj hi e.symm
  refine lv_aload_n hx hb dL_law_915 rfl (lv_at hl 2 rfl) ?_
  refine lk_arg (jn := 1) hx hb hX hbl hbA hS hl hn hL ⟨rfl, by decide⟩ dL_law_916 dL_law_917 dL_law_918 dL_law_919 dL_law_920 ?_
  refine lk_arg (jn := 2) hx hb hX hbl hbA hS hl hn hL ⟨rfl, by decide⟩ dL_law_921 dL_law_922 dL_law_923 dL_law_924 dL_law_925 ?_
  refine lk_arg (jn := 3) hx hb hX hbl hbA hS hl hn hL ⟨rfl, by decide⟩ dL_law_926 dL_law_927 dL_law_928 dL_law_929 dL_law_930 ?_
  refine lk_arg (jn := 4) hx hb hX hbl hbA hS hl hn hL ⟨rfl, by decide⟩ dL_law_931 dL_law_932 dL_law_933 dL_law_934 dL_law_935 ?_
  refine lk_arg (jn := 5) hx hb hX hbl hbA hS hl hn hL ⟨rfl, by decide⟩ dL_law_936 dL_law_937 dL_law_938 dL_law_939 dL_law_940 ?_
  refine lk_call (k := 0) (rest := []) (tas := [ti_ (xs (n + 1)).toInt, ti_ (xs (n + 2)).toInt, ti_ (xs (n + 3)).toInt, ti_ (xs (n + 4)).toInt, ti_ (xs (n + 5)).toInt]) hx hb hml hown hts hK hN hD7 hA h78 hm7 hP7 hP8 hS (k_X7_copy _ _ _ _ _ μ) f7 (by simp [tg_vok, tg_i32_in]) ml_L_110 im_X7_copy se_X7_copy in_X7 co_X7_copy hy_X7_copy ⟨Nat.le_of_ble_eq_true rfl, Nat.le_of_ble_eq_true rfl⟩ lx_0 rfl (by simp [tg_cv, tg_I_toInt]) hl.1 (Nat.le_of_ble_eq_true rfl) dL_law_941 hcs (fun h7 hm71 H locs hP7 hP8 hS => ?_)
  refine lv_aload_n hx hb dL_law_944 rfl (lv_at hl 1 rfl) ?_
  refine lk_arg (jn := 1) hx hb hX hbl hbA hS hl hn hL ⟨rfl, by decide⟩ dL_law_945 dL_law_946 dL_law_947 dL_law_948 dL_law_949 ?_
  refine lk_arg (jn := 2) hx hb hX hbl hbA hS hl hn hL ⟨rfl, by decide⟩ dL_law_950 dL_law_951 dL_law_952 dL_law_953 dL_law_954 ?_
  refine lk_arg (jn := 3) hx hb hX hbl hbA hS hl hn hL ⟨rfl, by decide⟩ dL_law_955 dL_law_956 dL_law_957 dL_law_958 dL_law_959 ?_
  refine lk_arg (jn := 4) hx hb hX hbl hbA hS hl hn hL ⟨rfl, by decide⟩ dL_law_960 dL_law_961 dL_law_962 dL_law_963 dL_law_964 ?_
  refine lk_arg (jn := 5) hx hb hX hbl hbA hS hl hn hL ⟨rfl, by decide⟩ dL_law_965 dL_law_966 dL_law_967 dL_law_968 dL_law_969 ?_
  refine lk_call (k := 0) (rest := [.int (tg_I r)]) (tas := [ti_ (xs (n + 1)).toInt, ti_ (xs (n + 2)).toInt, ti_ (xs (n + 3)).toInt, ti_ (xs (n + 4)).toInt, ti_ (xs (n + 5)).toInt]) hx hb hml hown hts hK hN hD8 hA h87 hm8 hP8 hP7 hS (k_X8_copy _ _ _ _ _ ν) f8 (by simp [tg_vok, tg_i32_in]) ml_L_114 im_X8_copy se_X8_copy in_X8 co_X8_copy hy_X8_copy ⟨Nat.le_of_ble_eq_true rfl, Nat.le_of_ble_eq_true rfl⟩ lm_0 rfl (by simp [tg_cv, tg_I_toInt]; rfl) hl.1 (Nat.le_of_ble_eq_true rfl) dL_law_970 hcs (fun h8 hm81 H locs hP8 hP7 hS => ?_)
  refine lv_icmp_eq (tgt := 1048) hx hb dL_law_973 (by decide) (fun _ => ?_) (fun c9 => absurd rfl c9)
  exact kk μ1 ν1 H locs hR1 hm71 hm81 hP7 hP8 hS
set_option maxRecDepth 100000 in
set_option maxHeartbeats 4000000 in
theorem lc_24 (cx : lk_Cx p s m c b L xs D G a7 a8) (hR : R_all μ ν) (hm7 : tg_mok LX μ) (hm8 : tg_mok LM ν) (hP7 : va_P D vwCl (tg_W G a7 LX μ) H) (hP8 : va_P D vwCl (tg_W G a8 LM ν) H) (hS : va_S (fun q : Nat => s.heap.size ≤ q) s.heap H locs) (hl : lv_has ls 4 [(3, .int (tg_I (n : Int))), (2, .ref (a8 0)), (1, .ref (a7 0)), (0, .ref b)]) (hn : n + 6 ≤ L) (hcs : cells ≤ room_1.cells ∧ slots ≤ room_1.slots)
    (kk : ∀ (μ1 ν1 : tg_Mem) (H1 : Heap) (locs1 : List Loc), R_all μ1 ν1 → tg_mok LX μ1 → tg_mok LM ν1 → va_P D vwCl (tg_W G a7 LX μ1) H1 → va_P D vwCl (tg_W G a8 LM ν1) H1 → va_S (fun q : Nat => s.heap.size ≤ q) s.heap H1 locs1 → W p l e room_1 s m #[Value.ref b] below meth c H1 locs1 cells slots Q (F0 m 1048 ls [])) : W p l e room_1 s m #[Value.ref b] below meth c H locs cells slots Q (F0 m 978 ls []) := by
  obtain ⟨hx, hb, hml, hown, hts, hK, hN, hDD, hX, hbl, hL⟩ := id cx
  have hA : ∀ q : Nat, s.heap.size ≤ q → (fun q : Nat => s.heap.size ≤ q) q := fun _ h => h
  have hbA : ¬ (fun q : Nat => s.heap.size ≤ q) b := Nat.not_le.mpr hbl
  have hD7 : ∀ μ, va_D (fun q : Nat => s.heap.size ≤ q) (tg_W G a7 LX μ) := fun μ => tk_D_left (hDD μ (fun _ _ => 0))
  have hD8 : ∀ ν, va_D (fun q : Nat => s.heap.size ≤ q) (tg_W G a8 LM ν) := fun ν => tk_D_right (hDD (fun _ _ => 0) ν)
  obtain ⟨r, μ1, ν1, f7, f8, hR1⟩ := s_write (xs (n + 1)).toInt (xs (n + 2)).toInt μ ν hR
  have h78 := tk_ap (hDD μ ν)
  have h87 : ∀ (i j : Nat) (p q : Nat × va_E), (tg_W G a8 LM ν)[i]? = some p → (tg_W G a7 LX μ1)[j]? = some q → p.1 ≠ q.1 := fun i j p q hi hj e => tk_ap (hDD μ1 ν) j i q p hj hi e.symm
  refine lv_aload_n hx hb dL_law_978 rfl (lv_at hl 2 rfl) ?_
  refine lk_arg (jn := 1) hx hb hX hbl hbA hS hl hn hL ⟨rfl, by decide⟩ dL_law_979 dL_law_980 dL_law_981 dL_law_982 dL_law_983 ?_
  refine lk_arg (jn := 2) hx hb hX hbl hbA hS hl hn hL ⟨rfl, by decide⟩ dL_law_984 dL_law_985 dL_law_986 dL_law_987 dL_law_988 ?_
  refine lk_call (k := 0) (rest := []) (tas := [ti_ (xs (n + 1)).toInt, ti_ (xs (n + 2)).toInt]) hx hb hml hown hts hK hN hD7 hA h78 hm7 hP7 hP8 hS (k_X7_write _ _ μ) f7 (by simp [tg_vok, tg_i32_in]) ml_L_115 im_X7_write se_X7_write in_X7 co_X7_write hy_X7_write ⟨Nat.le_of_ble_eq_true rfl, Nat.le_of_ble_eq_true rfl⟩ lx_0 rfl (by simp [tg_cv, tg_I_toInt]) hl.1 (Nat.le_of_ble_eq_true rfl) dL_law_989 hcs (fun h7 hm71 H locs hP7 hP8 hS => ?_)
  refine lv_aload_n hx hb dL_law_992 rfl (lv_at hl 1 rfl) ?_
  refine lk_arg (jn := 1) hx hb hX hbl hbA hS hl hn hL ⟨rfl, by decide⟩ dL_law_993 dL_law_994 dL_law_995 dL_law_996 dL_law_997 ?_
  refine lk_arg (jn := 2) hx hb hX hbl hbA hS hl hn hL ⟨rfl, by decide⟩ dL_law_998 dL_law_999 dL_law_1000 dL_law_1001 dL_law_1002 ?_
  refine lk_call (k := 0) (rest := [.int (tg_I r)]) (tas := [ti_ (xs (n + 1)).toInt, ti_ (xs (n + 2)).toInt]) hx hb hml hown hts hK hN hD8 hA h87 hm8 hP8 hP7 hS (k_X8_write _ _ ν) f8 (by simp [tg_vok, tg_i32_in]) ml_L_118 im_X8_write se_X8_write in_X8 co_X8_write hy_X8_write ⟨Nat.le_of_ble_eq_true rfl, Nat.le_of_ble_eq_true rfl⟩ lm_0 rfl (by simp [tg_cv, tg_I_toInt]; rfl) hl.1 (Nat.le_of_ble_eq_true rfl) dL_law_1003 hcs (fun h8 hm81 H locs hP8 hP7 hS => ?_)
  refine lv_icmp_eq (tgt := 1048) hx hb dL_law_1006 (by decide) (fun _ => ?_) (fun c9 => absurd rfl c9)
  exact kk μ1 ν1 H locs hR1 hm71 hm81 hP7 hP8 hS
set_option maxRecDepth 100000 in
set_option maxHeartbeats 4000000 in
theorem lc_25 (cx : lk_Cx p s m c b L xs D G a7 a8) (hR : R_all μ ν) (hm7 : tg_mok LX μ) (hm8 : tg_mok LM ν) (hP7 : va_P D vwCl (tg_W G a7 LX μ) H) (hP8 : va_P D vwCl (tg_W G a8 LM ν) H) (hS : va_S (fun q : Nat => s.heap.size ≤ q) s.heap H locs) (hl : lv_has ls 4 [(3, .int (tg_I (n : Int))), (2, .ref (a8 0)), (1, .ref (a7 0)), (0, .ref b)]) (hn : n + 6 ≤ L) (hcs : cells ≤ room_1.cells ∧ slots ≤ room_1.slots)
    (kk : ∀ (μ1 ν1 : tg_Mem) (H1 : Heap) (locs1 : List Loc), R_all μ1 ν1 → tg_mok LX μ1 → tg_mok LM ν1 → va_P D vwCl (tg_W G a7 LX μ1) H1 → va_P D vwCl (tg_W G a8 LM ν1) H1 → va_S (fun q : Nat => s.heap.size ≤ q) s.heap H1 locs1 → W p l e room_1 s m #[Value.ref b] below meth c H1 locs1 cells slots Q (F0 m 1048 ls [])) : W p l e room_1 s m #[Value.ref b] below meth c H locs cells slots Q (F0 m 1011 ls []) := by
  obtain ⟨hx, hb, hml, hown, hts, hK, hN, hDD, hX, hbl, hL⟩ := id cx
  have hA : ∀ q : Nat, s.heap.size ≤ q → (fun q : Nat => s.heap.size ≤ q) q := fun _ h => h
  have hbA : ¬ (fun q : Nat => s.heap.size ≤ q) b := Nat.not_le.mpr hbl
  have hD7 : ∀ μ, va_D (fun q : Nat => s.heap.size ≤ q) (tg_W G a7 LX μ) := fun μ => tk_D_left (hDD μ (fun _ _ => 0))
  have hD8 : ∀ ν, va_D (fun q : Nat => s.heap.size ≤ q) (tg_W G a8 LM ν) := fun ν => tk_D_right (hDD (fun _ _ => 0) ν)
  obtain ⟨r, μ1, ν1, f7, f8, hR1⟩ := s_count (xs (n + 1)).toInt μ ν hR
  have h78 := tk_ap (hDD μ ν)
  have h87 : ∀ (i j : Nat) (p q : Nat × va_E), (tg_W G a8 LM ν)[i]? = some p → (tg_W G a7 LX μ1)[j]? = some q → p.1 ≠ q.1 := fun i j p q hi hj e => tk_ap (hDD μ1 ν) j i q p hj hi e.symm
  refine lv_aload_n hx hb dL_law_1011 rfl (lv_at hl 2 rfl) ?_
  refine lk_arg (jn := 1) hx hb hX hbl hbA hS hl hn hL ⟨rfl, by decide⟩ dL_law_1012 dL_law_1013 dL_law_1014 dL_law_1015 dL_law_1016 ?_
  refine lk_call (k := 0) (rest := []) (tas := [ti_ (xs (n + 1)).toInt]) hx hb hml hown hts hK hN hD7 hA h78 hm7 hP7 hP8 hS (k_X7_count _ μ) f7 (by simp [tg_vok, tg_i32_in]) ml_L_119 im_X7_count se_X7_count in_X7 co_X7_count hy_X7_count ⟨Nat.le_of_ble_eq_true rfl, Nat.le_of_ble_eq_true rfl⟩ lx_0 rfl (by simp [tg_cv, tg_I_toInt]) hl.1 (Nat.le_of_ble_eq_true rfl) dL_law_1017 hcs (fun h7 hm71 H locs hP7 hP8 hS => ?_)
  refine lv_aload_n hx hb dL_law_1020 rfl (lv_at hl 1 rfl) ?_
  refine lk_arg (jn := 1) hx hb hX hbl hbA hS hl hn hL ⟨rfl, by decide⟩ dL_law_1021 dL_law_1022 dL_law_1023 dL_law_1024 dL_law_1025 ?_
  refine lk_call (k := 0) (rest := [.int (tg_I r)]) (tas := [ti_ (xs (n + 1)).toInt]) hx hb hml hown hts hK hN hD8 hA h87 hm8 hP8 hP7 hS (k_X8_count _ ν) f8 (by simp [tg_vok, tg_i32_in]) ml_L_122 im_X8_count se_X8_count in_X8 co_X8_count hy_X8_count ⟨Nat.le_of_ble_eq_true rfl, Nat.le_of_ble_eq_true rfl⟩ lm_0 rfl (by simp [tg_cv, tg_I_toInt]; rfl) hl.1 (Nat.le_of_ble_eq_true rfl) dL_law_1026 hcs (fun h8 hm81 H locs hP8 hP7 hS => ?_)
  refine lv_icmp_eq (tgt := 1048) hx hb dL_law_1029 (by decide) (fun _ => ?_) (fun c9 => absurd rfl c9)
  exact kk μ1 ν1 H locs hR1 hm71 hm81 hP7 hP8 hS
set_option maxRecDepth 100000 in
set_option maxHeartbeats 4000000 in
theorem lc_26 (cx : lk_Cx p s m c b L xs D G a7 a8) (hR : R_all μ ν) (hm7 : tg_mok LX μ) (hm8 : tg_mok LM ν) (hP7 : va_P D vwCl (tg_W G a7 LX μ) H) (hP8 : va_P D vwCl (tg_W G a8 LM ν) H) (hS : va_S (fun q : Nat => s.heap.size ≤ q) s.heap H locs) (hl : lv_has ls 4 [(3, .int (tg_I (n : Int))), (2, .ref (a8 0)), (1, .ref (a7 0)), (0, .ref b)]) (hn : n + 6 ≤ L) (hcs : cells ≤ room_1.cells ∧ slots ≤ room_1.slots)
    (kk : ∀ (μ1 ν1 : tg_Mem) (H1 : Heap) (locs1 : List Loc), R_all μ1 ν1 → tg_mok LX μ1 → tg_mok LM ν1 → va_P D vwCl (tg_W G a7 LX μ1) H1 → va_P D vwCl (tg_W G a8 LM ν1) H1 → va_S (fun q : Nat => s.heap.size ≤ q) s.heap H1 locs1 → W p l e room_1 s m #[Value.ref b] below meth c H1 locs1 cells slots Q (F0 m 1048 ls [])) : W p l e room_1 s m #[Value.ref b] below meth c H locs cells slots Q (F0 m 1034 ls []) := by
  obtain ⟨hx, hb, hml, hown, hts, hK, hN, hDD, hX, hbl, hL⟩ := id cx
  have hA : ∀ q : Nat, s.heap.size ≤ q → (fun q : Nat => s.heap.size ≤ q) q := fun _ h => h
  have hbA : ¬ (fun q : Nat => s.heap.size ≤ q) b := Nat.not_le.mpr hbl
  have hD7 : ∀ μ, va_D (fun q : Nat => s.heap.size ≤ q) (tg_W G a7 LX μ) := fun μ => tk_D_left (hDD μ (fun _ _ => 0))
  have hD8 : ∀ ν, va_D (fun q : Nat => s.heap.size ≤ q) (tg_W G a8 LM ν) := fun ν => tk_D_right (hDD (fun _ _ => 0) ν)
  obtain ⟨r, μ1, ν1, f7, f8, hR1⟩ := s_digest μ ν hR
  have h78 := tk_ap (hDD μ ν)
  have h87 : ∀ (i j : Nat) (p q : Nat × va_E), (tg_W G a8 LM ν)[i]? = some p → (tg_W G a7 LX μ1)[j]? = some q → p.1 ≠ q.1 := fun i j p q hi hj e => tk_ap (hDD μ1 ν) j i q p hj hi e.symm
  refine lv_aload_n hx hb dL_law_1034 rfl (lv_at hl 2 rfl) ?_
  refine lk_call (k := 0) (rest := []) (tas := []) hx hb hml hown hts hK hN hD7 hA h78 hm7 hP7 hP8 hS (k_X7_digest μ) f7 (fun v hv => by cases hv) ml_L_123 im_X7_digest se_X7_digest in_X7 co_X7_digest hy_X7_digest ⟨Nat.le_of_ble_eq_true rfl, Nat.le_of_ble_eq_true rfl⟩ lx_0 rfl rfl hl.1 (Nat.le_of_ble_eq_true rfl) dL_law_1035 hcs (fun h7 hm71 H locs hP7 hP8 hS => ?_)
  refine lv_aload_n hx hb dL_law_1038 rfl (lv_at hl 1 rfl) ?_
  refine lk_call (k := 0) (rest := [.long (tg_J r)]) (tas := []) hx hb hml hown hts hK hN hD8 hA h87 hm8 hP8 hP7 hS (k_X8_digest ν) f8 (fun v hv => by cases hv) ml_L_127 im_X8_digest se_X8_digest in_X8 co_X8_digest hy_X8_digest ⟨Nat.le_of_ble_eq_true rfl, Nat.le_of_ble_eq_true rfl⟩ lm_0 rfl rfl hl.1 (Nat.le_of_ble_eq_true rfl) dL_law_1039 hcs (fun h8 hm81 H locs hP8 hP7 hS => ?_)
  refine W.lcmp hx hb dL_law_1042 ?_
  rw [lk_cmp0]
  refine lv_if_eq (tgt := 1048) hx hb dL_law_1043 (by decide) (fun _ => ?_) (fun c9 => absurd rfl c9)
  exact kk μ1 ν1 H locs hR1 hm71 hm81 hP7 hP8 hS
end LC
