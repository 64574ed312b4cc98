-- the reference takes up a way that it has kept, and keeps one
theorem tk_div : ∀ (i : Nat) (r : List Int), (∀ p ∈ r, 0 ≤ p ∧ p ≤ 7) → (tk_num r).toNat / 8 ^ i = (tk_num (r.drop i)).toNat
  | 0, r, _ => by simp
  | i + 1, [], _ => by simp [tk_num]
  | i + 1, p :: r, h => by
    have h1 := tk_num_b r (fun q hq => h q (List.mem_cons_of_mem _ hq))
    have h2 := h p List.mem_cons_self
    have e : (tk_num (p :: r)).toNat / 8 = (tk_num r).toNat := by
      show (8 * tk_num r + p).toNat / 8 = _
      omega
    rw [show (8 : Nat) ^ (i + 1) = 8 * 8 ^ i from Nat.pow_succ', ← Nat.div_div_eq_div_mul, e, tk_div i r (fun q hq => h q (List.mem_cons_of_mem _ hq))]
    rfl
section COMES
variable {P : Int} {A B Y : Int → Int} {S : tr_S}
theorem tk_bb (hm : tr_md P A B Y) (hI : tr_I P A B S) (hl : S.2.2.length ≤ 18) : 0 ≤ tk_num S.2.2 ∧ tk_num S.2.2 < 18014398509481984 ∧ 0 ≤ tk_key S ∧ tk_key S < 9223372036854775808 := by
  have h1 := tk_num_b S.2.2 (tr_I_m hm hI)
  have h2 := tk_pow hl
  have h3 := hI.1
  unfold tk_key
  omega
theorem tk_path {i : Nat} {p : Int} (hm : tr_md P A B Y) (hI : tr_I P A B S) (hl : S.2.2.length ≤ 18) (hp : S.2.2[i]? = some p) : tg_l2i (tg_land (tg_lshr (tk_key S) (8 + 3 * (i : Int))) 7) = p := by
  have hmem := tr_I_m hm hI
  have hb := tk_bb hm hI hl
  have hil := (List.getElem?_eq_some_iff.mp hp).1
  have hpp := hmem p (List.mem_of_getElem? hp)
  have hd := tk_num_b (S.2.2.drop (i + 1)) (fun q hq => hmem q (List.mem_of_mem_drop hq))
  have e1 : (tk_key S).toNat / 2 ^ (8 + 3 * (i : Int)).toNat = (tk_num (S.2.2.drop i)).toNat := by
    rw [show (8 + 3 * (i : Int)).toNat = 8 + 3 * i by omega, Nat.pow_add, Nat.pow_mul, ← Nat.div_div_eq_div_mul]
    have e2 : (tk_key S).toNat / 2 ^ 8 = (tk_num S.2.2).toNat := by
      have := hI.1
      unfold tk_key
      omega
    rw [e2]
    exact tk_div i S.2.2 hmem
  have hle : (tk_num (S.2.2.drop i)).toNat ≤ (tk_key S).toNat := by rw [← e1]; exact Nat.div_le_self _ _
  rw [tb_lshr ⟨hb.2.2.1, hb.2.2.2⟩ (by omega), e1, tb_land7 (by omega), tk_drop _ _ _ hp, tb_l2i (by omega)]
  omega
theorem r_comesl {j113 : Int → tg_Mem → tg_R} (hm : tr_md P A B Y) (hI : tr_I P A B S) (hl : S.2.2.length ≤ 18) : ∀ (N i : Nat) (m : tg_Mem) (F : Nat), N < F → i + N = S.2.2.length → tm_md m P A B Y → m 0 15 = S.2.2.length → m 0 16 = tr_len Y (S.2.2.take i) → (∀ j : Nat, j < i → S.2.2[j]? = some (m 12 j)) →
    ∃ m', tg_fx (f_X8_comesTo_B39 (tk_key S) j113) (fun _ _ _ => none) F (tr_fin A B S.1 (S.2.2.take i)) (i : Int) m = j113 S.2.1 m' ∧ (∀ c, c ≠ 0 → c ≠ 12 → m' c = m c) ∧ (∀ j, j ≠ 16 → m' 0 j = m 0 j) ∧ m' 0 16 = tr_len Y S.2.2 ∧ (∀ j : Nat, j < S.2.2.length → S.2.2[j]? = some (m' 12 j)) := by
  intro N
  induction N with
  | zero =>
    intro i m F hF hi hx h15 h16 h12
    obtain ⟨F, rfl⟩ : ∃ n', F = n' + 1 := ⟨F - 1, by omega⟩
    have e : i = S.2.2.length := by omega
    refine ⟨m, ?_, fun _ _ _ => rfl, fun _ _ => rfl, ?_, fun j hj => h12 j (by omega)⟩
    · rw [tg_fx_s, e, List.take_length, ← hI.2.2.1]
      unfold f_X8_comesTo_B39
      rw [h15, if_pos (by omega)]
    · rw [h16, e, List.take_length]
  | succ N ih =>
    intro i m F hF hi hx h15 h16 h12
    obtain ⟨F, rfl⟩ : ∃ n', F = n' + 1 := ⟨F - 1, by omega⟩
    obtain ⟨p, hp⟩ : ∃ p, S.2.2[i]? = some p := ⟨_, List.getElem?_eq_getElem (by omega)⟩
    have e1 := kc_take hp
    have e2 : S.2.2.drop i = p :: S.2.2.drop (i + 1) := by
      obtain ⟨z1, z2⟩ := List.getElem?_eq_some_iff.mp hp
      rw [List.drop_eq_getElem_cons z1, z2]
    have hok := tr_ok_drop (P := P) (A := A) (B := B) i S.1 S.2.2 hI.2.1
    rw [e2] at hok
    have ht := hok.1
    have hpP := hm.2.1
    have ht1 := ht.1
    have ht2 := ht.2.1
    have hpl := tr_oth_in hm (tr_tch_oth ht)
    rw [tr_oth_oth hm ht] at hpl
    have e3 : tr_fin A B S.1 (S.2.2.take (i + 1)) = tr_oth A B p (tr_fin A B S.1 (S.2.2.take i)) := by rw [e1, tr_fin_app]
    have e4 : tr_len Y (S.2.2.take (i + 1)) = tr_len Y (S.2.2.take i) + Y p := by rw [e1, tr_len_app]; simp only [tr_len]; omega
    have hYp := (hm.2.2 p ht.1 ht.2.1).2.2.2
    have hlb := tr_len_b hm (S.2.2.take i) (fun q hq => tr_ok_mem _ _ hI.2.1 q (List.mem_of_mem_take hq))
    have htl : (S.2.2.take i).length ≤ 18 := by rw [List.length_take]; omega
    obtain ⟨m1, hm1⟩ : ∃ m1, m1 = tg_up m 12 i p := ⟨_, rfl⟩
    have hx1 : tm_md m1 P A B Y := tm_md_of hx (by rw [hm1, tg_up_k (by decide)]) (by rw [hm1, tg_up_k (by decide)])
    obtain ⟨m2, hm2⟩ : ∃ m2, m2 = tg_up m1 0 16 (tr_len Y (S.2.2.take (i + 1))) := ⟨_, rfl⟩
    have f2 : ∀ c, c ≠ 0 → c ≠ 12 → m2 c = m c := fun c c1 c2 => by rw [hm2, tg_up_k c1, hm1, tg_up_k c2]
    have f20 : ∀ j, j ≠ 16 → m2 0 j = m 0 j := fun j hj => by rw [hm2, tg_up_j hj, hm1, tg_up_k (by decide)]
    obtain ⟨m', q1, q2, q3, q4, q5⟩ := ih (i + 1) m2 F (by omega) (by omega) (tm_md_of hx (f20 8 (by decide)) (f2 7 (by decide) (by decide))) (by rw [f20 15 (by decide)]; exact h15) (by rw [hm2, tg_up_same]) (fun j hj => by
      by_cases c : j = i
      · rw [c, hp, hm2, tg_up_k (by decide), hm1, tg_up_same]
      · rw [h12 j (by omega), hm2, tg_up_k (by decide), hm1, tg_up_j c])
    refine ⟨m', ?_, fun c c1 c2 => by rw [q2 c c1 c2, f2 c c1 c2], fun j hj => by rw [q3 j hj, f20 j hj], q4, q5⟩
    rw [tg_fx_s]
    rw [e3, show ((i + 1 : Nat) : Int) = (i : Int) + 1 by omega] at q1
    generalize tg_fx (f_X8_comesTo_B39 (tk_key S) j113) (fun _ _ _ => none) F = G at q1 ⊢
    unfold f_X8_comesTo_B39
    simp only [tg_lt]
    have e12 : m1 12 i = p := by rw [hm1, tg_up_same]
    have e16 : m1 0 16 = tr_len Y (S.2.2.take i) := by rw [hm1, tg_up_k (by decide)]; exact h16
    rw [h15, if_neg (by omega), tg_ck_pos (by omega), Int.toNat_natCast, tg_wi_e (a := 3 * (i : Int)) (by omega), tg_wi_e (a := 8 + 3 * (i : Int)) (by omega), tk_path hm hI hl hp, ← hm1, tg_ck_pos (by omega), e12, r_other hm hx1 ht hpl, tg_bd_some, tg_ck_pos (by omega), e12, tg_wi_e (a := 3 * p) (by omega), tg_wi_e (a := 3 * p + 2) (by omega), tg_ck_pos (by omega), e16, (hx1.2 p ht.1 ht.2.1).2.2, tg_wi_e (a := tr_len Y (S.2.2.take i) + Y p) (by omega), ← e4, ← hm2, tg_wi_e (a := (i : Int) + 1) (by omega)]
    exact q1
theorem r_comes {m : tg_Mem} (hm : tr_md P A B Y) (hI : tr_I P A B S) (hl : S.2.2.length ≤ 18) (hx : tm_md m P A B Y) : ∃ m', f_X8_comesTo (tk_key S) m = some (0, m') ∧ tm_rp Y m' S ∧ (∀ c, c ≠ 0 → c ≠ 11 → c ≠ 12 → m' c = m c) ∧ (∀ j, j ≠ 15 → j ≠ 16 → m' 0 j = m 0 j) := by
  have hb := tk_bb hm hI hl
  have h1 := hI.1
  have e1 : tg_l2i (tg_land (tk_key S) 7) = S.1 := by
    rw [tb_land7 ⟨hb.2.2.1, hb.2.2.2⟩, tb_l2i (by omega)]
    unfold tk_key; omega
  have e2 : tg_l2i (tg_land (tg_lshr (tk_key S) 3) 31) = S.2.2.length := by
    rw [tb_lshr3 ⟨hb.2.2.1, hb.2.2.2⟩, tb_land31 (by omega), tb_l2i (by omega)]
    unfold tk_key; omega
  obtain ⟨m1, hm1⟩ : ∃ m1, m1 = tg_up (tg_up m 11 0 S.1) 0 15 (S.2.2.length : Int) := ⟨_, rfl⟩
  obtain ⟨m2, hm2⟩ : ∃ m2, m2 = tg_up m1 0 16 0 := ⟨_, rfl⟩
  have f2 : ∀ c, c ≠ 0 → c ≠ 11 → m2 c = m c := fun c c1 c2 => by rw [hm2, tg_up_k c1, hm1, tg_up_k c1, tg_up_k c2]
  have f20 : ∀ j, j ≠ 15 → j ≠ 16 → m2 0 j = m 0 j := fun j j1 j2 => by rw [hm2, tg_up_j j2, hm1, tg_up_j j1, tg_up_k (by decide)]
  have f15 : m2 0 15 = S.2.2.length := by rw [hm2, tg_up_j (by decide), hm1, tg_up_same]
  have f11 : m2 11 0 = S.1 := by rw [hm2, tg_up_k (by decide), hm1, tg_up_k (by decide), tg_up_same]
  obtain ⟨m3, q1, q2, q3, q4, q5⟩ := r_comesl (Y := Y) (m := m2) (j113 := fun (v3_113 : Int) (m_113 : tg_Mem) => tg_ck (0 ≤ 1 ∧ 1 < 2) (some (0, tg_up m_113 11 1 v3_113))) hm hI hl S.2.2.length 0 tg_FU (by have := tg_FUg; omega) (by omega) (tm_md_of hx (f20 8 (by decide) (by decide)) (f2 7 (by decide) (by decide))) f15 (by rw [hm2, tg_up_same]; rfl) (fun j hj => by omega)
  refine ⟨tg_up m3 11 1 S.2.1, ?_, ⟨?_, ?_, ?_, ?_, ?_, fun i hi => ?_⟩, fun c c1 c2 c3 => by rw [tg_up_k c2, q2 c c1 c3, f2 c c1 c2], fun j j1 j2 => by rw [tg_up_k (by decide), q3 j j2, f20 j j1 j2]⟩
  · simp only [f_X8_comesTo, tg_lt, tg_jn]
    rw [tg_ck_pos (by decide), e1, e2, tg_ck_pos (by decide), ← hm1, ← hm2]
    have e11 : m1 11 0 = S.1 := by rw [hm1, tg_up_k (by decide), tg_up_same]
    rw [e11]
    refine q1.trans ?_
    rw [tg_ck_pos (by decide)]
  · rw [tg_up_j (by decide), q2 11 (by decide) (by decide)]; exact f11
  · rw [tg_up_same]
  · rw [tg_up_k (by decide), q3 15 (by decide)]; exact f15
  · rw [tg_up_k (by decide)]; exact q4
  · omega
  · rw [tg_up_k (by decide)]; exact q5 i hi
end COMES
def tm_w (m : tg_Mem) (M : List tr_S) : Prop := m 0 21 = M.length ∧ M.length ≤ 1001 ∧ (∀ (i : Nat) (S : tr_S), M[i]? = some S → m 15 i = tk_key S)
section KEEPS
variable {P : Int} {A B Y : Int → Int} {ρ : Int}
theorem r_keepsl_T {m : tg_Mem} {M : List tr_S} {K : Int} {j28 : tg_R} (hw : tm_w m M) {i : Nat} (hi : i < M.length) (hk : m 15 i = K) : ∀ (N c F : Nat), N < F → c + N = i → tg_fx (f_X8_keepsWay_B2 K m j28) (fun _ => none) F (c : Int) = some (0, m) := by
  obtain ⟨w1, w2, w3⟩ := hw
  intro N
  induction N with
  | zero =>
    intro c F hF hc
    obtain ⟨F, rfl⟩ : ∃ n', F = n' + 1 := ⟨F - 1, by omega⟩
    have e : c = i := by omega
    rw [tg_fx_s, e]
    unfold f_X8_keepsWay_B2
    rw [w1, if_neg (by omega), tg_ck_pos (by omega), Int.toNat_natCast, if_neg (fun z => z hk)]
  | succ N ih =>
    intro c F hF hc
    obtain ⟨F, rfl⟩ : ∃ n', F = n' + 1 := ⟨F - 1, by omega⟩
    have q := ih (c + 1) F (by omega) (by omega)
    rw [tg_fx_s]
    generalize tg_fx (f_X8_keepsWay_B2 K m j28) (fun _ => none) F = G at q ⊢
    unfold f_X8_keepsWay_B2
    simp only [tg_lt]
    rw [w1, if_neg (by omega), tg_ck_pos (by omega), Int.toNat_natCast]
    by_cases z : m 15 c = K
    · rw [if_neg (fun y => y z)]
    · rw [if_pos z, tg_wi_e (by omega), show (c : Int) + 1 = ((c + 1 : Nat) : Int) by omega]; exact q
theorem r_keepsl_F {m : tg_Mem} {M : List tr_S} {K : Int} {j28 : tg_R} (hw : tm_w m M) (hk : ∀ i : Nat, i < M.length → m 15 i ≠ K) : ∀ (N c F : Nat), N < F → c + N = M.length → tg_fx (f_X8_keepsWay_B2 K m j28) (fun _ => none) F (c : Int) = j28 := by
  obtain ⟨w1, w2, w3⟩ := hw
  intro N
  induction N with
  | zero =>
    intro c F hF hc
    obtain ⟨F, rfl⟩ : ∃ n', F = n' + 1 := ⟨F - 1, by omega⟩
    rw [tg_fx_s]
    unfold f_X8_keepsWay_B2
    rw [w1, if_pos (by omega)]
  | succ N ih =>
    intro c F hF hc
    obtain ⟨F, rfl⟩ : ∃ n', F = n' + 1 := ⟨F - 1, by omega⟩
    have q := ih (c + 1) F (by omega) (by omega)
    rw [tg_fx_s]
    generalize tg_fx (f_X8_keepsWay_B2 K m j28) (fun _ => none) F = G at q ⊢
    unfold f_X8_keepsWay_B2
    simp only [tg_lt]
    rw [w1, if_neg (by omega), tg_ck_pos (by omega), Int.toNat_natCast, if_pos (hk c (by omega)), tg_wi_e (by omega), show (c : Int) + 1 = ((c + 1 : Nat) : Int) by omega]
    exact q
theorem r_keeps {m : tg_Mem} {M : List tr_S} {S : tr_S} (hm : tr_md P A B Y) (hρ : ρ ≤ 18) (hw : tm_w m M) (hS : ts_va P A B Y ρ S) (hall : ∀ T ∈ M, ts_va P A B Y ρ T) :
    ∃ m', f_X8_keepsWay (tk_key S) m = some (0, m') ∧ tm_w m' (ts_nt M S) ∧ (∀ c, c ≠ 0 → c ≠ 15 → m' c = m c) ∧ ∀ j, j ≠ 21 → m' 0 j = m 0 j := by
  have hw0 := hw
  obtain ⟨w1, w2, w3⟩ := hw
  by_cases hin : S ∈ M
  · obtain ⟨i, hi⟩ := List.mem_iff_getElem?.mp hin
    have hil := (List.getElem?_eq_some_iff.mp hi).1
    have e : ts_nt M S = M := by
      unfold ts_nt ts_nu
      rw [if_pos hin]; simp
    refine ⟨m, ?_, by rw [e]; exact hw0, fun _ _ _ => rfl, fun _ _ => rfl⟩
    simp only [f_X8_keepsWay]
    refine tg_jn_d (fun J hJ => ?_)
    exact r_keepsl_T hw0 hil (w3 i S hi) i 0 tg_FU (by have := tg_FUg; omega) (by omega)
  · have hne : ∀ i : Nat, i < M.length → m 15 i ≠ tk_key S := by
      intro i hi z
      obtain ⟨T, hT⟩ : ∃ T, M[i]? = some T := ⟨_, List.getElem?_eq_getElem hi⟩
      rw [w3 i T hT] at z
      have hTm := List.mem_of_getElem? hT
      have hTv := hall T hTm
      have := (tk_key_inj hm hTv.1 hS.1 (ts_va_l hm hρ hTv) (ts_va_l hm hρ hS)).mp z
      rw [this] at hTm
      exact hin hTm
    by_cases hful : 1000 < M.length
    · have e : ts_nt M S = M := if_pos hful
      refine ⟨m, ?_, by rw [e]; exact hw0, fun _ _ _ => rfl, fun _ _ => rfl⟩
      simp only [f_X8_keepsWay]
      refine tg_jn_d (fun J hJ => ?_)
      refine (r_keepsl_F hw0 hne M.length 0 tg_FU (by have := tg_FUg; omega) (by omega)).trans ?_
      rw [hJ, if_pos (by omega)]
    · have e : ts_nt M S = M ++ [S] := by
        unfold ts_nt ts_nu
        rw [if_neg hful, if_neg hin]
      obtain ⟨m', hm'⟩ : ∃ m', m' = tg_up (tg_up m 15 M.length (tk_key S)) 0 21 ((M.length : Int) + 1) := ⟨_, rfl⟩
      refine ⟨m', ?_, ?_, fun c c1 c2 => by rw [hm', tg_up_k c1, tg_up_k c2], fun j hj => by rw [hm', tg_up_j hj, tg_up_k (by decide)]⟩
      · simp only [f_X8_keepsWay]
        refine tg_jn_d (fun J hJ => ?_)
        refine (r_keepsl_F hw0 hne M.length 0 tg_FU (by have := tg_FUg; omega) (by omega)).trans ?_
        rw [hJ, if_neg (by omega)]
        simp only [tg_lt]
        rw [w1, tg_ck_pos (by omega), Int.toNat_natCast, tg_up_k (by decide : (0 : Nat) ≠ 15), w1, tg_wi_e (by omega), ← hm']
      · rw [e]
        refine ⟨?_, ?_, fun i T hT => ?_⟩
        · rw [hm', tg_up_same, List.length_append, List.length_singleton]; omega
        · rw [List.length_append, List.length_singleton]; omega
        · by_cases c : i < M.length
          · rw [List.getElem?_append_left c] at hT
            rw [hm', tg_up_k (by decide), tg_up_j (by omega)]; exact w3 i T hT
          · have hlt := (List.getElem?_eq_some_iff.mp hT).1
            rw [List.length_append, List.length_singleton] at hlt
            have e : i = M.length := by omega
            rw [e] at hT ⊢
            rw [List.getElem?_append_right (Nat.le_refl _), Nat.sub_self] at hT
            have hST : S = T := by simpa using hT
            rw [hm', tg_up_k (by decide), tg_up_same, hST]
end KEEPS
