-- whether two days end alike
/-- a rope as a number, three bits to a path -/
def tk_num : List Int → Int
  | [] => 0
  | p :: r => 8 * tk_num r + p
def tk_key (S : Int × Int × List Int) : Int := 256 * tk_num S.2.2 + 8 * S.2.2.length + S.1
theorem tk_num_b : ∀ (r : List Int), (∀ p ∈ r, 0 ≤ p ∧ p ≤ 7) → 0 ≤ tk_num r ∧ tk_num r < 8 ^ r.length
  | [], _ => by decide
  | p :: r, h => by
    have h1 := tk_num_b r (fun q hq => h q (List.mem_cons_of_mem _ hq))
    have h2 := h p List.mem_cons_self
    show 0 ≤ 8 * tk_num r + p ∧ 8 * tk_num r + p < 8 ^ (r.length + 1)
    rw [Int.pow_succ]
    omega
theorem tk_num_inj : ∀ (r q : List Int), r.length = q.length → (∀ p ∈ r, 0 ≤ p ∧ p ≤ 7) → (∀ p ∈ q, 0 ≤ p ∧ p ≤ 7) → tk_num r = tk_num q → r = q
  | [], [], _, _, _, _ => rfl
  | [], _ :: _, h, _, _, _ => by simp at h
  | _ :: _, [], h, _, _, _ => by simp at h
  | a :: r, b :: q, h, h1, h2, h3 => by
    have a1 := h1 a List.mem_cons_self
    have b1 := h2 b List.mem_cons_self
    have h3 : 8 * tk_num r + a = 8 * tk_num q + b := h3
    have e : tk_num r = tk_num q := by omega
    rw [tk_num_inj r q (by simpa using h) (fun p hp => h1 p (List.mem_cons_of_mem _ hp)) (fun p hp => h2 p (List.mem_cons_of_mem _ hp)) e, show a = b by omega]
theorem tk_pow {n : Nat} (h : n ≤ 18) : (8 : Int) ^ n ≤ 18014398509481984 := by
  have : (8 : Nat) ^ n ≤ 8 ^ 18 := Nat.pow_le_pow_right (by decide) h
  have h2 : ((8 ^ n : Nat) : Int) ≤ ((8 ^ 18 : Nat) : Int) := by exact_mod_cast this
  rw [Int.natCast_pow] at h2
  exact h2
theorem tk_drop (r : List Int) (i : Nat) (p : Int) (h : r[i]? = some p) : tk_num (r.drop i) = 8 * tk_num (r.drop (i + 1)) + p := by
  obtain ⟨hi, e⟩ := List.getElem?_eq_some_iff.mp h
  rw [List.drop_eq_getElem_cons hi, e]; rfl
section ALIKE
variable {P : Int} {A B Y : Int → Int} {S : Int × Int × List Int}
theorem tr_I_m (hm : tr_md P A B Y) (hI : tr_I P A B S) : ∀ p ∈ S.2.2, 0 ≤ p ∧ p ≤ 7 := fun p hp => by
  have := tr_ok_mem _ _ hI.2.1 p hp
  have := hm.2.1
  omega
theorem tk_key_inj {T : Int × Int × List Int} (hm : tr_md P A B Y) (hI : tr_I P A B S) (hJ : tr_I P A B T) (hS : S.2.2.length ≤ 18) (hT : T.2.2.length ≤ 18) : tk_key S = tk_key T ↔ S = T := by
  constructor
  · intro h
    unfold tk_key at h
    have a := hI.1
    have b := hJ.1
    have e1 : S.1 = T.1 := by omega
    have e2 : S.2.2.length = T.2.2.length := by omega
    have e3 : tk_num S.2.2 = tk_num T.2.2 := by omega
    have e4 := tk_num_inj _ _ e2 (tr_I_m hm hI) (tr_I_m hm hJ) e3
    have e5 : S.2.1 = T.2.1 := by rw [hI.2.2.1, hJ.2.2.1, e1, e4]
    obtain ⟨s1, s2, s3⟩ := S
    obtain ⟨t1, t2, t3⟩ := T
    dsimp only at e1 e4 e5
    rw [e1, e4, e5]
  · intro h; rw [h]
theorem r_wayl {m : tg_Mem} {j31 : Int → tg_R} (hm : tr_md P A B Y) (hq : tm_rp Y m S) (hI : tr_I P A B S) (hS : S.2.2.length ≤ 18) : ∀ (N : Nat) (F : Nat), N < F → N ≤ S.2.2.length → tg_fx (f_X8_wayNow_B9 m j31) (fun _ _ => none) F (tk_num (S.2.2.drop N)) ((N : Int) - 1) = j31 (tk_num S.2.2) := by
  intro N
  induction N with
  | zero =>
    intro F hF hN
    obtain ⟨F, rfl⟩ : ∃ n', F = n' + 1 := ⟨F - 1, by omega⟩
    rw [tg_fx_s]
    unfold f_X8_wayNow_B9
    rw [if_pos (by omega)]; rfl
  | succ N ih =>
    intro F hF hN
    obtain ⟨F, rfl⟩ : ∃ n', F = n' + 1 := ⟨F - 1, by omega⟩
    have q := ih F (by omega) (by omega)
    rw [tg_fx_s]
    generalize tg_fx (f_X8_wayNow_B9 m j31) (fun _ _ => none) F = G at q ⊢
    unfold f_X8_wayNow_B9
    have e := hq.2.2.2.2.2 N (by omega)
    have hmem := tr_I_m hm hI
    have hp := hmem (m 12 N) (List.mem_of_getElem? e)
    have hb := tk_num_b (S.2.2.drop (N + 1)) (fun p hp => hmem p (List.mem_of_mem_drop hp))
    have hl : (S.2.2.drop (N + 1)).length ≤ 17 := by rw [List.length_drop]; omega
    have hpw : (8 : Int) ^ (S.2.2.drop (N + 1)).length ≤ 18014398509481984 := tk_pow (by omega)
    simp only [tg_lt]
    have ev : ((N + 1 : Nat) : Int) - 1 = N := by omega
    rw [ev, if_neg (by omega), tg_ck_pos (by omega), Int.toNat_natCast, tb_lshl3 (by omega), tb_lor 3 (by omega) hp.1 (by omega) (by omega) (by omega), tg_wi_e (by omega), ← tk_drop _ _ _ e]
    exact q
theorem r_way {m : tg_Mem} (hm : tr_md P A B Y) (hq : tm_rp Y m S) (hI : tr_I P A B S) (hS : S.2.2.length ≤ 18) : f_X8_wayNow m = some (tk_key S, m) := by
  have hmem := tr_I_m hm hI
  have hb := tk_num_b S.2.2 hmem
  have hpw : (8 : Int) ^ S.2.2.length ≤ 18014398509481984 := tk_pow hS
  have h1 := hI.1
  simp only [f_X8_wayNow, tg_lt, tg_jn]
  rw [hq.2.2.1, tg_wi_e (by omega)]
  have q := r_wayl (j31 := fun (v1_31 : Int) => tg_ck (0 ≤ 0 ∧ 0 < 2) (some (tg_lor (tg_lor (tg_lshl v1_31 8) (tg_ishl (S.2.2.length : Int) 3)) (m 11 0), m))) hm hq hI hS S.2.2.length tg_FU (by have := tg_FUg; omega) (Nat.le_refl _)
  rw [List.drop_length] at q
  refine q.trans ?_
  rw [tg_ck_pos (by omega), tb_lshl8 (by omega), tb_ishl3 (by omega), tb_lor (a := 256 * tk_num S.2.2) (b := 8 * (S.2.2.length : Int)) 8 (by omega) (by omega) (by omega) (by omega) (by omega), hq.1, tb_lor (a := 256 * tk_num S.2.2 + 8 * (S.2.2.length : Int)) (b := S.1) 3 (by omega) (by omega) (by omega) (by omega) (by omega)]
  rfl
theorem c_liesl {x : tg_Mem} {k k' : Nat} {T : Int × Int × List Int} (hr : tc_rp Y k x S) (hr2 : tc_rp Y k' x T) (hl : S.2.2.length = T.2.2.length) : ∀ (N : Nat) (i : Int) (F : Nat), N < F → 0 ≤ i → i + N = S.2.2.length → tg_fx (f_X1_liesAs_B15 k k') (fun _ _ => none) F i x = some (if S.2.2.drop i.toNat = T.2.2.drop i.toNat then 1 else 0, x) := by
  intro N
  induction N with
  | zero =>
    intro i F hF hi hiN
    obtain ⟨F, rfl⟩ : ∃ n', F = n' + 1 := ⟨F - 1, by omega⟩
    have e1 : S.2.2.drop i.toNat = [] := List.drop_eq_nil_of_le (by omega)
    have e2 : T.2.2.drop i.toNat = [] := List.drop_eq_nil_of_le (by omega)
    rw [tg_fx_s, e1, e2]
    unfold f_X1_liesAs_B15
    rw [hr.2.2.1, if_pos (by omega), if_pos rfl]
  | succ N ih =>
    intro i F hF hi hiN
    obtain ⟨F, rfl⟩ : ∃ n', F = n' + 1 := ⟨F - 1, by omega⟩
    have q := ih (i + 1) F (by omega) (by omega) (by omega)
    obtain ⟨p, p1, p2⟩ := c_pathAt (i := i) hr ⟨hi, by omega⟩
    obtain ⟨p', p3, p4⟩ := c_pathAt (i := i) hr2 ⟨hi, by omega⟩
    rw [tg_fx_s]
    generalize tg_fx (f_X1_liesAs_B15 k k') (fun _ _ => none) F = G at q ⊢
    unfold f_X1_liesAs_B15
    have hlen := hr.2.2.2.2.2.1
    obtain ⟨z1, z2⟩ := List.getElem?_eq_some_iff.mp p1
    obtain ⟨z3, z4⟩ := List.getElem?_eq_some_iff.mp p3
    have e1 : S.2.2.drop i.toNat = p :: S.2.2.drop (i + 1).toNat := by
      rw [List.drop_eq_getElem_cons z1, z2, show (i + 1).toNat = i.toNat + 1 by omega]
    have e2 : T.2.2.drop i.toNat = p' :: T.2.2.drop (i + 1).toNat := by
      rw [List.drop_eq_getElem_cons z3, z4, show (i + 1).toNat = i.toNat + 1 by omega]
    rw [hr.2.2.1, if_neg (by omega), p2, tg_bd_some, p4, tg_bd_some, e1, e2]
    simp only [tg_lt]
    by_cases hp : p = p'
    · rw [if_pos hp, tg_wi_e (by omega), q, hp]
      by_cases hd : S.2.2.drop (i + 1).toNat = T.2.2.drop (i + 1).toNat
      · rw [if_pos hd, hd, if_pos rfl]
      · rw [if_neg hd, if_neg (fun z => hd (List.cons.inj z).2)]
    · rw [if_neg hp, if_neg (fun z => hp (List.cons.inj z).1)]
theorem c_lies {x : tg_Mem} {k k' : Nat} {T : Int × Int × List Int} (hr : tc_rp Y k x S) (hr2 : tc_rp Y k' x T) : f_X1_liesAs k k' x = some (if S.2.2 = T.2.2 then 1 else 0, x) := by
  unfold f_X1_liesAs
  rw [hr.2.2.1, hr2.2.2.1]
  by_cases hl : S.2.2.length = T.2.2.length
  · rw [if_pos (by omega), c_liesl hr hr2 hl S.2.2.length 0 tg_FU (by have := tg_FUg; have := hr.2.2.2.2.2.1; omega) (by omega) (by omega)]
    simp
  · rw [if_neg (by omega), if_neg (fun z => hl (by rw [z]))]
theorem c_stands {x : tg_Mem} {k k' : Nat} {T : Int × Int × List Int} (hr : tc_rp Y k x S) (hr2 : tc_rp Y k' x T) : f_X1_standsAs k k' x = some (if S.1 = T.1 ∧ S.2.1 = T.2.1 then 1 else 0, x) := by
  simp only [f_X1_standsAs, tg_jn]
  rw [tg_ck_pos (by decide), tg_ck_pos (by decide), hr.1, hr2.1]
  by_cases h1 : S.1 = T.1
  · rw [if_neg (fun z => z h1), tg_ck_pos (by decide), tg_ck_pos (by decide), hr.2.1, hr2.2.1]
    by_cases h2 : S.2.1 = T.2.1
    · rw [if_neg (fun z => z h2), if_pos ⟨h1, h2⟩]
    · rw [if_pos h2, if_neg (fun z => h2 z.2)]
  · rw [if_pos h1, if_neg (fun z => h1 z.1)]
end ALIKE
theorem s_alike : R_st f_X7_alike f_X8_alike := by
  intro x m h
  obtain ⟨P, A, B, Y, ρ, h0, h1, w, m1, c1, c2, c3, c4, c5⟩ := R_cf h
  have h' : R_all x m1 := R_all_of h (R_xf_rf _) c5
  obtain ⟨x1, e1, e2, e3, e4, e5⟩ := R_walk (d := 0) (h0 := h0) (h1 := h1) (most := 40) (Or.inl rfl) h' (by omega) c1 c2
  obtain ⟨m2, g1, g2, g3, g4⟩ := R_runs (d := 0) (h0 := h0) (h1 := h1) (most := 40) (Or.inl rfl) h' (by omega) c1 c4
  have hR1 : R_all x1 m2 := R_all_of h' e4 g3
  have k1 : tc_cf x1 P A B Y ρ h0 h1 w := tc_cf_fr (by decide) c2 e5
  have k2 : tm_cf m2 P A B Y ρ h0 h1 w := tm_cf_fr c4 g4
  obtain ⟨x2, a1, a2, a3, a4, a5⟩ := R_walk (d := 1) (h0 := h0) (h1 := h1) (most := 40) (Or.inr rfl) hR1 (by omega) c1 k1
  obtain ⟨m3, b1, b2, b3, b4⟩ := R_runs (d := 1) (h0 := h0) (h1 := h1) (most := 40) (Or.inr rfl) hR1 (by omega) c1 k2
  obtain ⟨-, -, -, i1, i2, -⟩ := R_rn_I (d := 0) (h0 := h0) (h1 := h1) (most := 40) (Or.inl rfl) h' (by omega) c1
  obtain ⟨-, -, -, j1, j2, -⟩ := R_rn_I (d := 1) (h0 := h0) (h1 := h1) (most := 40) (Or.inr rfl) hR1 (by omega) c1
  obtain ⟨S, hS⟩ : ∃ S, S = (R_rn P A B Y ρ h0 h1 w x 0 40).2.1 := ⟨_, rfl⟩
  obtain ⟨T, hT⟩ : ∃ T, T = (R_rn P A B Y ρ h0 h1 w x1 1 40).2.1 := ⟨_, rfl⟩
  have r1 : tc_rp Y 13 x2 S := by
    rw [hS]
    have := e2.1
    exact tc_rp_of this (a5.1 13 (by decide) (by decide) (by decide) (by decide) (by decide) (by decide)) (a5.1 14 (by decide) (by decide) (by decide) (by decide) (by decide) (by decide)) (a5.1 15 (by decide) (by decide) (by decide) (by decide) (by decide) (by decide))
  have r2 : tc_rp Y 21 x2 T := by rw [hT]; exact a2.1
  have r3 : tm_rp Y m2 S := by rw [hS]; exact g2.1
  have r4 : tm_rp Y m3 T := by rw [hT]; exact b2.1
  rw [← hS] at i1 i2
  rw [← hT] at j1 j2
  have hρ := c1.2.1
  have lS := (tr_I_b c1.1 i1).2.2.1
  have lT := (tr_I_b c1.1 j1).2.2.1
  have w1 := r_way c1.1 r3 i1 (by omega)
  have w2 := r_way c1.1 r4 j1 (by omega)
  have inj := tk_key_inj c1.1 i1 j1 (by omega) (by omega)
  refine ⟨if S = T then 1 else if S.1 = T.1 ∧ S.2.1 = T.2.1 then 2 else 0, x2, m3, ?_, ?_, R_all_of hR1 a4 b3⟩
  · simp only [f_X7_alike, f_X7_ended]
    rw [R_dayOf (Or.inl rfl), tg_bd_some, Int.toNat_natCast, e1, tg_bd_some, tg_bd_some, R_dayOf (Or.inr rfl), tg_bd_some, Int.toNat_natCast, a1, tg_bd_some, tg_bd_some, Int.toNat_natCast, Int.toNat_natCast]
    show tg_bd (f_X1_standsAs 13 21 x2) _ = _
    rw [c_stands r1 r2, tg_bd_some]
    by_cases hst : S.1 = T.1 ∧ S.2.1 = T.2.1
    · rw [if_pos hst, if_pos (by decide)]
      show tg_bd (f_X1_liesAs 13 21 x2) _ = _
      rw [c_lies r1 r2, tg_bd_some]
      by_cases hl : S.2.2 = T.2.2
      · have : S = T := by
          obtain ⟨s1, s2, s3⟩ := S
          obtain ⟨t1, t2, t3⟩ := T
          dsimp only at hst hl
          rw [hst.1, hst.2, hl]
        rw [if_pos hl, if_neg (by decide), if_pos this]
      · rw [if_neg hl, if_pos rfl, if_neg (fun z => hl (by rw [z])), if_pos hst]
    · rw [if_neg hst, if_neg (by decide), if_neg (fun z => hst ⟨by rw [z], by rw [z]⟩), if_neg hst]
  · simp only [f_X8_alike, f_X8_alikeNow, f_X8_done, tg_lt, tg_jn]
    rw [c3, tg_bd_some, g1, tg_bd_some, tg_bd_some, w1, tg_bd_some, tg_ck_pos (by decide), tg_ck_pos (by decide), b1, tg_bd_some, tg_bd_some, w2, tg_bd_some]
    by_cases hST : S = T
    · rw [if_neg (fun z => z (inj.mpr hST)), if_pos hST]; rfl
    · rw [if_pos (fun z => hST (inj.mp z)), tg_ck_pos (by decide), if_neg hST, r3.1, r3.2.1, r4.1]
      by_cases h1 : S.1 = T.1
      · rw [if_neg (fun z => z h1), tg_ck_pos (by decide), r4.2.1]
        by_cases h2 : S.2.1 = T.2.1
        · rw [if_neg (fun z => z h2), if_pos ⟨h1, h2⟩]; rfl
        · rw [if_pos h2, if_neg (fun z => h2 z.2)]; rfl
      · rw [if_pos h1, if_neg (fun z => h1 z.1)]; rfl
