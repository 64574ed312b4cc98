-- more parts of the reference's calls, for a memory that has read the meadow already
section QR
variable {d : Int}
theorem tm_cf_h {m m' : tg_Mem} {P : Int} {A B Y : Int → Int} {ρ h0 h1 : Int} {w : Int → Int} (h : tm_cf m P A B Y ρ h0 h1 w) (h8 : m' 0 8 = m 0 8) (h7 : m' 7 = m 7) (h9 : m' 9 = m 9) (h10 : m' 10 = m 10) : tm_cf m' P A B Y ρ h0 h1 w := by
  obtain ⟨a, b, c, d, e⟩ := h
  exact ⟨tm_md_of a h8 h7, by rw [h9]; exact b, by rw [h9]; exact c, by rw [h9]; exact d, by rw [h10]; exact e⟩
theorem q_soon {f s : Int} (hd : d = 0 ∨ d = 1) (hf : 0 ≤ f ∧ f < 8) (hs : 0 ≤ s ∧ s < 8) : R_sq (f_X7_soon d f s) (f_X8_soonOf d f s) := by
  intro x m1 P A B Y ρ h0 h1 w h' c1 c2 c4
  obtain ⟨x1, a1, a2, a3, a4, a5⟩ := R_walk (h0 := h0) (h1 := h1) (most := 40) hd h' (by omega) c1 c2
  obtain ⟨m2, g1, g2, g3, g4⟩ := R_runs (h0 := h0) (h1 := h1) (most := 40) hd h' (by omega) c1 c4
  obtain ⟨-, -, -, i1, i2, -⟩ := R_rn_I (h0 := h0) (h1 := h1) (most := 40) hd h' (by omega) c1
  have hkb := R_kb hd
  have k1 : tc_cf x1 P A B Y ρ h0 h1 w := tc_cf_fr hkb.1 c2 a5
  have k2 : tm_cf m2 P A B Y ρ h0 h1 w := tm_cf_fr c4 g4
  obtain ⟨S, hS⟩ : ∃ S, S = (R_rn P A B Y ρ h0 h1 w x d 40).2.1 := ⟨_, rfl⟩
  have r1 : tc_rp Y (R_k d + 3) x1 S := by rw [hS]; exact a2.1
  have r2 : tm_rp Y m2 S := by rw [hS]; exact g2.1
  rw [← hS] at i1 i2
  have hρ := c1.2.1
  have hva : ts_va P A B Y ρ S := ⟨i1, i2⟩
  have hl := ts_va_l c1.1 hρ.2 hva
  have hlb := tr_I_b c1.1 i1
  have e5 : ((R_k d : Nat) : Int).toNat + 3 = R_k d + 3 := by omega
  have ex : ∀ K, f_X3_fewest (R_k d + 3) f s x1 = K → f_X7_soon d f s x = tg_bd K (fun r43 m43 => some (r43, m43)) := by
    intro K hK
    simp only [f_X7_soon, f_X7_ended]
    rw [b_isBelowT (by omega), tg_bd_some, if_neg (by decide), b_isBelowT hf, tg_bd_some, if_neg (by decide), b_isBelowT hs, tg_bd_some, if_pos (by decide), R_dayOf hd, tg_bd_some, Int.toNat_natCast, a1, tg_bd_some, tg_bd_some, Int.toNat_natCast, hK]
  have hR1 : R_all x1 m2 := R_all_of h' a4 g3
  by_cases hgo : S.1 = f ∧ S.2.1 = s
  · have ek : f_X3_fewest (R_k d + 3) f s x1 = some (0, x1) := by
      simp only [f_X3_fewest, f_X3_stand, tg_jn]
      rw [tg_ck_pos (by decide), r1.1, hgo.1, if_neg (fun z => z rfl), tg_ck_pos (by decide), r1.2.1, hgo.2, if_neg (fun z => z rfl), tg_bd_some, if_neg (by decide)]
    have er : f_X8_soonOf d f s m1 = some (0, m2) := by
      simp only [f_X8_soonOf, f_X8_done, tg_jn]
      rw [g1, tg_bd_some, tg_bd_some, tg_ck_pos (by decide), r2.1, hgo.1, if_neg (fun z => z rfl), tg_ck_pos (by decide), r2.2.1, hgo.2, if_neg (fun z => z rfl)]
    exact ⟨0, x1, m2, by rw [ex _ ek]; rfl, er, a4, g3, k2⟩
  · obtain ⟨x2, b1, b2, b3⟩ := c_fill (K := 31) (n := 2048) (v := 0) (x := x1) (by decide)
    obtain ⟨x3, hx3⟩ : ∃ x3, x3 = tg_up x2 26 4 0 := ⟨_, rfl⟩
    have f3 : ∀ c, c ≠ 26 → c ≠ 31 → x3 c = x1 c := fun c q1 q2 => by rw [hx3, tg_up_k q1, b3 c q2]
    have hw3 : tw_x x3 [] := tw_x0 (by rw [hx3, tg_up_same]) (fun j hj => by rw [hx3, tg_up_k (by decide)]; exact b2 j hj)
    have r3 : tc_rp Y (R_k d + 3) x3 S := tc_rp_of r1 (f3 _ (by omega) (by omega)) (f3 _ (by omega) (by omega)) (f3 _ (by omega) (by omega))
    have ekey := c_key r3 (tr_I_m c1.1 i1) hl hlb.2.1
    obtain ⟨x4, n1, n2, n3, -⟩ := c_note c1.1 hw3 i1 (fun T hT => (by cases hT))
    have ent : ts_nt [] S = [S] := rfl
    rw [ent] at n2
    have f4 : ∀ c, c ≠ 26 → c ≠ 30 → c ≠ 31 → x4 c = x1 c := fun c q1 q2 q3 => by rw [n3 c q1 q2 q3, f3 c q1 q3]
    obtain ⟨m3, hm3⟩ : ∃ m3, m3 = tg_up m2 0 21 0 := ⟨_, rfl⟩
    have e3 : ∀ c, c ≠ 0 → m3 c = m2 c := fun c q => by rw [hm3, tg_up_k q]
    have e30 : ∀ j, j ≠ 21 → m3 0 j = m2 0 j := fun j q => by rw [hm3, tg_up_j q]
    have rr3 : tm_rp Y m3 S := tm_rp_of r2 (e3 11 (by decide)) (e3 12 (by decide)) (e30 15 (by decide)) (e30 16 (by decide))
    have ew := r_way c1.1 rr3 i1 hl
    have hwm3 : tm_w m3 [] := ⟨by rw [hm3, tg_up_same]; rfl, by decide, fun i S h => (by cases h)⟩
    obtain ⟨m4, u1, u2, u3, u4⟩ := r_keeps c1.1 hρ.2 hwm3 hva (fun T hT => (by cases hT))
    rw [ent] at u2
    have e4 : ∀ c, c ≠ 0 → c ≠ 15 → m4 c = m2 c := fun c q1 q2 => by rw [u3 c q1 q2, e3 c q1]
    have e40 : ∀ j, j ≠ 21 → m4 0 j = m2 0 j := fun j q => by rw [u4 j q, e30 j q]
    have hone : ∀ T ∈ [S], ts_va P A B Y ρ T := fun T hT => by rw [List.mem_singleton.mp hT]; exact hva
    obtain ⟨r, x', m', q1, q2, q3, q4, q5⟩ := s_rounds (f := f) (s := s) c1.1 hρ 1000 0 1 [S] [S] x4 m4 tg_FU tg_FU (by simp) (by simp) (by have := tg_FUg; omega) (by have := tg_FUg; omega) (by simp) (by decide) (by simp)
      (tc_md_of k1.1 (by rw [f4 1 (by decide) (by decide) (by decide)]) (f4 7 (by decide) (by decide) (by decide)) (f4 8 (by decide) (by decide) (by decide)) (f4 9 (by decide) (by decide) (by decide)))
      (by rw [f4 1 (by decide) (by decide) (by decide)]; exact k1.2.1) n2 hone (tm_md_of k2.1 (e40 8 (by decide)) (e4 7 (by decide) (by decide))) (by rw [e4 9 (by decide) (by decide)]; exact k2.2.1) u2 (by simp) hone (fun X => Iff.rfl) (fun X => Iff.rfl)
    have ek : f_X3_fewest (R_k d + 3) f s x1 = some (r, x') := by
      have est : f_X3_stand (R_k d + 3) f s x1 = some (0, x1) := by
        simp only [f_X3_stand, tg_jn]
        rw [tg_ck_pos (by decide), r1.1]
        by_cases z1 : S.1 = f
        · rw [if_neg (fun z => z z1), tg_ck_pos (by decide), r1.2.1, if_pos (fun z => hgo ⟨z1, z⟩)]
        · rw [if_pos z1]
      simp only [f_X3_fewest, tg_lt]
      rw [est, tg_bd_some, if_pos rfl, b1, tg_bd_some, ← hx3, ekey, tg_bd_some, n1, tg_bd_some]
      exact q1
    have er : f_X8_soonOf d f s m1 = some (r, m') := by
      have e9 : tg_lt (tg_up m2 0 21 0) (fun m30 => tg_bd (f_X8_wayNow m30) (fun r35 m35 => tg_bd (f_X8_keepsWay r35 m35) (fun _ m38 => tg_fx (γ := Int → Int → tg_Mem → tg_R) (f_X8_soonOf_B47 f s) (fun _ _ _ => none) tg_FU 0 0 m38))) = some (r, m') := by
        simp only [tg_lt]
        rw [← hm3, ew, tg_bd_some, u1, tg_bd_some]
        exact q2
      simp only [f_X8_soonOf, f_X8_done]
      rw [g1, tg_bd_some, tg_bd_some, tg_ck_pos (by decide)]
      refine tg_jn_d (fun J hJ => ?_)
      rw [r2.1]
      by_cases z1 : S.1 = f
      · rw [if_neg (fun z => z z1), tg_ck_pos (by decide), r2.2.1, if_pos (fun z => hgo ⟨z1, z⟩), hJ]; exact e9
      · rw [if_pos z1, hJ]; exact e9
    have fx : ∀ c, c ≠ 26 → c ≠ 27 → c ≠ 28 → c ≠ 29 → c ≠ 30 → c ≠ 31 → x' c = x1 c := fun c q1 q2 q3' q4 q5 q6 => by rw [q3 c q1 q2 q3' q4 q5 q6, f4 c q1 q5 q6]
    refine ⟨r, x', m', by rw [ex _ ek]; rfl, er, R_xf_tr a4 ⟨fun c hc => fx c (by omega) (by omega) (by omega) (by omega) (by omega) (by omega), ?_, ?_, ?_, ?_, ?_, ?_⟩, R_mf_tr g3 ⟨fun c hc => ?_, ?_⟩, tm_cf_h k2 (by rw [q5 8 (by decide) (by decide) (by decide), e40 8 (by decide)]) (by rw [q4 7 (by decide) (by decide) (by decide) (by decide), e4 7 (by decide) (by decide)]) (by rw [q4 9 (by decide) (by decide) (by decide) (by decide), e4 9 (by decide) (by decide)]) (by rw [q4 10 (by decide) (by decide) (by decide) (by decide), e4 10 (by decide) (by decide)])⟩
    · rw [fx 0 (by decide) (by decide) (by decide) (by decide) (by decide) (by decide)]
    · rw [fx 1 (by decide) (by decide) (by decide) (by decide) (by decide) (by decide)]
    · rw [fx 1 (by decide) (by decide) (by decide) (by decide) (by decide) (by decide)]
    · rw [fx 1 (by decide) (by decide) (by decide) (by decide) (by decide) (by decide)]
    · rw [fx 10 (by decide) (by decide) (by decide) (by decide) (by decide) (by decide)]
    · rw [fx 18 (by decide) (by decide) (by decide) (by decide) (by decide) (by decide)]
    · rw [q4 c (by omega) (by omega) (by omega) (by omega), e4 c (by omega) (by omega)]
    · rw [q5 4 (by decide) (by decide) (by decide), e40 4 (by decide)]
theorem q_began {a : Int} (hd : d = 0 ∨ d = 1) (ha : 0 ≤ a ∧ a < 8) : R_sq (f_X7_began d a) (f_X8_beganOf d a) := by
  intro x m1 P A B Y ρ h0 h1 w h' c1 c2 c4
  have hkb := R_kb hd
  have hk : R_k d + 3 = 13 ∨ R_k d + 3 = 21 := by unfold R_k; split <;> omega
  -- the class
  obtain ⟨x1, e1, e2, e3, e4, e5⟩ := R_walk (h0 := h0) (h1 := h1) (most := 40) hd h' (by omega) c1 c2
  obtain ⟨-, -, -, i1, i2, -⟩ := R_rn_I (h0 := h0) (h1 := h1) (most := 40) hd h' (by omega) c1
  obtain ⟨S, hS⟩ : ∃ S, S = (R_rn P A B Y ρ h0 h1 w x d 40).2.1 := ⟨_, rfl⟩
  have r1 : tc_rp Y (R_k d + 3) x1 S := by rw [hS]; exact e2.1
  rw [← hS] at i1 i2
  have hρ := c1.2.1
  have lS := (tr_I_b c1.1 i1).2.2.1
  have k1 : tc_cf x1 P A B Y ρ h0 h1 w := tc_cf_fr hkb.1 c2 e5
  obtain ⟨x2, a1, a2, a3⟩ := c_measure c1.1 k1.1 (a := a) (by omega)
  have r2 : tc_rp Y (R_k d + 3) x2 S := tc_rp_of r1 (a3 _ (by omega)) (a3 _ (by omega)) (a3 _ (by omega))
  have k2 : tc_md x2 P A B Y := tc_md_of k1.1 (by rw [a3 1 (by decide)]) (a3 7 (by decide)) (a3 8 (by decide)) (a3 9 (by decide))
  -- the reference
  have hFU := tg_FUg
  obtain ⟨j31, hj31⟩ : ∃ j31 : tg_Mem → tg_R, j31 = (fun (m_31 : tg_Mem) => tg_jn (fun (m_177 : tg_Mem) => tg_bd (f_X8_done d m_177) (fun _ m179 => tg_ck (0 ≤ 0 ∧ 0 < 2) (tg_lt (m179 11 0) (fun v3_189 => tg_ck (0 ≤ v3_189 ∧ v3_189 < 8) (tg_lt (m179 17 (v3_189).toNat) (fun v4_196 => tg_jn (γ := Int → tg_Mem → tg_R) (fun (v4_253 : Int) (m_253 : tg_Mem) => if v4_253 < 100000 then some (tg_wi ((m_253 0 15) + (tg_wi (2 * v4_253))), m_253) else some ((-1), m_253)) (fun j253 => tg_fx (γ := Int → Int → Int → tg_Mem → tg_R) (f_X8_beganOf_B201 j253) (fun _ _ _ _ => none) tg_FU v3_189 v4_196 0 m179))))))) (fun j177 => tg_fx (γ := Int → tg_Mem → tg_R) (f_X8_beganOf_B33 j177) (fun _ _ => none) tg_FU 0 m_31)) := ⟨_, rfl⟩
  obtain ⟨m2, b1, b2, b3⟩ := r_initl (a := a) (j31 := j31) 8 0 m1 tg_FU (by omega) (by omega) (by omega) (fun v z1 z2 => by omega)
  obtain ⟨j177, hj177⟩ : ∃ j177 : tg_Mem → tg_R, j177 = (fun (m_177 : tg_Mem) => tg_bd (f_X8_done d m_177) (fun _ m179 => tg_ck (0 ≤ 0 ∧ 0 < 2) (tg_lt (m179 11 0) (fun v3_189 => tg_ck (0 ≤ v3_189 ∧ v3_189 < 8) (tg_lt (m179 17 (v3_189).toNat) (fun v4_196 => tg_jn (γ := Int → tg_Mem → tg_R) (fun (v4_253 : Int) (m_253 : tg_Mem) => if v4_253 < 100000 then some (tg_wi ((m_253 0 15) + (tg_wi (2 * v4_253))), m_253) else some ((-1), m_253)) (fun j253 => tg_fx (γ := Int → Int → Int → tg_Mem → tg_R) (f_X8_beganOf_B201 j253) (fun _ _ _ _ => none) tg_FU v3_189 v4_196 0 m179))))))) := ⟨_, rfl⟩
  obtain ⟨m3, f, g1, g2, g3, g4⟩ := r_roundsl (a := a) (j177 := j177) c1.1 8 0 _ m2 tg_FU (by omega) (by omega) (tm_md_of c4.1 (by rw [b3 0 (by decide)]) (b3 7 (by decide))) tb_V0 b2
  have k3 : ∀ c, c ≠ 17 → m3 c = m1 c := fun c hc => by rw [g4 c hc, b3 c hc]
  have hmf : R_mf m1 m3 := ⟨fun c hc => k3 c (by omega), by rw [k3 0 (by decide)]⟩
  have h3 : R_all x m3 := R_all_of h' (R_xf_rf _) hmf
  have k4 : tm_cf m3 P A B Y ρ h0 h1 w := by
    obtain ⟨z1, z2, z3, z4, z5⟩ := c4
    exact ⟨tm_md_of z1 (by rw [k3 0 (by decide)]) (k3 7 (by decide)), by rw [k3 9 (by decide)]; exact z2, by rw [k3 9 (by decide)]; exact z3, by rw [k3 9 (by decide)]; exact z4, by rw [k3 10 (by decide)]; exact z5⟩
  obtain ⟨m4, u1, u2, u3, u4⟩ := R_runs (h0 := h0) (h1 := h1) (most := 40) hd h3 (by omega) c1 k4
  have r3 : tm_rp Y m4 S := by rw [hS]; exact u2.1
  have k5 := (tm_cf_fr k4 u4).1
  have k17 : m4 17 = m3 17 := u4.1 17 (by decide) (by decide) (by decide) (by decide) (by decide)
  have hS1 := i1.1
  have hboth : ∀ v, 0 ≤ v → v ≤ 7 → (x2 6 v.toNat = -1 ∧ f v = 100000) ∨ (x2 6 v.toNat = f v ∧ 0 ≤ x2 6 v.toNat ∧ x2 6 v.toNat ≤ 8) := fun v v0 v7 =>
    tb_both c1.1 (by omega) ⟨v0, v7⟩ (a2 v v0 v7) ⟨(g2 v v0 v7).1, (g2 v v0 v7).2.1⟩
  have hs : ∀ v, 0 ≤ v → v ≤ 7 → (-1 ≤ x2 6 v.toNat ∧ x2 6 v.toNat ≤ 8) ∧ f v = tb_c (x2 6 v.toNat) := by
    intro v v0 v7
    unfold tb_c
    rcases hboth v v0 v7 with ⟨z1, z2⟩ | ⟨z1, z2, z3⟩
    · rw [if_pos z1]; exact ⟨by omega, z2⟩
    · rw [if_neg (by omega)]; exact ⟨by omega, z1.symm⟩
  have hf4 : ∀ v, 0 ≤ v → v ≤ 7 → m4 17 v.toNat = f v := fun v v0 v7 => by rw [k17]; exact g3 v v0 v7
  obtain ⟨r, t1, t2, t3⟩ := c_stepl c1.1 k2 r2 hs (S.2.2.length + 1) 0 (-1) S.1 tg_FU (by omega) (by omega) (by omega) (by omega) hS1 i1.2.1 (by omega) (by omega)
  have t4 := r_stepl (j253 := fun (v4_253 : Int) (m_253 : tg_Mem) => if v4_253 < 100000 then some (tg_wi ((m_253 0 15) + (tg_wi (2 * v4_253))), m_253) else some ((-1), m_253)) c1.1 k5 r3 hf4 S.2.2.length 0 (f S.1) S.1 tg_FU (by omega) (by omega) (by omega) hS1 i1.2.1
  have hfb := (hs S.1 hS1.1 hS1.2).2
  have hfb2 : f S.1 ≤ 100000 := by
    rcases hboth S.1 hS1.1 hS1.2 with z | z <;> omega
  have e6 : (if tb_c (-1) ≤ f S.1 then tb_c (-1) else f S.1) = f S.1 := by
    show (if (100000 : Int) ≤ f S.1 then (100000 : Int) else f S.1) = f S.1
    split <;> omega
  rw [e6] at t3
  have hxf : R_xf x1 x2 := ⟨fun c hc => a3 c (by omega), by rw [a3 0 (by decide)], by rw [a3 1 (by decide)], by rw [a3 1 (by decide)], by rw [a3 1 (by decide)], by rw [a3 10 (by decide)], by rw [a3 18 (by decide)]⟩
  refine ⟨if r ≠ -1 then (S.2.2.length : Int) + 2 * r else -1, x2, m4, ?_, ?_, R_xf_tr e4 hxf, R_mf_tr hmf u3, tm_cf_fr k4 u4⟩
  · simp only [f_X7_began, f_X7_ended, f_X1_stepsOff, tg_lt]
    rw [b_isBelowT (by omega), tg_bd_some, if_neg (by decide), b_isBelowT ha, tg_bd_some, if_pos (by decide), R_dayOf hd, tg_bd_some, Int.toNat_natCast, e1, tg_bd_some, tg_bd_some, Int.toNat_natCast, a1, tg_bd_some, tg_ck_pos (by decide), r2.1, t1, tg_bd_some]
    by_cases c : r = -1
    · rw [if_neg (fun z => z c), if_neg (fun z => z c)]
    · rw [if_pos c, if_pos c, r2.2.2.1, tg_wi_e (a := 2 * r) (by omega), tg_wi_e (by omega)]
  · unfold f_X8_beganOf
    refine tg_jn_d (fun J hJ => ?_)
    rw [show J = j31 by rw [hJ, hj31]]
    rw [b1, hj31]
    refine tg_jn_d (fun J2 hJ2 => ?_)
    rw [show J2 = j177 by rw [hJ2, hj177]]
    refine g1.trans ?_
    rw [hj177]
    simp only [f_X8_done, tg_lt, tg_jn]
    rw [u1, tg_bd_some, tg_bd_some, tg_ck_pos (by decide), r3.1, tg_ck_pos (by omega), hf4 _ hS1.1 hS1.2, t4, ← t3]
    unfold tb_c
    by_cases c : r = -1
    · rw [if_pos c, if_neg (by omega), if_neg (fun z => z c)]
    · rw [if_neg c, if_pos (by omega), if_pos c, r3.2.2.1, tg_wi_e (a := 2 * r) (by omega), tg_wi_e (by omega)]
theorem q_game {n v : Int} (hd : d = 0 ∨ d = 1) (hn : 1 ≤ n ∧ n ≤ 5) (hv : v = 0 ∨ v = 1) : R_sq (f_X7_game d n v) (f_X8_gameOf d n v) := by
  intro x m1 P A B Y ρ h0 h1 w h' c1 c2 c4
  obtain ⟨x1, a1, a2, a3, a4, a5⟩ := R_walk (h0 := h0) (h1 := h1) (most := 40) hd h' (by omega) c1 c2
  obtain ⟨m2, g1, g2, g3, g4⟩ := R_runs (h0 := h0) (h1 := h1) (most := 40) hd h' (by omega) c1 c4
  obtain ⟨-, -, -, i1, i2, -⟩ := R_rn_I (h0 := h0) (h1 := h1) (most := 40) hd h' (by omega) c1
  have hkb := R_kb hd
  have k1 : tc_cf x1 P A B Y ρ h0 h1 w := tc_cf_fr hkb.1 c2 a5
  have k2 : tm_cf m2 P A B Y ρ h0 h1 w := tm_cf_fr c4 g4
  obtain ⟨D, hD⟩ : ∃ D, D = (R_rn P A B Y ρ h0 h1 w x d 40).2 := ⟨_, rfl⟩
  rw [← hD] at a2 g2 i1 i2
  have hva : ts_va P A B Y ρ D.1 := ⟨i1, i2⟩
  obtain ⟨x2, b1, b2, b3⟩ := c_play (n := n) (bare := D.2.2.2) c1 hkb hn hva k1 a2.1 a2.2.2.2.2.2
  have r2 : tm_rp Y m2 D.1 := g2.1
  have ew := r_way c1.1 r2 i1 (ts_va_l c1.1 c1.2.1.2 hva)
  obtain ⟨m3, e1, e2, e3, e4, e5, e6, e7⟩ := r_enters (k := 0) (a := tk_key D.1) (b := m2 0 19) (c := 0) (m := m2) (by decide)
  have k3 : tm_cf m3 P A B Y ρ h0 h1 w := tm_cf_g k2 (fun c _ _ _ _ => e6 c (by omega) (by omega) (by omega) (by omega)) (by rw [e6 0 (by decide) (by decide) (by decide) (by decide)])
  obtain ⟨J, hJ⟩ : ∃ J : Int → Int → tg_Mem → tg_R, J = fun (v5_427 : Int) (v6_427 : Int) (m_427 : tg_Mem) => if v ≠ 0 then some (v5_427, m_427) else some (v6_427, m_427) := ⟨_, rfl⟩
  obtain ⟨c, m4, v5', q1, q2, q3, -, q5⟩ := tu_Qall (h0 := h0) (h1 := h1) (n := n.toNat) (j427 := J) c1 (by omega) n.toNat 0 D.1 m3 (-1) 0 D.2.2.2 0 (by omega) hva k3 e2 (by rw [e3]; exact g2.2.2.2.2.2) e4 (by omega) e5
  have hC := tu_C_b (n := n.toNat) (by omega)
  have q5' := q5 rfl (by omega)
  have q2' := q2 (tg_FU - c)
  have hF := tg_FUg
  rw [show tg_FU - c + c = tg_FU by omega] at q2'
  obtain ⟨F, hF2⟩ : ∃ F, tg_FU - c = F + 1 := ⟨tg_FU - c - 1, by omega⟩
  have eend : tu_ret 0 (0 + tu_sg 0 (tu_v P A B Y ρ w n.toNat ((0 % 2 : Nat) : Int) D.1 D.2.2.2)) v5' m4 (tg_fx (f_X8_gameOf_B29 ((n.toNat : Nat) : Int) J) (fun _ _ _ _ => none) (tg_FU - c)) = J v5' (tu_v P A B Y ρ w n.toNat 0 D.1 D.2.2.2) m4 := by
    rw [hF2]
    show tg_fx (f_X8_gameOf_B29 ((n.toNat : Nat) : Int) J) (fun _ _ _ _ => none) (F + 1) (-1) v5' (0 + tu_v P A B Y ρ w n.toNat 0 D.1 D.2.2.2) m4 = _
    rw [tg_fx_s, Int.zero_add]
    unfold f_X8_gameOf_B29
    rw [if_pos (by decide)]
  rw [eend, show ((n.toNat : Nat) : Int) = n by omega] at q2'
  have hxf : R_xf x1 x2 := ⟨fun c hc => b3 c (by omega) (by omega) (by omega) (by omega), by rw [b3 0 (by decide) (by decide) (by decide) (by decide)], by rw [b3 1 (by decide) (by decide) (by decide) (by decide)], by rw [b3 1 (by decide) (by decide) (by decide) (by decide)], by rw [b3 1 (by decide) (by decide) (by decide) (by decide)], by rw [b3 10 (by decide) (by decide) (by decide) (by decide)], by rw [b3 18 (by decide) (by decide) (by decide) (by decide)]⟩
  have hmf : R_mf m2 m4 := ⟨fun c hc => by rw [q3.1 c (by omega) (by omega) (by omega) (by omega), e6 c (by omega) (by omega) (by omega) (by omega)], by rw [q3.2.1 4 (by decide) (by decide), e6 0 (by decide) (by decide) (by decide) (by decide)]⟩
  refine ⟨if v ≠ 0 then tu_p P A B Y ρ w n.toNat 0 D.1 D.2.2.2 else tu_v P A B Y ρ w n.toNat 0 D.1 D.2.2.2, x2, m4, ?_, ?_, R_xf_tr a4 hxf, R_mf_tr g3 hmf, tm_cf_f k3 q3⟩
  · simp only [f_X7_game, f_X7_ended]
    rw [b_isBelowT (by omega), tg_bd_some, if_neg (by decide), if_neg (by omega), if_neg (by omega), b_isBelowT (by omega), tg_bd_some, if_pos (by decide), R_dayOf hd, tg_bd_some, Int.toNat_natCast, a1, tg_bd_some, tg_bd_some, Int.toNat_natCast, b1, tg_bd_some, b2]
    split <;> rfl
  · have er : f_X8_gameOf d n v m1 = J v5' (tu_v P A B Y ρ w n.toNat 0 D.1 D.2.2.2) m4 := by
      simp only [f_X8_gameOf, f_X8_done]
      have e1' : f_X8_enters 0 (tk_key D.1) (m2 0 19) 0 m2 = some (0, m3) := e1
      rw [g1, tg_bd_some, tg_bd_some, ew, tg_bd_some, e1', tg_bd_some]
      simp only [tg_jn]
      rw [← hJ]
      exact q2'
    rw [er, hJ]
    dsimp only
    rw [q5']
    by_cases hv0 : v = 0
    · rw [if_neg (fun z => z hv0), if_neg (fun z => z hv0)]
    · rw [if_pos hv0, if_pos hv0]
end QR
