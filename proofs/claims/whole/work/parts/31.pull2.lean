-- the call that tells of a rope pulled
theorem R_isPath {x m : tg_Mem} (a : Int) (h : R_all x m) : ∃ m1 P A B Y ρ h0 h1 w, f_X8_isPath a m = some (if 0 ≤ a ∧ a < x 1 8 then 1 else 0, m1) ∧ R_all x m1 ∧ tr_cf P A B Y ρ w ∧ tc_cf x P A B Y ρ h0 h1 w ∧ tm_cf m1 P A B Y ρ h0 h1 w := by
  obtain ⟨P, A, B, Y, ρ, h0, h1, w, m1, c1, c2, c3, c4, c5⟩ := R_cf h
  have h' : R_all x m1 := R_all_of h (R_xf_rf _) c5
  refine ⟨m1, P, A, B, Y, ρ, h0, h1, w, ?_, h', c1, c2, c4⟩
  rw [r_isPath c1.1 c4.1 c3, c2.1.1]
theorem tg_bd_eq {X : tg_R} {r : Int} {m : tg_Mem} (h : X = some (r, m)) : tg_bd X (fun a b => some (a, b)) = some (r, m) := by rw [h]; rfl
def tp_v (x : tg_Mem) (d a b e : Int) : Prop := (d = 0 ∨ d = 1) ∧ (0 ≤ a ∧ a < x 1 8) ∧ (0 ≤ b ∧ b < x 1 8) ∧ a ≠ b ∧ (e = 0 ∨ e = 1)
theorem c_pulledN {x : tg_Mem} {d a b e : Int} (h : ¬ tp_v x d a b e) : f_X7_pulled d a b e x = some (-2, x) := by
  simp only [f_X7_pulled]
  by_cases h1 : d = 0 ∨ d = 1
  · rw [b_isBelowT (by omega), tg_bd_some, if_neg (by decide)]
    by_cases h2 : 0 ≤ a ∧ a < x 1 8
    · rw [b_isBelowT h2, tg_bd_some, if_neg (by decide)]
      by_cases h3 : 0 ≤ b ∧ b < x 1 8
      · rw [b_isBelowT h3, tg_bd_some, if_pos (by decide)]
        by_cases h4 : a = b
        · rw [if_pos h4]
        · rw [if_neg h4, b_isBelowF (fun z => h ⟨h1, h2, h3, h4, by omega⟩), tg_bd_some, if_neg (by decide)]
      · rw [b_isBelowF h3, tg_bd_some, if_neg (by decide)]
    · rw [b_isBelowF h2, tg_bd_some, if_pos rfl]
  · rw [b_isBelowF (by omega), tg_bd_some, if_pos rfl]
theorem r_pulledN {x m : tg_Mem} {d a b e : Int} (hR : R_all x m) (h : ¬ tp_v x d a b e) : ∃ m', f_X8_pulled d a b e m = some (-2, m') ∧ R_all x m' := by
  obtain ⟨m1, -, -, -, -, -, -, -, -, e1, e2, -⟩ := R_isPath a hR
  obtain ⟨m2, -, -, -, -, -, -, -, -, e3, e4, -⟩ := R_isPath b e2
  simp only [f_X8_pulled, tg_jn]
  rw [e1, tg_bd_some]
  by_cases h2 : 0 ≤ a ∧ a < x 1 8
  · rw [if_pos h2, if_neg (by decide), e3, tg_bd_some]
    by_cases h3 : 0 ≤ b ∧ b < x 1 8
    · rw [if_pos h3, if_neg (by decide)]
      by_cases h4 : a = b
      · rw [if_pos h4, if_pos trivial]; exact ⟨m2, rfl, e4⟩
      · rw [if_neg h4, if_neg (by decide)]
        by_cases h1 : d = 0 ∨ d = 1
        · rw [r_isTwoT (by omega), tg_bd_some, if_neg (by decide), r_isTwoF (fun z => h ⟨h1, h2, h3, h4, by omega⟩), tg_bd_some, if_pos rfl]; exact ⟨m2, rfl, e4⟩
        · rw [r_isTwoF (by omega), tg_bd_some, if_pos rfl]; exact ⟨m2, rfl, e4⟩
    · rw [if_neg h3, if_pos rfl, if_pos trivial]; exact ⟨m2, rfl, e4⟩
  · rw [if_neg h2, if_pos rfl, if_pos trivial]; exact ⟨m1, rfl, e2⟩
theorem s_pulled (d a b e : Int) : R_st (f_X7_pulled d a b e) (f_X8_pulled d a b e) := by
  intro x m h
  by_cases hv : tp_v x d a b e
  · obtain ⟨hd, ha, hb, hab, he⟩ := hv
    obtain ⟨m1, -, -, -, -, -, -, -, -, e1, e2, -⟩ := R_isPath a h
    obtain ⟨m2, P, A, B, Y, ρ, h0, h1, w, e3, e4, c1, c2, c4⟩ := R_isPath b e2
    rw [if_pos ha] at e1
    rw [if_pos hb] at e3
    have hP : x 1 8 = P := c2.1.1
    have haP : 0 ≤ a ∧ a < P := by rw [← hP]; exact ha
    have hbP : 0 ≤ b ∧ b < P := by rw [← hP]; exact hb
    have hP8 := c1.1.2.1
    have cs := c_same e4 c1.1 c2.1 haP hbP
    have rs := r_same c1.1 c4.1 haP hbP
    have er : ∀ K, f_X8_pulledOf d a b e m2 = K → f_X8_pulled d a b e m = tg_bd K (fun r54 m54 => some (r54, m54)) := by
      intro K hK
      simp only [f_X8_pulled, tg_jn]
      rw [e1, tg_bd_some, if_neg (by decide), e3, tg_bd_some, if_neg (by decide), if_neg hab, if_neg (by decide), r_isTwoT (by omega), tg_bd_some, if_neg (by decide), r_isTwoT (by omega), tg_bd_some, if_neg (by decide), hK]
    by_cases hs : tp_same A B a b
    · have hsb := tp_sh_b (Y := Y) haP hbP
      obtain ⟨x1, a1, a2, a3, a4, a5⟩ := R_walk (h0 := h0) (h1 := h1) (most := 40) hd e4 (by omega) c1 c2
      obtain ⟨m3, g1, g2, g3, g4⟩ := R_runs (h0 := h0) (h1 := h1) (most := 40) hd e4 (by omega) c1 c4
      obtain ⟨-, -, -, i1, i2, -⟩ := R_rn_I (h0 := h0) (h1 := h1) (most := 40) hd e4 (by omega) c1
      have hkb := R_kb hd
      have hk : R_k d + 3 = 13 ∨ R_k d + 3 = 21 := by unfold R_k; split <;> omega
      obtain ⟨S, hS⟩ : ∃ S, S = (R_rn P A B Y ρ h0 h1 w x d 40).2.1 := ⟨_, rfl⟩
      have r1 : tc_rp Y (R_k d + 3) x1 S := by rw [hS]; exact a2.1
      have r2 : tm_rp Y m3 S := by rw [hS]; exact g2.1
      rw [← hS] at i1 i2
      have hρ := c1.2.1
      have lS := (tr_I_b c1.1 i1).2.2.1
      have k1 : tc_cf x1 P A B Y ρ h0 h1 w := tc_cf_fr hkb.1 c2 a5
      have k2 : tm_cf m3 P A B Y ρ h0 h1 w := tm_cf_fr c4 g4
      have z1 : x1 (R_k d + 3 + 1) 0 = S.1 := r1.1
      obtain ⟨x2, b1, b2, b3⟩ := c_standBoth (Y := Y) (k := 36) (x := x1) (a := S.1)
      obtain ⟨x3, b4, b5, b6⟩ := c_rell (a := a) (b := b) (s := tp_sh Y a b) hk c1.1 i1 (by omega) hsb S.2.2.length 0 (S.1, S.1, []) x2 tg_FU (by have := tg_FUg; omega) (by omega) (by omega) (tc_md_of k1.1 (by rw [b3 1 (by decide) (by decide)]) (b3 7 (by decide) (by decide)) (b3 8 (by decide) (by decide)) (b3 9 (by decide) (by decide))) (tc_rp_of r1 (b3 _ (by omega) (by omega)) (b3 _ (by omega) (by omega)) (b3 _ (by omega) (by omega))) b2 (by simp) (fun p hp => by cases hp)
      obtain ⟨m4, u1, u2⟩ := r_rell (a := a) (b := b) (s := tp_sh Y a b) (j237 := fun (v8_237 : Int) (v9_237 : Int) (m_237 : tg_Mem) => if e ≠ 0 then some (v9_237, m_237) else some (v8_237, m_237)) c1.1 i1 (by omega) hsb S.2.2.length 0 (S.1, S.1, []) m3 tg_FU (by have := tg_FUg; omega) (by omega) (by omega) k2.1 r2 (fun j hj => by cases hj) (by simp) (fun p hp => by cases hp)
      obtain ⟨T, hT⟩ : ∃ T, T = tp_run A B a b (tp_sh Y a b) (S.2.2.drop (0 : Int).toNat) (S.1, S.1, []) := ⟨_, rfl⟩
      rw [← hT] at b5 u1
      have fx : ∀ c, c < 36 ∨ 38 < c → x3 c = x1 c := fun c hc => by rw [b6 c (by omega) (by omega) (by omega), b3 c (by omega) (by omega)]
      have hxf : R_xf x1 x3 := ⟨fun c hc => fx c (by omega), by rw [fx 0 (by omega)], by rw [fx 1 (by omega)], by rw [fx 1 (by omega)], by rw [fx 1 (by omega)], by rw [fx 10 (by omega)], by rw [fx 18 (by omega)]⟩
      have hmf : R_mf m3 m4 := ⟨fun c hc => u2 c (by omega), by rw [u2 0 (by decide)]⟩
      refine ⟨if e ≠ 0 then tr_len Y T.2.2 else (T.2.2.length : Int), x3, m4, ?_, ?_, R_all_of (R_all_of e4 a4 g3) hxf hmf⟩
      · simp only [f_X7_pulled, f_X7_ended, f_X1_relay]
        rw [b_isBelowT (by omega), tg_bd_some, if_neg (by decide), b_isBelowT ha, tg_bd_some, if_neg (by decide), b_isBelowT hb, tg_bd_some, if_pos (by decide), if_neg hab, b_isBelowT (by omega), tg_bd_some, if_pos (by decide), cs.1 hs, tg_bd_some, if_pos (by decide), R_dayOf hd, tg_bd_some, Int.toNat_natCast, a1, tg_bd_some, tg_bd_some, Int.toNat_natCast, c_shorter c1.1 k1.1 haP hbP, tg_bd_some, tg_ck_pos (by decide), z1, b1, tg_bd_some, b4, tg_bd_some, b5.2.2.2.1, b5.2.2.1]
        split <;> rfl
      · rw [er _ rfl]
        simp only [f_X8_pulledOf, f_X8_done]
        rw [rs.1 hs, tg_bd_some, if_pos (by decide)]
        have ej : ∀ K : Int → tg_R, (if b ≤ a then K b else K a) = K (tg_min a b) := fun K => by
          rw [tg_min_e]
          by_cases c : b ≤ a
          · rw [if_pos c]
            by_cases c' : a ≤ b
            · rw [if_pos c', show a = b by omega]
            · rw [if_neg c']
          · rw [if_neg c, if_pos (by omega)]
        have ej2 : ∀ K : Int → tg_R, (if b ≤ a then K a else K b) = K (tg_max a b) := fun K => by
          rw [tg_max_e]
          by_cases c : b ≤ a
          · rw [if_pos c, if_pos c]
          · rw [if_neg c, if_neg c]
        have hmm := tp_mm haP hbP
        have y1 := (c4.1.2 _ hmm.1.1 hmm.1.2).2.2
        have y2 := (c4.1.2 _ hmm.2.1 hmm.2.2).2.2
        have hlast : tg_bd (f_X8_runs d 40 m2) (fun r4 m4 => some (r4, m4)) = some ((R_rn P A B Y ρ h0 h1 w x d 40).1, m3) := by rw [g1]; rfl
        refine tg_bd_eq ?_
        refine tg_jn_d (fun J hJ => ?_)
        rw [ej, hJ]
        refine tg_jn_d (fun J2 hJ2 => ?_)
        rw [ej2, hJ2]
        dsimp only
        rw [tg_wi_e (a := 3 * tg_max a b) (by omega), tg_wi_e (a := 3 * tg_max a b + 2) (by omega), tg_ck_pos (by omega), tg_wi_e (a := 3 * tg_min a b) (by omega), tg_wi_e (a := 3 * tg_min a b + 2) (by omega), tg_ck_pos (by omega)]
        refine tg_jn_d (fun J3 hJ3 => ?_)
        have ej3 : (if m2 7 (3 * tg_min a b + 2).toNat ≤ m2 7 (3 * tg_max a b + 2).toNat then J3 (tg_min a b) else J3 (tg_max a b)) = J3 (tp_sh Y a b) := by
          rw [y1, y2]
          unfold tp_sh
          split <;> rfl
        rw [ej3, hJ3]
        dsimp only
        rw [hlast, tg_bd_some]
        simp only [tg_jn]
        refine u1.trans ?_
        split <;> rfl
    · refine ⟨-3, x, m2, ?_, ?_, e4⟩
      · simp only [f_X7_pulled]
        rw [b_isBelowT (by omega), tg_bd_some, if_neg (by decide), b_isBelowT ha, tg_bd_some, if_neg (by decide), b_isBelowT hb, tg_bd_some, if_pos (by decide), if_neg hab, b_isBelowT (by omega), tg_bd_some, if_pos (by decide), cs.2 hs, tg_bd_some, if_neg (by decide)]
      · rw [er _ rfl]
        simp only [f_X8_pulledOf]
        rw [rs.2 hs, tg_bd_some, if_neg (by decide)]; rfl
  · obtain ⟨m', e1, e2⟩ := r_pulledN h hv
    exact ⟨-2, x, m', c_pulledN hv, e1, e2⟩
