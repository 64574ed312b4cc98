-- what the digest wants besides
def R_rd (x m : tg_Mem) : Prop := R_all x m ∧ ∃ (P : Int) (A B Y : Int → Int) (ρ h0 h1 : Int) (w : Int → Int), tr_cf P A B Y ρ w ∧ tc_cf x P A B Y ρ h0 h1 w ∧ tm_cf m P A B Y ρ h0 h1 w
def R_oo (a b : tg_R) : Prop := ∃ r x' m', a = some (r, x') ∧ b = some (r, m') ∧ R_all x' m'
theorem R_oo_bd {Q : tg_Mem → tg_Mem → Prop} {a b : tg_R} {f g : Int → tg_Mem → tg_R} (h : ∃ r x' m', a = some (r, x') ∧ b = some (r, m') ∧ Q x' m') (hfg : ∀ r x' m', Q x' m' → R_oo (f r x') (g r m')) : R_oo (tg_bd a f) (tg_bd b g) := by
  obtain ⟨r, x', m', h1, h2, h3⟩ := h
  rw [h1, h2, tg_bd_some, tg_bd_some]
  exact hfg r x' m' h3
theorem R_rd_sq {fx fm : tg_Mem → tg_R} {x m : tg_Mem} (h : R_sq fx fm) (hr : R_rd x m) : ∃ r x' m', fx x = some (r, x') ∧ fm m = some (r, m') ∧ R_rd x' m' := by
  obtain ⟨h', P, A, B, Y, ρ, h0, h1, w, c1, c2, c4⟩ := hr
  obtain ⟨r, x', m', e1, e2, e3, e4, e5⟩ := h x m P A B Y ρ h0 h1 w h' c1 c2 c4
  exact ⟨r, x', m', e1, e2, R_all_of h' e3 e4, P, A, B, Y, ρ, h0, h1, w, c1, tc_cf_xf c2 e3, e5⟩
theorem q_reads {x m : tg_Mem} (h : R_all x m) : ∃ m1, f_X8_reads m = some (x 1 9, m1) ∧ R_rd x m1 := by
  obtain ⟨P, A, B, Y, ρ, h0, h1, w, m1, c1, c2, c3, c4, c5⟩ := R_cf h
  exact ⟨m1, c3, R_all_of h (R_xf_rf _) c5, P, A, B, Y, ρ, h0, h1, w, c1, c2, c4⟩
theorem q_path {x m : tg_Mem} {a b : Int} (h : R_rd x m) (ha : 0 ≤ a ∧ a < x 1 8) (hb : 0 ≤ b ∧ b < 3) : f_X7_path a b x = some (m 7 (3 * a + b).toNat, x) := by
  obtain ⟨h, P, A, B, Y, ρ, h0, h1, w, c1, c2, c4⟩ := h
  have hP : x 1 8 = P := c2.1.1
  rw [hP] at ha
  have hP8 := c1.1.2.1
  obtain ⟨⟨s1, s2, s3⟩, ⟨t1, t2, t3⟩, -⟩ := h
  have hn : 4 * P - 1 = x 2 1 := by
    rw [hP] at s2
    by_cases hφ : x 1 9 = -1
    · rw [if_pos hφ] at s2
      rw [hφ] at s1
      have := tm_ff_n s1 t1.1
      omega
    · rw [if_neg hφ] at s2; omega
  obtain ⟨z1, z2, z3⟩ := s3 a ha.1 (by omega)
  obtain ⟨y1, y2, y3⟩ := c2.1.2 a ha.1 ha.2
  obtain ⟨u1, u2, u3⟩ := c4.1.2 a ha.1 ha.2
  have ef := b_figure (x := x) (p := a) (w := b) (by omega) hb (by omega) (t3 (4 * a + b) (by omega) (by omega)).2
  simp only [f_X7_path]
  rw [b_isBelowT (by omega), tg_bd_some, if_neg (by decide), b_isBelowT hb, tg_bd_some, if_pos (by decide), ef]
  rcases (show b = 0 ∨ b = 1 ∨ b = 2 by omega) with rfl | rfl | rfl
  · simp only [Int.add_zero]; rw [u1, ← y1, z1]; rfl
  · rw [u2, ← y2, z2]; rfl
  · rw [u3, ← y3, z3]; rfl
section QD
variable {P : Int} {A B Y : Int → Int} {ρ h0 h1 : Int} {w : Int → Int} {x m : tg_Mem} {d : Int}
theorem q_state {v : Int} (hd : d = 0 ∨ d = 1) (h' : R_all x m) (c1 : tr_cf P A B Y ρ w) (c2 : tc_cf x P A B Y ρ h0 h1 w) (hD : tm_dy Y m (R_rn P A B Y ρ h0 h1 w x d 40).2) (hv : 0 ≤ v ∧ v < 8) :
    ∃ r x', f_X7_state d (R_rn P A B Y ρ h0 h1 w x d 40).1 v x = some (r, x') ∧ f_X8_stateNow v m = some (r, m) ∧ R_xf x x' := by
  obtain ⟨j1, j2, j3, -⟩ := R_rn_I (h0 := h0) (h1 := h1) (most := 40) hd h' (by omega) c1
  obtain ⟨a, ha⟩ : ∃ a, a = (R_rn P A B Y ρ h0 h1 w x d 40).1 := ⟨_, rfl⟩
  have hdone := R_rn_done (h0 := h0) (h1 := h1) hd h' c1
  rw [← ha] at j1 hdone ⊢
  obtain ⟨x', e1, e2, e3, e4, e5⟩ := R_walk (h0 := h0) (h1 := h1) (most := a) hd h' j1 c1 c2
  rw [hdone] at e2 e3
  rw [← ha] at e3
  obtain ⟨a1, a2, a3, a4, a5, a6⟩ := e2
  obtain ⟨b1, b2, b3, b4, b5, b6⟩ := hD
  have key : ∃ r, f_X0_told (R_k d) v x' = some (r, x') ∧ f_X8_stateNow v m = some (r, m) := by
    rcases (show v = 0 ∨ v = 1 ∨ v = 2 ∨ v = 3 ∨ v = 4 ∨ v = 5 ∨ v = 6 ∨ v = 7 by omega) with rfl | rfl | rfl | rfl | rfl | rfl | rfl | rfl
    · exact ⟨_, rfl, by show some (m 11 0, m) = _; rw [b1.1, ← a1.1]⟩
    · exact ⟨_, rfl, by show some (m 11 1, m) = _; rw [b1.2.1, ← a1.2.1]⟩
    · exact ⟨_, rfl, by show some (m 0 15, m) = _; rw [b1.2.2.1, ← a1.2.2.1]⟩
    · exact ⟨_, rfl, by show some (m 0 16, m) = _; rw [b1.2.2.2.1, ← a1.2.2.2.1]⟩
    · exact ⟨_, rfl, by show some (m 13 0, m) = _; rw [b2, ← a2]⟩
    · exact ⟨_, rfl, by show some (m 13 1, m) = _; rw [b3, ← a3]⟩
    · exact ⟨_, rfl, by show some (m 14 0, m) = _; rw [b4, ← a4]⟩
    · exact ⟨_, rfl, by show some (m 14 1, m) = _; rw [b5, ← a5]⟩
  obtain ⟨r, k1, k2⟩ := key
  refine ⟨r, x', ?_, k2, e4⟩
  simp only [f_X7_state]
  rw [b_isBelowT (by omega), tg_bd_some, if_neg (by decide), if_neg (by omega), b_isBelowT hv, tg_bd_some, if_pos (by decide), R_dayOf hd, tg_bd_some, Int.toNat_natCast, e1, tg_bd_some, e3, if_pos (Int.le_refl _), k1, tg_bd_some]
theorem q_rope (hd : d = 0 ∨ d = 1) (h' : R_all x m) (c1 : tr_cf P A B Y ρ w) (c2 : tc_cf x P A B Y ρ h0 h1 w) (hD : tm_dy Y m (R_rn P A B Y ρ h0 h1 w x d 40).2) :
    ∃ x', f_X7_rope d (R_rn P A B Y ρ h0 h1 w x d 40).1 0 x = some (if m 0 15 ≤ 0 then -1 else m 12 0, x') ∧ R_xf x x' := by
  obtain ⟨j1, j2, j3, -⟩ := R_rn_I (h0 := h0) (h1 := h1) (most := 40) hd h' (by omega) c1
  obtain ⟨a, ha⟩ : ∃ a, a = (R_rn P A B Y ρ h0 h1 w x d 40).1 := ⟨_, rfl⟩
  have hdone := R_rn_done (h0 := h0) (h1 := h1) hd h' c1
  rw [← ha] at j1 hdone ⊢
  obtain ⟨x', e1, e2, e3, e4, e5⟩ := R_walk (h0 := h0) (h1 := h1) (most := a) hd h' j1 c1 c2
  rw [hdone] at e2 e3
  rw [← ha] at e3
  have a1 := e2.1
  obtain ⟨b1, b2, b3, b4, b5, b6⟩ := hD.1
  have key : f_X1_pathAt (R_k d + 3) 0 x' = some (if m 0 15 ≤ 0 then -1 else m 12 0, x') := by
    by_cases hin : 0 < (R_rn P A B Y ρ h0 h1 w x d 40).2.1.2.2.length
    · obtain ⟨p, p1, p2⟩ := c_pathAt (i := 0) a1 ⟨by omega, by omega⟩
      have q := b6 0 hin
      have p1 : (R_rn P A B Y ρ h0 h1 w x d 40).2.1.2.2[0]? = some p := p1
      rw [p1] at q
      rw [b3, if_neg (by omega), p2, Option.some.inj q]
    · rw [b3, if_pos (by omega)]
      exact c_pathAtN a1 (fun z => by omega)
  refine ⟨x', ?_, e4⟩
  simp only [f_X7_rope]
  rw [b_isBelowT (by omega), tg_bd_some, if_neg (by decide), if_neg (by omega), if_pos (Int.le_refl _), R_dayOf hd, tg_bd_some, Int.toNat_natCast, e1, tg_bd_some, e3, if_pos (Int.le_refl _), key, tg_bd_some]
end QD
theorem q_isPath {x m : tg_Mem} (a : Int) (h : R_all x m) : ∃ m1, f_X8_isPath a m = some (if 0 ≤ a ∧ a < x 1 8 then 1 else 0, m1) ∧ R_rd x m1 := by
  obtain ⟨m1, P, A, B, Y, ρ, h0, h1, w, e1, e2, c1, c2, c4⟩ := R_isPath a h
  exact ⟨m1, e1, e2, P, A, B, Y, ρ, h0, h1, w, c1, c2, c4⟩
theorem q_pulledN {x m : tg_Mem} {d a b e : Int} (hR : R_all x m) (h : ¬ tp_v x d a b e) : ∃ m', f_X8_pulled d a b e m = some (-2, m') ∧ R_rd x m' := by
  obtain ⟨m1, e1, e2⟩ := q_isPath a hR
  obtain ⟨m2, e3, e4⟩ := q_isPath b e2.1
  simp only [f_X8_pulled, tg_jn]
  rw [e1, tg_bd_some]
  by_cases h2 : 0 ≤ a ∧ a < x 1 8
  · rw [if_pos h2, if_neg (by decide), e3, tg_bd_some]
    by_cases h3 : 0 ≤ b ∧ b < x 1 8
    · rw [if_pos h3, if_neg (by decide)]
      by_cases h4 : a = b
      · rw [if_pos h4, if_pos trivial]; exact ⟨m2, rfl, e4⟩
      · rw [if_neg h4, if_neg (by decide)]
        by_cases h1 : d = 0 ∨ d = 1
        · rw [r_isTwoT (by omega), tg_bd_some, if_neg (by decide), r_isTwoF (fun z => h ⟨h1, h2, h3, h4, by omega⟩), tg_bd_some, if_pos rfl]; exact ⟨m2, rfl, e4⟩
        · rw [r_isTwoF (by omega), tg_bd_some, if_pos rfl]; exact ⟨m2, rfl, e4⟩
    · rw [if_neg h3, if_pos rfl, if_pos trivial]; exact ⟨m2, rfl, e4⟩
  · rw [if_neg h2, if_pos rfl, if_pos trivial]; exact ⟨m1, rfl, e2⟩
theorem q_pulled (d a b e : Int) {x m : tg_Mem} (h : R_all x m) : ∃ r x' m', f_X7_pulled d a b e x = some (r, x') ∧ f_X8_pulled d a b e m = some (r, m') ∧ R_rd x' m' := by
  by_cases hv : tp_v x d a b e
  · obtain ⟨hd, ha, hb, hab, he⟩ := hv
    obtain ⟨m1, -, -, -, -, -, -, -, -, e1, e2, -⟩ := R_isPath a h
    obtain ⟨m2, P, A, B, Y, ρ, h0, h1, w, e3, e4, c1, c2, c4⟩ := R_isPath b e2
    rw [if_pos ha] at e1
    rw [if_pos hb] at e3
    have hP : x 1 8 = P := c2.1.1
    have haP : 0 ≤ a ∧ a < P := by rw [← hP]; exact ha
    have hbP : 0 ≤ b ∧ b < P := by rw [← hP]; exact hb
    have hP8 := c1.1.2.1
    have cs := c_same e4 c1.1 c2.1 haP hbP
    have rs := r_same c1.1 c4.1 haP hbP
    have er : ∀ K, f_X8_pulledOf d a b e m2 = K → f_X8_pulled d a b e m = tg_bd K (fun r54 m54 => some (r54, m54)) := by
      intro K hK
      simp only [f_X8_pulled, tg_jn]
      rw [e1, tg_bd_some, if_neg (by decide), e3, tg_bd_some, if_neg (by decide), if_neg hab, if_neg (by decide), r_isTwoT (by omega), tg_bd_some, if_neg (by decide), r_isTwoT (by omega), tg_bd_some, if_neg (by decide), hK]
    by_cases hs : tp_same A B a b
    · have hsb := tp_sh_b (Y := Y) haP hbP
      obtain ⟨x1, a1, a2, a3, a4, a5⟩ := R_walk (h0 := h0) (h1 := h1) (most := 40) hd e4 (by omega) c1 c2
      obtain ⟨m3, g1, g2, g3, g4⟩ := R_runs (h0 := h0) (h1 := h1) (most := 40) hd e4 (by omega) c1 c4
      obtain ⟨-, -, -, i1, i2, -⟩ := R_rn_I (h0 := h0) (h1 := h1) (most := 40) hd e4 (by omega) c1
      have hkb := R_kb hd
      have hk : R_k d + 3 = 13 ∨ R_k d + 3 = 21 := by unfold R_k; split <;> omega
      obtain ⟨S, hS⟩ : ∃ S, S = (R_rn P A B Y ρ h0 h1 w x d 40).2.1 := ⟨_, rfl⟩
      have r1 : tc_rp Y (R_k d + 3) x1 S := by rw [hS]; exact a2.1
      have r2 : tm_rp Y m3 S := by rw [hS]; exact g2.1
      rw [← hS] at i1 i2
      have hρ := c1.2.1
      have lS := (tr_I_b c1.1 i1).2.2.1
      have k1 : tc_cf x1 P A B Y ρ h0 h1 w := tc_cf_fr hkb.1 c2 a5
      have k2 : tm_cf m3 P A B Y ρ h0 h1 w := tm_cf_fr c4 g4
      have z1 : x1 (R_k d + 3 + 1) 0 = S.1 := r1.1
      obtain ⟨x2, b1, b2, b3⟩ := c_standBoth (Y := Y) (k := 36) (x := x1) (a := S.1)
      obtain ⟨x3, b4, b5, b6⟩ := c_rell (a := a) (b := b) (s := tp_sh Y a b) hk c1.1 i1 (by omega) hsb S.2.2.length 0 (S.1, S.1, []) x2 tg_FU (by have := tg_FUg; omega) (by omega) (by omega) (tc_md_of k1.1 (by rw [b3 1 (by decide) (by decide)]) (b3 7 (by decide) (by decide)) (b3 8 (by decide) (by decide)) (b3 9 (by decide) (by decide))) (tc_rp_of r1 (b3 _ (by omega) (by omega)) (b3 _ (by omega) (by omega)) (b3 _ (by omega) (by omega))) b2 (by simp) (fun p hp => by cases hp)
      obtain ⟨m4, u1, u2⟩ := r_rell (a := a) (b := b) (s := tp_sh Y a b) (j237 := fun (v8_237 : Int) (v9_237 : Int) (m_237 : tg_Mem) => if e ≠ 0 then some (v9_237, m_237) else some (v8_237, m_237)) c1.1 i1 (by omega) hsb S.2.2.length 0 (S.1, S.1, []) m3 tg_FU (by have := tg_FUg; omega) (by omega) (by omega) k2.1 r2 (fun j hj => by cases hj) (by simp) (fun p hp => by cases hp)
      obtain ⟨T, hT⟩ : ∃ T, T = tp_run A B a b (tp_sh Y a b) (S.2.2.drop (0 : Int).toNat) (S.1, S.1, []) := ⟨_, rfl⟩
      rw [← hT] at b5 u1
      have fx : ∀ c, c < 36 ∨ 38 < c → x3 c = x1 c := fun c hc => by rw [b6 c (by omega) (by omega) (by omega), b3 c (by omega) (by omega)]
      have hxf : R_xf x1 x3 := ⟨fun c hc => fx c (by omega), by rw [fx 0 (by omega)], by rw [fx 1 (by omega)], by rw [fx 1 (by omega)], by rw [fx 1 (by omega)], by rw [fx 10 (by omega)], by rw [fx 18 (by omega)]⟩
      have hmf : R_mf m3 m4 := ⟨fun c hc => u2 c (by omega), by rw [u2 0 (by decide)]⟩
      refine ⟨if e ≠ 0 then tr_len Y T.2.2 else (T.2.2.length : Int), x3, m4, ?_, ?_, R_all_of (R_all_of e4 a4 g3) hxf hmf, P, A, B, Y, ρ, h0, h1, w, c1, tc_cf_xf (tc_cf_xf c2 a4) hxf, tm_cf_h k2 (by rw [u2 0 (by decide)]) (u2 7 (by decide)) (u2 9 (by decide)) (u2 10 (by decide))⟩
      · simp only [f_X7_pulled, f_X7_ended, f_X1_relay]
        rw [b_isBelowT (by omega), tg_bd_some, if_neg (by decide), b_isBelowT ha, tg_bd_some, if_neg (by decide), b_isBelowT hb, tg_bd_some, if_pos (by decide), if_neg hab, b_isBelowT (by omega), tg_bd_some, if_pos (by decide), cs.1 hs, tg_bd_some, if_pos (by decide), R_dayOf hd, tg_bd_some, Int.toNat_natCast, a1, tg_bd_some, tg_bd_some, Int.toNat_natCast, c_shorter c1.1 k1.1 haP hbP, tg_bd_some, tg_ck_pos (by decide), z1, b1, tg_bd_some, b4, tg_bd_some, b5.2.2.2.1, b5.2.2.1]
        split <;> rfl
      · rw [er _ rfl]
        simp only [f_X8_pulledOf, f_X8_done]
        rw [rs.1 hs, tg_bd_some, if_pos (by decide)]
        have ej : ∀ K : Int → tg_R, (if b ≤ a then K b else K a) = K (tg_min a b) := fun K => by
          rw [tg_min_e]
          by_cases c : b ≤ a
          · rw [if_pos c]
            by_cases c' : a ≤ b
            · rw [if_pos c', show a = b by omega]
            · rw [if_neg c']
          · rw [if_neg c, if_pos (by omega)]
        have ej2 : ∀ K : Int → tg_R, (if b ≤ a then K a else K b) = K (tg_max a b) := fun K => by
          rw [tg_max_e]
          by_cases c : b ≤ a
          · rw [if_pos c, if_pos c]
          · rw [if_neg c, if_neg c]
        have hmm := tp_mm haP hbP
        have y1 := (c4.1.2 _ hmm.1.1 hmm.1.2).2.2
        have y2 := (c4.1.2 _ hmm.2.1 hmm.2.2).2.2
        have hlast : tg_bd (f_X8_runs d 40 m2) (fun r4 m4 => some (r4, m4)) = some ((R_rn P A B Y ρ h0 h1 w x d 40).1, m3) := by rw [g1]; rfl
        refine tg_bd_eq ?_
        refine tg_jn_d (fun J hJ => ?_)
        rw [ej, hJ]
        refine tg_jn_d (fun J2 hJ2 => ?_)
        rw [ej2, hJ2]
        dsimp only
        rw [tg_wi_e (a := 3 * tg_max a b) (by omega), tg_wi_e (a := 3 * tg_max a b + 2) (by omega), tg_ck_pos (by omega), tg_wi_e (a := 3 * tg_min a b) (by omega), tg_wi_e (a := 3 * tg_min a b + 2) (by omega), tg_ck_pos (by omega)]
        refine tg_jn_d (fun J3 hJ3 => ?_)
        have ej3 : (if m2 7 (3 * tg_min a b + 2).toNat ≤ m2 7 (3 * tg_max a b + 2).toNat then J3 (tg_min a b) else J3 (tg_max a b)) = J3 (tp_sh Y a b) := by
          rw [y1, y2]
          unfold tp_sh
          split <;> rfl
        rw [ej3, hJ3]
        dsimp only
        rw [hlast, tg_bd_some]
        simp only [tg_jn]
        refine u1.trans ?_
        split <;> rfl
    · refine ⟨-3, x, m2, ?_, ?_, e4, P, A, B, Y, ρ, h0, h1, w, c1, c2, c4⟩
      · simp only [f_X7_pulled]
        rw [b_isBelowT (by omega), tg_bd_some, if_neg (by decide), b_isBelowT ha, tg_bd_some, if_neg (by decide), b_isBelowT hb, tg_bd_some, if_pos (by decide), if_neg hab, b_isBelowT (by omega), tg_bd_some, if_pos (by decide), cs.2 hs, tg_bd_some, if_neg (by decide)]
      · rw [er _ rfl]
        simp only [f_X8_pulledOf]
        rw [rs.2 hs, tg_bd_some, if_neg (by decide)]; rfl
  · obtain ⟨m', e1, e2⟩ := q_pulledN h hv
    exact ⟨-2, x, m', c_pulledN hv, e1, e2⟩
