-- the calls, one by one: class and reference answer alike and stay related
def R_st (fx fm : tg_Mem → tg_R) : Prop := ∀ x m, R_all x m → ∃ r x' m', fx x = some (r, x') ∧ fm m = some (r, m') ∧ R_all x' m'
theorem r_isTwoT {d : Int} {m : tg_Mem} (h : 0 ≤ d ∧ d ≤ 1) : f_X8_isTwo d m = some (1, m) := by simp only [f_X8_isTwo]; rw [b_inT h]; rfl
theorem r_isTwoF {d : Int} {m : tg_Mem} (h : ¬ (0 ≤ d ∧ d ≤ 1)) : f_X8_isTwo d m = some (0, m) := by simp only [f_X8_isTwo]; rw [b_inF h]; rfl
theorem r_isPlT {d : Int} {m : tg_Mem} (h : 0 ≤ d ∧ d ≤ 7) : f_X8_isPlace d m = some (1, m) := by simp only [f_X8_isPlace]; rw [b_inT h]; rfl
theorem r_isPlF {d : Int} {m : tg_Mem} (h : ¬ (0 ≤ d ∧ d ≤ 7)) : f_X8_isPlace d m = some (0, m) := by simp only [f_X8_isPlace]; rw [b_inF h]; rfl
theorem r_isShT {d : Int} {m : tg_Mem} (h : 0 ≤ d ∧ d ≤ 3) : f_X8_isSheet d m = some (1, m) := by simp only [f_X8_isSheet]; rw [b_inT h]; rfl
theorem r_isShF {d : Int} {m : tg_Mem} (h : ¬ (0 ≤ d ∧ d ≤ 3)) : f_X8_isSheet d m = some (0, m) := by simp only [f_X8_isSheet]; rw [b_inF h]; rfl
theorem s_fault : R_st f_X7_fault f_X8_fault := by
  intro x m h
  obtain ⟨P, A, B, Y, ρ, h0, h1, w, m1, c1, c2, c3, c4, c5⟩ := R_cf h
  refine ⟨x 1 9, x, m1, rfl, ?_, R_all_of h (R_xf_rf _) c5⟩
  simp only [f_X8_fault]
  rw [c3]; rfl
theorem s_path (a b : Int) : R_st (f_X7_path a b) (f_X8_path a b) := by
  intro x m h
  have h' := h
  obtain ⟨P, A, B, Y, ρ, h0, h1, w, m1, c1, c2, c3, c4, c5⟩ := R_cf h
  have hP : x 1 8 = P := c2.1.1
  have hPm : m1 0 8 = P := c4.1.1
  have hP8 := c1.1.2.1
  have hP0 := c1.1.1
  have eP : tg_wi (P - 1) = P - 1 := tg_wi_e (by omega)
  by_cases ha : 0 ≤ a ∧ a < P
  · by_cases hb : 0 ≤ b ∧ b < 3
    · obtain ⟨⟨s1, s2, s3⟩, ⟨t1, t2, t3⟩, -⟩ := h
      have hn : 4 * P - 1 = x 2 1 := by
        rw [hP] at s2
        by_cases hφ : x 1 9 = -1
        · rw [if_pos hφ] at s2
          rw [hφ] at s1
          have := tm_ff_n s1 t1.1
          omega
        · rw [if_neg hφ] at s2; omega
      obtain ⟨z1, z2, z3⟩ := s3 a ha.1 (by omega)
      obtain ⟨y1, y2, y3⟩ := c2.1.2 a ha.1 ha.2
      obtain ⟨u1, u2, u3⟩ := c4.1.2 a ha.1 ha.2
      have ef := b_figure (x := x) (p := a) (w := b) (by omega) hb (by omega) (t3 (4 * a + b) (by omega) (by omega)).2
      refine ⟨x 3 (4 * a + b).toNat - 48, x, m1, ?_, ?_, R_all_of h' (R_xf_rf _) c5⟩
      · simp only [f_X7_path]
        rw [b_isBelowT (by omega), tg_bd_some, if_neg (by decide), b_isBelowT hb, tg_bd_some, if_pos (by decide), ef]; rfl
      · simp only [f_X8_path, f_X8_isPath, tg_jn]
        rw [c3, tg_bd_some, hPm, eP, b_inT (by omega), tg_bd_some, tg_bd_some, if_neg (by decide), b_inT (by omega), tg_bd_some, if_neg (by decide), tg_wi_e (a := 3 * a) (by omega), tg_wi_e (a := 3 * a + b) (by omega), tg_ck_pos (by omega)]
        rcases (show b = 0 ∨ b = 1 ∨ b = 2 by omega) with rfl | rfl | rfl
        · simp only [Int.add_zero]; rw [u1, ← y1, z1]
        · rw [u2, ← y2, z2]
        · rw [u3, ← y3, z3]
    · refine ⟨-2, x, m1, ?_, ?_, R_all_of h' (R_xf_rf _) c5⟩
      · simp only [f_X7_path]
        rw [b_isBelowT (by omega), tg_bd_some, if_neg (by decide), b_isBelowF hb, tg_bd_some, if_neg (by decide)]
      · simp only [f_X8_path, f_X8_isPath, tg_jn]
        rw [c3, tg_bd_some, hPm, eP, b_inT (by omega), tg_bd_some, tg_bd_some, if_neg (by decide), b_inF (by omega), tg_bd_some, if_pos rfl]
  · refine ⟨-2, x, m1, ?_, ?_, R_all_of h' (R_xf_rf _) c5⟩
    · simp only [f_X7_path]
      rw [b_isBelowF (by omega), tg_bd_some, if_pos rfl]
    · simp only [f_X8_path, f_X8_isPath, tg_jn]
      rw [c3, tg_bd_some, hPm, eP, b_inF (by omega), tg_bd_some, tg_bd_some, if_pos rfl]
theorem s_start (a b : Int) : R_st (f_X7_start a b) (f_X8_start a b) := by
  intro x m h
  by_cases ha : a = 0 ∨ a = 1
  · by_cases hb : 0 ≤ b ∧ b ≤ 7
    · obtain ⟨d1, d2, d3, d4, d5⟩ := R_day ha h
      refine ⟨x (R_k a) 5, tg_up x (R_k a) 5 b, tg_up m 8 a.toNat b, ?_, ?_, ?_⟩
      · simp only [f_X7_start, tg_lt]
        rw [b_isBelowT (by omega), tg_bd_some, if_neg (by decide), b_isBelowT (by omega), tg_bd_some, if_pos (by decide), R_dayOf ha, tg_bd_some]; rfl
      · simp only [f_X8_start, tg_lt]
        rw [r_isTwoT (by omega), tg_bd_some, if_neg (by decide), r_isPlT hb, tg_bd_some, if_pos (by decide), tg_ck_pos (by omega), tg_ck_pos (by omega), d4]
      · obtain ⟨q0, q1, q2, q3, ⟨u1, u2, u3, u4, u5, u6, u7⟩, q5, q6, q7, q8⟩ := h
        have hk := R_kb ha
        have xk : ∀ c, c ≠ 10 → c ≠ 18 → tg_up x (R_k a) 5 b c = x c := fun c c1 c2 => by
          refine tg_up_k ?_
          unfold R_k
          rcases ha with rfl | rfl
          · rw [if_pos rfl]; exact c1
          · rw [if_neg (by decide)]; exact c2
        have mk : ∀ c, c ≠ 8 → tg_up m 8 a.toNat b c = m c := fun c c1 => tg_up_k c1
        have sh : ∀ s : Nat, s < 4 → R_sht x m s → R_sht (tg_up x (R_k a) 5 b) (tg_up m 8 a.toNat b) s := fun s hs h => R_sht_of h (xk _ (by omega) (by omega)) (xk _ (by omega) (by omega)) (by rw [mk 1 (by decide)]) (by rw [mk 2 (by decide)]) (mk 3 (by decide))
        refine ⟨tx_S_of q0 (by rw [xk 1 (by decide) (by decide)]) (by rw [xk 1 (by decide) (by decide)]) (by rw [xk 2 (by decide) (by decide)]) (xk 3 (by decide) (by decide)) (xk 7 (by decide) (by decide)) (xk 8 (by decide) (by decide)) (xk 9 (by decide) (by decide)), R_txt_of q1 (by rw [xk 2 (by decide) (by decide)]) (xk 3 (by decide) (by decide)) (by rw [mk 6 (by decide)]) (mk 5 (by decide)), R_txt_of q2 (by rw [xk 11 (by decide) (by decide)]) (xk 12 (by decide) (by decide)) (by rw [mk 6 (by decide)]) (mk 5 (by decide)), R_txt_of q3 (by rw [xk 19 (by decide) (by decide)]) (xk 20 (by decide) (by decide)) (by rw [mk 6 (by decide)]) (mk 5 (by decide)), ⟨?_, ?_, ?_, ?_, ?_, ?_, ?_⟩, sh 0 (by omega) q5, sh 1 (by omega) q6, sh 2 (by omega) q7, sh 3 (by omega) q8⟩
        · rcases ha with rfl | rfl
          · show tg_up m 8 0 b 8 0 = tg_up x 10 5 b 10 5 ∧ 0 ≤ tg_up x 10 5 b 10 5 ∧ tg_up x 10 5 b 10 5 ≤ 7
            rw [tg_up_same, tg_up_same]; exact ⟨rfl, hb⟩
          · show tg_up m 8 1 b 8 0 = tg_up x 18 5 b 10 5 ∧ 0 ≤ tg_up x 18 5 b 10 5 ∧ tg_up x 18 5 b 10 5 ≤ 7
            rw [tg_up_j (by decide), tg_up_k (by decide)]; exact u1
        · rcases ha with rfl | rfl
          · show tg_up m 8 0 b 8 1 = tg_up x 10 5 b 18 5 ∧ 0 ≤ tg_up x 10 5 b 18 5 ∧ tg_up x 10 5 b 18 5 ≤ 7
            rw [tg_up_j (by decide), tg_up_k (by decide)]; exact u2
          · show tg_up m 8 1 b 8 1 = tg_up x 18 5 b 18 5 ∧ 0 ≤ tg_up x 18 5 b 18 5 ∧ tg_up x 18 5 b 18 5 ≤ 7
            rw [tg_up_same, tg_up_same]; exact ⟨rfl, hb⟩
        · rw [mk 9 (by decide), xk 4 (by decide) (by decide)]; exact u3
        · rw [mk 9 (by decide), xk 4 (by decide) (by decide)]; exact u4
        · rw [mk 9 (by decide), xk 1 (by decide) (by decide)]; exact u5
        · intro i i1 i2; rw [mk 10 (by decide), xk 5 (by decide) (by decide)]; exact u6 i i1 i2
        · rw [mk 0 (by decide), xk 0 (by decide) (by decide)]; exact u7
    · refine ⟨-2, x, m, ?_, ?_, h⟩
      · simp only [f_X7_start]
        rw [b_isBelowT (by omega), tg_bd_some, if_neg (by decide), b_isBelowF (by omega), tg_bd_some, if_neg (by decide)]
      · simp only [f_X8_start]
        rw [r_isTwoT (by omega), tg_bd_some, if_neg (by decide), r_isPlF hb, tg_bd_some, if_neg (by decide)]
  · refine ⟨-2, x, m, ?_, ?_, h⟩
    · simp only [f_X7_start]
      rw [b_isBelowF (by omega), tg_bd_some, if_pos rfl]
    · simp only [f_X8_start]
      rw [r_isTwoF (by omega), tg_bd_some, if_pos rfl]
-- one cell of settings changes on both sides: what else is said stays
theorem R_set_of {x m x' m' : tg_Mem} (h : R_all x m) (hs : R_set x' m') (hx : ∀ c, c ≠ 1 → c ≠ 4 → c ≠ 5 → x' c = x c) (hm : ∀ c, c ≠ 9 → c ≠ 10 → m' c = m c) (h18 : x' 1 8 = x 1 8) (h19 : x' 1 9 = x 1 9) : R_all x' m' := by
  obtain ⟨q0, q1, q2, q3, q4, q5, q6, q7, q8⟩ := h
  have sh : ∀ s : Nat, s < 4 → R_sht x m s → R_sht x' m' s := fun s hs h => R_sht_of h (hx _ (by omega) (by omega) (by omega)) (hx _ (by omega) (by omega) (by omega)) (by rw [hm 1 (by decide) (by decide)]) (by rw [hm 2 (by decide) (by decide)]) (hm 3 (by decide) (by decide))
  exact ⟨tx_S_of q0 h18 h19 (by rw [hx 2 (by decide) (by decide) (by decide)]) (hx 3 (by decide) (by decide) (by decide)) (hx 7 (by decide) (by decide) (by decide)) (hx 8 (by decide) (by decide) (by decide)) (hx 9 (by decide) (by decide) (by decide)), R_txt_of q1 (by rw [hx 2 (by decide) (by decide) (by decide)]) (hx 3 (by decide) (by decide) (by decide)) (by rw [hm 6 (by decide) (by decide)]) (hm 5 (by decide) (by decide)), R_txt_of q2 (by rw [hx 11 (by decide) (by decide) (by decide)]) (hx 12 (by decide) (by decide) (by decide)) (by rw [hm 6 (by decide) (by decide)]) (hm 5 (by decide) (by decide)), R_txt_of q3 (by rw [hx 19 (by decide) (by decide) (by decide)]) (hx 20 (by decide) (by decide) (by decide)) (by rw [hm 6 (by decide) (by decide)]) (hm 5 (by decide) (by decide)), hs, sh 0 (by omega) q5, sh 1 (by omega) q6, sh 2 (by omega) q7, sh 3 (by omega) q8⟩
theorem s_set (a b : Int) : R_st (f_X7_set a b) (f_X8_set a b) := by
  intro x m h
  have hset := h.2.2.2.2.1
  obtain ⟨u1, u2, u3, u4, u5, u6, u7⟩ := hset
  by_cases ha : a = 0 ∨ a = 1
  · have ea : ¬ a = 2 := by omega
    by_cases hb : 0 ≤ b ∧ b ≤ 9
    · refine ⟨x 4 a.toNat, tg_up x 4 a.toNat b, tg_up m 9 a.toNat b, ?_, ?_, ?_⟩
      · have e : f_X7_setHeavy a b x = some (x 4 a.toNat, tg_up x 4 a.toNat b) := by
          simp only [f_X7_setHeavy, tg_lt]
          rw [b_isBelowT (by omega), tg_bd_some, if_neg (by decide), if_neg (by omega), if_pos (by omega), tg_ck_pos (by omega), tg_ck_pos (by omega)]
        simp only [f_X7_set, tg_jn]
        rw [e, tg_bd_some]
        rcases ha with rfl | rfl
        · rw [if_pos rfl]
        · rw [if_neg (by decide), if_neg (by decide)]
      · simp only [f_X8_set, tg_jn, tg_lt]
        rw [b_inT (by omega), tg_bd_some, if_neg (by decide), if_pos ea, if_pos ea, b_inT hb, tg_bd_some, if_pos (by decide), tg_ck_pos (by omega), tg_ck_pos (by omega)]
        rcases ha with rfl | rfl
        · show some (m 9 0, _) = some (x 4 0, _); rw [u3.1]
        · show some (m 9 1, _) = some (x 4 1, _); rw [u4.1]
      · refine R_set_of h ?_ (fun c c1 c2 c3 => tg_up_k c2) (fun c c1 c2 => tg_up_k c1) (by rw [tg_up_k (by decide)]) (by rw [tg_up_k (by decide)])
        refine ⟨?_, ?_, ?_, ?_, ?_, ?_, ?_⟩
        · rw [tg_up_k (by decide), tg_up_k (by decide)]; exact u1
        · rw [tg_up_k (by decide), tg_up_k (by decide)]; exact u2
        · rcases ha with rfl | rfl
          · show tg_up m 9 0 b 9 0 = tg_up x 4 0 b 4 0 ∧ 0 ≤ tg_up x 4 0 b 4 0 ∧ tg_up x 4 0 b 4 0 ≤ 9
            rw [tg_up_same, tg_up_same]; exact ⟨rfl, hb⟩
          · show tg_up m 9 1 b 9 0 = tg_up x 4 1 b 4 0 ∧ 0 ≤ tg_up x 4 1 b 4 0 ∧ tg_up x 4 1 b 4 0 ≤ 9
            rw [tg_up_j (by decide), tg_up_j (by decide)]; exact u3
        · rcases ha with rfl | rfl
          · show tg_up m 9 0 b 9 1 = tg_up x 4 0 b 4 1 ∧ 0 ≤ tg_up x 4 0 b 4 1 ∧ tg_up x 4 0 b 4 1 ≤ 9
            rw [tg_up_j (by decide), tg_up_j (by decide)]; exact u4
          · show tg_up m 9 1 b 9 1 = tg_up x 4 1 b 4 1 ∧ 0 ≤ tg_up x 4 1 b 4 1 ∧ tg_up x 4 1 b 4 1 ≤ 9
            rw [tg_up_same, tg_up_same]; exact ⟨rfl, hb⟩
        · rw [tg_up_j (by omega), tg_up_k (by decide)]; exact u5
        · intro i i1 i2; rw [tg_up_k (by decide), tg_up_k (by decide)]; exact u6 i i1 i2
        · rw [tg_up_k (by decide), tg_up_k (by decide)]; exact u7
    · refine ⟨-2, x, m, ?_, ?_, h⟩
      · have e : f_X7_setHeavy a b x = some (-2, x) := by
          simp only [f_X7_setHeavy, tg_lt]
          rw [b_isBelowT (by omega), tg_bd_some, if_neg (by decide)]
          by_cases hb0 : b < 0
          · rw [if_pos hb0]
          · rw [if_neg hb0, if_neg (by omega)]
        simp only [f_X7_set, tg_jn]
        rw [e, tg_bd_some]
        rcases ha with rfl | rfl
        · rw [if_pos rfl]
        · rw [if_neg (by decide), if_neg (by decide)]
      · simp only [f_X8_set, tg_jn, tg_lt]
        rw [b_inT (by omega), tg_bd_some, if_neg (by decide), if_pos ea, if_pos ea, b_inF hb, tg_bd_some, if_neg (by decide)]
  · have ea0 : ¬ a = 0 := by omega
    have ea1 : a ≠ 1 := by omega
    by_cases ha2 : a = 2
    · subst ha2
      by_cases hb : 1 ≤ b ∧ b ≤ 18
      · refine ⟨x 1 7, tg_up x 1 7 b, tg_up m 9 2 b, ?_, ?_, ?_⟩
        · simp only [f_X7_set, tg_jn, tg_lt]
          rw [if_neg ea0, if_pos ea1, if_neg (by decide), if_neg (by omega), if_pos (by omega)]
        · simp only [f_X8_set, tg_jn, tg_lt]
          rw [b_inT (by omega), tg_bd_some, if_neg (by decide), if_neg (by decide), if_neg (by decide), b_inT hb, tg_bd_some, if_pos (by decide), tg_ck_pos (by omega), tg_ck_pos (by omega)]
          show some (m 9 2, _) = _
          rw [u5.1]; rfl
        · refine R_set_of h ?_ (fun c c1 c2 c3 => tg_up_k c1) (fun c c1 c2 => tg_up_k c1) (by rw [tg_up_j (by decide)]) (by rw [tg_up_j (by decide)])
          refine ⟨?_, ?_, ?_, ?_, ?_, ?_, ?_⟩
          · rw [tg_up_k (by decide), tg_up_k (by decide)]; exact u1
          · rw [tg_up_k (by decide), tg_up_k (by decide)]; exact u2
          · rw [tg_up_j (by decide), tg_up_k (by decide)]; exact u3
          · rw [tg_up_j (by decide), tg_up_k (by decide)]; exact u4
          · rw [tg_up_same, tg_up_same]; exact ⟨rfl, hb⟩
          · intro i i1 i2; rw [tg_up_k (by decide), tg_up_k (by decide)]; exact u6 i i1 i2
          · rw [tg_up_k (by decide), tg_up_k (by decide)]; exact u7
      · refine ⟨-2, x, m, ?_, ?_, h⟩
        · simp only [f_X7_set, tg_jn, tg_lt]
          rw [if_neg ea0, if_pos ea1, if_neg (by decide)]
          by_cases hb0 : b < 1
          · rw [if_pos hb0]
          · rw [if_neg hb0, if_neg (by omega)]
        · simp only [f_X8_set, tg_jn, tg_lt]
          rw [b_inT (by omega), tg_bd_some, if_neg (by decide), if_neg (by decide), if_neg (by decide), b_inF hb, tg_bd_some, if_neg (by decide)]
    · refine ⟨-2, x, m, ?_, ?_, h⟩
      · simp only [f_X7_set, tg_jn, tg_lt]
        rw [if_neg ea0, if_pos ea1, if_pos ha2]
      · simp only [f_X8_set, tg_jn, tg_lt]
        rw [b_inF (by omega), tg_bd_some, if_pos rfl]
theorem s_thistle (a b : Int) : R_st (f_X7_thistle a b) (f_X8_thistle a b) := by
  intro x m h
  have hset := h.2.2.2.2.1
  obtain ⟨u1, u2, u3, u4, u5, u6, u7⟩ := hset
  by_cases ha : 0 ≤ a ∧ a ≤ 7
  · by_cases hb : 0 ≤ b ∧ b ≤ 99
    · refine ⟨x 5 a.toNat, tg_up x 5 a.toNat b, tg_up m 10 a.toNat b, ?_, ?_, ?_⟩
      · simp only [f_X7_thistle, tg_lt]
        rw [b_isBelowT (by omega), tg_bd_some, if_neg (by decide), if_neg (by omega), if_pos (by omega), tg_ck_pos (by omega), tg_ck_pos (by omega)]
      · simp only [f_X8_thistle, tg_lt]
        rw [r_isPlT ha, tg_bd_some, if_neg (by decide), b_inT hb, tg_bd_some, if_pos (by decide), tg_ck_pos (by omega), tg_ck_pos (by omega), (u6 a ha.1 ha.2).1]
      · refine R_set_of h ?_ (fun c c1 c2 c3 => tg_up_k c3) (fun c c1 c2 => tg_up_k c2) (by rw [tg_up_k (by decide)]) (by rw [tg_up_k (by decide)])
        refine ⟨?_, ?_, ?_, ?_, ?_, ?_, ?_⟩
        · rw [tg_up_k (by decide), tg_up_k (by decide)]; exact u1
        · rw [tg_up_k (by decide), tg_up_k (by decide)]; exact u2
        · rw [tg_up_k (by decide), tg_up_k (by decide)]; exact u3
        · rw [tg_up_k (by decide), tg_up_k (by decide)]; exact u4
        · rw [tg_up_k (by decide), tg_up_k (by decide)]; exact u5
        · intro i i1 i2
          by_cases hi : i = a
          · subst hi; rw [tg_up_same, tg_up_same]; exact ⟨rfl, hb⟩
          · rw [tg_up_j (by omega), tg_up_j (by omega)]; exact u6 i i1 i2
        · rw [tg_up_k (by decide), tg_up_k (by decide)]; exact u7
    · refine ⟨-2, x, m, ?_, ?_, h⟩
      · simp only [f_X7_thistle, tg_lt]
        rw [b_isBelowT (by omega), tg_bd_some, if_neg (by decide)]
        by_cases hb0 : b < 0
        · rw [if_pos hb0]
        · rw [if_neg hb0, if_neg (by omega)]
      · simp only [f_X8_thistle, tg_lt]
        rw [r_isPlT ha, tg_bd_some, if_neg (by decide), b_inF hb, tg_bd_some, if_neg (by decide)]
  · refine ⟨-2, x, m, ?_, ?_, h⟩
    · simp only [f_X7_thistle, tg_lt]
      rw [b_isBelowF (by omega), tg_bd_some, if_pos rfl]
    · simp only [f_X8_thistle, tg_lt]
      rw [r_isPlF ha, tg_bd_some, if_pos rfl]
