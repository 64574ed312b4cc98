-- the call game
theorem tu_C_b {n : Nat} (h : n ≤ 5) : tu_C n ≤ 300000 := by
  rcases (show n = 0 ∨ n = 1 ∨ n = 2 ∨ n = 3 ∨ n = 4 ∨ n = 5 by omega) with rfl | rfl | rfl | rfl | rfl | rfl <;> decide
theorem s_game (d n v : Int) : R_st (f_X7_game d n v) (f_X8_game d n v) := by
  intro x m h
  obtain ⟨P, A, B, Y, ρ, h0, h1, w, m1, c1, c2, c3, c4, c5⟩ := R_cf h
  have h' : R_all x m1 := R_all_of h (R_xf_rf _) c5
  by_cases hd : d = 0 ∨ d = 1
  · by_cases hn : 1 ≤ n ∧ n ≤ 5
    · by_cases hv : v = 0 ∨ v = 1
      · obtain ⟨x1, a1, a2, a3, a4, a5⟩ := R_walk (h0 := h0) (h1 := h1) (most := 40) hd h' (by omega) c1 c2
        obtain ⟨m2, g1, g2, g3, g4⟩ := R_runs (h0 := h0) (h1 := h1) (most := 40) hd h' (by omega) c1 c4
        obtain ⟨-, -, -, i1, i2, -⟩ := R_rn_I (h0 := h0) (h1 := h1) (most := 40) hd h' (by omega) c1
        have hkb := R_kb hd
        have k1 : tc_cf x1 P A B Y ρ h0 h1 w := tc_cf_fr hkb.1 c2 a5
        have k2 : tm_cf m2 P A B Y ρ h0 h1 w := tm_cf_fr c4 g4
        obtain ⟨D, hD⟩ : ∃ D, D = (R_rn P A B Y ρ h0 h1 w x d 40).2 := ⟨_, rfl⟩
        rw [← hD] at a2 g2 i1 i2
        have hva : ts_va P A B Y ρ D.1 := ⟨i1, i2⟩
        obtain ⟨x2, b1, b2, b3⟩ := c_play (n := n) (bare := D.2.2.2) c1 hkb hn hva k1 a2.1 a2.2.2.2.2.2
        have r2 : tm_rp Y m2 D.1 := g2.1
        have ew := r_way c1.1 r2 i1 (ts_va_l c1.1 c1.2.1.2 hva)
        obtain ⟨m3, e1, e2, e3, e4, e5, e6, e7⟩ := r_enters (k := 0) (a := tk_key D.1) (b := m2 0 19) (c := 0) (m := m2) (by decide)
        have k3 : tm_cf m3 P A B Y ρ h0 h1 w := tm_cf_g k2 (fun c _ _ _ _ => e6 c (by omega) (by omega) (by omega) (by omega)) (by rw [e6 0 (by decide) (by decide) (by decide) (by decide)])
        obtain ⟨J, hJ⟩ : ∃ J : Int → Int → tg_Mem → tg_R, J = fun (v5_427 : Int) (v6_427 : Int) (m_427 : tg_Mem) => if v ≠ 0 then some (v5_427, m_427) else some (v6_427, m_427) := ⟨_, rfl⟩
        obtain ⟨c, m4, v5', q1, q2, q3, -, q5⟩ := tu_Qall (h0 := h0) (h1 := h1) (n := n.toNat) (j427 := J) c1 (by omega) n.toNat 0 D.1 m3 (-1) 0 D.2.2.2 0 (by omega) hva k3 e2 (by rw [e3]; exact g2.2.2.2.2.2) e4 (by omega) e5
        have hC := tu_C_b (n := n.toNat) (by omega)
        have q5' := q5 rfl (by omega)
        have q2' := q2 (tg_FU - c)
        have hF := tg_FUg
        rw [show tg_FU - c + c = tg_FU by omega] at q2'
        obtain ⟨F, hF2⟩ : ∃ F, tg_FU - c = F + 1 := ⟨tg_FU - c - 1, by omega⟩
        have eend : tu_ret 0 (0 + tu_sg 0 (tu_v P A B Y ρ w n.toNat ((0 % 2 : Nat) : Int) D.1 D.2.2.2)) v5' m4 (tg_fx (f_X8_gameOf_B29 ((n.toNat : Nat) : Int) J) (fun _ _ _ _ => none) (tg_FU - c)) = J v5' (tu_v P A B Y ρ w n.toNat 0 D.1 D.2.2.2) m4 := by
          rw [hF2]
          show tg_fx (f_X8_gameOf_B29 ((n.toNat : Nat) : Int) J) (fun _ _ _ _ => none) (F + 1) (-1) v5' (0 + tu_v P A B Y ρ w n.toNat 0 D.1 D.2.2.2) m4 = _
          rw [tg_fx_s, Int.zero_add]
          unfold f_X8_gameOf_B29
          rw [if_pos (by decide)]
        rw [eend, show ((n.toNat : Nat) : Int) = n by omega] at q2'
        have hxf : R_xf x1 x2 := ⟨fun c hc => b3 c (by omega) (by omega) (by omega) (by omega), by rw [b3 0 (by decide) (by decide) (by decide) (by decide)], by rw [b3 1 (by decide) (by decide) (by decide) (by decide)], by rw [b3 1 (by decide) (by decide) (by decide) (by decide)], by rw [b3 1 (by decide) (by decide) (by decide) (by decide)], by rw [b3 10 (by decide) (by decide) (by decide) (by decide)], by rw [b3 18 (by decide) (by decide) (by decide) (by decide)]⟩
        have hmf : R_mf m2 m4 := ⟨fun c hc => by rw [q3.1 c (by omega) (by omega) (by omega) (by omega), e6 c (by omega) (by omega) (by omega) (by omega)], by rw [q3.2.1 4 (by decide) (by decide), e6 0 (by decide) (by decide) (by decide) (by decide)]⟩
        refine ⟨if v ≠ 0 then tu_p P A B Y ρ w n.toNat 0 D.1 D.2.2.2 else tu_v P A B Y ρ w n.toNat 0 D.1 D.2.2.2, x2, m4, ?_, ?_, R_all_of (R_all_of h' a4 g3) hxf hmf⟩
        · simp only [f_X7_game, f_X7_ended]
          rw [b_isBelowT (by omega), tg_bd_some, if_neg (by decide), if_neg (by omega), if_neg (by omega), b_isBelowT (by omega), tg_bd_some, if_pos (by decide), R_dayOf hd, tg_bd_some, Int.toNat_natCast, a1, tg_bd_some, tg_bd_some, Int.toNat_natCast, b1, tg_bd_some, b2]
          split <;> rfl
        · have er : f_X8_gameOf d n v m1 = J v5' (tu_v P A B Y ρ w n.toNat 0 D.1 D.2.2.2) m4 := by
            simp only [f_X8_gameOf, f_X8_done]
            have e1' : f_X8_enters 0 (tk_key D.1) (m2 0 19) 0 m2 = some (0, m3) := e1
            rw [g1, tg_bd_some, tg_bd_some, ew, tg_bd_some, e1', tg_bd_some]
            simp only [tg_jn]
            rw [← hJ]
            exact q2'
          simp only [f_X8_game, tg_jn]
          rw [c3, tg_bd_some, r_isTwoT (by omega), tg_bd_some, if_neg (by decide), b_inT hn, tg_bd_some, if_neg (by decide), r_isTwoT (by omega), tg_bd_some, if_neg (by decide), er, hJ]
          dsimp only
          rw [q5']
          by_cases hv0 : v = 0
          · rw [if_neg (fun z => z hv0), if_neg (fun z => z hv0), tg_bd_some]
          · rw [if_pos hv0, if_pos hv0, tg_bd_some]
      · refine ⟨-10002, x, m1, ?_, ?_, h'⟩
        · simp only [f_X7_game]
          rw [b_isBelowT (by omega), tg_bd_some, if_neg (by decide), if_neg (by omega), if_neg (by omega), b_isBelowF (by omega), tg_bd_some, if_neg (by decide)]
        · simp only [f_X8_game, tg_jn]
          rw [c3, tg_bd_some, r_isTwoT (by omega), tg_bd_some, if_neg (by decide), b_inT hn, tg_bd_some, if_neg (by decide), r_isTwoF (by omega), tg_bd_some, if_pos rfl]
    · refine ⟨-10002, x, m1, ?_, ?_, h'⟩
      · simp only [f_X7_game]
        rw [b_isBelowT (by omega), tg_bd_some, if_neg (by decide)]
        by_cases hn1 : n < 1
        · rw [if_pos hn1]
        · rw [if_neg hn1, if_pos (by omega)]
      · simp only [f_X8_game, tg_jn]
        rw [c3, tg_bd_some, r_isTwoT (by omega), tg_bd_some, if_neg (by decide), b_inF hn, tg_bd_some, if_pos rfl]
  · refine ⟨-10002, x, m1, ?_, ?_, h'⟩
    · simp only [f_X7_game]
      rw [b_isBelowF (by omega), tg_bd_some, if_pos rfl]
    · simp only [f_X8_game, tg_jn]
      rw [c3, tg_bd_some, r_isTwoF (by omega), tg_bd_some, if_pos rfl]
