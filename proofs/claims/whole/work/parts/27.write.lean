-- the rope, written down
section WRITE
variable {P : Int} {A B Y : Int → Int} {S : Int × Int × List Int}
theorem R_wrl {s L : Int} {k : Nat} (hk : k = 13 ∨ k = 21) (hs : 0 ≤ s ∧ s < 4) (hL : L ≤ S.2.2.length) : ∀ (N : Nat) (i : Int) (x m : tg_Mem) (F : Nat), N < F → 0 ≤ i → i + N = L → R_all x m → tc_rp Y k x S → tm_rp Y m S → x (tg_sh s) 1 ≠ -1 → L ≤ x (tg_sh s) 2 →
    ∃ x' m', tg_fx (f_X7_write_B67 s ((k - 3 : Nat) : Int) L) (fun _ _ => none) F i x = some (L, x') ∧ tg_fx (f_X8_write_B73 s L) (fun _ _ => none) F i m = some (L, m') ∧ R_all x' m' := by
  intro N
  induction N with
  | zero =>
    intro i x m F hF hi hiN h hr hq hf hsz
    obtain ⟨F, rfl⟩ : ∃ n', F = n' + 1 := ⟨F - 1, by omega⟩
    refine ⟨x, m, ?_, ?_, h⟩
    · rw [tg_fx_s]; unfold f_X7_write_B67; rw [if_pos (by omega)]
    · rw [tg_fx_s]; unfold f_X8_write_B73; rw [if_pos (by omega)]
  | succ N ih =>
    intro i x m F hF hi hiN h hr hq hf hsz
    obtain ⟨F, rfl⟩ : ∃ n', F = n' + 1 := ⟨F - 1, by omega⟩
    have esh := R_shn hs
    obtain ⟨s1, s2, s3⟩ := R_sh h hs
    rw [← esh] at s1 s2 s3
    obtain ⟨s4, s5, s6⟩ := s3 hf
    obtain ⟨p, p1, p2⟩ := c_pathAt (i := i) hr ⟨hi, by omega⟩
    have p3 : m 12 i.toNat = p := by
      have := hq.2.2.2.2.2 i.toNat (by omega)
      rw [p1] at this; exact (Option.some.inj this).symm
    have hlen := hq.2.2.2.2.1
    obtain ⟨v, hv⟩ : ∃ v, v = tn_cut (x (tg_sh s) 1) p := ⟨_, rfl⟩
    have hR := R_put (i := i) (v := v) h hs hf ⟨hi, by omega⟩
    have hk40 : tg_sh s + 1 ≠ k ∧ tg_sh s + 1 ≠ k + 1 ∧ tg_sh s + 1 ≠ k + 2 := by omega
    obtain ⟨x', m', q1, q2, q3⟩ := ih (i + 1) _ _ F (by omega) (by omega) (by omega) hR (tc_rp_of hr (by rw [tg_up_k (by omega)]) (by rw [tg_up_k (by omega)]) (by rw [tg_up_k (by omega)])) (tm_rp_of hq (by rw [tg_up_k (by decide)]) (by rw [tg_up_k (by decide)]) (by rw [tg_up_k (by decide)]) (by rw [tg_up_k (by decide)])) (by rw [tg_up_k (by omega)]; exact hf) (by rw [tg_up_k (by omega)]; exact hsz)
    refine ⟨x', m', ?_, ?_, q3⟩
    · rw [tg_fx_s]
      generalize tg_fx (f_X7_write_B67 s ((k - 3 : Nat) : Int) L) (fun _ _ => none) F = G at q1 ⊢
      unfold f_X7_write_B67
      simp only [tg_lt]
      rw [if_neg (by omega), Int.toNat_natCast, show k - 3 + 3 = k by omega, p2, tg_bd_some, c_put ⟨hi, by omega⟩ s4.2, tg_bd_some, tg_wi_e (by omega), ← hv]
      exact q1
    · rw [tg_fx_s]
      generalize tg_fx (f_X8_write_B73 s L) (fun _ _ => none) F = G at q2 ⊢
      unfold f_X8_write_B73
      simp only [tg_lt]
      rw [if_neg (by omega), tg_ck_pos hs, tg_ck_pos (by omega), r_cut, tg_bd_some, s2, p3, tg_wi_e (a := 60 * s) (by omega), tg_wi_e (a := 60 * s + i) (by omega), tg_ck_pos (by omega), tg_wi_e (a := i + 1) (by omega), ← hv]
      exact q2
end WRITE
theorem s_write (d s : Int) : R_st (f_X7_write d s) (f_X8_write d s) := by
  intro x m h
  by_cases hd : d = 0 ∨ d = 1
  · by_cases hs : 0 ≤ s ∧ s < 4
    · have esh := R_shn hs
      obtain ⟨s1, s2, s3⟩ := R_sh h hs
      rw [← esh] at s1 s2 s3
      by_cases hf : x (tg_sh s) 1 = -1
      · obtain ⟨f1, f2, f3⟩ := R_find (n := 1) h (by omega)
        refine ⟨-10 - 1, _, _, ?_, ?_, f3⟩
        · simp only [f_X7_write, tg_lt]
          rw [b_isBelowT (by omega), tg_bd_some, if_neg (by decide), b_isBelowT hs, tg_bd_some, if_pos (by decide), tg_ck_pos hs, if_neg (fun z => z hf), f1]; rfl
        · simp only [f_X8_write]
          rw [r_isTwoT (by omega), tg_bd_some, if_neg (by decide), r_isShT (by omega), tg_bd_some, if_pos (by decide), tg_ck_pos hs, s2, if_neg (by omega), f2]; rfl
      · obtain ⟨s4, s5, s6⟩ := s3 hf
        obtain ⟨P, A, B, Y, ρ, h0, h1, w, m1, c1, c2, c3, c4, c5⟩ := R_cf h
        have h' : R_all x m1 := R_all_of h (R_xf_rf _) c5
        obtain ⟨x1, e1, e2, e3, e4, e5⟩ := R_walk (h0 := h0) (h1 := h1) (most := 40) hd h' (by omega) c1 c2
        obtain ⟨m2, g1, g2, g3, g4⟩ := R_runs (h0 := h0) (h1 := h1) (most := 40) hd h' (by omega) c1 c4
        have hkb := R_kb hd
        have hk : R_k d + 3 = 13 ∨ R_k d + 3 = 21 := by unfold R_k; split <;> omega
        have hR : R_all x1 m2 := R_all_of h' e4 g3
        obtain ⟨⟨S, E, D, bare⟩, hrn⟩ : ∃ q, q = (R_rn P A B Y ρ h0 h1 w x d 40).2 := ⟨_, rfl⟩
        rw [← hrn] at e2 g2
        have y1 : x1 (tg_sh s) = x (tg_sh s) := e5.1 _ (by omega) (by omega) (by omega) (by omega) (by omega) (by omega)
        have y2 : m2 2 s.toNat = x (tg_sh s) 2 := by rw [g3.1 2 (by omega), c5.1 2 (by omega), s5]
        have hl1 : x1 (R_k d + 3) 4 = S.2.2.length := e2.1.2.2.1
        have hl2 : m2 0 15 = S.2.2.length := g2.1.2.2.1
        obtain ⟨L, hL⟩ : ∃ L : Int, L = if x (tg_sh s) 2 ≤ S.2.2.length then x (tg_sh s) 2 else S.2.2.length := ⟨_, rfl⟩
        have hL1 : 0 ≤ L ∧ L ≤ S.2.2.length ∧ L ≤ x (tg_sh s) 2 := by rw [hL]; split <;> omega
        obtain ⟨x', m', q1, q2, q3⟩ := R_wrl (Y := Y) (S := S) (s := s) (L := L) (k := R_k d + 3) hk hs hL1.2.1 L.toNat 0 x1 m2 tg_FU (by have := tg_FUg; omega) (by omega) (by omega) hR e2.1 g2.1 (by rw [y1]; exact hf) (by rw [y1]; exact hL1.2.2)
        refine ⟨L, x', m', ?_, ?_, q3⟩
        · simp only [f_X7_write, f_X7_ended, tg_lt]
          have eL : tg_min (x1 (tg_sh s) 2) (x1 (R_k d + 3) 4) = L := by
            rw [y1, hl1, hL]; unfold tg_min; split <;> split <;> omega
          rw [b_isBelowT (by omega), tg_bd_some, if_neg (by decide), b_isBelowT hs, tg_bd_some, if_pos (by decide), tg_ck_pos hs, if_pos hf, R_dayOf hd, tg_bd_some, Int.toNat_natCast, e1, tg_bd_some, tg_bd_some, Int.toNat_natCast, eL]
          exact q1
        · simp only [f_X8_write, f_X8_done, tg_jn]
          rw [r_isTwoT (by omega), tg_bd_some, if_neg (by decide), r_isShT (by omega), tg_bd_some, if_pos (by decide), tg_ck_pos hs, s2, if_pos (by omega), c3, tg_bd_some, g1, tg_bd_some, tg_bd_some, tg_ck_pos hs, hl2, y2]
          by_cases c : (S.2.2.length : Int) ≤ x (tg_sh s) 2
          · have : L = S.2.2.length := by rw [hL]; split <;> omega
            rw [if_pos c, ← this]; exact q2
          · have : L = x (tg_sh s) 2 := by rw [hL]; split <;> omega
            rw [if_neg c, tg_ck_pos hs, ← this]; exact q2
    · refine ⟨-2, x, m, ?_, ?_, h⟩
      · simp only [f_X7_write]
        rw [b_isBelowT (by omega), tg_bd_some, if_neg (by decide), b_isBelowF hs, tg_bd_some, if_neg (by decide)]
      · simp only [f_X8_write]
        rw [r_isTwoT (by omega), tg_bd_some, if_neg (by decide), r_isShF (by omega), tg_bd_some, if_neg (by decide)]
  · refine ⟨-2, x, m, ?_, ?_, h⟩
    · simp only [f_X7_write]
      rw [b_isBelowF (by omega), tg_bd_some, if_pos rfl]
    · simp only [f_X8_write]
      rw [r_isTwoF (by omega), tg_bd_some, if_pos rfl]
