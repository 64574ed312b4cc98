-- the calls that tell what is loose, and that count
theorem s_loose (d : Int) : R_st (f_X7_loose d) (f_X8_loose d) := by
  intro x m h
  obtain ⟨P, A, B, Y, ρ, h0, h1, w, m1, c1, c2, c3, c4, c5⟩ := R_cf h
  by_cases hd : d = 0 ∨ d = 1
  · have h' : R_all x m1 := R_all_of h (R_xf_rf _) c5
    obtain ⟨x', e1, e2, e3, e4, e5⟩ := R_walk (h0 := h0) (h1 := h1) (most := 40) hd h' (by omega) c1 c2
    obtain ⟨m', g1, g2, g3, g4⟩ := R_runs (h0 := h0) (h1 := h1) (most := 40) hd h' (by omega) c1 c4
    refine ⟨x' (R_k d + 3) 4, x', m', ?_, ?_, R_all_of h' e4 g3⟩
    · simp only [f_X7_loose, f_X7_ended]
      rw [b_isBelowT (by omega), tg_bd_some, if_neg (by decide), R_dayOf hd, tg_bd_some, Int.toNat_natCast, e1, tg_bd_some, tg_bd_some, Int.toNat_natCast]
    · simp only [f_X8_loose, f_X8_looseOf, f_X8_done]
      rw [c3, tg_bd_some, r_isTwoT (by omega), tg_bd_some, if_neg (by decide), g1, tg_bd_some, tg_bd_some, tg_bd_some, g2.1.2.2.1, ← e2.1.2.2.1]
  · refine ⟨-2, x, m1, ?_, ?_, R_all_of h (R_xf_rf _) c5⟩
    · simp only [f_X7_loose]
      rw [b_isBelowF (by omega), tg_bd_some, if_pos rfl]
    · simp only [f_X8_loose]
      rw [c3, tg_bd_some, r_isTwoF (by omega), tg_bd_some, if_pos rfl]
/-- the sum of the first 'n' figures from 'i' on -/
def tn_sum (Y : Int → Int) : Nat → Int → Int → Int
  | 0, _, v => v
  | n + 1, i, v => tn_sum Y n (i + 1) (v + Y i)
theorem tn_iand0 : ∀ pl : Int, 0 ≤ pl → pl ≤ 7 → tg_iand (tg_ishr 0 pl) 1 = 0 := by
  intro pl h1 h2
  rcases (show pl = 0 ∨ pl = 1 ∨ pl = 2 ∨ pl = 3 ∨ pl = 4 ∨ pl = 5 ∨ pl = 6 ∨ pl = 7 by omega) with rfl | rfl | rfl | rfl | rfl | rfl | rfl | rfl <;> decide +kernel
section COUNT
variable {P : Int} {A B Y : Int → Int} {ρ h0 h1 : Int} {w : Int → Int} {x m : tg_Mem}
theorem c_allY (hm : tr_md P A B Y) (hx : tc_md x P A B Y) : ∀ (N : Nat) (i v : Int) (n : Nat), N < n → 0 ≤ i → i + N = P → 0 ≤ v → v ≤ 9 * i → tg_fx (f_X2_allYards_B4) (fun _ _ _ => none) n v i x = some (tn_sum Y N i v, x) := by
  intro N
  induction N with
  | zero =>
    intro i v n hn hi hiN hv hv2
    obtain ⟨n, rfl⟩ : ∃ n', n = n' + 1 := ⟨n - 1, by omega⟩
    rw [tg_fx_s]
    unfold f_X2_allYards_B4
    rw [hx.1, if_pos (by omega)]; rfl
  | succ N ih =>
    intro i v n hn hi hiN hv hv2
    obtain ⟨n, rfl⟩ : ∃ n', n = n' + 1 := ⟨n - 1, by omega⟩
    have hY := (hm.2.2 i hi (by omega)).2.2.2
    have hP := hm.2.1
    rw [tg_fx_s]
    unfold f_X2_allYards_B4
    rw [hx.1, if_neg (by omega), c_yardsOf hm hx ⟨hi, by omega⟩, tg_bd_some]
    simp only [tg_lt]
    rw [tg_wi_e (a := v + Y i) (by omega), tg_wi_e (a := i + 1) (by omega)]
    exact ih (i + 1) (v + Y i) n (by omega) (by omega) (by omega) (by omega) (by omega)
theorem r_allY (hm : tr_md P A B Y) (hx : tm_md m P A B Y) : ∀ (N : Nat) (i v : Int) (n : Nat), N < n → 0 ≤ i → i + N = P → 0 ≤ v → v ≤ 9 * i → tg_fx (f_X8_count_B76 m) (fun _ _ => none) n v i = some (tn_sum Y N i v, m) := by
  intro N
  induction N with
  | zero =>
    intro i v n hn hi hiN hv hv2
    obtain ⟨n, rfl⟩ : ∃ n', n = n' + 1 := ⟨n - 1, by omega⟩
    rw [tg_fx_s]
    unfold f_X8_count_B76
    rw [hx.1, if_pos (by omega)]; rfl
  | succ N ih =>
    intro i v n hn hi hiN hv hv2
    obtain ⟨n, rfl⟩ : ∃ n', n = n' + 1 := ⟨n - 1, by omega⟩
    have hY := (hm.2.2 i hi (by omega)).2.2.2
    have hP := hm.2.1
    rw [tg_fx_s]
    have q := ih (i + 1) (v + Y i) n (by omega) (by omega) (by omega) (by omega) (by omega)
    generalize tg_fx (f_X8_count_B76 m) (fun _ _ => none) n = G at q ⊢
    unfold f_X8_count_B76
    rw [hx.1, if_neg (by omega), tg_wi_e (a := 3 * i) (by omega), tg_wi_e (a := 3 * i + 2) (by omega), tg_ck_pos (by omega)]
    simp only [tg_lt]
    rw [(hx.2 i hi (by omega)).2.2, tg_wi_e (a := v + Y i) (by omega), tg_wi_e (a := i + 1) (by omega)]
    exact q
theorem c_allW (hw : ∀ i, 0 ≤ i → i ≤ 7 → 0 ≤ w i ∧ w i ≤ 99) (hx : tc_cf x P A B Y ρ h0 h1 w) : ∀ (N : Nat) (i v : Int) (n : Nat), N < n → 0 ≤ i → i + N = 8 → 0 ≤ v → v ≤ 99 * i → tg_fx (f_X2_worthBeside_B4 0) (fun _ _ _ => none) n v i x = some (tn_sum w N i v, x) := by
  intro N
  induction N with
  | zero =>
    intro i v n hn hi hiN hv hv2
    obtain ⟨n, rfl⟩ : ∃ n', n = n' + 1 := ⟨n - 1, by omega⟩
    rw [tg_fx_s]
    unfold f_X2_worthBeside_B4
    rw [if_pos (by omega)]; rfl
  | succ N ih =>
    intro i v n hn hi hiN hv hv2
    obtain ⟨n, rfl⟩ : ∃ n', n = n' + 1 := ⟨n - 1, by omega⟩
    have hwi := hw i hi (by omega)
    have e : tr_wo w i 0 = w i := if_pos (tn_iand0 i hi (by omega))
    rw [tg_fx_s]
    unfold f_X2_worthBeside_B4
    rw [if_neg (by omega), c_worthAt hx ⟨hi, by omega⟩, tg_bd_some, e]
    simp only [tg_lt]
    rw [tg_wi_e (a := v + w i) (by omega), tg_wi_e (a := i + 1) (by omega)]
    exact ih (i + 1) (v + w i) n (by omega) (by omega) (by omega) (by omega) (by omega)
theorem r_allW (hw : ∀ i, 0 ≤ i → i ≤ 7 → 0 ≤ w i ∧ w i ≤ 99) (hx : tm_cf m P A B Y ρ h0 h1 w) : ∀ (N : Nat) (i v : Int) (n : Nat), N < n → 0 ≤ i → i + N = 8 → 0 ≤ v → v ≤ 99 * i → tg_fx (f_X8_count_B107 m) (fun _ _ => none) n v i = some (tn_sum w N i v, m) := by
  intro N
  induction N with
  | zero =>
    intro i v n hn hi hiN hv hv2
    obtain ⟨n, rfl⟩ : ∃ n', n = n' + 1 := ⟨n - 1, by omega⟩
    rw [tg_fx_s]
    unfold f_X8_count_B107
    rw [if_pos (by omega)]; rfl
  | succ N ih =>
    intro i v n hn hi hiN hv hv2
    obtain ⟨n, rfl⟩ : ∃ n', n = n' + 1 := ⟨n - 1, by omega⟩
    have hwi := hw i hi (by omega)
    rw [tg_fx_s]
    unfold f_X8_count_B107
    rw [if_neg (by omega), tg_ck_pos (by omega)]
    simp only [tg_lt]
    rw [hx.2.2.2.2 i hi (by omega), tg_wi_e (a := v + w i) (by omega), tg_wi_e (a := i + 1) (by omega)]
    exact ih (i + 1) (v + w i) n (by omega) (by omega) (by omega) (by omega) (by omega)
end COUNT
theorem s_count (v : Int) : R_st (f_X7_count v) (f_X8_count v) := by
  intro x m h
  obtain ⟨P, A, B, Y, ρ, h0, h1, w, m1, c1, c2, c3, c4, c5⟩ := R_cf h
  have h' : R_all x m1 := R_all_of h (R_xf_rf _) c5
  have hFU := tg_FUg
  have hP := c1.1.1
  by_cases hv : 0 ≤ v ∧ v < 9
  · simp only [f_X7_count, f_X8_count, tg_jn]
    rw [b_isBelowT hv, tg_bd_some, if_pos (by decide), c3, tg_bd_some]
    obtain ⟨q0, q1, q2, q3, q4, q5, q6, q7, q8⟩ := h'
    rcases (show v = 0 ∨ v = 1 ∨ v = 2 ∨ v = 3 ∨ v = 4 ∨ v = 5 ∨ v = 6 ∨ v = 7 ∨ v = 8 by omega) with rfl | rfl | rfl | rfl | rfl | rfl | rfl | rfl | rfl
    · refine ⟨P, x, m1, ?_, ?_, R_all_of h (R_xf_rf _) c5⟩
      · rw [if_pos rfl, c2.1.1]
      · rw [if_pos rfl, c4.1.1]
    · refine ⟨x 2 1, x, m1, ?_, ?_, R_all_of h (R_xf_rf _) c5⟩
      · rw [if_neg (by decide), if_pos rfl, show tg_wi (1 - 1) = 0 from tg_wi_e (by omega), b_textOf0]; rfl
      · rw [if_neg (by decide), if_pos rfl, show tg_wi (1 - 1) = 0 from tg_wi_e (by omega), tg_ck_pos (by omega), ← q1.2.1]; rfl
    · refine ⟨x 11 1, x, m1, ?_, ?_, R_all_of h (R_xf_rf _) c5⟩
      · rw [if_neg (by decide), if_neg (by decide), if_pos rfl, show tg_wi (2 - 1) = 1 from tg_wi_e (by omega), b_textOf1]; rfl
      · rw [if_neg (by decide), if_neg (by decide), if_pos rfl, show tg_wi (2 - 1) = 1 from tg_wi_e (by omega), tg_ck_pos (by omega), ← q2.2.1]; rfl
    · refine ⟨x 19 1, x, m1, ?_, ?_, R_all_of h (R_xf_rf _) c5⟩
      · rw [if_neg (by decide), if_neg (by decide), if_neg (by decide), if_pos rfl, show tg_wi (3 - 1) = 2 from tg_wi_e (by omega), b_textOf2]; rfl
      · rw [if_neg (by decide), if_neg (by decide), if_neg (by decide), if_pos rfl, show tg_wi (3 - 1) = 2 from tg_wi_e (by omega), tg_ck_pos (by omega), ← q3.2.1]; rfl
    · refine ⟨tn_sum Y P.toNat 0 0, x, m1, ?_, ?_, R_all_of h (R_xf_rf _) c5⟩
      · rw [if_neg (by decide), if_neg (by decide), if_neg (by decide), if_neg (by decide), if_pos rfl]
        unfold f_X2_allYards
        have := c1.1.2.1
        rw [c_allY c1.1 c2.1 P.toNat 0 0 tg_FU (by omega) (by omega) (by omega) (by omega) (by omega)]; rfl
      · have := c1.1.2.1
        rw [if_neg (by decide), if_neg (by decide), if_neg (by decide), if_neg (by decide), if_pos rfl, r_allY c1.1 c4.1 P.toNat 0 0 tg_FU (by omega) (by omega) (by omega) (by omega) (by omega)]
    · refine ⟨tn_sum w 8 0 0, x, m1, ?_, ?_, R_all_of h (R_xf_rf _) c5⟩
      · rw [if_neg (by decide), if_neg (by decide), if_neg (by decide), if_neg (by decide), if_neg (by decide), if_pos rfl]
        unfold f_X2_worthBeside
        rw [c_allW c1.2.2 c2 8 0 0 tg_FU (by omega) (by omega) (by omega) (by omega) (by omega)]; rfl
      · rw [if_neg (by decide), if_neg (by decide), if_neg (by decide), if_neg (by decide), if_neg (by decide), if_pos rfl, r_allW c1.2.2 c4 8 0 0 tg_FU (by omega) (by omega) (by omega) (by omega) (by omega)]
    · obtain ⟨x', e1, e2, e3, e4, e5⟩ := R_walk (d := 0) (h0 := h0) (h1 := h1) (most := 40) (Or.inl rfl) h (by omega) c1 c2
      obtain ⟨m', g1, g2, g3⟩ := r_done (d := 0) (Or.inl rfl) h c5 c1 c4
      refine ⟨(R_rn P A B Y ρ h0 h1 w x 0 40).1, x', m', ?_, ?_, R_all_of h e4 g2⟩
      rotate_left
      · rw [if_neg (by decide), if_neg (by decide), if_neg (by decide), if_neg (by decide), if_neg (by decide), if_neg (by decide), if_pos rfl, show tg_wi (6 - 6) = 0 from tg_wi_e (by omega), g1]; rfl
      · rw [if_neg (by decide), if_neg (by decide), if_neg (by decide), if_neg (by decide), if_neg (by decide), if_neg (by decide), if_pos rfl]
        unfold f_X7_ended
        rw [R_dayOf (Or.inl rfl), tg_bd_some, Int.toNat_natCast, e1, tg_bd_some, tg_bd_some, Int.toNat_natCast, e3]
    · obtain ⟨x', e1, e2, e3, e4, e5⟩ := R_walk (d := 1) (h0 := h0) (h1 := h1) (most := 40) (Or.inr rfl) h (by omega) c1 c2
      obtain ⟨m', g1, g2, g3⟩ := r_done (d := 1) (Or.inr rfl) h c5 c1 c4
      refine ⟨(R_rn P A B Y ρ h0 h1 w x 1 40).1, x', m', ?_, ?_, R_all_of h e4 g2⟩
      rotate_left
      · rw [if_neg (by decide), if_neg (by decide), if_neg (by decide), if_neg (by decide), if_neg (by decide), if_neg (by decide), if_neg (by decide), if_pos rfl, show tg_wi (7 - 6) = 1 from tg_wi_e (by omega), g1]; rfl
      · rw [if_neg (by decide), if_neg (by decide), if_neg (by decide), if_neg (by decide), if_neg (by decide), if_neg (by decide), if_neg (by decide), if_pos rfl]
        unfold f_X7_ended
        rw [R_dayOf (Or.inr rfl), tg_bd_some, Int.toNat_natCast, e1, tg_bd_some, tg_bd_some, Int.toNat_natCast, e3]
    · refine ⟨x 0 7, x, m1, ?_, ?_, R_all_of h (R_xf_rf _) c5⟩
      · rw [if_neg (by decide), if_neg (by decide), if_neg (by decide), if_neg (by decide), if_neg (by decide), if_neg (by decide), if_neg (by decide), if_neg (by decide), if_pos rfl]
      · rw [if_neg (by decide), if_neg (by decide), if_neg (by decide), if_neg (by decide), if_neg (by decide), if_neg (by decide), if_neg (by decide), if_neg (by decide), if_pos rfl, ← q4.2.2.2.2.2.2]
  · refine ⟨-2, x, m1, ?_, ?_, h'⟩
    · simp only [f_X7_count]
      rw [b_isBelowF hv, tg_bd_some, if_neg (by decide)]
    · simp only [f_X8_count, tg_jn]
      rw [c3, tg_bd_some, if_neg (by omega), if_neg (by omega), if_neg (by omega), if_neg (by omega), if_neg (by omega), if_neg (by omega), if_neg (by omega), if_neg (by omega), if_neg (by omega)]
