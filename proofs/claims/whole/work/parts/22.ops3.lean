-- the calls that judge, tell the state, tell the rope
theorem b_byteAt1 {k : Nat} {i : Int} {m : tg_Mem} (h : 0 ≤ i ∧ i < m k 1) (h2 : i < 40) : f_X5_byteAt k i m = some (m (k + 1) i.toNat, m) := b_byteAt (by omega)
theorem tr_run_add {P : Int} {A B Y : Int → Int} {ρ h0 h1 : Int} {w c : Int → Int} (j : Nat) : ∀ (n : Nat) (k : Int) (D : tr_D), (tr_run P A B Y ρ h0 h1 w c n k D).1 ≤ (tr_run P A B Y ρ h0 h1 w c (n + j) k D).1 ∧ ((tr_run P A B Y ρ h0 h1 w c n k D).1 = k + n ∨ tr_run P A B Y ρ h0 h1 w c (n + j) k D = tr_run P A B Y ρ h0 h1 w c n k D) ∧ k ≤ (tr_run P A B Y ρ h0 h1 w c n k D).1 := by
  intro n
  induction n with
  | zero =>
    intro k D
    have e0 : tr_run P A B Y ρ h0 h1 w c 0 k D = (k, D) := rfl
    have : ∀ (n : Nat) (k : Int) (D : tr_D), k ≤ (tr_run P A B Y ρ h0 h1 w c n k D).1 := by
      intro n
      induction n with
      | zero => intro k D; exact Int.le_refl k
      | succ n ih =>
        intro k D
        unfold tr_run
        cases tr_step P A B Y ρ h0 h1 w (c k) D with
        | none => exact Int.le_refl k
        | some D' => dsimp only; have := ih (k + 1) D'; omega
    rw [e0]
    refine ⟨this _ _ _, Or.inl (by simp), Int.le_refl k⟩
  | succ n ih =>
    intro k D
    rw [show n + 1 + j = n + j + 1 by omega]
    unfold tr_run
    cases tr_step P A B Y ρ h0 h1 w (c k) D with
    | none => exact ⟨Int.le_refl k, Or.inr rfl, Int.le_refl k⟩
    | some D' =>
      dsimp only
      obtain ⟨a, b, d⟩ := ih (k + 1) D'
      refine ⟨a, ?_, by omega⟩
      rcases b with b | b
      · left; rw [b]; omega
      · right; exact b
section OP3
variable {P : Int} {A B Y : Int → Int} {ρ h0 h1 : Int} {w : Int → Int} {x m : tg_Mem} {d a : Int}
theorem R_rn_far (hd : d = 0 ∨ d = 1) (h : R_all x m) (ha : 0 ≤ a) (hcf : tr_cf P A B Y ρ w) : a ≤ (R_rn P A B Y ρ h0 h1 w x d a).1 ↔ a ≤ (R_rn P A B Y ρ h0 h1 w x d 40).1 := by
  obtain ⟨d1, -⟩ := R_day hd h
  obtain ⟨i1, i2, i3, -⟩ := R_rn_I (h0 := h0) (h1 := h1) hd h ha hcf
  obtain ⟨j1, j2, j3, -⟩ := R_rn_I (h0 := h0) (h1 := h1) (most := 40) hd h (by omega) hcf
  by_cases hl : x (R_k d + 1) 1 < a
  · constructor <;> intro <;> omega
  · have e40 : (if (40 : Int) < x (R_k d + 1) 1 then (40 : Int) else x (R_k d + 1) 1) = x (R_k d + 1) 1 := if_neg (by omega)
    have ea : (if a < x (R_k d + 1) 1 then a else x (R_k d + 1) 1) = a := by split <;> omega
    unfold R_rn at i1 i2 i3 j1 j2 j3 ⊢
    rw [e40] at j1 j2 j3 ⊢
    rw [ea] at i1 i2 i3 ⊢
    have en : (x (R_k d + 1) 1).toNat = a.toNat + (x (R_k d + 1) 1 - a).toNat := by omega
    rw [en] at j1 j2 j3 ⊢
    obtain ⟨z1, z2, -⟩ := tr_run_add (P := P) (A := A) (B := B) (Y := Y) (ρ := ρ) (h0 := h0) (h1 := h1) (w := w) (c := fun i => tr_code (x (R_k d + 2) i.toNat)) (x (R_k d + 1) 1 - a).toNat a.toNat 0 ((x (R_k d) 5, x (R_k d) 5, []), (0, 0), (0, 0), 0)
    constructor
    · intro q; omega
    · intro q
      rcases z2 with z2 | z2
      · omega
      · rw [z2] at q; exact q
theorem r_done (hd : d = 0 ∨ d = 1) (h : R_all x m) {m1 : tg_Mem} (hm1 : R_mf m m1) (hcf : tr_cf P A B Y ρ w) (hx : tm_cf m1 P A B Y ρ h0 h1 w) :
    ∃ m', f_X8_done d m1 = some ((R_rn P A B Y ρ h0 h1 w x d 40).1, m') ∧ R_mf m m' ∧ tm_fr m1 m' := by
  have h1' : R_all x m1 := R_all_of h (R_xf_rf x) hm1
  obtain ⟨m', e1, -, e3, e4⟩ := R_runs (h0 := h0) (h1 := h1) (most := 40) hd h1' (by omega) hcf hx
  refine ⟨m', ?_, R_mf_tr hm1 e3, e4⟩
  simp only [f_X8_done]
  rw [e1]; rfl
end OP3
theorem s_judged (d : Int) : R_st (f_X7_judged d) (f_X8_judged d) := by
  intro x m h
  obtain ⟨P, A, B, Y, ρ, h0, h1, w, m1, c1, c2, c3, c4, c5⟩ := R_cf h
  by_cases hd : d = 0 ∨ d = 1
  · obtain ⟨x', e1, -, e3, e4, e5⟩ := R_walk (h0 := h0) (h1 := h1) (most := 40) hd h (by omega) c1 c2
    obtain ⟨m', g1, g2, g3⟩ := r_done hd h c5 c1 c4
    obtain ⟨d1, d2, -⟩ := R_day hd h
    have hkb := R_kb hd
    have z1 : x' (R_k d + 1) 1 = x (R_k d + 1) 1 := by rw [e5.1 _ (by omega) (by omega) (by omega) (by omega) (by omega) (by omega)]
    have z6 : m' 6 = m 6 := g2.1 6 (by omega)
    refine ⟨if x (R_k d + 1) 1 ≤ (R_rn P A B Y ρ h0 h1 w x d 40).1 then -1 else (R_rn P A B Y ρ h0 h1 w x d 40).1, x', m', ?_, ?_, R_all_of h e4 g2⟩
    · simp only [f_X7_judged, f_X7_ended]
      rw [b_isBelowT (by omega), tg_bd_some, if_pos (by decide), R_dayOf hd, tg_bd_some, Int.toNat_natCast, e1, tg_bd_some, tg_bd_some, Int.toNat_natCast, z1, e3]
      split <;> rfl
    · simp only [f_X8_judged, f_X8_judgedOf]
      rw [c3, tg_bd_some, r_isTwoT (by omega), tg_bd_some, if_neg (by decide), g1, tg_bd_some, tg_wi_e (by omega), tg_ck_pos (by omega), z6, d2]
      split <;> rfl
  · refine ⟨-2, x, m1, ?_, ?_, R_all_of h (R_xf_rf _) c5⟩
    · simp only [f_X7_judged]
      rw [b_isBelowF (by omega), tg_bd_some, if_neg (by decide)]
    · simp only [f_X8_judged]
      rw [c3, tg_bd_some, r_isTwoF (by omega), tg_bd_some, if_pos rfl]
-- what is known of a day and a number of steps
theorem R_so {x m : tg_Mem} (d a : Int) (h : R_all x m) : ∃ P A B Y ρ h0 h1 w m1, tr_cf P A B Y ρ w ∧ tc_cf x P A B Y ρ h0 h1 w ∧ tm_cf m1 P A B Y ρ h0 h1 w ∧ R_mf m m1 ∧ R_all x m1 ∧
    f_X8_isSo d a m = some (if (d = 0 ∨ d = 1) ∧ 0 ≤ a ∧ a ≤ (R_rn P A B Y ρ h0 h1 w x d 40).1 then 1 else 0, m1) := by
  obtain ⟨P, A, B, Y, ρ, h0, h1, w, m1, c1, c2, c3, c4, c5⟩ := R_cf h
  by_cases hd : d = 0 ∨ d = 1
  · obtain ⟨m', g1, g2, g3⟩ := r_done hd h c5 c1 c4
    refine ⟨P, A, B, Y, ρ, h0, h1, w, m', c1, c2, tm_cf_fr c4 g3, g2, R_all_of h (R_xf_rf _) g2, ?_⟩
    simp only [f_X8_isSo, tg_jn]
    rw [c3, tg_bd_some, r_isTwoT (by omega), tg_bd_some, if_neg (by decide), g1, tg_bd_some]
    by_cases ha : 0 ≤ a ∧ a ≤ (R_rn P A B Y ρ h0 h1 w x d 40).1
    · rw [b_inT ha, tg_bd_some, if_neg (by decide), if_pos ⟨hd, ha⟩]
    · rw [b_inF ha, tg_bd_some, if_pos rfl, if_neg (fun z => ha z.2)]
  · refine ⟨P, A, B, Y, ρ, h0, h1, w, m1, c1, c2, c4, c5, R_all_of h (R_xf_rf _) c5, ?_⟩
    simp only [f_X8_isSo, tg_jn]
    rw [c3, tg_bd_some, r_isTwoF (by omega), tg_bd_some, if_pos rfl, if_neg (fun z => hd z.1)]
theorem s_state (d a v : Int) : R_st (f_X7_state d a v) (f_X8_state d a v) := by
  intro x m h
  obtain ⟨P, A, B, Y, ρ, h0, h1, w, m1, c1, c2, c4, c5, h', c6⟩ := R_so d a h
  by_cases hd : d = 0 ∨ d = 1
  · by_cases ha : 0 ≤ a
    · by_cases hv : 0 ≤ v ∧ v < 8
      · obtain ⟨x', e1, e2, e3, e4, e5⟩ := R_walk (h0 := h0) (h1 := h1) hd h' ha c1 c2
        by_cases hf : a ≤ (R_rn P A B Y ρ h0 h1 w x d 40).1
        · obtain ⟨m', g1, g2, g3, g4⟩ := R_runs (h0 := h0) (h1 := h1) hd h' ha c1 c4
          obtain ⟨a1, a2, a3, a4, a5, a6⟩ := e2
          obtain ⟨b1, b2, b3, b4, b5, b6⟩ := g2
          have hf' := (R_rn_far (h0 := h0) (h1 := h1) hd h' ha c1).mpr hf
          have key : ∃ r, f_X0_told (R_k d) v x' = some (r, x') ∧ f_X8_stateNow v m' = some (r, m') := by
            rcases (show v = 0 ∨ v = 1 ∨ v = 2 ∨ v = 3 ∨ v = 4 ∨ v = 5 ∨ v = 6 ∨ v = 7 by omega) with rfl | rfl | rfl | rfl | rfl | rfl | rfl | rfl
            · exact ⟨_, rfl, by show some (m' 11 0, m') = _; rw [b1.1, ← a1.1]⟩
            · exact ⟨_, rfl, by show some (m' 11 1, m') = _; rw [b1.2.1, ← a1.2.1]⟩
            · exact ⟨_, rfl, by show some (m' 0 15, m') = _; rw [b1.2.2.1, ← a1.2.2.1]⟩
            · exact ⟨_, rfl, by show some (m' 0 16, m') = _; rw [b1.2.2.2.1, ← a1.2.2.2.1]⟩
            · exact ⟨_, rfl, by show some (m' 13 0, m') = _; rw [b2, ← a2]⟩
            · exact ⟨_, rfl, by show some (m' 13 1, m') = _; rw [b3, ← a3]⟩
            · exact ⟨_, rfl, by show some (m' 14 0, m') = _; rw [b4, ← a4]⟩
            · exact ⟨_, rfl, by show some (m' 14 1, m') = _; rw [b5, ← a5]⟩
          obtain ⟨r, k1, k2⟩ := key
          refine ⟨r, x', m', ?_, ?_, R_all_of h' e4 g3⟩
          · simp only [f_X7_state]
            rw [b_isBelowT (by omega), tg_bd_some, if_neg (by decide), if_neg (by omega), b_isBelowT hv, tg_bd_some, if_pos (by decide), R_dayOf hd, tg_bd_some, Int.toNat_natCast, e1, tg_bd_some, e3, if_pos hf', k1, tg_bd_some]
          · simp only [f_X8_state]
            rw [c6, if_pos ⟨hd, ha, hf⟩, tg_bd_some, if_neg (by decide), b_inT (by omega), tg_bd_some, if_pos (by decide), g1, tg_bd_some, k2, tg_bd_some]
        · have hf' := fun z => hf ((R_rn_far (h0 := h0) (h1 := h1) hd h' ha c1).mp z)
          refine ⟨-2, x', m1, ?_, ?_, R_all_of h e4 c5⟩
          · simp only [f_X7_state]
            rw [b_isBelowT (by omega), tg_bd_some, if_neg (by decide), if_neg (by omega), b_isBelowT hv, tg_bd_some, if_pos (by decide), R_dayOf hd, tg_bd_some, Int.toNat_natCast, e1, tg_bd_some, e3, if_neg hf']
          · simp only [f_X8_state]
            rw [c6, if_neg (fun z => hf z.2.2), tg_bd_some, if_pos rfl]
      · refine ⟨-2, x, m1, ?_, ?_, h'⟩
        · simp only [f_X7_state]
          rw [b_isBelowT (by omega), tg_bd_some, if_neg (by decide), if_neg (by omega), b_isBelowF hv, tg_bd_some, if_neg (by decide)]
        · simp only [f_X8_state]
          rw [c6, tg_bd_some]
          by_cases hf : (d = 0 ∨ d = 1) ∧ 0 ≤ a ∧ a ≤ (R_rn P A B Y ρ h0 h1 w x d 40).1
          · rw [if_pos hf, if_neg (by decide), b_inF (by omega), tg_bd_some, if_neg (by decide)]
          · rw [if_neg hf, if_pos rfl]
    · refine ⟨-2, x, m1, ?_, ?_, h'⟩
      · simp only [f_X7_state]
        rw [b_isBelowT (by omega), tg_bd_some, if_neg (by decide), if_pos (by omega)]
      · simp only [f_X8_state]
        rw [c6, if_neg (fun z => ha z.2.1), tg_bd_some, if_pos rfl]
  · refine ⟨-2, x, m1, ?_, ?_, h'⟩
    · simp only [f_X7_state]
      rw [b_isBelowF (by omega), tg_bd_some, if_pos rfl]
    · simp only [f_X8_state]
      rw [c6, if_neg (fun z => hd z.1), tg_bd_some, if_pos rfl]
theorem s_rope (d a v : Int) : R_st (f_X7_rope d a v) (f_X8_rope d a v) := by
  intro x m h
  obtain ⟨P, A, B, Y, ρ, h0, h1, w, m1, c1, c2, c4, c5, h', c6⟩ := R_so d a h
  by_cases hd : d = 0 ∨ d = 1
  · by_cases ha : 0 ≤ a
    · by_cases hv : 0 ≤ v
      · obtain ⟨x', e1, e2, e3, e4, e5⟩ := R_walk (h0 := h0) (h1 := h1) hd h' ha c1 c2
        by_cases hf : a ≤ (R_rn P A B Y ρ h0 h1 w x d 40).1
        · obtain ⟨m', g1, g2, g3, g4⟩ := R_runs (h0 := h0) (h1 := h1) hd h' ha c1 c4
          have a1 := e2.1
          obtain ⟨b1, b2, b3, b4, b5, b6⟩ := g2.1
          have hf' := (R_rn_far (h0 := h0) (h1 := h1) hd h' ha c1).mpr hf
          have key : ∃ r, f_X1_pathAt (R_k d + 3) v x' = some (r, x') ∧ (if m' 0 15 ≤ v then some (-1, m') else tg_ck (0 ≤ v ∧ v < 64) (some (m' 12 v.toNat, m'))) = some (r, m') := by
            by_cases hin : v < (R_rn P A B Y ρ h0 h1 w x d a).2.1.2.2.length
            · obtain ⟨p, p1, p2⟩ := c_pathAt (i := v) a1 ⟨hv, hin⟩
              refine ⟨p, p2, ?_⟩
              have q := b6 v.toNat (by omega)
              rw [p1] at q
              rw [b3, if_neg (by omega), tg_ck_pos (by omega), ← Option.some.inj q]
            · refine ⟨-1, c_pathAtN a1 (fun z => hin z.2), ?_⟩
              rw [b3, if_pos (by omega)]
          obtain ⟨r, k1, k2⟩ := key
          refine ⟨r, x', m', ?_, ?_, R_all_of h' e4 g3⟩
          · simp only [f_X7_rope]
            rw [b_isBelowT (by omega), tg_bd_some, if_neg (by decide), if_neg (by omega), if_pos hv, R_dayOf hd, tg_bd_some, Int.toNat_natCast, e1, tg_bd_some, e3, if_pos hf', k1, tg_bd_some]
          · simp only [f_X8_rope]
            rw [c6, if_pos ⟨hd, ha, hf⟩, tg_bd_some, if_neg (by decide), if_pos hv, g1, tg_bd_some, k2]
        · have hf' := fun z => hf ((R_rn_far (h0 := h0) (h1 := h1) hd h' ha c1).mp z)
          refine ⟨-2, x', m1, ?_, ?_, R_all_of h e4 c5⟩
          · simp only [f_X7_rope]
            rw [b_isBelowT (by omega), tg_bd_some, if_neg (by decide), if_neg (by omega), if_pos hv, R_dayOf hd, tg_bd_some, Int.toNat_natCast, e1, tg_bd_some, e3, if_neg hf']
          · simp only [f_X8_rope]
            rw [c6, if_neg (fun z => hf z.2.2), tg_bd_some, if_pos rfl]
      · refine ⟨-2, x, m1, ?_, ?_, h'⟩
        · simp only [f_X7_rope]
          rw [b_isBelowT (by omega), tg_bd_some, if_neg (by decide), if_neg (by omega), if_neg hv]
        · simp only [f_X8_rope]
          rw [c6, tg_bd_some]
          by_cases hf : (d = 0 ∨ d = 1) ∧ 0 ≤ a ∧ a ≤ (R_rn P A B Y ρ h0 h1 w x d 40).1
          · rw [if_pos hf, if_neg (by decide), if_neg hv]
          · rw [if_neg hf, if_pos rfl]
    · refine ⟨-2, x, m1, ?_, ?_, h'⟩
      · simp only [f_X7_rope]
        rw [b_isBelowT (by omega), tg_bd_some, if_neg (by decide), if_pos (by omega)]
      · simp only [f_X8_rope]
        rw [c6, if_neg (fun z => ha z.2.1), tg_bd_some, if_pos rfl]
  · refine ⟨-2, x, m1, ?_, ?_, h'⟩
    · simp only [f_X7_rope]
      rw [b_isBelowF (by omega), tg_bd_some, if_pos rfl]
    · simp only [f_X8_rope]
      rw [c6, if_neg (fun z => hd z.1), tg_bd_some, if_pos rfl]
