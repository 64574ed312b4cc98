-- the calls that type, wipe, undo, read
def R_rest (x m : tg_Mem) : Prop := R_txt x m 2 0 ∧ R_txt x m 11 1 ∧ R_txt x m 19 2 ∧ R_set x m ∧ R_sht x m 0 ∧ R_sht x m 1 ∧ R_sht x m 2 ∧ R_sht x m 3
def R_tk (t k : Nat) : Prop := (t = 0 ∧ k = 2) ∨ (t = 1 ∧ k = 11) ∨ (t = 2 ∧ k = 19)
theorem R_txt_tk {x m : tg_Mem} {t k : Nat} (ht : R_tk t k) (h : R_rest x m) : R_txt x m k t := by
  rcases ht with ⟨rfl, rfl⟩ | ⟨rfl, rfl⟩ | ⟨rfl, rfl⟩
  · exact h.1
  · exact h.2.1
  · exact h.2.2.1
theorem R_txt_app {x m : tg_Mem} {k t : Nat} {b n : Int} (h : R_txt x m k t) (hn : x k 1 = n) (hlt : n < 40) (hb : 0 ≤ b ∧ b ≤ 255) : R_txt (tg_up (tg_up x (k + 1) n.toNat b) k 1 (n + 1)) (tg_up (tg_up m 5 (40 * (t : Int) + n).toNat b) 6 t (n + 1)) k t := by
  obtain ⟨h1, h2, h3⟩ := h
  rw [hn] at h1 h2 h3
  have e1 : tg_up (tg_up x (k + 1) n.toNat b) k 1 (n + 1) k 1 = n + 1 := tg_up_same _ _ _ _
  refine ⟨by rw [e1]; omega, by rw [e1, tg_up_same], fun i i0 i1 => ?_⟩
  rw [e1] at i1
  rw [tg_up_k (by decide : (5 : Nat) ≠ 6), tg_up_k (by omega : k + 1 ≠ k)]
  by_cases hi : i = n
  · subst hi; rw [tg_up_same, tg_up_same]; exact ⟨rfl, hb⟩
  · rw [tg_up_j (by omega), tg_up_j (by omega)]; exact h3 i i0 (by omega)
theorem R_txt_app2 {x m : tg_Mem} {k t k' t' : Nat} {b n : Int} (h : R_txt x m k' t') (ht : t' ≠ t) (hn : 0 ≤ n ∧ n < 40) (h1 : k' ≠ k) (h2 : k' ≠ k + 1) (h3 : k' + 1 ≠ k) : R_txt (tg_up (tg_up x (k + 1) n.toNat b) k 1 (n + 1)) (tg_up (tg_up m 5 (40 * (t : Int) + n).toNat b) 6 t (n + 1)) k' t' := by
  obtain ⟨g1, g2, g3⟩ := h
  unfold R_txt
  rw [tg_up_k h1, tg_up_k h2, tg_up_k (by omega : k' + 1 ≠ k), tg_up_k (by omega : k' + 1 ≠ k + 1), tg_up_j ht, tg_up_k (by decide : (6 : Nat) ≠ 5), tg_up_k (by decide : (5 : Nat) ≠ 6)]
  refine ⟨g1, g2, fun i i0 i1 => ?_⟩
  rw [tg_up_j (by omega)]; exact g3 i i0 i1
theorem R_rest_of {x m x' m' : tg_Mem} (h : R_rest x m) (t1 : R_txt x' m' 2 0) (t2 : R_txt x' m' 11 1) (t3 : R_txt x' m' 19 2) (hx : ∀ c, c ≠ 2 → c ≠ 3 → c ≠ 11 → c ≠ 12 → c ≠ 19 → c ≠ 20 → x' c = x c) (hm : ∀ c, c ≠ 5 → c ≠ 6 → m' c = m c) : R_rest x' m' := by
  obtain ⟨q1, q2, q3, q4, q5, q6, q7, q8⟩ := h
  have sh : ∀ s : Nat, s < 4 → R_sht x m s → R_sht x' m' s := fun s hs h => R_sht_of h (hx _ (by omega) (by omega) (by omega) (by omega) (by omega) (by omega)) (hx _ (by omega) (by omega) (by omega) (by omega) (by omega) (by omega)) (by rw [hm 1 (by decide) (by decide)]) (by rw [hm 2 (by decide) (by decide)]) (hm 3 (by decide) (by decide))
  refine ⟨t1, t2, t3, ?_, sh 0 (by omega) q5, sh 1 (by omega) q6, sh 2 (by omega) q7, sh 3 (by omega) q8⟩
  unfold R_set at q4 ⊢
  have z : ∀ c, c ≠ 2 → c ≠ 3 → c ≠ 11 → c ≠ 12 → c ≠ 19 → c ≠ 20 → x' c = x c := hx
  rw [hm 8 (by decide) (by decide), hm 9 (by decide) (by decide), hm 10 (by decide) (by decide), hm 0 (by decide) (by decide), z 10 (by decide) (by decide) (by decide) (by decide) (by decide) (by decide), z 18 (by decide) (by decide) (by decide) (by decide) (by decide) (by decide), z 4 (by decide) (by decide) (by decide) (by decide) (by decide) (by decide), z 1 (by decide) (by decide) (by decide) (by decide) (by decide) (by decide), z 5 (by decide) (by decide) (by decide) (by decide) (by decide) (by decide), z 0 (by decide) (by decide) (by decide) (by decide) (by decide) (by decide)]
  exact q4
theorem R_rest_app {x m : tg_Mem} {k t : Nat} {b n : Int} (ht : R_tk t k) (h : R_rest x m) (hn : x k 1 = n) (hlt : n < 40) (hb : 0 ≤ b ∧ b ≤ 255) : R_rest (tg_up (tg_up x (k + 1) n.toNat b) k 1 (n + 1)) (tg_up (tg_up m 5 (40 * (t : Int) + n).toNat b) 6 t (n + 1)) := by
  have hk := R_txt_tk ht h
  have h0 : 0 ≤ n := by have := hk.1; omega
  have hx : ∀ c, c ≠ 2 → c ≠ 3 → c ≠ 11 → c ≠ 12 → c ≠ 19 → c ≠ 20 → tg_up (tg_up x (k + 1) n.toNat b) k 1 (n + 1) c = x c := by
    intro c c1 c2 c3 c4 c5 c6
    unfold R_tk at ht
    rw [tg_up_k (by omega), tg_up_k (by omega)]
  refine R_rest_of h ?_ ?_ ?_ hx (fun c c1 c2 => by rw [tg_up_k c2, tg_up_k c1])
  · rcases ht with ⟨rfl, rfl⟩ | ⟨rfl, rfl⟩ | ⟨rfl, rfl⟩
    · exact R_txt_app h.1 hn hlt hb
    · exact R_txt_app2 h.1 (by decide) ⟨h0, hlt⟩ (by decide) (by decide) (by decide)
    · exact R_txt_app2 h.1 (by decide) ⟨h0, hlt⟩ (by decide) (by decide) (by decide)
  · rcases ht with ⟨rfl, rfl⟩ | ⟨rfl, rfl⟩ | ⟨rfl, rfl⟩
    · exact R_txt_app2 h.2.1 (by decide) ⟨h0, hlt⟩ (by decide) (by decide) (by decide)
    · exact R_txt_app h.2.1 hn hlt hb
    · exact R_txt_app2 h.2.1 (by decide) ⟨h0, hlt⟩ (by decide) (by decide) (by decide)
  · rcases ht with ⟨rfl, rfl⟩ | ⟨rfl, rfl⟩ | ⟨rfl, rfl⟩
    · exact R_txt_app2 h.2.2.1 (by decide) ⟨h0, hlt⟩ (by decide) (by decide) (by decide)
    · exact R_txt_app2 h.2.2.1 (by decide) ⟨h0, hlt⟩ (by decide) (by decide) (by decide)
    · exact R_txt_app h.2.2.1 hn hlt hb
theorem R_txt_cut {x m : tg_Mem} {k t : Nat} {n : Int} (h : R_txt x m k t) (hn : 0 ≤ n ∧ n ≤ x k 1) : R_txt (tg_up x k 1 n) (tg_up m 6 t n) k t := by
  obtain ⟨h1, h2, h3⟩ := h
  have e1 : tg_up x k 1 n k 1 = n := tg_up_same _ _ _ _
  refine ⟨by rw [e1]; omega, by rw [e1, tg_up_same], fun i i0 i1 => ?_⟩
  rw [e1] at i1
  rw [tg_up_k (by decide : (5 : Nat) ≠ 6), tg_up_k (by omega : k + 1 ≠ k)]
  exact h3 i i0 (by omega)
theorem R_txt_cut2 {x m : tg_Mem} {k t k' t' : Nat} {n : Int} (h : R_txt x m k' t') (ht : t' ≠ t) (h1 : k' ≠ k) (h3 : k' + 1 ≠ k) : R_txt (tg_up x k 1 n) (tg_up m 6 t n) k' t' := by
  unfold R_txt at h ⊢
  rw [tg_up_k h1, tg_up_k h3, tg_up_j ht, tg_up_k (by decide : (5 : Nat) ≠ 6)]; exact h
theorem R_rest_cut {x m : tg_Mem} {k t : Nat} {n : Int} (ht : R_tk t k) (h : R_rest x m) (hn : 0 ≤ n ∧ n ≤ x k 1) : R_rest (tg_up x k 1 n) (tg_up m 6 t n) := by
  have hx : ∀ c, c ≠ 2 → c ≠ 3 → c ≠ 11 → c ≠ 12 → c ≠ 19 → c ≠ 20 → tg_up x k 1 n c = x c := by
    intro c c1 c2 c3 c4 c5 c6
    unfold R_tk at ht
    rw [tg_up_k (by omega)]
  refine R_rest_of h ?_ ?_ ?_ hx (fun c c1 c2 => tg_up_k c2)
  · rcases ht with ⟨rfl, rfl⟩ | ⟨rfl, rfl⟩ | ⟨rfl, rfl⟩
    · exact R_txt_cut h.1 hn
    · exact R_txt_cut2 h.1 (by decide) (by decide) (by decide)
    · exact R_txt_cut2 h.1 (by decide) (by decide) (by decide)
  · rcases ht with ⟨rfl, rfl⟩ | ⟨rfl, rfl⟩ | ⟨rfl, rfl⟩
    · exact R_txt_cut2 h.2.1 (by decide) (by decide) (by decide)
    · exact R_txt_cut h.2.1 hn
    · exact R_txt_cut2 h.2.1 (by decide) (by decide) (by decide)
  · rcases ht with ⟨rfl, rfl⟩ | ⟨rfl, rfl⟩ | ⟨rfl, rfl⟩
    · exact R_txt_cut2 h.2.2.1 (by decide) (by decide) (by decide)
    · exact R_txt_cut2 h.2.2.1 (by decide) (by decide) (by decide)
    · exact R_txt_cut h.2.2.1 hn
/-- the class surveys its meadow anew: both are related again -/
theorem R_survey {x m : tg_Mem} (h : R_rest x m) : ∃ x', f_X2_survey x = some (0, x') ∧ R_all x' m ∧ (∀ k, k ≠ 1 → k ≠ 7 → k ≠ 8 → k ≠ 9 → x' k = x k) := by
  obtain ⟨q1, q2, q3, q4, q5, q6, q7, q8⟩ := h
  obtain ⟨x', e1, e2, e3, e4⟩ := b_survey (x := x) q1.1 (fun i a b => (q1.2.2 i a b).2)
  have sh : ∀ s : Nat, s < 4 → R_sht x m s → R_sht x' m s := fun s hs h => R_sht_of h (e3 _ (by omega) (by omega) (by omega) (by omega)) (e3 _ (by omega) (by omega) (by omega) (by omega)) rfl rfl rfl
  refine ⟨x', e1, ⟨e2, R_txt_of q1 (by rw [e3 2 (by decide) (by decide) (by decide) (by decide)]) (e3 3 (by decide) (by decide) (by decide) (by decide)) rfl rfl, R_txt_of q2 (by rw [e3 11 (by decide) (by decide) (by decide) (by decide)]) (e3 12 (by decide) (by decide) (by decide) (by decide)) rfl rfl, R_txt_of q3 (by rw [e3 19 (by decide) (by decide) (by decide) (by decide)]) (e3 20 (by decide) (by decide) (by decide) (by decide)) rfl rfl, ?_, sh 0 (by omega) q5, sh 1 (by omega) q6, sh 2 (by omega) q7, sh 3 (by omega) q8⟩, e3⟩
  unfold R_set at q4 ⊢
  rw [e3 10 (by decide) (by decide) (by decide) (by decide), e3 18 (by decide) (by decide) (by decide) (by decide), e3 4 (by decide) (by decide) (by decide) (by decide), e4 7 (by decide) (by decide), e3 5 (by decide) (by decide) (by decide) (by decide), e3 0 (by decide) (by decide) (by decide) (by decide)]
  exact q4
theorem R_textOf {t : Int} {x : tg_Mem} (ht : 0 ≤ t ∧ t < 3) : ∃ k, R_tk t.toNat k ∧ f_X7_textOf t x = some (((k : Nat) : Int), x) := by
  rcases (show t = 0 ∨ t = 1 ∨ t = 2 by omega) with rfl | rfl | rfl
  · exact ⟨2, Or.inl ⟨rfl, rfl⟩, b_textOf0⟩
  · exact ⟨11, Or.inr (Or.inl ⟨rfl, rfl⟩), b_textOf1⟩
  · exact ⟨19, Or.inr (Or.inr ⟨rfl, rfl⟩), b_textOf2⟩
/-- the reference types -/
theorem r_type {t b n : Int} {m : tg_Mem} (ht : 0 ≤ t ∧ t < 3) (hb : 0 ≤ b ∧ b ≤ 255) (hn : m 6 t.toNat = n) (hn2 : 0 ≤ n ∧ n < 40) : f_X8_type t b m = some (n + 1, tg_up (tg_up m 5 (40 * ((t.toNat : Nat) : Int) + n).toNat b) 6 t.toNat (n + 1)) := by
  have e : ((t.toNat : Nat) : Int) = t := by omega
  simp only [f_X8_type, tg_lt]
  rw [b_inT (by omega), tg_bd_some, if_neg (by decide), b_inT hb, tg_bd_some, if_pos (by decide), tg_ck_pos (by omega), hn, if_pos (by omega), tg_ck_pos (by omega), tg_wi_e (a := 40 * t) (by omega), tg_wi_e (a := 40 * t + n) (by omega), tg_ck_pos (by omega), tg_ck_pos (by omega), tg_ck_pos (by omega), tg_up_k (by decide : (6 : Nat) ≠ 5), hn, tg_wi_e (by omega), tg_ck_pos (by omega), tg_up_same, e]
theorem s_type (t b : Int) : R_st (f_X7_type t b) (f_X8_type t b) := by
  intro x m h
  by_cases ht : 0 ≤ t ∧ t < 3
  · by_cases hb : 0 ≤ b ∧ b ≤ 255
    · obtain ⟨k, hk, ek⟩ := R_textOf (x := x) ht
      have hr : R_rest x m := h.2
      have htx := R_txt_tk hk hr
      by_cases hf : x k 1 < 40
      · obtain ⟨x2, e1, e2, e3⟩ := R_survey (R_rest_app hk hr rfl hf hb)
        refine ⟨x k 1 + 1, x2, _, ?_, r_type ht hb htx.2.1 ⟨htx.1.1, hf⟩, e2⟩
        simp only [f_X7_type]
        rw [b_isBelowT ht, tg_bd_some, if_neg (by decide), b_isBelowT (by omega), tg_bd_some, if_pos (by decide), ek, tg_bd_some, Int.toNat_natCast, if_pos hf, b_add ⟨htx.1.1, hf⟩, tg_bd_some, e1, tg_bd_some, e3 k (by unfold R_tk at hk; omega) (by unfold R_tk at hk; omega) (by unfold R_tk at hk; omega) (by unfold R_tk at hk; omega), tg_up_same]
      · refine ⟨-4, x, m, ?_, ?_, h⟩
        · simp only [f_X7_type]
          rw [b_isBelowT ht, tg_bd_some, if_neg (by decide), b_isBelowT (by omega), tg_bd_some, if_pos (by decide), ek, tg_bd_some, Int.toNat_natCast, if_neg hf]
        · simp only [f_X8_type, tg_lt]
          have := htx.1
          rw [b_inT (by omega), tg_bd_some, if_neg (by decide), b_inT hb, tg_bd_some, if_pos (by decide), tg_ck_pos (by omega), htx.2.1, if_neg (by omega)]
    · refine ⟨-2, x, m, ?_, ?_, h⟩
      · simp only [f_X7_type]
        rw [b_isBelowT ht, tg_bd_some, if_neg (by decide), b_isBelowF (by omega), tg_bd_some, if_neg (by decide)]
      · simp only [f_X8_type]
        rw [b_inT (by omega), tg_bd_some, if_neg (by decide), b_inF hb, tg_bd_some, if_neg (by decide)]
  · refine ⟨-2, x, m, ?_, ?_, h⟩
    · simp only [f_X7_type]
      rw [b_isBelowF ht, tg_bd_some, if_pos rfl]
    · simp only [f_X8_type]
      rw [b_inF (by omega), tg_bd_some, if_pos rfl]
theorem s_wipe (t : Int) : R_st (f_X7_wipe t) (f_X8_wipe t) := by
  intro x m h
  by_cases ht : 0 ≤ t ∧ t < 3
  · obtain ⟨k, hk, ek⟩ := R_textOf (x := x) ht
    have hr : R_rest x m := h.2
    have htx := R_txt_tk hk hr
    obtain ⟨x2, e1, e2, e3⟩ := R_survey (R_rest_cut (n := 0) hk hr (by have := htx.1; omega))
    refine ⟨x k 1, x2, _, ?_, ?_, e2⟩
    · simp only [f_X7_wipe, tg_lt]
      rw [b_isBelowT ht, tg_bd_some, if_pos (by decide), ek, tg_bd_some, Int.toNat_natCast, e1, tg_bd_some]
    · simp only [f_X8_wipe, tg_lt]
      rw [b_inT (by omega), tg_bd_some, if_pos (by decide), tg_ck_pos (by omega), tg_ck_pos (by omega), htx.2.1]
  · refine ⟨-2, x, m, ?_, ?_, h⟩
    · simp only [f_X7_wipe]
      rw [b_isBelowF ht, tg_bd_some, if_neg (by decide)]
    · simp only [f_X8_wipe]
      rw [b_inF (by omega), tg_bd_some, if_neg (by decide)]
theorem R_tk_day {d : Int} (hd : d = 0 ∨ d = 1) : R_tk (1 + d).toNat (R_k d + 1) := by
  rcases hd with rfl | rfl
  · exact Or.inr (Or.inl ⟨rfl, rfl⟩)
  · exact Or.inr (Or.inr ⟨rfl, rfl⟩)
theorem R_S_keep {x m x' m' : tg_Mem} (h : R_all x m) (hr : R_rest x' m') (hx : ∀ c, c < 10 → x' c = x c) : R_all x' m' :=
  ⟨tx_S_of h.1 (by rw [hx 1 (by decide)]) (by rw [hx 1 (by decide)]) (by rw [hx 2 (by decide)]) (hx 3 (by decide)) (hx 7 (by decide)) (hx 8 (by decide)) (hx 9 (by decide)), hr⟩
theorem s_undo (d : Int) : R_st (f_X7_undo d) (f_X8_undo d) := by
  intro x m h
  by_cases hd : d = 0 ∨ d = 1
  · obtain ⟨d1, d2, d3, d4, d5⟩ := R_day hd h
    have hk := R_tk_day hd
    have hkb := R_kb hd
    have ew : tg_wi (1 + d) = 1 + d := tg_wi_e (by omega)
    by_cases h0 : x (R_k d + 1) 1 = 0
    · refine ⟨-3, x, m, ?_, ?_, h⟩
      · simp only [f_X7_undo]
        rw [b_isBelowT (by omega), tg_bd_some, if_pos (by decide), R_dayOf hd, tg_bd_some, Int.toNat_natCast, if_neg (by omega)]
      · simp only [f_X8_undo]
        rw [r_isTwoT (by omega), tg_bd_some, if_pos (by decide), ew, tg_ck_pos (by omega), d2, if_neg (by omega)]
    · refine ⟨x (R_k d + 1) 1 - 1, tg_up x (R_k d + 1) 1 (x (R_k d + 1) 1 - 1), tg_up m 6 (1 + d).toNat (x (R_k d + 1) 1 - 1), ?_, ?_, R_S_keep h (R_rest_cut hk h.2 (by omega)) (fun c hc => tg_up_k (by omega))⟩
      · simp only [f_X7_undo, tg_lt]
        rw [b_isBelowT (by omega), tg_bd_some, if_pos (by decide), R_dayOf hd, tg_bd_some, Int.toNat_natCast, if_pos (by omega), tg_wi_e (by omega), tg_up_same]
      · simp only [f_X8_undo, tg_lt]
        rw [r_isTwoT (by omega), tg_bd_some, if_pos (by decide), ew, tg_ck_pos (by omega), d2, if_pos h0, tg_ck_pos (by omega), tg_ck_pos (by omega), tg_wi_e (by omega), tg_ck_pos (by omega), tg_up_same]
  · refine ⟨-2, x, m, ?_, ?_, h⟩
    · simp only [f_X7_undo]
      rw [b_isBelowF (by omega), tg_bd_some, if_neg (by decide)]
    · simp only [f_X8_undo]
      rw [r_isTwoF (by omega), tg_bd_some, if_neg (by decide)]
-- sheets
theorem R_shn {s : Int} (hs : 0 ≤ s ∧ s < 4) : tg_sh s = 40 + 2 * s.toNat := by
  rcases (show s = 0 ∨ s = 1 ∨ s = 2 ∨ s = 3 by omega) with rfl | rfl | rfl | rfl <;> rfl
theorem R_sh {x m : tg_Mem} {s : Int} (h : R_all x m) (hs : 0 ≤ s ∧ s < 4) : R_sht x m s.toNat := by
  obtain ⟨q0, q1, q2, q3, q4, q5, q6, q7, q8⟩ := h
  rcases (show s = 0 ∨ s = 1 ∨ s = 2 ∨ s = 3 by omega) with rfl | rfl | rfl | rfl
  · exact q5
  · exact q6
  · exact q7
  · exact q8
theorem R_find {x m : tg_Mem} {n : Int} (h : R_all x m) (hn : 0 ≤ n ∧ n ≤ 5) : f_X7_found n x = some (-10 - n, tg_up x 0 7 n) ∧ f_X8_met n m = some (-10 - n, tg_up m 0 4 n) ∧ R_all (tg_up x 0 7 n) (tg_up m 0 4 n) := by
  refine ⟨?_, ?_, ?_⟩
  · simp only [f_X7_found, tg_lt]; rw [tg_wi_e (by omega)]
  · simp only [f_X8_met, tg_lt]; rw [tg_wi_e (by omega)]
  · obtain ⟨q0, q1, q2, q3, q4, q5, q6, q7, q8⟩ := h
    have hx : ∀ c, c ≠ 0 → tg_up x 0 7 n c = x c := fun c hc => tg_up_k hc
    have hm : ∀ c, c ≠ 0 → tg_up m 0 4 n c = m c := fun c hc => tg_up_k hc
    have sh : ∀ s : Nat, s < 4 → R_sht x m s → R_sht (tg_up x 0 7 n) (tg_up m 0 4 n) s := fun s hs h => R_sht_of h (hx _ (by omega)) (hx _ (by omega)) (by rw [hm 1 (by decide)]) (by rw [hm 2 (by decide)]) (hm 3 (by decide))
    refine ⟨tx_S_of q0 (by rw [hx 1 (by decide)]) (by rw [hx 1 (by decide)]) (by rw [hx 2 (by decide)]) (hx 3 (by decide)) (hx 7 (by decide)) (hx 8 (by decide)) (hx 9 (by decide)), R_txt_of q1 (by rw [hx 2 (by decide)]) (hx 3 (by decide)) (by rw [hm 6 (by decide)]) (hm 5 (by decide)), R_txt_of q2 (by rw [hx 11 (by decide)]) (hx 12 (by decide)) (by rw [hm 6 (by decide)]) (hm 5 (by decide)), R_txt_of q3 (by rw [hx 19 (by decide)]) (hx 20 (by decide)) (by rw [hm 6 (by decide)]) (hm 5 (by decide)), ?_, sh 0 (by omega) q5, sh 1 (by omega) q6, sh 2 (by omega) q7, sh 3 (by omega) q8⟩
    obtain ⟨u1, u2, u3, u4, u5, u6, u7⟩ := q4
    unfold R_set
    rw [hm 8 (by decide), hm 9 (by decide), hm 10 (by decide), hx 10 (by decide), hx 18 (by decide), hx 4 (by decide), hx 1 (by decide), hx 5 (by decide)]
    exact ⟨u1, u2, u3, u4, u5, u6, by rw [tg_up_same, tg_up_same]⟩
theorem R_readl {s d : Int} {j113 j94 : tg_Mem → tg_R} (hs : 0 ≤ s ∧ s < 4) (hd : d = 0 ∨ d = 1) (hj : ∀ q, j113 q = some (q (R_k d + 1) 1, q)) (hj2 : ∀ q, j94 q = some (q (R_k d + 1) 1, q)) : ∀ (n : Nat) (v : Int) (x m : tg_Mem), 41 - v < n → 0 ≤ v → v ≤ 40 → R_all x m → x (R_k d + 1) 1 = v → x (tg_sh s) 1 ≠ -1 →
    ∃ r x' m', tg_fx (f_X7_read_B59 s ((R_k d : Nat) : Int) j113 j94) (fun _ _ => none) n v x = some (r, x') ∧ tg_fx (f_X8_read_B43 s d) (fun _ _ => none) n v m = some (r, m') ∧ R_all x' m' := by
  have hkb := R_kb hd
  have hk := R_tk_day hd
  intro n
  induction n with
  | zero => intro v x m h1 h2 h3; omega
  | succ n ih =>
    intro v x m h1 h2 h3 h hv hf
    obtain ⟨s1, s2, s3⟩ := R_sh h hs
    have esh := R_shn hs
    rw [← esh] at s1 s2 s3
    obtain ⟨s4, s5, s6⟩ := s3 hf
    obtain ⟨d1, d2, d3, d4, d5⟩ := R_day hd h
    have es : ((s.toNat : Nat) : Int) = s := by omega
    rw [es] at s6
    rw [tg_fx_s, tg_fx_s]
    generalize tg_fx (f_X8_read_B43 s d) (fun _ _ => none) n = G2 at ih ⊢
    unfold f_X7_read_B59 f_X8_read_B43
    rw [tg_ck_pos (c := 0 ≤ s ∧ s < 4) hs, tg_ck_pos (c := 0 ≤ v ∧ v < 60) (by omega), s5, Int.toNat_natCast]
    by_cases c1 : x (tg_sh s) 2 ≤ v
    · rw [if_pos c1, if_pos c1, hj, hv]
      exact ⟨v, x, m, rfl, rfl, h⟩
    · rw [if_neg c1, if_neg c1]
      by_cases c2 : 40 ≤ v
      · rw [if_pos c2, if_pos c2, hj, hv]
        exact ⟨v, x, m, rfl, rfl, h⟩
      · obtain ⟨e, he⟩ : ∃ e, e = x (tg_sh s + 1) v.toNat := ⟨_, rfl⟩
        have e6 : m 3 (60 * s + v).toNat = e := by rw [s6 v h2 (by omega), he]
        rw [if_neg c2, if_neg c2, tg_wi_e (a := 60 * s) (by omega), tg_wi_e (a := 60 * s + v) (by omega), tg_ck_pos (c := 0 ≤ 60 * s + v ∧ 60 * s + v < 240) (by omega), e6]
        simp only [tg_lt, tg_jn]
        rw [← he]
        by_cases c3 : 0 ≤ e ∧ e < 16
        · obtain ⟨b, hb⟩ : ∃ b : Int, b = if 8 ≤ e then 65 + e - 8 else 97 + e := ⟨_, rfl⟩
          have hb2 : 0 ≤ b ∧ b ≤ 255 := by rw [hb]; split <;> omega
          have ebc : f_X7_byteOfCode e x = some (b, x) := by
            simp only [f_X7_byteOfCode]
            by_cases c4 : 8 ≤ e
            · rw [if_pos c4, tg_wi_e (a := 65 + e) (by omega), tg_wi_e (by omega), hb, if_pos c4]
            · rw [if_neg c4, tg_wi_e (by omega), hb, if_neg c4]
          obtain ⟨x1, hx1⟩ : ∃ x1, x1 = tg_up (tg_up x (R_k d + 1 + 1) v.toNat b) (R_k d + 1) 1 (v + 1) := ⟨_, rfl⟩
          obtain ⟨m1, hm1⟩ : ∃ m1, m1 = tg_up (tg_up m 5 (40 * (((1 + d).toNat : Nat) : Int) + v).toNat b) 6 (1 + d).toNat (v + 1) := ⟨_, rfl⟩
          have hr1 : R_rest x1 m1 := by rw [hx1, hm1]; exact R_rest_app hk h.2 hv (by omega) hb2
          have ha1 : R_all x1 m1 := R_S_keep h hr1 (fun c hc => by rw [hx1, tg_up_k (by omega), tg_up_k (by omega)])
          have eadd : f_X5_add (R_k d + 1) b x = some (0, x1) := by
            rw [b_add (by omega), hv, ← hx1]
          have ety : f_X8_type (1 + d) b m = some (v + 1, m1) := by
            rw [r_type (n := v) (by omega) hb2 (by rw [d2]; exact hv) (by omega), ← hm1]
          obtain ⟨r, x', m', g1, g2, g3⟩ := ih (v + 1) x1 m1 (by omega) (by omega) (by omega) ha1 (by rw [hx1, tg_up_same]) (by rw [hx1, tg_up_k (by omega), tg_up_k (by omega)]; exact hf)
          refine ⟨r, x', m', ?_, ?_, g3⟩
          · rw [b_isBelowT c3, tg_bd_some, if_pos (by decide), ebc, tg_bd_some, eadd, tg_bd_some, tg_wi_e (by omega)]
            exact g1
          · rw [b_inT (by omega), tg_bd_some, if_neg (by decide), tg_ck_pos (by omega), e6, tg_wi_e (a := 1 + d) (by omega), tg_wi_e (a := v + 1) (by omega)]
            by_cases c4 : 8 ≤ e
            · rw [if_pos c4] at hb
              rw [if_pos c4, tg_wi_e (a := 65 + e) (by omega), tg_wi_e (by omega), ← hb, ety, tg_bd_some]
              exact g2
            · rw [if_neg c4] at hb
              rw [if_neg c4, tg_wi_e (by omega), ← hb, ety, tg_bd_some]
              exact g2
        · refine ⟨v, x, m, ?_, ?_, h⟩
          · rw [b_isBelowF c3, tg_bd_some, if_neg (by decide), hj2, hv]
          · rw [b_inF (by omega), tg_bd_some, if_pos rfl]
theorem s_read (s d : Int) : R_st (f_X7_read s d) (f_X8_read s d) := by
  intro x m h
  by_cases hs : 0 ≤ s ∧ s < 4
  · by_cases hd : d = 0 ∨ d = 1
    · have hsh := R_sh h hs
      have esh := R_shn hs
      have hkb := R_kb hd
      have ew : tg_wi (1 + d) = 1 + d := tg_wi_e (by omega)
      obtain ⟨s1, s2, s3⟩ := hsh
      rw [← esh] at s1 s2 s3
      by_cases hf : x (tg_sh s) 1 = -1
      · obtain ⟨f1, f2, f3⟩ := R_find (n := 1) h (by omega)
        refine ⟨-10 - 1, _, _, ?_, ?_, f3⟩
        · simp only [f_X7_read, tg_jn, tg_lt]
          rw [b_isBelowT hs, tg_bd_some, if_neg (by decide), b_isBelowT (by omega), tg_bd_some, if_pos (by decide), tg_ck_pos hs, if_neg (fun z => z hf), f1]; rfl
        · simp only [f_X8_read, tg_jn, tg_lt]
          rw [r_isShT (by omega), tg_bd_some, if_neg (by decide), r_isTwoT (by omega), tg_bd_some, if_pos (by decide), tg_ck_pos hs, s2, if_neg (by omega), f2]; rfl
      · obtain ⟨d1, d2, d3, d4, d5⟩ := R_day hd h
        have hr0 : R_rest (tg_up x (R_k d + 1) 1 0) (tg_up m 6 (1 + d).toNat 0) := R_rest_cut (R_tk_day hd) h.2 (by omega)
        have ha0 : R_all (tg_up x (R_k d + 1) 1 0) (tg_up m 6 (1 + d).toNat 0) := R_S_keep h hr0 (fun c hc => tg_up_k (by omega))
        obtain ⟨r, x', m', g1, g2, g3⟩ := R_readl (s := s) (d := d) (j113 := fun m_113 => some (m_113 (R_k d + 1) 1, m_113)) (j94 := fun m_94 => some (m_94 (R_k d + 1) 1, m_94)) hs hd (fun q => rfl) (fun q => rfl) tg_FU 0 _ _ (by have := tg_FUg; omega) (by omega) (by omega) ha0 (tg_up_same _ _ _ _) (by rw [tg_up_k (by omega)]; exact hf)
        refine ⟨r, x', m', ?_, ?_, g3⟩
        · simp only [f_X7_read, tg_jn, tg_lt]
          rw [b_isBelowT hs, tg_bd_some, if_neg (by decide), b_isBelowT (by omega), tg_bd_some, if_pos (by decide), tg_ck_pos hs, if_pos hf, R_dayOf hd, tg_bd_some]
          exact g1
        · simp only [f_X8_read, tg_jn, tg_lt]
          rw [r_isShT (by omega), tg_bd_some, if_neg (by decide), r_isTwoT (by omega), tg_bd_some, if_pos (by decide), tg_ck_pos hs, s2, if_pos (by omega), ew, tg_ck_pos (by omega)]
          exact g2
    · refine ⟨-2, x, m, ?_, ?_, h⟩
      · simp only [f_X7_read]
        rw [b_isBelowT hs, tg_bd_some, if_neg (by decide), b_isBelowF (by omega), tg_bd_some, if_neg (by decide)]
      · simp only [f_X8_read]
        rw [r_isShT (by omega), tg_bd_some, if_neg (by decide), r_isTwoF (by omega), tg_bd_some, if_neg (by decide)]
  · refine ⟨-2, x, m, ?_, ?_, h⟩
    · simp only [f_X7_read]
      rw [b_isBelowF hs, tg_bd_some, if_pos rfl]
    · simp only [f_X8_read]
      rw [r_isShF (by omega), tg_bd_some, if_pos rfl]
