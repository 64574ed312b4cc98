-- the sheets
theorem R_all_sh {x m x' m' : tg_Mem} {s : Nat} (hs : s < 4) (h : R_all x m) (hx : ∀ c, c ≠ 40 + 2 * s → c ≠ 40 + 2 * s + 1 → x' c = x c) (hm : ∀ c, c ≠ 1 → c ≠ 2 → c ≠ 3 → c ≠ 4 → m' c = m c) (hm1 : ∀ j, j ≠ s → m' 1 j = m 1 j) (hm2 : ∀ j, j ≠ s → m' 2 j = m 2 j) (hm3 : ∀ j, (j < 60 * s ∨ 60 * s + 60 ≤ j) → m' 3 j = m 3 j) (hn : R_sht x' m' s) : R_all x' m' := by
  obtain ⟨q0, q1, q2, q3, q4, q5, q6, q7, q8⟩ := h
  have z : ∀ c, c < 40 → x' c = x c := fun c hc => hx c (by omega) (by omega)
  have m5 := hm 5 (by decide) (by decide) (by decide) (by decide)
  have m6 := hm 6 (by decide) (by decide) (by decide) (by decide)
  have sh : ∀ t : Nat, t < 4 → R_sht x m t → R_sht x' m' t := by
    intro t ht hR
    by_cases e : t = s
    · rw [e]; exact hn
    · obtain ⟨r1, r2, r3⟩ := hR
      have e1 : x' (40 + 2 * t) = x (40 + 2 * t) := hx _ (by omega) (by omega)
      have e2 : x' (40 + 2 * t + 1) = x (40 + 2 * t + 1) := hx _ (by omega) (by omega)
      unfold R_sht
      rw [e1, e2, hm1 t e, hm2 t e]
      refine ⟨r1, r2, fun hf => ?_⟩
      obtain ⟨r4, r5, r6⟩ := r3 hf
      exact ⟨r4, r5, fun i i1 i2 => by rw [hm3 _ (by omega)]; exact r6 i i1 i2⟩
  refine ⟨tx_S_of q0 (by rw [z 1 (by decide)]) (by rw [z 1 (by decide)]) (by rw [z 2 (by decide)]) (z 3 (by decide)) (z 7 (by decide)) (z 8 (by decide)) (z 9 (by decide)), R_txt_of q1 (by rw [z 2 (by decide)]) (z 3 (by decide)) (by rw [m6]) m5, R_txt_of q2 (by rw [z 11 (by decide)]) (z 12 (by decide)) (by rw [m6]) m5, R_txt_of q3 (by rw [z 19 (by decide)]) (z 20 (by decide)) (by rw [m6]) m5, ?_, sh 0 (by omega) q5, sh 1 (by omega) q6, sh 2 (by omega) q7, sh 3 (by omega) q8⟩
  unfold R_set at q4 ⊢
  rw [z 10 (by decide), z 18 (by decide), z 4 (by decide), z 1 (by decide), z 5 (by decide), z 0 (by decide), hm 8 (by decide) (by decide) (by decide) (by decide), hm 9 (by decide) (by decide) (by decide) (by decide), hm 10 (by decide) (by decide) (by decide) (by decide), hm 0 (by decide) (by decide) (by decide) (by decide)]
  exact q4
theorem c_filll {K n : Nat} {v : Int} (hn : n ≤ 100000) : ∀ (N : Nat) (i : Int) (x : tg_Mem) (F : Nat), N < F → 0 ≤ i → i + N = n → ∃ x', tg_fx (f_J7_fill_53178_B5 K n v ((n : Nat) : Int)) (fun _ _ => none) F i x = some (0, x') ∧ (∀ j : Nat, i ≤ j → j < n → x' K j = v) ∧ (∀ j : Nat, (j : Int) < i → x' K j = x K j) ∧ (∀ c, c ≠ K → x' c = x c) := by
  intro N
  induction N with
  | zero =>
    intro i x F hF hi hiN
    obtain ⟨F, rfl⟩ : ∃ n', F = n' + 1 := ⟨F - 1, by omega⟩
    refine ⟨x, ?_, fun j j1 j2 => by omega, fun _ _ => rfl, fun _ _ => rfl⟩
    rw [tg_fx_s]
    unfold f_J7_fill_53178_B5
    rw [if_pos (by omega)]
  | succ N ih =>
    intro i x F hF hi hiN
    obtain ⟨F, rfl⟩ : ∃ n', F = n' + 1 := ⟨F - 1, by omega⟩
    obtain ⟨x', q1, q2, q3, q4⟩ := ih (i + 1) (tg_up x K i.toNat v) F (by omega) (by omega) (by omega)
    refine ⟨x', ?_, fun j j1 j2 => ?_, fun j j1 => ?_, fun c hc => by rw [q4 c hc, tg_up_k hc]⟩
    · rw [tg_fx_s]
      generalize tg_fx (f_J7_fill_53178_B5 K n v ((n : Nat) : Int)) (fun _ _ => none) F = G at q1 ⊢
      unfold f_J7_fill_53178_B5
      simp only [tg_lt]
      rw [if_neg (by omega), tg_ck_pos (by omega), tg_wi_e (by omega)]
      exact q1
    · by_cases hj : (j : Int) = i
      · rw [q3 j (by omega), show i.toNat = j by omega, tg_up_same]
      · exact q2 j (by omega) j2
    · rw [q3 j (by omega), tg_up_j (by omega)]
theorem c_fill {K n : Nat} {v : Int} {x : tg_Mem} (hn : n ≤ 100000) : ∃ x', f_J7_fill_53178 K n v x = some (0, x') ∧ (∀ j : Nat, j < n → x' K j = v) ∧ (∀ c, c ≠ K → x' c = x c) := by
  obtain ⟨x', q1, q2, q3, q4⟩ := c_filll (K := K) (n := n) (v := v) hn n 0 x tg_FU (by have := tg_FUg; omega) (by omega) (by omega)
  refine ⟨x', ?_, fun j hj => q2 j (by omega) hj, q4⟩
  simp only [f_J7_fill_53178, tg_lt]
  exact q1
theorem c_renew {k : Nat} {a b : Int} {x : tg_Mem} : ∃ x', f_X4_renew k a b x = some (0, x') ∧ x' k 1 = a ∧ x' k 2 = b ∧ (∀ j : Nat, j < 60 → x' (k + 1) j = 0) ∧ (∀ c, c ≠ k → c ≠ k + 1 → x' c = x c) := by
  obtain ⟨x1, e1, e2, e3⟩ := c_fill (K := k + 1) (n := 60) (v := 0) (x := x) (by decide)
  refine ⟨tg_up (tg_up x1 k 1 a) k 2 b, ?_, by rw [tg_up_j (by decide), tg_up_same], tg_up_same _ _ _ _, fun j hj => by rw [tg_up_k (by omega), tg_up_k (by omega)]; exact e2 j hj, fun c h1 h2 => by rw [tg_up_k h1, tg_up_k h1, e3 c h2]⟩
  simp only [f_X4_renew, tg_lt]
  rw [e1, tg_bd_some]
theorem r_zerol {s n : Int} (hs : 0 ≤ s ∧ s < 4) (hn : 0 ≤ n ∧ n ≤ 60) : ∀ (N : Nat) (i : Int) (m : tg_Mem) (F : Nat), N < F → 0 ≤ i → i + N = n → ∃ m', tg_fx (f_X8_sheet_B55 s n) (fun _ _ => none) F i m = some (n, m') ∧ (∀ c, c ≠ 3 → m' c = m c) ∧ ∀ j : Nat, m' 3 j = if 60 * s + i ≤ (j : Int) ∧ (j : Int) < 60 * s + n then 0 else m 3 j := by
  intro N
  induction N with
  | zero =>
    intro i m F hF hi hiN
    obtain ⟨F, rfl⟩ : ∃ n', F = n' + 1 := ⟨F - 1, by omega⟩
    refine ⟨m, ?_, fun _ _ => rfl, fun j => by rw [if_neg (by omega)]⟩
    rw [tg_fx_s]
    unfold f_X8_sheet_B55
    rw [if_pos (by omega)]
  | succ N ih =>
    intro i m F hF hi hiN
    obtain ⟨F, rfl⟩ : ∃ n', F = n' + 1 := ⟨F - 1, by omega⟩
    obtain ⟨m', q1, q2, q3⟩ := ih (i + 1) (tg_up m 3 (60 * s + i).toNat 0) F (by omega) (by omega) (by omega)
    refine ⟨m', ?_, fun c hc => by rw [q2 c hc, tg_up_k hc], fun j => ?_⟩
    · rw [tg_fx_s]
      generalize tg_fx (f_X8_sheet_B55 s n) (fun _ _ => none) F = G at q1 ⊢
      unfold f_X8_sheet_B55
      simp only [tg_lt]
      rw [if_neg (by omega), tg_wi_e (a := 60 * s) (by omega), tg_wi_e (a := 60 * s + i) (by omega), tg_ck_pos (by omega), tg_wi_e (a := i + 1) (by omega)]
      exact q1
    · rw [q3 j]
      by_cases hj : (j : Int) = 60 * s + i
      · rw [if_neg (by omega), if_pos (by omega), show (60 * s + i).toNat = j by omega, tg_up_same]
      · rw [tg_up_j (by omega)]
        by_cases c : 60 * s + i ≤ (j : Int) ∧ (j : Int) < 60 * s + n
        · rw [if_pos (by omega), if_pos c]
        · rw [if_neg (by omega), if_neg c]
theorem s_sheet (s a n : Int) : R_st (f_X7_sheet s a n) (f_X8_sheet s a n) := by
  intro x m h
  by_cases hs : 0 ≤ s ∧ s < 4
  · by_cases ha : 0 ≤ a ∧ a < 3
    · by_cases hn : n ≤ 60
      · by_cases hn0 : 0 ≤ n
        · have esh := R_shn hs
          obtain ⟨x', e1, e2, e3, e4, e5⟩ := c_renew (k := tg_sh s) (a := a) (b := n) (x := x)
          obtain ⟨m', g1, g2, g3⟩ := r_zerol hs ⟨hn0, hn⟩ n.toNat 0 (tg_up (tg_up m 1 s.toNat a) 2 s.toNat n) tg_FU (by have := tg_FUg; omega) (by omega) (by omega)
          refine ⟨n, x', m', ?_, ?_, ?_⟩
          · simp only [f_X7_sheet]
            rw [b_isBelowT hs, tg_bd_some, if_neg (by decide), b_isBelowT ha, tg_bd_some, if_neg (by decide), if_pos hn, if_pos hn0, tg_ck_pos hs, e1, tg_bd_some]
          · simp only [f_X8_sheet, tg_lt]
            rw [r_isShT (by omega), tg_bd_some, if_neg (by decide), b_inT (by omega), tg_bd_some, if_neg (by decide), if_pos hn, if_pos hn0, tg_ck_pos hs, tg_ck_pos hs, g1]
          · refine R_all_sh (s := s.toNat) (by omega) h (fun c c1 c2 => e5 c (by omega) (by omega)) (fun c c1 c2 c3 c4 => by rw [g2 c c3, tg_up_k c2, tg_up_k c1]) (fun j hj => by rw [g2 1 (by decide), tg_up_k (by decide), tg_up_j hj]) (fun j hj => by rw [g2 2 (by decide), tg_up_j hj, tg_up_k (by decide)]) (fun j hj => by rw [g3 j, if_neg (by omega), tg_up_k (by decide), tg_up_k (by decide)]) ?_
            unfold R_sht
            rw [← esh, e2, e3, g2 1 (by decide), g2 2 (by decide), tg_up_same, tg_up_k (by decide : (1 : Nat) ≠ 2), tg_up_same]
            refine ⟨by omega, rfl, fun _ => ⟨by omega, rfl, fun i i1 i2 => ?_⟩⟩
            rw [g3, if_pos (by omega), e4 _ (by omega)]
        · obtain ⟨f1, f2, f3⟩ := R_find (n := 5) h (by omega)
          refine ⟨-10 - 5, _, _, ?_, ?_, f3⟩
          · simp only [f_X7_sheet]
            rw [b_isBelowT hs, tg_bd_some, if_neg (by decide), b_isBelowT ha, tg_bd_some, if_neg (by decide), if_pos hn, if_neg hn0, f1]; rfl
          · simp only [f_X8_sheet]
            rw [r_isShT (by omega), tg_bd_some, if_neg (by decide), b_inT (by omega), tg_bd_some, if_neg (by decide), if_pos hn, if_neg hn0, f2]; rfl
      · refine ⟨-2, x, m, ?_, ?_, h⟩
        · simp only [f_X7_sheet]
          rw [b_isBelowT hs, tg_bd_some, if_neg (by decide), b_isBelowT ha, tg_bd_some, if_neg (by decide), if_neg hn]
        · simp only [f_X8_sheet]
          rw [r_isShT (by omega), tg_bd_some, if_neg (by decide), b_inT (by omega), tg_bd_some, if_neg (by decide), if_neg hn]
    · refine ⟨-2, x, m, ?_, ?_, h⟩
      · simp only [f_X7_sheet]
        rw [b_isBelowT hs, tg_bd_some, if_neg (by decide), b_isBelowF ha, tg_bd_some, if_pos rfl]
      · simp only [f_X8_sheet]
        rw [r_isShT (by omega), tg_bd_some, if_neg (by decide), b_inF (by omega), tg_bd_some, if_pos rfl]
  · refine ⟨-2, x, m, ?_, ?_, h⟩
    · simp only [f_X7_sheet]
      rw [b_isBelowF hs, tg_bd_some, if_pos rfl]
    · simp only [f_X8_sheet]
      rw [r_isShF (by omega), tg_bd_some, if_pos rfl]
theorem s_lose (s : Int) : R_st (f_X7_lose s) (f_X8_lose s) := by
  intro x m h
  by_cases hs : 0 ≤ s ∧ s < 4
  · have esh := R_shn hs
    obtain ⟨s1, s2, s3⟩ := R_sh h hs
    rw [← esh] at s1 s2 s3
    by_cases hf : x (tg_sh s) 1 = -1
    · obtain ⟨f1, f2, f3⟩ := R_find (n := 1) h (by omega)
      refine ⟨-10 - 1, _, _, ?_, ?_, f3⟩
      · simp only [f_X7_lose, tg_lt]
        rw [b_isBelowT hs, tg_bd_some, if_pos (by decide), tg_ck_pos hs, if_neg (fun z => z hf), f1]; rfl
      · simp only [f_X8_lose, tg_lt]
        rw [r_isShT (by omega), tg_bd_some, if_pos (by decide), tg_ck_pos hs, s2, if_neg (by omega), f2]; rfl
    · obtain ⟨s4, s5, s6⟩ := s3 hf
      obtain ⟨x', e1, e2, e3, e4, e5⟩ := c_renew (k := tg_sh s) (a := -1) (b := 0) (x := x)
      refine ⟨x (tg_sh s) 2, x', tg_up m 1 s.toNat (-1), ?_, ?_, ?_⟩
      · simp only [f_X7_lose, tg_lt]
        rw [b_isBelowT hs, tg_bd_some, if_pos (by decide), tg_ck_pos hs, if_pos hf, e1, tg_bd_some]
      · simp only [f_X8_lose, tg_lt]
        rw [r_isShT (by omega), tg_bd_some, if_pos (by decide), tg_ck_pos hs, s2, if_pos (by omega), tg_ck_pos hs, tg_ck_pos hs, tg_up_k (by decide), s5]
      · refine R_all_sh (s := s.toNat) (by omega) h (fun c c1 c2 => e5 c (by omega) (by omega)) (fun c c1 c2 c3 c4 => by rw [tg_up_k c1]) (fun j hj => by rw [tg_up_j hj]) (fun j hj => by rw [tg_up_k (by decide)]) (fun j hj => by rw [tg_up_k (by decide)]) ?_
        unfold R_sht
        rw [← esh, e2, tg_up_same]
        exact ⟨by omega, rfl, fun z => absurd rfl z⟩
  · refine ⟨-2, x, m, ?_, ?_, h⟩
    · simp only [f_X7_lose]
      rw [b_isBelowF hs, tg_bd_some, if_neg (by decide)]
    · simp only [f_X8_lose]
      rw [r_isShF (by omega), tg_bd_some, if_neg (by decide)]
-- what is found, what is put
theorem R_put {x m : tg_Mem} {s i v : Int} (h : R_all x m) (hs : 0 ≤ s ∧ s < 4) (hf : x (tg_sh s) 1 ≠ -1) (hi : 0 ≤ i ∧ i < x (tg_sh s) 2) : R_all (tg_up x (tg_sh s + 1) i.toNat v) (tg_up m 3 (60 * s + i).toNat v) := by
  have esh := R_shn hs
  obtain ⟨s1, s2, s3⟩ := R_sh h hs
  rw [← esh] at s1 s2 s3
  obtain ⟨s4, s5, s6⟩ := s3 hf
  refine R_all_sh (s := s.toNat) (by omega) h (fun c c1 c2 => by rw [tg_up_k (by omega)]) (fun c c1 c2 c3 c4 => by rw [tg_up_k c3]) (fun j hj => by rw [tg_up_k (by decide)]) (fun j hj => by rw [tg_up_k (by decide)]) (fun j hj => by rw [tg_up_j (by omega)]) ?_
  unfold R_sht
  rw [← esh, tg_up_k (by omega : tg_sh s ≠ tg_sh s + 1), tg_up_k (by decide : (1 : Nat) ≠ 3), tg_up_k (by decide : (2 : Nat) ≠ 3)]
  refine ⟨s1, s2, fun _ => ⟨s4, s5, fun j j1 j2 => ?_⟩⟩
  by_cases hj : j = i
  · rw [hj, show (60 * ((s.toNat : Nat) : Int) + i).toNat = (60 * s + i).toNat by omega, tg_up_same, tg_up_same]
  · rw [tg_up_j (by omega), tg_up_j (by omega)]; exact s6 j j1 j2
/-- the class's and the reference's word on whether a sheet has an item -/
theorem R_lack {x m : tg_Mem} {s a i : Int} (h : R_all x m) (hs : 0 ≤ s ∧ s < 4) (ha : 0 ≤ a ∧ a < 3) :
    (x (tg_sh s) 1 = a ∧ (0 ≤ i ∧ i < x (tg_sh s) 2) ∧ x (tg_sh s) 1 ≠ -1 ∧ f_X4_findsAt (tg_sh s) a i x = some (0, x) ∧ f_X8_lacks s a i m = some (0, m) ∧ m 1 s.toNat = a ∧ x (tg_sh s) 2 ≤ 60 ∧ m 3 (60 * s + i).toNat = x (tg_sh s + 1) i.toNat) ∨
    (∃ n, (1 ≤ n ∧ n ≤ 3) ∧ f_X4_findsAt (tg_sh s) a i x = some (n, x) ∧ f_X8_lacks s a i m = f_X8_met n m) := by
  have esh := R_shn hs
  obtain ⟨s1, s2, s3⟩ := R_sh h hs
  rw [← esh] at s1 s2 s3
  have eb : ∀ n, tg_bd (f_X8_met n m) (fun r m => some (r, m)) = f_X8_met n m := fun n => by simp only [f_X8_met, tg_lt]; rfl
  by_cases hf : x (tg_sh s) 1 = -1
  · right
    refine ⟨1, by omega, ?_, ?_⟩
    · simp only [f_X4_findsAt]; rw [if_neg (fun z => z hf)]
    · simp only [f_X8_lacks]; rw [tg_ck_pos hs, s2, if_neg (by omega)]; exact eb 1
  · obtain ⟨s4, s5, s6⟩ := s3 hf
    by_cases hfa : x (tg_sh s) 1 = a
    · by_cases hi : 0 ≤ i ∧ i < x (tg_sh s) 2
      · left
        refine ⟨hfa, hi, hf, ?_, ?_, by rw [s2, hfa], s4.2, ?_⟩
        · simp only [f_X4_findsAt]; rw [if_pos hf, if_pos hfa, b_isBelowT hi, tg_bd_some, if_neg (by decide)]
        · simp only [f_X8_lacks]; rw [tg_ck_pos hs, s2, if_pos (by omega), tg_ck_pos hs, if_pos hfa, tg_ck_pos hs, s5, tg_wi_e (by omega), b_inT (by omega), tg_bd_some, if_neg (by decide)]
        · have := s6 i hi.1 hi.2
          rw [show (60 * ((s.toNat : Nat) : Int) + i).toNat = (60 * s + i).toNat by omega] at this
          exact this
      · right
        refine ⟨2, by omega, ?_, ?_⟩
        · simp only [f_X4_findsAt]; rw [if_pos hf, if_pos hfa, b_isBelowF hi, tg_bd_some, if_pos rfl]
        · simp only [f_X8_lacks]; rw [tg_ck_pos hs, s2, if_pos (by omega), tg_ck_pos hs, if_pos hfa, tg_ck_pos hs, s5, tg_wi_e (by omega), b_inF (by omega), tg_bd_some, if_pos rfl]; exact eb 2
    · right
      refine ⟨3, by omega, ?_, ?_⟩
      · simp only [f_X4_findsAt]; rw [if_pos hf, if_neg hfa]
      · simp only [f_X8_lacks]; rw [tg_ck_pos hs, s2, if_pos (by omega), tg_ck_pos hs, if_neg hfa]; exact eb 3
/-- an item, cut down to its sheet's form -/
def tn_cut (a v : Int) : Int := if a = 0 then tg_i2b v else if a = 1 then tg_i2s v else v
theorem c_put {k : Nat} {i v : Int} {x : tg_Mem} (hi : 0 ≤ i ∧ i < x k 2) (h60 : x k 2 ≤ 60) : f_X4_put k i v x = some (0, tg_up x (k + 1) i.toNat (tn_cut (x k 1) v)) := by
  simp only [f_X4_put, f_X4_cut, tg_lt]
  rw [b_isBelowT hi, tg_bd_some, if_neg (by decide), b_isBelowT (by omega), tg_bd_some, if_neg (by decide)]
  unfold tn_cut
  by_cases h0 : x k 1 = 0
  · rw [if_neg (fun z => z h0), tg_bd_some, tg_ck_pos (by omega), if_pos h0]
  · by_cases h1 : x k 1 = 1
    · rw [if_pos h0, if_neg (fun z => z h1), tg_bd_some, tg_ck_pos (by omega), if_neg h0, if_pos h1]
    · rw [if_pos h0, if_pos h1, tg_bd_some, tg_ck_pos (by omega), if_neg h0, if_neg h1]
theorem r_cut {a v : Int} {m : tg_Mem} : f_X8_cut a v m = some (tn_cut a v, m) := by
  simp only [f_X8_cut]
  unfold tn_cut
  by_cases h0 : a = 0
  · rw [if_neg (fun z => z h0), if_pos h0]
  · by_cases h1 : a = 1
    · rw [if_pos h0, if_neg (fun z => z h1), if_neg h0, if_pos h1]
    · rw [if_pos h0, if_pos h1, if_neg h0, if_neg h1]
theorem s_lay (s a i v : Int) : R_st (f_X7_lay s a i v) (f_X8_lay s a i v) := by
  intro x m h
  by_cases hs : 0 ≤ s ∧ s < 4
  · by_cases ha : 0 ≤ a ∧ a < 3
    · rcases R_lack (i := i) h hs ha with ⟨l1, l2, l3, l4, l5, l6, l7, l8⟩ | ⟨n, l1, l2, l3⟩
      · refine ⟨1, _, _, ?_, ?_, R_put (v := tn_cut a v) h hs l3 l2⟩
        · simp only [f_X7_lay]
          rw [b_isBelowT hs, tg_bd_some, if_neg (by decide), b_isBelowT ha, tg_bd_some, if_pos (by decide), tg_ck_pos hs, l4, tg_bd_some, if_pos rfl, c_put l2 l7, tg_bd_some, l1]
        · simp only [f_X8_lay, tg_lt]
          rw [r_isShT (by omega), tg_bd_some, if_neg (by decide), b_inT (by omega), tg_bd_some, if_pos (by decide), l5, tg_bd_some, if_pos rfl, r_cut, tg_bd_some, tg_wi_e (a := 60 * s) (by omega), tg_wi_e (a := 60 * s + i) (by omega), tg_ck_pos (by omega)]
      · obtain ⟨f1, f2, f3⟩ := R_find (n := n) h (by omega)
        refine ⟨-10 - n, _, _, ?_, ?_, f3⟩
        · simp only [f_X7_lay]
          rw [b_isBelowT hs, tg_bd_some, if_neg (by decide), b_isBelowT ha, tg_bd_some, if_pos (by decide), tg_ck_pos hs, l2, tg_bd_some, if_neg (by omega), f1, tg_bd_some]
        · simp only [f_X8_lay, tg_lt]
          rw [r_isShT (by omega), tg_bd_some, if_neg (by decide), b_inT (by omega), tg_bd_some, if_pos (by decide), l3, f2, tg_bd_some, if_neg (by omega)]
    · refine ⟨-2, x, m, ?_, ?_, h⟩
      · simp only [f_X7_lay]
        rw [b_isBelowT hs, tg_bd_some, if_neg (by decide), b_isBelowF ha, tg_bd_some, if_neg (by decide)]
      · simp only [f_X8_lay]
        rw [r_isShT (by omega), tg_bd_some, if_neg (by decide), b_inF (by omega), tg_bd_some, if_neg (by decide)]
  · refine ⟨-2, x, m, ?_, ?_, h⟩
    · simp only [f_X7_lay]
      rw [b_isBelowF hs, tg_bd_some, if_pos rfl]
    · simp only [f_X8_lay]
      rw [r_isShF (by omega), tg_bd_some, if_pos rfl]
theorem s_get (s a i : Int) : R_st (f_X7_get s a i) (f_X8_get s a i) := by
  intro x m h
  by_cases hs : 0 ≤ s ∧ s < 4
  · by_cases ha : 0 ≤ a ∧ a < 3
    · rcases R_lack (i := i) h hs ha with ⟨l1, l2, l3, l4, l5, l6, l7, l8⟩ | ⟨n, l1, l2, l3⟩
      · refine ⟨x (tg_sh s + 1) i.toNat, x, m, ?_, ?_, h⟩
        · simp only [f_X7_get, f_X4_item, tg_jn]
          rw [b_isBelowT hs, tg_bd_some, if_neg (by decide), b_isBelowT ha, tg_bd_some, if_pos (by decide), tg_ck_pos hs, l4, tg_bd_some, if_pos rfl, b_isBelowT l2, tg_bd_some, if_neg (by decide), b_isBelowT (by omega), tg_bd_some, if_neg (by decide), tg_ck_pos (by omega), tg_bd_some]
        · simp only [f_X8_get]
          rw [r_isShT (by omega), tg_bd_some, if_neg (by decide), b_inT (by omega), tg_bd_some, if_neg (by decide), l5, tg_bd_some, if_pos rfl, tg_wi_e (a := 60 * s) (by omega), tg_wi_e (a := 60 * s + i) (by omega), tg_ck_pos (by omega), l8]
      · obtain ⟨f1, f2, f3⟩ := R_find (n := n) h (by omega)
        refine ⟨-2147483648, _, _, ?_, ?_, f3⟩
        · simp only [f_X7_get]
          rw [b_isBelowT hs, tg_bd_some, if_neg (by decide), b_isBelowT ha, tg_bd_some, if_pos (by decide), tg_ck_pos hs, l2, tg_bd_some, if_neg (by omega), f1, tg_bd_some]
        · simp only [f_X8_get]
          rw [r_isShT (by omega), tg_bd_some, if_neg (by decide), b_inT (by omega), tg_bd_some, if_neg (by decide), l3, f2, tg_bd_some, if_neg (by omega)]
    · refine ⟨-2147483648, x, m, ?_, ?_, h⟩
      · simp only [f_X7_get]
        rw [b_isBelowT hs, tg_bd_some, if_neg (by decide), b_isBelowF ha, tg_bd_some, if_neg (by decide)]
      · simp only [f_X8_get]
        rw [r_isShT (by omega), tg_bd_some, if_neg (by decide), b_inF (by omega), tg_bd_some, if_pos rfl]
  · refine ⟨-2147483648, x, m, ?_, ?_, h⟩
    · simp only [f_X7_get]
      rw [b_isBelowF hs, tg_bd_some, if_pos rfl]
    · simp only [f_X8_get]
      rw [r_isShF (by omega), tg_bd_some, if_pos rfl]
