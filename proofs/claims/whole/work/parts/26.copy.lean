-- the calls that copy and write
theorem r_out {a0 a1 n : Int} {j154 : tg_Mem → tg_R} (h0 : 0 ≤ a0 ∧ a0 < 4) (h1 : 0 ≤ a1 ∧ 0 ≤ n ∧ a1 + n ≤ 60) : ∀ (N : Nat) (i : Int) (m : tg_Mem) (F : Nat), N < F → 0 ≤ i → i + N = n → ∃ m', tg_fx (f_X8_copy_B120 a0 a1 n j154) (fun _ _ => none) F i m = j154 m' ∧ (∀ c, c ≠ 4 → m' c = m c) ∧ (∀ j : Int, 0 ≤ j → j < i → m' 4 j.toNat = m 4 j.toNat) ∧ ∀ j : Int, i ≤ j → j < n → m' 4 j.toNat = m 3 (60 * a0 + a1 + j).toNat := by
  intro N
  induction N with
  | zero =>
    intro i m F hF hi hiN
    obtain ⟨F, rfl⟩ : ∃ n', F = n' + 1 := ⟨F - 1, by omega⟩
    refine ⟨m, ?_, fun _ _ => rfl, fun j _ _ => rfl, fun j _ _ => by omega⟩
    rw [tg_fx_s]
    unfold f_X8_copy_B120
    rw [if_pos (by omega)]
  | succ N ih =>
    intro i m F hF hi hiN
    obtain ⟨F, rfl⟩ : ∃ n', F = n' + 1 := ⟨F - 1, by omega⟩
    obtain ⟨m', q1, q2, q3, q4⟩ := ih (i + 1) (tg_up m 4 i.toNat (m 3 (60 * a0 + a1 + i).toNat)) F (by omega) (by omega) (by omega)
    refine ⟨m', ?_, fun c hc => by rw [q2 c hc, tg_up_k hc], fun j j1 j2 => by rw [q3 j j1 (by omega), tg_up_j (by omega)], fun j j1 j2 => ?_⟩
    · rw [tg_fx_s]
      generalize tg_fx (f_X8_copy_B120 a0 a1 n j154) (fun _ _ => none) F = G at q1 ⊢
      unfold f_X8_copy_B120
      simp only [tg_lt]
      rw [if_neg (by omega), tg_wi_e (a := 60 * a0) (by omega), tg_wi_e (a := 60 * a0 + a1) (by omega), tg_wi_e (a := 60 * a0 + a1 + i) (by omega), tg_ck_pos (by omega), tg_ck_pos (by omega), tg_wi_e (a := i + 1) (by omega)]
      exact q1
    · by_cases hj : j = i
      · rw [hj, q3 i hi (by omega), tg_up_same]
      · rw [q4 j (by omega) j2, tg_up_k (by decide)]
theorem r_back {a2 a3 n : Int} (h0 : 0 ≤ a2 ∧ a2 < 4) (h1 : 0 ≤ a3 ∧ 0 ≤ n ∧ a3 + n ≤ 60) : ∀ (N : Nat) (i : Int) (m : tg_Mem) (F : Nat), N < F → 0 ≤ i → i + N = n → ∃ m', tg_fx (f_X8_copy_B157 a2 a3 n) (fun _ _ => none) F i m = some (1, m') ∧ (∀ c, c ≠ 3 → m' c = m c) ∧ (∀ j : Nat, m' 3 j = if 60 * a2 + a3 + i ≤ (j : Int) ∧ (j : Int) < 60 * a2 + a3 + n then m 4 (j - (60 * a2 + a3).toNat) else m 3 j) := by
  intro N
  induction N with
  | zero =>
    intro i m F hF hi hiN
    obtain ⟨F, rfl⟩ : ∃ n', F = n' + 1 := ⟨F - 1, by omega⟩
    refine ⟨m, ?_, fun _ _ => rfl, fun j => by rw [if_neg (by omega)]⟩
    rw [tg_fx_s]
    unfold f_X8_copy_B157
    rw [if_pos (by omega)]
  | succ N ih =>
    intro i m F hF hi hiN
    obtain ⟨F, rfl⟩ : ∃ n', F = n' + 1 := ⟨F - 1, by omega⟩
    obtain ⟨m', q1, q2, q3⟩ := ih (i + 1) (tg_up m 3 (60 * a2 + a3 + i).toNat (m 4 i.toNat)) F (by omega) (by omega) (by omega)
    refine ⟨m', ?_, fun c hc => by rw [q2 c hc, tg_up_k hc], fun j => ?_⟩
    · rw [tg_fx_s]
      generalize tg_fx (f_X8_copy_B157 a2 a3 n) (fun _ _ => none) F = G at q1 ⊢
      unfold f_X8_copy_B157
      simp only [tg_lt]
      rw [if_neg (by omega), tg_ck_pos (by omega), tg_wi_e (a := 60 * a2) (by omega), tg_wi_e (a := 60 * a2 + a3) (by omega), tg_wi_e (a := 60 * a2 + a3 + i) (by omega), tg_ck_pos (by omega), tg_wi_e (a := i + 1) (by omega)]
      exact q1
    · rw [q3 j, tg_up_k (by decide)]
      by_cases hj : (j : Int) = 60 * a2 + a3 + i
      · rw [if_neg (by omega), if_pos (by omega), show (60 * a2 + a3 + i).toNat = j by omega, tg_up_same, show j - (60 * a2 + a3).toNat = i.toNat by omega]
      · rw [tg_up_j (by omega)]
        by_cases c : 60 * a2 + a3 + i ≤ (j : Int) ∧ (j : Int) < 60 * a2 + a3 + n
        · rw [if_pos (by omega), if_pos c]
        · rw [if_neg (by omega), if_neg c]
theorem c_has {k : Nat} {a n : Int} {x : tg_Mem} (ha : a ≤ 2147483647) (h60 : 0 ≤ x k 2 ∧ x k 2 ≤ 60) : f_X4_hasItems k a n x = some (if 0 ≤ a ∧ 0 ≤ n ∧ a + n ≤ x k 2 then 1 else 0, x) := by
  simp only [f_X4_hasItems, tg_jn]
  by_cases h1 : a < 0
  · rw [if_pos h1, if_neg (by omega)]
  · by_cases h2 : n < 0
    · rw [if_neg h1, if_pos h2, if_neg (by omega)]
    · by_cases h3 : x k 2 < a
      · rw [if_neg h1, if_neg h2, if_pos h3, if_neg (by omega)]
      · rw [if_neg h1, if_neg h2, if_neg h3, tg_wi_e (by omega)]
        by_cases h4 : x k 2 - a < n
        · rw [if_pos h4, if_neg (by omega)]
        · rw [if_neg h4, if_pos (by omega)]
theorem c_copy {s a t b n : Int} {x : tg_Mem} (hs : 0 ≤ s ∧ s < 4) (ht : 0 ≤ t ∧ t < 4) (ia2 : a ≤ 2147483647) (ib2 : b ≤ 2147483647) (s4 : x (tg_sh s) 1 ≠ -1 → 0 ≤ x (tg_sh s) 2 ∧ x (tg_sh s) 2 ≤ 60) (t4 : x (tg_sh t) 1 ≠ -1 → 0 ≤ x (tg_sh t) 2 ∧ x (tg_sh t) 2 ≤ 60) :
    f_X7_copy s a t b n x = if x (tg_sh s) 1 = -1 then f_X7_found 1 x else if x (tg_sh t) 1 = -1 then f_X7_found 1 x else if x (tg_sh s) 1 = x (tg_sh t) 1 then (if (0 ≤ a ∧ 0 ≤ n ∧ a + n ≤ x (tg_sh s) 2) ∧ (0 ≤ b ∧ 0 ≤ n ∧ b + n ≤ x (tg_sh t) 2) then some (1, tg_cpy x (tg_sh s + 1) a.toNat (tg_sh t + 1) b.toNat n.toNat) else f_X7_found 2 x) else f_X7_found 4 x := by
  have eb : ∀ n, tg_bd (f_X7_found n x) (fun r m => some (r, m)) = f_X7_found n x := fun n => by simp only [f_X7_found, tg_lt]; rfl
  simp only [f_X7_copy, tg_jn, eb]
  rw [b_isBelowT hs, tg_bd_some, if_neg (by decide), b_isBelowT ht, tg_bd_some, if_pos (by decide), tg_ck_pos hs, tg_ck_pos ht]
  by_cases hf : x (tg_sh s) 1 = -1
  · rw [if_pos hf, if_pos hf, eb]
  · rw [if_neg hf, if_neg hf]
    by_cases hg : x (tg_sh t) 1 = -1
    · rw [if_neg (fun z => z hg), if_pos hg, eb]
    · rw [if_pos hg, if_neg hg]
      by_cases hfg : x (tg_sh s) 1 = x (tg_sh t) 1
      · rw [if_pos hfg, if_pos hfg, c_has ia2 (s4 hf), tg_bd_some]
        by_cases c1 : 0 ≤ a ∧ 0 ≤ n ∧ a + n ≤ x (tg_sh s) 2
        · rw [if_pos c1, if_neg (by decide), c_has ib2 (t4 hg), tg_bd_some]
          by_cases c2 : 0 ≤ b ∧ 0 ≤ n ∧ b + n ≤ x (tg_sh t) 2
          · have := s4 hf
            have := t4 hg
            rw [if_pos c2, if_pos (by decide), if_pos ⟨c1, c2⟩, tg_ck_pos (by omega)]; rfl
          · rw [if_neg c2, if_neg (by decide), if_neg (fun z => c2 z.2), eb]
        · rw [if_neg c1, if_pos rfl, if_neg (fun z => c1 z.1), eb]
      · rw [if_neg hfg, if_neg hfg, eb]
theorem r_copy {s a t b n f g z1 z2 : Int} {m : tg_Mem} (hs : 0 ≤ s ∧ s < 4) (ht : 0 ≤ t ∧ t < 4) (ia : -2147483648 ≤ a ∧ a ≤ 2147483647) (ib : -2147483648 ≤ b ∧ b ≤ 2147483647) (iN : -2147483648 ≤ n ∧ n ≤ 2147483647) (ef : m 1 s.toNat = f) (eg : m 1 t.toNat = g) (f1 : -1 ≤ f) (g1 : -1 ≤ g) (s4 : f ≠ -1 → m 2 s.toNat = z1 ∧ 0 ≤ z1 ∧ z1 ≤ 60) (t4 : g ≠ -1 → m 2 t.toNat = z2 ∧ 0 ≤ z2 ∧ z2 ≤ 60) :
    f_X8_copy s a t b n m = if f = -1 then f_X8_met 1 m else if g = -1 then f_X8_met 1 m else if f = g then (if (0 ≤ a ∧ 0 ≤ n ∧ a + n ≤ z1) ∧ (0 ≤ b ∧ 0 ≤ n ∧ b + n ≤ z2) then tg_fx (f_X8_copy_B120 s a n (fun (m_154 : tg_Mem) => tg_fx (f_X8_copy_B157 t b n) (fun _ _ => none) tg_FU 0 m_154)) (fun _ _ => none) tg_FU 0 m else f_X8_met 2 m) else f_X8_met 4 m := by
  have eb : ∀ n, tg_bd (f_X8_met n m) (fun r m => some (r, m)) = f_X8_met n m := fun n => by simp only [f_X8_met, tg_lt]; rfl
  simp only [f_X8_copy, tg_jn]
  rw [r_isShT (by omega), tg_bd_some, if_neg (by decide), r_isShT (by omega), tg_bd_some, if_pos (by decide), tg_ck_pos hs, ef, eg]
  simp only [eb]
  by_cases hf : f = -1
  · rw [if_pos (by omega), if_pos hf]
  · rw [if_neg (by omega), if_neg hf, tg_ck_pos ht]
    by_cases hg : g = -1
    · rw [if_neg (by omega), if_pos hg]
    · rw [if_pos (by omega), if_neg hg, tg_ck_pos hs, tg_ck_pos ht]
      by_cases hfg : f = g
      · obtain ⟨e2, s5⟩ := s4 hf
        obtain ⟨e3, t5⟩ := t4 hg
        rw [if_pos hfg, if_pos hfg, e2, e3, tg_ck_pos hs, tg_ck_pos ht]
        by_cases c : (0 ≤ a ∧ 0 ≤ n ∧ a + n ≤ z1) ∧ (0 ≤ b ∧ 0 ≤ n ∧ b + n ≤ z2)
        · rw [if_pos c, if_neg (by omega), if_neg (by omega), if_neg (by omega), tg_wl_e (by omega), if_neg (by omega), tg_wl_e (by omega), if_pos (by omega)]
        · rw [if_neg c]
          by_cases c3 : a < 0
          · rw [if_pos c3]
          · rw [if_neg c3]
            by_cases c4 : b < 0
            · rw [if_pos c4]
            · rw [if_neg c4]
              by_cases c5 : n < 0
              · rw [if_pos c5]
              · rw [if_neg c5, tg_wl_e (a := a + n) (by omega), tg_wl_e (a := b + n) (by omega)]
                by_cases c6 : z1 < a + n
                · rw [if_pos c6]
                · rw [if_neg c6, if_neg (by omega)]
      · rw [if_neg hfg, if_neg hfg]
theorem s_copy (s a t b n : Int) (ia : -2147483648 ≤ a ∧ a ≤ 2147483647) (ib : -2147483648 ≤ b ∧ b ≤ 2147483647) (iN : -2147483648 ≤ n ∧ n ≤ 2147483647) : R_st (f_X7_copy s a t b n) (f_X8_copy s a t b n) := by
  intro x m h
  by_cases hs : 0 ≤ s ∧ s < 4
  · by_cases ht : 0 ≤ t ∧ t < 4
    · have esh := R_shn hs
      have esht := R_shn ht
      obtain ⟨s1, s2, s3⟩ := R_sh h hs
      rw [← esh] at s1 s2 s3
      obtain ⟨t1, t2, t3⟩ := R_sh h ht
      rw [← esht] at t1 t2 t3
      have ex := c_copy (n := n) hs ht ia.2 ib.2 (fun z => (s3 z).1) (fun z => (t3 z).1)
      have em := r_copy hs ht ia ib iN s2 t2 s1.1 t1.1 (fun z => ⟨(s3 z).2.1, (s3 z).1⟩) (fun z => ⟨(t3 z).2.1, (t3 z).1⟩)
      have fnd : ∀ k, 0 ≤ k → k ≤ 5 → f_X7_copy s a t b n x = f_X7_found k x → f_X8_copy s a t b n m = f_X8_met k m → ∃ r x' m', f_X7_copy s a t b n x = some (r, x') ∧ f_X8_copy s a t b n m = some (r, m') ∧ R_all x' m' := by
        intro k k0 k5 e1 e2
        obtain ⟨f1, f2, f3⟩ := R_find (n := k) h ⟨k0, k5⟩
        exact ⟨_, _, _, e1.trans f1, e2.trans f2, f3⟩
      by_cases hf : x (tg_sh s) 1 = -1
      · rw [if_pos hf] at ex em
        exact fnd 1 (by omega) (by omega) ex em
      · rw [if_neg hf] at ex em
        by_cases hg : x (tg_sh t) 1 = -1
        · rw [if_pos hg] at ex em
          exact fnd 1 (by omega) (by omega) ex em
        · rw [if_neg hg] at ex em
          by_cases hfg : x (tg_sh s) 1 = x (tg_sh t) 1
          · rw [if_pos hfg] at ex em
            obtain ⟨s4, s5, s6⟩ := s3 hf
            obtain ⟨t4, t5, t6⟩ := t3 hg
            by_cases c1 : (0 ≤ a ∧ 0 ≤ n ∧ a + n ≤ x (tg_sh s) 2) ∧ (0 ≤ b ∧ 0 ≤ n ∧ b + n ≤ x (tg_sh t) 2)
            · rw [if_pos c1] at ex em
              obtain ⟨m1, p1, p2, p3, p4⟩ := r_out (a0 := s) (a1 := a) (n := n) (j154 := fun (m_154 : tg_Mem) => tg_fx (f_X8_copy_B157 t b n) (fun _ _ => none) tg_FU 0 m_154) hs (by omega) n.toNat 0 m tg_FU (by have := tg_FUg; omega) (by omega) (by omega)
              obtain ⟨m2, u1, u2, u3⟩ := r_back (a2 := t) (a3 := b) (n := n) ht (by omega) n.toNat 0 m1 tg_FU (by have := tg_FUg; omega) (by omega) (by omega)
              refine ⟨1, _, m2, ex, by rw [em, p1]; exact u1, ?_⟩
              have w1 : ∀ c, c ≠ 3 → c ≠ 4 → m2 c = m c := fun c c1 c2 => by rw [u2 c c1, p2 c c2]
              have w3 : ∀ j : Nat, m2 3 j = if 60 * t + b ≤ (j : Int) ∧ (j : Int) < 60 * t + b + n then m 3 (60 * s + a + (j - (60 * t + b))).toNat else m 3 j := by
                intro j
                rw [u3 j, p2 3 (by decide)]
                by_cases c : 60 * t + b ≤ (j : Int) ∧ (j : Int) < 60 * t + b + n
                · rw [if_pos (by omega), if_pos c]
                  have := p4 ((j : Int) - (60 * t + b)) (by omega) (by omega)
                  rw [show ((j : Int) - (60 * t + b)).toNat = j - (60 * t + b).toNat by omega] at this
                  exact this
                · rw [if_neg (by omega), if_neg c]
              refine R_all_sh (s := t.toNat) (by omega) h (fun c c1 c2 => ?_) (fun c c1 c2 c3 c4 => w1 c c3 c4) (fun j hj => by rw [w1 1 (by decide) (by decide)]) (fun j hj => by rw [w1 2 (by decide) (by decide)]) (fun j hj => by rw [w3 j, if_neg (by omega)]) ?_
              · funext j
                unfold tg_cpy
                rw [if_neg (fun z => by omega)]
              · unfold R_sht
                have v1 : ∀ j, tg_cpy x (tg_sh s + 1) a.toNat (tg_sh t + 1) b.toNat n.toNat (tg_sh t) j = x (tg_sh t) j := fun j => by unfold tg_cpy; rw [if_neg (fun z => by omega)]
                rw [← esht, v1, v1, w1 1 (by decide) (by decide), w1 2 (by decide) (by decide)]
                refine ⟨t1, t2, fun _ => ⟨t4, t5, fun i i1 i2 => ?_⟩⟩
                rw [w3]
                unfold tg_cpy
                by_cases c : b ≤ i ∧ i < b + n
                · rw [if_pos (by omega), if_pos ⟨rfl, by omega, by omega⟩]
                  have := s6 (a + (i - b)) (by omega) (by omega)
                  rw [show (60 * ((s.toNat : Nat) : Int) + (a + (i - b))).toNat = (60 * s + a + (((60 * ((t.toNat : Nat) : Int) + i).toNat : Nat) - (60 * t + b))).toNat by omega] at this
                  rw [this, show (a + (i - b)).toNat = a.toNat + (i.toNat - b.toNat) by omega]
                · rw [if_neg (by omega), if_neg (fun z => by omega)]
                  exact t6 i i1 i2
            · rw [if_neg c1] at ex em
              exact fnd 2 (by omega) (by omega) ex em
          · rw [if_neg hfg] at ex em
            exact fnd 4 (by omega) (by omega) ex em
    · refine ⟨-2, x, m, ?_, ?_, h⟩
      · simp only [f_X7_copy]
        rw [b_isBelowT hs, tg_bd_some, if_neg (by decide), b_isBelowF ht, tg_bd_some, if_neg (by decide)]
      · simp only [f_X8_copy]
        rw [r_isShT (by omega), tg_bd_some, if_neg (by decide), r_isShF (by omega), tg_bd_some, if_neg (by decide)]
  · refine ⟨-2, x, m, ?_, ?_, h⟩
    · simp only [f_X7_copy]
      rw [b_isBelowF hs, tg_bd_some, if_pos rfl]
    · simp only [f_X8_copy]
      rw [r_isShF (by omega), tg_bd_some, if_pos rfl]
