-- what class and reference have in common
def R_txt (x m : tg_Mem) (k t : Nat) : Prop := (0 ≤ x k 1 ∧ x k 1 ≤ 40) ∧ m 6 t = x k 1 ∧ ∀ i : Int, 0 ≤ i → i < x k 1 → m 5 (40 * (t : Int) + i).toNat = x (k + 1) i.toNat ∧ 0 ≤ x (k + 1) i.toNat ∧ x (k + 1) i.toNat ≤ 255
def R_sht (x m : tg_Mem) (s : Nat) : Prop := (-1 ≤ x (40 + 2 * s) 1 ∧ x (40 + 2 * s) 1 ≤ 2) ∧ m 1 s = x (40 + 2 * s) 1 ∧ (x (40 + 2 * s) 1 ≠ -1 → (0 ≤ x (40 + 2 * s) 2 ∧ x (40 + 2 * s) 2 ≤ 60) ∧ m 2 s = x (40 + 2 * s) 2 ∧ ∀ i : Int, 0 ≤ i → i < x (40 + 2 * s) 2 → m 3 (60 * (s : Int) + i).toNat = x (40 + 2 * s + 1) i.toNat)
def R_set (x m : tg_Mem) : Prop := (m 8 0 = x 10 5 ∧ 0 ≤ x 10 5 ∧ x 10 5 ≤ 7) ∧ (m 8 1 = x 18 5 ∧ 0 ≤ x 18 5 ∧ x 18 5 ≤ 7) ∧ (m 9 0 = x 4 0 ∧ 0 ≤ x 4 0 ∧ x 4 0 ≤ 9) ∧ (m 9 1 = x 4 1 ∧ 0 ≤ x 4 1 ∧ x 4 1 ≤ 9) ∧ (m 9 2 = x 1 7 ∧ 1 ≤ x 1 7 ∧ x 1 7 ≤ 18) ∧ (∀ i : Int, 0 ≤ i → i ≤ 7 → m 10 i.toNat = x 5 i.toNat ∧ 0 ≤ x 5 i.toNat ∧ x 5 i.toNat ≤ 99) ∧ m 0 4 = x 0 7
def R_all (x m : tg_Mem) : Prop := tx_S x ∧ R_txt x m 2 0 ∧ R_txt x m 11 1 ∧ R_txt x m 19 2 ∧ R_set x m ∧ R_sht x m 0 ∧ R_sht x m 1 ∧ R_sht x m 2 ∧ R_sht x m 3
-- what of the class's memory, of the reference's, the relation speaks of
def R_xf (x x' : tg_Mem) : Prop := (∀ c, (2 ≤ c ∧ c ≤ 5) ∨ (7 ≤ c ∧ c ≤ 9) ∨ c = 11 ∨ c = 12 ∨ c = 19 ∨ c = 20 ∨ 40 ≤ c → x' c = x c) ∧ x' 0 7 = x 0 7 ∧ x' 1 7 = x 1 7 ∧ x' 1 8 = x 1 8 ∧ x' 1 9 = x 1 9 ∧ x' 10 5 = x 10 5 ∧ x' 18 5 = x 18 5
def R_mf (m m' : tg_Mem) : Prop := (∀ c, (1 ≤ c ∧ c ≤ 3) ∨ c = 5 ∨ c = 6 ∨ (8 ≤ c ∧ c ≤ 10) → m' c = m c) ∧ m' 0 4 = m 0 4
theorem R_xf_rf (x : tg_Mem) : R_xf x x := ⟨fun _ _ => rfl, rfl, rfl, rfl, rfl, rfl, rfl⟩
theorem R_mf_rf (m : tg_Mem) : R_mf m m := ⟨fun _ _ => rfl, rfl⟩
theorem R_xf_tr {x y z : tg_Mem} (h1 : R_xf x y) (h2 : R_xf y z) : R_xf x z := by
  obtain ⟨a1, a2, a3, a4, a5, a6, a7⟩ := h1
  obtain ⟨b1, b2, b3, b4, b5, b6, b7⟩ := h2
  exact ⟨fun c h => (b1 c h).trans (a1 c h), b2.trans a2, b3.trans a3, b4.trans a4, b5.trans a5, b6.trans a6, b7.trans a7⟩
theorem R_mf_tr {x y z : tg_Mem} (h1 : R_mf x y) (h2 : R_mf y z) : R_mf x z := ⟨fun c h => (h2.1 c h).trans (h1.1 c h), h2.2.trans h1.2⟩
theorem R_txt_of {x m x' m' : tg_Mem} {k t : Nat} (h : R_txt x m k t) (h1 : x' k 1 = x k 1) (h2 : x' (k + 1) = x (k + 1)) (h3 : m' 6 t = m 6 t) (h4 : m' 5 = m 5) : R_txt x' m' k t := by
  unfold R_txt at h ⊢
  rw [h1, h2, h3, h4]; exact h
theorem R_sht_of {x m x' m' : tg_Mem} {s : Nat} (h : R_sht x m s) (h1 : x' (40 + 2 * s) = x (40 + 2 * s)) (h2 : x' (40 + 2 * s + 1) = x (40 + 2 * s + 1)) (h3 : m' 1 s = m 1 s) (h4 : m' 2 s = m 2 s) (h5 : m' 3 = m 3) : R_sht x' m' s := by
  unfold R_sht at h ⊢
  rw [h1, h2, h3, h4, h5]; exact h
theorem tx_S_of {x x' : tg_Mem} (h : tx_S x) (h1 : x' 1 8 = x 1 8) (h2 : x' 1 9 = x 1 9) (h3 : x' 2 1 = x 2 1) (h4 : x' 3 = x 3) (h7 : x' 7 = x 7) (h8 : x' 8 = x 8) (h9 : x' 9 = x 9) : tx_S x' := by
  unfold tx_S at h ⊢
  rw [h1, h2, h3, h4, h7, h8, h9]; exact h
theorem R_all_of {x m x' m' : tg_Mem} (h : R_all x m) (hx : R_xf x x') (hm : R_mf m m') : R_all x' m' := by
  obtain ⟨q0, q1, q2, q3, q4, q5, q6, q7, q8⟩ := h
  obtain ⟨a1, a2, a3, a4, a5, a6, a7⟩ := hx
  obtain ⟨b1, b2⟩ := hm
  have m5 := b1 5 (by omega)
  have m6 := b1 6 (by omega)
  have sh : ∀ s : Nat, s < 4 → R_sht x m s → R_sht x' m' s := fun s hs h => R_sht_of h (a1 _ (by omega)) (a1 _ (by omega)) (by rw [b1 1 (by omega)]) (by rw [b1 2 (by omega)]) (b1 3 (by omega))
  refine ⟨tx_S_of q0 a4 a5 (by rw [a1 2 (by omega)]) (a1 3 (by omega)) (a1 7 (by omega)) (a1 8 (by omega)) (a1 9 (by omega)), R_txt_of q1 (by rw [a1 2 (by omega)]) (a1 3 (by omega)) (by rw [m6]) m5, R_txt_of q2 (by rw [a1 11 (by omega)]) (a1 12 (by omega)) (by rw [m6]) m5, R_txt_of q3 (by rw [a1 19 (by omega)]) (a1 20 (by omega)) (by rw [m6]) m5, ?_, sh 0 (by omega) q5, sh 1 (by omega) q6, sh 2 (by omega) q7, sh 3 (by omega) q8⟩
  unfold R_set at q4 ⊢
  rw [a6, a7, a1 4 (by omega), a3, a1 5 (by omega), a2, b1 8 (by omega), b1 9 (by omega), b1 10 (by omega), b2]
  exact q4
/-- the meadow of both, once the reference has read it -/
theorem R_cf {x m : tg_Mem} (h : R_all x m) : ∃ (P : Int) (A B Y : Int → Int) (ρ h0 h1 : Int) (w : Int → Int) (m1 : tg_Mem), tr_cf P A B Y ρ w ∧ tc_cf x P A B Y ρ h0 h1 w ∧ f_X8_reads m = some (x 1 9, m1) ∧ tm_cf m1 P A B Y ρ h0 h1 w ∧ R_mf m m1 := by
  obtain ⟨⟨s1, s2, s3⟩, ⟨t1, t2, t3⟩, -, -, ⟨-, -, u3, u4, u5, u6, u7⟩, -, -, -, -⟩ := h
  have hbm : ∀ i : Int, 0 ≤ i → i < x 2 1 → m 5 i.toNat = x 3 i.toNat := fun i a b => by
    have := (t3 i a b).1
    simpa using this
  obtain ⟨φ, m1, e1, e2, e3, e4, e5⟩ := b_reads (m := m) (by rw [t2]; exact t1) (fun i a b => by
    rw [t2] at b; rw [hbm i a b]; exact (t3 i a b).2)
  rw [t2] at e2 e3
  have eφ : φ = x 1 9 := tm_ff_uniq (tm_ff_congr (fun i a b => hbm i a b) e2) s1
  subst eφ
  have eP : tm_P (fun i => m 5 i.toNat) (x 2 1) (x 1 9) = x 1 8 := by unfold tm_P; exact s2.symm
  rw [eP] at e3
  have hP : 0 ≤ x 1 8 ∧ x 1 8 ≤ 8 ∧ (0 < x 1 8 → x 1 9 = -1 ∧ 4 * x 1 8 - 1 = x 2 1) := by
    by_cases hφ : x 1 9 = -1
    · rw [if_pos hφ] at s2
      rw [hφ] at s1
      have := tm_ff_n s1 t1.1
      omega
    · rw [if_neg hφ] at s2; omega
  have hfit : ∀ p : Int, 0 ≤ p → p < x 1 8 → ∀ j : Int, 0 ≤ j → j < 3 → tm_fit (fun i => x 3 i.toNat) (4 * p + j) := by
    intro p a b j c d
    have h2 := hP.2.2 (by omega)
    have s1' := s1
    rw [h2.1] at s1'
    rcases s1' with ⟨z1, z2, z3⟩ | ⟨z1, z2, z3, z4⟩ | ⟨z1, z2, z3, z4⟩
    · exact z2 _ (by omega) (by omega)
    · omega
    · omega
  refine ⟨x 1 8, fun p => x 3 (4 * p).toNat - 48, fun p => x 3 (4 * p + 1).toNat - 48, fun p => x 3 (4 * p + 2).toNat - 48, x 1 7, x 4 0, x 4 1, fun i => x 5 i.toNat, m1, ⟨⟨hP.1, hP.2.1, fun p a b => ?_⟩, u5.2, fun i a b => (u6 i a b).2⟩, ⟨⟨rfl, s3⟩, rfl, rfl, rfl, fun i _ _ => rfl⟩, e1, ⟨⟨e3.1, fun p a b => ?_⟩, ?_, ?_, ?_, fun i a b => ?_⟩, ⟨fun c hc => e4 c (by omega) (by omega), e5 4 (by decide) (by decide)⟩⟩
  · have f0 := hfit p a b 0 (by omega) (by omega)
    have f1 := hfit p a b 1 (by omega) (by omega)
    have f2 := hfit p a b 2 (by omega) (by omega)
    unfold tm_fit at f0 f1 f2
    dsimp only at f0 f1 f2 ⊢
    have e8 : 4 * p + 1 - 1 = 4 * p := by omega
    rw [e8] at f1
    rw [Int.add_zero] at f0
    omega
  · have h2 := hP.2.2 (by omega)
    obtain ⟨g1, g2, g3⟩ := e3.2 p a b
    dsimp only at g1 g2 g3 ⊢
    rw [g1, g2, g3, hbm _ (by omega) (by omega), hbm _ (by omega) (by omega), hbm _ (by omega) (by omega)]
    exact ⟨rfl, rfl, rfl⟩
  · rw [e4 9 (by decide) (by decide)]; exact u5.1
  · rw [e4 9 (by decide) (by decide)]; exact u3.1
  · rw [e4 9 (by decide) (by decide)]; exact u4.1
  · rw [e4 10 (by decide) (by decide)]; exact (u6 i a b).1
-- days
def R_k (d : Int) : Nat := if d = 0 then 10 else 18
theorem R_dayOf {d : Int} {x : tg_Mem} (hd : d = 0 ∨ d = 1) : f_X7_dayOf d x = some (((R_k d : Nat) : Int), x) := by
  rcases hd with rfl | rfl
  · exact b_dayOf0
  · exact b_dayOf1
theorem R_kb {d : Int} (hd : d = 0 ∨ d = 1) : 10 ≤ R_k d ∧ R_k d ≤ 18 := by
  unfold R_k
  rcases hd with rfl | rfl
  · rw [if_pos rfl]; omega
  · rw [if_neg (by decide)]; omega
theorem R_xf_fr {d : Int} {x x' : tg_Mem} (hd : d = 0 ∨ d = 1) (h : tc_fr (R_k d) x x') : R_xf x x' := by
  rcases hd with rfl | rfl
  · have h : tc_fr 10 x x' := h
    exact ⟨fun c hc => h.1 c (by omega) (by omega) (by omega) (by omega) (by omega) (by omega), by rw [h.1 0 (by omega) (by omega) (by omega) (by omega) (by omega) (by omega)], by rw [h.1 1 (by omega) (by omega) (by omega) (by omega) (by omega) (by omega)], by rw [h.1 1 (by omega) (by omega) (by omega) (by omega) (by omega) (by omega)], by rw [h.1 1 (by omega) (by omega) (by omega) (by omega) (by omega) (by omega)], h.2 5 (by decide) (by decide), by rw [h.1 18 (by omega) (by omega) (by omega) (by omega) (by omega) (by omega)]⟩
  · have h : tc_fr 18 x x' := h
    exact ⟨fun c hc => h.1 c (by omega) (by omega) (by omega) (by omega) (by omega) (by omega), by rw [h.1 0 (by omega) (by omega) (by omega) (by omega) (by omega) (by omega)], by rw [h.1 1 (by omega) (by omega) (by omega) (by omega) (by omega) (by omega)], by rw [h.1 1 (by omega) (by omega) (by omega) (by omega) (by omega) (by omega)], by rw [h.1 1 (by omega) (by omega) (by omega) (by omega) (by omega) (by omega)], by rw [h.1 10 (by omega) (by omega) (by omega) (by omega) (by omega) (by omega)], h.2 5 (by decide) (by decide)⟩
theorem R_mf_fr {m m' : tg_Mem} (h : tm_fr m m') : R_mf m m' := ⟨fun c hc => h.1 c (by omega) (by omega) (by omega) (by omega) (by omega), h.2 4 (by decide) (by decide) (by decide)⟩
theorem R_day {d : Int} {x m : tg_Mem} (hd : d = 0 ∨ d = 1) (h : R_all x m) : (0 ≤ x (R_k d + 1) 1 ∧ x (R_k d + 1) 1 ≤ 40) ∧ m 6 (1 + d).toNat = x (R_k d + 1) 1 ∧ (∀ i : Int, 0 ≤ i → i < x (R_k d + 1) 1 → m 5 (40 + 40 * d + i).toNat = x (R_k d + 2) i.toNat ∧ 0 ≤ x (R_k d + 2) i.toNat ∧ x (R_k d + 2) i.toNat ≤ 255) ∧ m 8 d.toNat = x (R_k d) 5 ∧ 0 ≤ x (R_k d) 5 ∧ x (R_k d) 5 ≤ 7 := by
  obtain ⟨q0, q1, q2, q3, q4, q5, q6, q7, q8⟩ := h
  rcases hd with rfl | rfl
  · exact ⟨q2.1, q2.2.1, fun i a b => q2.2.2 i a b, q4.1⟩
  · exact ⟨q3.1, q3.2.1, fun i a b => q3.2.2 i a b, q4.2.1⟩
/-- how far, and how, a day comes by at most 'most' steps -/
def R_rn (P : Int) (A B Y : Int → Int) (ρ h0 h1 : Int) (w : Int → Int) (x : tg_Mem) (d most : Int) : Int × tr_D :=
  tr_run P A B Y ρ h0 h1 w (fun i => tr_code (x (R_k d + 2) i.toNat)) (if most < x (R_k d + 1) 1 then most else x (R_k d + 1) 1).toNat 0 ((x (R_k d) 5, x (R_k d) 5, []), (0, 0), (0, 0), 0)
section TRW
variable {P : Int} {A B Y : Int → Int} {ρ h0 h1 : Int} {w : Int → Int} {x m : tg_Mem} {d most : Int}
theorem R_walk (hd : d = 0 ∨ d = 1) (h : R_all x m) (hm : 0 ≤ most) (hcf : tr_cf P A B Y ρ w) (hx : tc_cf x P A B Y ρ h0 h1 w) :
    ∃ x', f_X0_walk (R_k d) most x = some (0, x') ∧ tc_dy Y (R_k d) x' (R_rn P A B Y ρ h0 h1 w x d most).2 ∧ x' (R_k d) 7 = (R_rn P A B Y ρ h0 h1 w x d most).1 ∧ R_xf x x' ∧ tc_fr (R_k d) x x' := by
  obtain ⟨d1, d2, d3, d4, d5⟩ := R_day hd h
  obtain ⟨x', e1, e2, e3, e4⟩ := c_walk (most := most) (c := fun i => tr_code (x (R_k d + 2) i.toNat)) (R_kb hd).1 hcf (fun k => tr_code_b) d1 hm hx rfl d5 rfl (fun i a b => ⟨by have := d3 i a b; omega, rfl⟩)
  exact ⟨x', e1, e2, e3, R_xf_fr hd e4, e4⟩
theorem R_runs (hd : d = 0 ∨ d = 1) (h : R_all x m) (hm : 0 ≤ most) (hcf : tr_cf P A B Y ρ w) (hx : tm_cf m P A B Y ρ h0 h1 w) :
    ∃ m', f_X8_runs d most m = some ((R_rn P A B Y ρ h0 h1 w x d most).1, m') ∧ tm_dy Y m' (R_rn P A B Y ρ h0 h1 w x d most).2 ∧ R_mf m m' ∧ tm_fr m m' := by
  obtain ⟨d1, d2, d3, d4, d5⟩ := R_day hd h
  obtain ⟨m', e1, e2, e3⟩ := r_runs (most := most) (c := fun i => tr_code (x (R_k d + 2) i.toNat)) hd hcf d1 hm hx d4 d5 d2 (fun i a b => by have := d3 i a b; rw [this.1]; exact ⟨this.2, rfl⟩)
  exact ⟨m', e1, e2, R_mf_fr e3, e3⟩
theorem R_rn_I (hd : d = 0 ∨ d = 1) (h : R_all x m) (hm : 0 ≤ most) (hcf : tr_cf P A B Y ρ w) : 0 ≤ (R_rn P A B Y ρ h0 h1 w x d most).1 ∧ (R_rn P A B Y ρ h0 h1 w x d most).1 ≤ most ∧ (R_rn P A B Y ρ h0 h1 w x d most).1 ≤ x (R_k d + 1) 1 ∧ tr_DI P A B Y ρ (R_rn P A B Y ρ h0 h1 w x d most).1 (R_rn P A B Y ρ h0 h1 w x d most).2 := by
  obtain ⟨d1, d2, d3, d4, d5⟩ := R_day hd h
  have hD0 : tr_DI P A B Y ρ 0 ((x (R_k d) 5, x (R_k d) 5, []), (0, 0), (0, 0), 0) := ⟨⟨d5, trivial, rfl, trivial⟩, by show (0 : Int) ≤ ρ; have := hcf.2.1; omega, by dsimp only; omega, by dsimp only; omega, by dsimp only; omega, by dsimp only; omega⟩
  obtain ⟨e1, e2, e3⟩ := tr_run_I (h0 := h0) (h1 := h1) (c := fun i => tr_code (x (R_k d + 2) i.toNat)) hcf (fun k => tr_code_b) (if most < x (R_k d + 1) 1 then most else x (R_k d + 1) 1).toNat 0 _ (Int.le_refl 0) hD0
  unfold R_rn
  refine ⟨e1, ?_, ?_, e3⟩
  · by_cases hlt : most < x (R_k d + 1) 1
    · rw [if_pos hlt] at e2 ⊢; omega
    · rw [if_neg hlt] at e2 ⊢; omega
  · by_cases hlt : most < x (R_k d + 1) 1
    · rw [if_pos hlt] at e2 ⊢; omega
    · rw [if_neg hlt] at e2 ⊢; omega
end TRW
