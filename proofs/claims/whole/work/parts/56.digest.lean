-- the digest
def tD (h r : Int) : Int := tg_wl (tg_wl (31 * h) + r)
theorem d_count {Jx Jm : Int → tg_Mem → tg_R} (hJ : ∀ v x m, R_all x m → R_oo (Jx v x) (Jm v m)) : ∀ (N : Nat) (k v : Int) (x m : tg_Mem) (F : Nat), N < F → k + N = 8 → 0 ≤ k → R_all x m → R_oo (tg_fx (f_X7_digest_B6 Jx) (fun _ _ _ => none) F v k x) (tg_fx (f_X8_digest_B6 Jm) (fun _ _ _ => none) F v k m) := by
  intro N
  induction N with
  | zero =>
    intro k v x m F hF hk h0 h
    obtain ⟨F, rfl⟩ : ∃ n', F = n' + 1 := ⟨F - 1, by omega⟩
    rw [tg_fx_s, tg_fx_s]
    unfold f_X7_digest_B6 f_X8_digest_B6
    rw [if_pos (by omega), if_pos (by omega)]
    exact hJ v x m h
  | succ N ih =>
    intro k v x m F hF hk h0 h
    obtain ⟨F, rfl⟩ : ∃ n', F = n' + 1 := ⟨F - 1, by omega⟩
    rw [tg_fx_s, tg_fx_s]
    have q := fun v' x' m' => ih (k + 1) v' x' m' F (by omega) (by omega) (by omega)
    generalize tg_fx (f_X7_digest_B6 Jx) (fun _ _ _ => none) F = Gx at q ⊢
    generalize tg_fx (f_X8_digest_B6 Jm) (fun _ _ _ => none) F = Gm at q ⊢
    unfold f_X7_digest_B6 f_X8_digest_B6
    rw [if_neg (by omega), if_neg (by omega)]
    refine R_oo_bd (s_count k x m h) (fun r x' m' h' => ?_)
    simp only [tg_lt]
    rw [tg_wi_e (by omega)]
    exact q _ x' m' h'
theorem d_path2 {x m : tg_Mem} {p : Int} {Jx : Int → tg_Mem → tg_R} {Jm : Int → tg_R} (h : R_rd x m) (hp : 0 ≤ p ∧ p < x 1 8) (hJ : ∀ v, R_oo (Jx v x) (Jm v)) : ∀ (N : Nat) (k v : Int) (F : Nat), N < F → k + N = 3 → 0 ≤ k → R_oo (tg_fx (f_X7_digest_B59 p Jx) (fun _ _ _ => none) F v k x) (tg_fx (f_X8_digest_B56 m p Jm) (fun _ _ => none) F v k) := by
  have hP : x 1 8 ≤ 8 := by
    obtain ⟨-, P, A, B, Y, ρ, h0, h1, w, c1, c2, -⟩ := h
    have := c1.1.2.1
    have := c2.1.1
    omega
  intro N
  induction N with
  | zero =>
    intro k v F hF hk h0
    obtain ⟨F, rfl⟩ : ∃ n', F = n' + 1 := ⟨F - 1, by omega⟩
    rw [tg_fx_s, tg_fx_s]
    unfold f_X7_digest_B59 f_X8_digest_B56
    rw [if_pos (by omega), if_pos (by omega)]
    exact hJ v
  | succ N ih =>
    intro k v F hF hk h0
    obtain ⟨F, rfl⟩ : ∃ n', F = n' + 1 := ⟨F - 1, by omega⟩
    rw [tg_fx_s, tg_fx_s]
    have q := fun v' => ih (k + 1) v' F (by omega) (by omega) (by omega)
    generalize tg_fx (f_X7_digest_B59 p Jx) (fun _ _ _ => none) F = Gx at q ⊢
    generalize tg_fx (f_X8_digest_B56 m p Jm) (fun _ _ => none) F = Gm at q ⊢
    unfold f_X7_digest_B59 f_X8_digest_B56
    simp only [tg_lt]
    rw [if_neg (by omega), if_neg (by omega), q_path h hp (by omega), tg_bd_some, tg_wi_e (a := 3 * p) (by omega), tg_wi_e (a := 3 * p + k) (by omega), tg_ck_pos (by omega), tg_wi_e (a := k + 1) (by omega)]
    exact q _
theorem d_path {x m : tg_Mem} {Jx : Int → tg_Mem → tg_R} {Jm : Int → tg_R} (h : R_rd x m) (hJ : ∀ v, R_oo (Jx v x) (Jm v)) : ∀ (N : Nat) (p v : Int) (F : Nat), N < F → p + N = x 1 8 → 0 ≤ p → R_oo (tg_fx (f_X7_digest_B45 Jx) (fun _ _ _ => none) F v p x) (tg_fx (f_X8_digest_B45 m Jm) (fun _ _ => none) F v p) := by
  have hP : x 1 8 ≤ 8 ∧ m 0 8 = x 1 8 := by
    obtain ⟨-, P, A, B, Y, ρ, h0, h1, w, c1, c2, c4⟩ := h
    have := c1.1.2.1
    have := c2.1.1
    have := c4.1.1
    omega
  intro N
  induction N with
  | zero =>
    intro p v F hF hp h0
    obtain ⟨F, rfl⟩ : ∃ n', F = n' + 1 := ⟨F - 1, by omega⟩
    rw [tg_fx_s, tg_fx_s]
    unfold f_X7_digest_B45 f_X8_digest_B45
    rw [if_pos (by omega), if_pos (by omega)]
    exact hJ v
  | succ N ih =>
    intro p v F hF hp h0
    obtain ⟨F, rfl⟩ : ∃ n', F = n' + 1 := ⟨F - 1, by omega⟩
    rw [tg_fx_s, tg_fx_s]
    have q := fun v' => ih (p + 1) v' F (by omega) (by omega) (by omega)
    generalize tg_fx (f_X7_digest_B45 Jx) (fun _ _ _ => none) F = Gx at q ⊢
    generalize tg_fx (f_X8_digest_B45 m Jm) (fun _ _ => none) F = Gm at q ⊢
    unfold f_X7_digest_B45 f_X8_digest_B45
    rw [if_neg (by omega), if_neg (by omega)]
    simp only [tg_jn, tg_lt]
    refine d_path2 h (by omega) (fun v' => ?_) 3 0 v tg_FU (by have := tg_FUg; omega) (by omega) (by omega)
    rw [tg_wi_e (by omega)]
    exact q v'
section DAY
variable {P : Int} {A B Y : Int → Int} {ρ h0 h1 : Int} {w : Int → Int}
def R_qd (P : Int) (A B Y : Int → Int) (ρ h0 h1 : Int) (w : Int → Int) (d : Int) (D : Int × tr_D) (x m : tg_Mem) : Prop := R_all x m ∧ tr_cf P A B Y ρ w ∧ tc_cf x P A B Y ρ h0 h1 w ∧ tm_cf m P A B Y ρ h0 h1 w ∧ tm_dy Y m D.2 ∧ R_rn P A B Y ρ h0 h1 w x d 40 = D
theorem d_state {d : Int} {D : Int × tr_D} {m : tg_Mem} {Jx Jm : Int → tg_Mem → tg_R} (hd : d = 0 ∨ d = 1) (hJ : ∀ v x, R_qd P A B Y ρ h0 h1 w d D x m → R_oo (Jx v x) (Jm v m)) : ∀ (N : Nat) (k v : Int) (x : tg_Mem) (F : Nat), N < F → k + N = 8 → 0 ≤ k → R_qd P A B Y ρ h0 h1 w d D x m → R_oo (tg_fx (f_X7_digest_B125 d D.1 Jx) (fun _ _ _ => none) F v k x) (tg_fx (f_X8_digest_B122 Jm) (fun _ _ _ => none) F v k m) := by
  intro N
  induction N with
  | zero =>
    intro k v x F hF hk h0 h
    obtain ⟨F, rfl⟩ : ∃ n', F = n' + 1 := ⟨F - 1, by omega⟩
    rw [tg_fx_s, tg_fx_s]
    unfold f_X7_digest_B125 f_X8_digest_B122
    rw [if_pos (by omega), if_pos (by omega)]
    exact hJ v x h
  | succ N ih =>
    intro k v x F hF hk hk0 h
    obtain ⟨F, rfl⟩ : ∃ n', F = n' + 1 := ⟨F - 1, by omega⟩
    rw [tg_fx_s, tg_fx_s]
    have q := fun v' x' => ih (k + 1) v' x' F (by omega) (by omega) (by omega)
    generalize tg_fx (f_X7_digest_B125 d D.1 Jx) (fun _ _ _ => none) F = Gx at q ⊢
    generalize tg_fx (f_X8_digest_B122 Jm) (fun _ _ _ => none) F = Gm at q ⊢
    unfold f_X7_digest_B125 f_X8_digest_B122
    rw [if_neg (by omega), if_neg (by omega)]
    obtain ⟨h', c1, c2, c4, c5, c6⟩ := h
    obtain ⟨r, x', e1, e2, e3⟩ := q_state (v := k) (h0 := h0) (h1 := h1) (ρ := ρ) (w := w) hd h' c1 c2 (by rw [c6]; exact c5) (by omega)
    rw [c6] at e1
    rw [e1, e2, tg_bd_some, tg_bd_some]
    simp only [tg_lt]
    rw [tg_wi_e (by omega)]
    exact q _ x' ⟨R_all_of h' e3 (R_mf_rf _), c1, tc_cf_xf c2 e3, c4, c5, by rw [R_rn_xf hd e3]; exact c6⟩
end DAY
theorem d_days {Jx Jm : Int → tg_Mem → tg_R} (hJ : ∀ v x m, R_rd x m → R_oo (Jx v x) (Jm v m)) : ∀ (N : Nat) (d v : Int) (x m : tg_Mem) (F : Nat), N < F → d + N = 2 → 0 ≤ d → R_rd x m → R_oo (tg_fx (f_X7_digest_B94 Jx) (fun _ _ _ => none) F v d x) (tg_fx (f_X8_digest_B95 Jm) (fun _ _ _ => none) F v d m) := by
  intro N
  induction N with
  | zero =>
    intro d v x m F hF hk hd0 h
    obtain ⟨F, rfl⟩ : ∃ n', F = n' + 1 := ⟨F - 1, by omega⟩
    rw [tg_fx_s, tg_fx_s]
    unfold f_X7_digest_B94 f_X8_digest_B95
    rw [if_pos (by omega), if_pos (by omega)]
    exact hJ v x m h
  | succ N ih =>
    intro d v x m F hF hk hd0 h
    obtain ⟨F, rfl⟩ : ∃ n', F = n' + 1 := ⟨F - 1, by omega⟩
    rw [tg_fx_s, tg_fx_s]
    have q := fun v' x' m' => ih (d + 1) v' x' m' F (by omega) (by omega) (by omega)
    generalize tg_fx (f_X7_digest_B94 Jx) (fun _ _ _ => none) F = Gx at q ⊢
    generalize tg_fx (f_X8_digest_B95 Jm) (fun _ _ _ => none) F = Gm at q ⊢
    have hd : d = 0 ∨ d = 1 := by omega
    unfold f_X7_digest_B94 f_X8_digest_B95
    rw [if_neg (by omega), if_neg (by omega)]
    obtain ⟨h', P, A, B, Y, ρ, h0, h1, w, c1, c2, c4⟩ := h
    obtain ⟨x1, a1, a2, a3, a4, a5⟩ := R_walk (h0 := h0) (h1 := h1) (most := 40) hd h' (by omega) c1 c2
    have h1' : R_all x1 m := R_all_of h' a4 (R_mf_rf _)
    have k1 := tc_cf_xf c2 a4
    have e0 : f_X7_ended d x = some (((R_k d : Nat) : Int), x1) := by
      simp only [f_X7_ended]
      rw [R_dayOf hd, tg_bd_some, Int.toNat_natCast, a1, tg_bd_some]
    obtain ⟨r, x2, m2, b1, b2, b3, b4, b5⟩ := q_judged hd x1 m P A B Y ρ h0 h1 w h1' c1 k1 c4
    have h2' : R_all x2 m2 := R_all_of h1' b3 b4
    have k2 := tc_cf_xf k1 b3
    obtain ⟨m3, g1, g2, g3, g4⟩ := R_runs (h0 := h0) (h1 := h1) (most := 40) hd h2' (by omega) c1 b5
    have edone : f_X8_done d m2 = some ((R_rn P A B Y ρ h0 h1 w x2 d 40).1, m3) := by
      simp only [f_X8_done]
      rw [g1]; rfl
    have e7 : x1 (R_k d) 7 = (R_rn P A B Y ρ h0 h1 w x2 d 40).1 := by
      rw [R_rn_xf hd b3, R_rn_xf hd a4]; exact a3
    have hq : R_qd P A B Y ρ h0 h1 w d (R_rn P A B Y ρ h0 h1 w x2 d 40) x2 m3 := ⟨R_all_of h2' (R_xf_rf _) g3, c1, k2, tm_cf_fr b5 g4, g2, rfl⟩
    rw [e0, tg_bd_some, Int.toNat_natCast]
    simp only [tg_lt]
    rw [e7, b1, b2, tg_bd_some, tg_bd_some, edone, tg_bd_some]
    obtain ⟨D, hD⟩ : ∃ D, D = R_rn P A B Y ρ h0 h1 w x2 d 40 := ⟨_, rfl⟩
    rw [← hD] at hq ⊢
    show R_oo (tg_fx (f_X7_digest_B125 d D.1 _) (fun _ _ _ => none) tg_FU _ 0 x2) (tg_fx (f_X8_digest_B122 _) (fun _ _ _ => none) tg_FU _ 0 m3)
    refine d_state hd (fun v1 x3 hq3 => ?_) 8 0 _ x2 tg_FU (by have := tg_FUg; omega) (by omega) (by omega) hq
    obtain ⟨z1, z2, z3, z4, z5, z6⟩ := hq3
    obtain ⟨x4, r1, r2⟩ := q_rope (ρ := ρ) (h0 := h0) (h1 := h1) (w := w) hd z1 z2 z3 (by rw [z6]; exact z5)
    rw [z6] at r1
    have hrd : R_rd x4 m3 := ⟨R_all_of z1 r2 (R_mf_rf _), P, A, B, Y, ρ, h0, h1, w, z2, tc_cf_xf z3 r2, z4⟩
    by_cases c : m3 0 15 ≤ 0
    · rw [if_pos c] at r1
      simp only [if_pos c, tg_jn]
      rw [r1, tg_bd_some]
      refine R_oo_bd (R_rd_sq (q_needs hd) hrd) (fun r5 x5 m5 hrd5 => ?_)
      refine R_oo_bd (R_rd_sq (q_soon hd (by decide) (by decide)) hrd5) (fun r6 x6 m6 hrd6 => ?_)
      refine R_oo_bd (R_rd_sq (q_soon hd (by decide) (by decide)) hrd6) (fun r7 x7 m7 hrd7 => ?_)
      refine R_oo_bd (R_rd_sq (q_loose hd) hrd7) (fun r8 x8 m8 hrd8 => ?_)
      refine R_oo_bd (R_rd_sq (q_began hd (by decide)) hrd8) (fun r9 x9 m9 hrd9 => ?_)
      refine R_oo_bd (R_rd_sq (q_began hd (by decide)) hrd9) (fun r10 x10 m10 hrd10 => ?_)
      refine R_oo_bd (R_rd_sq (q_game hd (by decide) (Or.inl rfl)) hrd10) (fun r11 x11 m11 hrd11 => ?_)
      refine R_oo_bd (R_rd_sq (q_game hd (by decide) (Or.inr rfl)) hrd11) (fun r12 x12 m12 hrd12 => ?_)
      rw [tg_wi_e (by omega)]
      exact q _ _ _ hrd12
    · rw [if_neg c] at r1
      simp only [if_neg c, tg_jn]
      rw [tg_ck_pos (by decide)]
      rw [r1, tg_bd_some]
      refine R_oo_bd (R_rd_sq (q_needs hd) hrd) (fun r5 x5 m5 hrd5 => ?_)
      refine R_oo_bd (R_rd_sq (q_soon hd (by decide) (by decide)) hrd5) (fun r6 x6 m6 hrd6 => ?_)
      refine R_oo_bd (R_rd_sq (q_soon hd (by decide) (by decide)) hrd6) (fun r7 x7 m7 hrd7 => ?_)
      refine R_oo_bd (R_rd_sq (q_loose hd) hrd7) (fun r8 x8 m8 hrd8 => ?_)
      refine R_oo_bd (R_rd_sq (q_began hd (by decide)) hrd8) (fun r9 x9 m9 hrd9 => ?_)
      refine R_oo_bd (R_rd_sq (q_began hd (by decide)) hrd9) (fun r10 x10 m10 hrd10 => ?_)
      refine R_oo_bd (R_rd_sq (q_game hd (by decide) (Or.inl rfl)) hrd10) (fun r11 x11 m11 hrd11 => ?_)
      refine R_oo_bd (R_rd_sq (q_game hd (by decide) (Or.inr rfl)) hrd11) (fun r12 x12 m12 hrd12 => ?_)
      rw [tg_wi_e (by omega)]
      exact q _ _ _ hrd12
theorem s_digest : R_st f_X7_digest f_X8_digest := by
  intro x m h
  show R_oo (f_X7_digest x) (f_X8_digest m)
  unfold f_X7_digest f_X8_digest
  have hF := tg_FUg
  simp only [tg_lt]
  refine d_count (fun v x m h => ?_) 8 0 17 x m tg_FU (by omega) (by omega) (by omega) h
  obtain ⟨m1, e1, e2⟩ := q_reads h
  have e3 : f_X7_fault x = some (x 1 9, x) := rfl
  rw [e1, e3, tg_bd_some, tg_bd_some]
  have hP : 0 ≤ x 1 8 ∧ x 1 8 ≤ 8 := by
    obtain ⟨-, P, A, B, Y, ρ, h0, h1, w, c1, c2, -⟩ := e2
    have := c1.1.1
    have := c1.1.2.1
    have := c2.1.1
    omega
  refine d_path e2 (fun v => ?_) (x 1 8).toNat 0 _ tg_FU (by omega) (by omega) (by omega)
  refine d_days (fun v x m h => ?_) 2 0 v x m1 tg_FU (by omega) (by omega) (by omega) e2
  refine R_oo_bd (q_pulled 0 0 1 0 h.1) (fun r2 x2 m2 h2 => ?_)
  refine R_oo_bd (q_pulled 0 0 1 1 h2.1) (fun r3 x3 m3 h3 => ?_)
  obtain ⟨r, x', m', g1, g2, g3⟩ := R_rd_sq q_alike h3
  rw [g1, g2, tg_bd_some, tg_bd_some]
  exact ⟨_, x', m', rfl, rfl, g3.1⟩
