-- parts of the reference's calls, for a memory that has read the meadow already
def R_sq (fx fm : tg_Mem → tg_R) : Prop := ∀ (x m : tg_Mem) (P : Int) (A B Y : Int → Int) (ρ h0 h1 : Int) (w : Int → Int), R_all x m → tr_cf P A B Y ρ w → tc_cf x P A B Y ρ h0 h1 w → tm_cf m P A B Y ρ h0 h1 w →
  ∃ r x' m', fx x = some (r, x') ∧ fm m = some (r, m') ∧ R_xf x x' ∧ R_mf m m' ∧ tm_cf m' P A B Y ρ h0 h1 w
theorem tc_cf_xf {x x' : tg_Mem} {P : Int} {A B Y : Int → Int} {ρ h0 h1 : Int} {w : Int → Int} (h : tc_cf x P A B Y ρ h0 h1 w) (hf : R_xf x x') : tc_cf x' P A B Y ρ h0 h1 w :=
  tc_cf_of h hf.2.2.2.1 hf.2.2.1 (hf.1 4 (by omega)) (hf.1 5 (by omega)) (hf.1 7 (by omega)) (hf.1 8 (by omega)) (hf.1 9 (by omega))
theorem tr_run_at {P : Int} {A B Y : Int → Int} {ρ h0 h1 : Int} {w c : Int → Int} : ∀ (n : Nat) (k : Int) (D : tr_D), tr_run P A B Y ρ h0 h1 w c ((tr_run P A B Y ρ h0 h1 w c n k D).1 - k).toNat k D = tr_run P A B Y ρ h0 h1 w c n k D
  | 0, k, D => by
    have e : ((tr_run P A B Y ρ h0 h1 w c 0 k D).1 - k).toNat = 0 := by show (k - k).toNat = 0; omega
    rw [e]
  | n + 1, k, D => by
    cases hs : tr_step P A B Y ρ h0 h1 w (c k) D with
    | none =>
      have e1 : tr_run P A B Y ρ h0 h1 w c (n + 1) k D = (k, D) := by unfold tr_run; rw [hs]
      rw [e1, show ((k, D).1 - k).toNat = 0 by show (k - k).toNat = 0; omega]; rfl
    | some D' =>
      have e1 : ∀ t, tr_run P A B Y ρ h0 h1 w c (t + 1) k D = tr_run P A B Y ρ h0 h1 w c t (k + 1) D' := by intro t; show (match tr_step P A B Y ρ h0 h1 w (c k) D with | none => (k, D) | some D' => tr_run P A B Y ρ h0 h1 w c t (k + 1) D') = _; rw [hs]
      have hh := (tr_run_add (P := P) (A := A) (B := B) (Y := Y) (ρ := ρ) (h0 := h0) (h1 := h1) (w := w) (c := c) 0 n (k + 1) D').2.2
      rw [e1 n, show ((tr_run P A B Y ρ h0 h1 w c n (k + 1) D').1 - k).toNat = ((tr_run P A B Y ρ h0 h1 w c n (k + 1) D').1 - (k + 1)).toNat + 1 by omega, e1, tr_run_at n (k + 1) D']
section QQ
variable {d : Int}
theorem R_rn_done {P : Int} {A B Y : Int → Int} {ρ h0 h1 : Int} {w : Int → Int} {x m : tg_Mem} (hd : d = 0 ∨ d = 1) (h : R_all x m) (hcf : tr_cf P A B Y ρ w) : R_rn P A B Y ρ h0 h1 w x d (R_rn P A B Y ρ h0 h1 w x d 40).1 = R_rn P A B Y ρ h0 h1 w x d 40 := by
  obtain ⟨j1, j2, j3, -⟩ := R_rn_I (h0 := h0) (h1 := h1) (most := 40) hd h (by omega) hcf
  have e := tr_run_at (P := P) (A := A) (B := B) (Y := Y) (ρ := ρ) (h0 := h0) (h1 := h1) (w := w) (c := fun i => tr_code (x (R_k d + 2) i.toNat)) (if (40 : Int) < x (R_k d + 1) 1 then (40 : Int) else x (R_k d + 1) 1).toNat 0 ((x (R_k d) 5, x (R_k d) 5, []), (0, 0), (0, 0), 0)
  obtain ⟨a, ha⟩ : ∃ a, a = (R_rn P A B Y ρ h0 h1 w x d 40).1 := ⟨_, rfl⟩
  rw [← ha] at j1 j2 j3 ⊢
  have ea : (if a < x (R_k d + 1) 1 then a else x (R_k d + 1) 1) = a := by split <;> omega
  show tr_run P A B Y ρ h0 h1 w (fun i => tr_code (x (R_k d + 2) i.toNat)) (if a < x (R_k d + 1) 1 then a else x (R_k d + 1) 1).toNat 0 ((x (R_k d) 5, x (R_k d) 5, []), (0, 0), (0, 0), 0) = R_rn P A B Y ρ h0 h1 w x d 40
  rw [ea]
  refine Eq.trans ?_ e
  rw [Int.sub_zero, ha]; rfl
theorem R_rn_xf {P : Int} {A B Y : Int → Int} {ρ h0 h1 : Int} {w : Int → Int} {x x' : tg_Mem} {a : Int} (hd : d = 0 ∨ d = 1) (h : R_xf x x') : R_rn P A B Y ρ h0 h1 w x' d a = R_rn P A B Y ρ h0 h1 w x d a := by
  unfold R_rn
  rcases hd with rfl | rfl
  · have e1 : x' (R_k 0 + 1) = x (R_k 0 + 1) := h.1 11 (by omega)
    have e2 : x' (R_k 0 + 2) = x (R_k 0 + 2) := h.1 12 (by omega)
    have e3 : x' (R_k 0) 5 = x (R_k 0) 5 := h.2.2.2.2.2.1
    rw [e1, e2, e3]
  · have e1 : x' (R_k 1 + 1) = x (R_k 1 + 1) := h.1 19 (by omega)
    have e2 : x' (R_k 1 + 2) = x (R_k 1 + 2) := h.1 20 (by omega)
    have e3 : x' (R_k 1) 5 = x (R_k 1) 5 := h.2.2.2.2.2.2
    rw [e1, e2, e3]

theorem q_judged (hd : d = 0 ∨ d = 1) : R_sq (f_X7_judged d) (f_X8_judgedOf d) := by
  intro x m1 P A B Y ρ h0 h1 w h' c1 c2 c4
  obtain ⟨x', e1, -, e3, e4, e5⟩ := R_walk (h0 := h0) (h1 := h1) (most := 40) hd h' (by omega) c1 c2
  obtain ⟨m', g1, g2, g3⟩ := r_done hd h' (R_mf_rf _) c1 c4
  obtain ⟨d1, d2, -⟩ := R_day hd h'
  have hkb := R_kb hd
  have z1 : x' (R_k d + 1) 1 = x (R_k d + 1) 1 := by rw [e5.1 _ (by omega) (by omega) (by omega) (by omega) (by omega) (by omega)]
  have z6 : m' 6 = m1 6 := g2.1 6 (by omega)
  refine ⟨if x (R_k d + 1) 1 ≤ (R_rn P A B Y ρ h0 h1 w x d 40).1 then -1 else (R_rn P A B Y ρ h0 h1 w x d 40).1, x', m', ?_, ?_, e4, g2, tm_cf_fr c4 g3⟩
  · simp only [f_X7_judged, f_X7_ended]
    rw [b_isBelowT (by omega), tg_bd_some, if_pos (by decide), R_dayOf hd, tg_bd_some, Int.toNat_natCast, e1, tg_bd_some, tg_bd_some, Int.toNat_natCast, z1, e3]
    split <;> rfl
  · simp only [f_X8_judgedOf]
    rw [g1, tg_bd_some, tg_wi_e (by omega), tg_ck_pos (by omega), z6, d2]
    split <;> rfl
theorem q_needs (hd : d = 0 ∨ d = 1) : R_sq (f_X7_needs d) (f_X8_needsOf d) := by
  intro x m1 P A B Y ρ h0 h1 w h' c1 c2 c4
  obtain ⟨d1, d2, d3, d4, d5⟩ := R_day hd h'
  have hkb := R_kb hd
  have hFU := tg_FUg
  have hI0 : tr_I P A B (x (R_k d) 5, x (R_k d) 5, []) := ⟨d5, trivial, rfl, trivial⟩
  obtain ⟨x1, a1, a2, a3⟩ := c_standBoth (Y := Y) (k := R_k d + 3) (x := x) (a := x (R_k d) 5)
  have z1 : x1 (R_k d + 1) = x (R_k d + 1) := a3 _ (by omega) (by omega)
  have z2 : x1 (R_k d + 2) = x (R_k d + 2) := a3 _ (by omega) (by omega)
  obtain ⟨x', a4, a5⟩ := c_needl (P := P) (A := A) (B := B) (Y := Y) (k := R_k d) (c := fun i => tr_code (x (R_k d + 2) i.toNat)) (n0 := x (R_k d + 1) 1) (j60 := fun (v1_60 : Int) (m_60 : tg_Mem) => some (v1_60, m_60)) (fun v q => rfl) hkb.1 c1.1 (fun k => tr_code_b) d1 (x (R_k d + 1) 1).toNat 0 0 _ x1 tg_FU (by omega) (by omega) (by omega) (tc_md_of c2.1 (by rw [a3 1 (by omega) (by omega)]) (a3 7 (by omega) (by omega)) (a3 8 (by omega) (by omega)) (a3 9 (by omega) (by omega))) a2 hI0 (by simp) (by rw [z1]) (by rw [z2]; exact fun i q1 q2 => ⟨by have := d3 i q1 q2; omega, rfl⟩)
  obtain ⟨m2, b1, b2, b3, b4, b5, b6, b7, b8, b9⟩ := r_begins (Y := Y) (m := m1) hd
  rw [d4] at b2
  have f2 : tm_fr m1 m2 := ⟨fun c a b _ d e => b8 c a b d e, b9⟩
  have y1 : m2 6 = m1 6 := b8 6 (by decide) (by decide) (by decide) (by decide)
  have y2 : m2 5 = m1 5 := b8 5 (by decide) (by decide) (by decide) (by decide)
  obtain ⟨m', g1, g2⟩ := r_needl (P := P) (A := A) (B := B) (Y := Y) (c := fun i => tr_code (x (R_k d + 2) i.toNat)) (n0 := x (R_k d + 1) 1) hd c1.1 (fun k => tr_code_b) d1 (x (R_k d + 1) 1).toNat 0 0 _ m2 tg_FU (by omega) (by omega) (by omega) (tm_cf_fr c4 f2).1 b2 hI0 (by simp) (by rw [y1]; exact d2) (by rw [y2]; exact fun i q1 q2 => by have := d3 i q1 q2; rw [this.1]; exact ⟨this.2, rfl⟩)
  have fx : tc_fr (R_k d) x x' := ⟨fun c c1 c2 c3 c4 _ _ => by rw [a5 c c2 c3 c4, a3 c c2 (by omega)], fun j _ _ => by rw [a5 _ (by omega) (by omega) (by omega), a3 _ (by omega) (by omega)]⟩
  refine ⟨tn_run P A B Y (fun i => tr_code (x (R_k d + 2) i.toNat)) (x (R_k d + 1) 1).toNat 0 (x (R_k d) 5, x (R_k d) 5, []) 0, x', m', ?_, ?_, R_xf_fr hd fx, R_mf_fr (tm_fr_tr f2 g2), tm_cf_fr c4 (tm_fr_tr f2 g2)⟩
  · simp only [f_X7_needs, f_X0_longestUnbound, tg_jn]
    rw [b_isBelowT (by omega), tg_bd_some, if_neg (by decide), R_dayOf hd, tg_bd_some, Int.toNat_natCast, a1, tg_bd_some, a4, tg_bd_some]
  · simp only [f_X8_needsOf]
    rw [b1, tg_bd_some, g1]
theorem q_loose (hd : d = 0 ∨ d = 1) : R_sq (f_X7_loose d) (f_X8_looseOf d) := by
  intro x m1 P A B Y ρ h0 h1 w h' c1 c2 c4
  obtain ⟨x', e1, e2, e3, e4, e5⟩ := R_walk (h0 := h0) (h1 := h1) (most := 40) hd h' (by omega) c1 c2
  obtain ⟨m', g1, g2, g3, g4⟩ := R_runs (h0 := h0) (h1 := h1) (most := 40) hd h' (by omega) c1 c4
  refine ⟨x' (R_k d + 3) 4, x', m', ?_, ?_, e4, g3, tm_cf_fr c4 g4⟩
  · simp only [f_X7_loose, f_X7_ended]
    rw [b_isBelowT (by omega), tg_bd_some, if_neg (by decide), R_dayOf hd, tg_bd_some, Int.toNat_natCast, e1, tg_bd_some, tg_bd_some, Int.toNat_natCast]
  · simp only [f_X8_looseOf, f_X8_done]
    rw [g1, tg_bd_some, tg_bd_some, g2.1.2.2.1, ← e2.1.2.2.1]
theorem q_alike : R_sq f_X7_alike f_X8_alikeNow := by
  intro x m1 P A B Y ρ h0 h1 w h' c1 c2 c4
  obtain ⟨x1, e1, e2, e3, e4, e5⟩ := R_walk (d := 0) (h0 := h0) (h1 := h1) (most := 40) (Or.inl rfl) h' (by omega) c1 c2
  obtain ⟨m2, g1, g2, g3, g4⟩ := R_runs (d := 0) (h0 := h0) (h1 := h1) (most := 40) (Or.inl rfl) h' (by omega) c1 c4
  have hR1 : R_all x1 m2 := R_all_of h' e4 g3
  have k1 : tc_cf x1 P A B Y ρ h0 h1 w := tc_cf_fr (by decide) c2 e5
  have k2 : tm_cf m2 P A B Y ρ h0 h1 w := tm_cf_fr c4 g4
  obtain ⟨x2, a1, a2, a3, a4, a5⟩ := R_walk (d := 1) (h0 := h0) (h1 := h1) (most := 40) (Or.inr rfl) hR1 (by omega) c1 k1
  obtain ⟨m3, b1, b2, b3, b4⟩ := R_runs (d := 1) (h0 := h0) (h1 := h1) (most := 40) (Or.inr rfl) hR1 (by omega) c1 k2
  obtain ⟨-, -, -, i1, i2, -⟩ := R_rn_I (d := 0) (h0 := h0) (h1 := h1) (most := 40) (Or.inl rfl) h' (by omega) c1
  obtain ⟨-, -, -, j1, j2, -⟩ := R_rn_I (d := 1) (h0 := h0) (h1 := h1) (most := 40) (Or.inr rfl) hR1 (by omega) c1
  obtain ⟨S, hS⟩ : ∃ S, S = (R_rn P A B Y ρ h0 h1 w x 0 40).2.1 := ⟨_, rfl⟩
  obtain ⟨T, hT⟩ : ∃ T, T = (R_rn P A B Y ρ h0 h1 w x1 1 40).2.1 := ⟨_, rfl⟩
  have r1 : tc_rp Y 13 x2 S := by
    rw [hS]
    have := e2.1
    exact tc_rp_of this (a5.1 13 (by decide) (by decide) (by decide) (by decide) (by decide) (by decide)) (a5.1 14 (by decide) (by decide) (by decide) (by decide) (by decide) (by decide)) (a5.1 15 (by decide) (by decide) (by decide) (by decide) (by decide) (by decide))
  have r2 : tc_rp Y 21 x2 T := by rw [hT]; exact a2.1
  have r3 : tm_rp Y m2 S := by rw [hS]; exact g2.1
  have r4 : tm_rp Y m3 T := by rw [hT]; exact b2.1
  rw [← hS] at i1 i2
  rw [← hT] at j1 j2
  have hρ := c1.2.1
  have lS := (tr_I_b c1.1 i1).2.2.1
  have lT := (tr_I_b c1.1 j1).2.2.1
  have w1 := r_way c1.1 r3 i1 (by omega)
  have w2 := r_way c1.1 r4 j1 (by omega)
  have inj := tk_key_inj c1.1 i1 j1 (by omega) (by omega)
  refine ⟨if S = T then 1 else if S.1 = T.1 ∧ S.2.1 = T.2.1 then 2 else 0, x2, m3, ?_, ?_, R_xf_tr e4 a4, R_mf_tr g3 b3, tm_cf_fr k2 b4⟩
  · simp only [f_X7_alike, f_X7_ended]
    rw [R_dayOf (Or.inl rfl), tg_bd_some, Int.toNat_natCast, e1, tg_bd_some, tg_bd_some, R_dayOf (Or.inr rfl), tg_bd_some, Int.toNat_natCast, a1, tg_bd_some, tg_bd_some, Int.toNat_natCast, Int.toNat_natCast]
    show tg_bd (f_X1_standsAs 13 21 x2) _ = _
    rw [c_stands r1 r2, tg_bd_some]
    by_cases hst : S.1 = T.1 ∧ S.2.1 = T.2.1
    · rw [if_pos hst, if_pos (by decide)]
      show tg_bd (f_X1_liesAs 13 21 x2) _ = _
      rw [c_lies r1 r2, tg_bd_some]
      by_cases hl : S.2.2 = T.2.2
      · have : S = T := by
          obtain ⟨s1, s2, s3⟩ := S
          obtain ⟨t1, t2, t3⟩ := T
          dsimp only at hst hl
          rw [hst.1, hst.2, hl]
        rw [if_pos hl, if_neg (by decide), if_pos this]
      · rw [if_neg hl, if_pos rfl, if_neg (fun z => hl (by rw [z])), if_pos hst]
    · rw [if_neg hst, if_neg (by decide), if_neg (fun z => hst ⟨by rw [z], by rw [z]⟩), if_neg hst]
  · simp only [f_X8_alikeNow, f_X8_done, tg_lt, tg_jn]
    rw [g1, tg_bd_some, tg_bd_some, w1, tg_bd_some, tg_ck_pos (by decide), tg_ck_pos (by decide), b1, tg_bd_some, tg_bd_some, w2, tg_bd_some]
    by_cases hST : S = T
    · rw [if_neg (fun z => z (inj.mpr hST)), if_pos hST]
    · rw [if_pos (fun z => hST (inj.mp z)), tg_ck_pos (by decide), if_neg hST, r3.1, r3.2.1, r4.1]
      by_cases h1 : S.1 = T.1
      · rw [if_neg (fun z => z h1), tg_ck_pos (by decide), r4.2.1]
        by_cases h2 : S.2.1 = T.2.1
        · rw [if_neg (fun z => z h2), if_pos ⟨h1, h2⟩]
        · rw [if_pos h2, if_neg (fun z => h2 z.2)]
      · rw [if_pos h1, if_neg (fun z => h1 z.1)]
end QQ
