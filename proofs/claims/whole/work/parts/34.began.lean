-- where two may have begun
section BEG
variable {P : Int} {A B Y : Int → Int} {S : Int × Int × List Int}
def tb_c (s : Int) : Int := if s = -1 then 100000 else s
def tb_fol (f : Int → Int) (A B : Int → Int) : List Int → Int → Int → Int
  | [], _, u => u
  | p :: r, v, u => tb_fol f A B r (tr_oth A B p v) (if u ≤ f (tr_oth A B p v) then u else f (tr_oth A B p v))
theorem c_stepl {f : Int → Int} {k : Nat} {x : tg_Mem} (hm : tr_md P A B Y) (hx : tc_md x P A B Y) (hr : tc_rp Y k x S) (hs : ∀ v, 0 ≤ v → v ≤ 7 → (-1 ≤ x 6 v.toNat ∧ x 6 v.toNat ≤ 8) ∧ f v = tb_c (x 6 v.toNat)) : ∀ (N : Nat) (i u v : Int) (F : Nat), N < F → 0 ≤ i → i + N = S.2.2.length + 1 → 1 ≤ N → (0 ≤ v ∧ v ≤ 7) → tr_ok P A B v (S.2.2.drop i.toNat) → -1 ≤ u → u ≤ 8 →
    ∃ r, tg_fx (f_X1_stepsOff_B20 k) (fun _ _ _ _ => none) F u v i x = some (r, x) ∧ (-1 ≤ r ∧ r ≤ 8) ∧ tb_c r = tb_fol f A B (S.2.2.drop i.toNat) v (if tb_c u ≤ f v then tb_c u else f v) := by
  intro N
  induction N with
  | zero => intro i u v F hF hi hiN h1; omega
  | succ N ih =>
    intro i u v F hF hi hiN h1 hv hok hu hu8
    obtain ⟨F, rfl⟩ : ∃ n', F = n' + 1 := ⟨F - 1, by omega⟩
    have hlen := hr.2.2.2.2.2.1
    obtain ⟨hsv, hfv⟩ := hs v hv.1 hv.2
    obtain ⟨u2, hu2⟩ : ∃ u2 : Int, u2 = if x 6 v.toNat = -1 then u else if u = -1 then x 6 v.toNat else if u ≤ x 6 v.toNat then u else x 6 v.toNat := ⟨_, rfl⟩
    have hu2b : -1 ≤ u2 ∧ u2 ≤ 8 := by rw [hu2]; split <;> (try split) <;> (try split) <;> omega
    have hc2 : tb_c u2 = if tb_c u ≤ f v then tb_c u else f v := by
      rw [hfv, hu2]; unfold tb_c
      by_cases c1 : x 6 v.toNat = -1
      · rw [if_pos c1, if_pos c1]
        by_cases c2 : u = -1
        · rw [if_pos c2, if_pos (by omega)]
        · rw [if_neg c2, if_pos (by omega)]
      · rw [if_neg c1, if_neg c1]
        by_cases c2 : u = -1
        · rw [if_pos c2, if_pos c2, if_neg c1, if_neg (by omega)]
        · rw [if_neg c2, if_neg c2]
          by_cases c3 : u ≤ x 6 v.toNat
          · rw [if_pos c3, if_neg c2]
          · rw [if_neg c3, if_neg c1]
    have e0 : ∀ K : Int → tg_R, (if x 6 v.toNat = -1 then K u else if u = -1 then K (x 6 v.toNat) else if u ≤ x 6 v.toNat then K u else K (x 6 v.toNat)) = K u2 := by
      intro K
      rw [hu2]
      split
      · rfl
      · split
        · rfl
        · split <;> rfl
    by_cases hend : N = 0
    · have e1 : S.2.2.drop i.toNat = [] := List.drop_eq_nil_of_le (by omega)
      obtain ⟨F, rfl⟩ : ∃ n', F = n' + 1 := ⟨F - 1, by omega⟩
      refine ⟨u2, ?_, hu2b, by rw [e1, ← hc2]; rfl⟩
      rw [tg_fx_s]
      have q : tg_fx (f_X1_stepsOff_B20 k) (fun _ _ _ _ => none) (F + 1) u2 v (i + 1) x = some (u2, x) := by
        rw [tg_fx_s]
        unfold f_X1_stepsOff_B20
        rw [hr.2.2.1, if_pos (by omega)]
      generalize tg_fx (f_X1_stepsOff_B20 k) (fun _ _ _ _ => none) (F + 1) = G at q ⊢
      unfold f_X1_stepsOff_B20
      simp only [tg_jn, tg_lt]
      rw [hr.2.2.1, if_neg (by omega), b_isBelowT (by omega), tg_bd_some, if_neg (by decide), tg_ck_pos (by omega), hr.2.2.1, tg_wi_e (a := i + 1) (by omega)]
      simp only [if_pos (show (S.2.2.length : Int) ≤ i by omega)]
      refine (e0 (fun z => G z v (i + 1) x)).trans q
    · obtain ⟨p, p1, p2⟩ := c_pathAt (i := i) hr ⟨hi, by omega⟩
      have e1 := tp_drop hi p1
      rw [e1] at hok
      have hp := hok.1
      obtain ⟨r, q, q2, q3⟩ := ih (i + 1) u2 (tr_oth A B p v) F (by omega) (by omega) (by omega) (by omega) (tr_oth_in hm hp) hok.2 hu2b.1 hu2b.2
      refine ⟨r, ?_, q2, ?_⟩
      · rw [tg_fx_s]
        generalize tg_fx (f_X1_stepsOff_B20 k) (fun _ _ _ _ => none) F = G at q ⊢
        unfold f_X1_stepsOff_B20
        simp only [tg_jn, tg_lt]
        rw [hr.2.2.1, if_neg (by omega), b_isBelowT (by omega), tg_bd_some, if_neg (by decide), tg_ck_pos (by omega), hr.2.2.1, p2, tg_wi_e (a := i + 1) (by omega)]
        simp only [if_neg (show ¬ (S.2.2.length : Int) ≤ i by omega), tg_bd_some, c_across hm hx ⟨hp.1, hp.2.1⟩]
        refine (e0 (fun z => G z (tr_oth A B p v) (i + 1) x)).trans q
      · rw [q3, e1, hc2]; rfl
theorem r_stepl {f : Int → Int} {m : tg_Mem} {j253 : Int → tg_Mem → tg_R} (hm : tr_md P A B Y) (hx : tm_md m P A B Y) (hr : tm_rp Y m S) (hf : ∀ v, 0 ≤ v → v ≤ 7 → m 17 v.toNat = f v) : ∀ (N : Nat) (i u v : Int) (F : Nat), N < F → 0 ≤ i → i + N = S.2.2.length → (0 ≤ v ∧ v ≤ 7) → tr_ok P A B v (S.2.2.drop i.toNat) →
    tg_fx (f_X8_beganOf_B201 j253) (fun _ _ _ _ => none) F v u i m = j253 (tb_fol f A B (S.2.2.drop i.toNat) v u) m := by
  intro N
  induction N with
  | zero =>
    intro i u v F hF hi hiN hv hok
    obtain ⟨F, rfl⟩ : ∃ n', F = n' + 1 := ⟨F - 1, by omega⟩
    have e1 : S.2.2.drop i.toNat = [] := List.drop_eq_nil_of_le (by omega)
    rw [tg_fx_s, e1]
    unfold f_X8_beganOf_B201
    rw [hr.2.2.1, if_pos (by omega)]; rfl
  | succ N ih =>
    intro i u v F hF hi hiN hv hok
    obtain ⟨F, rfl⟩ : ∃ n', F = n' + 1 := ⟨F - 1, by omega⟩
    have hlen := hr.2.2.2.2.1
    have p1 := hr.2.2.2.2.2 i.toNat (by omega)
    have e1 := tp_drop hi p1
    rw [e1] at hok ⊢
    have hp := hok.1
    have hin := tr_oth_in hm hp
    have q := ih (i + 1) (if u ≤ f (tr_oth A B (m 12 i.toNat) v) then u else f (tr_oth A B (m 12 i.toNat) v)) (tr_oth A B (m 12 i.toNat) v) F (by omega) (by omega) (by omega) hin hok.2
    rw [tg_fx_s]
    generalize tg_fx (f_X8_beganOf_B201 j253) (fun _ _ _ _ => none) F = G at q ⊢
    unfold f_X8_beganOf_B201
    simp only [tg_jn, tg_lt]
    rw [hr.2.2.1, if_neg (by omega), tg_ck_pos (by omega), r_other hm hx hp hv, tg_bd_some, tg_ck_pos (by omega), tg_ck_pos (by omega), hf _ hin.1 hin.2, tg_wi_e (by omega)]
    unfold tb_fol
    rw [← q]
    split <;> rfl
end BEG
theorem s_began (d a : Int) : R_st (f_X7_began d a) (f_X8_began d a) := by
  intro x m h
  obtain ⟨P, A, B, Y, ρ, h0, h1, w, m1, c1, c2, c3, c4, c5⟩ := R_cf h
  have h' : R_all x m1 := R_all_of h (R_xf_rf _) c5
  by_cases hd : d = 0 ∨ d = 1
  · by_cases ha : 0 ≤ a ∧ a < 8
    · have hkb := R_kb hd
      have hk : R_k d + 3 = 13 ∨ R_k d + 3 = 21 := by unfold R_k; split <;> omega
      -- the class
      obtain ⟨x1, e1, e2, e3, e4, e5⟩ := R_walk (h0 := h0) (h1 := h1) (most := 40) hd h' (by omega) c1 c2
      obtain ⟨-, -, -, i1, i2, -⟩ := R_rn_I (h0 := h0) (h1 := h1) (most := 40) hd h' (by omega) c1
      obtain ⟨S, hS⟩ : ∃ S, S = (R_rn P A B Y ρ h0 h1 w x d 40).2.1 := ⟨_, rfl⟩
      have r1 : tc_rp Y (R_k d + 3) x1 S := by rw [hS]; exact e2.1
      rw [← hS] at i1 i2
      have hρ := c1.2.1
      have lS := (tr_I_b c1.1 i1).2.2.1
      have k1 : tc_cf x1 P A B Y ρ h0 h1 w := tc_cf_fr hkb.1 c2 e5
      obtain ⟨x2, a1, a2, a3⟩ := c_measure c1.1 k1.1 (a := a) (by omega)
      have r2 : tc_rp Y (R_k d + 3) x2 S := tc_rp_of r1 (a3 _ (by omega)) (a3 _ (by omega)) (a3 _ (by omega))
      have k2 : tc_md x2 P A B Y := tc_md_of k1.1 (by rw [a3 1 (by decide)]) (a3 7 (by decide)) (a3 8 (by decide)) (a3 9 (by decide))
      -- the reference
      have hFU := tg_FUg
      obtain ⟨j31, hj31⟩ : ∃ j31 : tg_Mem → tg_R, j31 = (fun (m_31 : tg_Mem) => tg_jn (fun (m_177 : tg_Mem) => tg_bd (f_X8_done d m_177) (fun _ m179 => tg_ck (0 ≤ 0 ∧ 0 < 2) (tg_lt (m179 11 0) (fun v3_189 => tg_ck (0 ≤ v3_189 ∧ v3_189 < 8) (tg_lt (m179 17 (v3_189).toNat) (fun v4_196 => tg_jn (γ := Int → tg_Mem → tg_R) (fun (v4_253 : Int) (m_253 : tg_Mem) => if v4_253 < 100000 then some (tg_wi ((m_253 0 15) + (tg_wi (2 * v4_253))), m_253) else some ((-1), m_253)) (fun j253 => tg_fx (γ := Int → Int → Int → tg_Mem → tg_R) (f_X8_beganOf_B201 j253) (fun _ _ _ _ => none) tg_FU v3_189 v4_196 0 m179))))))) (fun j177 => tg_fx (γ := Int → tg_Mem → tg_R) (f_X8_beganOf_B33 j177) (fun _ _ => none) tg_FU 0 m_31)) := ⟨_, rfl⟩
      obtain ⟨m2, b1, b2, b3⟩ := r_initl (a := a) (j31 := j31) 8 0 m1 tg_FU (by omega) (by omega) (by omega) (fun v z1 z2 => by omega)
      obtain ⟨j177, hj177⟩ : ∃ j177 : tg_Mem → tg_R, j177 = (fun (m_177 : tg_Mem) => tg_bd (f_X8_done d m_177) (fun _ m179 => tg_ck (0 ≤ 0 ∧ 0 < 2) (tg_lt (m179 11 0) (fun v3_189 => tg_ck (0 ≤ v3_189 ∧ v3_189 < 8) (tg_lt (m179 17 (v3_189).toNat) (fun v4_196 => tg_jn (γ := Int → tg_Mem → tg_R) (fun (v4_253 : Int) (m_253 : tg_Mem) => if v4_253 < 100000 then some (tg_wi ((m_253 0 15) + (tg_wi (2 * v4_253))), m_253) else some ((-1), m_253)) (fun j253 => tg_fx (γ := Int → Int → Int → tg_Mem → tg_R) (f_X8_beganOf_B201 j253) (fun _ _ _ _ => none) tg_FU v3_189 v4_196 0 m179))))))) := ⟨_, rfl⟩
      obtain ⟨m3, f, g1, g2, g3, g4⟩ := r_roundsl (a := a) (j177 := j177) c1.1 8 0 _ m2 tg_FU (by omega) (by omega) (tm_md_of c4.1 (by rw [b3 0 (by decide)]) (b3 7 (by decide))) tb_V0 b2
      have k3 : ∀ c, c ≠ 17 → m3 c = m1 c := fun c hc => by rw [g4 c hc, b3 c hc]
      have hmf : R_mf m1 m3 := ⟨fun c hc => k3 c (by omega), by rw [k3 0 (by decide)]⟩
      have h3 : R_all x m3 := R_all_of h' (R_xf_rf _) hmf
      have k4 : tm_cf m3 P A B Y ρ h0 h1 w := by
        obtain ⟨z1, z2, z3, z4, z5⟩ := c4
        exact ⟨tm_md_of z1 (by rw [k3 0 (by decide)]) (k3 7 (by decide)), by rw [k3 9 (by decide)]; exact z2, by rw [k3 9 (by decide)]; exact z3, by rw [k3 9 (by decide)]; exact z4, by rw [k3 10 (by decide)]; exact z5⟩
      obtain ⟨m4, u1, u2, u3, u4⟩ := R_runs (h0 := h0) (h1 := h1) (most := 40) hd h3 (by omega) c1 k4
      have r3 : tm_rp Y m4 S := by rw [hS]; exact u2.1
      have k5 := (tm_cf_fr k4 u4).1
      have k17 : m4 17 = m3 17 := u4.1 17 (by decide) (by decide) (by decide) (by decide) (by decide)
      have hS1 := i1.1
      have hboth : ∀ v, 0 ≤ v → v ≤ 7 → (x2 6 v.toNat = -1 ∧ f v = 100000) ∨ (x2 6 v.toNat = f v ∧ 0 ≤ x2 6 v.toNat ∧ x2 6 v.toNat ≤ 8) := fun v v0 v7 =>
        tb_both c1.1 (by omega) ⟨v0, v7⟩ (a2 v v0 v7) ⟨(g2 v v0 v7).1, (g2 v v0 v7).2.1⟩
      have hs : ∀ v, 0 ≤ v → v ≤ 7 → (-1 ≤ x2 6 v.toNat ∧ x2 6 v.toNat ≤ 8) ∧ f v = tb_c (x2 6 v.toNat) := by
        intro v v0 v7
        unfold tb_c
        rcases hboth v v0 v7 with ⟨z1, z2⟩ | ⟨z1, z2, z3⟩
        · rw [if_pos z1]; exact ⟨by omega, z2⟩
        · rw [if_neg (by omega)]; exact ⟨by omega, z1.symm⟩
      have hf4 : ∀ v, 0 ≤ v → v ≤ 7 → m4 17 v.toNat = f v := fun v v0 v7 => by rw [k17]; exact g3 v v0 v7
      obtain ⟨r, t1, t2, t3⟩ := c_stepl c1.1 k2 r2 hs (S.2.2.length + 1) 0 (-1) S.1 tg_FU (by omega) (by omega) (by omega) (by omega) hS1 i1.2.1 (by omega) (by omega)
      have t4 := r_stepl (j253 := fun (v4_253 : Int) (m_253 : tg_Mem) => if v4_253 < 100000 then some (tg_wi ((m_253 0 15) + (tg_wi (2 * v4_253))), m_253) else some ((-1), m_253)) c1.1 k5 r3 hf4 S.2.2.length 0 (f S.1) S.1 tg_FU (by omega) (by omega) (by omega) hS1 i1.2.1
      have hfb := (hs S.1 hS1.1 hS1.2).2
      have hfb2 : f S.1 ≤ 100000 := by
        rcases hboth S.1 hS1.1 hS1.2 with z | z <;> omega
      have e6 : (if tb_c (-1) ≤ f S.1 then tb_c (-1) else f S.1) = f S.1 := by
        show (if (100000 : Int) ≤ f S.1 then (100000 : Int) else f S.1) = f S.1
        split <;> omega
      rw [e6] at t3
      have hxf : R_xf x1 x2 := ⟨fun c hc => a3 c (by omega), by rw [a3 0 (by decide)], by rw [a3 1 (by decide)], by rw [a3 1 (by decide)], by rw [a3 1 (by decide)], by rw [a3 10 (by decide)], by rw [a3 18 (by decide)]⟩
      refine ⟨if r ≠ -1 then (S.2.2.length : Int) + 2 * r else -1, x2, m4, ?_, ?_, R_all_of (R_all_of h3 e4 u3) hxf (R_mf_rf _)⟩
      · simp only [f_X7_began, f_X7_ended, f_X1_stepsOff, tg_lt]
        rw [b_isBelowT (by omega), tg_bd_some, if_neg (by decide), b_isBelowT ha, tg_bd_some, if_pos (by decide), R_dayOf hd, tg_bd_some, Int.toNat_natCast, e1, tg_bd_some, tg_bd_some, Int.toNat_natCast, a1, tg_bd_some, tg_ck_pos (by decide), r2.1, t1, tg_bd_some]
        by_cases c : r = -1
        · rw [if_neg (fun z => z c), if_neg (fun z => z c)]
        · rw [if_pos c, if_pos c, r2.2.2.1, tg_wi_e (a := 2 * r) (by omega), tg_wi_e (by omega)]
      · simp only [f_X8_began, tg_jn]
        rw [c3, tg_bd_some, r_isTwoT (by omega), tg_bd_some, if_neg (by decide), r_isPlT (by omega), tg_bd_some, if_neg (by decide)]
        refine tg_bd_eq ?_
        unfold f_X8_beganOf
        refine tg_jn_d (fun J hJ => ?_)
        rw [show J = j31 by rw [hJ, hj31]]
        rw [b1, hj31]
        refine tg_jn_d (fun J2 hJ2 => ?_)
        rw [show J2 = j177 by rw [hJ2, hj177]]
        refine g1.trans ?_
        rw [hj177]
        simp only [f_X8_done, tg_lt, tg_jn]
        rw [u1, tg_bd_some, tg_bd_some, tg_ck_pos (by decide), r3.1, tg_ck_pos (by omega), hf4 _ hS1.1 hS1.2, t4, ← t3]
        unfold tb_c
        by_cases c : r = -1
        · rw [if_pos c, if_neg (by omega), if_neg (fun z => z c)]
        · rw [if_neg c, if_pos (by omega), if_pos c, r3.2.2.1, tg_wi_e (a := 2 * r) (by omega), tg_wi_e (by omega)]
    · refine ⟨-2, x, m1, ?_, ?_, h'⟩
      · simp only [f_X7_began]
        rw [b_isBelowT (by omega), tg_bd_some, if_neg (by decide), b_isBelowF ha, tg_bd_some, if_neg (by decide)]
      · simp only [f_X8_began, tg_jn]
        rw [c3, tg_bd_some, r_isTwoT (by omega), tg_bd_some, if_neg (by decide), r_isPlF (by omega), tg_bd_some, if_pos rfl]
  · refine ⟨-2, x, m1, ?_, ?_, h'⟩
    · simp only [f_X7_began]
      rw [b_isBelowF (by omega), tg_bd_some, if_pos rfl]
    · simp only [f_X8_began, tg_jn]
      rw [c3, tg_bd_some, r_isTwoF (by omega), tg_bd_some, if_pos rfl]
