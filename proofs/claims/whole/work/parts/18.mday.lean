-- the reference runs a day
def tm_cf (m : tg_Mem) (P : Int) (A B Y : Int → Int) (ρ h0 h1 : Int) (w : Int → Int) : Prop := tm_md m P A B Y ∧ m 9 2 = ρ ∧ m 9 0 = h0 ∧ m 9 1 = h1 ∧ ∀ i : Int, 0 ≤ i → i ≤ 7 → m 10 i.toNat = w i
def tm_dy (Y : Int → Int) (m : tg_Mem) (D : tr_D) : Prop := tm_rp Y m D.1 ∧ m 13 0 = D.2.1.1 ∧ m 13 1 = D.2.1.2 ∧ m 14 0 = D.2.2.1.1 ∧ m 14 1 = D.2.2.1.2 ∧ m 0 19 = D.2.2.2
def tm_fr (m m' : tg_Mem) : Prop := (∀ c, c ≠ 0 → c ≠ 11 → c ≠ 12 → c ≠ 13 → c ≠ 14 → m' c = m c) ∧ ∀ j, j ≠ 15 → j ≠ 16 → j ≠ 19 → m' 0 j = m 0 j
theorem tm_fr_rf (m : tg_Mem) : tm_fr m m := ⟨fun _ _ _ _ _ _ => rfl, fun _ _ _ _ => rfl⟩
theorem tm_fr_tr {x y z : tg_Mem} (h1 : tm_fr x y) (h2 : tm_fr y z) : tm_fr x z := ⟨fun c a b d e f => (h2.1 c a b d e f).trans (h1.1 c a b d e f), fun j a b c => (h2.2 j a b c).trans (h1.2 j a b c)⟩
section TMD
variable {P : Int} {A B Y : Int → Int} {ρ h0 h1 : Int} {w : Int → Int} {m m' : tg_Mem}
theorem tm_cf_fr (h : tm_cf m P A B Y ρ h0 h1 w) (hf : tm_fr m m') : tm_cf m' P A B Y ρ h0 h1 w := by
  obtain ⟨a, b, c, d, e⟩ := h
  have z : ∀ c, c ≠ 0 → c ≠ 11 → c ≠ 12 → c ≠ 13 → c ≠ 14 → m' c = m c := hf.1
  exact ⟨tm_md_of a (hf.2 8 (by decide) (by decide) (by decide)) (z 7 (by decide) (by decide) (by decide) (by decide) (by decide)), by rw [z 9 (by decide) (by decide) (by decide) (by decide) (by decide), b], by rw [z 9 (by decide) (by decide) (by decide) (by decide) (by decide), c], by rw [z 9 (by decide) (by decide) (by decide) (by decide) (by decide), d], fun i z1 z2 => by rw [z 10 (by decide) (by decide) (by decide) (by decide) (by decide)]; exact e i z1 z2⟩
noncomputable def r_j61 (s0_61 : Int) (m_61 : tg_Mem) : tg_R := if s0_61 = -1 then some (-1, m_61) else if m_61 0 8 ≤ tg_irem s0_61 8 then some (-1, m_61) else tg_ck (0 ≤ tg_idiv s0_61 8 ∧ tg_idiv s0_61 8 < 2) (tg_bd (f_X8_touches (tg_irem s0_61 8) (m_61 11 (tg_idiv s0_61 8).toNat) m_61) fun r97 m97 => if r97 = 0 then some (-1, m97) else some (s0_61, m97))
theorem r_j61_s {c : Int} {S : Int × Int × List Int} (hm : tr_md P A B Y) (hx : tm_md m P A B Y) (hr : tm_rp Y m S) (hc : c = -1 ∨ (0 ≤ c ∧ c ≤ 15)) : r_j61 c m = some (if c ≠ -1 ∧ (0 ≤ c % 8 ∧ c % 8 < P ∧ (A (c % 8) = tr_at (c / 8) S ∨ B (c % 8) = tr_at (c / 8) S)) then c else -1, m) := by
  have hP := hm.2.1
  unfold r_j61
  by_cases h1 : c = -1
  · rw [if_pos h1, if_neg (fun z => z.1 h1)]
  · rw [if_neg h1, tg_irem_pos (by omega) (by omega), tg_idiv_pos (by omega) (by omega), hx.1]
    by_cases h2 : P ≤ c % 8
    · rw [if_pos h2, if_neg (by omega)]
    · rw [if_neg h2, tg_ck_pos (by omega)]
      have e11 : m 11 (c / 8).toNat = tr_at (c / 8) S := by
        unfold tr_at
        rcases (show c / 8 = 0 ∨ c / 8 = 1 by omega) with g | g
        · rw [g]; exact hr.1
        · rw [g]; exact hr.2.1
      rw [e11]
      by_cases h3 : tr_tch P A B (c % 8) (tr_at (c / 8) S)
      · rw [r_touchT hm hx h3, if_pos ⟨h1, h3⟩]
        simp only [tg_bd_some]
        rw [if_neg (by decide)]
      · rw [r_touchF hm hx (by omega) h3, if_neg (fun z => h3 z.2)]
        simp only [tg_bd_some]
        rw [if_pos trivial]
noncomputable def r_st1 (b : Int) (m : tg_Mem) : tg_R := tg_bd (f_X8_in b 97 104 m) (fun r23 m23 => if r23 = 0 then tg_bd (f_X8_in b 65 72 m23) (fun r44 m44 => if r44 = 0 then r_j61 (-1) m44 else r_j61 (tg_wi (tg_wi (8 + b) - 65)) m44) else r_j61 (tg_wi (b - 97)) m23)
theorem r_st1_a {b : Int} (c1 : 97 ≤ b ∧ b ≤ 104) : r_st1 b m = r_j61 (b - 97) m := by
  have e : tg_wi (b - 97) = b - 97 := tg_wi_e (by omega)
  unfold r_st1
  rw [b_inT c1, tg_bd_some, if_neg (by decide), e]
theorem r_st1_b {b : Int} (c1 : ¬ (97 ≤ b ∧ b ≤ 104)) (c2 : 65 ≤ b ∧ b ≤ 72) : r_st1 b m = r_j61 (b - 65 + 8) m := by
  have e : tg_wi (tg_wi (8 + b) - 65) = b - 65 + 8 := by rw [tg_wi_e (a := 8 + b) (by omega), tg_wi_e (by omega)]; omega
  unfold r_st1
  rw [b_inF c1, tg_bd_some, if_pos rfl, b_inT c2, tg_bd_some, if_neg (by decide), e]
theorem r_st1_c {b : Int} (c1 : ¬ (97 ≤ b ∧ b ≤ 104)) (c2 : ¬ (65 ≤ b ∧ b ≤ 72)) : r_st1 b m = r_j61 (-1) m := by
  unfold r_st1
  rw [b_inF c1, tg_bd_some, if_pos rfl, b_inF c2, tg_bd_some, if_pos rfl]
theorem r_st1_s {b : Int} : r_st1 b m = r_j61 (tr_code b) m := by
  by_cases c1 : 97 ≤ b ∧ b ≤ 104
  · have e : tr_code b = b - 97 := if_pos c1
    rw [e, r_st1_a c1]
  · by_cases c2 : 65 ≤ b ∧ b ≤ 72
    · have e : tr_code b = b - 65 + 8 := by unfold tr_code; rw [if_neg c1, if_pos c2]
      rw [e, r_st1_b c1 c2]
    · have e : tr_code b = -1 := by unfold tr_code; rw [if_neg c1, if_neg c2]
      rw [e, r_st1_c c1 c2]
theorem r_st0 {d k : Int} (hd : d = 0 ∨ d = 1) (hk : 0 ≤ k ∧ k < 40) : f_X8_stepOf d k m = r_st1 (m 5 (40 + 40 * d + k).toNat) m := by
  unfold f_X8_stepOf
  rw [tg_wi_e (a := 40 * d) (by omega), tg_wi_e (a := 40 + 40 * d) (by omega), tg_wi_e (a := 40 + 40 * d + k) (by omega), tg_ck_pos (by omega)]
  generalize m 5 (40 + 40 * d + k).toNat = b
  rfl
theorem r_stepOf0 {d k b : Int} (hd : d = 0 ∨ d = 1) (hk : 0 ≤ k ∧ k < 40) (hbb : m 5 (40 + 40 * d + k).toNat = b) (hb : 0 ≤ b ∧ b ≤ 255) : f_X8_stepOf d k m = r_j61 (tr_code b) m := by
  rw [r_st0 hd hk, hbb, r_st1_s]
theorem r_stepOf' {d k b : Int} {S : Int × Int × List Int} (hd : d = 0 ∨ d = 1) (hk : 0 ≤ k ∧ k < 40) (hm : tr_md P A B Y) (hx : tm_md m P A B Y) (hr : tm_rp Y m S) (hbb : m 5 (40 + 40 * d + k).toNat = b) (hb : 0 ≤ b ∧ b ≤ 255) :
    f_X8_stepOf d k m = some (if tr_code b ≠ -1 ∧ (0 ≤ tr_code b % 8 ∧ tr_code b % 8 < P ∧ (A (tr_code b % 8) = tr_at (tr_code b / 8) S ∨ B (tr_code b % 8) = tr_at (tr_code b / 8) S)) then tr_code b else -1, m) := by
  rw [r_stepOf0 hd hk hbb hb, r_j61_s hm hx hr tr_code_b]
theorem r_stepOf {d k c : Int} {S : Int × Int × List Int} (hd : d = 0 ∨ d = 1) (hk : 0 ≤ k ∧ k < 40) (hm : tr_md P A B Y) (hx : tm_md m P A B Y) (hr : tm_rp Y m S) (hb : 0 ≤ m 5 (40 + 40 * d + k).toNat ∧ m 5 (40 + 40 * d + k).toNat ≤ 255) (hc : c = tr_code (m 5 (40 + 40 * d + k).toNat)) :
    f_X8_stepOf d k m = some (if c ≠ -1 ∧ (0 ≤ c % 8 ∧ c % 8 < P ∧ (A (c % 8) = tr_at (c / 8) S ∨ B (c % 8) = tr_at (c / 8) S)) then c else -1, m) := by
  rw [hc]; exact r_stepOf' hd hk hm hx hr rfl hb
theorem r_isBorneN : f_X8_isBorne (-1) m = some (0, m) := by
  simp only [f_X8_isBorne, tg_jn]; rfl
theorem r_isBorne {c : Int} {S : Int × Int × List Int} (hc : 0 ≤ c ∧ c ≤ 15) (hcf : tr_cf P A B Y ρ w) (hx : tm_cf m P A B Y ρ h0 h1 w) (hr : tm_rp Y m S) (hp : c % 8 < P) (hY : 0 ≤ tr_len Y S.2.2 ∧ tr_len Y S.2.2 ≤ 1000) :
    f_X8_isBorne c m = some (if tr_len Y (tr_go A B (c / 8) (c % 8) S).2.2 ≤ ρ ∨ ((c / 8 = 0 ∧ h1 < h0) ∨ (c / 8 ≠ 0 ∧ h0 < h1)) then 1 else 0, m) := by
  obtain ⟨a, b, c1, d, e⟩ := hx
  have hg : c / 8 = 0 ∨ c / 8 = 1 := by omega
  simp only [f_X8_isBorne, tg_jn]
  rw [if_neg (by omega), tg_irem_pos (by omega) (by omega), tg_idiv_pos (by omega) (by omega), r_lenB hcf.1 a hr hg (by omega) hY]
  simp only [tg_bd_some]
  rw [tg_ck_pos (by omega), b]
  by_cases h : tr_len Y (tr_go A B (c / 8) (c % 8) S).2.2 ≤ ρ
  · rw [if_pos h, if_pos (Or.inl h)]
  · rw [if_neg h, tg_ck_pos (by omega), tg_wi_e (by omega), tg_ck_pos (by omega)]
    rcases hg with g | g
    · rw [g]
      show (if m 9 0 ≤ m 9 1 then _ else _) = _
      rw [c1, d]
      by_cases h2 : h0 ≤ h1
      · rw [if_pos h2, if_neg (by rw [g] at h; omega)]
      · rw [if_neg h2, if_pos (Or.inr (by omega))]
    · rw [g]
      show (if m 9 1 ≤ m 9 0 then _ else _) = _
      rw [c1, d]
      by_cases h2 : h1 ≤ h0
      · rw [if_pos h2, if_neg (by rw [g] at h; omega)]
      · rw [if_neg h2, if_pos (Or.inr (by omega))]
theorem r_dragl {g : Int} {j56 : tg_Mem → tg_R} (hg : g = 0 ∨ g = 1) (hcf : tr_cf P A B Y ρ w) : ∀ (N : Nat) (S : Int × Int × List Int) (m : tg_Mem) (n : Nat), S.2.2.length = N → N < n → N ≤ 62 → tm_cf m P A B Y ρ h0 h1 w → tm_rp Y m S → tr_I P A B S → 0 ≤ m 14 (1 - g).toNat → m 14 (1 - g).toNat + N ≤ 1000000 →
    ∃ m', tg_fx (f_X8_does_B14 g j56) (fun _ => none) n m = j56 m' ∧ tm_rp Y m' (tr_drag A B Y ρ (1 - g) N S).1 ∧ m' 14 (1 - g).toNat = m 14 (1 - g).toNat + (tr_drag A B Y ρ (1 - g) N S).2 ∧ (∀ j, j ≠ (1 - g).toNat → m' 14 j = m 14 j) ∧ (∀ c, c ≠ 0 → c ≠ 11 → c ≠ 12 → c ≠ 14 → m' c = m c) ∧ (∀ j, j ≠ 15 → j ≠ 16 → m' 0 j = m 0 j) := by
  have hg2 : 1 - g = 0 ∨ 1 - g = 1 := by omega
  have ew : tg_wi (1 - g) = 1 - g := tg_wi_e (by omega)
  intro N
  induction N with
  | zero =>
    intro S m n hS hn hN hc hr hI hd hd2
    obtain ⟨n, rfl⟩ : ∃ n', n = n' + 1 := ⟨n - 1, by omega⟩
    have e : S.2.2 = [] := List.eq_nil_of_length_eq_zero hS
    have hρ := hcf.2.1
    refine ⟨m, ?_, hr, by show _ = _ + (0 : Int); omega, fun _ _ => rfl, fun _ _ _ _ _ => rfl, fun _ _ _ => rfl⟩
    rw [tg_fx_s]
    unfold f_X8_does_B14
    rw [tg_ck_pos (by omega), hr.2.2.2.1, hc.2.1, e, if_pos (by simp only [tr_len]; omega)]
  | succ N ih =>
    intro S m n hS hn hN hc hr hI hd hd2
    obtain ⟨n, rfl⟩ : ∃ n', n = n' + 1 := ⟨n - 1, by omega⟩
    have hlb := tr_I_b hcf.1 hI
    rw [tg_fx_s]
    unfold tr_drag
    by_cases h : tr_len Y S.2.2 ≤ ρ
    · rw [if_pos h]
      refine ⟨m, ?_, hr, by show _ = _ + (0 : Int); omega, fun _ _ => rfl, fun _ _ _ _ _ => rfl, fun _ _ _ => rfl⟩
      unfold f_X8_does_B14
      rw [tg_ck_pos (by omega), hr.2.2.2.1, hc.2.1, if_pos h]
    · rw [if_neg h]
      have ht := tr_nx_tch hg2 hcf.1 hI (by omega)
      obtain ⟨m1, e1, e2, e3, e30⟩ := r_goes hcf.1 hc.1 hr hg2 ht (tr_at_b hcf.1 hI) (by omega) (by omega)
      obtain ⟨m2, hm2⟩ : ∃ m2, m2 = tg_up m1 14 (1 - g).toNat (m 14 (1 - g).toNat + 1) := ⟨_, rfl⟩
      have f1 : tm_fr m m2 := ⟨fun c a b d e f => by rw [hm2, tg_up_k f, e3 c a b d], fun j a b d => by rw [hm2, tg_up_k (by decide), e30 j a b]⟩
      have e4 : f_X8_does_B14 g j56 (tg_fx (f_X8_does_B14 g j56) (fun _ => none) n) m = tg_fx (f_X8_does_B14 g j56) (fun _ => none) n m2 := by
        unfold f_X8_does_B14
        rw [tg_ck_pos (by omega), hr.2.2.2.1, hc.2.1, if_neg h, ew, r_next hr hg2]
        simp only [tg_bd_some]
        rw [e1]
        simp only [tg_bd_some, tg_lt]
        rw [tg_ck_pos (by omega), tg_ck_pos (by omega), e3 14 (by decide) (by decide) (by decide), tg_wi_e (a := m 14 (1 - g).toNat + 1) (by omega), ← hm2]
      rw [e4]
      obtain ⟨m', q1, q2, q3, q4, q5, q6⟩ := ih (tr_go A B (1 - g) (tr_nx (1 - g) S.2.2) S) m2 n (by have := tr_nx_len hg2 hcf.1 hI (by omega); omega) (by omega) (by omega) (tm_cf_fr hc f1)
        (tm_rp_of e2 (by rw [hm2, tg_up_k (by decide)]) (by rw [hm2, tg_up_k (by decide)]) (by rw [hm2, tg_up_k (by decide)]) (by rw [hm2, tg_up_k (by decide)])) (tr_go_I hcf.1 hg2 hI ht) (by rw [hm2, tg_up_same]; omega) (by rw [hm2, tg_up_same]; omega)
      have a2 : m2 14 (1 - g).toNat = m 14 (1 - g).toNat + 1 := by rw [hm2, tg_up_same]
      refine ⟨m', q1, q2, by rw [q3, a2]; dsimp only; omega, fun j hj => by rw [q4 j hj, hm2, tg_up_j hj, e3 _ (by decide) (by decide) (by decide)], fun c c1 c2 c3 c4 => by rw [q5 c c1 c2 c3 c4, hm2, tg_up_k c4, e3 c c1 c2 c3], fun j j1 j2 => by rw [q6 j j1 j2, hm2, tg_up_k (by decide), e30 j j1 j2]⟩
theorem r_eatEnd {g : Int} {D : tr_D} (hg : g = 0 ∨ g = 1) (hx : tm_cf m P A B Y ρ h0 h1 w) (hw : ∀ i, 0 ≤ i → i ≤ 7 → 0 ≤ w i ∧ w i ≤ 99) (hd : tm_dy Y m D) (hat : 0 ≤ tr_at g D.1 ∧ tr_at g D.1 ≤ 7) (hb : 0 ≤ D.2.1.1 ∧ D.2.1.1 ≤ 100000 ∧ 0 ≤ D.2.1.2 ∧ D.2.1.2 ≤ 100000) :
    ∃ m', (tg_ck (0 ≤ g ∧ g < 2) (tg_ck (0 ≤ g ∧ g < 2) (if tg_iand (tg_ishr (m 0 19) (m 11 g.toNat)) 1 ≠ 0 then tg_ck (0 ≤ g ∧ g < 2) (some (0, tg_up (tg_up m 13 g.toNat (tg_wi (m 13 g.toNat + 0))) 0 19 (tg_ior ((tg_up m 13 g.toNat (tg_wi (m 13 g.toNat + 0))) 0 19) (tg_ishl 1 (m 11 g.toNat)))))
      else tg_ck (0 ≤ m 11 g.toNat ∧ m 11 g.toNat < 8) (tg_ck (0 ≤ g ∧ g < 2) (some (0, tg_up (tg_up m 13 g.toNat (tg_wi (m 13 g.toNat + m 10 (m 11 g.toNat).toNat))) 0 19 (tg_ior ((tg_up m 13 g.toNat (tg_wi (m 13 g.toNat + m 10 (m 11 g.toNat).toNat))) 0 19) (tg_ishl 1 (m 11 g.toNat)))))))) : tg_R) = some (0, m') ∧ tm_dy Y m' (tr_eat w g D) ∧ (∀ c, c ≠ 0 → c ≠ 13 → m' c = m c) ∧ (∀ j, j ≠ 19 → m' 0 j = m 0 j) := by
  obtain ⟨S, ⟨eA, eB⟩, ⟨dA, dB⟩, bare⟩ := D
  obtain ⟨r1, r2, r3, r4, r5, r6⟩ := hd
  dsimp only at r1 r2 r3 r4 r5 r6 hat hb
  have e1 : m 11 g.toNat = tr_at g S := by
    unfold tr_at
    rcases hg with rfl | rfl
    · exact r1.1
    · exact r1.2.1
  have e2 : 0 ≤ m 13 g.toNat ∧ m 13 g.toNat ≤ 100000 := by
    rcases hg with rfl | rfl
    · show 0 ≤ m 13 0 ∧ m 13 0 ≤ 100000; rw [r2]; omega
    · show 0 ≤ m 13 1 ∧ m 13 1 ≤ 100000; rw [r3]; omega
  have hwo := tr_wo_b (w := w) (bare := bare) (hw _ hat.1 hat.2)
  have hww := hw _ hat.1 hat.2
  refine ⟨tg_up (tg_up m 13 g.toNat (m 13 g.toNat + tr_wo w (tr_at g S) bare)) 0 19 (tg_ior bare (tg_ishl 1 (tr_at g S))), ?_, ⟨?_, ?_, ?_, ?_, ?_, ?_⟩, fun c c1 c2 => ?_, fun j j1 => ?_⟩
  · rw [tg_ck_pos (by omega), tg_ck_pos (by omega), e1, r6]
    unfold tr_wo
    by_cases h : tg_iand (tg_ishr bare (tr_at g S)) 1 = 0
    · rw [if_neg (fun z => z h), if_pos h, tg_ck_pos (by omega), tg_ck_pos (by omega), hx.2.2.2.2 _ hat.1 hat.2, tg_wi_e (by omega), tg_up_k (by decide), r6]
    · rw [if_pos h, if_neg h, tg_ck_pos (by omega), tg_wi_e (by omega), tg_up_k (by decide), r6]
  · exact tm_rp_of r1 (by rw [tg_up_k (by decide), tg_up_k (by decide)]) (by rw [tg_up_k (by decide), tg_up_k (by decide)]) (by rw [tg_up_j (by decide), tg_up_k (by decide)]) (by rw [tg_up_j (by decide), tg_up_k (by decide)])
  · show _ = (if g = 0 then _ else _ : Int × Int).1
    rw [tg_up_k (by decide)]
    rcases hg with rfl | rfl
    · rw [if_pos rfl]; show tg_up m 13 0 _ 13 0 = _; rw [tg_up_same]; show m 13 0 + _ = _; rw [r2]
    · rw [if_neg (by decide)]; show tg_up m 13 1 _ 13 0 = _; rw [tg_up_j (by decide), r2]
  · show _ = (if g = 0 then _ else _ : Int × Int).2
    rw [tg_up_k (by decide)]
    rcases hg with rfl | rfl
    · rw [if_pos rfl]; show tg_up m 13 0 _ 13 1 = _; rw [tg_up_j (by decide), r3]
    · rw [if_neg (by decide)]; show tg_up m 13 1 _ 13 1 = _; rw [tg_up_same]; show m 13 1 + _ = _; rw [r3]
  · rw [tg_up_k (by decide), tg_up_k (by decide)]; exact r4
  · rw [tg_up_k (by decide), tg_up_k (by decide)]; exact r5
  · rw [tg_up_same]; rfl
  · rw [tg_up_k c1, tg_up_k c2]
  · rw [tg_up_j j1, tg_up_k (by decide)]
/-- a step that is borne is done -/
theorem r_does {c j : Int} {D D' : tr_D} (hcf : tr_cf P A B Y ρ w) (hcode : 0 ≤ c ∧ c ≤ 15) (hx : tm_cf m P A B Y ρ h0 h1 w) (hd : tm_dy Y m D) (hD : tr_DI P A B Y ρ j D) (hj : 0 ≤ j ∧ j ≤ 100) (hs : tr_step P A B Y ρ h0 h1 w c D = some D') :
    ∃ m', f_X8_does c m = some (0, m') ∧ tm_dy Y m' D' ∧ tm_fr m m' := by
  obtain ⟨S, ⟨eA, eB⟩, ⟨dA, dB⟩, bare⟩ := D
  obtain ⟨hI, hl, q1, q2, q3, q4⟩ := hD
  have hd0 := hd
  obtain ⟨r1, r2, r3, r4, r5, r6⟩ := hd
  dsimp only at hI hl q1 q2 q3 q4 r1 r2 r3 r4 r5 r6
  have hlb := tr_I_b hcf.1 hI
  have hρ := hcf.2.1
  unfold tr_step at hs
  rw [if_neg (by omega)] at hs
  dsimp only at hs
  have hg : c / 8 = 0 ∨ c / 8 = 1 := by omega
  have e3 : tg_idiv c 8 = c / 8 := tg_idiv_pos (by omega) (by omega)
  have e7 : tg_irem c 8 = c % 8 := tg_irem_pos (by omega) (by omega)
  generalize hgg : c / 8 = g at *
  generalize hpp : c % 8 = p at *
  by_cases ht : 0 ≤ p ∧ p < P ∧ (A p = tr_at g S ∨ B p = tr_at g S)
  · rw [if_pos ht] at hs
    have htch : tr_tch P A B p (tr_at g S) := ht
    obtain ⟨m1, e1, e2, e4, e5⟩ := r_goes hcf.1 hx.1 r1 hg htch (tr_at_b hcf.1 hI) (by omega) (by omega)
    have f1 : tm_fr m m1 := ⟨fun c a b d _ _ => e4 c a b d, fun j a b _ => e5 j a b⟩
    have hx1 := tm_cf_fr hx f1
    have hI1 := tr_go_I hcf.1 hg hI htch
    have hlb1 := tr_I_b hcf.1 hI1
    have hlen1 : (tr_go A B g p S).2.2.length ≤ S.2.2.length + 1 := tr_go_length
    have hg2 : 1 - g = 0 ∨ 1 - g = 1 := by omega
    have hdr : 0 ≤ m1 14 (1 - g).toNat ∧ m1 14 (1 - g).toNat ≤ 100000 := by
      rw [e4 14 (by decide) (by decide) (by decide)]
      rcases hg2 with z | z
      · rw [z]; show 0 ≤ m 14 0 ∧ m 14 0 ≤ _; rw [r4]; omega
      · rw [z]; show 0 ≤ m 14 1 ∧ m 14 1 ≤ _; rw [r5]; omega
    obtain ⟨j56, hj56⟩ : ∃ j56 : tg_Mem → tg_R, j56 = fun m_56 => tg_ck (0 ≤ g ∧ g < 2) (tg_ck (0 ≤ g ∧ g < 2) (if tg_iand (tg_ishr (m_56 0 19) (m_56 11 g.toNat)) 1 ≠ 0 then tg_ck (0 ≤ g ∧ g < 2) (some (0, tg_up (tg_up m_56 13 g.toNat (tg_wi (m_56 13 g.toNat + 0))) 0 19 (tg_ior ((tg_up m_56 13 g.toNat (tg_wi (m_56 13 g.toNat + 0))) 0 19) (tg_ishl 1 (m_56 11 g.toNat)))))
      else tg_ck (0 ≤ m_56 11 g.toNat ∧ m_56 11 g.toNat < 8) (tg_ck (0 ≤ g ∧ g < 2) (some (0, tg_up (tg_up m_56 13 g.toNat (tg_wi (m_56 13 g.toNat + m_56 10 (m_56 11 g.toNat).toNat))) 0 19 (tg_ior ((tg_up m_56 13 g.toNat (tg_wi (m_56 13 g.toNat + m_56 10 (m_56 11 g.toNat).toNat))) 0 19) (tg_ishl 1 (m_56 11 g.toNat)))))))) := ⟨_, rfl⟩
    have key : f_X8_does c m = tg_fx (f_X8_does_B14 g j56) (fun _ => none) tg_FU m1 := by
      rw [hj56]
      simp only [f_X8_does, tg_lt, tg_jn]
      rw [e3, e7, e1]
      rfl
    obtain ⟨m2, z1, z2, z3, z4, z5, z6⟩ := r_dragl (j56 := j56) hg hcf _ _ m1 tg_FU rfl (by have := tg_FUg; omega) (by omega) hx1 e2 hI1 hdr.1 (by omega)
    have f2 : tm_fr m1 m2 := ⟨fun c a b d _ f => z5 c a b d f, fun j a b _ => z6 j a b⟩
    have hx2 := tm_cf_fr hx1 f2
    obtain ⟨i1, i2, i3, i4, i5⟩ := tr_drag_I hg2 hcf.1 hρ.1 _ _ rfl hI1
    have hd2 : tm_dy Y m2 ((tr_drag A B Y ρ (1 - g) (tr_go A B g p S).2.2.length (tr_go A B g p S)).1, (eA, eB), tr_add (1 - g) (tr_drag A B Y ρ (1 - g) (tr_go A B g p S).2.2.length (tr_go A B g p S)).2 (dA, dB), bare) := by
      refine ⟨z2, ?_, ?_, ?_, ?_, ?_⟩
      · rw [z5 13 (by decide) (by decide) (by decide) (by decide), e4 13 (by decide) (by decide) (by decide)]; exact r2
      · rw [z5 13 (by decide) (by decide) (by decide) (by decide), e4 13 (by decide) (by decide) (by decide)]; exact r3
      · show m2 14 0 = (tr_add (1 - g) _ (dA, dB)).1
        unfold tr_add
        rcases hg2 with z | z
        · rw [z] at z3 z4 ⊢; rw [if_pos rfl]; refine Eq.trans z3 ?_; show m1 14 0 + _ = _; rw [e4 14 (by decide) (by decide) (by decide), r4]
        · rw [z] at z3 z4 ⊢; rw [if_neg (by decide), z4 0 (by decide), e4 14 (by decide) (by decide) (by decide)]; exact r4
      · show m2 14 1 = (tr_add (1 - g) _ (dA, dB)).2
        unfold tr_add
        rcases hg2 with z | z
        · rw [z] at z3 z4 ⊢; rw [if_pos rfl, z4 1 (by decide), e4 14 (by decide) (by decide) (by decide)]; exact r5
        · rw [z] at z3 z4 ⊢; rw [if_neg (by decide)]; refine Eq.trans z3 ?_; show m1 14 1 + _ = _; rw [e4 14 (by decide) (by decide) (by decide), r5]
      · rw [z6 19 (by decide) (by decide), e5 19 (by decide) (by decide)]; exact r6
    obtain ⟨m3, y1, y2, y3, y4⟩ := r_eatEnd hg hx2 hcf.2.2 hd2 (tr_at_b hcf.1 i1) (by dsimp only; omega)
    have f3 : tm_fr m2 m3 := ⟨fun c a _ _ e _ => y3 c a e, fun j _ _ d => y4 j d⟩
    refine ⟨m3, ?_, ?_, tm_fr_tr f1 (tm_fr_tr f2 f3)⟩
    · rw [key, z1, hj56]; exact y1
    · by_cases h5 : tr_len Y (tr_go A B g p S).2.2 ≤ ρ
      · rw [if_pos h5] at hs
        cases hs
        have ed : tr_drag A B Y ρ (1 - g) (tr_go A B g p S).2.2.length (tr_go A B g p S) = (tr_go A B g p S, 0) := by
          cases (tr_go A B g p S).2.2.length with
          | zero => rfl
          | succ n => unfold tr_drag; rw [if_pos h5]
        rw [ed] at y2
        have ea : tr_add (1 - g) 0 (dA, dB) = (dA, dB) := by
          unfold tr_add
          rcases hg2 with z | z
          · rw [z, if_pos rfl, Int.add_zero]
          · rw [z, if_neg (by decide), Int.add_zero]
        dsimp only at y2
        rw [ea] at y2
        exact y2
      · rw [if_neg h5] at hs
        by_cases h6 : (g = 0 ∧ h1 < h0) ∨ (g ≠ 0 ∧ h0 < h1)
        · rw [if_pos h6] at hs
          cases hs
          exact y2
        · rw [if_neg h6] at hs; cases hs
  · rw [if_neg ht] at hs; cases hs
theorem r_runsl {most d : Int} {c : Int → Int} (hd : d = 0 ∨ d = 1) (hcf : tr_cf P A B Y ρ w) {n0 : Int} (hn0 : 0 ≤ n0 ∧ n0 ≤ 40) :
    ∀ (N : Nat) (j : Int) (D : tr_D) (m : tg_Mem) (n : Nat), N < n → 0 ≤ j → j + N = (if most < n0 then most else n0) → j ≤ 40 → tm_cf m P A B Y ρ h0 h1 w → tm_dy Y m D → tr_DI P A B Y ρ j D → m 6 (1 + d).toNat = n0 → (∀ i : Int, 0 ≤ i → i < n0 → (0 ≤ m 5 (40 + 40 * d + i).toNat ∧ m 5 (40 + 40 * d + i).toNat ≤ 255) ∧ c i = tr_code (m 5 (40 + 40 * d + i).toNat)) →
    ∃ m', tg_fx (f_X8_runs_B7 d most) (fun _ _ => none) n j m = some ((tr_run P A B Y ρ h0 h1 w c N j D).1, m') ∧ tm_dy Y m' (tr_run P A B Y ρ h0 h1 w c N j D).2 ∧ tm_fr m m' := by
  intro N
  induction N with
  | zero =>
    intro j D m n hn hj hjN hj40 hx hdy hD h6 hb
    obtain ⟨n, rfl⟩ : ∃ n', n = n' + 1 := ⟨n - 1, by omega⟩
    refine ⟨m, ?_, hdy, tm_fr_rf _⟩
    rw [tg_fx_s]
    unfold f_X8_runs_B7
    by_cases hm : most < n0
    · rw [if_pos hm] at hjN
      rw [if_pos (by omega)]; rfl
    · rw [if_neg hm] at hjN
      by_cases hm2 : most ≤ j
      · rw [if_pos hm2]; rfl
      · rw [if_neg hm2, tg_wi_e (by omega), tg_ck_pos (by omega), h6, if_pos (by omega)]; rfl
  | succ N ih =>
    intro j D m n hn hj hjN hj40 hx hdy hD h6 hb
    obtain ⟨n, rfl⟩ : ∃ n', n = n' + 1 := ⟨n - 1, by omega⟩
    have hjn : j < n0 ∧ j < most := by
      by_cases hm : most < n0
      · rw [if_pos hm] at hjN; omega
      · rw [if_neg hm] at hjN; omega
    obtain ⟨hb1, hb2⟩ := hb j hj hjn.1
    have hlb := tr_I_b hcf.1 hD.1
    have hst := r_stepOf hd (by omega) hcf.1 hx.1 hdy.1 hb1 hb2
    have hcode : c j = -1 ∨ (0 ≤ c j ∧ c j ≤ 15) := by rw [hb2]; exact tr_code_b
    have hl18 := hD.2.1
    have hρ := hcf.2.1
    rw [tg_fx_s]
    unfold tr_run
    cases hs : tr_step P A B Y ρ h0 h1 w (c j) D with
    | none =>
      refine ⟨m, ?_, hdy, tm_fr_rf _⟩
      unfold f_X8_runs_B7
      rw [if_neg (by omega), tg_wi_e (by omega), tg_ck_pos (by omega), h6, if_neg (by omega), hst]
      simp only [tg_bd_some]
      unfold tr_step at hs
      by_cases hc1 : c j = -1
      · rw [if_neg (fun z => z.1 hc1)]
        rw [r_isBorneN]; rfl
      · rw [if_neg hc1] at hs
        by_cases ht : 0 ≤ c j % 8 ∧ c j % 8 < P ∧ (A (c j % 8) = tr_at (c j / 8) D.1 ∨ B (c j % 8) = tr_at (c j / 8) D.1)
        · rw [if_pos ht] at hs
          rw [if_pos ⟨hc1, ht⟩, r_isBorne (by omega) hcf hx hdy.1 ht.2.1 (by omega)]
          by_cases h5 : tr_len Y (tr_go A B (c j / 8) (c j % 8) D.1).2.2 ≤ ρ
          · rw [if_pos h5] at hs; cases hs
          · rw [if_neg h5] at hs
            by_cases h7 : (c j / 8 = 0 ∧ h1 < h0) ∨ (c j / 8 ≠ 0 ∧ h0 < h1)
            · rw [if_pos h7] at hs; cases hs
            · rw [if_neg (fun z => z.elim h5 h7)]; rfl
        · rw [if_neg (fun z => ht z.2)]
          rw [r_isBorneN]; rfl
    | some D' =>
      have hs0 := hs
      unfold tr_step at hs
      by_cases hc1 : c j = -1
      · rw [if_pos hc1] at hs; cases hs
      · rw [if_neg hc1] at hs
        by_cases ht : 0 ≤ c j % 8 ∧ c j % 8 < P ∧ (A (c j % 8) = tr_at (c j / 8) D.1 ∨ B (c j % 8) = tr_at (c j / 8) D.1)
        · rw [if_pos ht] at hs
          have hbr : tr_len Y (tr_go A B (c j / 8) (c j % 8) D.1).2.2 ≤ ρ ∨ ((c j / 8 = 0 ∧ h1 < h0) ∨ (c j / 8 ≠ 0 ∧ h0 < h1)) := by
            by_cases h5 : tr_len Y (tr_go A B (c j / 8) (c j % 8) D.1).2.2 ≤ ρ
            · exact Or.inl h5
            · rw [if_neg h5] at hs
              by_cases h7 : (c j / 8 = 0 ∧ h1 < h0) ∨ (c j / 8 ≠ 0 ∧ h0 < h1)
              · exact Or.inr h7
              · rw [if_neg h7] at hs; cases hs
          obtain ⟨m1, s2, s3, s4⟩ := r_does hcf (by omega) hx hdy hD (by omega) hs0
          have e4 : f_X8_runs_B7 d most (tg_fx (f_X8_runs_B7 d most) (fun _ _ => none) n) j m = tg_fx (f_X8_runs_B7 d most) (fun _ _ => none) n (j + 1) m1 := by
            unfold f_X8_runs_B7
            rw [if_neg (by omega), tg_wi_e (by omega), tg_ck_pos (by omega), h6, if_neg (by omega), hst]
            simp only [tg_bd_some]
            rw [if_pos ⟨hc1, ht⟩, r_isBorne (by omega) hcf hx hdy.1 ht.2.1 (by omega), if_pos hbr]
            simp only [tg_bd_some]
            rw [if_neg (by decide), hst, if_pos ⟨hc1, ht⟩]
            simp only [tg_bd_some]
            rw [s2]
            simp only [tg_bd_some, tg_lt]
            rw [tg_wi_e (by omega)]
          rw [e4]
          have z1 : m1 6 = m 6 := s4.1 6 (by decide) (by decide) (by decide) (by decide) (by decide)
          have z2 : m1 5 = m 5 := s4.1 5 (by decide) (by decide) (by decide) (by decide) (by decide)
          obtain ⟨m', q1, q2, q4⟩ := ih (j + 1) D' m1 n (by omega) (by omega) (by omega) (by omega) (tm_cf_fr hx s4) s3 (tr_step_I hcf hcode hD hs0) (by rw [z1]; exact h6) (by rw [z2]; exact hb)
          exact ⟨m', q1, q2, tm_fr_tr s4 q4⟩
        · rw [if_neg ht] at hs; cases hs
theorem r_runs {most d : Int} {c : Int → Int} {n0 a : Int} (hd : d = 0 ∨ d = 1) (hcf : tr_cf P A B Y ρ w) (hn0 : 0 ≤ n0 ∧ n0 ≤ 40) (hmost : 0 ≤ most) (hx : tm_cf m P A B Y ρ h0 h1 w) (ha : m 8 d.toNat = a) (ha7 : 0 ≤ a ∧ a ≤ 7) (h6 : m 6 (1 + d).toNat = n0)
    (hb : ∀ i : Int, 0 ≤ i → i < n0 → (0 ≤ m 5 (40 + 40 * d + i).toNat ∧ m 5 (40 + 40 * d + i).toNat ≤ 255) ∧ c i = tr_code (m 5 (40 + 40 * d + i).toNat)) :
    ∃ m', f_X8_runs d most m = some ((tr_run P A B Y ρ h0 h1 w c (if most < n0 then most else n0).toNat 0 ((a, a, []), (0, 0), (0, 0), 0)).1, m') ∧ tm_dy Y m' (tr_run P A B Y ρ h0 h1 w c (if most < n0 then most else n0).toNat 0 ((a, a, []), (0, 0), (0, 0), 0)).2 ∧ tm_fr m m' := by
  obtain ⟨m1, e1, e2, e3, e4, e5, e6, e7, e8, e9⟩ := r_begins (Y := Y) (m := m) hd
  rw [ha] at e2
  have f1 : tm_fr m m1 := ⟨fun c a b _ d e => e8 c a b d e, e9⟩
  have hd1 : tm_dy Y m1 ((a, a, []), (0, 0), (0, 0), 0) := ⟨e2, e3, e4, e5, e6, e7⟩
  have hD0 : tr_DI P A B Y ρ 0 ((a, a, []), (0, 0), (0, 0), 0) := ⟨⟨ha7, trivial, rfl, trivial⟩, by show (0 : Int) ≤ ρ; have := hcf.2.1; omega, by dsimp only; omega, by dsimp only; omega, by dsimp only; omega, by dsimp only; omega⟩
  obtain ⟨m', q1, q2, q3⟩ := r_runsl (most := most) (c := c) hd hcf hn0 (if most < n0 then most else n0).toNat 0 _ m1 tg_FU (by have := tg_FUg; split <;> omega) (by omega) (by split <;> omega) (by omega) (tm_cf_fr hx f1) hd1 hD0 (by rw [e8 6 (by decide) (by decide) (by decide) (by decide)]; exact h6) (by rw [e8 5 (by decide) (by decide) (by decide) (by decide)]; exact hb)
  refine ⟨m', ?_, q2, tm_fr_tr f1 q3⟩
  simp only [f_X8_runs]
  rw [e1]
  simp only [tg_bd_some]
  exact q1
end TMD
