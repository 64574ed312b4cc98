-- the reference's game: what one round does
section RROUND
variable {P : Int} {A B Y : Int → Int} {ρ h0 h1 : Int} {w : Int → Int}
def tu_fr (m m' : tg_Mem) (k : Nat) : Prop := (∀ c, c ≠ 0 → c ≠ 11 → c ≠ 12 → (c < 18 ∨ 22 < c) → m' c = m c) ∧ (∀ j, j ≠ 15 → j ≠ 16 → m' 0 j = m 0 j) ∧ ∀ c, 18 ≤ c → c ≤ 22 → ∀ j, j < k → m' c j = m c j
theorem tu_fr_tr {x y z : tg_Mem} {k : Nat} (h1 : tu_fr x y k) (h2 : tu_fr y z k) : tu_fr x z k := ⟨fun c a b d e => (h2.1 c a b d e).trans (h1.1 c a b d e), fun j a b => (h2.2.1 j a b).trans (h1.2.1 j a b), fun c a b j d => (h2.2.2 c a b j d).trans (h1.2.2 c a b j d)⟩
theorem tu_fr_lt {x y : tg_Mem} {k k' : Nat} (h : tu_fr x y k) (hk : k' ≤ k) : tu_fr x y k' := ⟨h.1, h.2.1, fun c a b j d => h.2.2 c a b j (by omega)⟩
theorem tm_cf_g {m m' : tg_Mem} (h : tm_cf m P A B Y ρ h0 h1 w) (hf : ∀ c, c ≠ 0 → c ≠ 11 → c ≠ 12 → (c < 18 ∨ 22 < c) → m' c = m c) (h8 : m' 0 8 = m 0 8) : tm_cf m' P A B Y ρ h0 h1 w := by
  obtain ⟨a, b, c, d, e⟩ := h
  refine ⟨tm_md_of a h8 (hf 7 (by decide) (by decide) (by decide) (by decide)), ?_, ?_, ?_, ?_⟩
  · rw [hf 9 (by decide) (by decide) (by decide) (by decide)]; exact b
  · rw [hf 9 (by decide) (by decide) (by decide) (by decide)]; exact c
  · rw [hf 9 (by decide) (by decide) (by decide) (by decide)]; exact d
  · rw [hf 10 (by decide) (by decide) (by decide) (by decide)]; exact e
theorem tm_cf_f {m m' : tg_Mem} {k : Nat} (h : tm_cf m P A B Y ρ h0 h1 w) (hf : tu_fr m m' k) : tm_cf m' P A B Y ρ h0 h1 w := tm_cf_g h hf.1 (hf.2.1 8 (by decide) (by decide))
theorem r_enters {k : Nat} {a b c : Int} {m : tg_Mem} (hk : k ≤ 5) : ∃ m', f_X8_enters (k : Int) a b c m = some (0, m') ∧ m' 18 k = a ∧ m' 19 k = b ∧ m' 20 k = c ∧ m' 21 k = -2 ∧ (∀ c, c ≠ 18 → c ≠ 19 → c ≠ 20 → c ≠ 21 → m' c = m c) ∧ ∀ c j, j ≠ k → m' c j = m c j := by
  refine ⟨tg_up (tg_up (tg_up (tg_up m 18 k a) 19 k b) 20 k c) 21 k (-2), ?_, ?_, ?_, ?_, ?_, fun d d1 d2 d3 d4 => ?_, fun d j hj => ?_⟩
  · simp only [f_X8_enters, tg_lt, Int.toNat_natCast]
    rw [tg_ck_pos (by omega), tg_ck_pos (by omega), tg_ck_pos (by omega), tg_ck_pos (by omega)]
  · rw [tg_up_k (by decide), tg_up_k (by decide), tg_up_k (by decide), tg_up_same]
  · rw [tg_up_k (by decide), tg_up_k (by decide), tg_up_same]
  · rw [tg_up_k (by decide), tg_up_same]
  · rw [tg_up_same]
  · rw [tg_up_k d4, tg_up_k d3, tg_up_k d2, tg_up_k d1]
  · rw [tg_up_nj hj, tg_up_nj hj, tg_up_nj hj, tg_up_nj hj]
/-- a way is taken up, and the pick is raised by one -/
theorem r_head {k : Nat} {S : tr_S} {m : tg_Mem} {q : Int} (hcf : tr_cf P A B Y ρ w) (hk : k ≤ 5) (hS : ts_va P A B Y ρ S) (hx : tm_cf m P A B Y ρ h0 h1 w) (h18 : m 18 k = tk_key S) (h21 : m 21 k = q - 1) (hq : -1 ≤ q ∧ q ≤ 100) :
    ∃ m1 m2, f_X8_comesTo (m 18 k) m = some (0, m1) ∧ tg_up m1 21 k (tg_wi (m1 21 k + 1)) = m2 ∧ tm_cf m2 P A B Y ρ h0 h1 w ∧ tm_rp Y m2 S ∧ tu_fr m m2 k ∧ m2 21 k = q ∧ ∀ c, c ≠ 21 → 18 ≤ c → m2 c = m c := by
  obtain ⟨m1, a1, a2, a3, a4⟩ := r_comes (m := m) hcf.1 hS.1 (ts_va_l hcf.1 hcf.2.1.2 hS) hx.1
  obtain ⟨m2, hm2⟩ : ∃ m2, m2 = tg_up m1 21 k (tg_wi (m1 21 k + 1)) := ⟨_, rfl⟩
  have f2 : ∀ c, c ≠ 0 → c ≠ 11 → c ≠ 12 → c ≠ 21 → m2 c = m c := fun c c1 c2 c3 c4 => by rw [hm2, tg_up_k c4, a3 c c1 c2 c3]
  have f20 : ∀ j, j ≠ 15 → j ≠ 16 → m2 0 j = m 0 j := fun j j1 j2 => by rw [hm2, tg_up_k (by decide), a4 j j1 j2]
  have f21 : ∀ j, j ≠ k → m2 21 j = m 21 j := fun j hj => by rw [hm2, tg_up_nj hj, a3 21 (by decide) (by decide) (by decide)]
  refine ⟨m1, m2, by rw [h18]; exact a1, hm2.symm, tm_cf_g hx (fun c c1 c2 c3 c4 => f2 c c1 c2 c3 (by omega)) (f20 8 (by decide) (by decide)), tm_rp_of a2 (by rw [hm2, tg_up_k (by decide)]) (by rw [hm2, tg_up_k (by decide)]) (by rw [hm2, tg_up_k (by decide)]) (by rw [hm2, tg_up_k (by decide)]), ⟨fun c c1 c2 c3 c4 => f2 c c1 c2 c3 (by omega), f20, fun c c1 c2 j hj => ?_⟩, ?_, fun c c1 c2 => f2 c (by omega) (by omega) (by omega) c1⟩
  · by_cases e : c = 21
    · rw [e]; exact f21 j (by omega)
    · rw [f2 c (by omega) (by omega) (by omega) e]
  · rw [hm2, tg_up_same, a3 21 (by decide) (by decide) (by decide), h21, tg_wi_e (by omega)]; omega
theorem r_it_leaf {n : Nat} {S : tr_S} {m : tg_Mem} {v5 v6 : Int} {j427 : Int → Int → tg_Mem → tg_R} (hcf : tr_cf P A B Y ρ w) (hn : n ≤ 5) (hS : ts_va P A B Y ρ S) (hx : tm_cf m P A B Y ρ h0 h1 w) (h18 : m 18 n = tk_key S) (h21 : m 21 n = -2) :
    ∃ m', (∀ self : Int → Int → Int → tg_Mem → tg_R, f_X8_gameOf_B29 (n : Int) j427 self (n : Int) v5 v6 m = tu_ret n (m 20 n) v5 m' self) ∧ tu_fr m m' n := by
  obtain ⟨m1, m2, a1, a2, a3, a4, a5, a6, a7⟩ := r_head (q := -1) hcf hn hS hx h18 (by omega) (by omega)
  refine ⟨m2, fun self => ?_, a5⟩
  unfold f_X8_gameOf_B29
  simp only [tg_lt]
  rw [if_neg (by omega), tg_ck_pos (by omega), Int.toNat_natCast, a1, tg_bd_some, tg_ck_pos (by omega), tg_ck_pos (by omega), a2]
  refine tg_jn_d (fun J116 hJ116 => ?_)
  have e62 : tg_fx (f_X8_gameOf_B62 (n : Int) (tg_irem (n : Int) 2) J116) (fun _ => none) tg_FU m2 = J116 m2 := by
    obtain ⟨F, hF⟩ : ∃ n : Nat, tg_FU = n + 1 := ⟨tg_FU - 1, by have := tg_FUg; omega⟩
    rw [hF, tg_fx_s]
    unfold f_X8_gameOf_B62
    rw [tg_ck_pos (by omega), Int.toNat_natCast, a6, if_pos (by decide)]
  rw [e62, hJ116]
  dsimp only
  refine tg_jn_d (fun J151 hJ151 => ?_)
  refine tg_jn_d (fun J146 hJ146 => ?_)
  rw [if_pos trivial, hJ146, hJ151]
  dsimp only
  refine tg_jn_d (fun J424 hJ424 => ?_)
  rw [if_neg (show ¬ (1 : Int) = 0 by decide)]
  refine tg_jn_d (fun J181 hJ181 => ?_)
  rw [if_neg (fun z => z rfl), tg_ck_pos (by omega), hJ181]
  dsimp only
  have e20 : m2 20 n = m 20 n := by rw [a7 20 (by decide) (by decide)]
  have hJ : J424 = self := hJ424
  rw [e20, ← hJ]
  exact r_tail hn
theorem r_it_stand {n k : Nat} {S : tr_S} {m : tg_Mem} {v5 v6 : Int} {j427 : Int → Int → tg_Mem → tg_R} (hcf : tr_cf P A B Y ρ w) (hn : n ≤ 5) (hkn : k < n) (hS : ts_va P A B Y ρ S) (hx : tm_cf m P A B Y ρ h0 h1 w) (h18 : m 18 k = tk_key S) (h21 : m 21 k = -2) :
    ∃ m', (∀ self : Int → Int → Int → tg_Mem → tg_R, f_X8_gameOf_B29 (n : Int) j427 self (k : Int) v5 v6 m = self ((k : Int) + 1) v5 v6 m') ∧ tu_fr m m' k ∧ tm_cf m' P A B Y ρ h0 h1 w ∧ (m' 18 k = m 18 k ∧ m' 19 k = m 19 k ∧ m' 20 k = m 20 k ∧ m' 21 k = -1) ∧ m' 18 (k + 1) = tk_key S ∧ m' 19 (k + 1) = m 19 k ∧ m' 20 (k + 1) = m 20 k ∧ m' 21 (k + 1) = -2 := by
  obtain ⟨m1, m2, a1, a2, a3, a4, a5, a6, a7⟩ := r_head (q := -1) hcf (by omega) hS hx h18 (by omega) (by omega)
  have b0 := r_way hcf.1 a4 hS.1 (ts_va_l hcf.1 hcf.2.1.2 hS)
  obtain ⟨m3, b1, b2, b3, b4, b5, b6, b7⟩ := r_enters (k := k + 1) (a := tk_key S) (b := m2 19 k) (c := m2 20 k) (m := m2) (by omega)
  have e19 : m2 19 k = m 19 k := by rw [a7 19 (by decide) (by decide)]
  have e20 : m2 20 k = m 20 k := by rw [a7 20 (by decide) (by decide)]
  have f3 : tu_fr m2 m3 k := ⟨fun c c1 c2 c3 c4 => b6 c (by omega) (by omega) (by omega) (by omega), fun j _ _ => by rw [b6 0 (by decide) (by decide) (by decide) (by decide)], fun c c1 c2 j hj => b7 c j (by omega)⟩
  refine ⟨m3, fun self => ?_, tu_fr_tr a5 f3, tm_cf_f a3 f3, ⟨by rw [b7 18 k (by omega), a7 18 (by decide) (by decide)], by rw [b7 19 k (by omega), e19], by rw [b7 20 k (by omega), e20], by rw [b7 21 k (by omega)]; exact a6⟩, b2, by rw [b3, e19], by rw [b4, e20], b5⟩
  unfold f_X8_gameOf_B29
  simp only [tg_lt]
  rw [if_neg (by omega), tg_ck_pos (by omega), Int.toNat_natCast, a1, tg_bd_some, tg_ck_pos (by omega), tg_ck_pos (by omega), a2]
  refine tg_jn_d (fun J116 hJ116 => ?_)
  have e62 : tg_fx (f_X8_gameOf_B62 (k : Int) (tg_irem (k : Int) 2) J116) (fun _ => none) tg_FU m2 = J116 m2 := by
    obtain ⟨F, hF⟩ : ∃ n : Nat, tg_FU = n + 1 := ⟨tg_FU - 1, by have := tg_FUg; omega⟩
    rw [hF, tg_fx_s]
    unfold f_X8_gameOf_B62
    rw [tg_ck_pos (by omega), Int.toNat_natCast, a6, if_pos (by decide)]
  rw [e62, hJ116]
  dsimp only
  refine tg_jn_d (fun J151 hJ151 => ?_)
  refine tg_jn_d (fun J146 hJ146 => ?_)
  rw [if_neg (by omega), tg_ck_pos (by omega)]
  refine tg_jn_d (fun J150 hJ150 => ?_)
  rw [a6, if_pos (by decide), hJ150, hJ151]
  dsimp only
  refine tg_jn_d (fun J424 hJ424 => ?_)
  have hJ : J424 = self := hJ424
  rw [if_pos rfl, tg_ck_pos (by omega), tg_ck_pos (by omega), tg_ck_pos (by omega)]
  refine tg_jn_d (fun J405 hJ405 => ?_)
  rw [if_pos a6, hJ405]
  dsimp only
  rw [b0, tg_bd_some, tg_wi_e (by omega), show (k : Int) + 1 = ((k + 1 : Nat) : Int) by omega, b1, tg_bd_some, hJ]
end RROUND
