-- the reference's game: a round that takes a path, or that is through
section RSTEP
variable {P : Int} {A B Y : Int → Int} {ρ h0 h1 : Int} {w : Int → Int}
def tu_sg (k : Nat) (v : Int) : Int := if k % 2 = 0 then v else -v
theorem r_it_step {n k N : Nat} {p best step : Int} {S : tr_S} {m : tg_Mem} {v5 v6 bare sum : Int} {T : tr_S → Int → Int} {j427 : Int → Int → tg_Mem → tg_R} (hcf : tr_cf P A B Y ρ w) (hn : n ≤ 5) (hkn : k < n) (hS : ts_va P A B Y ρ S) (hx : tm_cf m P A B Y ρ h0 h1 w) (h18 : m 18 k = tk_key S) (h19 : m 19 k = bare) (h20 : m 20 k = sum) (hsum : -1000 ≤ sum ∧ sum ≤ 1000) (hp : 0 ≤ p) (hpN : p + N = P) (h21 : m 21 k = p - 1) :
    ∃ (q : Int) (N' : Nat) (m' : tg_Mem), p ≤ q ∧ N' ≤ N ∧ q + N' = P ∧ tu_f P A B Y ρ w T ((k % 2 : Nat) : Int) S bare N p best step = tu_f P A B Y ρ w T ((k % 2 : Nat) : Int) S bare N' q best step ∧ tu_fr m m' k ∧ tm_cf m' P A B Y ρ h0 h1 w ∧ (m' 18 k = m 18 k ∧ m' 19 k = m 19 k ∧ m' 20 k = m 20 k ∧ m' 21 k = q ∧ m' 22 k = m 22 k) ∧
      ((N' = 0 ∧ ∀ self : Int → Int → Int → tg_Mem → tg_R, f_X8_gameOf_B29 (n : Int) j427 self (k : Int) v5 v6 m = tu_ret k (m 22 k) v5 m' self) ∨
       (0 < N' ∧ ts_ok P A B Y ρ ((k % 2 : Nat) : Int) q S = true ∧ (∀ self : Int → Int → Int → tg_Mem → tg_R, f_X8_gameOf_B29 (n : Int) j427 self (k : Int) v5 v6 m = self ((k : Int) + 1) v5 v6 m') ∧ m' 18 (k + 1) = tk_key (tr_go A B ((k % 2 : Nat) : Int) q S) ∧ m' 19 (k + 1) = tu_b bare (tr_at ((k % 2 : Nat) : Int) (tr_go A B ((k % 2 : Nat) : Int) q S)) ∧
          m' 20 (k + 1) = sum + tu_sg k (tr_wo w (tr_at ((k % 2 : Nat) : Int) (tr_go A B ((k % 2 : Nat) : Int) q S)) bare) ∧ m' 21 (k + 1) = -2)) := by
  have hP8 := hcf.1.2.1
  have hlS := ts_va_l hcf.1 hcf.2.1.2 hS
  have hlb := tr_I_b hcf.1 hS.1
  obtain ⟨g, hg⟩ : ∃ g : Int, g = ((k % 2 : Nat) : Int) := ⟨_, rfl⟩
  have hg01 : g = 0 ∨ g = 1 := by omega
  obtain ⟨m1, m2, a1, a2, a3, a4, a5, a6, a7⟩ := r_head (q := p) hcf (by omega) hS hx h18 h21 (by omega)
  have eg : tg_irem (k : Int) 2 = g := by rw [tu_irem2 (by omega), hg]
  rw [← hg]
  obtain ⟨q, N', m3, p1, p2, p3, p4, p5, p6, p7, p8, p9⟩ := r_pickl (k := k) (g := g) (bare := bare) (T := T) (w := w) hcf.1 hcf.2.1 hS hg01 (by omega) N p m2 hp hpN a3.1 a3.2.1 a4 a6
  have f3 : tu_fr m2 m3 k := ⟨fun c c1 c2 c3 c4 => p8 c (by omega), fun j _ _ => by rw [p8 0 (by decide)], fun c c1 c2 j hj => by
    by_cases e : c = 21
    · rw [e, p9 j (by omega)]
    · rw [p8 c e]⟩
  have hx3 : tm_cf m3 P A B Y ρ h0 h1 w := tm_cf_f a3 f3
  have r3 : tm_rp Y m3 S := tm_rp_of a4 (p8 11 (by decide)) (p8 12 (by decide)) (by rw [p8 0 (by decide)]) (by rw [p8 0 (by decide)])
  have g3 : ∀ c, c ≠ 21 → 18 ≤ c → m3 c = m c := fun c c1 c2 => by rw [p8 c c1, a7 c c1 c2]
  by_cases hq : q < P
  · -- a path is taken
    have hok := p5 hq
    obtain ⟨ht, hlen⟩ := ts_ok_e.mp hok
    have hva := ts_ok_va hcf.1 hg01 hS hok
    have hat := tr_at_b (g := g) hcf.1 hva.1
    obtain ⟨m4, b1, b2, b3, b4⟩ := r_goes hcf.1 hx3.1 r3 hg01 ht (tr_at_b hcf.1 hS.1) (by have := hS.2; have := hcf.2.1; omega) (by omega)
    have hx4 : tm_cf m4 P A B Y ρ h0 h1 w := tm_cf_g hx3 (fun c c1 c2 c3 _ => b3 c c1 c2 c3) (b4 8 (by decide) (by decide))
    obtain ⟨X, hX⟩ : ∃ X, X = tr_go A B g q S := ⟨_, rfl⟩
    rw [← hX] at hva hat b2
    have e11 : m4 11 g.toNat = tr_at g X := by
      unfold tr_at
      rcases hg01 with h | h
      · rw [h]; exact b2.1
      · rw [h]; exact b2.2.1
    have b5 := r_way hcf.1 b2 hva.1 (ts_va_l hcf.1 hcf.2.1.2 hva)
    obtain ⟨pl, hpl⟩ : ∃ pl, pl = tr_at g X := ⟨_, rfl⟩
    rw [← hpl] at hat e11
    have he : 0 ≤ tr_wo w pl bare ∧ tr_wo w pl bare ≤ 99 := tr_wo_b (hcf.2.2 _ hat.1 hat.2)
    have e10 : m4 10 pl.toNat = w pl := hx4.2.2.2.2 pl hat.1 hat.2
    obtain ⟨e, hE⟩ : ∃ e, e = tr_wo w pl bare := ⟨_, rfl⟩
    obtain ⟨m5, c1, c2, c3, c4, c5, c6, c7⟩ := r_enters (k := k + 1) (a := tk_key X) (b := tu_b bare pl) (c := sum + tu_sg k e) (m := m4) (by omega)
    have f5 : tu_fr m3 m5 k := ⟨fun c z1 z2 z3 z4 => by rw [c6 c (by omega) (by omega) (by omega) (by omega), b3 c z1 z2 z3], fun j j1 j2 => by rw [c6 0 (by decide) (by decide) (by decide) (by decide), b4 j j1 j2], fun c z1 z2 j hj => by rw [c7 c j (by omega), b3 c (by omega) (by omega) (by omega)]⟩
    have g5 : ∀ c, 18 ≤ c → m5 c k = m3 c k := fun c z1 => by rw [c7 c k (by omega), b3 c (by omega) (by omega) (by omega)]
    refine ⟨q, N', m5, p2, p3, p4, p6 best step, tu_fr_tr (tu_fr_tr a5 f3) f5, tm_cf_f hx3 f5, ⟨by rw [g5 18 (by decide), g3 18 (by decide) (by decide)], by rw [g5 19 (by decide), g3 19 (by decide) (by decide)], by rw [g5 20 (by decide), g3 20 (by decide) (by decide)], by rw [g5 21 (by decide)]; exact p7, by rw [g5 22 (by decide), g3 22 (by decide) (by decide)]⟩, Or.inr ⟨by omega, hok, fun self => ?_, by rw [← hX]; exact c2, by rw [← hX, ← hpl]; exact c3, by rw [← hX, ← hpl, ← hE]; exact c4, c5⟩⟩
    unfold f_X8_gameOf_B29
    simp only [tg_lt]
    rw [if_neg (by omega), tg_ck_pos (by omega), Int.toNat_natCast, a1, tg_bd_some, tg_ck_pos (by omega), tg_ck_pos (by omega), a2, eg]
    refine tg_jn_d (fun J116 hJ116 => ?_)
    rw [p1 J116 tg_FU (by have := tg_FUg; have := hcf.1.2.1; omega), hJ116]
    dsimp only
    refine tg_jn_d (fun J151 hJ151 => ?_)
    refine tg_jn_d (fun J146 hJ146 => ?_)
    rw [if_neg (by omega), tg_ck_pos (by omega)]
    refine tg_jn_d (fun J150 hJ150 => ?_)
    rw [p7, if_neg (by omega), tg_ck_pos (by omega), hx3.1.1, if_pos hq, hJ150, hJ151]
    dsimp only
    refine tg_jn_d (fun J424 hJ424 => ?_)
    have hJ : J424 = self := hJ424
    rw [if_pos rfl, tg_ck_pos (by omega), tg_ck_pos (by omega), tg_ck_pos (by omega)]
    refine tg_jn_d (fun J405 hJ405 => ?_)
    rw [p7, if_neg (by omega), b1, tg_bd_some, tg_ck_pos (by omega), e11]
    refine tg_jn_d (fun J376 hJ376 => ?_)
    have e20 : m3 20 k = sum := by rw [g3 20 (by decide) (by decide)]; exact h20
    have e19 : m3 19 k = bare := by rw [g3 19 (by decide) (by decide)]; exact h19
    have e376 : J376 e = self ((k : Int) + 1) v5 v6 m5 := by
      rw [hJ376]
      dsimp only
      refine tg_jn_d (fun J393 hJ393 => ?_)
      have e393 : J393 (tu_sg k e) = self ((k : Int) + 1) v5 v6 m5 := by
        have hsg : -99 ≤ tu_sg k e ∧ tu_sg k e ≤ 99 := by
          unfold tu_sg
          split <;> omega
        rw [hJ393]
        dsimp only
        rw [hJ405]
        dsimp only
        rw [b5, tg_bd_some, tg_wi_e (a := (k : Int) + 1) (by omega), show (k : Int) + 1 = ((k + 1 : Nat) : Int) by omega, e20, e19, tg_wi_e (a := sum + tu_sg k e) (by omega)]
        show tg_bd (f_X8_enters ((k + 1 : Nat) : Int) (tk_key X) (tu_b bare pl) (sum + tu_sg k e) m4) _ = _
        rw [c1, tg_bd_some, hJ]
      rw [← e393]
      unfold tu_sg
      by_cases hk2 : k % 2 = 0
      · rw [if_neg (by omega), if_pos hk2]
      · rw [if_pos (by omega), if_neg hk2, tg_wi_e (by omega)]
    rw [e19]
    unfold tr_wo at hE
    by_cases hbit : tg_iand (tg_ishr bare pl) 1 = 0
    · rw [if_pos hbit] at hE
      rw [if_neg (fun z => z hbit), tg_ck_pos (by omega), e10, ← hE]
      exact e376
    · rw [if_neg hbit] at hE
      rw [if_pos hbit, ← hE]
      exact e376
  · -- all paths were tried
    have hN0 : N' = 0 := by omega
    refine ⟨q, N', m3, p2, p3, p4, p6 best step, tu_fr_tr a5 f3, hx3, ⟨by rw [g3 18 (by decide) (by decide)], by rw [g3 19 (by decide) (by decide)], by rw [g3 20 (by decide) (by decide)], p7, by rw [g3 22 (by decide) (by decide)]⟩, Or.inl ⟨hN0, fun self => ?_⟩⟩
    unfold f_X8_gameOf_B29
    simp only [tg_lt]
    rw [if_neg (by omega), tg_ck_pos (by omega), Int.toNat_natCast, a1, tg_bd_some, tg_ck_pos (by omega), tg_ck_pos (by omega), a2, eg]
    refine tg_jn_d (fun J116 hJ116 => ?_)
    rw [p1 J116 tg_FU (by have := tg_FUg; have := hcf.1.2.1; omega), hJ116]
    dsimp only
    refine tg_jn_d (fun J151 hJ151 => ?_)
    refine tg_jn_d (fun J146 hJ146 => ?_)
    rw [if_neg (by omega), tg_ck_pos (by omega)]
    refine tg_jn_d (fun J150 hJ150 => ?_)
    rw [p7, if_neg (by omega), tg_ck_pos (by omega), hx3.1.1, if_neg hq, hJ146, hJ151]
    dsimp only
    refine tg_jn_d (fun J424 hJ424 => ?_)
    have hJ : J424 = self := hJ424
    rw [if_neg (show ¬ (1 : Int) = 0 by decide)]
    refine tg_jn_d (fun J181 hJ181 => ?_)
    rw [if_pos (by omega), tg_ck_pos (by omega), hJ181]
    dsimp only
    have e22 : m3 22 k = m 22 k := by rw [g3 22 (by decide) (by decide)]
    rw [e22, ← hJ]
    exact r_tail (by omega)
end RSTEP
