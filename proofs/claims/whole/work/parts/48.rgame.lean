-- the reference's game: one round of its loop
section RGAME
variable {P : Int} {A B Y : Int → Int} {ρ h0 h1 : Int} {w : Int → Int}
abbrev tu_bt (k : Nat) (V : Int) (m : tg_Mem) : Prop := (k % 2 = 0 ∧ m 22 k < V) ∨ (k % 2 ≠ 0 ∧ V < m 22 k)
def tu_ret (k : Nat) (V v5 : Int) (m : tg_Mem) (self : Int → Int → Int → tg_Mem → tg_R) : tg_R :=
  match k with
  | 0 => self (-1) v5 V m
  | k + 1 => if m 21 k = -1 ∨ tu_bt k V m then self (k : Int) (if k = 0 then m 21 0 else v5) V (tg_up m 22 k V) else self (k : Int) v5 V (tg_up m 22 k (m 22 k))
theorem tu_irem2 {k : Nat} (h : k ≤ 100) : tg_irem (k : Int) 2 = ((k % 2 : Nat) : Int) := by
  rw [tg_irem_pos (by omega) (by decide)]; omega
theorem r_tail {k : Nat} (hk : k ≤ 5) {V v5 : Int} {m_116 : tg_Mem} {j424 : Int → Int → Int → tg_Mem → tg_R} :
    (tg_lt (tg_wi ((k : Int) + (-1))) (fun v4_183 =>
      if v4_183 < 0 then
        j424 v4_183 v5 V m_116
      else
        tg_ck (0 ≤ v4_183 ∧ v4_183 < 6) (
          tg_jn (γ := Int → tg_R) (fun (s0_207 : Int) => tg_jn (γ := Int → tg_R) (fun (s0_253 : Int) => tg_jn (γ := Int → tg_R) (fun (s0_276 : Int) => tg_jn (γ := Int → tg_R) (fun (s0_301 : Int) => tg_ck (0 ≤ v4_183 ∧ v4_183 < 6) (
            tg_lt (tg_up m_116 22 (v4_183).toNat s0_301) (fun m301 =>
              j424 v4_183 s0_276 V m301))) (fun j301 =>
            if s0_253 = 0 then
              tg_ck (0 ≤ v4_183 ∧ v4_183 < 6) (
                j301 (m_116 22 (v4_183).toNat))
            else
              j301 V)) (fun j276 =>
            tg_jn (γ := tg_R) (j276 v5) (fun j274 =>
              if s0_253 = 0 then
                j274
              else
                if v4_183 ≠ 0 then
                  j274
                else
                  tg_ck (0 ≤ 0 ∧ 0 < 6) (
                    j276 (m_116 21 0))))) (fun j253 =>
            tg_jn (γ := tg_R) (j253 1) (fun j248 =>
              if s0_207 ≠ 0 then
                j248
              else
                tg_jn (γ := tg_R) (j253 0) (fun j252 =>
                  if tg_irem v4_183 2 ≠ 0 then
                    tg_ck (0 ≤ v4_183 ∧ v4_183 < 6) (
                      if m_116 22 (v4_183).toNat ≤ V then
                        j252
                      else
                        j248)
                  else
                    tg_ck (0 ≤ v4_183 ∧ v4_183 < 6) (
                      if V ≤ m_116 22 (v4_183).toNat then
                        j252
                      else
                        j248))))) (fun j207 =>
            if m_116 21 (v4_183).toNat ≠ (-1) then
              j207 0
            else
              j207 1)))) = tu_ret k V v5 m_116 j424 := by
  cases k with
  | zero =>
    simp only [tg_lt]
    rw [tg_wi_e (by decide), if_pos (by decide)]
    rfl
  | succ k =>
    simp only [tg_lt]
    rw [tg_wi_e (by omega), show ((k + 1 : Nat) : Int) + (-1) = (k : Int) by omega, if_neg (by omega), tg_ck_pos (by omega)]
    simp only [Int.toNat_natCast]
    refine tg_jn_d (fun J207 hJ207 => ?_)
    have e207 : ∀ z : Int, J207 z = if z ≠ 0 ∨ tu_bt k V m_116 then j424 (k : Int) (if k = 0 then m_116 21 0 else v5) V (tg_up m_116 22 k V) else j424 (k : Int) v5 V (tg_up m_116 22 k (m_116 22 k)) := by
      intro z
      rw [hJ207]
      dsimp only
      refine tg_jn_d (fun J253 hJ253 => ?_)
      have e253 : ∀ b : Int, J253 b = if b = 0 then j424 (k : Int) v5 V (tg_up m_116 22 k (m_116 22 k)) else j424 (k : Int) (if k = 0 then m_116 21 0 else v5) V (tg_up m_116 22 k V) := by
        intro b
        rw [hJ253]
        dsimp only
        refine tg_jn_d (fun J276 hJ276 => ?_)
        have e276 : ∀ u : Int, J276 u = if b = 0 then j424 (k : Int) u V (tg_up m_116 22 k (m_116 22 k)) else j424 (k : Int) u V (tg_up m_116 22 k V) := by
          intro u
          rw [hJ276]
          dsimp only
          refine tg_jn_d (fun J301 hJ301 => ?_)
          by_cases hb : b = 0
          · rw [if_pos hb, if_pos hb, tg_ck_pos (by omega), hJ301]
            dsimp only
            rw [tg_ck_pos (by omega)]
          · rw [if_neg hb, if_neg hb, hJ301]
            dsimp only
            rw [tg_ck_pos (by omega)]
        refine tg_jn_d (fun J274 hJ274 => ?_)
        rw [hJ274]
        by_cases hb : b = 0
        · rw [if_pos hb, if_pos hb, e276, if_pos hb]
        · rw [if_neg hb, if_neg hb]
          by_cases hk0 : k = 0
          · rw [if_neg (by omega), if_pos hk0, tg_ck_pos (by decide), e276, if_neg hb]
          · rw [if_pos (by omega), if_neg hk0, e276, if_neg hb]
      refine tg_jn_d (fun J248 hJ248 => ?_)
      rw [hJ248]
      by_cases hz : z ≠ 0
      · rw [if_pos hz, if_pos (Or.inl hz), e253, if_neg (by decide)]
      · rw [if_neg hz]
        refine tg_jn_d (fun J252 hJ252 => ?_)
        rw [hJ252, tu_irem2 (by omega), e253, e253, if_pos rfl, if_neg (show ¬ (1 : Int) = 0 by decide)]
        by_cases hk2 : k % 2 = 0
        · rw [if_neg (by omega), tg_ck_pos (by omega)]
          by_cases hv : V ≤ m_116 22 k
          · rw [if_pos hv, if_neg (c := z ≠ 0 ∨ tu_bt k V m_116) (fun y => by omega)]
          · rw [if_neg hv, if_pos (c := z ≠ 0 ∨ tu_bt k V m_116) (Or.inr (Or.inl ⟨hk2, by omega⟩))]
        · rw [if_pos (by omega), tg_ck_pos (by omega)]
          by_cases hv : m_116 22 k ≤ V
          · rw [if_pos hv, if_neg (c := z ≠ 0 ∨ tu_bt k V m_116) (fun y => by omega)]
          · rw [if_neg hv, if_pos (c := z ≠ 0 ∨ tu_bt k V m_116) (Or.inr (Or.inr ⟨hk2, by omega⟩))]
    unfold tu_ret
    dsimp only
    by_cases h1 : m_116 21 k = -1
    · rw [if_neg (fun z => z h1), e207, if_pos (Or.inl (by decide)), if_pos (Or.inl h1)]
    · rw [if_pos h1, e207]
      by_cases h2 : tu_bt k V m_116
      · rw [if_pos (Or.inr h2), if_pos (Or.inr h2)]
      · rw [if_neg (fun z => z.elim (fun y => y rfl) h2), if_neg (fun z => z.elim h1 h2)]
theorem r_may {g q : Int} {S : tr_S} {m : tg_Mem} (hm : tr_md P A B Y) (hρ : 1 ≤ ρ ∧ ρ ≤ 18) (hS : ts_va P A B Y ρ S) (hx : tm_md m P A B Y) (h9 : m 9 2 = ρ) (hr : tm_rp Y m S) (hg : g = 0 ∨ g = 1) (hq : 0 ≤ q ∧ q < P) : f_X8_mayPick g q m = some (if ts_ok P A B Y ρ g q S = true then 1 else 0, m) := by
  have hlS := ts_va_l hm hρ.2 hS
  have hlb := tr_I_b hm hS.1
  have hl0 := hS.2
  have e11 : m 11 g.toNat = tr_at g S := by
    unfold tr_at
    rcases hg with h | h
    · rw [h]; exact hr.1
    · rw [h]; exact hr.2.1
  simp only [f_X8_mayPick, tg_jn]
  rw [if_neg (by omega), tg_ck_pos (by omega), e11]
  by_cases ht : tr_tch P A B q (tr_at g S)
  · rw [r_touchT hm hx ht, tg_bd_some, if_neg (by decide), r_lenB hm hx hr hg hq (by omega), tg_bd_some, tg_ck_pos (by decide), h9]
    by_cases hlen : tr_len Y (tr_go A B g q S).2.2 ≤ ρ
    · rw [if_neg (by omega), if_pos (ts_ok_e.mpr ⟨ht, hlen⟩)]
    · rw [if_pos (by omega), if_neg (fun z => hlen (ts_ok_e.mp z).2)]
  · rw [r_touchF hm hx hq ht, tg_bd_some, if_pos rfl, if_neg (fun z => ht (ts_ok_e.mp z).1)]
theorem r_pickl {k : Nat} {g bare : Int} {S : tr_S} {T : tr_S → Int → Int} (hm : tr_md P A B Y) (hρ : 1 ≤ ρ ∧ ρ ≤ 18) (hS : ts_va P A B Y ρ S) (hg : g = 0 ∨ g = 1) (hk : k ≤ 5) : ∀ (N : Nat) (p : Int) (m : tg_Mem), 0 ≤ p → p + N = P → tm_md m P A B Y → m 9 2 = ρ → tm_rp Y m S → m 21 k = p →
    ∃ (q : Int) (N' : Nat) (m' : tg_Mem), (∀ (J : tg_Mem → tg_R) (F : Nat), N < F → tg_fx (f_X8_gameOf_B62 (k : Int) g J) (fun _ => none) F m = J m') ∧ p ≤ q ∧ N' ≤ N ∧ q + N' = P ∧ (q < P → ts_ok P A B Y ρ g q S = true) ∧ (∀ best step, tu_f P A B Y ρ w T g S bare N p best step = tu_f P A B Y ρ w T g S bare N' q best step) ∧ m' 21 k = q ∧ (∀ c, c ≠ 21 → m' c = m c) ∧ ∀ j, j ≠ k → m' 21 j = m 21 j := by
  intro N
  induction N with
  | zero =>
    intro p m hp hpN hx h9 hr h21
    refine ⟨p, 0, m, fun J F hF => ?_, by omega, by omega, hpN, fun z => by omega, fun _ _ => rfl, h21, fun _ _ => rfl, fun _ _ => rfl⟩
    obtain ⟨F, rfl⟩ : ∃ n', F = n' + 1 := ⟨F - 1, by omega⟩
    rw [tg_fx_s]
    unfold f_X8_gameOf_B62
    simp only [Int.toNat_natCast]
    rw [tg_ck_pos (by omega), h21, if_neg (by omega), tg_ck_pos (by omega), hx.1, if_pos (by omega)]
  | succ N ih =>
    intro p m hp hpN hx h9 hr h21
    have hP8 := hm.2.1
    by_cases hok : ts_ok P A B Y ρ g p S = true
    · refine ⟨p, N + 1, m, fun J F hF => ?_, by omega, by omega, hpN, fun z => hok, fun _ _ => rfl, h21, fun _ _ => rfl, fun _ _ => rfl⟩
      obtain ⟨F, rfl⟩ : ∃ n', F = n' + 1 := ⟨F - 1, by omega⟩
      rw [tg_fx_s]
      unfold f_X8_gameOf_B62
      simp only [Int.toNat_natCast]
      rw [tg_ck_pos (by omega), h21, if_neg (by omega), tg_ck_pos (by omega), hx.1, if_neg (by omega), tg_ck_pos (by omega), r_may hm hρ hS hx h9 hr hg (by omega), tg_bd_some, if_pos hok, if_pos (by decide)]
    · obtain ⟨m1, hm1⟩ : ∃ m1, m1 = tg_up m 21 k (p + 1) := ⟨_, rfl⟩
      have f1 : ∀ c, c ≠ 21 → m1 c = m c := fun c h => by rw [hm1, tg_up_k h]
      obtain ⟨q, N', m', q1, q2, q3, q4, q5, q6, q7, q8, q9⟩ := ih (p + 1) m1 (by omega) (by omega) (tm_md_of hx (by rw [f1 0 (by decide)]) (f1 7 (by decide))) (by rw [f1 9 (by decide)]; exact h9) (tm_rp_of hr (f1 11 (by decide)) (f1 12 (by decide)) (by rw [f1 0 (by decide)]) (by rw [f1 0 (by decide)])) (by rw [hm1, tg_up_same])
      refine ⟨q, N', m', fun J F hF => ?_, by omega, by omega, q4, q5, fun best step => ?_, q7, fun c h => by rw [q8 c h, f1 c h], fun j h => by rw [q9 j h, hm1, tg_up_j h]⟩
      · obtain ⟨F, rfl⟩ : ∃ n', F = n' + 1 := ⟨F - 1, by omega⟩
        have q1 := q1 J F (by omega)
        rw [tg_fx_s]
        generalize tg_fx (f_X8_gameOf_B62 (k : Int) g J) (fun _ => none) F = G at q1 ⊢
        unfold f_X8_gameOf_B62
        simp only [tg_lt]
        rw [tg_ck_pos (by omega), Int.toNat_natCast, if_neg (by omega), tg_ck_pos (by omega), hx.1, if_neg (by omega), tg_ck_pos (by omega), h21, r_may hm hρ hS hx h9 hr hg (by omega), tg_bd_some, if_neg hok, if_neg (by decide), tg_ck_pos (by omega), tg_ck_pos (by omega), h21, tg_wi_e (by omega), ← hm1]
        exact q1
      · have e : tu_f P A B Y ρ w T g S bare (N + 1) p best step = tu_f P A B Y ρ w T g S bare N (p + 1) best step := by
          show (if ts_ok P A B Y ρ g p S = true then _ else _) = _
          rw [if_neg hok]
        rw [e]; exact q6 best step
end RGAME
