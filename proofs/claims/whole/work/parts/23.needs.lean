-- the rope that a day needs when it is bound by nothing
def tn_run (P : Int) (A B Y : Int → Int) (c : Int → Int) : Nat → Int → (Int × Int × List Int) → Int → Int
  | 0, _, _, v => v
  | n + 1, k, S, v => if c k ≠ -1 ∧ (0 ≤ c k % 8 ∧ c k % 8 < P ∧ (A (c k % 8) = tr_at (c k / 8) S ∨ B (c k % 8) = tr_at (c k / 8) S)) then
      tn_run P A B Y c n (k + 1) (tr_go A B (c k / 8) (c k % 8) S) (if tr_len Y (tr_go A B (c k / 8) (c k % 8) S).2.2 ≤ v then v else tr_len Y (tr_go A B (c k / 8) (c k % 8) S).2.2)
    else v
theorem tg_max_e (a b : Int) : tg_max a b = if b ≤ a then a else b := by
  unfold tg_max; split <;> split <;> omega
section NEED
variable {P : Int} {A B Y : Int → Int} {k : Nat}
theorem c_needl {c : Int → Int} {n0 : Int} {j60 : Int → tg_Mem → tg_R} (hj : ∀ v q, j60 v q = some (v, q)) (hk : 10 ≤ k) (hm : tr_md P A B Y) (hcode : ∀ k, c k = -1 ∨ (0 ≤ c k ∧ c k ≤ 15)) (hn0 : 0 ≤ n0 ∧ n0 ≤ 40) :
    ∀ (N : Nat) (i v : Int) (S : Int × Int × List Int) (x : tg_Mem) (n : Nat), N < n → 0 ≤ i → i + N = n0 → tc_md x P A B Y → tc_rp Y (k + 3) x S → tr_I P A B S → S.2.2.length ≤ i → x (k + 1) 1 = n0 → (∀ i : Int, 0 ≤ i → i < n0 → (-1 ≤ x (k + 2) i.toNat ∧ x (k + 2) i.toNat ≤ 255) ∧ c i = tr_code (x (k + 2) i.toNat)) →
    ∃ x', tg_fx (f_X0_longestUnbound_B15 k j60) (fun _ _ _ => none) n v i x = some (tn_run P A B Y c N i S v, x') ∧ (∀ c, c ≠ k + 3 → c ≠ k + 4 → c ≠ k + 5 → x' c = x c) := by
  intro N
  induction N with
  | zero =>
    intro i v S x n hn hi hiN hc hr hI hl h1 hb
    obtain ⟨n, rfl⟩ : ∃ n', n = n' + 1 := ⟨n - 1, by omega⟩
    refine ⟨x, ?_, fun _ _ _ _ => rfl⟩
    rw [tg_fx_s]
    unfold f_X0_longestUnbound_B15
    rw [if_pos (by omega)]; rfl
  | succ N ih =>
    intro i v S x n hn hi hiN hc hr hI hl h1 hb
    obtain ⟨n, rfl⟩ : ∃ n', n = n' + 1 := ⟨n - 1, by omega⟩
    obtain ⟨hb1, hb2⟩ := hb i hi (by omega)
    have ebyte := b_byteAt1 (k := k + 1) (i := i) (m := x) (by omega) (by omega)
    have ecode := c_code (x := x) hb1
    rw [← hb2] at ecode
    have hlb := tr_I_b hm hI
    rw [tg_fx_s]
    unfold tn_run
    generalize hG : tg_fx (f_X0_longestUnbound_B15 k j60) (fun _ _ _ => none) n = G at ih ⊢
    unfold f_X0_longestUnbound_B15
    rw [if_neg (by omega), ebyte, tg_bd_some, ecode, tg_bd_some]
    by_cases hc1 : c i = -1
    · rw [if_pos hc1, if_neg (fun z => z.1 hc1)]
      exact ⟨x, rfl, fun _ _ _ _ => rfl⟩
    · rw [if_neg hc1]
      have hc15 : 0 ≤ c i ∧ c i ≤ 15 := by have := hcode i; omega
      have hg : c i / 8 = 0 ∨ c i / 8 = 1 := by omega
      have e3 : tg_ishr (c i) 3 = c i / 8 := tg_ishr3 (by omega)
      have e7 : tg_iand (c i) 7 = c i % 8 := tg_iand7 (by omega)
      rw [e3, e7]
      by_cases ht : tr_tch P A B (c i % 8) (tr_at (c i / 8) S)
      · obtain ⟨x1, e1, e2, e4⟩ := c_go (k := k + 3) (by omega) hm hc hr hg ⟨ht.1, ht.2.1⟩ (by omega) (by omega)
        have z1 : x1 (k + 1) = x (k + 1) := e4 _ (by omega) (by omega) (by omega)
        have z2 : x1 (k + 2) = x (k + 2) := e4 _ (by omega) (by omega) (by omega)
        have b5 : x1 (k + 3) 5 = tr_len Y (tr_go A B (c i / 8) (c i % 8) S).2.2 := e2.2.2.2.1
        have hlen := tr_go_length (A := A) (B := B) (g := c i / 8) (p := c i % 8) (S := S)
        rw [c_canGoT hm hc hr hg ht, tg_bd_some, if_pos (by decide), e1, tg_bd_some, if_pos ⟨hc1, ht⟩]
        simp only [tg_lt]
        rw [b5, tg_max_e, tg_wi_e (by omega)]
        obtain ⟨x', q1, q2⟩ := ih (i + 1) (if tr_len Y (tr_go A B (c i / 8) (c i % 8) S).2.2 ≤ v then v else tr_len Y (tr_go A B (c i / 8) (c i % 8) S).2.2) (tr_go A B (c i / 8) (c i % 8) S) x1 n (by omega) (by omega) (by omega) (tc_md_of hc (by rw [e4 1 (by omega) (by omega) (by omega)]) (e4 7 (by omega) (by omega) (by omega)) (e4 8 (by omega) (by omega) (by omega)) (e4 9 (by omega) (by omega) (by omega))) e2 (tr_go_I hm hg hI ht) (by omega) (by rw [z1]; exact h1) (by rw [z2]; exact hb)
        rw [hG] at q1
        exact ⟨x', q1, fun c c1 c2 c3 => by rw [q2 c c1 c2 c3, e4 c c1 (by omega) (by omega)]⟩
      · rw [c_canGoF hm hc hr hg ht, tg_bd_some, if_neg (by decide), hj, if_neg (fun z => ht z.2)]
        exact ⟨x, rfl, fun _ _ _ _ => rfl⟩
theorem r_needl {c : Int → Int} {n0 d : Int} (hd : d = 0 ∨ d = 1) (hm : tr_md P A B Y) (hcode : ∀ k, c k = -1 ∨ (0 ≤ c k ∧ c k ≤ 15)) (hn0 : 0 ≤ n0 ∧ n0 ≤ 40) :
    ∀ (N : Nat) (i v : Int) (S : Int × Int × List Int) (x : tg_Mem) (n : Nat), N < n → 0 ≤ i → i + N = n0 → tm_md x P A B Y → tm_rp Y x S → tr_I P A B S → S.2.2.length ≤ i → x 6 (1 + d).toNat = n0 → (∀ i : Int, 0 ≤ i → i < n0 → (0 ≤ x 5 (40 + 40 * d + i).toNat ∧ x 5 (40 + 40 * d + i).toNat ≤ 255) ∧ c i = tr_code (x 5 (40 + 40 * d + i).toNat)) →
    ∃ x', tg_fx (f_X8_needsOf_B9 d) (fun _ _ _ => none) n v i x = some (tn_run P A B Y c N i S v, x') ∧ tm_fr x x' := by
  intro N
  induction N with
  | zero =>
    intro i v S x n hn hi hiN hc hr hI hl h1 hb
    obtain ⟨n, rfl⟩ : ∃ n', n = n' + 1 := ⟨n - 1, by omega⟩
    refine ⟨x, ?_, tm_fr_rf _⟩
    rw [tg_fx_s]
    unfold f_X8_needsOf_B9
    rw [tg_wi_e (by omega), tg_ck_pos (by omega), if_pos (by omega)]; rfl
  | succ N ih =>
    intro i v S x n hn hi hiN hc hr hI hl h1 hb
    obtain ⟨n, rfl⟩ : ∃ n', n = n' + 1 := ⟨n - 1, by omega⟩
    obtain ⟨hb1, hb2⟩ := hb i hi (by omega)
    have hst := r_stepOf hd (by omega) hm hc hr hb1 hb2
    have hlb := tr_I_b hm hI
    rw [tg_fx_s]
    unfold tn_run
    generalize hG : tg_fx (f_X8_needsOf_B9 d) (fun _ _ _ => none) n = G at ih ⊢
    unfold f_X8_needsOf_B9
    rw [tg_wi_e (a := 1 + d) (by omega), tg_ck_pos (by omega), if_neg (by omega), hst, tg_bd_some]
    by_cases ht : c i ≠ -1 ∧ (0 ≤ c i % 8 ∧ c i % 8 < P ∧ (A (c i % 8) = tr_at (c i / 8) S ∨ B (c i % 8) = tr_at (c i / 8) S))
    · rw [if_pos ht, if_pos ht, if_neg ht.1, hst, if_pos ht, tg_bd_some]
      have hc15 : 0 ≤ c i ∧ c i ≤ 15 := by have := hcode i; omega
      have hg : c i / 8 = 0 ∨ c i / 8 = 1 := by omega
      obtain ⟨x1, e1, e2, e3, e4⟩ := r_goes hm hc hr hg ht.2 (tr_at_b hm hI) (by omega) (by omega)
      have hlen := tr_go_length (A := A) (B := B) (g := c i / 8) (p := c i % 8) (S := S)
      have f1 : tm_fr x x1 := ⟨fun c a b c' _ _ => e3 c a b c', fun j a b _ => e4 j a b⟩
      have z1 : x1 6 = x 6 := e3 _ (by omega) (by omega) (by omega)
      have z2 : x1 5 = x 5 := e3 _ (by omega) (by omega) (by omega)
      have b5 : x1 0 16 = tr_len Y (tr_go A B (c i / 8) (c i % 8) S).2.2 := e2.2.2.2.1
      rw [tg_idiv_pos (by omega) (by omega), tg_irem_pos (by omega) (by omega), e1, tg_bd_some]
      simp only [tg_jn, tg_lt]
      rw [b5, tg_wi_e (by omega)]
      obtain ⟨x', q1, q2⟩ := ih (i + 1) (if tr_len Y (tr_go A B (c i / 8) (c i % 8) S).2.2 ≤ v then v else tr_len Y (tr_go A B (c i / 8) (c i % 8) S).2.2) (tr_go A B (c i / 8) (c i % 8) S) x1 n (by omega) (by omega) (by omega) (tm_md_of hc (e4 8 (by omega) (by omega)) (e3 7 (by omega) (by omega) (by omega))) e2 (tr_go_I hm hg hI ht.2) (by omega) (by rw [z1]; exact h1) (by rw [z2]; exact hb)
      rw [hG] at q1
      refine ⟨x', ?_, tm_fr_tr f1 q2⟩
      by_cases hv : tr_len Y (tr_go A B (c i / 8) (c i % 8) S).2.2 ≤ v
      · rw [if_pos hv] at q1 ⊢
        rw [if_pos hv]; exact q1
      · rw [if_neg hv] at q1 ⊢
        rw [if_neg hv]; exact q1
    · rw [if_neg ht, if_neg ht, if_pos rfl]
      exact ⟨x, rfl, tm_fr_rf _⟩
end NEED
theorem s_needs (d : Int) : R_st (f_X7_needs d) (f_X8_needs d) := by
  intro x m h
  obtain ⟨P, A, B, Y, ρ, h0, h1, w, m1, c1, c2, c3, c4, c5⟩ := R_cf h
  by_cases hd : d = 0 ∨ d = 1
  · have h' : R_all x m1 := R_all_of h (R_xf_rf _) c5
    obtain ⟨d1, d2, d3, d4, d5⟩ := R_day hd h'
    have hkb := R_kb hd
    have hFU := tg_FUg
    have hI0 : tr_I P A B (x (R_k d) 5, x (R_k d) 5, []) := ⟨d5, trivial, rfl, trivial⟩
    obtain ⟨x1, a1, a2, a3⟩ := c_standBoth (Y := Y) (k := R_k d + 3) (x := x) (a := x (R_k d) 5)
    have z1 : x1 (R_k d + 1) = x (R_k d + 1) := a3 _ (by omega) (by omega)
    have z2 : x1 (R_k d + 2) = x (R_k d + 2) := a3 _ (by omega) (by omega)
    obtain ⟨x', a4, a5⟩ := c_needl (P := P) (A := A) (B := B) (Y := Y) (k := R_k d) (c := fun i => tr_code (x (R_k d + 2) i.toNat)) (n0 := x (R_k d + 1) 1) (j60 := fun (v1_60 : Int) (m_60 : tg_Mem) => some (v1_60, m_60)) (fun v q => rfl) hkb.1 c1.1 (fun k => tr_code_b) d1 (x (R_k d + 1) 1).toNat 0 0 _ x1 tg_FU (by omega) (by omega) (by omega) (tc_md_of c2.1 (by rw [a3 1 (by omega) (by omega)]) (a3 7 (by omega) (by omega)) (a3 8 (by omega) (by omega)) (a3 9 (by omega) (by omega))) a2 hI0 (by simp) (by rw [z1]) (by rw [z2]; exact fun i q1 q2 => ⟨by have := d3 i q1 q2; omega, rfl⟩)
    obtain ⟨m2, b1, b2, b3, b4, b5, b6, b7, b8, b9⟩ := r_begins (Y := Y) (m := m1) hd
    rw [d4] at b2
    have f2 : tm_fr m1 m2 := ⟨fun c a b _ d e => b8 c a b d e, b9⟩
    have y1 : m2 6 = m1 6 := b8 6 (by decide) (by decide) (by decide) (by decide)
    have y2 : m2 5 = m1 5 := b8 5 (by decide) (by decide) (by decide) (by decide)
    obtain ⟨m', g1, g2⟩ := r_needl (P := P) (A := A) (B := B) (Y := Y) (c := fun i => tr_code (x (R_k d + 2) i.toNat)) (n0 := x (R_k d + 1) 1) hd c1.1 (fun k => tr_code_b) d1 (x (R_k d + 1) 1).toNat 0 0 _ m2 tg_FU (by omega) (by omega) (by omega) (tm_cf_fr c4 f2).1 b2 hI0 (by simp) (by rw [y1]; exact d2) (by rw [y2]; exact fun i q1 q2 => by have := d3 i q1 q2; rw [this.1]; exact ⟨this.2, rfl⟩)
    have fx : tc_fr (R_k d) x x' := ⟨fun c c1 c2 c3 c4 _ _ => by rw [a5 c c2 c3 c4, a3 c c2 (by omega)], fun j _ _ => by rw [a5 _ (by omega) (by omega) (by omega), a3 _ (by omega) (by omega)]⟩
    refine ⟨tn_run P A B Y (fun i => tr_code (x (R_k d + 2) i.toNat)) (x (R_k d + 1) 1).toNat 0 (x (R_k d) 5, x (R_k d) 5, []) 0, x', m', ?_, ?_, R_all_of h' (R_xf_fr hd fx) (R_mf_fr (tm_fr_tr f2 g2))⟩
    · simp only [f_X7_needs, f_X0_longestUnbound, tg_jn]
      rw [b_isBelowT (by omega), tg_bd_some, if_neg (by decide), R_dayOf hd, tg_bd_some, Int.toNat_natCast, a1, tg_bd_some, a4, tg_bd_some]
    · simp only [f_X8_needs, f_X8_needsOf]
      rw [c3, tg_bd_some, r_isTwoT (by omega), tg_bd_some, if_neg (by decide), b1, tg_bd_some, g1, tg_bd_some]
  · refine ⟨-2, x, m1, ?_, ?_, R_all_of h (R_xf_rf _) c5⟩
    · simp only [f_X7_needs]
      rw [b_isBelowF (by omega), tg_bd_some, if_pos rfl]
    · simp only [f_X8_needs]
      rw [c3, tg_bd_some, r_isTwoF (by omega), tg_bd_some, if_pos rfl]
