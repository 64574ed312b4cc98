-- the reference reads the meadow's text
theorem b_here {m : tg_Mem} (h : 0 ≤ m 0 7 ∧ m 0 7 < m 6 0) (h2 : m 6 0 ≤ 40) : f_X8_here m = some (m 5 (m 0 7).toNat, m) := by
  simp (disch := omega) only [tg_lt, tg_jn, tg_bd_some, tg_ck_pos, if_pos, if_neg, tg_wi_e, tg_up_ss, tg_up_nk, tg_up_nj, ne_eq, not_true_eq_false, not_false_eq_true, if_true, if_false, Nat.reduceAdd, f_X8_here]
theorem b_hereN {m : tg_Mem} (h : m 6 0 ≤ m 0 7) : f_X8_here m = some (-1, m) := by
  simp (disch := omega) only [tg_lt, tg_jn, tg_bd_some, tg_ck_pos, if_pos, if_neg, tg_wi_e, tg_up_ss, tg_up_nk, tg_up_nj, ne_eq, not_true_eq_false, not_false_eq_true, if_true, if_false, Nat.reduceAdd, f_X8_here]
theorem b_rpT {m : tg_Mem} {j : tg_Mem → tg_R} {self : Int → tg_Mem → tg_R} {p k : Int} (hk : k = 0 ∨ k = 1 ∨ k = 2) (hp : 0 ≤ p ∧ p < 8) (h8 : m 0 8 = p) (h7 : m 0 7 = 4 * p + k) (hn : 4 * p + k < m 6 0 ∧ m 6 0 ≤ 40)
    (hb : 0 ≤ m 5 (4 * p + k).toNat ∧ m 5 (4 * p + k).toNat ≤ 255) (h0 : k = 1 → m 7 (3 * p).toNat = m 5 (4 * p).toNat - 48) (hf : tm_fit (fun i => m 5 i.toNat) (4 * p + k)) :
    f_X8_readsPart_B13 j self k m = self (k + 1) (tg_up (tg_up m 7 (3 * p + k).toNat (m 5 (4 * p + k).toNat - 48)) 0 7 (4 * p + k + 1)) := by
  have e1 := b_here (m := m) (by rw [h7]; omega) (by omega)
  rw [h7] at e1
  unfold tm_fit at hf
  dsimp only at hf
  rcases hk with rfl | rfl | rfl
  · simp only [Int.add_zero] at h7 hn hb hf e1 ⊢
    simp (disch := omega) only [tg_lt, tg_jn, tg_bd_some, tg_ck_pos, if_pos, if_neg, tg_wi_e, tg_up_ss, tg_up_nk, tg_up_nj, ne_eq, not_true_eq_false, not_false_eq_true, if_true, if_false, Nat.reduceAdd, f_X8_readsPart_B13, e1, b_inT, h8, h7]
    simp only [Int.add_zero]
  · have h0 := h0 rfl
    have e2 : (4 * p + 1 - 1) = 4 * p := by omega
    rw [e2] at hf
    simp (disch := omega) only [tg_lt, tg_jn, tg_bd_some, tg_ck_pos, if_pos, if_neg, tg_wi_e, tg_up_ss, tg_up_nk, tg_up_nj, ne_eq, not_true_eq_false, not_false_eq_true, if_true, if_false, Nat.reduceAdd, f_X8_readsPart_B13, e1, b_inT, h8, h7, h0]
  · simp (disch := omega) only [tg_lt, tg_jn, tg_bd_some, tg_ck_pos, if_pos, if_neg, tg_wi_e, tg_up_ss, tg_up_nk, tg_up_nj, ne_eq, not_true_eq_false, not_false_eq_true, if_true, if_false, Nat.reduceAdd, f_X8_readsPart_B13, e1, b_inT, h8, h7]
theorem b_rpF {m : tg_Mem} {j : tg_Mem → tg_R} {self : Int → tg_Mem → tg_R} {p k : Int} (hk : k = 0 ∨ k = 1 ∨ k = 2) (hp : 0 ≤ p ∧ p < 8) (h8 : m 0 8 = p) (h7 : m 0 7 = 4 * p + k) (hn : 4 * p + k ≤ m 6 0 ∧ m 6 0 ≤ 40)
    (hb : 4 * p + k < m 6 0 → 0 ≤ m 5 (4 * p + k).toNat ∧ m 5 (4 * p + k).toNat ≤ 255) (h0 : k = 1 → m 7 (3 * p).toNat = m 5 (4 * p).toNat - 48) (hf : 4 * p + k < m 6 0 → ¬ tm_fit (fun i => m 5 i.toNat) (4 * p + k)) :
    f_X8_readsPart_B13 j self k m = some (0, m) := by
  by_cases hlt : 4 * p + k < m 6 0
  · have hf := hf hlt
    have hb := hb hlt
    have e1 := b_here (m := m) (by rw [h7]; omega) (by omega)
    rw [h7] at e1
    unfold tm_fit at hf
    dsimp only at hf
    rcases hk with rfl | rfl | rfl
    · have e2 : (4 * p + 0) = 4 * p := by omega
      rw [e2] at *
      simp (disch := omega) only [tg_lt, tg_jn, tg_bd_some, tg_ck_pos, if_pos, if_neg, tg_wi_e, tg_up_ss, tg_up_nk, tg_up_nj, ne_eq, not_true_eq_false, not_false_eq_true, if_true, if_false, Nat.reduceAdd, f_X8_readsPart_B13, e1, b_inF, h8, h7]
    · have h0 := h0 rfl
      have e2 : (4 * p + 1 - 1) = 4 * p := by omega
      rw [e2] at hf
      by_cases hr : 48 ≤ m 5 (4 * p + 1).toNat ∧ m 5 (4 * p + 1).toNat ≤ 55
      · simp (disch := omega) only [tg_lt, tg_jn, tg_bd_some, tg_ck_pos, if_pos, if_neg, tg_wi_e, tg_up_ss, tg_up_nk, tg_up_nj, ne_eq, not_true_eq_false, not_false_eq_true, if_true, if_false, Nat.reduceAdd, f_X8_readsPart_B13, e1, b_inT, h8, h7, h0]
      · simp (disch := omega) only [tg_lt, tg_jn, tg_bd_some, tg_ck_pos, if_pos, if_neg, tg_wi_e, tg_up_ss, tg_up_nk, tg_up_nj, ne_eq, not_true_eq_false, not_false_eq_true, if_true, if_false, Nat.reduceAdd, f_X8_readsPart_B13, e1, b_inF, h8, h7, h0]
    · simp (disch := omega) only [tg_lt, tg_jn, tg_bd_some, tg_ck_pos, if_pos, if_neg, tg_wi_e, tg_up_ss, tg_up_nk, tg_up_nj, ne_eq, not_true_eq_false, not_false_eq_true, if_true, if_false, Nat.reduceAdd, f_X8_readsPart_B13, e1, b_inF, h8, h7]
  · have e1 := b_hereN (m := m) (by rw [h7]; omega)
    rcases hk with rfl | rfl | rfl
    · simp (disch := omega) only [tg_lt, tg_jn, tg_bd_some, tg_ck_pos, if_pos, if_neg, tg_wi_e, tg_up_ss, tg_up_nk, tg_up_nj, ne_eq, not_true_eq_false, not_false_eq_true, if_true, if_false, Nat.reduceAdd, f_X8_readsPart_B13, e1, b_inF, h8, h7]
    · simp (disch := omega) only [tg_lt, tg_jn, tg_bd_some, tg_ck_pos, if_pos, if_neg, tg_wi_e, tg_up_ss, tg_up_nk, tg_up_nj, ne_eq, not_true_eq_false, not_false_eq_true, if_true, if_false, Nat.reduceAdd, f_X8_readsPart_B13, e1, b_inF, h8, h7]
    · simp (disch := omega) only [tg_lt, tg_jn, tg_bd_some, tg_ck_pos, if_pos, if_neg, tg_wi_e, tg_up_ss, tg_up_nk, tg_up_nj, ne_eq, not_true_eq_false, not_false_eq_true, if_true, if_false, Nat.reduceAdd, f_X8_readsPart_B13, e1, b_inF, h8, h7]
theorem b_rpE {m : tg_Mem} {j : tg_Mem → tg_R} {self : Int → tg_Mem → tg_R} : f_X8_readsPart_B13 j self 3 m = j m := by
  simp (disch := omega) only [tg_lt, tg_jn, tg_bd_some, tg_ck_pos, if_pos, if_neg, tg_wi_e, tg_up_ss, tg_up_nk, tg_up_nj, ne_eq, not_true_eq_false, not_false_eq_true, if_true, if_false, Nat.reduceAdd, f_X8_readsPart_B13]
/-- one path is read, or the fault is found -/
theorem b_readsPart {m : tg_Mem} {p : Int} (hp : 0 ≤ p ∧ p ≤ 8) (h8 : m 0 8 = p) (h7 : m 0 7 = 4 * p) (hn : 4 * p ≤ m 6 0 ∧ m 6 0 ≤ 40) (hb : ∀ i : Int, 0 ≤ i → i < m 6 0 → 0 ≤ m 5 i.toNat ∧ m 5 i.toNat ≤ 255) :
    ∃ r m', f_X8_readsPart m = some (r, m') ∧ (∀ k, k ≠ 0 → k ≠ 7 → m' k = m k) ∧ (∀ j, j ≠ 7 → j ≠ 8 → m' 0 j = m 0 j) ∧ (∀ i : Int, 0 ≤ i → i < 3 * p → m' 7 i.toNat = m 7 i.toNat) ∧
      ((r = 1 ∧ p < 8 ∧ 4 * p + 3 ≤ m 6 0 ∧ (∀ i, 4 * p ≤ i → i < 4 * p + 3 → tm_fit (fun i => m 5 i.toNat) i) ∧ m' 0 7 = 4 * p + 3 ∧ m' 0 8 = p + 1 ∧
          m' 7 (3 * p).toNat = m 5 (4 * p).toNat - 48 ∧ m' 7 (3 * p + 1).toNat = m 5 (4 * p + 1).toNat - 48 ∧ m' 7 (3 * p + 2).toNat = m 5 (4 * p + 2).toNat - 48) ∨
       (r = 0 ∧ 4 * p ≤ m' 0 7 ∧ m' 0 7 ≤ m 6 0 ∧ m' 0 7 < 4 * p + 3 ∧ (∀ i, 4 * p ≤ i → i < m' 0 7 → tm_fit (fun i => m 5 i.toNat) i) ∧ (m' 0 7 < m 6 0 → ¬ tm_fit (fun i => m 5 i.toNat) (m' 0 7)))) := by
  by_cases hp8 : p = 8
  · refine ⟨0, m, ?_, fun _ _ _ => rfl, fun _ _ _ => rfl, fun _ _ _ => rfl, Or.inr ⟨rfl, by omega, by omega, by omega, fun i h0 h1 => by omega, fun _ => ?_⟩⟩
    · simp (disch := omega) only [tg_lt, tg_jn, tg_bd_some, tg_ck_pos, if_pos, if_neg, tg_wi_e, tg_up_ss, tg_up_nk, tg_up_nj, ne_eq, not_true_eq_false, not_false_eq_true, if_true, if_false, Nat.reduceAdd, f_X8_readsPart]
    · unfold tm_fit; omega
  obtain ⟨F, hF⟩ : ∃ n : Nat, tg_FU = n + 4 := ⟨tg_FU - 4, by have := tg_FUg; omega⟩
  have e0 : ∀ J, f_X8_readsPart m = J → f_X8_readsPart m = J := fun _ h => h
  obtain ⟨j, hj⟩ : ∃ j : tg_Mem → tg_R, j = fun m_109 => some (1, tg_up m_109 0 8 (tg_wi (m_109 0 8 + 1))) := ⟨_, rfl⟩
  have e1 : f_X8_readsPart m = tg_fx (f_X8_readsPart_B13 j) (fun _ _ => none) (F + 4) 0 m := by
    rw [← hF, hj]
    simp (disch := omega) only [tg_lt, tg_jn, tg_bd_some, tg_ck_pos, if_pos, if_neg, tg_wi_e, tg_up_ss, tg_up_nk, tg_up_nj, ne_eq, not_true_eq_false, not_false_eq_true, if_true, if_false, Nat.reduceAdd, f_X8_readsPart]
  rw [e1]
  -- the first byte
  by_cases g0 : 4 * p < m 6 0 ∧ tm_fit (fun i => m 5 i.toNat) (4 * p)
  · have s0 := b_rpT (m := m) (j := j) (self := tg_fx (f_X8_readsPart_B13 j) (fun _ _ => none) (F + 3)) (p := p) (k := 0) (Or.inl rfl) (by omega) h8 (by omega) (by omega) (hb _ (by omega) (by omega)) (fun q => by omega) (by simpa using g0.2)
    simp only [Int.add_zero, Int.zero_add] at s0
    rw [tg_fx_s, s0]
    obtain ⟨m1, hm1⟩ : ∃ m1, m1 = tg_up (tg_up m 7 (3 * p).toNat (m 5 (4 * p).toNat - 48)) 0 7 (4 * p + 1) := ⟨_, rfl⟩
    rw [← hm1]
    have f1 : ∀ k, k ≠ 0 → k ≠ 7 → m1 k = m k := fun k a b => by rw [hm1, tg_up_k a, tg_up_k b]
    have f10 : ∀ j, j ≠ 7 → m1 0 j = m 0 j := fun j a => by rw [hm1, tg_up_j a, tg_up_k (by decide)]
    have a7 : m1 0 7 = 4 * p + 1 := by rw [hm1, tg_up_same]
    have b7 : ∀ i : Nat, i ≠ (3 * p).toNat → m1 7 i = m 7 i := fun i a => by rw [hm1, tg_up_k (by decide), tg_up_j a]
    have c7 : m1 7 (3 * p).toNat = m 5 (4 * p).toNat - 48 := by rw [hm1, tg_up_k (by decide), tg_up_same]
    have z5 := f1 5 (by decide) (by decide)
    have z6 := f1 6 (by decide) (by decide)
    by_cases g1 : 4 * p + 1 < m 6 0 ∧ tm_fit (fun i => m 5 i.toNat) (4 * p + 1)
    · have s1 := b_rpT (m := m1) (j := j) (self := tg_fx (f_X8_readsPart_B13 j) (fun _ _ => none) (F + 2)) (p := p) (k := 1) (Or.inr (Or.inl rfl)) (by omega) (by rw [f10 8 (by decide)]; exact h8) a7 (by rw [z6]; omega) (by rw [z5]; exact hb _ (by omega) (by omega)) (fun _ => by rw [c7, z5]) (by rw [z5]; exact g1.2)
      rw [tg_fx_s, s1, z5]
      obtain ⟨m2, hm2⟩ : ∃ m2, m2 = tg_up (tg_up m1 7 (3 * p + 1).toNat (m 5 (4 * p + 1).toNat - 48)) 0 7 (4 * p + 1 + 1) := ⟨_, rfl⟩
      rw [← hm2]
      have f2 : ∀ k, k ≠ 0 → k ≠ 7 → m2 k = m k := fun k a b => by rw [hm2, tg_up_k a, tg_up_k b, f1 k a b]
      have f20 : ∀ j, j ≠ 7 → m2 0 j = m 0 j := fun j a => by rw [hm2, tg_up_j a, tg_up_k (by decide), f10 j a]
      have a72 : m2 0 7 = 4 * p + 2 := by rw [hm2, tg_up_same]; omega
      have b72 : ∀ i : Nat, i ≠ (3 * p + 1).toNat → m2 7 i = m1 7 i := fun i a => by rw [hm2, tg_up_k (by decide), tg_up_j a]
      have c72 : m2 7 (3 * p + 1).toNat = m 5 (4 * p + 1).toNat - 48 := by rw [hm2, tg_up_k (by decide), tg_up_same]
      have z52 := f2 5 (by decide) (by decide)
      have z62 := f2 6 (by decide) (by decide)
      by_cases g2 : 4 * p + 2 < m 6 0 ∧ tm_fit (fun i => m 5 i.toNat) (4 * p + 2)
      · have s2 := b_rpT (m := m2) (j := j) (self := tg_fx (f_X8_readsPart_B13 j) (fun _ _ => none) (F + 1)) (p := p) (k := 2) (Or.inr (Or.inr rfl)) (by omega) (by rw [f20 8 (by decide)]; exact h8) a72 (by rw [z62]; omega) (by rw [z52]; exact hb _ (by omega) (by omega)) (fun q => by omega) (by rw [z52]; exact g2.2)
        rw [show (1 : Int) + 1 = 2 from rfl, tg_fx_s, s2, z52]
        obtain ⟨m3, hm3⟩ : ∃ m3, m3 = tg_up (tg_up m2 7 (3 * p + 2).toNat (m 5 (4 * p + 2).toNat - 48)) 0 7 (4 * p + 2 + 1) := ⟨_, rfl⟩
        rw [← hm3, show (2 : Int) + 1 = 3 from rfl, tg_fx_s, b_rpE, hj]
        have f3 : ∀ k, k ≠ 0 → k ≠ 7 → m3 k = m k := fun k a b => by rw [hm3, tg_up_k a, tg_up_k b, f2 k a b]
        have f30 : ∀ j, j ≠ 7 → m3 0 j = m 0 j := fun j a => by rw [hm3, tg_up_j a, tg_up_k (by decide), f20 j a]
        have a73 : m3 0 7 = 4 * p + 3 := by rw [hm3, tg_up_same]; omega
        have b73 : ∀ i : Nat, i ≠ (3 * p + 2).toNat → m3 7 i = m2 7 i := fun i a => by rw [hm3, tg_up_k (by decide), tg_up_j a]
        have c73 : m3 7 (3 * p + 2).toNat = m 5 (4 * p + 2).toNat - 48 := by rw [hm3, tg_up_k (by decide), tg_up_same]
        have e8 : tg_wi (m3 0 8 + 1) = p + 1 := by rw [f30 8 (by decide), h8, tg_wi_e (by omega)]
        refine ⟨1, tg_up m3 0 8 (p + 1), by show some (1, tg_up m3 0 8 (tg_wi (m3 0 8 + 1))) = _; rw [e8], fun k a b => by rw [tg_up_k a, f3 k a b], fun j a b => by rw [tg_up_j b, f30 j a], fun i h0 h1 => ?_, Or.inl ⟨rfl, by omega, by omega, fun i h0 h1 => ?_, ?_, tg_up_same _ _ _ _, ?_, ?_, ?_⟩⟩
        · rw [tg_up_k (by decide), b73 _ (by omega), b72 _ (by omega), b7 _ (by omega)]
        · rcases (show i = 4 * p ∨ i = 4 * p + 1 ∨ i = 4 * p + 2 by omega) with rfl | rfl | rfl
          · exact g0.2
          · exact g1.2
          · exact g2.2
        · rw [tg_up_j (by decide), a73]
        · rw [tg_up_k (by decide), b73 _ (by omega), b72 _ (by omega), c7]
        · rw [tg_up_k (by decide), b73 _ (by omega), c72]
        · rw [tg_up_k (by decide), c73]
      · have s2 := b_rpF (m := m2) (j := j) (self := tg_fx (f_X8_readsPart_B13 j) (fun _ _ => none) (F + 1)) (p := p) (k := 2) (Or.inr (Or.inr rfl)) (by omega) (by rw [f20 8 (by decide)]; exact h8) a72 (by rw [z62]; omega) (by rw [z52, z62]; exact fun q => hb _ (by omega) (by omega)) (fun q => by omega) (by rw [z52, z62]; exact fun q z => g2 ⟨q, z⟩)
        rw [show (1 : Int) + 1 = 2 from rfl, tg_fx_s, s2]
        refine ⟨0, m2, rfl, f2, fun j a b => f20 j a, fun i h0 h1 => ?_, Or.inr ⟨rfl, by omega, by omega, by omega, fun i h0 h1 => ?_, fun q z => ?_⟩⟩
        · rw [b72 _ (by omega), b7 _ (by omega)]
        · rcases (show i = 4 * p ∨ i = 4 * p + 1 by omega) with rfl | rfl
          · exact g0.2
          · exact g1.2
        · rw [a72] at q z; exact g2 ⟨q, z⟩
    · have s1 := b_rpF (m := m1) (j := j) (self := tg_fx (f_X8_readsPart_B13 j) (fun _ _ => none) (F + 2)) (p := p) (k := 1) (Or.inr (Or.inl rfl)) (by omega) (by rw [f10 8 (by decide)]; exact h8) a7 (by rw [z6]; omega) (by rw [z5, z6]; exact fun q => hb _ (by omega) (by omega)) (fun _ => by rw [c7, z5]) (by rw [z5, z6]; exact fun q z => g1 ⟨q, z⟩)
      rw [tg_fx_s, s1]
      refine ⟨0, m1, rfl, f1, fun j a b => f10 j a, fun i h0 h1 => ?_, Or.inr ⟨rfl, by omega, by omega, by omega, fun i h0 h1 => ?_, fun q z => ?_⟩⟩
      · rw [b7 _ (by omega)]
      · rcases (show i = 4 * p by omega) with rfl
        exact g0.2
      · rw [a7] at q z; exact g1 ⟨q, z⟩
  · have s0 := b_rpF (m := m) (j := j) (self := tg_fx (f_X8_readsPart_B13 j) (fun _ _ => none) (F + 3)) (p := p) (k := 0) (Or.inl rfl) (by omega) h8 (by omega) (by omega) (fun q => hb _ (by omega) (by omega)) (fun q => by omega) (fun q z => g0 ⟨by omega, by simpa using z⟩)
    rw [tg_fx_s, s0]
    refine ⟨0, m, rfl, fun _ _ _ => rfl, fun _ _ _ => rfl, fun _ _ _ => rfl, Or.inr ⟨rfl, by omega, by omega, by omega, fun i h0 h1 => by omega, fun q z => ?_⟩⟩
    rw [h7] at q z; exact g0 ⟨q, z⟩
-- what the reference holds of the text once it has read it
def tm_P (b : Int → Int) (n φ : Int) : Int := if φ = -1 then (n + 1) / 4 else 0
def tm_M (m : tg_Mem) (P : Int) (b : Int → Int) : Prop := m 0 8 = P ∧ ∀ p : Int, 0 ≤ p → p < P → m 7 (3 * p).toNat = b (4 * p) - 48 ∧ m 7 (3 * p + 1).toNat = b (4 * p + 1) - 48 ∧ m 7 (3 * p + 2).toNat = b (4 * p + 2) - 48
theorem b_none {m : tg_Mem} : f_X8_none m = some (m 0 7, tg_up m 0 8 0) := by
  simp only [f_X8_none, tg_lt]
  rw [tg_up_j (by decide)]
theorem b_readsl {b : Int → Int} {n0 : Int} {M : tg_Mem} (hn : 0 ≤ n0 ∧ n0 ≤ 40) (hb : ∀ i : Int, 0 ≤ i → i < n0 → 0 ≤ b i ∧ b i ≤ 255) {j1 j2 : tg_Mem → tg_R} (hj1 : ∀ m, j1 m = some (m 0 7, tg_up m 0 8 0)) (hj2 : ∀ m, j2 m = some (m 0 7, tg_up m 0 8 0)) :
    ∀ (n : Nat) (p more : Int) (m : tg_Mem), 9 - p < n → 0 ≤ p → p ≤ 8 → (∀ i : Nat, m 5 i = b i) → m 6 0 = n0 → (∀ k, k ≠ 0 → k ≠ 7 → m k = M k) → (∀ j, j ≠ 7 → j ≠ 8 → m 0 j = M 0 j) →
      ((more = 1 ∧ m 0 7 = 4 * p ∧ 4 * p ≤ n0 ∧ (p = 0 → 0 < n0)) ∨ (more = 0 ∧ ((p = 0 ∧ n0 = 0) ∨ (0 < p ∧ n0 = 4 * p - 1)))) → (∀ i, 0 ≤ i → i < 4 * p → i < n0 → tm_fit b i) → tm_M m p b →
      ∃ φ m', tg_fx (f_X8_reads_B25 j1 j2) (fun _ _ => none) n more m = some (φ, m') ∧ tm_ff b n0 φ ∧ tm_M m' (tm_P b n0 φ) b ∧ (∀ k, k ≠ 0 → k ≠ 7 → m' k = M k) ∧ (∀ j, j ≠ 7 → j ≠ 8 → m' 0 j = M 0 j) := by
  intro n
  induction n with
  | zero => intro p more m h1 h2 h3; omega
  | succ n ih =>
    intro p more m h1 h2 h3 h5 h6 hk h0k hmore hfit hM
    have eb : (fun i : Int => m 5 i.toNat) = fun i => b (i.toNat : Int) := funext fun i => h5 _
    have fb : ∀ i, 0 ≤ i → (tm_fit (fun i : Int => m 5 i.toNat) i ↔ tm_fit b i) := by
      intro i hi
      by_cases h0 : i = 0
      · subst h0
        have e9 : m 5 (0 : Int).toNat = b 0 := h5 0
        unfold tm_fit
        dsimp only
        rw [e9]
        constructor
        · intro q
          rcases q with q | q | q | q
          · exact Or.inl q
          · omega
          · omega
          · omega
        · intro q
          rcases q with q | q | q | q
          · exact Or.inl q
          · omega
          · omega
          · omega
      · refine tm_fit_congr ?_ ?_
        · have := h5 i.toNat; rw [this, Int.toNat_of_nonneg hi]
        · have := h5 (i - 1).toNat; rw [this, Int.toNat_of_nonneg (by omega)]
    rw [tg_fx_s]
    rcases hmore with ⟨hm1, h7, hn4, hp0⟩ | ⟨hm0, hcase⟩
    · subst hm1
      obtain ⟨r, m', e1, e2, e3, e4, e5⟩ := b_readsPart (m := m) (p := p) ⟨h2, h3⟩ hM.1 h7 (by omega) (fun i a c => by rw [h5 i.toNat, Int.toNat_of_nonneg a]; exact hb i a (by omega))
      have m5 : m' 5 = m 5 := e2 5 (by decide) (by decide)
      have m6 : m' 6 = m 6 := e2 6 (by decide) (by decide)
      have bk : ∀ i : Int, 0 ≤ i → m 5 i.toNat = b i := fun i hi => by rw [h5 i.toNat, Int.toNat_of_nonneg hi]
      rcases e5 with ⟨rfl, q1, q2, q3, q4, q5, q6, q7, q8⟩ | ⟨rfl, q1, q2, q3, q4, q5⟩
      · -- a path was read
        have hM' : tm_M m' (p + 1) b := by
          refine ⟨q5, fun i a c => ?_⟩
          by_cases hi : i = p
          · subst hi
            rw [q6, q7, q8, bk _ (by omega), bk _ (by omega), bk _ (by omega)]
            exact ⟨rfl, rfl, rfl⟩
          · obtain ⟨w1, w2, w3⟩ := hM.2 i a (by omega)
            rw [e4 (3 * i) (by omega) (by omega), e4 (3 * i + 1) (by omega) (by omega), e4 (3 * i + 2) (by omega) (by omega)]
            exact ⟨w1, w2, w3⟩
        have hfit3 : ∀ i, 0 ≤ i → i < 4 * p + 3 → tm_fit b i := fun i a c => by
          by_cases hi : i < 4 * p
          · exact hfit i a hi (by omega)
          · exact (fb i a).mp (q3 i (by omega) c)
        by_cases hend : n0 = 4 * p + 3
        · -- the text ends here
          have e6 : f_X8_reads_B25 j1 j2 (tg_fx (f_X8_reads_B25 j1 j2) (fun _ _ => none) n) 1 m = tg_fx (f_X8_reads_B25 j1 j2) (fun _ _ => none) n 0 (tg_up m' 0 7 (4 * p + 3)) := by
            simp (disch := omega) only [tg_lt, tg_jn, tg_bd_some, tg_ck_pos, if_pos, if_neg, tg_wi_e, tg_up_ss, tg_up_nk, tg_up_nj, ne_eq, not_true_eq_false, not_false_eq_true, if_true, if_false, Nat.reduceAdd, f_X8_reads_B25, e1, m6, h6, q4]
            rw [Int.add_zero]
          rw [e6]
          refine ih (p + 1) 0 _ (by omega) (by omega) (by omega) (fun i => by rw [tg_up_k (by decide), m5, h5]) (by rw [tg_up_k (by decide), m6, h6]) (fun k a c => by rw [tg_up_k a, e2 k a c, hk k a c]) (fun j a c => by rw [tg_up_j a, e3 j a c, h0k j a c]) (Or.inr ⟨rfl, Or.inr ⟨by omega, by omega⟩⟩) (fun i a c d => hfit3 i a (by omega)) ⟨by rw [tg_up_j (by decide)]; exact hM'.1, fun i a c => by rw [tg_up_k (by decide)]; exact hM'.2 i a c⟩
        · have hh := b_here (m := m') (by rw [q4, m6, h6]; omega) (by rw [m6, h6]; omega)
          rw [q4, m5, bk _ (by omega)] at hh
          by_cases hs : b (4 * p + 3) = 59
          · have e6 : f_X8_reads_B25 j1 j2 (tg_fx (f_X8_reads_B25 j1 j2) (fun _ _ => none) n) 1 m = tg_fx (f_X8_reads_B25 j1 j2) (fun _ _ => none) n 1 (tg_up m' 0 7 (4 * p + 3 + 1)) := by
              simp (disch := omega) only [tg_lt, tg_jn, tg_bd_some, tg_ck_pos, if_pos, if_neg, tg_wi_e, tg_up_ss, tg_up_nk, tg_up_nj, ne_eq, not_true_eq_false, not_false_eq_true, if_true, if_false, Nat.reduceAdd, f_X8_reads_B25, e1, m6, h6, q4, hh]
            rw [e6]
            refine ih (p + 1) 1 _ (by omega) (by omega) (by omega) (fun i => by rw [tg_up_k (by decide), m5, h5]) (by rw [tg_up_k (by decide), m6, h6]) (fun k a c => by rw [tg_up_k a, e2 k a c, hk k a c]) (fun j a c => by rw [tg_up_j a, e3 j a c, h0k j a c]) (Or.inl ⟨rfl, by rw [tg_up_same]; omega, by omega, fun q => by omega⟩) (fun i a c d => ?_) ⟨by rw [tg_up_j (by decide)]; exact hM'.1, fun i a c => by rw [tg_up_k (by decide)]; exact hM'.2 i a c⟩
            by_cases hi : i = 4 * p + 3
            · subst hi
              unfold tm_fit
              omega
            · exact hfit3 i a (by omega)
          · have e6 : f_X8_reads_B25 j1 j2 (tg_fx (f_X8_reads_B25 j1 j2) (fun _ _ => none) n) 1 m = j1 m' := by
              simp (disch := omega) only [tg_lt, tg_jn, tg_bd_some, tg_ck_pos, if_pos, if_neg, tg_wi_e, tg_up_ss, tg_up_nk, tg_up_nj, ne_eq, not_true_eq_false, not_false_eq_true, if_true, if_false, Nat.reduceAdd, f_X8_reads_B25, e1, m6, h6, q4, hh]
            rw [e6, hj1, q4]
            refine ⟨4 * p + 3, _, rfl, Or.inr (Or.inl ⟨by omega, by omega, hfit3, ?_⟩), ⟨?_, fun i a c => ?_⟩, fun k a c => by rw [tg_up_k a, e2 k a c, hk k a c], fun j a c => by rw [tg_up_j c, e3 j a c, h0k j a c]⟩
            · unfold tm_fit; omega
            · unfold tm_P; rw [if_neg (by omega), tg_up_same]
            · unfold tm_P at c; rw [if_neg (by omega)] at c; omega
      · -- the fault
        have e6 : f_X8_reads_B25 j1 j2 (tg_fx (f_X8_reads_B25 j1 j2) (fun _ _ => none) n) 1 m = j2 m' := by
          simp (disch := omega) only [tg_lt, tg_jn, tg_bd_some, tg_ck_pos, if_pos, if_neg, tg_wi_e, tg_up_ss, tg_up_nk, tg_up_nj, ne_eq, not_true_eq_false, not_false_eq_true, if_true, if_false, Nat.reduceAdd, f_X8_reads_B25, e1]
        rw [e6, hj2]
        have hfit3 : ∀ i, 0 ≤ i → i < m' 0 7 → tm_fit b i := fun i a c => by
          by_cases hi : i < 4 * p
          · exact hfit i a hi (by omega)
          · exact (fb i a).mp (q4 i (by omega) c)
        refine ⟨m' 0 7, _, rfl, ?_, ⟨?_, fun i a c => ?_⟩, fun k a c => by rw [tg_up_k a, e2 k a c, hk k a c], fun j a c => by rw [tg_up_j c, e3 j a c, h0k j a c]⟩
        · by_cases hlt : m' 0 7 < n0
          · exact Or.inr (Or.inl ⟨by omega, hlt, hfit3, fun q => q5 (by omega) ((fb _ (by omega)).mpr q)⟩)
          · have e9 : m' 0 7 = n0 := by omega
            refine Or.inr (Or.inr ⟨e9, ?_, by omega, fun i a c => hfit3 i a (by omega)⟩)
            by_cases hp : p = 0
            · exact hp0 hp
            · omega
        · unfold tm_P; rw [if_neg (by omega), tg_up_same]
        · unfold tm_P at c; rw [if_neg (by omega)] at c; omega
    · subst hm0
      have e6 : f_X8_reads_B25 j1 j2 (tg_fx (f_X8_reads_B25 j1 j2) (fun _ _ => none) n) 0 m = some (-1, m) := by
        simp (disch := omega) only [tg_lt, tg_jn, tg_bd_some, tg_ck_pos, if_pos, if_neg, tg_wi_e, tg_up_ss, tg_up_nk, tg_up_nj, ne_eq, not_true_eq_false, not_false_eq_true, if_true, if_false, Nat.reduceAdd, f_X8_reads_B25]
      rw [e6]
      have hP : tm_P b n0 (-1) = p := by
        unfold tm_P; rw [if_pos rfl]; omega
      refine ⟨-1, m, rfl, Or.inl ⟨rfl, fun i a c => hfit i a (by omega) c, by omega⟩, by rw [hP]; exact hM, hk, h0k⟩
theorem b_reads {m : tg_Mem} (hn : 0 ≤ m 6 0 ∧ m 6 0 ≤ 40) (hb : ∀ i : Int, 0 ≤ i → i < m 6 0 → 0 ≤ m 5 i.toNat ∧ m 5 i.toNat ≤ 255) :
    ∃ φ m', f_X8_reads m = some (φ, m') ∧ tm_ff (fun i => m 5 i.toNat) (m 6 0) φ ∧ tm_M m' (tm_P (fun i => m 5 i.toNat) (m 6 0) φ) (fun i => m 5 i.toNat) ∧ (∀ k, k ≠ 0 → k ≠ 7 → m' k = m k) ∧ (∀ j, j ≠ 7 → j ≠ 8 → m' 0 j = m 0 j) := by
  have key : ∀ more, more = (if m 6 0 ≤ 0 then (0 : Int) else 1) → f_X8_reads m = tg_fx (f_X8_reads_B25 (fun m_73 => tg_bd (f_X8_none m_73) fun r74 m74 => some (r74, m74)) (fun m_36 => tg_bd (f_X8_none m_36) fun r37 m37 => some (r37, m37))) (fun _ _ => none) tg_FU more (tg_up (tg_up m 0 7 0) 0 8 0) := by
    intro more hm
    by_cases h : m 6 0 ≤ 0
    · rw [if_pos h] at hm; subst hm
      simp (disch := omega) only [tg_lt, tg_jn, tg_bd_some, tg_ck_pos, if_pos, if_neg, tg_wi_e, tg_up_ss, tg_up_nk, tg_up_nj, ne_eq, not_true_eq_false, not_false_eq_true, if_true, if_false, Nat.reduceAdd, f_X8_reads]
    · rw [if_neg h] at hm; subst hm
      simp (disch := omega) only [tg_lt, tg_jn, tg_bd_some, tg_ck_pos, if_pos, if_neg, tg_wi_e, tg_up_ss, tg_up_nk, tg_up_nj, ne_eq, not_true_eq_false, not_false_eq_true, if_true, if_false, Nat.reduceAdd, f_X8_reads]
  rw [key _ rfl]
  refine b_readsl (M := m) hn hb (fun m => by rw [b_none]; rfl) (fun m => by rw [b_none]; rfl) tg_FU 0 _ _ (by have := tg_FUg; omega) (by omega) (by omega) (fun i => ?_) ?_ (fun k a c => by rw [tg_up_k a, tg_up_k a]) (fun j a c => by rw [tg_up_j c, tg_up_j a]) ?_ (fun i a c => by omega) ⟨tg_up_same _ _ _ _, fun p a c => by omega⟩
  · rw [tg_up_k (by decide), tg_up_k (by decide)]
    show m 5 i = m 5 ((i : Int).toNat)
    rw [Int.toNat_natCast]
  · rw [tg_up_k (by decide), tg_up_k (by decide)]
  · by_cases h : m 6 0 ≤ 0
    · right
      exact ⟨if_pos h, Or.inl ⟨rfl, by omega⟩⟩
    · left
      refine ⟨if_neg h, ?_, by omega, fun _ => by omega⟩
      rw [tg_up_j (by decide), tg_up_same]; rfl
