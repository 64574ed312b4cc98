-- the meadow's text: what a byte at a place has to be, and the fault
def tm_fit (b : Int → Int) (i : Int) : Prop := (i % 4 = 0 ∧ i < 32 ∧ 48 ≤ b i ∧ b i ≤ 55) ∨ (i % 4 = 1 ∧ 48 ≤ b i ∧ b i ≤ 55 ∧ b i ≠ b (i - 1)) ∨ (i % 4 = 2 ∧ 49 ≤ b i ∧ b i ≤ 57) ∨ (i % 4 = 3 ∧ b i = 59)
def tm_ff (b : Int → Int) (n φ : Int) : Prop :=
  (φ = -1 ∧ (∀ i, 0 ≤ i → i < n → tm_fit b i) ∧ (n = 0 ∨ n % 4 = 3)) ∨ (0 ≤ φ ∧ φ < n ∧ (∀ i, 0 ≤ i → i < φ → tm_fit b i) ∧ ¬ tm_fit b φ) ∨ (φ = n ∧ 0 < n ∧ n % 4 ≠ 3 ∧ ∀ i, 0 ≤ i → i < n → tm_fit b i)
theorem tm_ff_uniq {b : Int → Int} {n φ ψ : Int} (h1 : tm_ff b n φ) (h2 : tm_ff b n ψ) : φ = ψ := by
  rcases h1 with ⟨a1, a2, a3⟩ | ⟨a1, a2, a3, a4⟩ | ⟨a1, a2, a3, a4⟩ <;> rcases h2 with ⟨b1, b2, b3⟩ | ⟨b1, b2, b3, b4⟩ | ⟨b1, b2, b3, b4⟩
  · omega
  · exact absurd (a2 ψ b1 b2) b4
  · omega
  · exact absurd (b2 φ a1 a2) a4
  · rcases Int.lt_trichotomy φ ψ with h | h | h
    · exact absurd (b3 φ a1 h) a4
    · exact h
    · exact absurd (a3 ψ b1 h) b4
  · exact absurd (b4 φ a1 a2) a4
  · omega
  · exact absurd (a4 ψ b1 b2) b4
  · omega
theorem tm_fit_congr {b c : Int → Int} {i : Int} (h : b i = c i) (h2 : b (i - 1) = c (i - 1)) : tm_fit b i ↔ tm_fit c i := by
  unfold tm_fit; rw [h, h2]
theorem tm_ff_congr {b c : Int → Int} {n φ : Int} (h : ∀ i, 0 ≤ i → i < n → b i = c i) (hf : tm_ff b n φ) : tm_ff c n φ := by
  have hfit : ∀ i, 0 ≤ i → i < n → (tm_fit b i ↔ tm_fit c i) := by
    intro i h0 h1
    by_cases hi : i = 0
    · subst hi
      have := h 0 h0 h1
      unfold tm_fit
      rw [this]
      constructor
      · intro q
        rcases q with q | q | q | q
        · exact Or.inl q
        · omega
        · omega
        · omega
      · intro q
        rcases q with q | q | q | q
        · exact Or.inl q
        · omega
        · omega
        · omega
    · exact tm_fit_congr (h i h0 h1) (h (i - 1) (by omega) (by omega))
  rcases hf with ⟨a1, a2, a3⟩ | ⟨a1, a2, a3, a4⟩ | ⟨a1, a2, a3, a4⟩
  · exact Or.inl ⟨a1, fun i h0 h1 => (hfit i h0 h1).mp (a2 i h0 h1), a3⟩
  · exact Or.inr (Or.inl ⟨a1, a2, fun i h0 h1 => (hfit i h0 (by omega)).mp (a3 i h0 h1), fun q => a4 ((hfit φ a1 a2).mpr q)⟩)
  · exact Or.inr (Or.inr ⟨a1, a2, a3, fun i h0 h1 => (hfit i h0 h1).mp (a4 i h0 h1)⟩)
theorem tm_ff_n {b : Int → Int} {n : Int} (h : tm_ff b n (-1)) (h0 : 0 ≤ n) : n ≤ 31 ∧ (n = 0 ∨ n % 4 = 3) := by
  rcases h with ⟨a1, a2, a3⟩ | ⟨a1, a2, a3, a4⟩ | ⟨a1, a2, a3, a4⟩
  · refine ⟨?_, a3⟩
    by_cases h : 32 < n
    · have := a2 32 (by omega) h
      unfold tm_fit at this
      omega
    · omega
  · omega
  · omega
-- the class reads it
theorem b_fitsT {x : tg_Mem} {i : Int} (hi : 0 ≤ i ∧ i < x 2 1) (hn : x 2 1 ≤ 40) (h : tm_fit (fun i => x 3 i.toNat) i) : f_X2_fits i x = some (1, x) := by
  unfold tm_fit at h
  dsimp only at h
  rcases h with h | h | h | h
  · simp (disch := omega) only [tg_lt, tg_jn, tg_bd_some, tg_ck_pos, if_pos, if_neg, tg_wi_e, tg_up_ss, tg_up_nk, tg_up_nj, ne_eq, not_true_eq_false, not_false_eq_true, if_true, if_false, Nat.reduceAdd, f_X2_fits, b_byteAt, tg_iand3, b_isPlaceT]
  · simp (disch := omega) only [tg_lt, tg_jn, tg_bd_some, tg_ck_pos, if_pos, if_neg, tg_wi_e, tg_up_ss, tg_up_nk, tg_up_nj, ne_eq, not_true_eq_false, not_false_eq_true, if_true, if_false, Nat.reduceAdd, f_X2_fits, b_byteAt, tg_iand3, b_isPlaceT]
  · simp (disch := omega) only [tg_lt, tg_jn, tg_bd_some, tg_ck_pos, if_pos, if_neg, tg_wi_e, tg_up_ss, tg_up_nk, tg_up_nj, ne_eq, not_true_eq_false, not_false_eq_true, if_true, if_false, Nat.reduceAdd, f_X2_fits, b_byteAt, tg_iand3, b_isPlaceT]
  · simp (disch := omega) only [tg_lt, tg_jn, tg_bd_some, tg_ck_pos, if_pos, if_neg, tg_wi_e, tg_up_ss, tg_up_nk, tg_up_nj, ne_eq, not_true_eq_false, not_false_eq_true, if_true, if_false, Nat.reduceAdd, f_X2_fits, b_byteAt, tg_iand3, b_isPlaceT]
theorem b_fitsF {x : tg_Mem} {i : Int} (hi : 0 ≤ i ∧ i < x 2 1) (hn : x 2 1 ≤ 40) (h : ¬ tm_fit (fun i => x 3 i.toNat) i) : f_X2_fits i x = some (0, x) := by
  unfold tm_fit at h
  dsimp only at h
  rcases (show i % 4 = 0 ∨ i % 4 = 1 ∨ i % 4 = 2 ∨ i % 4 = 3 by omega) with h4 | h4 | h4 | h4
  · by_cases h5 : 32 ≤ i
    · simp (disch := omega) only [tg_lt, tg_jn, tg_bd_some, tg_ck_pos, if_pos, if_neg, tg_wi_e, tg_up_ss, tg_up_nk, tg_up_nj, ne_eq, not_true_eq_false, not_false_eq_true, if_true, if_false, Nat.reduceAdd, f_X2_fits, b_byteAt, tg_iand3, b_isPlaceT]
    · simp (disch := omega) only [tg_lt, tg_jn, tg_bd_some, tg_ck_pos, if_pos, if_neg, tg_wi_e, tg_up_ss, tg_up_nk, tg_up_nj, ne_eq, not_true_eq_false, not_false_eq_true, if_true, if_false, Nat.reduceAdd, f_X2_fits, b_byteAt, tg_iand3, b_isPlaceF]
  · by_cases h5 : 48 ≤ x 3 i.toNat ∧ x 3 i.toNat ≤ 55
    · simp (disch := omega) only [tg_lt, tg_jn, tg_bd_some, tg_ck_pos, if_pos, if_neg, tg_wi_e, tg_up_ss, tg_up_nk, tg_up_nj, ne_eq, not_true_eq_false, not_false_eq_true, if_true, if_false, Nat.reduceAdd, f_X2_fits, b_byteAt, tg_iand3, b_isPlaceT]
    · simp (disch := omega) only [tg_lt, tg_jn, tg_bd_some, tg_ck_pos, if_pos, if_neg, tg_wi_e, tg_up_ss, tg_up_nk, tg_up_nj, ne_eq, not_true_eq_false, not_false_eq_true, if_true, if_false, Nat.reduceAdd, f_X2_fits, b_byteAt, tg_iand3, b_isPlaceF]
  · by_cases h5 : x 3 i.toNat < 49
    · simp (disch := omega) only [tg_lt, tg_jn, tg_bd_some, tg_ck_pos, if_pos, if_neg, tg_wi_e, tg_up_ss, tg_up_nk, tg_up_nj, ne_eq, not_true_eq_false, not_false_eq_true, if_true, if_false, Nat.reduceAdd, f_X2_fits, b_byteAt, tg_iand3]
    · simp (disch := omega) only [tg_lt, tg_jn, tg_bd_some, tg_ck_pos, if_pos, if_neg, tg_wi_e, tg_up_ss, tg_up_nk, tg_up_nj, ne_eq, not_true_eq_false, not_false_eq_true, if_true, if_false, Nat.reduceAdd, f_X2_fits, b_byteAt, tg_iand3]
  · simp (disch := omega) only [tg_lt, tg_jn, tg_bd_some, tg_ck_pos, if_pos, if_neg, tg_wi_e, tg_up_ss, tg_up_nk, tg_up_nj, ne_eq, not_true_eq_false, not_false_eq_true, if_true, if_false, Nat.reduceAdd, f_X2_fits, b_byteAt, tg_iand3]
theorem b_ffl {x : tg_Mem} {j : tg_Mem → tg_R} (hn : 0 ≤ x 2 1 ∧ x 2 1 ≤ 40) : ∀ (n : Nat) (v : Int), 0 ≤ v → v ≤ x 2 1 → x 2 1 - v < n → (∀ i, 0 ≤ i → i < v → tm_fit (fun i => x 3 i.toNat) i) →
    (∃ φ, 0 ≤ φ ∧ φ < x 2 1 ∧ (∀ i, 0 ≤ i → i < φ → tm_fit (fun i => x 3 i.toNat) i) ∧ ¬ tm_fit (fun i => x 3 i.toNat) φ ∧ tg_fx (f_X2_firstFault_B2 j) (fun _ _ => none) n v x = some (φ, x)) ∨
    ((∀ i, 0 ≤ i → i < x 2 1 → tm_fit (fun i => x 3 i.toNat) i) ∧ tg_fx (f_X2_firstFault_B2 j) (fun _ _ => none) n v x = j x) := by
  intro n
  induction n with
  | zero => intro v h1 h2 h3; omega
  | succ n ih =>
    intro v h1 h2 h3 h4
    rw [tg_fx_s]
    by_cases hv : x 2 1 ≤ v
    · right
      refine ⟨fun i h0 h5 => h4 i h0 (by omega), ?_⟩
      simp (disch := omega) only [tg_lt, tg_jn, tg_bd_some, tg_ck_pos, if_pos, if_neg, tg_wi_e, tg_up_ss, tg_up_nk, tg_up_nj, ne_eq, not_true_eq_false, not_false_eq_true, if_true, if_false, Nat.reduceAdd, f_X2_firstFault_B2]
    · by_cases hf : tm_fit (fun i => x 3 i.toNat) v
      · have e1 := b_fitsT (x := x) (i := v) (by omega) (by omega) hf
        have e2 : f_X2_firstFault_B2 j (tg_fx (f_X2_firstFault_B2 j) (fun _ _ => none) n) v x = tg_fx (f_X2_firstFault_B2 j) (fun _ _ => none) n (v + 1) x := by
          unfold f_X2_firstFault_B2
          simp (disch := omega) only [tg_lt, tg_jn, tg_bd_some, tg_ck_pos, if_pos, if_neg, tg_wi_e, tg_up_ss, tg_up_nk, tg_up_nj, ne_eq, not_true_eq_false, not_false_eq_true, if_true, if_false, Nat.reduceAdd, e1]
        rw [e2]
        refine ih (v + 1) (by omega) (by omega) (by omega) (fun i h0 h5 => ?_)
        by_cases hi : i = v
        · rw [hi]; exact hf
        · exact h4 i h0 (by omega)
      · left
        have e1 := b_fitsF (x := x) (i := v) (by omega) (by omega) hf
        refine ⟨v, h1, by omega, h4, hf, ?_⟩
        simp (disch := omega) only [tg_lt, tg_jn, tg_bd_some, tg_ck_pos, if_pos, if_neg, tg_wi_e, tg_up_ss, tg_up_nk, tg_up_nj, ne_eq, not_true_eq_false, not_false_eq_true, if_true, if_false, Nat.reduceAdd, f_X2_firstFault_B2, e1]
theorem b_firstFault {x : tg_Mem} (hn : 0 ≤ x 2 1 ∧ x 2 1 ≤ 40) : ∃ φ, f_X2_firstFault x = some (φ, x) ∧ tm_ff (fun i => x 3 i.toNat) (x 2 1) φ := by
  simp only [f_X2_firstFault, tg_jn]
  rcases b_ffl (x := x) (j := fun m_29 => if m_29 2 1 = 0 then some (-1, m_29) else if tg_iand (m_29 2 1) 3 ≠ 3 then some (m_29 2 1, m_29) else some (-1, m_29)) hn tg_FU 0 (by omega) (by omega) (by have := tg_FUg; omega) (fun i h0 h1 => by omega) with ⟨φ, h1, h2, h3, h4, h5⟩ | ⟨h1, h2⟩
  · exact ⟨φ, h5, Or.inr (Or.inl ⟨h1, h2, h3, h4⟩)⟩
  · rw [h2]
    by_cases h0 : x 2 1 = 0
    · exact ⟨-1, by rw [if_pos h0], Or.inl ⟨rfl, h1, Or.inl h0⟩⟩
    · rw [if_neg h0, tg_iand3 (by omega)]
      by_cases h4 : x 2 1 % 4 = 3
      · exact ⟨-1, by rw [if_neg (by omega)], Or.inl ⟨rfl, h1, Or.inr h4⟩⟩
      · exact ⟨x 2 1, by rw [if_pos h4], Or.inr (Or.inr ⟨rfl, by omega, h4, h1⟩)⟩
-- what the class keeps of the text
def tx_S (x : tg_Mem) : Prop := tm_ff (fun i => x 3 i.toNat) (x 2 1) (x 1 9) ∧ x 1 8 = (if x 1 9 = -1 then (x 2 1 + 1) / 4 else 0) ∧ ∀ p : Int, 0 ≤ p → p < x 1 8 → x 7 p.toNat = x 3 (4 * p).toNat - 48 ∧ x 8 p.toNat = x 3 (4 * p + 1).toNat - 48 ∧ x 9 p.toNat = x 3 (4 * p + 2).toNat - 48
theorem b_figure {x : tg_Mem} {p w : Int} (hp : 0 ≤ p ∧ p < 10) (hw : 0 ≤ w ∧ w < 3) (hn : 4 * p + w < x 2 1 ∧ x 2 1 ≤ 40) (hb : 0 ≤ x 3 (4 * p + w).toNat ∧ x 3 (4 * p + w).toNat ≤ 255) : f_X2_figure p w x = some (x 3 (4 * p + w).toNat - 48, x) := by
  simp (disch := omega) only [tg_lt, tg_jn, tg_bd_some, tg_ck_pos, if_pos, if_neg, tg_wi_e, tg_up_ss, tg_up_nk, tg_up_nj, ne_eq, not_true_eq_false, not_false_eq_true, if_true, if_false, Nat.reduceAdd, f_X2_figure, b_byteAt]
theorem b_survl {P : Int} (hP : 0 ≤ P ∧ P ≤ 8) : ∀ (n : Nat) (v : Int) (x : tg_Mem), 0 ≤ v → v ≤ P → P - v < n → x 1 8 = P → x 2 1 ≤ 40 → (P = 0 ∨ 4 * P - 1 = x 2 1) → (∀ i : Int, 0 ≤ i → i < x 2 1 → 0 ≤ x 3 i.toNat ∧ x 3 i.toNat ≤ 255) →
    (∀ p : Int, 0 ≤ p → p < v → x 7 p.toNat = x 3 (4 * p).toNat - 48 ∧ x 8 p.toNat = x 3 (4 * p + 1).toNat - 48 ∧ x 9 p.toNat = x 3 (4 * p + 2).toNat - 48) →
    ∃ x', tg_fx f_X2_survey_B37 (fun _ _ => none) n v x = some (0, x') ∧ (∀ k, k ≠ 7 → k ≠ 8 → k ≠ 9 → x' k = x k) ∧
      (∀ p : Int, 0 ≤ p → p < P → x' 7 p.toNat = x 3 (4 * p).toNat - 48 ∧ x' 8 p.toNat = x 3 (4 * p + 1).toNat - 48 ∧ x' 9 p.toNat = x 3 (4 * p + 2).toNat - 48) := by
  intro n
  induction n with
  | zero => intro v x h1 h2 h3; omega
  | succ n ih =>
    intro v x h1 h2 h3 h4 h5 h6 h7 h8
    rw [tg_fx_s]
    by_cases hv : P ≤ v
    · refine ⟨x, ?_, fun k _ _ _ => rfl, fun p h0 h9 => h8 p h0 (by omega)⟩
      simp (disch := omega) only [tg_lt, tg_jn, tg_bd_some, tg_ck_pos, if_pos, if_neg, tg_wi_e, tg_up_ss, tg_up_nk, tg_up_nj, ne_eq, not_true_eq_false, not_false_eq_true, if_true, if_false, Nat.reduceAdd, f_X2_survey_B37]
    · have q0 := h7 (4 * v) (by omega) (by omega)
      have q1 := h7 (4 * v + 1) (by omega) (by omega)
      have q2 := h7 (4 * v + 2) (by omega) (by omega)
      have e0 : f_X2_figure v 0 x = some (x 3 (4 * v).toNat - 48, x) := by
        have := b_figure (x := x) (p := v) (w := 0) (by omega) (by omega) (by omega) (by simpa using q0)
        simpa using this
      obtain ⟨x1, hx1⟩ : ∃ x1, x1 = tg_up x 7 v.toNat (x 3 (4 * v).toNat - 48) := ⟨_, rfl⟩
      have f1 : ∀ k, k ≠ 7 → x1 k = x k := fun k hk => by rw [hx1, tg_up_k hk]
      have e1 : f_X2_figure v 1 x1 = some (x 3 (4 * v + 1).toNat - 48, x1) := by
        have := b_figure (x := x1) (p := v) (w := 1) (by omega) (by omega) (by rw [f1 2 (by decide)]; omega) (by rw [f1 3 (by decide)]; exact q1)
        rw [this, f1 3 (by decide)]
      obtain ⟨x2, hx2⟩ : ∃ x2, x2 = tg_up x1 8 v.toNat (x 3 (4 * v + 1).toNat - 48) := ⟨_, rfl⟩
      have f2 : ∀ k, k ≠ 7 → k ≠ 8 → x2 k = x k := fun k hk hk2 => by rw [hx2, tg_up_k hk2, f1 k hk]
      have e2 : f_X2_figure v 2 x2 = some (x 3 (4 * v + 2).toNat - 48, x2) := by
        have := b_figure (x := x2) (p := v) (w := 2) (by omega) (by omega) (by rw [f2 2 (by decide) (by decide)]; omega) (by rw [f2 3 (by decide) (by decide)]; exact q2)
        rw [this, f2 3 (by decide) (by decide)]
      obtain ⟨x3, hx3⟩ : ∃ x3, x3 = tg_up x2 9 v.toNat (x 3 (4 * v + 2).toNat - 48) := ⟨_, rfl⟩
      have f3 : ∀ k, k ≠ 7 → k ≠ 8 → k ≠ 9 → x3 k = x k := fun k hk hk2 hk3 => by rw [hx3, tg_up_k hk3, f2 k hk hk2]
      have e3 : f_X2_survey_B37 (tg_fx f_X2_survey_B37 (fun _ _ => none) n) v x = tg_fx f_X2_survey_B37 (fun _ _ => none) n (v + 1) x3 := by
        unfold f_X2_survey_B37
        rw [if_neg (by omega), if_neg (by omega), e0]
        simp only [tg_bd_some, tg_lt]
        rw [tg_ck_pos (by omega), ← hx1, e1]
        simp only [tg_bd_some]
        rw [tg_ck_pos (by omega), ← hx2, e2]
        simp only [tg_bd_some]
        rw [tg_ck_pos (by omega), ← hx3, tg_wi_e (by omega)]
      rw [e3]
      obtain ⟨x', g1, g2, g3⟩ := ih (v + 1) x3 (by omega) (by omega) (by omega) (by rw [f3 1 (by decide) (by decide) (by decide)]; exact h4) (by rw [f3 2 (by decide) (by decide) (by decide)]; exact h5) (by rw [f3 2 (by decide) (by decide) (by decide)]; exact h6) (fun i h0 h9 => by
          rw [f3 2 (by decide) (by decide) (by decide)] at h9; rw [f3 3 (by decide) (by decide) (by decide)]; exact h7 i h0 h9) (fun p h0 h9 => by
          rw [f3 3 (by decide) (by decide) (by decide)]
          by_cases hp : p = v
          · subst hp
            refine ⟨?_, ?_, ?_⟩
            · rw [hx3, tg_up_k (by decide), hx2, tg_up_k (by decide), hx1, tg_up_same]
            · rw [hx3, tg_up_k (by decide), hx2, tg_up_same]
            · rw [hx3, tg_up_same]
          · have hpv : p.toNat ≠ v.toNat := by omega
            obtain ⟨a1, a2, a3⟩ := h8 p h0 (by omega)
            refine ⟨?_, ?_, ?_⟩
            · rw [hx3, tg_up_k (by decide), hx2, tg_up_k (by decide), hx1, tg_up_j hpv, a1]
            · rw [hx3, tg_up_k (by decide), hx2, tg_up_j hpv, hx1, tg_up_k (by decide), a2]
            · rw [hx3, tg_up_j hpv, hx2, tg_up_k (by decide), hx1, tg_up_k (by decide), a3])
      refine ⟨x', g1, fun k a b c => by rw [g2 k a b c, f3 k a b c], fun p h0 h9 => ?_⟩
      have := g3 p h0 h9
      rw [f3 3 (by decide) (by decide) (by decide)] at this
      exact this
theorem b_survey {x : tg_Mem} (hn : 0 ≤ x 2 1 ∧ x 2 1 ≤ 40) (hb : ∀ i : Int, 0 ≤ i → i < x 2 1 → 0 ≤ x 3 i.toNat ∧ x 3 i.toNat ≤ 255) : ∃ x', f_X2_survey x = some (0, x') ∧ tx_S x' ∧ (∀ k, k ≠ 1 → k ≠ 7 → k ≠ 8 → k ≠ 9 → x' k = x k) ∧ (∀ j, j ≠ 8 → j ≠ 9 → x' 1 j = x 1 j) := by
  obtain ⟨φ, e1, hf⟩ := b_firstFault hn
  obtain ⟨P, hP⟩ : ∃ P : Int, P = if φ = -1 then (x 2 1 + 1) / 4 else 0 := ⟨_, rfl⟩
  have hP8 : 0 ≤ P ∧ P ≤ 8 ∧ (P = 0 ∨ 4 * P - 1 = x 2 1) := by
    rw [hP]
    by_cases h : φ = -1
    · rw [if_pos h]
      rw [h] at hf
      have := tm_ff_n hf hn.1
      omega
    · rw [if_neg h]; omega
  obtain ⟨x1, hx1⟩ : ∃ x1, x1 = tg_up (tg_up x 1 9 φ) 1 8 P := ⟨_, rfl⟩
  have f1 : ∀ k, k ≠ 1 → x1 k = x k := fun k hk => by rw [hx1, tg_up_k hk, tg_up_k hk]
  obtain ⟨x', g1, g2, g3⟩ := b_survl (P := P) (by omega) tg_FU 0 x1 (by omega) (by omega) (by have := tg_FUg; omega) (by rw [hx1, tg_up_same]) (by rw [f1 2 (by decide)]; omega) (by rw [f1 2 (by decide)]; exact hP8.2.2) (fun i h0 h9 => by
      rw [f1 2 (by decide)] at h9; rw [f1 3 (by decide)]; exact hb i h0 h9) (fun p h0 h9 => by omega)
  rw [f1 3 (by decide)] at g3
  have e0 : f_X2_survey x = tg_fx f_X2_survey_B37 (fun _ _ => none) tg_FU 0 x1 := by
    simp only [f_X2_survey, tg_jn, tg_lt, e1, tg_bd_some, tg_up_same]
    by_cases h : φ = -1
    · rw [if_neg (by omega)]
      rw [tg_up_k (by decide : (2 : Nat) ≠ 1), tg_wi_e (by omega), tg_ishr2 (by omega), hx1, hP, if_pos h]
    · rw [if_pos h, hx1, hP, if_neg h]
  have k9 : x' 1 9 = φ := by rw [g2 1 (by decide) (by decide) (by decide), hx1, tg_up_j (by decide), tg_up_same]
  have k8 : x' 1 8 = P := by rw [g2 1 (by decide) (by decide) (by decide), hx1, tg_up_same]
  have k2 : x' 2 = x 2 := by rw [g2 2 (by decide) (by decide) (by decide), f1 2 (by decide)]
  have k3 : x' 3 = x 3 := by rw [g2 3 (by decide) (by decide) (by decide), f1 3 (by decide)]
  refine ⟨x', by rw [e0, g1], ⟨?_, ?_, ?_⟩, fun k a b c d => by rw [g2 k b c d, f1 k a], fun j a b => by rw [g2 1 (by decide) (by decide) (by decide), hx1, tg_up_j a, tg_up_j b]⟩
  · rw [k9, k2, k3]; exact hf
  · rw [k9, k8, k2]; exact hP
  · rw [k8, k3]; exact g3
