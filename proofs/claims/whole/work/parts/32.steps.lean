-- how far places lie from a place
def tb_W (P : Int) (A B : Int → Int) (a : Int) : Nat → Int → Prop
  | 0, v => v = a
  | n + 1, v => tb_W P A B a n v ∨ ∃ p, 0 ≤ p ∧ p < P ∧ ((A p = v ∧ tb_W P A B a n (B p)) ∨ (B p = v ∧ tb_W P A B a n (A p)))
section STEPS
variable {P : Int} {A B Y : Int → Int} {a : Int}
theorem tb_W_le {v : Int} : ∀ {k n : Nat}, k ≤ n → tb_W P A B a k v → tb_W P A B a n v := by
  intro k n h
  induction h with
  | refl => exact fun z => z
  | step _ ih => exact fun z => Or.inl (ih z)
theorem tb_W_A {n : Nat} {p : Int} (hp : 0 ≤ p ∧ p < P) (h : tb_W P A B a n (B p)) : tb_W P A B a (n + 1) (A p) := Or.inr ⟨p, hp.1, hp.2, Or.inl ⟨rfl, h⟩⟩
theorem tb_W_B {n : Nat} {p : Int} (hp : 0 ≤ p ∧ p < P) (h : tb_W P A B a n (A p)) : tb_W P A B a (n + 1) (B p) := Or.inr ⟨p, hp.1, hp.2, Or.inr ⟨rfl, h⟩⟩
noncomputable def tb_i (P : Int) (A B : Int → Int) (a : Int) (n : Nat) (v : Int) : Int := @ite Int (tb_W P A B a n v) (Classical.propDecidable _) 1 0
theorem tb_i_b {n : Nat} {v : Int} : 0 ≤ tb_i P A B a n v ∧ tb_i P A B a n v ≤ 1 ∧ tb_i P A B a n v ≤ tb_i P A B a (n + 1) v := by
  unfold tb_i
  by_cases h : tb_W P A B a n v
  · rw [if_pos h, if_pos (tb_W_le (Nat.le_succ n) h)]; omega
  · rw [if_neg h]
    split <;> omega
theorem tb_i_W {n : Nat} {v : Int} : tb_i P A B a n v = 1 ↔ tb_W P A B a n v := by
  unfold tb_i
  by_cases h : tb_W P A B a n v
  · rw [if_pos h]; exact ⟨fun _ => h, fun _ => rfl⟩
  · rw [if_neg h]; exact ⟨fun z => by omega, fun z => absurd z h⟩
noncomputable def tb_cnt (P : Int) (A B : Int → Int) (a : Int) (n : Nat) : Int := tb_i P A B a n 0 + tb_i P A B a n 1 + tb_i P A B a n 2 + tb_i P A B a n 3 + tb_i P A B a n 4 + tb_i P A B a n 5 + tb_i P A B a n 6 + tb_i P A B a n 7
theorem tb_stop {n : Nat} (hm : tr_md P A B Y) (h : ∀ v, 0 ≤ v → v ≤ 7 → tb_W P A B a (n + 1) v → tb_W P A B a n v) : ∀ (j : Nat) (v : Int), 0 ≤ v → v ≤ 7 → tb_W P A B a (n + j) v → tb_W P A B a n v := by
  intro j
  induction j with
  | zero => exact fun v _ _ z => z
  | succ j ih =>
    intro v v0 v7 z
    rcases z with z | ⟨p, p0, p1, z⟩
    · exact ih v v0 v7 z
    · have hp := hm.2.2 p p0 p1
      rcases z with ⟨e, z⟩ | ⟨e, z⟩
      · exact h v v0 v7 (Or.inr ⟨p, p0, p1, Or.inl ⟨e, ih _ hp.2.1.1 hp.2.1.2 z⟩⟩)
      · exact h v v0 v7 (Or.inr ⟨p, p0, p1, Or.inr ⟨e, ih _ hp.1.1 hp.1.2 z⟩⟩)
theorem tb_grow (ha : 0 ≤ a ∧ a ≤ 7) : ∀ n : Nat, (n : Int) + 1 ≤ tb_cnt P A B a n ∨ ∃ j, j < n ∧ ∀ v, 0 ≤ v → v ≤ 7 → tb_W P A B a (j + 1) v → tb_W P A B a j v := by
  intro n
  induction n with
  | zero =>
    left
    have e : tb_i P A B a 0 a = 1 := tb_i_W.mpr rfl
    have b0 := tb_i_b (P := P) (A := A) (B := B) (a := a) (n := 0) (v := 0)
    have b1 := tb_i_b (P := P) (A := A) (B := B) (a := a) (n := 0) (v := 1)
    have b2 := tb_i_b (P := P) (A := A) (B := B) (a := a) (n := 0) (v := 2)
    have b3 := tb_i_b (P := P) (A := A) (B := B) (a := a) (n := 0) (v := 3)
    have b4 := tb_i_b (P := P) (A := A) (B := B) (a := a) (n := 0) (v := 4)
    have b5 := tb_i_b (P := P) (A := A) (B := B) (a := a) (n := 0) (v := 5)
    have b6 := tb_i_b (P := P) (A := A) (B := B) (a := a) (n := 0) (v := 6)
    have b7 := tb_i_b (P := P) (A := A) (B := B) (a := a) (n := 0) (v := 7)
    unfold tb_cnt
    rcases (show a = 0 ∨ a = 1 ∨ a = 2 ∨ a = 3 ∨ a = 4 ∨ a = 5 ∨ a = 6 ∨ a = 7 by omega) with h | h | h | h | h | h | h | h <;> rw [h] at e b0 b1 b2 b3 b4 b5 b6 b7 ⊢ <;> omega
  | succ n ih =>
    rcases ih with ih | ⟨j, hj, h⟩
    · have b0 := tb_i_b (P := P) (A := A) (B := B) (a := a) (n := n) (v := 0)
      have b1 := tb_i_b (P := P) (A := A) (B := B) (a := a) (n := n) (v := 1)
      have b2 := tb_i_b (P := P) (A := A) (B := B) (a := a) (n := n) (v := 2)
      have b3 := tb_i_b (P := P) (A := A) (B := B) (a := a) (n := n) (v := 3)
      have b4 := tb_i_b (P := P) (A := A) (B := B) (a := a) (n := n) (v := 4)
      have b5 := tb_i_b (P := P) (A := A) (B := B) (a := a) (n := n) (v := 5)
      have b6 := tb_i_b (P := P) (A := A) (B := B) (a := a) (n := n) (v := 6)
      have b7 := tb_i_b (P := P) (A := A) (B := B) (a := a) (n := n) (v := 7)
      by_cases hc : tb_cnt P A B a (n + 1) ≤ tb_cnt P A B a n
      · right
        refine ⟨n, Nat.lt_succ_self n, fun v v0 v7 hv => ?_⟩
        rw [← tb_i_W] at hv ⊢
        unfold tb_cnt at hc
        rcases (show v = 0 ∨ v = 1 ∨ v = 2 ∨ v = 3 ∨ v = 4 ∨ v = 5 ∨ v = 6 ∨ v = 7 by omega) with h | h | h | h | h | h | h | h <;> rw [h] at hv ⊢ <;> omega
      · left; omega
    · exact Or.inr ⟨j, by omega, h⟩
/-- eight places lie within seven steps, or are out of reach -/
theorem tb_seven (hm : tr_md P A B Y) (ha : 0 ≤ a ∧ a ≤ 7) {n : Nat} {v : Int} (hv : 0 ≤ v ∧ v ≤ 7) (h : tb_W P A B a n v) : tb_W P A B a 7 v := by
  rcases tb_grow (P := P) (A := A) (B := B) ha 7 with g | ⟨j, hj, g⟩
  · have b : ∀ v, tb_i P A B a 7 v ≤ 1 := fun v => tb_i_b.2.1
    have b0 := b 0
    have b1 := b 1
    have b2 := b 2
    have b3 := b 3
    have b4 := b 4
    have b5 := b 5
    have b6 := b 6
    have b7 := b 7
    unfold tb_cnt at g
    rw [← tb_i_W]
    rcases (show v = 0 ∨ v = 1 ∨ v = 2 ∨ v = 3 ∨ v = 4 ∨ v = 5 ∨ v = 6 ∨ v = 7 by omega) with h | h | h | h | h | h | h | h <;> rw [h] <;> omega
  · have h1 := tb_stop hm g n v hv.1 hv.2 (tb_W_le (by omega) h)
    exact tb_W_le (by omega) h1
-- the class
def tb_Q (P : Int) (A B : Int → Int) (a : Int) (r : Nat) (p0 : Int) (f : Int → Int) : Prop := ∀ v, 0 ≤ v → v ≤ 7 →
  (f v = -1 ∧ ¬ tb_W P A B a r v ∧ ∀ p, 0 ≤ p → p < p0 → ¬ (A p = v ∧ tb_W P A B a r (B p)) ∧ ¬ (B p = v ∧ tb_W P A B a r (A p))) ∨
  (0 ≤ f v ∧ f v ≤ r + 1 ∧ tb_W P A B a (f v).toNat v ∧ ∀ j : Nat, (j : Int) < f v → ¬ tb_W P A B a j v)
theorem tb_Q_next {r : Nat} {f : Int → Int} (h : tb_Q P A B a r P f) : tb_Q P A B a (r + 1) 0 f := by
  intro v v0 v7
  rcases h v v0 v7 with ⟨h1, h2, h3⟩ | ⟨h1, h2, h3⟩
  · left
    refine ⟨h1, fun z => ?_, fun p a b => by omega⟩
    rcases z with z | ⟨p, p0, p1, z⟩
    · exact h2 z
    · rcases z with z | z
      · exact (h3 p p0 p1).1 z
      · exact (h3 p p0 p1).2 z
  · right; exact ⟨h1, by omega, h3⟩
/-- one look across a path, from 's' to 't' -/
def tb_set (f : Int → Int) (s t r : Int) : Int → Int := fun v => if f s = r ∧ f t = -1 ∧ v = t then r + 1 else f v
/-- with an edge that is looked across from both sides -/
theorem tb_Q_step {r : Nat} {p0 : Int} {f : Int → Int} (hm : tr_md P A B Y) (hp : 0 ≤ p0 ∧ p0 < P) (h : tb_Q P A B a r p0 f) :
    tb_Q P A B a r (p0 + 1) (tb_set (tb_set f (A p0) (B p0) r) (B p0) (A p0) r) := by
  have hp2 := hm.2.2 p0 hp.1 hp.2
  have one : ∀ (f : Int → Int) (s t : Int), (0 ≤ s ∧ s ≤ 7) → (0 ≤ t ∧ t ≤ 7) → (∀ k, tb_W P A B a k s → tb_W P A B a (k + 1) t) → tb_Q P A B a r p0 f → tb_Q P A B a r p0 (tb_set f s t r) ∧ (tb_set f s t r t = -1 → ¬ tb_W P A B a r s) ∧ (∀ v, tb_set f s t r v = -1 → f v = -1) := by
    intro f s t hs ht hst hQ
    have hQt := hQ t ht.1 ht.2
    refine ⟨fun v v0 v7 => ?_, fun z => ?_, fun v z => ?_⟩
    · by_cases c : f s = r ∧ f t = -1 ∧ v = t
      · have e : tb_set f s t r v = r + 1 := by unfold tb_set; rw [if_pos c]
        right
        rw [e]
        obtain ⟨c1, c2, c3⟩ := c
        rw [c3]
        have hs1 := hQ s hs.1 hs.2
        rcases hs1 with ⟨z1, -⟩ | ⟨-, -, z3, -⟩
        · omega
        · rw [c1] at z3
          rcases hQt with ⟨-, y2, -⟩ | ⟨y1, -⟩
          · refine ⟨by omega, by omega, ?_, fun j hj hw => y2 (tb_W_le (by omega) hw)⟩
            have := hst _ z3
            rw [show ((r : Int) + 1).toNat = (r : Int).toNat + 1 by omega]
            exact this
          · omega
      · have e : tb_set f s t r v = f v := by unfold tb_set; rw [if_neg c]
        rw [e]
        exact hQ v v0 v7
    · intro hw
      have e : f t = -1 := by
        unfold tb_set at z
        by_cases c : f s = r ∧ f t = -1 ∧ t = t
        · rw [if_pos c] at z; omega
        · rw [if_neg c] at z; exact z
      rcases hQt with ⟨-, y2, -⟩ | ⟨y1, -⟩
      · have hs1 := hQ s hs.1 hs.2
        rcases hs1 with ⟨-, z2, -⟩ | ⟨z1, z2, z3, z4⟩
        · exact z2 hw
        · by_cases c : f s = r
          · unfold tb_set at z
            rw [if_pos ⟨c, e, rfl⟩] at z
            omega
          · by_cases c2 : f s < r
            · exact y2 (tb_W_le (by omega) (hst _ z3))
            · exact z4 r (by omega) hw
      · omega
    · unfold tb_set at z
      by_cases c : f s = r ∧ f t = -1 ∧ v = t
      · rw [if_pos c] at z; omega
      · rw [if_neg c] at z; exact z
  obtain ⟨q1, q2, q3⟩ := one f (A p0) (B p0) hp2.1 hp2.2.1 (fun k z => tb_W_B hp z) h
  obtain ⟨u1, u2, u3⟩ := one _ (B p0) (A p0) hp2.2.1 hp2.1 (fun k z => tb_W_A hp z) q1
  intro v v0 v7
  rcases u1 v v0 v7 with ⟨h1, h2, h3⟩ | h1
  · left
    refine ⟨h1, h2, fun p p1 p2 => ?_⟩
    by_cases c : p = p0
    · rw [c]
      refine ⟨fun z => ?_, fun z => ?_⟩
      · rw [← z.1] at h1
        exact u2 h1 z.2
      · have := u3 v h1
        rw [← z.1] at this
        exact q2 this z.2
    · exact h3 p p1 (by omega)
  · right; exact h1
theorem c_across1 {s t r : Int} {x : tg_Mem} {f : Int → Int} (hs : 0 ≤ s ∧ s ≤ 7) (ht : 0 ≤ t ∧ t ≤ 7) (hr : 0 ≤ r ∧ r ≤ 100) (hf : ∀ v, 0 ≤ v → v ≤ 7 → x 6 v.toNat = f v) :
    ∃ x', f_X2_measureAcross s t (r + 1) x = some (0, x') ∧ (∀ v, 0 ≤ v → v ≤ 7 → x' 6 v.toNat = tb_set f s t r v) ∧ ∀ c, c ≠ 6 → x' c = x c := by
  simp only [f_X2_measureAcross, tg_lt]
  rw [b_isBelowT (by omega), tg_bd_some, if_neg (by decide), b_isBelowT (by omega), tg_bd_some, if_neg (by decide), tg_ck_pos (by omega), hf s hs.1 hs.2, hf t ht.1 ht.2, show tg_wi (r + 1 - 1) = r by rw [tg_wi_e (by omega)]; omega]
  by_cases c1 : f s = r
  · rw [if_neg (fun z => z c1), tg_ck_pos (by omega)]
    by_cases c2 : f t = -1
    · rw [if_neg (fun z => z c2), tg_ck_pos (by omega)]
      refine ⟨_, rfl, fun v v0 v7 => ?_, fun c hc => tg_up_k hc⟩
      unfold tb_set
      by_cases c3 : v = t
      · rw [if_pos ⟨c1, c2, c3⟩, c3, tg_up_same]
      · rw [if_neg (fun z => c3 z.2.2), tg_up_j (by omega)]; exact hf v v0 v7
    · rw [if_pos c2]
      refine ⟨_, rfl, fun v v0 v7 => ?_, fun c hc => rfl⟩
      unfold tb_set
      rw [if_neg (fun z => c2 z.2.1)]; exact hf v v0 v7
  · rw [if_pos c1]
    refine ⟨_, rfl, fun v v0 v7 => ?_, fun c hc => rfl⟩
    unfold tb_set
    rw [if_neg (fun z => c1 z.1)]; exact hf v v0 v7
theorem c_roundl {r : Nat} {j89 : tg_Mem → tg_R} (hr : r ≤ 100) (hm : tr_md P A B Y) : ∀ (N : Nat) (p0 : Int) (f : Int → Int) (x : tg_Mem) (F : Nat), N < F → 0 ≤ p0 → p0 + N = P → tc_md x P A B Y → tb_Q P A B a r p0 f → (∀ v, 0 ≤ v → v ≤ 7 → x 6 v.toNat = f v) →
    ∃ x' f', tg_fx (f_X2_measureFrom_B35 ((r : Int) + 1) j89) (fun _ _ => none) F p0 x = j89 x' ∧ tb_Q P A B a r P f' ∧ (∀ v, 0 ≤ v → v ≤ 7 → x' 6 v.toNat = f' v) ∧ ∀ c, c ≠ 6 → x' c = x c := by
  intro N
  induction N with
  | zero =>
    intro p0 f x F hF hp hpN hx hQ hf
    obtain ⟨F, rfl⟩ : ∃ n', F = n' + 1 := ⟨F - 1, by omega⟩
    refine ⟨x, f, ?_, by rw [show P = p0 by omega]; rw [show P = p0 by omega] at hQ; exact hQ, hf, fun _ _ => rfl⟩
    rw [tg_fx_s]
    unfold f_X2_measureFrom_B35
    rw [hx.1, if_pos (by omega)]
  | succ N ih =>
    intro p0 f x F hF hp hpN hx hQ hf
    obtain ⟨F, rfl⟩ : ∃ n', F = n' + 1 := ⟨F - 1, by omega⟩
    have hp2 := hm.2.2 p0 hp (by omega)
    have hP := hm.2.1
    obtain ⟨y1, y2, y3⟩ := hx.2 p0 hp (by omega)
    obtain ⟨x1, e1, e2, e3⟩ := c_across1 (s := A p0) (t := B p0) (r := r) hp2.1 hp2.2.1 (by omega) hf
    obtain ⟨x2, g1, g2, g3⟩ := c_across1 (s := B p0) (t := A p0) (r := r) hp2.2.1 hp2.1 (by omega) e2
    obtain ⟨x', f', q1, q2, q3, q4⟩ := ih (p0 + 1) _ x2 F (by omega) (by omega) (by omega) (tc_md_of hx (by rw [g3 1 (by decide), e3 1 (by decide)]) (by rw [g3 7 (by decide), e3 7 (by decide)]) (by rw [g3 8 (by decide), e3 8 (by decide)]) (by rw [g3 9 (by decide), e3 9 (by decide)])) (tb_Q_step hm ⟨hp, by omega⟩ hQ) g2
    refine ⟨x', f', ?_, q2, q3, fun c hc => by rw [q4 c hc, g3 c hc, e3 c hc]⟩
    rw [tg_fx_s]
    generalize tg_fx (f_X2_measureFrom_B35 ((r : Int) + 1) j89) (fun _ _ => none) F = G at q1 ⊢
    unfold f_X2_measureFrom_B35
    simp only [tg_lt]
    rw [hx.1, if_neg (by omega), if_neg (by omega), tg_ck_pos (by omega), tg_ck_pos (by omega), y1, y2, e1, tg_bd_some, tg_ck_pos (by omega), tg_ck_pos (by omega), e3 7 (by decide), e3 8 (by decide), y1, y2, g1, tg_bd_some, tg_wi_e (by omega)]
    exact q1
theorem c_roundsl (hm : tr_md P A B Y) : ∀ (N : Nat) (r : Nat) (f : Int → Int) (x : tg_Mem) (F : Nat), N < F → r + N = 7 → tc_md x P A B Y → tb_Q P A B a r 0 f → (∀ v, 0 ≤ v → v ≤ 7 → x 6 v.toNat = f v) →
    ∃ x' f', tg_fx f_X2_measureFrom_B27 (fun _ _ => none) F ((r : Int) + 1) x = some (0, x') ∧ tb_Q P A B a 7 0 f' ∧ (∀ v, 0 ≤ v → v ≤ 7 → x' 6 v.toNat = f' v) ∧ ∀ c, c ≠ 6 → x' c = x c := by
  intro N
  induction N with
  | zero =>
    intro r f x F hF hrN hx hQ hf
    obtain ⟨F, rfl⟩ : ∃ n', F = n' + 1 := ⟨F - 1, by omega⟩
    refine ⟨x, f, ?_, by rw [show 7 = r by omega]; exact hQ, hf, fun _ _ => rfl⟩
    rw [tg_fx_s]
    unfold f_X2_measureFrom_B27
    rw [if_pos (by omega)]
  | succ N ih =>
    intro r f x F hF hrN hx hQ hf
    obtain ⟨F, rfl⟩ : ∃ n', F = n' + 1 := ⟨F - 1, by omega⟩
    have hP := hm.1
    have hP8 := hm.2.1
    obtain ⟨x1, f1, e1, e2, e3, e4⟩ := c_roundl (r := r) (j89 := fun m_89 => tg_fx f_X2_measureFrom_B27 (fun _ _ => none) F (tg_wi ((r : Int) + 1 + 1)) m_89) (by omega) hm P.toNat 0 f x tg_FU (by have := tg_FUg; omega) (by omega) (by omega) hx hQ hf
    obtain ⟨x', f', q1, q2, q3, q4⟩ := ih (r + 1) f1 x1 F (by omega) (by omega) (tc_md_of hx (by rw [e4 1 (by decide)]) (e4 7 (by decide)) (e4 8 (by decide)) (e4 9 (by decide))) (tb_Q_next e2) e3
    refine ⟨x', f', ?_, q2, q3, fun c hc => by rw [q4 c hc, e4 c hc]⟩
    have e5 : ((r + 1 : Nat) : Int) + 1 = tg_wi ((r : Int) + 1 + 1) := by rw [tg_wi_e (by omega)]; omega
    rw [tg_fx_s]
    rw [e5] at q1
    rw [← q1, ← e1]
    generalize tg_fx f_X2_measureFrom_B27 (fun _ _ => none) F = G
    unfold f_X2_measureFrom_B27
    rw [if_neg (by omega)]; rfl
theorem c_measure {x : tg_Mem} (hm : tr_md P A B Y) (hx : tc_md x P A B Y) (ha : 0 ≤ a ∧ a ≤ 7) : ∃ x', f_X2_measureFrom a x = some (0, x') ∧ (∀ v, 0 ≤ v → v ≤ 7 → (x' 6 v.toNat = -1 ∧ ¬ tb_W P A B a 7 v) ∨ (0 ≤ x' 6 v.toNat ∧ x' 6 v.toNat ≤ 8 ∧ tb_W P A B a (x' 6 v.toNat).toNat v ∧ ∀ j : Nat, (j : Int) < x' 6 v.toNat → ¬ tb_W P A B a j v)) ∧ ∀ c, c ≠ 6 → x' c = x c := by
  obtain ⟨x1, e1, e2, e3⟩ := c_fill (K := 6) (n := 8) (v := -1) (x := x) (by decide)
  obtain ⟨x2, hx2⟩ : ∃ x2, x2 = tg_up x1 6 a.toNat 0 := ⟨_, rfl⟩
  have f2 : ∀ c, c ≠ 6 → x2 c = x c := fun c hc => by rw [hx2, tg_up_k hc, e3 c hc]
  have hf : ∀ v, 0 ≤ v → v ≤ 7 → x2 6 v.toNat = (fun v : Int => if v = a then (0 : Int) else -1) v := by
    intro v v0 v7
    dsimp only
    rw [hx2]
    by_cases c : v = a
    · rw [if_pos c, c, tg_up_same]
    · rw [if_neg c, tg_up_j (by omega), e2 _ (by omega)]
  have hQ : tb_Q P A B a 0 0 (fun v : Int => if v = a then (0 : Int) else -1) := by
    intro v v0 v7
    dsimp only
    by_cases c : v = a
    · right; rw [if_pos c]; exact ⟨by omega, by omega, c, fun j hj => by omega⟩
    · left; rw [if_neg c]; exact ⟨rfl, c, fun p a b => by omega⟩
  obtain ⟨x', f', q1, q2, q3, q4⟩ := c_roundsl hm 7 0 _ x2 tg_FU (by have := tg_FUg; omega) (by omega) (tc_md_of hx (by rw [f2 1 (by decide)]) (f2 7 (by decide)) (f2 8 (by decide)) (f2 9 (by decide))) hQ hf
  refine ⟨x', ?_, fun v v0 v7 => ?_, fun c hc => by rw [q4 c hc, f2 c hc]⟩
  · simp only [f_X2_measureFrom, tg_lt]
    rw [e1, tg_bd_some, b_isBelowT (by omega), tg_bd_some, if_pos (by decide), tg_ck_pos (by omega), ← hx2]
    exact q1
  · rw [q3 v v0 v7]
    rcases q2 v v0 v7 with ⟨z1, z2, -⟩ | ⟨z1, z2, z3⟩
    · exact Or.inl ⟨z1, z2⟩
    · exact Or.inr ⟨z1, by omega, z3⟩
end STEPS
