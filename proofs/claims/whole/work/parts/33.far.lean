-- how far places lie, as the reference finds it
section FAR
variable {P : Int} {A B Y : Int → Int} {a : Int}
def tb_V (P : Int) (A B : Int → Int) (a : Int) (r : Nat) (p0 : Int) (f : Int → Int) : Prop := ∀ v, 0 ≤ v → v ≤ 7 →
  (f v = 100000 ∨ (0 ≤ f v ∧ f v < 100000 ∧ tb_W P A B a (f v).toNat v)) ∧ (∀ k : Nat, k ≤ r → tb_W P A B a k v → f v ≤ k) ∧
  ∀ p, 0 ≤ p → p < p0 → ((A p = v ∧ tb_W P A B a r (B p)) → f v ≤ r + 1) ∧ ((B p = v ∧ tb_W P A B a r (A p)) → f v ≤ r + 1)
theorem tb_V_next {r : Nat} {f : Int → Int} (h : tb_V P A B a r P f) : tb_V P A B a (r + 1) 0 f := by
  intro v v0 v7
  obtain ⟨h1, h2, h3⟩ := h v v0 v7
  refine ⟨h1, fun k hk hw => ?_, fun p a b => by omega⟩
  by_cases c : k ≤ r
  · exact h2 k c hw
  · have e : k = r + 1 := by omega
    rw [e] at hw ⊢
    rcases hw with z | ⟨p, p0, p1, z | z⟩
    · have := h2 r (Nat.le_refl r) z; omega
    · have := (h3 p p0 p1).1 z; omega
    · have := (h3 p p0 p1).2 z; omega
def tb_rel (f : Int → Int) (s t : Int) : Int → Int := fun v => if v = t ∧ ¬ f t ≤ f s + 1 then f s + 1 else f v
theorem tb_rel_le (f : Int → Int) (s t v : Int) : tb_rel f s t v ≤ f v := by
  unfold tb_rel
  by_cases c : v = t ∧ ¬ f t ≤ f s + 1
  · rw [if_pos c, c.1]; omega
  · rw [if_neg c]; exact Int.le_refl _
theorem tb_rel_t (f : Int → Int) (s t : Int) : tb_rel f s t t ≤ f s + 1 := by
  unfold tb_rel
  by_cases c : t = t ∧ ¬ f t ≤ f s + 1
  · rw [if_pos c]; exact Int.le_refl _
  · rw [if_neg c]
    have : f t ≤ f s + 1 := Classical.byContradiction fun z => c ⟨rfl, z⟩
    exact this
theorem tb_V_step {r : Nat} {p0 : Int} {f : Int → Int} (hm : tr_md P A B Y) (hp : 0 ≤ p0 ∧ p0 < P) (h : tb_V P A B a r p0 f) :
    tb_V P A B a r (p0 + 1) (tb_rel (tb_rel f (B p0) (A p0)) (A p0) (B p0)) := by
  have hp2 := hm.2.2 p0 hp.1 hp.2
  have one : ∀ (f : Int → Int) (s t : Int), (0 ≤ s ∧ s ≤ 7) → (0 ≤ t ∧ t ≤ 7) → (∀ k, tb_W P A B a k s → tb_W P A B a (k + 1) t) → tb_V P A B a r p0 f → tb_V P A B a r p0 (tb_rel f s t) ∧ (tb_W P A B a r s → tb_rel f s t t ≤ r + 1) := by
    intro f s t hs ht hst hV
    refine ⟨fun v v0 v7 => ?_, fun hw => ?_⟩
    · obtain ⟨h1, h2, h3⟩ := hV v v0 v7
      have hle := tb_rel_le f s t v
      refine ⟨?_, fun k hk hw => ?_, fun p p1 p2 => ⟨fun z => ?_, fun z => ?_⟩⟩
      · unfold tb_rel
        by_cases c : v = t ∧ ¬ f t ≤ f s + 1
        · rw [if_pos c]
          obtain ⟨c1, c2⟩ := c
          right
          obtain ⟨g1, -, -⟩ := hV s hs.1 hs.2
          obtain ⟨u1, -, -⟩ := hV t ht.1 ht.2
          rcases g1 with g1 | ⟨g1, g2, g3⟩
          · omega
          · refine ⟨by omega, by omega, ?_⟩
            rw [c1, show (f s + 1).toNat = (f s).toNat + 1 by omega]
            exact hst _ g3
        · rw [if_neg c]; exact h1
      · have := h2 k hk hw; omega
      · have := (h3 p p1 p2).1 z; omega
      · have := (h3 p p1 p2).2 z; omega
    · obtain ⟨-, g2, -⟩ := hV s hs.1 hs.2
      have := g2 r (Nat.le_refl r) hw
      have := tb_rel_t f s t
      omega
  obtain ⟨q1, q2⟩ := one f (B p0) (A p0) hp2.2.1 hp2.1 (fun k z => tb_W_A hp z) h
  obtain ⟨u1, u2⟩ := one _ (A p0) (B p0) hp2.1 hp2.2.1 (fun k z => tb_W_B hp z) q1
  intro v v0 v7
  obtain ⟨h1, h2, h3⟩ := u1 v v0 v7
  refine ⟨h1, h2, fun p p1 p2 => ?_⟩
  by_cases c : p = p0
  · rw [c]
    refine ⟨fun z => ?_, fun z => ?_⟩
    · have := q2 z.2
      have h5 := tb_rel_le (tb_rel f (B p0) (A p0)) (A p0) (B p0) (A p0)
      rw [← z.1]; omega
    · rw [← z.1]; exact u2 z.2
  · exact h3 p p1 (by omega)
theorem r_roundl {r : Nat} {j171 : tg_Mem → tg_R} (hm : tr_md P A B Y) : ∀ (N : Nat) (p0 : Int) (f : Int → Int) (m : tg_Mem) (F : Nat), N < F → 0 ≤ p0 → p0 + N = P → tm_md m P A B Y → tb_V P A B a r p0 f → (∀ v, 0 ≤ v → v ≤ 7 → m 17 v.toNat = f v) →
    ∃ m' f', tg_fx (f_X8_beganOf_B42 j171) (fun _ _ => none) F p0 m = j171 m' ∧ tb_V P A B a r P f' ∧ (∀ v, 0 ≤ v → v ≤ 7 → m' 17 v.toNat = f' v) ∧ ∀ c, c ≠ 17 → m' c = m c := by
  intro N
  induction N with
  | zero =>
    intro p0 f m F hF hp hpN hx hQ hf
    obtain ⟨F, rfl⟩ : ∃ n', F = n' + 1 := ⟨F - 1, by omega⟩
    refine ⟨m, f, ?_, by rw [show P = p0 by omega]; rw [show P = p0 by omega] at hQ; exact hQ, hf, fun _ _ => rfl⟩
    rw [tg_fx_s]
    unfold f_X8_beganOf_B42
    rw [hx.1, if_pos (by omega)]
  | succ N ih =>
    intro p0 f m F hF hp hpN hx hQ hf
    obtain ⟨F, rfl⟩ : ∃ n', F = n' + 1 := ⟨F - 1, by omega⟩
    have hp2 := hm.2.2 p0 hp (by omega)
    have hP := hm.2.1
    obtain ⟨y1, y2, y3⟩ := hx.2 p0 hp (by omega)
    have bA := (hQ (A p0) hp2.1.1 hp2.1.2).1
    have bB := (hQ (B p0) hp2.2.1.1 hp2.2.1.2).1
    obtain ⟨f1, hf1⟩ : ∃ f1, f1 = tb_rel f (B p0) (A p0) := ⟨_, rfl⟩
    obtain ⟨m1, hm1⟩ : ∃ m1, m1 = tg_up m 17 (A p0).toNat (f1 (A p0)) := ⟨_, rfl⟩
    have hfm1 : ∀ v, 0 ≤ v → v ≤ 7 → m1 17 v.toNat = f1 v := by
      intro v v0 v7
      rw [hm1]
      by_cases c : v = A p0
      · rw [c, tg_up_same]
      · rw [tg_up_j (by omega), hf v v0 v7, hf1]; unfold tb_rel; rw [if_neg (fun z => c z.1)]
    obtain ⟨f2, hf2⟩ : ∃ f2, f2 = tb_rel f1 (A p0) (B p0) := ⟨_, rfl⟩
    obtain ⟨m2, hm2⟩ : ∃ m2, m2 = tg_up m1 17 (B p0).toNat (f2 (B p0)) := ⟨_, rfl⟩
    have hfm2 : ∀ v, 0 ≤ v → v ≤ 7 → m2 17 v.toNat = f2 v := by
      intro v v0 v7
      rw [hm2]
      by_cases c : v = B p0
      · rw [c, tg_up_same]
      · rw [tg_up_j (by omega), hfm1 v v0 v7, hf2]; unfold tb_rel; rw [if_neg (fun z => c z.1)]
    have g2 : ∀ c, c ≠ 17 → m2 c = m c := fun c hc => by rw [hm2, tg_up_k hc, hm1, tg_up_k hc]
    have hV := tb_V_step hm ⟨hp, by omega⟩ hQ
    rw [← hf1, ← hf2] at hV
    obtain ⟨m', f', q1, q2, q3, q4⟩ := ih (p0 + 1) f2 m2 F (by omega) (by omega) (by omega) (tm_md_of hx (by rw [g2 0 (by decide)]) (g2 7 (by decide))) hV hfm2
    refine ⟨m', f', ?_, q2, q3, fun c hc => by rw [q4 c hc, g2 c hc]⟩
    rw [tg_fx_s]
    generalize tg_fx (f_X8_beganOf_B42 j171) (fun _ _ => none) F = G at q1 ⊢
    have lA := tb_rel_le f (B p0) (A p0) (A p0)
    rw [← hf1] at lA
    have lA0 : 0 ≤ f1 (A p0) := by
      rw [hf1]; unfold tb_rel
      split <;> omega
    unfold f_X8_beganOf_B42
    simp only [tg_lt]
    rw [hx.1, if_neg (by omega), tg_wi_e (a := 3 * p0) (by omega), tg_wi_e (a := 3 * p0 + 1) (by omega), tg_ck_pos (by omega), tg_ck_pos (by omega), y1, y2, tg_ck_pos (by omega), tg_ck_pos (by omega)]
    refine tg_jn_d (fun J hJ => ?_)
    have e1 : (if m 17 (A p0).toNat ≤ tg_wi (m 17 (B p0).toNat + 1) then tg_ck (0 ≤ A p0 ∧ A p0 < 8) (J (m 17 (A p0).toNat)) else tg_ck (0 ≤ B p0 ∧ B p0 < 8) (J (tg_wi (m 17 (B p0).toNat + 1)))) = J (f1 (A p0)) := by
      rw [hf _ hp2.1.1 hp2.1.2, hf _ hp2.2.1.1 hp2.2.1.2, tg_wi_e (by omega), tg_ck_pos (by omega), tg_ck_pos (by omega), hf1]
      unfold tb_rel
      by_cases c : f (A p0) ≤ f (B p0) + 1
      · rw [if_pos c, if_neg (fun z => z.2 c)]
      · rw [if_neg c, if_pos ⟨rfl, c⟩]
    rw [e1, hJ]
    dsimp only
    rw [tg_ck_pos (by omega), ← hm1, tg_ck_pos (by omega), tg_ck_pos (by omega)]
    refine tg_jn_d (fun J2 hJ2 => ?_)
    have e2 : (if m1 17 (B p0).toNat ≤ tg_wi (m1 17 (A p0).toNat + 1) then tg_ck (0 ≤ B p0 ∧ B p0 < 8) (J2 (m1 17 (B p0).toNat)) else tg_ck (0 ≤ A p0 ∧ A p0 < 8) (J2 (tg_wi (m1 17 (A p0).toNat + 1)))) = J2 (f2 (B p0)) := by
      rw [hfm1 _ hp2.1.1 hp2.1.2, hfm1 _ hp2.2.1.1 hp2.2.1.2, tg_wi_e (by omega), tg_ck_pos (by omega), tg_ck_pos (by omega), hf2]
      unfold tb_rel
      by_cases c : f1 (B p0) ≤ f1 (A p0) + 1
      · rw [if_pos c, if_neg (fun z => z.2 c)]
      · rw [if_neg c, if_pos ⟨rfl, c⟩]
    rw [e2, hJ2]
    dsimp only
    rw [tg_ck_pos (by omega), ← hm2, tg_wi_e (by omega)]
    exact q1
theorem r_roundsl {j177 : tg_Mem → tg_R} (hm : tr_md P A B Y) : ∀ (N : Nat) (r : Nat) (f : Int → Int) (m : tg_Mem) (F : Nat), N < F → r + N = 8 → tm_md m P A B Y → tb_V P A B a r 0 f → (∀ v, 0 ≤ v → v ≤ 7 → m 17 v.toNat = f v) →
    ∃ m' f', tg_fx (f_X8_beganOf_B33 j177) (fun _ _ => none) F (r : Int) m = j177 m' ∧ tb_V P A B a 8 0 f' ∧ (∀ v, 0 ≤ v → v ≤ 7 → m' 17 v.toNat = f' v) ∧ ∀ c, c ≠ 17 → m' c = m c := by
  intro N
  induction N with
  | zero =>
    intro r f m F hF hrN hx hQ hf
    obtain ⟨F, rfl⟩ : ∃ n', F = n' + 1 := ⟨F - 1, by omega⟩
    refine ⟨m, f, ?_, by rw [show 8 = r by omega]; exact hQ, hf, fun _ _ => rfl⟩
    rw [tg_fx_s]
    unfold f_X8_beganOf_B33
    rw [if_pos (by omega)]
  | succ N ih =>
    intro r f m F hF hrN hx hQ hf
    obtain ⟨F, rfl⟩ : ∃ n', F = n' + 1 := ⟨F - 1, by omega⟩
    have hP := hm.1
    have hP8 := hm.2.1
    obtain ⟨m1, f1, e1, e2, e3, e4⟩ := r_roundl (r := r) (j171 := fun m_171 => tg_fx (f_X8_beganOf_B33 j177) (fun _ _ => none) F (tg_wi ((r : Int) + 1)) m_171) hm P.toNat 0 f m tg_FU (by have := tg_FUg; omega) (by omega) (by omega) hx hQ hf
    obtain ⟨m', f', q1, q2, q3, q4⟩ := ih (r + 1) f1 m1 F (by omega) (by omega) (tm_md_of hx (by rw [e4 0 (by decide)]) (e4 7 (by decide))) (tb_V_next e2) e3
    refine ⟨m', f', ?_, q2, q3, fun c hc => by rw [q4 c hc, e4 c hc]⟩
    have e5 : ((r + 1 : Nat) : Int) = tg_wi ((r : Int) + 1) := by rw [tg_wi_e (by omega)]; omega
    rw [tg_fx_s]
    rw [e5] at q1
    rw [← q1, ← e1]
    generalize tg_fx (f_X8_beganOf_B33 j177) (fun _ _ => none) F = G
    unfold f_X8_beganOf_B33
    rw [if_neg (by omega)]; rfl
theorem r_initl {j31 : tg_Mem → tg_R} : ∀ (N : Nat) (i : Int) (m : tg_Mem) (F : Nat), N < F → 0 ≤ i → i + N = 8 → (∀ v, 0 ≤ v → v < i → m 17 v.toNat = if v = a then 0 else 100000) →
    ∃ m', tg_fx (f_X8_beganOf_B2 a j31) (fun _ _ => none) F i m = j31 m' ∧ (∀ v, 0 ≤ v → v ≤ 7 → m' 17 v.toNat = if v = a then 0 else 100000) ∧ ∀ c, c ≠ 17 → m' c = m c := by
  intro N
  induction N with
  | zero =>
    intro i m F hF hi hiN h
    obtain ⟨F, rfl⟩ : ∃ n', F = n' + 1 := ⟨F - 1, by omega⟩
    refine ⟨m, ?_, fun v v0 v7 => h v v0 (by omega), fun _ _ => rfl⟩
    rw [tg_fx_s]
    unfold f_X8_beganOf_B2
    rw [if_pos (by omega)]
  | succ N ih =>
    intro i m F hF hi hiN h
    obtain ⟨F, rfl⟩ : ∃ n', F = n' + 1 := ⟨F - 1, by omega⟩
    obtain ⟨m', q1, q2, q3⟩ := ih (i + 1) (tg_up m 17 i.toNat (if i = a then 0 else 100000)) F (by omega) (by omega) (by omega) (fun v v0 v1 => by
      by_cases c : v = i
      · rw [c, tg_up_same]
      · rw [tg_up_j (by omega)]; exact h v v0 (by omega))
    refine ⟨m', ?_, q2, fun c hc => by rw [q3 c hc, tg_up_k hc]⟩
    rw [tg_fx_s]
    generalize tg_fx (f_X8_beganOf_B2 a j31) (fun _ _ => none) F = G at q1 ⊢
    unfold f_X8_beganOf_B2
    simp only [tg_lt, tg_jn]
    rw [if_neg (by omega), tg_ck_pos (by omega), tg_ck_pos (by omega), tg_wi_e (by omega)]
    by_cases c : i = a
    · rw [if_pos c] at q1
      rw [if_neg (fun z => z c)]; exact q1
    · rw [if_neg c] at q1
      rw [if_pos c]; exact q1
theorem tb_V0 : tb_V P A B a 0 0 (fun v => if v = a then 0 else 100000) := by
  intro v v0 v7
  dsimp only
  refine ⟨?_, fun k hk hw => ?_, fun p a b => by omega⟩
  · by_cases c : v = a
    · right; rw [if_pos c]; exact ⟨by omega, by omega, c⟩
    · left; rw [if_neg c]
  · have e : k = 0 := by omega
    rw [e] at hw
    have hw : v = a := hw
    rw [if_pos hw]; omega
/-- what class and reference know of how far a place lies -/
theorem tb_both {s f v : Int} (hm : tr_md P A B Y) (ha : 0 ≤ a ∧ a ≤ 7) (hv : 0 ≤ v ∧ v ≤ 7) (hs : (s = -1 ∧ ¬ tb_W P A B a 7 v) ∨ (0 ≤ s ∧ s ≤ 8 ∧ tb_W P A B a s.toNat v ∧ ∀ j : Nat, (j : Int) < s → ¬ tb_W P A B a j v))
    (hf : (f = 100000 ∨ (0 ≤ f ∧ f < 100000 ∧ tb_W P A B a f.toNat v)) ∧ (∀ k : Nat, k ≤ 8 → tb_W P A B a k v → f ≤ k)) : (s = -1 ∧ f = 100000) ∨ (s = f ∧ 0 ≤ s ∧ s ≤ 8) := by
  rcases hs with ⟨s1, s2⟩ | ⟨s1, s2, s3, s4⟩
  · left
    refine ⟨s1, ?_⟩
    rcases hf.1 with z | ⟨z1, z2, z3⟩
    · exact z
    · exact absurd (tb_seven hm ha hv z3) s2
  · right
    have h1 := hf.2 s.toNat (by omega) s3
    rcases hf.1 with z | ⟨z1, z2, z3⟩
    · omega
    · refine ⟨?_, s1, s2⟩
      by_cases c : f < s
      · exact absurd z3 (s4 f.toNat (by omega))
      · omega
end FAR
