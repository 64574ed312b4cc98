-- the reference's game, and the call of both
section SGAME
variable {P : Int} {A B Y : Int → Int} {ρ h0 h1 : Int} {w : Int → Int}
def tu_C : Nat → Nat
  | 0 => 1
  | l + 1 => (tu_C l + 1) * 10
theorem tu_sg_s (k : Nat) (v : Int) : tu_sg (k + 1) v = -(tu_sg k v) := by
  unfold tu_sg
  by_cases h : k % 2 = 0
  · rw [if_pos h, if_neg (by omega)]
  · rw [if_neg h, if_pos (by omega)]; omega
theorem tu_sg_add (k : Nat) (u v : Int) : tu_sg k (u - v) = tu_sg k u - tu_sg k v := by
  unfold tu_sg
  split <;> omega
theorem tu_sg_neg (k : Nat) (v : Int) : tu_sg k (-v) = -(tu_sg k v) := by
  unfold tu_sg
  split <;> omega
theorem tu_sg_b (k : Nat) {v c : Int} (h : -c ≤ v ∧ v ≤ c) : -c ≤ tu_sg k v ∧ tu_sg k v ≤ c := by
  unfold tu_sg
  split <;> omega
def tu_Q (P : Int) (A B Y : Int → Int) (ρ h0 h1 : Int) (w : Int → Int) (n : Nat) (j427 : Int → Int → tg_Mem → tg_R) (left : Nat) : Prop :=
  ∀ (k : Nat) (S : tr_S) (m : tg_Mem) (v5 v6 bare sum : Int), k + left = n → ts_va P A B Y ρ S → tm_cf m P A B Y ρ h0 h1 w → m 18 k = tk_key S → m 19 k = bare → m 20 k = sum → (-(99 * (k : Int)) ≤ sum ∧ sum ≤ 99 * k) → m 21 k = -2 →
    ∃ (c : Nat) (m' : tg_Mem) (v5' : Int), c ≤ tu_C left ∧ (∀ F : Nat, tg_fx (f_X8_gameOf_B29 (n : Int) j427) (fun _ _ _ _ => none) (F + c) (k : Int) v5 v6 m = tu_ret k (sum + tu_sg k (tu_v P A B Y ρ w left ((k % 2 : Nat) : Int) S bare)) v5' m' (tg_fx (f_X8_gameOf_B29 (n : Int) j427) (fun _ _ _ _ => none) F)) ∧ tu_fr m m' k ∧ (k ≠ 0 → v5' = v5) ∧ (k = 0 → 0 < left → v5' = tu_p P A B Y ρ w left 0 S bare)
theorem tu_Q0 {n : Nat} {j427 : Int → Int → tg_Mem → tg_R} (hcf : tr_cf P A B Y ρ w) (hn : n ≤ 5) : tu_Q P A B Y ρ h0 h1 w n j427 0 := by
  intro k S m v5 v6 bare sum hk hS hx h18 h19 h20 hs h21
  have e : k = n := by omega
  subst e
  obtain ⟨m', a1, a2⟩ := r_it_leaf (v5 := v5) (v6 := v6) (j427 := j427) hcf hn hS hx h18 h21
  refine ⟨1, m', v5, Nat.le_refl _, fun F => ?_, a2, fun _ => rfl, fun _ h => by omega⟩
  rw [tg_fx_s, a1, h20]
  have e0 : tu_sg k (tu_v P A B Y ρ w 0 ((k % 2 : Nat) : Int) S bare) = 0 := by
    show tu_sg k 0 = 0
    unfold tu_sg
    split <;> rfl
  rw [e0, Int.add_zero]
theorem tu_inl {n left k : Nat} {S : tr_S} {bare sum : Int} {j427 : Int → Int → tg_Mem → tg_R} (hcf : tr_cf P A B Y ρ w) (hn : n ≤ 5) (hQ : tu_Q P A B Y ρ h0 h1 w n j427 left) (hk : k + left + 1 = n) (hS : ts_va P A B Y ρ S) (hs : -(99 * (k : Int)) ≤ sum ∧ sum ≤ 99 * k) :
    ∀ (M N : Nat), N ≤ M → ∀ (p best step v5 v6 : Int) (m : tg_Mem), 0 ≤ p → p + N = P → tm_cf m P A B Y ρ h0 h1 w → m 18 k = tk_key S → m 19 k = bare → m 20 k = sum → m 21 k = p - 1 → m 22 k = sum + tu_sg k best → (k = 0 → v5 = step) →
    ∃ (c : Nat) (m' : tg_Mem) (v5' : Int), c ≤ (N + 1) * (tu_C left + 1) ∧ (∀ F : Nat, tg_fx (f_X8_gameOf_B29 (n : Int) j427) (fun _ _ _ _ => none) (F + c) (k : Int) v5 v6 m = tu_ret k (sum + tu_sg k (tu_f P A B Y ρ w (tu_v P A B Y ρ w left (1 - ((k % 2 : Nat) : Int))) ((k % 2 : Nat) : Int) S bare N p best step).1) v5' m' (tg_fx (f_X8_gameOf_B29 (n : Int) j427) (fun _ _ _ _ => none) F)) ∧ tu_fr m m' k ∧ (k ≠ 0 → v5' = v5) ∧
      (k = 0 → v5' = (tu_f P A B Y ρ w (tu_v P A B Y ρ w left (1 - ((k % 2 : Nat) : Int))) ((k % 2 : Nat) : Int) S bare N p best step).2) := by
  intro M
  induction M with
  | zero =>
    intro N hNM p best step v5 v6 m hp hpN hx h18 h19 h20 h21 h22 h5
    obtain ⟨q, N', m', q1, q2, q3, q4, q5, q6, ⟨q7, q8, q9, q10, q11⟩, q12⟩ := r_it_step (n := n) (best := best) (step := step) (v5 := v5) (v6 := v6) (T := tu_v P A B Y ρ w left (1 - ((k % 2 : Nat) : Int))) (j427 := j427) hcf hn (by omega) hS hx h18 h19 h20 (by omega) hp hpN h21
    rcases q12 with ⟨z1, z2⟩ | ⟨z1, -⟩
    · have e0 : N' = 0 := z1
      subst e0
      rw [q4]
      refine ⟨1, m', v5, ?_, fun F => ?_, q5, fun _ => rfl, fun z => h5 z⟩
      · have := Nat.mul_le_mul (show 1 ≤ N + 1 by omega) (show 1 ≤ tu_C left + 1 by omega); omega
      · rw [tg_fx_s, z2, h22]; rfl
    · omega
  | succ M ih =>
    intro N hNM p best step v5 v6 m hp hpN hx h18 h19 h20 h21 h22 h5
    obtain ⟨q, N', m', q1, q2, q3, q4, q5, q6, ⟨q7, q8, q9, q10, q11⟩, q12⟩ := r_it_step (n := n) (best := best) (step := step) (v5 := v5) (v6 := v6) (T := tu_v P A B Y ρ w left (1 - ((k % 2 : Nat) : Int))) (j427 := j427) hcf hn (by omega) hS hx h18 h19 h20 (by omega) hp hpN h21
    rcases q12 with ⟨z1, z2⟩ | ⟨z1, z2, z3, z4, z5, z6, z7⟩
    · have e0 : N' = 0 := z1
      subst e0
      rw [q4]
      refine ⟨1, m', v5, ?_, fun F => ?_, q5, fun _ => rfl, fun z => h5 z⟩
      · have := Nat.mul_le_mul (show 1 ≤ N + 1 by omega) (show 1 ≤ tu_C left + 1 by omega); omega
      · rw [tg_fx_s, z2, h22]; rfl
    · obtain ⟨N', rfl⟩ : ∃ n', N' = n' + 1 := ⟨N' - 1, by omega⟩
      obtain ⟨g, hg⟩ : ∃ g : Int, g = ((k % 2 : Nat) : Int) := ⟨_, rfl⟩
      have hg01 : g = 0 ∨ g = 1 := by omega
      have eg : 1 - g = (((k + 1) % 2 : Nat) : Int) := by omega
      rw [← hg] at z2 z4 z5 z6 q4 ⊢
      have hva := ts_ok_va hcf.1 hg01 hS z2
      have hat := tr_at_b (g := g) hcf.1 hva.1
      obtain ⟨X, hX⟩ : ∃ X, X = tr_go A B g q S := ⟨_, rfl⟩
      have efX : tu_f P A B Y ρ w (tu_v P A B Y ρ w left (1 - g)) g S bare (N' + 1) q best step = if best < tr_wo w (tr_at g X) bare - tu_v P A B Y ρ w left (1 - g) X (tu_b bare (tr_at g X)) then tu_f P A B Y ρ w (tu_v P A B Y ρ w left (1 - g)) g S bare N' (q + 1) (tr_wo w (tr_at g X) bare - tu_v P A B Y ρ w left (1 - g) X (tu_b bare (tr_at g X))) q else tu_f P A B Y ρ w (tu_v P A B Y ρ w left (1 - g)) g S bare N' (q + 1) best step := by
        rw [hX]
        show (if ts_ok P A B Y ρ g q S = true then _ else _) = _
        rw [if_pos z2]
      rw [← hX] at z4 z5 z6 hva hat
      have he : 0 ≤ tr_wo w (tr_at g X) bare ∧ tr_wo w (tr_at g X) bare ≤ 99 := tr_wo_b (hcf.2.2 _ hat.1 hat.2)
      obtain ⟨e, hE⟩ : ∃ e, e = tr_wo w (tr_at g X) bare := ⟨_, rfl⟩
      rw [← hE] at z6 he efX
      have hsg := tu_sg_b k (c := 99) (v := e) (by omega)
      obtain ⟨c1, m3, v5', g1, g2, g3, g4, -⟩ := hQ (k + 1) X m' v5 v6 (tu_b bare (tr_at g X)) (sum + tu_sg k e) (by omega) hva q6 z4 z5 z6 (by omega) z7
      have hv5 : v5' = v5 := g4 (by omega)
      subst hv5
      rw [← eg] at g2
      obtain ⟨v, hv⟩ : ∃ v, v = e - tu_v P A B Y ρ w left (1 - g) X (tu_b bare (tr_at g X)) := ⟨_, rfl⟩
      rw [← hv] at efX
      have eV : sum + tu_sg k e + tu_sg (k + 1) (tu_v P A B Y ρ w left (1 - g) X (tu_b bare (tr_at g X))) = sum + tu_sg k v := by
        rw [hv, tu_sg_add, tu_sg_s]; omega
      rw [eV] at g2
      -- back at this depth
      have e21 : m3 21 k = q := by rw [g3.2.2 21 (by decide) (by decide) k (by omega)]; exact q10
      have e22 : m3 22 k = sum + tu_sg k best := by rw [g3.2.2 22 (by decide) (by decide) k (by omega), q11]; exact h22
      have ebt : tu_bt k (sum + tu_sg k v) m3 ↔ best < v := by
        unfold tu_bt
        rw [e22]
        unfold tu_sg
        by_cases h : k % 2 = 0
        · rw [if_pos h, if_pos h]; omega
        · rw [if_neg h, if_neg h]; omega
      obtain ⟨b1, s1, hb1⟩ : ∃ b1 s1 : Int, (b1, s1) = if best < v then (v, q) else (best, step) := ⟨_, _, rfl⟩
      obtain ⟨m4, hm4⟩ : ∃ m4, m4 = tg_up m3 22 k (sum + tu_sg k b1) := ⟨_, rfl⟩
      obtain ⟨v5n, hv5n⟩ : ∃ v5n : Int, v5n = if best < v ∧ k = 0 then q else v5' := ⟨_, rfl⟩
      have eret : ∀ self : Int → Int → Int → tg_Mem → tg_R, tu_ret (k + 1) (sum + tu_sg k v) v5' m3 self = self (k : Int) v5n (sum + tu_sg k v) m4 := by
        intro self
        unfold tu_ret
        dsimp only
        by_cases c : best < v
        · rw [if_pos c] at hb1
          cases hb1
          rw [if_pos (Or.inr (ebt.mpr c)), hm4, hv5n]
          by_cases hk0 : k = 0
          · rw [if_pos hk0, if_pos ⟨c, hk0⟩, ← e21, hk0]
          · rw [if_neg hk0, if_neg (fun z => hk0 z.2)]
        · rw [if_neg c] at hb1
          cases hb1
          rw [if_neg (fun z => z.elim (fun y => by omega) (fun y => c (ebt.mp y))), hm4, hv5n, if_neg (fun z => c z.1), e22]
      have efX2 : tu_f P A B Y ρ w (tu_v P A B Y ρ w left (1 - g)) g S bare (N' + 1) q best step = tu_f P A B Y ρ w (tu_v P A B Y ρ w left (1 - g)) g S bare N' (q + 1) b1 s1 := by
        rw [efX]
        by_cases c : best < v
        · rw [if_pos c] at hb1 ⊢
          cases hb1; rfl
        · rw [if_neg c] at hb1 ⊢
          cases hb1; rfl
      have f4 : tu_fr m3 m4 k := ⟨fun c _ _ _ _ => by rw [hm4, tg_up_k (by omega)], fun j _ _ => by rw [hm4, tg_up_k (by decide)], fun c _ _ j hj => by rw [hm4, tg_up_nj (by omega)]⟩
      have g5 : ∀ c, 18 ≤ c → c ≤ 21 → m4 c k = m' c k := fun c y1 y2 => by rw [hm4, tg_up_k (by omega), g3.2.2 c (by omega) (by omega) k (by omega)]
      have hstep : k = 0 → v5n = s1 := by
        intro hk0
        by_cases c : best < v
        · rw [if_pos c] at hb1
          cases hb1
          rw [hv5n, if_pos ⟨c, hk0⟩]
        · rw [if_neg c] at hb1
          cases hb1
          rw [hv5n, if_neg (fun z => c z.1)]; exact h5 hk0
      obtain ⟨c2, m5, v5f, r1, r2, r3, r4, r5⟩ := ih N' (by omega) (q + 1) b1 s1 v5n (sum + tu_sg k v) m4 (by omega) (by omega) (tm_cf_f (tm_cf_f q6 g3) f4) (by rw [g5 18 (by decide) (by decide), q7]; exact h18) (by rw [g5 19 (by decide) (by decide), q8]; exact h19) (by rw [g5 20 (by decide) (by decide), q9]; exact h20) (by rw [g5 21 (by decide) (by decide), q10]; omega) (by rw [hm4, tg_up_same]) hstep
      rw [← hg] at r2 r5
      rw [q4, efX2]
      refine ⟨c2 + c1 + 1, m5, v5f, ?_, fun F => ?_, tu_fr_tr (tu_fr_tr q5 (tu_fr_lt g3 (by omega))) (tu_fr_tr f4 r3), fun hk0 => ?_, r5⟩
      · have h1 : (N' + 2) * (tu_C left + 1) ≤ (N + 1) * (tu_C left + 1) := Nat.mul_le_mul_right _ (by omega)
        have h2 : (N' + 2) * (tu_C left + 1) = (N' + 1) * (tu_C left + 1) + (tu_C left + 1) := Nat.succ_mul _ _
        omega
      · rw [show F + (c2 + c1 + 1) = (F + c2 + c1) + 1 by omega, tg_fx_s, z3, show (k : Int) + 1 = ((k + 1 : Nat) : Int) by omega, g2 (F + c2), eret, r2 F]
      · rw [r4 hk0, hv5n, if_neg (fun z => hk0 z.2)]
theorem tu_QS {n left : Nat} {j427 : Int → Int → tg_Mem → tg_R} (hcf : tr_cf P A B Y ρ w) (hn : n ≤ 5) (hQ : tu_Q P A B Y ρ h0 h1 w n j427 left) : tu_Q P A B Y ρ h0 h1 w n j427 (left + 1) := by
  intro k S m v5 v6 bare sum hk hS hx h18 h19 h20 hs h21
  have hP := hcf.1
  obtain ⟨g, hg⟩ : ∃ g : Int, g = ((k % 2 : Nat) : Int) := ⟨_, rfl⟩
  have hg01 : g = 0 ∨ g = 1 := by omega
  have eg : 1 - g = (((k + 1) % 2 : Nat) : Int) := by omega
  obtain ⟨m', a1, a2, a3, ⟨a4, a5, a6, a7⟩, a8, a9, a10, a11⟩ := r_it_stand (n := n) (v5 := v5) (v6 := v6) (j427 := j427) hcf hn (by omega) hS hx h18 h21
  obtain ⟨c1, m3, v5', g1, g2, g3, g4, -⟩ := hQ (k + 1) S m' v5 v6 bare sum (by omega) hS a3 a8 (by rw [a9]; exact h19) (by rw [a10]; exact h20) (by omega) a11
  have hv5 : v5' = v5 := g4 (by omega)
  subst hv5
  rw [← eg] at g2
  obtain ⟨b0, hb0⟩ : ∃ b0, b0 = -(tu_v P A B Y ρ w left (1 - g) S bare) := ⟨_, rfl⟩
  have eV : sum + tu_sg (k + 1) (tu_v P A B Y ρ w left (1 - g) S bare) = sum + tu_sg k b0 := by
    rw [hb0, tu_sg_neg, tu_sg_s]
  rw [eV] at g2
  have e21 : m3 21 k = -1 := by rw [g3.2.2 21 (by decide) (by decide) k (by omega)]; exact a7
  obtain ⟨m4, hm4⟩ : ∃ m4, m4 = tg_up m3 22 k (sum + tu_sg k b0) := ⟨_, rfl⟩
  have f4 : tu_fr m3 m4 k := ⟨fun c _ _ _ _ => by rw [hm4, tg_up_k (by omega)], fun j _ _ => by rw [hm4, tg_up_k (by decide)], fun c _ _ j hj => by rw [hm4, tg_up_nj (by omega)]⟩
  have g5 : ∀ c, 18 ≤ c → c ≤ 21 → m4 c k = m' c k := fun c y1 y2 => by rw [hm4, tg_up_k (by omega), g3.2.2 c (by omega) (by omega) k (by omega)]
  obtain ⟨v5n, hv5n⟩ : ∃ v5n : Int, v5n = if k = 0 then -1 else v5' := ⟨_, rfl⟩
  have eret : ∀ self : Int → Int → Int → tg_Mem → tg_R, tu_ret (k + 1) (sum + tu_sg k b0) v5' m3 self = self (k : Int) v5n (sum + tu_sg k b0) m4 := by
    intro self
    unfold tu_ret
    dsimp only
    rw [if_pos (Or.inl e21), hm4, hv5n]
    by_cases hk0 : k = 0
    · rw [if_pos hk0, if_pos hk0, ← e21, hk0]
    · rw [if_neg hk0, if_neg hk0]
  obtain ⟨c2, m5, v5f, r1, r2, r3, r4, r5⟩ := tu_inl (bare := bare) (sum := sum) hcf hn hQ (by omega) hS hs P.toNat P.toNat (Nat.le_refl _) 0 b0 (-1) v5n (sum + tu_sg k b0) m4 (by omega) (by have := hP.1; omega) (tm_cf_f (tm_cf_f a3 g3) f4) (by rw [g5 18 (by decide) (by decide), a4]; exact h18) (by rw [g5 19 (by decide) (by decide), a5]; exact h19) (by rw [g5 20 (by decide) (by decide), a6]; exact h20) (by rw [g5 21 (by decide) (by decide), a7]; rfl) (by rw [hm4, tg_up_same]) (fun hk0 => by rw [hv5n, if_pos hk0])
  rw [← hg] at r2 r5 ⊢
  have ev : tu_v P A B Y ρ w (left + 1) g S bare = (tu_f P A B Y ρ w (tu_v P A B Y ρ w left (1 - g)) g S bare P.toNat 0 b0 (-1)).1 := by rw [hb0]; rfl
  refine ⟨c2 + c1 + 1, m5, v5f, ?_, fun F => ?_, tu_fr_tr (tu_fr_tr a2 (tu_fr_lt g3 (by omega))) (tu_fr_tr f4 r3), fun hk0 => ?_, fun hk0 _ => ?_⟩
  · have h1 : (P.toNat + 1) * (tu_C left + 1) ≤ 9 * (tu_C left + 1) := Nat.mul_le_mul_right _ (by have := hP.2.1; omega)
    have h2 : tu_C (left + 1) = (tu_C left + 1) * 10 := rfl
    omega
  · rw [show F + (c2 + c1 + 1) = (F + c2 + c1) + 1 by omega, tg_fx_s, a1, show (k : Int) + 1 = ((k + 1 : Nat) : Int) by omega, g2 (F + c2), eret, r2 F, ev]
  · rw [r4 hk0, hv5n, if_neg hk0]
  · have eg0 : g = 0 := by rw [hg, hk0]; rfl
    have ep : tu_p P A B Y ρ w (left + 1) 0 S bare = (tu_f P A B Y ρ w (tu_v P A B Y ρ w left (1 - 0)) 0 S bare P.toNat 0 (-(tu_v P A B Y ρ w left (1 - 0) S bare)) (-1)).2 := rfl
    rw [r5 hk0, ep, hb0, eg0]
theorem tu_Qall {n : Nat} {j427 : Int → Int → tg_Mem → tg_R} (hcf : tr_cf P A B Y ρ w) (hn : n ≤ 5) : ∀ left, tu_Q P A B Y ρ h0 h1 w n j427 left
  | 0 => tu_Q0 hcf hn
  | left + 1 => tu_QS hcf hn (tu_Qall hcf hn left)
end SGAME
