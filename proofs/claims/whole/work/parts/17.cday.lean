-- the class walks a day
def tc_cf (x : tg_Mem) (P : Int) (A B Y : Int → Int) (ρ h0 h1 : Int) (w : Int → Int) : Prop := tc_md x P A B Y ∧ x 1 7 = ρ ∧ x 4 0 = h0 ∧ x 4 1 = h1 ∧ ∀ i : Int, 0 ≤ i → i ≤ 7 → x 5 i.toNat = w i
def tc_dy (Y : Int → Int) (k : Nat) (x : tg_Mem) (D : tr_D) : Prop := tc_rp Y (k + 3) x D.1 ∧ x (k + 6) 0 = D.2.1.1 ∧ x (k + 6) 1 = D.2.1.2 ∧ x (k + 7) 0 = D.2.2.1.1 ∧ x (k + 7) 1 = D.2.2.1.2 ∧ x k 6 = D.2.2.2
def tc_fr (k : Nat) (x x' : tg_Mem) : Prop := (∀ c, c ≠ k → c ≠ k + 3 → c ≠ k + 4 → c ≠ k + 5 → c ≠ k + 6 → c ≠ k + 7 → x' c = x c) ∧ ∀ j, j ≠ 6 → j ≠ 7 → x' k j = x k j
theorem tc_fr_rf (k : Nat) (x : tg_Mem) : tc_fr k x x := ⟨fun _ _ _ _ _ _ _ => rfl, fun _ _ _ => rfl⟩
theorem tc_fr_tr {k : Nat} {x y z : tg_Mem} (h1 : tc_fr k x y) (h2 : tc_fr k y z) : tc_fr k x z := ⟨fun c a b d e f g => (h2.1 c a b d e f g).trans (h1.1 c a b d e f g), fun j a b => (h2.2 j a b).trans (h1.2 j a b)⟩
section TCD
variable {P : Int} {A B Y : Int → Int} {ρ h0 h1 : Int} {w : Int → Int} {k : Nat} {x x' : tg_Mem}
theorem tc_cf_of (h : tc_cf x P A B Y ρ h0 h1 w) (h1' : x' 1 8 = x 1 8) (h17 : x' 1 7 = x 1 7) (h4 : x' 4 = x 4) (h5 : x' 5 = x 5) (h7 : x' 7 = x 7) (h8 : x' 8 = x 8) (h9 : x' 9 = x 9) : tc_cf x' P A B Y ρ h0 h1 w := by
  obtain ⟨a, b, c, d, e⟩ := h
  exact ⟨tc_md_of a h1' h7 h8 h9, by rw [h17, b], by rw [h4, c], by rw [h4, d], fun i z1 z2 => by rw [h5]; exact e i z1 z2⟩
theorem tc_cf_fr (hk : 10 ≤ k) (h : tc_cf x P A B Y ρ h0 h1 w) (hf : tc_fr k x x') : tc_cf x' P A B Y ρ h0 h1 w := by
  have z : ∀ c, c < 10 → x' c = x c := fun c hc => hf.1 c (by omega) (by omega) (by omega) (by omega) (by omega) (by omega)
  exact tc_cf_of h (by rw [z 1 (by omega)]) (by rw [z 1 (by omega)]) (z 4 (by omega)) (z 5 (by omega)) (z 7 (by omega)) (z 8 (by omega)) (z 9 (by omega))
theorem c_code {b : Int} (hb : -1 ≤ b ∧ b ≤ 255) : f_X7_codeOfByte b x = some (tr_code b, x) := by
  unfold tr_code
  simp only [f_X7_codeOfByte, tg_jn]
  by_cases c1 : b < 97
  · have d1 : ¬ (97 ≤ b ∧ b ≤ 104) := by omega
    rw [if_pos c1, if_neg d1]
    by_cases c2 : b < 65
    · have d2 : ¬ (65 ≤ b ∧ b ≤ 72) := by omega
      rw [if_pos c2, if_neg d2]
    · rw [if_neg c2]
      by_cases c3 : 72 < b
      · have d2 : ¬ (65 ≤ b ∧ b ≤ 72) := by omega
        rw [if_pos c3, if_neg d2]
      · have d2 : 65 ≤ b ∧ b ≤ 72 := by omega
        rw [if_neg c3, if_pos d2, tg_wi_e (a := b - 65) (by omega), tg_wi_e (by omega)]
  · rw [if_neg c1]
    by_cases c2 : 104 < b
    · have d1 : ¬ (97 ≤ b ∧ b ≤ 104) := by omega
      have d2 : ¬ (65 ≤ b ∧ b ≤ 72) := by omega
      have d3 : ¬ b < 65 := by omega
      have d4 : 72 < b := by omega
      rw [if_pos c2, if_neg d1, if_neg d2, if_neg d3, if_pos d4]
    · have d1 : 97 ≤ b ∧ b ≤ 104 := by omega
      rw [if_neg c2, if_pos d1, tg_wi_e (by omega)]
theorem c_worthAt {pl bare : Int} (hc : tc_cf x P A B Y ρ h0 h1 w) (hpl : 0 ≤ pl ∧ pl ≤ 7) : f_X2_worthAt pl bare x = some (tr_wo w pl bare, x) := by
  unfold tr_wo
  simp only [f_X2_worthAt, tg_jn]
  rw [b_isBelowT (by omega)]
  simp only [tg_bd_some]
  rw [if_neg (by decide)]
  by_cases h : tg_iand (tg_ishr bare pl) 1 = 0
  · rw [if_neg (fun z => z h), if_pos h, tg_ck_pos (by omega), hc.2.2.2.2 pl hpl.1 hpl.2]
  · rw [if_pos h, if_neg h]
theorem c_heavy {g : Int} (hg : g = 0 ∨ g = 1) (hc : tc_cf x P A B Y ρ h0 h1 w) : f_X2_isHeavier g x = some (if (g = 0 ∧ h1 < h0) ∨ (g ≠ 0 ∧ h0 < h1) then 1 else 0, x) := by
  obtain ⟨a, b, c, d, e⟩ := hc
  simp only [f_X2_isHeavier]
  rcases hg with rfl | rfl
  · rw [if_neg (by decide), tg_ck_pos (by omega), tg_ck_pos (by omega), c, d]
    by_cases h : h0 ≤ h1
    · rw [if_pos h, if_neg (by omega)]
    · rw [if_neg h, if_pos (by omega)]
  · rw [if_pos (by decide), tg_ck_pos (by omega), tg_ck_pos (by omega), c, d]
    by_cases h : h1 ≤ h0
    · rw [if_pos h, if_neg (by omega)]
    · rw [if_neg h, if_pos (by omega)]
theorem c_eat {g : Int} {D : tr_D} (hk : 10 ≤ k) (hg : g = 0 ∨ g = 1) (hc : tc_cf x P A B Y ρ h0 h1 w) (hw : ∀ i, 0 ≤ i → i ≤ 7 → 0 ≤ w i ∧ w i ≤ 99) (hd : tc_dy Y k x D) (hat : 0 ≤ tr_at g D.1 ∧ tr_at g D.1 ≤ 7) (hb : 0 ≤ D.2.1.1 ∧ D.2.1.1 ≤ 100000 ∧ 0 ≤ D.2.1.2 ∧ D.2.1.2 ≤ 100000) :
    ∃ x', f_X0_eat k g x = some (0, x') ∧ tc_dy Y k x' (tr_eat w g D) ∧ tc_fr k x x' ∧ x' k 7 = x k 7 := by
  obtain ⟨S, ⟨eA, eB⟩, ⟨dA, dB⟩, bare⟩ := D
  obtain ⟨r1, r2, r3, r4, r5, r6⟩ := hd
  dsimp only at r1 r2 r3 r4 r5 r6 hat hb
  have e1 : x (k + 3 + 1) g.toNat = tr_at g S := by
    unfold tr_at
    rcases hg with rfl | rfl
    · exact r1.1
    · exact r1.2.1
  have e2 : 0 ≤ x (k + 6) g.toNat ∧ x (k + 6) g.toNat ≤ 100000 := by
    rcases hg with rfl | rfl
    · show 0 ≤ x (k + 6) 0 ∧ x (k + 6) 0 ≤ 100000; rw [r2]; omega
    · show 0 ≤ x (k + 6) 1 ∧ x (k + 6) 1 ≤ 100000; rw [r3]; omega
  have hwo := tr_wo_b (w := w) (bare := bare) (hw _ hat.1 hat.2)
  refine ⟨tg_up (tg_up x (k + 6) g.toNat (x (k + 6) g.toNat + tr_wo w (tr_at g S) bare)) k 6 (tg_ior bare (tg_ishl 1 (tr_at g S))), ?_, ⟨?_, ?_, ?_, ?_, ?_, ?_⟩, ⟨fun c c1 c2 c3 c4 c5 c6 => ?_, fun j j1 j2 => ?_⟩, ?_⟩
  · simp only [f_X0_eat, tg_lt]
    rw [b_isBelowT (by omega)]
    simp only [tg_bd_some]
    rw [if_neg (by decide), tg_ck_pos (by omega), e1, tg_ck_pos (by omega), r6, c_worthAt hc hat]
    simp only [tg_bd_some]
    rw [tg_ck_pos (by omega), tg_wi_e (by omega), tg_up_k (by omega : k ≠ k + 6), r6]
  · exact tc_rp_of r1 (by rw [tg_up_k (by omega), tg_up_k (by omega)]) (by rw [tg_up_k (by omega), tg_up_k (by omega)]) (by rw [tg_up_k (by omega), tg_up_k (by omega)])
  · show _ = (if g = 0 then _ else _ : Int × Int).1
    rw [tg_up_k (by omega)]
    rcases hg with rfl | rfl
    · rw [if_pos rfl]; show tg_up x (k + 6) 0 _ (k + 6) 0 = _; rw [tg_up_same]; show x (k + 6) 0 + _ = _; rw [r2]
    · rw [if_neg (by decide)]; show tg_up x (k + 6) 1 _ (k + 6) 0 = _; rw [tg_up_j (by decide), r2]
  · show _ = (if g = 0 then _ else _ : Int × Int).2
    rw [tg_up_k (by omega)]
    rcases hg with rfl | rfl
    · rw [if_pos rfl]; show tg_up x (k + 6) 0 _ (k + 6) 1 = _; rw [tg_up_j (by decide), r3]
    · rw [if_neg (by decide)]; show tg_up x (k + 6) 1 _ (k + 6) 1 = _; rw [tg_up_same]; show x (k + 6) 1 + _ = _; rw [r3]
  · rw [tg_up_k (by omega), tg_up_k (by omega)]; exact r4
  · rw [tg_up_k (by omega), tg_up_k (by omega)]; exact r5
  · rw [tg_up_same]; rfl
  · rw [tg_up_k c1, tg_up_k c5]
  · rw [tg_up_j j1, tg_up_k (by omega)]
  · rw [tg_up_j (by decide), tg_up_k (by omega)]
theorem c_dragl {g : Int} (hk : 10 ≤ k) (hg : g = 0 ∨ g = 1) (hcf : tr_cf P A B Y ρ w) : ∀ (N : Nat) (S : Int × Int × List Int) (x : tg_Mem) (v V : Int) (n : Nat), S.2.2.length = N → V = v + N → N < n → 0 ≤ v → V ≤ 1000 → N ≤ 62 → tc_cf x P A B Y ρ h0 h1 w → tc_rp Y (k + 3) x S → tr_I P A B S → 0 ≤ x (k + 7) g.toNat → x (k + 7) g.toNat + N ≤ 1000000 →
    ∃ x', tg_fx (f_X0_drag_B10 k g V) (fun _ _ => none) n v x = some (0, x') ∧ tc_rp Y (k + 3) x' (tr_drag A B Y ρ g N S).1 ∧ x' (k + 7) g.toNat = x (k + 7) g.toNat + (tr_drag A B Y ρ g N S).2 ∧ (∀ j, j ≠ g.toNat → x' (k + 7) j = x (k + 7) j) ∧ (∀ c, c ≠ k + 3 → c ≠ k + 4 → c ≠ k + 5 → c ≠ k + 7 → x' c = x c) := by
  intro N
  induction N with
  | zero =>
    intro S x v V n hS hV hn hv hv2 hN hc hr hI hd hd2
    obtain ⟨n, rfl⟩ : ∃ n', n = n' + 1 := ⟨n - 1, by omega⟩
    refine ⟨x, ?_, hr, by show _ = _ + (0 : Int); omega, fun _ _ => rfl, fun _ _ _ _ _ => rfl⟩
    rw [tg_fx_s]
    unfold f_X0_drag_B10
    rw [if_pos (by omega)]
  | succ N ih =>
    intro S x v V n hS hV hn hv hv2 hN hc hr hI hd hd2
    obtain ⟨n, rfl⟩ : ∃ n', n = n' + 1 := ⟨n - 1, by omega⟩
    have hlb := tr_I_b hcf.1 hI
    rw [tg_fx_s]
    unfold tr_drag
    by_cases h : tr_len Y S.2.2 ≤ ρ
    · rw [if_pos h]
      refine ⟨x, ?_, hr, by show _ = _ + (0 : Int); omega, fun _ _ => rfl, fun _ _ _ _ _ => rfl⟩
      unfold f_X0_drag_B10
      rw [if_neg (by omega), if_pos (by rw [hr.2.2.2.1, hc.2.1]; exact h)]
    · rw [if_neg h]
      have ht := tr_nx_tch hg hcf.1 hI (by omega)
      obtain ⟨x1, e1, e2, e3⟩ := c_go (by omega) hcf.1 hc.1 hr hg ⟨ht.1, ht.2.1⟩ (by omega) (by omega)
      obtain ⟨x2, hx2⟩ : ∃ x2, x2 = tg_up x1 (k + 7) g.toNat (x (k + 7) g.toNat + 1) := ⟨_, rfl⟩
      have g2 : ∀ c, c ≠ k + 3 → c ≠ k + 4 → c ≠ k + 5 → c ≠ k + 7 → x2 c = x c := fun c c1 c2 c3 c4 => by rw [hx2, tg_up_k c4, e3 c c1 (by omega) (by omega)]
      have e4 : f_X0_drag_B10 k g V (tg_fx (f_X0_drag_B10 k g V) (fun _ _ => none) n) v x = tg_fx (f_X0_drag_B10 k g V) (fun _ _ => none) n (v + 1) x2 := by
        unfold f_X0_drag_B10
        rw [if_neg (by omega), if_neg (by rw [hr.2.2.2.1, hc.2.1]; exact h), b_isBelowT (by omega)]
        simp only [tg_bd_some]
        rw [if_neg (by decide), c_nextTo hr hg]
        simp only [tg_bd_some]
        rw [e1]
        simp only [tg_bd_some, tg_lt]
        rw [tg_ck_pos (by omega), tg_ck_pos (by omega), e3 (k + 7) (by omega) (by omega) (by omega), tg_wi_e (a := x (k + 7) g.toNat + 1) (by omega), ← hx2, tg_wi_e (by omega)]
      rw [e4]
      obtain ⟨x', q1, q2, q3, q4, q5⟩ := ih (tr_go A B g (tr_nx g S.2.2) S) x2 (v + 1) V n (by have := tr_nx_len hg hcf.1 hI (by omega); omega) (by omega) (by omega) (by omega) (by omega) (by omega)
        (tc_cf_of hc (by rw [g2 1 (by omega) (by omega) (by omega) (by omega)]) (by rw [g2 1 (by omega) (by omega) (by omega) (by omega)]) (g2 4 (by omega) (by omega) (by omega) (by omega)) (g2 5 (by omega) (by omega) (by omega) (by omega)) (g2 7 (by omega) (by omega) (by omega) (by omega)) (g2 8 (by omega) (by omega) (by omega) (by omega)) (g2 9 (by omega) (by omega) (by omega) (by omega)))
        (tc_rp_of e2 (by rw [hx2, tg_up_k (by omega)]) (by rw [hx2, tg_up_k (by omega)]) (by rw [hx2, tg_up_k (by omega)])) (tr_go_I hcf.1 hg hI ht) (by rw [hx2, tg_up_same]; omega) (by rw [hx2, tg_up_same]; omega)
      have a2 : x2 (k + 7) g.toNat = x (k + 7) g.toNat + 1 := by rw [hx2, tg_up_same]
      refine ⟨x', q1, q2, by rw [q3, a2]; omega, fun j hj => by rw [q4 j hj, hx2, tg_up_j hj, e3 _ (by omega) (by omega) (by omega)], fun c c1 c2 c3 c4 => by rw [q5 c c1 c2 c3 c4, g2 c c1 c2 c3 c4]⟩
theorem c_doStep {c : Int} {D : tr_D} {j : Int} (hk : 10 ≤ k) (hcf : tr_cf P A B Y ρ w) (hcode : c = -1 ∨ (0 ≤ c ∧ c ≤ 15)) (hc : tc_cf x P A B Y ρ h0 h1 w) (hd : tc_dy Y k x D) (hD : tr_DI P A B Y ρ j D) (hj : 0 ≤ j ∧ j ≤ 100) :
    (∃ D' x', tr_step P A B Y ρ h0 h1 w c D = some D' ∧ f_X0_doStep k c x = some (1, x') ∧ tc_dy Y k x' D' ∧ tc_fr k x x' ∧ x' k 7 = x k 7) ∨
    (∃ x', tr_step P A B Y ρ h0 h1 w c D = none ∧ f_X0_doStep k c x = some (0, x') ∧ tc_dy Y k x' D ∧ tc_fr k x x' ∧ x' k 7 = x k 7) := by
  obtain ⟨S, ⟨eA, eB⟩, ⟨dA, dB⟩, bare⟩ := D
  obtain ⟨hI, hl, q1, q2, q3, q4⟩ := hD
  have hd0 := hd
  obtain ⟨r1, r2, r3, r4, r5, r6⟩ := hd
  dsimp only at hI hl q1 q2 q3 q4 r1 r2 r3 r4 r5 r6
  have hlb := tr_I_b hcf.1 hI
  have hρ := hcf.2.1
  unfold tr_step
  dsimp only
  by_cases hc1 : c = -1
  · right
    refine ⟨x, by rw [if_pos hc1], ?_, hd0, tc_fr_rf _ _, rfl⟩
    simp only [f_X0_doStep, tg_lt]
    rw [if_pos hc1]
  · have hc15 : 0 ≤ c ∧ c ≤ 15 := by omega
    rw [if_neg hc1]
    have hg : c / 8 = 0 ∨ c / 8 = 1 := by omega
    have e3 : tg_ishr c 3 = c / 8 := tg_ishr3 (by omega)
    have e7 : tg_iand c 7 = c % 8 := tg_iand7 (by omega)
    generalize hgg : c / 8 = g at *
    generalize hpp : c % 8 = p at *
    by_cases ht : 0 ≤ p ∧ p < P ∧ (A p = tr_at g S ∨ B p = tr_at g S)
    · rw [if_pos ht]
      have htch : tr_tch P A B p (tr_at g S) := ht
      obtain ⟨x1, e1, e2, e4⟩ := c_go (k := k + 3) (by omega) hcf.1 hc.1 r1 hg ⟨ht.1, ht.2.1⟩ (by omega) (by omega)
      have f1 : tc_fr k x x1 := ⟨fun c c1 c2 c3 c4 c5 c6 => e4 c c2 (by omega) (by omega), fun j _ _ => by rw [e4 k (by omega) (by omega) (by omega)]⟩
      have hc1' := tc_cf_fr hk hc f1
      have hI1 := tr_go_I hcf.1 hg hI htch
      have hlb1 := tr_I_b hcf.1 hI1
      have hlen1 : (tr_go A B g p S).2.2.length ≤ S.2.2.length + 1 := tr_go_length
      have hd1 : tc_dy Y k x1 (tr_go A B g p S, (eA, eB), (dA, dB), bare) := ⟨e2, by rw [e4 _ (by omega) (by omega) (by omega)]; exact r2, by rw [e4 _ (by omega) (by omega) (by omega)]; exact r3, by rw [e4 _ (by omega) (by omega) (by omega)]; exact r4, by rw [e4 _ (by omega) (by omega) (by omega)]; exact r5, by rw [e4 _ (by omega) (by omega) (by omega)]; exact r6⟩
      have b5 : x1 (k + 3) 5 = tr_len Y (tr_go A B g p S).2.2 := e2.2.2.2.1
      have k71 : x1 k 7 = x k 7 := by rw [e4 k (by omega) (by omega) (by omega)]
      by_cases h5 : tr_len Y (tr_go A B g p S).2.2 ≤ ρ
      · left
        rw [if_pos h5]
        obtain ⟨x2, z1, z2, z3, z4⟩ := c_eat hk hg hc1' hcf.2.2 hd1 (tr_at_b hcf.1 hI1) (by dsimp only; omega)
        refine ⟨_, x2, rfl, ?_, z2, tc_fr_tr f1 z3, by rw [z4, k71]⟩
        simp only [f_X0_doStep, tg_lt, tg_jn]
        rw [if_neg hc1, e3, e7, c_canGoT hcf.1 hc.1 r1 hg htch]
        simp only [tg_bd_some]
        rw [if_pos (by decide), e1]
        simp only [tg_bd_some]
        rw [b5, hc1'.2.1, if_pos h5, z1]
        rfl
      · rw [if_neg h5]
        by_cases h6 : (g = 0 ∧ h1 < h0) ∨ (g ≠ 0 ∧ h0 < h1)
        · left
          rw [if_pos h6]
          have hg2 : 1 - g = 0 ∨ 1 - g = 1 := by omega
          have hdr : 0 ≤ x1 (k + 7) (1 - g).toNat ∧ x1 (k + 7) (1 - g).toNat ≤ 100000 := by
            rcases hg2 with z | z
            · rw [z]; show 0 ≤ x1 (k + 7) 0 ∧ x1 (k + 7) 0 ≤ _; rw [hd1.2.2.2.1]; dsimp only; omega
            · rw [z]; show 0 ≤ x1 (k + 7) 1 ∧ x1 (k + 7) 1 ≤ _; rw [hd1.2.2.2.2.1]; dsimp only; omega
          obtain ⟨x2, z1, z2, z3, z4, z5⟩ := c_dragl (g := 1 - g) hk hg2 hcf _ _ x1 0 (x1 (k + 3) 4) tg_FU rfl (by rw [e2.2.2.1]; omega) (by have := tg_FUg; omega) (by omega) (by rw [e2.2.2.1]; omega) (by omega) hc1' e2 hI1 hdr.1 (by omega)
          obtain ⟨i1, i2, i3, i4, i5⟩ := tr_drag_I hg2 hcf.1 hρ.1 _ _ rfl hI1
          have f2 : tc_fr k x1 x2 := ⟨fun c c1 c2 c3 c4 c5 c6 => z5 c c2 c3 c4 c6, fun j _ _ => by rw [z5 k (by omega) (by omega) (by omega) (by omega)]⟩
          have hc2' := tc_cf_fr hk hc1' f2
          have hd2 : tc_dy Y k x2 ((tr_drag A B Y ρ (1 - g) (tr_go A B g p S).2.2.length (tr_go A B g p S)).1, (eA, eB), tr_add (1 - g) (tr_drag A B Y ρ (1 - g) (tr_go A B g p S).2.2.length (tr_go A B g p S)).2 (dA, dB), bare) := by
            refine ⟨z2, ?_, ?_, ?_, ?_, ?_⟩
            · rw [z5 _ (by omega) (by omega) (by omega) (by omega)]; exact hd1.2.1
            · rw [z5 _ (by omega) (by omega) (by omega) (by omega)]; exact hd1.2.2.1
            · show x2 (k + 7) 0 = (tr_add (1 - g) _ (dA, dB)).1
              unfold tr_add
              rcases hg2 with z | z
              · rw [z] at z3 z4 ⊢; rw [if_pos rfl]; refine Eq.trans z3 ?_; show x1 (k + 7) 0 + _ = _; rw [hd1.2.2.2.1]
              · rw [z] at z3 z4 ⊢; rw [if_neg (by decide), z4 0 (by decide)]; exact hd1.2.2.2.1
            · show x2 (k + 7) 1 = (tr_add (1 - g) _ (dA, dB)).2
              unfold tr_add
              rcases hg2 with z | z
              · rw [z] at z3 z4 ⊢; rw [if_pos rfl, z4 1 (by decide)]; exact hd1.2.2.2.2.1
              · rw [z] at z3 z4 ⊢; rw [if_neg (by decide)]; refine Eq.trans z3 ?_; show x1 (k + 7) 1 + _ = _; rw [hd1.2.2.2.2.1]
            · rw [z5 _ (by omega) (by omega) (by omega) (by omega)]; exact hd1.2.2.2.2.2
          obtain ⟨x3, y1, y2, y3, y4⟩ := c_eat hk hg hc2' hcf.2.2 hd2 (tr_at_b hcf.1 i1) (by dsimp only; omega)
          refine ⟨_, x3, rfl, ?_, y2, tc_fr_tr f1 (tc_fr_tr f2 y3), by rw [y4, z5 k (by omega) (by omega) (by omega) (by omega), k71]⟩
          have ew : tg_wi (1 - g) = 1 - g := tg_wi_e (by omega)
          simp only [f_X0_doStep, tg_lt, tg_jn]
          rw [if_neg hc1, e3, e7, c_canGoT hcf.1 hc.1 r1 hg htch]
          simp only [tg_bd_some]
          rw [if_pos (by decide), e1]
          simp only [tg_bd_some]
          rw [b5, hc1'.2.1, if_neg h5, c_heavy hg hc1', if_pos h6]
          simp only [tg_bd_some]
          rw [if_pos (by decide), ew]
          have ed : f_X0_drag k (1 - g) x1 = some (0, x2) := by
            simp only [f_X0_drag, tg_lt]; exact z1
          rw [ed]
          simp only [tg_bd_some]
          rw [y1]; rfl
        · right
          rw [if_neg h6]
          have hat1 : tr_at g (tr_go A B g p S) = tr_oth A B p (tr_at g S) := tr_go_at hg
          obtain ⟨x2, z1, z2, z3⟩ := c_go (k := k + 3) (S := tr_go A B g p S) (by omega) hcf.1 hc1'.1 e2 hg ⟨ht.1, ht.2.1⟩ (by omega) (by omega)
          rw [tr_go_go hcf.1 hg hI htch] at z2
          have f2 : tc_fr k x1 x2 := ⟨fun c c1 c2 c3 c4 c5 c6 => z3 c c2 (by omega) (by omega), fun j _ _ => by rw [z3 k (by omega) (by omega) (by omega)]⟩
          refine ⟨x2, rfl, ?_, ⟨z2, by rw [z3 _ (by omega) (by omega) (by omega)]; exact hd1.2.1, by rw [z3 _ (by omega) (by omega) (by omega)]; exact hd1.2.2.1, by rw [z3 _ (by omega) (by omega) (by omega)]; exact hd1.2.2.2.1, by rw [z3 _ (by omega) (by omega) (by omega)]; exact hd1.2.2.2.2.1, by rw [z3 _ (by omega) (by omega) (by omega)]; exact hd1.2.2.2.2.2⟩, tc_fr_tr f1 f2, by rw [z3 k (by omega) (by omega) (by omega), k71]⟩
          simp only [f_X0_doStep, tg_lt, tg_jn]
          rw [if_neg hc1, e3, e7, c_canGoT hcf.1 hc.1 r1 hg htch]
          simp only [tg_bd_some]
          rw [if_pos (by decide), e1]
          simp only [tg_bd_some]
          rw [b5, hc1'.2.1, if_neg h5, c_heavy hg hc1', if_neg h6]
          simp only [tg_bd_some]
          rw [if_neg (by decide), z1]; rfl
    · right
      rw [if_neg ht]
      have htch : ¬ tr_tch P A B p (tr_at g S) := ht
      refine ⟨x, rfl, ?_, hd0, tc_fr_rf _ _, rfl⟩
      simp only [f_X0_doStep, tg_lt, tg_jn]
      rw [if_neg hc1, e3, e7, c_canGoF hcf.1 hc.1 r1 hg htch]
      rfl
theorem c_fill2 {K : Nat} {v : Int} : ∃ x', f_J7_fill_53178 K 2 v x = some (0, x') ∧ x' K 0 = v ∧ x' K 1 = v ∧ (∀ c, c ≠ K → x' c = x c) := by
  obtain ⟨F, hF⟩ : ∃ n : Nat, tg_FU = n + 3 := ⟨tg_FU - 3, by have := tg_FUg; omega⟩
  refine ⟨tg_up (tg_up x K 0 v) K 1 v, ?_, by rw [tg_up_j (by decide), tg_up_same], tg_up_same _ _ _ _, fun c hc => by rw [tg_up_k hc, tg_up_k hc]⟩
  simp only [f_J7_fill_53178, tg_lt]
  rw [hF, tg_fx_s]
  have e2 : ∀ (self : Int → tg_Mem → tg_R) (i : Int) (q : tg_Mem), (i = 0 ∨ i = 1) → f_J7_fill_53178_B5 K 2 v ((2 : Nat) : Int) self i q = self (i + 1) (tg_up q K i.toNat v) := by
    intro self i q hi
    unfold f_J7_fill_53178_B5
    simp only [tg_lt]
    rw [if_neg (by omega), tg_ck_pos (by omega), tg_wi_e (by omega)]
  rw [e2 _ 0 _ (Or.inl rfl), tg_fx_s, show (0 : Int) + 1 = 1 from rfl, e2 _ 1 _ (Or.inr rfl), tg_fx_s]
  unfold f_J7_fill_53178_B5
  rw [if_pos (by decide)]
  rfl
theorem c_walkl {most : Int} {c : Int → Int} (hk : 10 ≤ k) (hcf : tr_cf P A B Y ρ w) (hcode : ∀ k, c k = -1 ∨ (0 ≤ c k ∧ c k ≤ 15)) {n0 : Int} (hn0 : 0 ≤ n0 ∧ n0 ≤ 40) :
    ∀ (N : Nat) (j : Int) (D : tr_D) (x : tg_Mem) (n : Nat), N < n → 0 ≤ j → j + N = (if most < n0 then most else n0) → j ≤ 40 → tc_cf x P A B Y ρ h0 h1 w → tc_dy Y k x D → tr_DI P A B Y ρ j D → x k 7 = j → x (k + 1) 1 = n0 → (∀ i : Int, 0 ≤ i → i < n0 → (-1 ≤ x (k + 2) i.toNat ∧ x (k + 2) i.toNat ≤ 255) ∧ c i = tr_code (x (k + 2) i.toNat)) →
    ∃ x', tg_fx (f_X0_walk_B37 k most) (fun _ => none) n x = some (0, x') ∧ tc_dy Y k x' (tr_run P A B Y ρ h0 h1 w c N j D).2 ∧ x' k 7 = (tr_run P A B Y ρ h0 h1 w c N j D).1 ∧ tc_fr k x x' := by
  intro N
  induction N with
  | zero =>
    intro j D x n hn hj hjN hj40 hc hd hD h7 h1' hb
    obtain ⟨n, rfl⟩ : ∃ n', n = n' + 1 := ⟨n - 1, by omega⟩
    refine ⟨x, ?_, hd, h7, tc_fr_rf _ _⟩
    rw [tg_fx_s]
    unfold f_X0_walk_B37
    by_cases hm : most < n0
    · rw [if_pos hm] at hjN
      rw [if_pos (by omega)]
    · rw [if_neg hm] at hjN
      by_cases hm2 : most ≤ x k 7
      · rw [if_pos hm2]
      · rw [if_neg hm2, if_pos (by omega)]
  | succ N ih =>
    intro j D x n hn hj hjN hj40 hc hd hD h7 h1' hb
    obtain ⟨n, rfl⟩ : ∃ n', n = n' + 1 := ⟨n - 1, by omega⟩
    have hjn : j < n0 ∧ j < most := by
      by_cases hm : most < n0
      · rw [if_pos hm] at hjN; omega
      · rw [if_neg hm] at hjN; omega
    obtain ⟨hb1, hb2⟩ := hb j hj hjn.1
    have ebyte := b_byteAt (k := k + 1) (i := j) (m := x) (by omega)
    have ecode := c_code (x := x) hb1
    rw [← hb2] at ecode
    rw [tg_fx_s]
    unfold tr_run
    rcases c_doStep hk hcf (hcode j) hc hd hD (by omega) with ⟨D', x1, s1, s2, s3, s4, s5⟩ | ⟨x1, s1, s2, s3, s4, s5⟩
    · rw [s1]
      obtain ⟨x2, hx2⟩ : ∃ x2, x2 = tg_up x1 k 7 (j + 1) := ⟨_, rfl⟩
      have g2 : ∀ c, c ≠ k → x2 c = x1 c := fun c hc => by rw [hx2, tg_up_k hc]
      have f2 : tc_fr k x x2 := ⟨fun c c1 c2 c3 c4 c5 c6 => by rw [g2 c c1, s4.1 c c1 c2 c3 c4 c5 c6], fun i i1 i2 => by rw [hx2, tg_up_j i2, s4.2 i i1 i2]⟩
      have e4 : f_X0_walk_B37 k most (tg_fx (f_X0_walk_B37 k most) (fun _ => none) n) x = tg_fx (f_X0_walk_B37 k most) (fun _ => none) n x2 := by
        unfold f_X0_walk_B37
        rw [h7, if_neg (by omega), if_neg (by omega), ebyte]
        simp only [tg_bd_some]
        rw [ecode]
        simp only [tg_bd_some]
        rw [s2]
        simp only [tg_bd_some, tg_lt]
        rw [if_neg (by decide), s5, h7, tg_wi_e (by omega), ← hx2]
      rw [e4]
      have hd2 : tc_dy Y k x2 D' := ⟨tc_rp_of s3.1 (g2 _ (by omega)) (g2 _ (by omega)) (g2 _ (by omega)), by rw [g2 _ (by omega)]; exact s3.2.1, by rw [g2 _ (by omega)]; exact s3.2.2.1, by rw [g2 _ (by omega)]; exact s3.2.2.2.1, by rw [g2 _ (by omega)]; exact s3.2.2.2.2.1, by rw [hx2, tg_up_j (by decide)]; exact s3.2.2.2.2.2⟩
      have z1 : x2 (k + 1) = x (k + 1) := f2.1 _ (by omega) (by omega) (by omega) (by omega) (by omega) (by omega)
      have z2 : x2 (k + 2) = x (k + 2) := f2.1 _ (by omega) (by omega) (by omega) (by omega) (by omega) (by omega)
      obtain ⟨x', q1, q2, q3, q4⟩ := ih (j + 1) D' x2 n (by omega) (by omega) (by omega) (by omega) (tc_cf_fr hk hc f2) hd2 (tr_step_I hcf (hcode j) hD s1) (by rw [hx2, tg_up_same]) (by rw [z1]; exact h1') (by rw [z2]; exact hb)
      exact ⟨x', q1, q2, q3, tc_fr_tr f2 q4⟩
    · rw [s1]
      refine ⟨x1, ?_, s3, by rw [s5]; exact h7, s4⟩
      unfold f_X0_walk_B37
      rw [h7, if_neg (by omega), if_neg (by omega), ebyte]
      simp only [tg_bd_some]
      rw [ecode]
      simp only [tg_bd_some]
      rw [s2]; rfl
/-- the day behind at most 'most' steps -/
theorem c_walk {most : Int} {c : Int → Int} {n0 a : Int} (hk : 10 ≤ k) (hcf : tr_cf P A B Y ρ w) (hcode : ∀ k, c k = -1 ∨ (0 ≤ c k ∧ c k ≤ 15)) (hn0 : 0 ≤ n0 ∧ n0 ≤ 40) (hmost : 0 ≤ most) (hc : tc_cf x P A B Y ρ h0 h1 w) (ha : x k 5 = a) (ha7 : 0 ≤ a ∧ a ≤ 7) (h1' : x (k + 1) 1 = n0)
    (hb : ∀ i : Int, 0 ≤ i → i < n0 → (-1 ≤ x (k + 2) i.toNat ∧ x (k + 2) i.toNat ≤ 255) ∧ c i = tr_code (x (k + 2) i.toNat)) :
    ∃ x', f_X0_walk k most x = some (0, x') ∧ tc_dy Y k x' (tr_run P A B Y ρ h0 h1 w c (if most < n0 then most else n0).toNat 0 ((a, a, []), (0, 0), (0, 0), 0)).2 ∧ x' k 7 = (tr_run P A B Y ρ h0 h1 w c (if most < n0 then most else n0).toNat 0 ((a, a, []), (0, 0), (0, 0), 0)).1 ∧ tc_fr k x x' := by
  obtain ⟨x1, e1, e2, e3⟩ := c_standBoth (Y := Y) (k := k + 3) (x := x) (a := a)
  obtain ⟨x2, e4, e5, e6, e7⟩ := c_fill2 (x := x1) (K := k + 6) (v := 0)
  obtain ⟨x3, e8, e9, e10, e11⟩ := c_fill2 (x := x2) (K := k + 7) (v := 0)
  obtain ⟨x4, hx4⟩ : ∃ x4, x4 = tg_up (tg_up x3 k 6 0) k 7 0 := ⟨_, rfl⟩
  have g3 : ∀ c, c ≠ k + 3 → c ≠ k + 4 → c ≠ k + 6 → c ≠ k + 7 → x3 c = x c := fun c c1 c2 c3 c4 => by rw [e11 c c4, e7 c c3, e3 c c1 (by omega)]
  have g4 : ∀ c, c ≠ k → x4 c = x3 c := fun c hc => by rw [hx4, tg_up_k hc, tg_up_k hc]
  have f4 : tc_fr k x x4 := ⟨fun c c1 c2 c3 c4 c5 c6 => by rw [g4 c c1, g3 c c2 c3 c5 c6], fun j j1 j2 => by rw [hx4, tg_up_j j2, tg_up_j j1, g3 k (by omega) (by omega) (by omega) (by omega)]⟩
  have hd4 : tc_dy Y k x4 ((a, a, []), (0, 0), (0, 0), 0) := by
    refine ⟨tc_rp_of e2 ?_ ?_ ?_, ?_, ?_, ?_, ?_, ?_⟩
    · rw [g4 _ (by omega), e11 _ (by omega), e7 _ (by omega)]
    · rw [g4 _ (by omega), e11 _ (by omega), e7 _ (by omega)]
    · rw [g4 _ (by omega), e11 _ (by omega), e7 _ (by omega)]
    · rw [g4 _ (by omega), e11 _ (by omega), e5]
    · rw [g4 _ (by omega), e11 _ (by omega), e6]
    · rw [g4 _ (by omega), e9]
    · rw [g4 _ (by omega), e10]
    · rw [hx4, tg_up_j (by decide), tg_up_same]
  have hD0 : tr_DI P A B Y ρ 0 ((a, a, []), (0, 0), (0, 0), 0) := ⟨⟨ha7, trivial, rfl, trivial⟩, by show (0 : Int) ≤ ρ; have := hcf.2.1; omega, by dsimp only; omega, by dsimp only; omega, by dsimp only; omega, by dsimp only; omega⟩
  have z1 : x4 (k + 1) = x (k + 1) := f4.1 _ (by omega) (by omega) (by omega) (by omega) (by omega) (by omega)
  have z2 : x4 (k + 2) = x (k + 2) := f4.1 _ (by omega) (by omega) (by omega) (by omega) (by omega) (by omega)
  obtain ⟨x', q1, q2, q3, q4⟩ := c_walkl (most := most) (c := c) hk hcf hcode hn0 (if most < n0 then most else n0).toNat 0 _ x4 tg_FU (by have := tg_FUg; split <;> omega) (by omega) (by split <;> omega) (by omega) (tc_cf_fr hk hc f4) hd4 hD0 (by rw [hx4, tg_up_same]) (by rw [z1]; exact h1') (by rw [z2]; exact hb)
  refine ⟨x', ?_, q2, q3, tc_fr_tr f4 q4⟩
  simp only [f_X0_walk]
  rw [ha, e1]
  simp only [tg_bd_some]
  rw [e4]
  simp only [tg_bd_some]
  rw [e8]
  simp only [tg_bd_some, tg_lt]
  rw [← hx4]
  exact q1
end TCD
