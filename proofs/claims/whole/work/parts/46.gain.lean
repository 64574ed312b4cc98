-- the class's gain
def tu_sd (r v low high : Int) : Prop := (v ≤ low → r ≤ low) ∧ (low < v → v < high → r = v) ∧ (high ≤ v → high ≤ r)
section GAIN
variable {P : Int} {A B Y : Int → Int} {ρ h0 h1 : Int} {w : Int → Int}
def tu_G (P : Int) (A B Y : Int → Int) (ρ h0 h1 : Int) (w : Int → Int) (left : Nat) (G : Int → Int → Int → Int → tg_Mem → tg_R) : Prop :=
  ∀ (g low high bare : Int) (S : tr_S) (x : tg_Mem), (g = 0 ∨ g = 1) → low < high → -(20000 - 99 * (left : Int)) ≤ low → high ≤ 20000 - 99 * left → ts_va P A B Y ρ S → tc_cf x P A B Y ρ h0 h1 w → tc_rp Y 33 x S → x 32 2 = bare →
    ∃ r x', G g (left : Int) low high x = some (r, x') ∧ tu_sd r (tu_v P A B Y ρ w left g S bare) low high ∧ -(99 * (left : Int)) ≤ r ∧ r ≤ 99 * left ∧ tc_rp Y 33 x' S ∧ x' 32 2 = bare ∧
      (low < tu_v P A B Y ρ w left g S bare → tu_v P A B Y ρ w left g S bare < high → x' 32 3 = tu_p P A B Y ρ w left g S bare) ∧ ∀ c, c ≠ 32 → c ≠ 33 → c ≠ 34 → c ≠ 35 → x' c = x c
theorem tc_cf_32 {x x' : tg_Mem} (h : tc_cf x P A B Y ρ h0 h1 w) (hf : ∀ c, c ≠ 32 → c ≠ 33 → c ≠ 34 → c ≠ 35 → x' c = x c) : tc_cf x' P A B Y ρ h0 h1 w :=
  tc_cf_of h (by rw [hf 1 (by decide) (by decide) (by decide) (by decide)]) (by rw [hf 1 (by decide) (by decide) (by decide) (by decide)]) (hf 4 (by decide) (by decide) (by decide) (by decide)) (hf 5 (by decide) (by decide) (by decide) (by decide)) (hf 7 (by decide) (by decide) (by decide) (by decide)) (hf 8 (by decide) (by decide) (by decide) (by decide)) (hf 9 (by decide) (by decide) (by decide) (by decide))
theorem c_byStep {G : Int → Int → Int → Int → tg_Mem → tg_R} {left : Nat} {g low high bare : Int} {X : tr_S} {x : tg_Mem} (hcf : tr_cf P A B Y ρ w) (hl : left ≤ 5) (hG : tu_G P A B Y ρ h0 h1 w left G) (hg : g = 0 ∨ g = 1) (hlh : low < high) (hlo : -(20000 - 99 * ((left : Int) + 1)) ≤ low) (hhi : high ≤ 20000 - 99 * ((left : Int) + 1)) (hX : ts_va P A B Y ρ X) (hx : tc_cf x P A B Y ρ h0 h1 w) (hr : tc_rp Y 33 x X) (hb : x 32 2 = bare) :
    ∃ r x', f_X6_gainByStep G g ((left : Int) + 1) low high x = some (r, x') ∧ tu_sd r (tr_wo w (tr_at g X) bare - tu_v P A B Y ρ w left (1 - g) X (tu_b bare (tr_at g X))) low high ∧ -(99 * ((left : Int) + 1)) ≤ r ∧ r ≤ 99 * ((left : Int) + 1) ∧ tc_rp Y 33 x' X ∧ x' 32 2 = bare ∧ ∀ c, c ≠ 32 → c ≠ 33 → c ≠ 34 → c ≠ 35 → x' c = x c := by
  have hat := tr_at_b (g := g) hcf.1 hX.1
  have he : 0 ≤ tr_wo w (tr_at g X) bare ∧ tr_wo w (tr_at g X) bare ≤ 99 := tr_wo_b (hcf.2.2 _ hat.1 hat.2)
  have e34 : x 34 g.toNat = tr_at g X := by
    unfold tr_at
    rcases hg with h | h
    · rw [h]; exact hr.1
    · rw [h]; exact hr.2.1
  obtain ⟨pl, hpl⟩ : ∃ pl, pl = tr_at g X := ⟨_, rfl⟩
  rw [← hpl] at hat he e34 ⊢
  obtain ⟨e, hE⟩ : ∃ e, e = tr_wo w pl bare := ⟨_, rfl⟩
  rw [← hE] at he ⊢
  obtain ⟨x1, hx1⟩ : ∃ x1, x1 = tg_up x 32 2 (tu_b bare pl) := ⟨_, rfl⟩
  have f1 : ∀ c, c ≠ 32 → x1 c = x c := fun c h => by rw [hx1, tg_up_k h]
  obtain ⟨r, x2, q1, q2, q3, q4, q5, q6, -, q7⟩ := hG (1 - g) (e - high) (e - low) (tu_b bare pl) X x1 (by omega) (by omega) (by omega) (by omega) hX (tc_cf_32 hx (fun c c1 _ _ _ => f1 c c1)) (tc_rp_of hr (f1 33 (by decide)) (f1 34 (by decide)) (f1 35 (by decide))) (by rw [hx1, tg_up_same])
  refine ⟨e - r, tg_up x2 32 2 bare, ?_, ?_, by omega, by omega, tc_rp_of q5 (tg_up_k (by decide)) (tg_up_k (by decide)) (tg_up_k (by decide)), tg_up_same _ _ _ _, fun c c1 c2 c3 c4 => by rw [tg_up_k c1, q7 c c1 c2 c3 c4, f1 c c1]⟩
  · simp only [f_X6_gainByStep, tg_jn, tg_lt]
    rw [b_isBelowT (by omega), tg_bd_some, if_neg (by decide), tg_ck_pos (by omega), e34, hb, c_worthAt hx hat, tg_bd_some, b_isBelowT (by omega), tg_bd_some, if_neg (by decide), hb]
    show tg_bd (G (tg_wi (1 - g)) (tg_wi ((left : Int) + 1 - 1)) (tg_wi (tr_wo w pl bare - high)) (tg_wi (tr_wo w pl bare - low)) (tg_up x 32 2 (tu_b bare pl))) _ = _
    rw [← hE, ← hx1, tg_wi_e (a := 1 - g) (by omega), tg_wi_e (a := (left : Int) + 1 - 1) (by omega), show (left : Int) + 1 - 1 = left by omega, tg_wi_e (a := e - high) (by omega), tg_wi_e (a := e - low) (by omega), q1, tg_bd_some, tg_wi_e (a := e - r) (by omega)]
  · unfold tu_sd at q2 ⊢
    omega
theorem c_gainl {G : Int → Int → Int → Int → tg_Mem → tg_R} {left : Nat} {g low high bare : Int} {S : tr_S} {j158 : Int → Int → tg_Mem → tg_R} (hcf : tr_cf P A B Y ρ w) (hl : left ≤ 5) (hG : tu_G P A B Y ρ h0 h1 w left G) (hg : g = 0 ∨ g = 1) (hlh : low < high) (hlo : -(20000 - 99 * ((left : Int) + 1)) ≤ low) (hhi : high ≤ 20000 - 99 * ((left : Int) + 1)) (hS : ts_va P A B Y ρ S) :
    ∀ (N : Nat) (p b st best step : Int) (x : tg_Mem) (F : Nat), N < F → 0 ≤ p → p + N = P → (best ≤ low → b ≤ low) → (low < best → best < high → b = best ∧ st = step) → (high ≤ best → high ≤ b) → -(99 * ((left : Int) + 1)) ≤ b → b ≤ 99 * ((left : Int) + 1) → -(99 * ((left : Int) + 1)) ≤ best → best ≤ 99 * ((left : Int) + 1) → tc_cf x P A B Y ρ h0 h1 w → tc_rp Y 33 x S → x 32 2 = bare →
    ∃ b' st' x', tg_fx (f_X6_gainB_B49 G g ((left : Int) + 1) low high j158) (fun _ _ _ _ => none) F b st p x = j158 b' st' x' ∧
      ((tu_f P A B Y ρ w (tu_v P A B Y ρ w left (1 - g)) g S bare N p best step).1 ≤ low → b' ≤ low) ∧
      (low < (tu_f P A B Y ρ w (tu_v P A B Y ρ w left (1 - g)) g S bare N p best step).1 → (tu_f P A B Y ρ w (tu_v P A B Y ρ w left (1 - g)) g S bare N p best step).1 < high → b' = (tu_f P A B Y ρ w (tu_v P A B Y ρ w left (1 - g)) g S bare N p best step).1 ∧ st' = (tu_f P A B Y ρ w (tu_v P A B Y ρ w left (1 - g)) g S bare N p best step).2) ∧
      (high ≤ (tu_f P A B Y ρ w (tu_v P A B Y ρ w left (1 - g)) g S bare N p best step).1 → high ≤ b') ∧ -(99 * ((left : Int) + 1)) ≤ b' ∧ b' ≤ 99 * ((left : Int) + 1) ∧ tc_rp Y 33 x' S ∧ x' 32 2 = bare ∧ ∀ c, c ≠ 32 → c ≠ 33 → c ≠ 34 → c ≠ 35 → x' c = x c := by
  have hm := hcf.1
  have hP0 := hm.1
  have hP8 := hm.2.1
  have hρ := hcf.2.1
  have hlS := ts_va_l hm hρ.2 hS
  have hlbS := tr_I_b hm hS.1
  have hlen0 := hS.2
  have hTb := fun X b (hX : ts_va P A B Y ρ X) => tu_v_b hm hcf.2.2 left (1 - g) X b (by omega) hX
  intro N
  induction N with
  | zero =>
    intro p b st best step x F hF hp hpN i1 i2 i3 i4 i5 i6 i7 hx hr hb
    obtain ⟨F, rfl⟩ : ∃ n', F = n' + 1 := ⟨F - 1, by omega⟩
    refine ⟨b, st, x, ?_, i1, i2, i3, i4, i5, hr, hb, fun _ _ _ _ _ => rfl⟩
    rw [tg_fx_s]
    unfold f_X6_gainB_B49
    rw [hx.1.1, if_pos (by omega)]
  | succ N ih =>
    intro p b st best step x F hF hp hpN i1 i2 i3 i4 i5 i6 i7 hx hr hb
    obtain ⟨F, rfl⟩ : ∃ n', F = n' + 1 := ⟨F - 1, by omega⟩
    by_cases hcut : high ≤ b
    · have hmono := tu_f_b (bare := bare) (c := 99 * left) hm hg hS hcf.2.2 hTb (N + 1) p best step (by omega) (by omega)
      refine ⟨b, st, x, ?_, fun z => by omega, fun z z2 => by omega, fun _ => hcut, i4, i5, hr, hb, fun _ _ _ _ _ => rfl⟩
      rw [tg_fx_s]
      unfold f_X6_gainB_B49
      rw [hx.1.1, if_neg (by omega), if_pos hcut]
    · by_cases ht : tr_tch P A B p (tr_at g S)
      · obtain ⟨x1, a1, a2, a3⟩ := c_go (k := 33) (by decide) hm hx.1 hr hg ⟨ht.1, ht.2.1⟩ (by omega) (by omega)
        have hx1 : tc_cf x1 P A B Y ρ h0 h1 w := tc_cf_32 hx (fun c _ c2 c3 c4 => a3 c c2 c3 c4)
        have hI1 := tr_go_I hm hg hS.1 ht
        have hlb1 := tr_I_b hm hI1
        have hlen1 : (tr_go A B g p S).2.2.length ≤ S.2.2.length + 1 := tr_go_length
        have hgg := tr_go_go hm hg hS.1 ht
        have hb1 : x1 32 2 = bare := by rw [a3 32 (by decide) (by decide) (by decide)]; exact hb
        have back : ∀ (y : tg_Mem), tc_md y P A B Y → tc_rp Y 33 y (tr_go A B g p S) → ∃ y', f_X1_go 33 g p y = some (0, y') ∧ tc_rp Y 33 y' S ∧ ∀ c, c ≠ 33 → c ≠ 34 → c ≠ 35 → y' c = y c := by
          intro y hy hry
          obtain ⟨y', b1, b2, b3⟩ := c_go (k := 33) (by decide) hm hy hry hg ⟨ht.1, ht.2.1⟩ (by omega) (by omega)
          rw [hgg] at b2
          exact ⟨y', b1, b2, b3⟩
        by_cases hlen : tr_len Y (tr_go A B g p S).2.2 ≤ ρ
        · have hok : ts_ok P A B Y ρ g p S = true := ts_ok_e.mpr ⟨ht, hlen⟩
          have hva := ts_ok_va hm hg hS hok
          obtain ⟨lo, hloE⟩ : ∃ lo, lo = tg_max low b := ⟨_, rfl⟩
          have hlo2 : (lo = low ∨ lo = b) ∧ low ≤ lo ∧ b ≤ lo := by
            rw [hloE, tg_max_e]
            split <;> omega
          obtain ⟨r, x2, n1, n2, n3, n4, n5, n6, n7⟩ := c_byStep (low := lo) hcf hl hG hg (by omega) (by omega) hhi hva hx1 a2 hb1
          obtain ⟨x3, b1, b2, b3⟩ := back x2 (tc_cf_32 hx1 n7).1 n5
          have f3 : ∀ c, c ≠ 32 → c ≠ 33 → c ≠ 34 → c ≠ 35 → x3 c = x c := fun c c1 c2 c3 c4 => by rw [b3 c c2 c3 c4, n7 c c1 c2 c3 c4, a3 c c2 c3 c4]
          have hb3 : x3 32 2 = bare := by rw [b3 32 (by decide) (by decide) (by decide)]; exact n6
          obtain ⟨v, hv⟩ : ∃ v, v = tr_wo w (tr_at g (tr_go A B g p S)) bare - tu_v P A B Y ρ w left (1 - g) (tr_go A B g p S) (tu_b bare (tr_at g (tr_go A B g p S))) := ⟨_, rfl⟩
          have ef : tu_f P A B Y ρ w (tu_v P A B Y ρ w left (1 - g)) g S bare (N + 1) p best step = if best < v then tu_f P A B Y ρ w (tu_v P A B Y ρ w left (1 - g)) g S bare N (p + 1) v p else tu_f P A B Y ρ w (tu_v P A B Y ρ w left (1 - g)) g S bare N (p + 1) best step := by
            rw [hv]
            show (if ts_ok P A B Y ρ g p S = true then _ else _) = _
            rw [if_pos hok]
          have hat := tr_at_b (g := g) hm hva.1
          have he : 0 ≤ tr_wo w (tr_at g (tr_go A B g p S)) bare ∧ tr_wo w (tr_at g (tr_go A B g p S)) bare ≤ 99 := tr_wo_b (hcf.2.2 _ hat.1 hat.2)
          have hvT := hTb _ (tu_b bare (tr_at g (tr_go A B g p S))) hva
          rw [← hv] at n2
          obtain ⟨s1, s2, s3⟩ := n2
          -- what the class holds next
          obtain ⟨b1', st1, hst⟩ : ∃ b1' st1 : Int, (b1', st1) = if r ≤ b then (b, st) else (r, p) := ⟨_, _, rfl⟩
          obtain ⟨B1, St1, hBt⟩ : ∃ B1 St1 : Int, (B1, St1) = if best < v then (v, p) else (best, step) := ⟨_, _, rfl⟩
          have ef2 : tu_f P A B Y ρ w (tu_v P A B Y ρ w left (1 - g)) g S bare (N + 1) p best step = tu_f P A B Y ρ w (tu_v P A B Y ρ w left (1 - g)) g S bare N (p + 1) B1 St1 := by
            rw [ef]
            by_cases c : best < v
            · rw [if_pos c] at hBt ⊢
              cases hBt; rfl
            · rw [if_neg c] at hBt ⊢
              cases hBt; rfl
          have hinv : (B1 ≤ low → b1' ≤ low) ∧ (low < B1 → B1 < high → b1' = B1 ∧ st1 = St1) ∧ (high ≤ B1 → high ≤ b1') ∧ (-(99 * ((left : Int) + 1)) ≤ b1' ∧ b1' ≤ 99 * ((left : Int) + 1)) ∧ (-(99 * ((left : Int) + 1)) ≤ B1 ∧ B1 ≤ 99 * ((left : Int) + 1)) := by
            by_cases c : best < v
            · rw [if_pos c] at hBt
              by_cases c2 : r ≤ b
              · rw [if_pos c2] at hst
                cases hBt; cases hst
                omega
              · rw [if_neg c2] at hst
                cases hBt; cases hst
                omega
            · rw [if_neg c] at hBt
              by_cases c2 : r ≤ b
              · rw [if_pos c2] at hst
                cases hBt; cases hst
                omega
              · rw [if_neg c2] at hst
                cases hBt; cases hst
                omega
          obtain ⟨y1, y2, y3, ⟨y4, y5⟩, y6, y7⟩ := hinv
          obtain ⟨b', st', x', q1, q2⟩ := ih (p + 1) b1' st1 B1 St1 x3 F (by omega) (by omega) (by omega) y1 y2 y3 y4 y5 y6 y7 (tc_cf_32 hx f3) b2 hb3
          rw [ef2]
          obtain ⟨z1, z2, z3, z4, z5, z6, z7, z8⟩ := q2
          refine ⟨b', st', x', ?_, z1, z2, z3, z4, z5, z6, z7, fun c c1 c2 c3 c4 => by rw [z8 c c1 c2 c3 c4, f3 c c1 c2 c3 c4]⟩
          rw [tg_fx_s]
          generalize tg_fx (f_X6_gainB_B49 G g ((left : Int) + 1) low high j158) (fun _ _ _ _ => none) F = GG at q1 ⊢
          unfold f_X6_gainB_B49
          simp only [tg_lt]
          rw [hx.1.1, if_neg (by omega), if_neg hcut, c_canGoT hm hx.1 hr hg ht, tg_bd_some]
          refine tg_jn_d (fun J152 hJ152 => ?_)
          rw [if_pos (by decide), a1, tg_bd_some]
          refine tg_jn_d (fun J142 hJ142 => ?_)
          have e142 : ∀ bb ss, J142 bb ss x2 = GG bb ss (p + 1) x3 := by
            intro bb ss
            rw [hJ142]
            dsimp only
            rw [b1, tg_bd_some, hJ152]
            dsimp only
            rw [tg_wi_e (by omega)]
          rw [hx1.2.1, a2.2.2.2.1, if_neg (by omega), ← hloE, n1, tg_bd_some, e142, e142, ← q1]
          by_cases c2 : r ≤ b
          · rw [if_pos c2] at hst ⊢
            cases hst; rfl
          · rw [if_neg c2] at hst ⊢
            cases hst; rfl
        · have hok : ¬ ts_ok P A B Y ρ g p S = true := fun z => hlen (ts_ok_e.mp z).2
          have ef : tu_f P A B Y ρ w (tu_v P A B Y ρ w left (1 - g)) g S bare (N + 1) p best step = tu_f P A B Y ρ w (tu_v P A B Y ρ w left (1 - g)) g S bare N (p + 1) best step := by
            show (if ts_ok P A B Y ρ g p S = true then _ else _) = _
            rw [if_neg hok]
          obtain ⟨x3, b1, b2, b3⟩ := back x1 hx1.1 a2
          have f3 : ∀ c, c ≠ 32 → c ≠ 33 → c ≠ 34 → c ≠ 35 → x3 c = x c := fun c c1 c2 c3 c4 => by rw [b3 c c2 c3 c4, a3 c c2 c3 c4]
          have hb3 : x3 32 2 = bare := by rw [b3 32 (by decide) (by decide) (by decide)]; exact hb1
          obtain ⟨b', st', x', q1, q2⟩ := ih (p + 1) b st best step x3 F (by omega) (by omega) (by omega) i1 i2 i3 i4 i5 i6 i7 (tc_cf_32 hx f3) b2 hb3
          rw [ef]
          obtain ⟨z1, z2, z3, z4, z5, z6, z7, z8⟩ := q2
          refine ⟨b', st', x', ?_, z1, z2, z3, z4, z5, z6, z7, fun c c1 c2 c3 c4 => by rw [z8 c c1 c2 c3 c4, f3 c c1 c2 c3 c4]⟩
          rw [tg_fx_s]
          generalize tg_fx (f_X6_gainB_B49 G g ((left : Int) + 1) low high j158) (fun _ _ _ _ => none) F = GG at q1 ⊢
          unfold f_X6_gainB_B49
          simp only [tg_lt]
          rw [hx.1.1, if_neg (by omega), if_neg hcut, c_canGoT hm hx.1 hr hg ht, tg_bd_some]
          simp only [tg_jn]
          rw [if_pos (by decide), a1, tg_bd_some, hx1.2.1, a2.2.2.2.1, if_pos (by omega), b1, tg_bd_some, tg_wi_e (by omega)]
          exact q1
      · have hok : ¬ ts_ok P A B Y ρ g p S = true := fun z => ht (ts_ok_e.mp z).1
        have ef : tu_f P A B Y ρ w (tu_v P A B Y ρ w left (1 - g)) g S bare (N + 1) p best step = tu_f P A B Y ρ w (tu_v P A B Y ρ w left (1 - g)) g S bare N (p + 1) best step := by
          show (if ts_ok P A B Y ρ g p S = true then _ else _) = _
          rw [if_neg hok]
        obtain ⟨b', st', x', q1, q2⟩ := ih (p + 1) b st best step x F (by omega) (by omega) (by omega) i1 i2 i3 i4 i5 i6 i7 hx hr hb
        rw [ef]
        obtain ⟨z1, z2, z3, z4, z5, z6, z7, z8⟩ := q2
        refine ⟨b', st', x', ?_, z1, z2, z3, z4, z5, z6, z7, z8⟩
        rw [tg_fx_s]
        generalize tg_fx (f_X6_gainB_B49 G g ((left : Int) + 1) low high j158) (fun _ _ _ _ => none) F = GG at q1 ⊢
        unfold f_X6_gainB_B49
        simp only [tg_lt]
        rw [hx.1.1, if_neg (by omega), if_neg hcut, c_canGoF hm hx.1 hr hg ht, tg_bd_some]
        simp only [tg_jn]
        rw [if_neg (by decide), tg_wi_e (by omega)]
        exact q1
end GAIN
