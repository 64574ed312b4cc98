-- the class looks one step further from a way
def ts_goal (f s : Int) (X : tr_S) : Prop := X.1 = f ∧ X.2.1 = s
def ts_va (P : Int) (A B Y : Int → Int) (ρ : Int) (S : tr_S) : Prop := tr_I P A B S ∧ tr_len Y S.2.2 ≤ ρ
theorem ts_nt_m {L : List tr_S} {S T : tr_S} (h : T ∈ ts_nt L S) : T ∈ L ∨ T = S := by
  unfold ts_nt ts_nu at h
  by_cases c : 1000 < L.length
  · rw [if_pos c] at h; exact Or.inl h
  · rw [if_neg c] at h
    by_cases c2 : S ∈ L
    · rw [if_pos c2] at h; exact Or.inl h
    · rw [if_neg c2] at h
      rcases List.mem_append.mp h with z | z
      · exact Or.inl z
      · exact Or.inr (List.mem_singleton.mp z)
section LEADS
variable {P : Int} {A B Y : Int → Int} {ρ : Int}
theorem ts_va_l {S : tr_S} (hm : tr_md P A B Y) (hρ : ρ ≤ 18) (h : ts_va P A B Y ρ S) : S.2.2.length ≤ 18 := by
  have := (tr_I_b hm h.1).2.2.1
  have := h.2
  omega
theorem ts_ok_va {S : tr_S} {g p : Int} (hm : tr_md P A B Y) (hg : g = 0 ∨ g = 1) (h : ts_va P A B Y ρ S) (hk : ts_ok P A B Y ρ g p S = true) : ts_va P A B Y ρ (tr_go A B g p S) :=
  ⟨tr_go_I hm hg h.1 (ts_ok_e.mp hk).1, (ts_ok_e.mp hk).2⟩
theorem c_leadl {f s : Int} {S : tr_S} (hm : tr_md P A B Y) (hρ : 1 ≤ ρ ∧ ρ ≤ 18) (hS : ts_va P A B Y ρ S) : ∀ (N i : Nat) (x : tg_Mem) (L : List tr_S) (F : Nat), N < F → i + N = 2 * P.toNat → tc_md x P A B Y → x 1 7 = ρ → tc_rp Y 27 x S → tw_x x L → (∀ T ∈ L, ts_va P A B Y ρ T) →
    ∃ x', (∀ c, c ≠ 26 → c ≠ 27 → c ≠ 28 → c ≠ 29 → c ≠ 30 → c ≠ 31 → x' c = x c) ∧
      (((∃ X ∈ ts_cand P A B Y ρ ts_cx S N i, ts_goal f s X) ∧ tg_fx (f_X3_leadsTo_B11 f s) (fun _ _ => none) F (i : Int) x = some (1, x')) ∨
       ((¬ ∃ X ∈ ts_cand P A B Y ρ ts_cx S N i, ts_goal f s X) ∧ tg_fx (f_X3_leadsTo_B11 f s) (fun _ _ => none) F (i : Int) x = some (0, x') ∧ tw_x x' ((ts_cand P A B Y ρ ts_cx S N i).foldl ts_nt L))) := by
  have hP0 := hm.1
  have hP8 := hm.2.1
  have hlS := ts_va_l hm hρ.2 hS
  have hlbS := tr_I_b hm hS.1
  intro N
  induction N with
  | zero =>
    intro i x L F hF hi hx h17 hr hw hall
    obtain ⟨F, rfl⟩ : ∃ n', F = n' + 1 := ⟨F - 1, by omega⟩
    refine ⟨x, fun _ _ _ _ _ _ _ => rfl, Or.inr ⟨fun z => ?_, ?_, hw⟩⟩
    · obtain ⟨X, h, -⟩ := z
      cases h
    rw [tg_fx_s]
    unfold f_X3_leadsTo_B11
    rw [hx.1, tg_wi_e (by omega), if_pos (by omega)]
  | succ N ih =>
    intro i x L F hF hi hx h17 hr hw hall
    obtain ⟨F, rfl⟩ : ∃ n', F = n' + 1 := ⟨F - 1, by omega⟩
    have eg : tg_iand (i : Int) 1 = ((i % 2 : Nat) : Int) := by rw [tg_iand1 (by omega)]; omega
    have ep : tg_ishr (i : Int) 1 = ((i / 2 : Nat) : Int) := by rw [tg_ishr1 (by omega)]; omega
    obtain ⟨g, hg⟩ : ∃ g : Int, g = ((i % 2 : Nat) : Int) := ⟨_, rfl⟩
    obtain ⟨p, hp⟩ : ∃ p : Int, p = ((i / 2 : Nat) : Int) := ⟨_, rfl⟩
    have hg01 : g = 0 ∨ g = 1 := by omega
    have ec : ts_cx i = (g, p) := by unfold ts_cx; rw [hg, hp]
    have ecand : ts_cand P A B Y ρ ts_cx S (N + 1) i = if ts_ok P A B Y ρ g p S = true then tr_go A B g p S :: ts_cand P A B Y ρ ts_cx S N (i + 1) else ts_cand P A B Y ρ ts_cx S N (i + 1) := by
      show (if ts_ok P A B Y ρ (ts_cx i).1 (ts_cx i).2 S = true then tr_go A B (ts_cx i).1 (ts_cx i).2 S :: _ else _) = _
      rw [ec]
    have hbody : ∀ G : Int → tg_Mem → tg_R, f_X3_leadsTo_B11 f s G (i : Int) x = tg_bd (f_X1_canGo 27 g p x) (fun r45 m45 => tg_jn (fun (m_119 : tg_Mem) => tg_lt (tg_wi ((i : Int) + 1)) (fun v5_119 => G v5_119 m_119)) (fun j119 => if r45 ≠ 0 then tg_bd (f_X1_go 27 g p m45) (fun _ m62 => tg_jn (fun (m_108 : tg_Mem) => tg_bd (f_X1_go 27 g p m_108) (fun _ m116 => j119 m116)) (fun j108 => if m62 1 7 < m62 27 5 then j108 m62 else tg_bd (f_X3_stand 27 f s m62) (fun r89 m89 => if r89 = 0 then tg_bd (f_X1_asKey 27 m89) (fun r102 m102 => tg_bd (f_X3_note r102 m102) (fun _ m105 => j108 m105)) else some (1, m89)))) else j119 m45)) := by
      intro G
      unfold f_X3_leadsTo_B11
      simp only [tg_lt]
      rw [hx.1, tg_wi_e (a := 2 * P) (by omega), if_neg (by omega), eg, ep, ← hg, ← hp]
    have e5 : tg_wi ((i : Int) + 1) = ((i + 1 : Nat) : Int) := by rw [tg_wi_e (by omega)]; omega
    by_cases ht : tr_tch P A B p (tr_at g S)
    · obtain ⟨x1, a1, a2, a3⟩ := c_go (k := 27) (by decide) hm hx hr hg01 ⟨ht.1, ht.2.1⟩ (by omega) (by omega)
      have hx1 : tc_md x1 P A B Y := tc_md_of hx (by rw [a3 1 (by decide) (by decide) (by decide)]) (a3 7 (by decide) (by decide) (by decide)) (a3 8 (by decide) (by decide) (by decide)) (a3 9 (by decide) (by decide) (by decide))
      have hI1 := tr_go_I hm hg01 hS.1 ht
      have hlb1 := tr_I_b hm hI1
      have hlen1 : (tr_go A B g p S).2.2.length ≤ S.2.2.length + 1 := tr_go_length
      have hw1 : tw_x x1 L := by
        unfold tw_x at hw ⊢
        rw [a3 26 (by decide) (by decide) (by decide), a3 30 (by decide) (by decide) (by decide), a3 31 (by decide) (by decide) (by decide)]; exact hw
      have hgg := tr_go_go hm hg01 hS.1 ht
      -- going back from a memory that has the goats as they are now
      have back : ∀ (y : tg_Mem), tc_md y P A B Y → tc_rp Y 27 y (tr_go A B g p S) → ∃ y', f_X1_go 27 g p y = some (0, y') ∧ tc_rp Y 27 y' S ∧ ∀ c, c ≠ 27 → c ≠ 28 → c ≠ 29 → y' c = y c := by
        intro y hy hry
        obtain ⟨y', b1, b2, b3⟩ := c_go (k := 27) (by decide) hm hy hry hg01 ⟨ht.1, ht.2.1⟩ (by omega) (by omega)
        rw [hgg] at b2
        exact ⟨y', b1, b2, b3⟩
      by_cases hlen : tr_len Y (tr_go A B g p S).2.2 ≤ ρ
      · have hok : ts_ok P A B Y ρ g p S = true := ts_ok_e.mpr ⟨ht, hlen⟩
        rw [if_pos hok] at ecand
        have hva := ts_ok_va hm hg01 hS hok
        by_cases hgoal : ts_goal f s (tr_go A B g p S)
        · refine ⟨x1, fun c c1 c2 c3 c4 c5 c6 => a3 c c2 c3 c4, Or.inl ⟨⟨_, by rw [ecand]; exact List.mem_cons_self, hgoal⟩, ?_⟩⟩
          rw [tg_fx_s, hbody, c_canGoT hm hx hr hg01 ht, tg_bd_some]
          simp only [tg_jn, f_X3_stand]
          rw [if_pos (by decide), a1, tg_bd_some, a3 1 (by decide) (by decide) (by decide), h17, a2.2.2.2.1, if_neg (by omega), tg_ck_pos (by decide), a2.1, hgoal.1, if_neg (fun z => z rfl), tg_ck_pos (by decide), a2.2.1, hgoal.2, if_neg (fun z => z rfl), tg_bd_some, if_neg (by decide)]
        · obtain ⟨x2, n1, n2, n3, n4⟩ := c_note hm hw1 hI1 (fun T hT => (hall T hT).1)
          have hr2 : tc_rp Y 27 x2 (tr_go A B g p S) := tc_rp_of a2 (n3 27 (by decide) (by decide) (by decide)) (n3 28 (by decide) (by decide) (by decide)) (n3 29 (by decide) (by decide) (by decide))
          have hx2 : tc_md x2 P A B Y := tc_md_of hx1 (by rw [n3 1 (by decide) (by decide) (by decide)]) (n3 7 (by decide) (by decide) (by decide)) (n3 8 (by decide) (by decide) (by decide)) (n3 9 (by decide) (by decide) (by decide))
          obtain ⟨x3, b1, b2, b3⟩ := back x2 hx2 hr2
          have hx3 : tc_md x3 P A B Y := tc_md_of hx2 (by rw [b3 1 (by decide) (by decide) (by decide)]) (b3 7 (by decide) (by decide) (by decide)) (b3 8 (by decide) (by decide) (by decide)) (b3 9 (by decide) (by decide) (by decide))
          have hw3 : tw_x x3 (ts_nt L (tr_go A B g p S)) := by
            unfold tw_x at n2 ⊢
            rw [b3 26 (by decide) (by decide) (by decide), b3 30 (by decide) (by decide) (by decide), b3 31 (by decide) (by decide) (by decide)]; exact n2
          have f3 : ∀ c, c ≠ 26 → c ≠ 27 → c ≠ 28 → c ≠ 29 → c ≠ 30 → c ≠ 31 → x3 c = x c := fun c c1 c2 c3 c4 c5 c6 => by rw [b3 c c2 c3 c4, n3 c c1 c5 c6, a3 c c2 c3 c4]
          obtain ⟨x', q1, q2⟩ := ih (i + 1) x3 (ts_nt L (tr_go A B g p S)) F (by omega) (by omega) hx3 (by rw [f3 1 (by decide) (by decide) (by decide) (by decide) (by decide) (by decide)]; exact h17) b2 hw3 (fun T hT => (ts_nt_m hT).elim (fun z => hall T z) (fun z => by rw [z]; exact hva))
          have hstep : tg_fx (f_X3_leadsTo_B11 f s) (fun _ _ => none) (F + 1) (i : Int) x = tg_fx (f_X3_leadsTo_B11 f s) (fun _ _ => none) F ((i + 1 : Nat) : Int) x3 := by
            rw [tg_fx_s, hbody, c_canGoT hm hx hr hg01 ht, tg_bd_some]
            have est : f_X3_stand 27 f s x1 = some (0, x1) := by
              simp only [f_X3_stand, tg_jn]
              rw [tg_ck_pos (by decide), a2.1]
              by_cases z1 : (tr_go A B g p S).1 = f
              · rw [if_neg (fun z => z z1), tg_ck_pos (by decide), a2.2.1, if_pos (fun z => hgoal ⟨z1, z⟩)]
              · rw [if_pos z1]
            simp only [tg_jn, tg_lt]
            rw [if_pos (by decide), a1, tg_bd_some, a3 1 (by decide) (by decide) (by decide), h17, a2.2.2.2.1, if_neg (by omega), est, tg_bd_some, if_pos rfl, c_key a2 (tr_I_m hm hI1) (ts_va_l hm hρ.2 hva) hlb1.2.1, tg_bd_some, n1, tg_bd_some, b1, tg_bd_some, e5]
          rw [hstep, ecand]
          refine ⟨x', fun c c1 c2 c3 c4 c5 c6 => by rw [q1 c c1 c2 c3 c4 c5 c6, f3 c c1 c2 c3 c4 c5 c6], ?_⟩
          rcases q2 with ⟨⟨X, z1, z2⟩, z3⟩ | ⟨z1, z2, z3⟩
          · exact Or.inl ⟨⟨X, List.mem_cons_of_mem _ z1, z2⟩, z3⟩
          · refine Or.inr ⟨fun ⟨X, y1, y2⟩ => ?_, z2, z3⟩
            rcases List.mem_cons.mp y1 with y | y
            · rw [y] at y2; exact hgoal y2
            · exact z1 ⟨X, y, y2⟩
      · have hok : ¬ ts_ok P A B Y ρ g p S = true := fun z => hlen (ts_ok_e.mp z).2
        rw [if_neg hok] at ecand
        obtain ⟨x3, b1, b2, b3⟩ := back x1 hx1 a2
        have f3 : ∀ c, c ≠ 27 → c ≠ 28 → c ≠ 29 → x3 c = x c := fun c c2 c3 c4 => by rw [b3 c c2 c3 c4, a3 c c2 c3 c4]
        have hw3 : tw_x x3 L := by
          unfold tw_x at hw ⊢
          rw [f3 26 (by decide) (by decide) (by decide), f3 30 (by decide) (by decide) (by decide), f3 31 (by decide) (by decide) (by decide)]; exact hw
        obtain ⟨x', q1, q2⟩ := ih (i + 1) x3 L F (by omega) (by omega) (tc_md_of hx (by rw [f3 1 (by decide) (by decide) (by decide)]) (f3 7 (by decide) (by decide) (by decide)) (f3 8 (by decide) (by decide) (by decide)) (f3 9 (by decide) (by decide) (by decide))) (by rw [f3 1 (by decide) (by decide) (by decide)]; exact h17) b2 hw3 hall
        have hstep : tg_fx (f_X3_leadsTo_B11 f s) (fun _ _ => none) (F + 1) (i : Int) x = tg_fx (f_X3_leadsTo_B11 f s) (fun _ _ => none) F ((i + 1 : Nat) : Int) x3 := by
          rw [tg_fx_s, hbody, c_canGoT hm hx hr hg01 ht, tg_bd_some]
          simp only [tg_jn, tg_lt]
          rw [if_pos (by decide), a1, tg_bd_some, a3 1 (by decide) (by decide) (by decide), h17, a2.2.2.2.1, if_pos (by omega), b1, tg_bd_some, e5]
        rw [hstep, ecand]
        exact ⟨x', fun c c1 c2 c3 c4 c5 c6 => by rw [q1 c c1 c2 c3 c4 c5 c6, f3 c c2 c3 c4], q2⟩
    · have hok : ¬ ts_ok P A B Y ρ g p S = true := fun z => ht (ts_ok_e.mp z).1
      rw [if_neg hok] at ecand
      obtain ⟨x', q1, q2⟩ := ih (i + 1) x L F (by omega) (by omega) hx h17 hr hw hall
      have hstep : tg_fx (f_X3_leadsTo_B11 f s) (fun _ _ => none) (F + 1) (i : Int) x = tg_fx (f_X3_leadsTo_B11 f s) (fun _ _ => none) F ((i + 1 : Nat) : Int) x := by
        rw [tg_fx_s, hbody, c_canGoF hm hx hr hg01 ht, tg_bd_some]
        simp only [tg_jn, tg_lt]
        rw [if_neg (by decide), e5]
      rw [hstep, ecand]
      exact ⟨x', q1, q2⟩
end LEADS
