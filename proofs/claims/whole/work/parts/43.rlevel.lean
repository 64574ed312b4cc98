-- the reference looks one step further from a way, and from a row of ways
section RLEVEL
variable {P : Int} {A B Y : Int → Int} {ρ : Int}
theorem ts_cand_m_va {S T : tr_S} (hm : tr_md P A B Y) (hS : ts_va P A B Y ρ S) (h : T ∈ ts_cand P A B Y ρ ts_cm S 16 0) : ts_va P A B Y ρ T := by
  obtain ⟨g, p, h1, h2, h3⟩ := (ts_cand_r hm).mp h
  rw [h3]; exact ts_ok_va hm h1 hS h2
theorem r_leadl {f s : Int} {S : tr_S} {j231 : Int → tg_Mem → tg_R} (hm : tr_md P A B Y) (hρ : 1 ≤ ρ ∧ ρ ≤ 18) (hS : ts_va P A B Y ρ S) : ∀ (N i : Nat) (v : Int) (m : tg_Mem) (M : List tr_S) (F : Nat), N < F → i + N = 16 → (v = 0 ∨ v = 1) → tm_md m P A B Y → m 9 2 = ρ → tm_w m M → (∀ T ∈ M, ts_va P A B Y ρ T) →
    ∃ v' m', tg_fx (f_X8_soonOf_B91 f s (tk_key S) j231) (fun _ _ _ => none) F v (i : Int) m = j231 v' m' ∧ (v' = 0 ∨ v' = 1) ∧ (v' = 1 ↔ v = 1 ∨ ∃ X ∈ ts_cand P A B Y ρ ts_cm S N i, ts_goal f s X) ∧ tm_w m' ((ts_cand P A B Y ρ ts_cm S N i).foldl ts_nt M) ∧
      (∀ c, c ≠ 0 → c ≠ 11 → c ≠ 12 → c ≠ 15 → m' c = m c) ∧ ∀ j, j ≠ 15 → j ≠ 16 → j ≠ 21 → m' 0 j = m 0 j := by
  have hP0 := hm.1
  have hP8 := hm.2.1
  have hlS := ts_va_l hm hρ.2 hS
  have hlbS := tr_I_b hm hS.1
  intro N
  induction N with
  | zero =>
    intro i v m M F hF hi hv hx h9 hw hall
    obtain ⟨F, rfl⟩ : ∃ n', F = n' + 1 := ⟨F - 1, by omega⟩
    refine ⟨v, m, ?_, hv, ⟨Or.inl, fun z => z.elim id (fun ⟨X, h, _⟩ => by cases h)⟩, hw, fun _ _ _ _ _ => rfl, fun _ _ _ _ => rfl⟩
    rw [tg_fx_s]
    unfold f_X8_soonOf_B91
    rw [if_pos (by omega)]
  | succ N ih =>
    intro i v m M F hF hi hv hx h9 hw hall
    obtain ⟨F, rfl⟩ : ∃ n', F = n' + 1 := ⟨F - 1, by omega⟩
    have eg : tg_idiv (i : Int) 8 = ((i / 8 : Nat) : Int) := by rw [tg_idiv_pos (by omega) (by decide)]; omega
    have ep : tg_irem (i : Int) 8 = ((i % 8 : Nat) : Int) := by rw [tg_irem_pos (by omega) (by decide)]; omega
    obtain ⟨g, hg⟩ : ∃ g : Int, g = ((i / 8 : Nat) : Int) := ⟨_, rfl⟩
    obtain ⟨p, hp⟩ : ∃ p : Int, p = ((i % 8 : Nat) : Int) := ⟨_, rfl⟩
    have hg01 : g = 0 ∨ g = 1 := by omega
    have ec : ts_cm i = (g, p) := by unfold ts_cm; rw [hg, hp]
    have ecand : ts_cand P A B Y ρ ts_cm S (N + 1) i = if ts_ok P A B Y ρ g p S = true then tr_go A B g p S :: ts_cand P A B Y ρ ts_cm S N (i + 1) else ts_cand P A B Y ρ ts_cm S N (i + 1) := by
      show (if ts_ok P A B Y ρ (ts_cm i).1 (ts_cm i).2 S = true then tr_go A B (ts_cm i).1 (ts_cm i).2 S :: _ else _) = _
      rw [ec]
    obtain ⟨m1, a1, a2, a3, a4⟩ := r_comes (m := m) hm hS.1 hlS hx
    have hx1 : tm_md m1 P A B Y := tm_md_of hx (a4 8 (by decide) (by decide)) (a3 7 (by decide) (by decide) (by decide))
    have h91 : m1 9 2 = ρ := by rw [a3 9 (by decide) (by decide) (by decide)]; exact h9
    have hw1 : tm_w m1 M := by
      unfold tm_w at hw ⊢
      rw [a4 21 (by decide) (by decide), a3 15 (by decide) (by decide) (by decide)]; exact hw
    have e5 : tg_wi ((i : Int) + 1) = ((i + 1 : Nat) : Int) := by rw [tg_wi_e (by omega)]; omega
    have e11 : m1 11 g.toNat = tr_at g S := by
      unfold tr_at
      rcases hg01 with h | h
      · rw [h]; exact a2.1
      · rw [h]; exact a2.2.1
    by_cases hok : ts_ok P A B Y ρ g p S = true
    · -- a way that the rope bears
      rw [if_pos hok] at ecand
      obtain ⟨ht, hlen⟩ := ts_ok_e.mp hok
      have hva := ts_ok_va hm hg01 hS hok
      obtain ⟨m2, b1, b2, b3, b4⟩ := r_goes hm hx1 a2 hg01 ht (tr_at_b hm hS.1) (by omega) (by omega)
      have hx2 : tm_md m2 P A B Y := tm_md_of hx1 (b4 8 (by decide) (by decide)) (b3 7 (by decide) (by decide) (by decide))
      have hw2 : tm_w m2 M := by
        unfold tm_w at hw1 ⊢
        rw [b4 21 (by decide) (by decide), b3 15 (by decide) (by decide) (by decide)]; exact hw1
      have c1 := r_way hm b2 hva.1 (ts_va_l hm hρ.2 hva)
      obtain ⟨m3, d1, d2, d3, d4⟩ := r_keeps hm hρ.2 hw2 hva hall
      have hx3 : tm_md m3 P A B Y := tm_md_of hx2 (d4 8 (by decide)) (d3 7 (by decide) (by decide))
      obtain ⟨v1, hv1⟩ : ∃ v1 : Int, v1 = if v ≠ 0 then 1 else if m2 11 0 ≠ f then 0 else if m2 11 1 ≠ s then 0 else 1 := ⟨_, rfl⟩
      have hv1b : (v1 = 0 ∨ v1 = 1) ∧ (v1 = 1 ↔ v = 1 ∨ ts_goal f s (tr_go A B g p S)) := by
        have q1 := b2.1
        have q2 := b2.2.1
        unfold ts_goal
        rw [hv1, q1, q2]
        rcases hv with h | h
        · rw [if_neg (fun z => z h)]
          by_cases z1 : (tr_go A B g p S).1 = f
          · rw [if_neg (fun z => z z1)]
            by_cases z2 : (tr_go A B g p S).2.1 = s
            · rw [if_neg (fun z => z z2)]
              exact ⟨Or.inr rfl, fun _ => Or.inr ⟨z1, z2⟩, fun _ => rfl⟩
            · rw [if_pos z2]
              exact ⟨Or.inl rfl, fun z => by omega, fun z => z.elim (fun y => by omega) (fun y => absurd y.2 z2)⟩
          · rw [if_pos z1]
            exact ⟨Or.inl rfl, fun z => by omega, fun z => z.elim (fun y => by omega) (fun y => absurd y.1 z1)⟩
        · rw [if_pos (by omega)]
          exact ⟨Or.inr rfl, fun _ => Or.inl h, fun _ => rfl⟩
      have f3 : ∀ c, c ≠ 0 → c ≠ 11 → c ≠ 12 → c ≠ 15 → m3 c = m c := fun c c0 c1 c2 c5 => by rw [d3 c c0 c5, b3 c c0 c1 c2, a3 c c0 c1 c2]
      have f30 : ∀ j, j ≠ 15 → j ≠ 16 → j ≠ 21 → m3 0 j = m 0 j := fun j j1 j2 j3 => by rw [d4 j j3, b4 j j1 j2, a4 j j1 j2]
      obtain ⟨v', m', q1, q2, q3, q4, q5, q6⟩ := ih (i + 1) v1 m3 (ts_nt M (tr_go A B g p S)) F (by omega) (by omega) hv1b.1 hx3 (by rw [f3 9 (by decide) (by decide) (by decide) (by decide)]; exact h9) d2 (fun T hT => (ts_nt_m hT).elim (fun z => hall T z) (fun z => by rw [z]; exact hva))
      rw [ecand]
      refine ⟨v', m', ?_, q2, ?_, q4, fun c c0 c1 c2 c5 => by rw [q5 c c0 c1 c2 c5, f3 c c0 c1 c2 c5], fun j j1 j2 j3 => by rw [q6 j j1 j2 j3, f30 j j1 j2 j3]⟩
      · rw [tg_fx_s]
        generalize tg_fx (f_X8_soonOf_B91 f s (tk_key S) j231) (fun _ _ _ => none) F = G at q1 ⊢
        unfold f_X8_soonOf_B91
        rw [if_neg (by omega), a1, tg_bd_some]
        simp only [tg_lt]
        rw [eg, ep, ← hg, ← hp]
        refine tg_jn_d (fun J167 hJ167 => ?_)
        refine tg_jn_d (fun J166 hJ166 => ?_)
        rw [hx1.1, if_neg (by have := ht.2.1; omega), tg_ck_pos (by omega), e11, r_touchT hm hx1 ht, tg_bd_some, if_neg (by decide), r_lenB hm hx1 a2 hg01 ⟨ht.1, ht.2.1⟩ (by omega), tg_bd_some, tg_ck_pos (by decide), h91, if_neg (by omega), hJ167]
        dsimp only
        refine tg_jn_d (fun J225 hJ225 => ?_)
        rw [if_neg (by decide), b1, tg_bd_some]
        refine tg_jn_d (fun J215 hJ215 => ?_)
        have e215 : J215 v1 = j231 v' m' := by
          rw [hJ215]
          dsimp only
          rw [c1, tg_bd_some, d1, tg_bd_some, hJ225]
          dsimp only
          rw [e5]
          exact q1
        refine tg_jn_d (fun J210 hJ210 => ?_)
        rw [← e215, hv1, hJ210]
        by_cases y1 : v ≠ 0
        · rw [if_pos y1, if_pos y1]
        · rw [if_neg y1, if_neg y1, tg_ck_pos (by decide)]
          refine tg_jn_d (fun J214 hJ214 => ?_)
          rw [hJ214]
          by_cases y2 : m2 11 0 ≠ f
          · rw [if_pos y2, if_pos y2]
          · rw [if_neg y2, if_neg y2, tg_ck_pos (by decide)]
            by_cases y3 : m2 11 1 ≠ s
            · rw [if_pos y3, if_pos y3]
            · rw [if_neg y3, if_neg y3]
      · rw [q3, hv1b.2]
        constructor
        · rintro ((z | z) | ⟨X, z1, z2⟩)
          · exact Or.inl z
          · exact Or.inr ⟨_, List.mem_cons_self, z⟩
          · exact Or.inr ⟨X, List.mem_cons_of_mem _ z1, z2⟩
        · rintro (z | ⟨X, z1, z2⟩)
          · exact Or.inl (Or.inl z)
          · rcases List.mem_cons.mp z1 with y | y
            · rw [y] at z2; exact Or.inl (Or.inr z2)
            · exact Or.inr ⟨X, y, z2⟩
    · -- no such way
      rw [if_neg hok] at ecand
      have f1 : ∀ c, c ≠ 0 → c ≠ 11 → c ≠ 12 → c ≠ 15 → m1 c = m c := fun c c0 c1 c2 c5 => a3 c c0 c1 c2
      obtain ⟨v', m', q1, q2, q3, q4, q5, q6⟩ := ih (i + 1) v m1 M F (by omega) (by omega) hv hx1 h91 hw1 hall
      rw [ecand]
      refine ⟨v', m', ?_, q2, q3, q4, fun c c0 c1 c2 c5 => by rw [q5 c c0 c1 c2 c5, f1 c c0 c1 c2 c5], fun j j1 j2 j3 => by rw [q6 j j1 j2 j3, a4 j j1 j2]⟩
      rw [tg_fx_s]
      generalize tg_fx (f_X8_soonOf_B91 f s (tk_key S) j231) (fun _ _ _ => none) F = G at q1 ⊢
      unfold f_X8_soonOf_B91
      rw [if_neg (by omega), a1, tg_bd_some]
      simp only [tg_lt]
      rw [eg, ep, ← hg, ← hp]
      refine tg_jn_d (fun J167 hJ167 => ?_)
      have e167 : J167 0 m1 = j231 v' m' := by
        rw [hJ167]
        dsimp only
        refine tg_jn_d (fun J225 hJ225 => ?_)
        rw [if_pos rfl, hJ225]
        dsimp only
        rw [e5]
        exact q1
      refine tg_jn_d (fun J166 hJ166 => ?_)
      rw [hx1.1]
      by_cases y1 : P ≤ p
      · rw [if_pos y1, hJ166]; exact e167
      · rw [if_neg y1, tg_ck_pos (by omega), e11]
        by_cases ht : tr_tch P A B p (tr_at g S)
        · have hlen : ¬ tr_len Y (tr_go A B g p S).2.2 ≤ ρ := fun z => hok (ts_ok_e.mpr ⟨ht, z⟩)
          rw [r_touchT hm hx1 ht, tg_bd_some, if_neg (by decide), r_lenB hm hx1 a2 hg01 ⟨ht.1, ht.2.1⟩ (by omega), tg_bd_some, tg_ck_pos (by decide), h91, if_pos (by omega), hJ166]
          exact e167
        · rw [r_touchF hm hx1 (by omega) ht, tg_bd_some, if_pos rfl, hJ166]
          exact e167
theorem r_levell {f s : Int} {M0 : List tr_S} {j237 : Int → tg_Mem → tg_R} (hm : tr_md P A B Y) (hρ : 1 ≤ ρ ∧ ρ ≤ 18) (hM0 : M0.length ≤ 1000) : ∀ (N i : Nat) (v : Int) (m : tg_Mem) (t : List tr_S) (F : Nat), N < F → i + N = M0.length → (v = 0 ∨ v = 1) → tm_md m P A B Y → m 9 2 = ρ → tm_w m (M0 ++ t) → (∀ T ∈ M0 ++ t, ts_va P A B Y ρ T) →
    ∃ v' m', tg_fx (f_X8_soonOf_B72 f s (M0.length : Int) j237) (fun _ _ _ => none) F v (i : Int) m = j237 v' m' ∧ (v' = 0 ∨ v' = 1) ∧ (v' = 1 ↔ v = 1 ∨ ∃ X ∈ ts_cands P A B Y ρ ts_cm 16 (M0.drop i), ts_goal f s X) ∧ tm_w m' ((ts_cands P A B Y ρ ts_cm 16 (M0.drop i)).foldl ts_nt (M0 ++ t)) ∧
      (∀ c, c ≠ 0 → c ≠ 11 → c ≠ 12 → c ≠ 15 → m' c = m c) ∧ ∀ j, j ≠ 15 → j ≠ 16 → j ≠ 21 → m' 0 j = m 0 j := by
  intro N
  induction N with
  | zero =>
    intro i v m t F hF hi hv hx h9 hw hall
    obtain ⟨F, rfl⟩ : ∃ n', F = n' + 1 := ⟨F - 1, by omega⟩
    have e1 : M0.drop i = [] := List.drop_eq_nil_of_le (by omega)
    rw [e1]
    refine ⟨v, m, ?_, hv, ⟨Or.inl, fun z => z.elim id (fun ⟨X, h, _⟩ => by cases h)⟩, hw, fun _ _ _ _ _ => rfl, fun _ _ _ _ => rfl⟩
    rw [tg_fx_s]
    unfold f_X8_soonOf_B72
    rw [if_pos (by omega)]
  | succ N ih =>
    intro i v m t F hF hi hv hx h9 hw hall
    obtain ⟨F, rfl⟩ : ∃ n', F = n' + 1 := ⟨F - 1, by omega⟩
    obtain ⟨S, hS⟩ : ∃ S, M0[i]? = some S := ⟨_, List.getElem?_eq_getElem (by omega)⟩
    have hSa : (M0 ++ t)[i]? = some S := by rw [List.getElem?_append_left (by omega)]; exact hS
    have hSv := hall S (List.mem_of_getElem? hSa)
    have hkey := hw.2.2 i S hSa
    have edrop : M0.drop i = S :: M0.drop (i + 1) := by
      obtain ⟨z1, z2⟩ := List.getElem?_eq_some_iff.mp hS
      rw [List.drop_eq_getElem_cons z1, z2]
    have ecs : ts_cands P A B Y ρ ts_cm 16 (M0.drop i) = ts_cand P A B Y ρ ts_cm S 16 0 ++ ts_cands P A B Y ρ ts_cm 16 (M0.drop (i + 1)) := by
      rw [edrop]; rfl
    rw [ecs, tg_fx_s]
    generalize hG : tg_fx (f_X8_soonOf_B72 f s (M0.length : Int) j237) (fun _ _ _ => none) F = G at ⊢
    unfold f_X8_soonOf_B72
    simp only [tg_lt]
    rw [if_neg (by omega), tg_ck_pos (by omega), Int.toNat_natCast, hkey]
    obtain ⟨J231, hJ231⟩ : ∃ J : Int → tg_Mem → tg_R, J = fun (v7_231 : Int) (m_231 : tg_Mem) => G v7_231 (tg_wi ((i : Int) + 1)) m_231 := ⟨_, rfl⟩
    simp only [tg_jn]
    rw [← hJ231]
    obtain ⟨v1, m1, g1, g2, g3, g4, g5, g6⟩ := r_leadl (f := f) (s := s) (j231 := J231) hm hρ hSv 16 0 v m (M0 ++ t) tg_FU (by have := tg_FUg; omega) (by omega) hv hx h9 hw hall
    obtain ⟨u, hu⟩ := ts_nt_fold_p (ts_cand P A B Y ρ ts_cm S 16 0) (M0 ++ t)
    have hmem : ∀ T ∈ M0 ++ (t ++ u), ts_va P A B Y ρ T := by
      intro T hT
      rw [← List.append_assoc, ← hu] at hT
      rcases ts_nt_fold_m _ _ hT with y | y
      · exact hall T y
      · exact ts_cand_m_va hm hSv y
    rw [hu, List.append_assoc] at g4
    obtain ⟨v', m', q1, q2, q3, q4, q5, q6⟩ := ih (i + 1) v1 m1 (t ++ u) F (by omega) (by omega) g2 (tm_md_of hx (g6 8 (by decide) (by decide) (by decide)) (g5 7 (by decide) (by decide) (by decide) (by decide))) (by rw [g5 9 (by decide) (by decide) (by decide) (by decide)]; exact h9) g4 hmem
    refine ⟨v', m', ?_, q2, ?_, ?_, fun c c0 c1 c2 c5 => by rw [q5 c c0 c1 c2 c5, g5 c c0 c1 c2 c5], fun j j1 j2 j3 => by rw [q6 j j1 j2 j3, g6 j j1 j2 j3]⟩
    · refine Eq.trans g1 ?_
      rw [hJ231]
      dsimp only
      rw [tg_wi_e (by omega), show (i : Int) + 1 = ((i + 1 : Nat) : Int) by omega, ← hG]
      exact q1
    · rw [q3, g3]
      constructor
      · rintro ((z | ⟨X, z1, z2⟩) | ⟨X, z1, z2⟩)
        · exact Or.inl z
        · exact Or.inr ⟨X, List.mem_append_left _ z1, z2⟩
        · exact Or.inr ⟨X, List.mem_append_right _ z1, z2⟩
      · rintro (z | ⟨X, z1, z2⟩)
        · exact Or.inl (Or.inl z)
        · rcases List.mem_append.mp z1 with y | y
          · exact Or.inl (Or.inr ⟨X, y, z2⟩)
          · exact Or.inr ⟨X, y, z2⟩
    · rw [List.foldl_append, hu, List.append_assoc]; exact q4
end RLEVEL
