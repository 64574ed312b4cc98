-- the class looks one step further from a row of ways
section LEVEL
variable {P : Int} {A B Y : Int → Int} {ρ : Int}
theorem c_lead {f s : Int} {S : tr_S} {x : tg_Mem} {L : List tr_S} (hm : tr_md P A B Y) (hρ : 1 ≤ ρ ∧ ρ ≤ 18) (hS : ts_va P A B Y ρ S) (hx : tc_md x P A B Y) (h17 : x 1 7 = ρ) (hw : tw_x x L) (hall : ∀ T ∈ L, ts_va P A B Y ρ T) :
    ∃ x', (∀ c, c ≠ 26 → c ≠ 27 → c ≠ 28 → c ≠ 29 → c ≠ 30 → c ≠ 31 → x' c = x c) ∧
      (((∃ X ∈ ts_cand P A B Y ρ ts_cx S (2 * P.toNat) 0, ts_goal f s X) ∧ f_X3_leadsTo (kc_key S) f s x = some (1, x')) ∨
       ((¬ ∃ X ∈ ts_cand P A B Y ρ ts_cx S (2 * P.toNat) 0, ts_goal f s X) ∧ f_X3_leadsTo (kc_key S) f s x = some (0, x') ∧ tw_x x' ((ts_cand P A B Y ρ ts_cx S (2 * P.toNat) 0).foldl ts_nt L))) := by
  have hP8 := hm.2.1
  obtain ⟨x1, e1, e2, e3⟩ := c_becomeKey (k := 27) (by decide) hm hS.1 (ts_va_l hm hρ.2 hS) hx
  have hw1 : tw_x x1 L := by
    unfold tw_x at hw ⊢
    rw [e3 26 (by decide) (by decide) (by decide), e3 30 (by decide) (by decide) (by decide), e3 31 (by decide) (by decide) (by decide)]; exact hw
  obtain ⟨x', q1, q2⟩ := c_leadl (f := f) (s := s) hm hρ hS (2 * P.toNat) 0 x1 L tg_FU (by have := tg_FUg; omega) (by omega) (tc_md_of hx (by rw [e3 1 (by decide) (by decide) (by decide)]) (e3 7 (by decide) (by decide) (by decide)) (e3 8 (by decide) (by decide) (by decide)) (e3 9 (by decide) (by decide) (by decide))) (by rw [e3 1 (by decide) (by decide) (by decide)]; exact h17) e2 hw1 hall
  have e4 : f_X3_leadsTo (kc_key S) f s x = tg_fx (f_X3_leadsTo_B11 f s) (fun _ _ => none) tg_FU 0 x1 := by
    simp only [f_X3_leadsTo]
    rw [e1, tg_bd_some]
  rw [e4]
  exact ⟨x', fun c c1 c2 c3 c4 c5 c6 => by rw [q1 c c1 c2 c3 c4 c5 c6, e3 c c2 c3 c4], q2⟩
theorem ts_nt_fold_m : ∀ (C L : List tr_S) {T : tr_S}, T ∈ C.foldl ts_nt L → T ∈ L ∨ T ∈ C
  | [], _, _, h => Or.inl h
  | S :: C, L, T, h => by
    rcases ts_nt_fold_m C (ts_nt L S) h with z | z
    · rcases ts_nt_m z with y | y
      · exact Or.inl y
      · exact Or.inr (by rw [y]; exact List.mem_cons_self)
    · exact Or.inr (List.mem_cons_of_mem _ z)
theorem ts_nt_fold_p : ∀ (C L : List tr_S), ∃ t, C.foldl ts_nt L = L ++ t
  | [], L => ⟨[], by simp⟩
  | S :: C, L => by
    obtain ⟨t, h⟩ := ts_nt_fold_p C (ts_nt L S)
    have h2 : ∃ u, ts_nt L S = L ++ u := by
      unfold ts_nt
      by_cases c : 1000 < L.length
      · rw [if_pos c]; exact ⟨[], by simp⟩
      · rw [if_neg c]
        obtain ⟨u, hu, -⟩ := ts_nu_pre L S
        exact ⟨u, hu⟩
    obtain ⟨u, hu⟩ := h2
    refine ⟨u ++ t, ?_⟩
    show C.foldl ts_nt (ts_nt L S) = _
    rw [h, hu, List.append_assoc]
theorem ts_cand_va {S T : tr_S} (hm : tr_md P A B Y) (hS : ts_va P A B Y ρ S) (h : T ∈ ts_cand P A B Y ρ ts_cx S (2 * P.toNat) 0) : ts_va P A B Y ρ T := by
  obtain ⟨g, p, h1, h2, h3⟩ := (ts_cand_x hm).mp h
  rw [h3]; exact ts_ok_va hm h1 hS h2
theorem c_levell {f s stp : Int} {L0 : List tr_S} {j96 : tg_Mem → tg_R} (hm : tr_md P A B Y) (hρ : 1 ≤ ρ ∧ ρ ≤ 18) (hL0 : L0.length ≤ 1000) : ∀ (N i : Nat) (x : tg_Mem) (t : List tr_S) (F : Nat), N < F → i + N = L0.length → tc_md x P A B Y → x 1 7 = ρ → tw_x x (L0 ++ t) → (∀ T ∈ L0 ++ t, ts_va P A B Y ρ T) →
    ∃ x', (∀ c, c ≠ 26 → c ≠ 27 → c ≠ 28 → c ≠ 29 → c ≠ 30 → c ≠ 31 → x' c = x c) ∧
      (((∃ X ∈ ts_cands P A B Y ρ ts_cx (2 * P.toNat) (L0.drop i), ts_goal f s X) ∧ tg_fx (f_X3_fewest_B56 f s stp (L0.length : Int) j96) (fun _ _ => none) F (i : Int) x = some (stp, x')) ∨
       ((¬ ∃ X ∈ ts_cands P A B Y ρ ts_cx (2 * P.toNat) (L0.drop i), ts_goal f s X) ∧ tg_fx (f_X3_fewest_B56 f s stp (L0.length : Int) j96) (fun _ _ => none) F (i : Int) x = j96 x' ∧ tw_x x' ((ts_cands P A B Y ρ ts_cx (2 * P.toNat) (L0.drop i)).foldl ts_nt (L0 ++ t)))) := by
  intro N
  induction N with
  | zero =>
    intro i x t F hF hi hx h17 hw hall
    obtain ⟨F, rfl⟩ : ∃ n', F = n' + 1 := ⟨F - 1, by omega⟩
    have e1 : L0.drop i = [] := List.drop_eq_nil_of_le (by omega)
    rw [e1]
    refine ⟨x, fun _ _ _ _ _ _ _ => rfl, Or.inr ⟨fun z => ?_, ?_, hw⟩⟩
    · obtain ⟨X, h, -⟩ := z
      cases h
    · rw [tg_fx_s]
      unfold f_X3_fewest_B56
      rw [if_pos (by omega)]
  | succ N ih =>
    intro i x t F hF hi hx h17 hw hall
    obtain ⟨F, rfl⟩ : ∃ n', F = n' + 1 := ⟨F - 1, by omega⟩
    obtain ⟨S, hS⟩ : ∃ S, L0[i]? = some S := ⟨_, List.getElem?_eq_getElem (by omega)⟩
    have hSa : (L0 ++ t)[i]? = some S := by rw [List.getElem?_append_left (by omega)]; exact hS
    have hSv := hall S (List.mem_of_getElem? hSa)
    have hkey := hw.2.2.1 i S hSa
    have edrop : L0.drop i = S :: L0.drop (i + 1) := by
      obtain ⟨z1, z2⟩ := List.getElem?_eq_some_iff.mp hS
      rw [List.drop_eq_getElem_cons z1, z2]
    have ecs : ts_cands P A B Y ρ ts_cx (2 * P.toNat) (L0.drop i) = ts_cand P A B Y ρ ts_cx S (2 * P.toNat) 0 ++ ts_cands P A B Y ρ ts_cx (2 * P.toNat) (L0.drop (i + 1)) := by
      rw [edrop]; rfl
    obtain ⟨x1, g1, g2⟩ := c_lead (f := f) (s := s) hm hρ hSv hx h17 hw hall
    rw [ecs]
    rcases g2 with ⟨⟨X, z1, z2⟩, z3⟩ | ⟨z1, z2, z3⟩
    · refine ⟨x1, g1, Or.inl ⟨⟨X, List.mem_append_left _ z1, z2⟩, ?_⟩⟩
      rw [tg_fx_s]
      unfold f_X3_fewest_B56
      rw [if_neg (by omega), if_neg (by omega), tg_ck_pos (by omega), Int.toNat_natCast, hkey, z3, tg_bd_some, if_neg (by decide)]
    · obtain ⟨u, hu⟩ := ts_nt_fold_p (ts_cand P A B Y ρ ts_cx S (2 * P.toNat) 0) (L0 ++ t)
      have hmem : ∀ T ∈ L0 ++ (t ++ u), ts_va P A B Y ρ T := by
        intro T hT
        rw [← List.append_assoc, ← hu] at hT
        rcases ts_nt_fold_m _ _ hT with y | y
        · exact hall T y
        · exact ts_cand_va hm hSv y
      rw [hu, List.append_assoc] at z3
      obtain ⟨x', q1, q2⟩ := ih (i + 1) x1 (t ++ u) F (by omega) (by omega) (tc_md_of hx (by rw [g1 1 (by decide) (by decide) (by decide) (by decide) (by decide) (by decide)]) (g1 7 (by decide) (by decide) (by decide) (by decide) (by decide) (by decide)) (g1 8 (by decide) (by decide) (by decide) (by decide) (by decide) (by decide)) (g1 9 (by decide) (by decide) (by decide) (by decide) (by decide) (by decide))) (by rw [g1 1 (by decide) (by decide) (by decide) (by decide) (by decide) (by decide)]; exact h17) z3 hmem
      have hstep : tg_fx (f_X3_fewest_B56 f s stp (L0.length : Int) j96) (fun _ _ => none) (F + 1) (i : Int) x = tg_fx (f_X3_fewest_B56 f s stp (L0.length : Int) j96) (fun _ _ => none) F ((i + 1 : Nat) : Int) x1 := by
        rw [tg_fx_s]
        generalize tg_fx (f_X3_fewest_B56 f s stp (L0.length : Int) j96) (fun _ _ => none) F = G
        unfold f_X3_fewest_B56
        simp only [tg_lt]
        rw [if_neg (by omega), if_neg (by omega), tg_ck_pos (by omega), Int.toNat_natCast, hkey, z2, tg_bd_some, if_pos rfl, tg_wi_e (by omega), show (i : Int) + 1 = ((i + 1 : Nat) : Int) by omega]
      rw [hstep]
      refine ⟨x', fun c c1 c2 c3 c4 c5 c6 => by rw [q1 c c1 c2 c3 c4 c5 c6, g1 c c1 c2 c3 c4 c5 c6], ?_⟩
      rcases q2 with ⟨⟨X, y1, y2⟩, y3⟩ | ⟨y1, y2, y3⟩
      · exact Or.inl ⟨⟨X, List.mem_append_right _ y1, y2⟩, y3⟩
      · refine Or.inr ⟨fun z => ?_, y2, ?_⟩
        · obtain ⟨X, w1, w2⟩ := z
          rcases List.mem_append.mp w1 with w | w
          · exact z1 ⟨X, w, w2⟩
          · exact y1 ⟨X, w, w2⟩
        · rw [List.foldl_append, hu, List.append_assoc]; exact y3
end LEVEL
