-- soonest: both go round by round
section SOON
variable {P : Int} {A B Y : Int → Int} {ρ : Int}
theorem s_rounds {f s : Int} (hm : tr_md P A B Y) (hρ : 1 ≤ ρ ∧ ρ ≤ 18) : ∀ (N b : Nat) (stp : Int) (L M : List tr_S) (x m : tg_Mem) (Fx Fm : Nat), 1001 ≤ L.length + N → L.length ≤ 1000 → N < Fx → N + 1 < Fm → b < L.length → 1 ≤ stp → stp ≤ L.length →
    tc_md x P A B Y → x 1 7 = ρ → tw_x x L → (∀ T ∈ L, ts_va P A B Y ρ T) → tm_md m P A B Y → m 9 2 = ρ → tm_w m M → M.Nodup → (∀ T ∈ M, ts_va P A B Y ρ T) → (∀ X, X ∈ L ↔ X ∈ M) → (∀ X, X ∈ L.take b ↔ X ∈ M.take b) →
    ∃ r x' m', tg_fx (f_X3_fewest_B38 f s) (fun _ _ _ => none) Fx (b : Int) stp x = some (r, x') ∧ tg_fx (f_X8_soonOf_B47 f s) (fun _ _ _ => none) Fm (b : Int) (stp - 1) m = some (r, m') ∧
      (∀ c, c ≠ 26 → c ≠ 27 → c ≠ 28 → c ≠ 29 → c ≠ 30 → c ≠ 31 → x' c = x c) ∧ (∀ c, c ≠ 0 → c ≠ 11 → c ≠ 12 → c ≠ 15 → m' c = m c) ∧ ∀ j, j ≠ 15 → j ≠ 16 → j ≠ 21 → m' 0 j = m 0 j := by
  intro N
  induction N with
  | zero => intro b stp L M x m Fx Fm h1 h2; omega
  | succ N ih =>
    intro b stp L M x m Fx Fm h1 h2 h3 h4 hb hs1 hs2 hx h17 hw hall hxm h9 hwm hMn hallM hLM htk
    obtain ⟨Fx, rfl⟩ : ∃ n', Fx = n' + 1 := ⟨Fx - 1, by omega⟩
    obtain ⟨Fm, rfl⟩ : ∃ n', Fm = n' + 1 := ⟨Fm - 1, by omega⟩
    have hLn := hw.2.2.2.1
    have elen : L.length = M.length := ((List.perm_ext_iff_of_nodup hLn hMn).mpr hLM).length_eq
    have hfr := ts_front hLn hMn hLM htk
    have hcs := ts_cands_same (ρ := ρ) hm hfr
    obtain ⟨C, hC⟩ : ∃ C, C = ts_cands P A B Y ρ ts_cx (2 * P.toNat) (L.drop b) := ⟨_, rfl⟩
    obtain ⟨D, hD⟩ : ∃ D, D = ts_cands P A B Y ρ ts_cm 16 (M.drop b) := ⟨_, rfl⟩
    rw [← hC, ← hD] at hcs
    have hgoal : (∃ X ∈ C, ts_goal f s X) ↔ ∃ X ∈ D, ts_goal f s X := ⟨fun ⟨X, z1, z2⟩ => ⟨X, (hcs X).mp z1, z2⟩, fun ⟨X, z1, z2⟩ => ⟨X, (hcs X).mpr z1, z2⟩⟩
    obtain ⟨Jx, hJx⟩ : ∃ J : tg_Mem → tg_R, J = fun (m_96 : tg_Mem) => if m_96 26 4 ≤ 1000 then (if m_96 26 4 ≠ (L.length : Int) then tg_fx (f_X3_fewest_B38 f s) (fun _ _ _ => none) Fx (L.length : Int) (tg_wi (stp + 1)) m_96 else some ((-1), m_96)) else some ((-4), m_96) := ⟨_, rfl⟩
    obtain ⟨Jm, hJm⟩ : ∃ J : Int → tg_Mem → tg_R, J = fun (v7_237 : Int) (m_237 : tg_Mem) => if v7_237 = 0 then (if m_237 0 21 ≤ 1000 then tg_fx (f_X8_soonOf_B47 f s) (fun _ _ _ => none) Fm (M.length : Int) stp m_237 else some ((-4), m_237)) else some (stp, m_237) := ⟨_, rfl⟩
    have ex : tg_fx (f_X3_fewest_B38 f s) (fun _ _ _ => none) (Fx + 1) (b : Int) stp x = tg_fx (f_X3_fewest_B56 f s stp (L.length : Int) Jx) (fun _ _ => none) tg_FU (b : Int) x := by
      rw [tg_fx_s, hJx]
      generalize tg_fx (f_X3_fewest_B38 f s) (fun _ _ _ => none) Fx = G
      unfold f_X3_fewest_B38
      simp only [tg_lt, tg_jn]
      rw [if_neg (by omega), hw.1]
    have em : tg_fx (f_X8_soonOf_B47 f s) (fun _ _ _ => none) (Fm + 1) (b : Int) (stp - 1) m = tg_fx (f_X8_soonOf_B72 f s (M.length : Int) Jm) (fun _ _ _ => none) tg_FU 0 (b : Int) m := by
      rw [tg_fx_s, hJm]
      generalize tg_fx (f_X8_soonOf_B47 f s) (fun _ _ _ => none) Fm = G
      unfold f_X8_soonOf_B47
      simp only [tg_lt, tg_jn]
      rw [hwm.1, if_neg (by omega), tg_wi_e (by omega), show stp - 1 + 1 = stp by omega]
    obtain ⟨x1, g1, g2⟩ := c_levell (f := f) (s := s) (stp := stp) (j96 := Jx) hm hρ h2 (L.length - b) b x [] tg_FU (by have := tg_FUg; omega) (by omega) hx h17 (by rw [List.append_nil]; exact hw) (by rw [List.append_nil]; exact hall)
    obtain ⟨v', m1, k1, k2, k3, k4, k5, k6⟩ := r_levell (f := f) (s := s) (M0 := M) (j237 := Jm) hm hρ (by omega) (M.length - b) b 0 m [] tg_FU (by have := tg_FUg; omega) (by omega) (Or.inl rfl) hxm h9 (by rw [List.append_nil]; exact hwm) (by rw [List.append_nil]; exact hallM)
    rw [List.append_nil, ← hC] at g2
    rw [← hD] at k3
    rw [List.append_nil, ← hD] at k4
    rw [ex, em]
    rcases g2 with ⟨y1, y2⟩ | ⟨y1, y2, y3⟩
    · have ev : v' = 1 := k3.mpr (Or.inr (hgoal.mp y1))
      refine ⟨stp, x1, m1, y2, ?_, g1, k5, k6⟩
      rw [k1, ev, hJm]
      dsimp only
      rw [if_neg (by decide)]
    · have ev : v' = 0 := by
        rcases k2 with z | z
        · exact z
        · rcases k3.mp z with q | q
          · omega
          · exact absurd (hgoal.mpr q) y1
      obtain ⟨n1, n2, n3, n4, n5, ⟨t, n6⟩, ⟨u, n7⟩, n8, n9, n10⟩ := ts_same hLn hMn hLM h2 hcs
      obtain ⟨L', hL'⟩ : ∃ L', L' = C.foldl ts_nt L := ⟨_, rfl⟩
      obtain ⟨M', hM'⟩ : ∃ M', M' = D.foldl ts_nt M := ⟨_, rfl⟩
      rw [← hL'] at n1 n3 n4 n5 n6 n9 y3
      rw [← hM'] at n2 n3 n5 n7 n10 k4
      have hallL' : ∀ T ∈ L', ts_va P A B Y ρ T := by
        intro T hT
        rcases n9 T hT with z | z
        · exact hall T z
        · rw [hC] at z
          obtain ⟨S, z1, z2⟩ := List.mem_flatMap.mp z
          exact ts_cand_va hm (hall S (List.mem_of_mem_drop z1)) z2
      have hallM' : ∀ T ∈ M', ts_va P A B Y ρ T := by
        intro T hT
        rcases n10 T hT with z | z
        · exact hallM T z
        · rw [hD] at z
          obtain ⟨S, z1, z2⟩ := List.mem_flatMap.mp z
          exact ts_cand_m_va hm (hallM S (List.mem_of_mem_drop z1)) z2
      have hlge : L.length ≤ L'.length := by rw [n6, List.length_append]; omega
      rw [y2, k1, ev]
      by_cases hfull : L'.length ≤ 1000
      · have ejm : Jm 0 m1 = tg_fx (f_X8_soonOf_B47 f s) (fun _ _ _ => none) Fm (M.length : Int) stp m1 := by
          rw [hJm]
          dsimp only
          rw [if_pos rfl, k4.1, if_pos (by omega)]
        by_cases hnew : L'.length = L.length
        · refine ⟨-1, x1, m1, ?_, ?_, g1, k5, k6⟩
          · rw [hJx]
            dsimp only
            rw [y3.1, if_pos (by omega), if_neg (by omega)]
          · rw [ejm]
            obtain ⟨Fm, rfl⟩ : ∃ n', Fm = n' + 1 := ⟨Fm - 1, by omega⟩
            rw [tg_fx_s]
            unfold f_X8_soonOf_B47
            rw [k4.1, if_pos (by omega)]
        · have ejx : Jx x1 = tg_fx (f_X3_fewest_B38 f s) (fun _ _ _ => none) Fx (L.length : Int) (stp + 1) x1 := by
            rw [hJx]
            dsimp only
            rw [y3.1, if_pos (by omega), if_pos (by omega), tg_wi_e (by omega)]
          obtain ⟨r, x', m', q1, q2, q3, q4, q5⟩ := ih L.length (stp + 1) L' M' x1 m1 Fx Fm (by omega) hfull (by omega) (by omega) (by omega) (by omega) (by omega)
            (tc_md_of hx (by rw [g1 1 (by decide) (by decide) (by decide) (by decide) (by decide) (by decide)]) (g1 7 (by decide) (by decide) (by decide) (by decide) (by decide) (by decide)) (g1 8 (by decide) (by decide) (by decide) (by decide) (by decide) (by decide)) (g1 9 (by decide) (by decide) (by decide) (by decide) (by decide) (by decide)))
            (by rw [g1 1 (by decide) (by decide) (by decide) (by decide) (by decide) (by decide)]; exact h17) y3 hallL'
            (tm_md_of hxm (k6 8 (by decide) (by decide) (by decide)) (k5 7 (by decide) (by decide) (by decide) (by decide))) (by rw [k5 9 (by decide) (by decide) (by decide) (by decide)]; exact h9) k4 n2 hallM' (n5 hfull)
            (by
              have e1 : L'.take L.length = L := by rw [n6, List.take_left]
              have e2 : M'.take L.length = M := by rw [n7, n8, List.take_left]
              rw [e1, e2]; exact hLM)
          rw [show stp + 1 - 1 = stp by omega, n8] at q2
          refine ⟨r, x', m', ?_, ?_, fun c c1 c2 c3 c4 c5 c6 => by rw [q3 c c1 c2 c3 c4 c5 c6, g1 c c1 c2 c3 c4 c5 c6], fun c c1 c2 c3 c4 => by rw [q4 c c1 c2 c3 c4, k5 c c1 c2 c3 c4], fun j j1 j2 j3 => by rw [q5 j j1 j2 j3, k6 j j1 j2 j3]⟩
          · rw [ejx]; exact q1
          · rw [ejm]; exact q2
      · refine ⟨-4, x1, m1, ?_, ?_, g1, k5, k6⟩
        · rw [hJx]
          dsimp only
          rw [y3.1, if_neg (by omega)]
        · rw [hJm]
          dsimp only
          rw [if_pos rfl, k4.1, if_neg (by omega)]
end SOON
theorem tw_x0 {x : tg_Mem} (h1 : x 26 4 = 0) (h2 : ∀ j : Nat, j < 2048 → x 31 j = 0) : tw_x x [] := by
  refine ⟨by rw [h1]; rfl, by decide, fun i S h => (by cases h), List.nodup_nil, fun s hs => by rw [h2 s hs]; exact ⟨Int.le_refl _, Int.le_refl _⟩, by rw [th_cnt_0 _ _ h2]; rfl, fun i S h => (by cases h)⟩
theorem s_soon (d f s : Int) : R_st (f_X7_soon d f s) (f_X8_soon d f s) := by
  intro x m h
  obtain ⟨P, A, B, Y, ρ, h0, h1, w, m1, c1, c2, c3, c4, c5⟩ := R_cf h
  have h' : R_all x m1 := R_all_of h (R_xf_rf _) c5
  by_cases hd : d = 0 ∨ d = 1
  · by_cases hf : 0 ≤ f ∧ f < 8
    · by_cases hs : 0 ≤ s ∧ s < 8
      · obtain ⟨x1, a1, a2, a3, a4, a5⟩ := R_walk (h0 := h0) (h1 := h1) (most := 40) hd h' (by omega) c1 c2
        obtain ⟨m2, g1, g2, g3, g4⟩ := R_runs (h0 := h0) (h1 := h1) (most := 40) hd h' (by omega) c1 c4
        obtain ⟨-, -, -, i1, i2, -⟩ := R_rn_I (h0 := h0) (h1 := h1) (most := 40) hd h' (by omega) c1
        have hkb := R_kb hd
        have k1 : tc_cf x1 P A B Y ρ h0 h1 w := tc_cf_fr hkb.1 c2 a5
        have k2 : tm_cf m2 P A B Y ρ h0 h1 w := tm_cf_fr c4 g4
        obtain ⟨S, hS⟩ : ∃ S, S = (R_rn P A B Y ρ h0 h1 w x d 40).2.1 := ⟨_, rfl⟩
        have r1 : tc_rp Y (R_k d + 3) x1 S := by rw [hS]; exact a2.1
        have r2 : tm_rp Y m2 S := by rw [hS]; exact g2.1
        rw [← hS] at i1 i2
        have hρ := c1.2.1
        have hva : ts_va P A B Y ρ S := ⟨i1, i2⟩
        have hl := ts_va_l c1.1 hρ.2 hva
        have hlb := tr_I_b c1.1 i1
        have e5 : ((R_k d : Nat) : Int).toNat + 3 = R_k d + 3 := by omega
        have ex : ∀ K, f_X3_fewest (R_k d + 3) f s x1 = K → f_X7_soon d f s x = tg_bd K (fun r43 m43 => some (r43, m43)) := by
          intro K hK
          simp only [f_X7_soon, f_X7_ended]
          rw [b_isBelowT (by omega), tg_bd_some, if_neg (by decide), b_isBelowT hf, tg_bd_some, if_neg (by decide), b_isBelowT hs, tg_bd_some, if_pos (by decide), R_dayOf hd, tg_bd_some, Int.toNat_natCast, a1, tg_bd_some, tg_bd_some, Int.toNat_natCast, hK]
        have em : ∀ K, f_X8_soonOf d f s m1 = K → f_X8_soon d f s m = tg_bd K (fun r30 m30 => some (r30, m30)) := by
          intro K hK
          simp only [f_X8_soon, tg_jn]
          rw [c3, tg_bd_some, r_isTwoT (by omega), tg_bd_some, if_neg (by decide), r_isPlT (by omega), tg_bd_some, if_neg (by decide), r_isPlT (by omega), tg_bd_some, if_neg (by decide), hK]
        have hR1 : R_all x1 m2 := R_all_of h' a4 g3
        by_cases hgo : S.1 = f ∧ S.2.1 = s
        · have ek : f_X3_fewest (R_k d + 3) f s x1 = some (0, x1) := by
            simp only [f_X3_fewest, f_X3_stand, tg_jn]
            rw [tg_ck_pos (by decide), r1.1, hgo.1, if_neg (fun z => z rfl), tg_ck_pos (by decide), r1.2.1, hgo.2, if_neg (fun z => z rfl), tg_bd_some, if_neg (by decide)]
          have er : f_X8_soonOf d f s m1 = some (0, m2) := by
            simp only [f_X8_soonOf, f_X8_done, tg_jn]
            rw [g1, tg_bd_some, tg_bd_some, tg_ck_pos (by decide), r2.1, hgo.1, if_neg (fun z => z rfl), tg_ck_pos (by decide), r2.2.1, hgo.2, if_neg (fun z => z rfl)]
          exact ⟨0, x1, m2, by rw [ex _ ek]; rfl, by rw [em _ er]; rfl, hR1⟩
        · obtain ⟨x2, b1, b2, b3⟩ := c_fill (K := 31) (n := 2048) (v := 0) (x := x1) (by decide)
          obtain ⟨x3, hx3⟩ : ∃ x3, x3 = tg_up x2 26 4 0 := ⟨_, rfl⟩
          have f3 : ∀ c, c ≠ 26 → c ≠ 31 → x3 c = x1 c := fun c q1 q2 => by rw [hx3, tg_up_k q1, b3 c q2]
          have hw3 : tw_x x3 [] := tw_x0 (by rw [hx3, tg_up_same]) (fun j hj => by rw [hx3, tg_up_k (by decide)]; exact b2 j hj)
          have r3 : tc_rp Y (R_k d + 3) x3 S := tc_rp_of r1 (f3 _ (by omega) (by omega)) (f3 _ (by omega) (by omega)) (f3 _ (by omega) (by omega))
          have ekey := c_key r3 (tr_I_m c1.1 i1) hl hlb.2.1
          obtain ⟨x4, n1, n2, n3, -⟩ := c_note c1.1 hw3 i1 (fun T hT => (by cases hT))
          have ent : ts_nt [] S = [S] := rfl
          rw [ent] at n2
          have f4 : ∀ c, c ≠ 26 → c ≠ 30 → c ≠ 31 → x4 c = x1 c := fun c q1 q2 q3 => by rw [n3 c q1 q2 q3, f3 c q1 q3]
          obtain ⟨m3, hm3⟩ : ∃ m3, m3 = tg_up m2 0 21 0 := ⟨_, rfl⟩
          have e3 : ∀ c, c ≠ 0 → m3 c = m2 c := fun c q => by rw [hm3, tg_up_k q]
          have e30 : ∀ j, j ≠ 21 → m3 0 j = m2 0 j := fun j q => by rw [hm3, tg_up_j q]
          have rr3 : tm_rp Y m3 S := tm_rp_of r2 (e3 11 (by decide)) (e3 12 (by decide)) (e30 15 (by decide)) (e30 16 (by decide))
          have ew := r_way c1.1 rr3 i1 hl
          have hwm3 : tm_w m3 [] := ⟨by rw [hm3, tg_up_same]; rfl, by decide, fun i S h => (by cases h)⟩
          obtain ⟨m4, u1, u2, u3, u4⟩ := r_keeps c1.1 hρ.2 hwm3 hva (fun T hT => (by cases hT))
          rw [ent] at u2
          have e4 : ∀ c, c ≠ 0 → c ≠ 15 → m4 c = m2 c := fun c q1 q2 => by rw [u3 c q1 q2, e3 c q1]
          have e40 : ∀ j, j ≠ 21 → m4 0 j = m2 0 j := fun j q => by rw [u4 j q, e30 j q]
          have hone : ∀ T ∈ [S], ts_va P A B Y ρ T := fun T hT => by rw [List.mem_singleton.mp hT]; exact hva
          obtain ⟨r, x', m', q1, q2, q3, q4, q5⟩ := s_rounds (f := f) (s := s) c1.1 hρ 1000 0 1 [S] [S] x4 m4 tg_FU tg_FU (by simp) (by simp) (by have := tg_FUg; omega) (by have := tg_FUg; omega) (by simp) (by decide) (by simp)
            (tc_md_of k1.1 (by rw [f4 1 (by decide) (by decide) (by decide)]) (f4 7 (by decide) (by decide) (by decide)) (f4 8 (by decide) (by decide) (by decide)) (f4 9 (by decide) (by decide) (by decide)))
            (by rw [f4 1 (by decide) (by decide) (by decide)]; exact k1.2.1) n2 hone (tm_md_of k2.1 (e40 8 (by decide)) (e4 7 (by decide) (by decide))) (by rw [e4 9 (by decide) (by decide)]; exact k2.2.1) u2 (by simp) hone (fun X => Iff.rfl) (fun X => Iff.rfl)
          have ek : f_X3_fewest (R_k d + 3) f s x1 = some (r, x') := by
            have est : f_X3_stand (R_k d + 3) f s x1 = some (0, x1) := by
              simp only [f_X3_stand, tg_jn]
              rw [tg_ck_pos (by decide), r1.1]
              by_cases z1 : S.1 = f
              · rw [if_neg (fun z => z z1), tg_ck_pos (by decide), r1.2.1, if_pos (fun z => hgo ⟨z1, z⟩)]
              · rw [if_pos z1]
            simp only [f_X3_fewest, tg_lt]
            rw [est, tg_bd_some, if_pos rfl, b1, tg_bd_some, ← hx3, ekey, tg_bd_some, n1, tg_bd_some]
            exact q1
          have er : f_X8_soonOf d f s m1 = some (r, m') := by
            have e9 : tg_lt (tg_up m2 0 21 0) (fun m30 => tg_bd (f_X8_wayNow m30) (fun r35 m35 => tg_bd (f_X8_keepsWay r35 m35) (fun _ m38 => tg_fx (γ := Int → Int → tg_Mem → tg_R) (f_X8_soonOf_B47 f s) (fun _ _ _ => none) tg_FU 0 0 m38))) = some (r, m') := by
              simp only [tg_lt]
              rw [← hm3, ew, tg_bd_some, u1, tg_bd_some]
              exact q2
            simp only [f_X8_soonOf, f_X8_done]
            rw [g1, tg_bd_some, tg_bd_some, tg_ck_pos (by decide)]
            refine tg_jn_d (fun J hJ => ?_)
            rw [r2.1]
            by_cases z1 : S.1 = f
            · rw [if_neg (fun z => z z1), tg_ck_pos (by decide), r2.2.1, if_pos (fun z => hgo ⟨z1, z⟩), hJ]; exact e9
            · rw [if_pos z1, hJ]; exact e9
          have fx : ∀ c, c ≠ 26 → c ≠ 27 → c ≠ 28 → c ≠ 29 → c ≠ 30 → c ≠ 31 → x' c = x1 c := fun c q1 q2 q3' q4 q5 q6 => by rw [q3 c q1 q2 q3' q4 q5 q6, f4 c q1 q5 q6]
          refine ⟨r, x', m', by rw [ex _ ek]; rfl, by rw [em _ er]; rfl, R_all_of hR1 ⟨fun c hc => fx c (by omega) (by omega) (by omega) (by omega) (by omega) (by omega), ?_, ?_, ?_, ?_, ?_, ?_⟩ ⟨fun c hc => ?_, ?_⟩⟩
          · rw [fx 0 (by decide) (by decide) (by decide) (by decide) (by decide) (by decide)]
          · rw [fx 1 (by decide) (by decide) (by decide) (by decide) (by decide) (by decide)]
          · rw [fx 1 (by decide) (by decide) (by decide) (by decide) (by decide) (by decide)]
          · rw [fx 1 (by decide) (by decide) (by decide) (by decide) (by decide) (by decide)]
          · rw [fx 10 (by decide) (by decide) (by decide) (by decide) (by decide) (by decide)]
          · rw [fx 18 (by decide) (by decide) (by decide) (by decide) (by decide) (by decide)]
          · rw [q4 c (by omega) (by omega) (by omega) (by omega), e4 c (by omega) (by omega)]
          · rw [q5 4 (by decide) (by decide) (by decide), e40 4 (by decide)]
      · refine ⟨-2, x, m1, ?_, ?_, h'⟩
        · simp only [f_X7_soon]
          rw [b_isBelowT (by omega), tg_bd_some, if_neg (by decide), b_isBelowT hf, tg_bd_some, if_neg (by decide), b_isBelowF hs, tg_bd_some, if_neg (by decide)]
        · simp only [f_X8_soon, tg_jn]
          rw [c3, tg_bd_some, r_isTwoT (by omega), tg_bd_some, if_neg (by decide), r_isPlT (by omega), tg_bd_some, if_neg (by decide), r_isPlF (by omega), tg_bd_some, if_pos rfl]
    · refine ⟨-2, x, m1, ?_, ?_, h'⟩
      · simp only [f_X7_soon]
        rw [b_isBelowT (by omega), tg_bd_some, if_neg (by decide), b_isBelowF hf, tg_bd_some, if_pos rfl]
      · simp only [f_X8_soon, tg_jn]
        rw [c3, tg_bd_some, r_isTwoT (by omega), tg_bd_some, if_neg (by decide), r_isPlF (by omega), tg_bd_some, if_pos rfl]
  · refine ⟨-2, x, m1, ?_, ?_, h'⟩
    · simp only [f_X7_soon]
      rw [b_isBelowF (by omega), tg_bd_some, if_pos rfl]
    · simp only [f_X8_soon, tg_jn]
      rw [c3, tg_bd_some, r_isTwoF (by omega), tg_bd_some, if_pos rfl]
