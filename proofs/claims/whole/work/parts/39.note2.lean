-- the class notes a way: the row of ways grows
theorem th_least (f : Nat → Int) : ∀ n : Nat, (∃ d, d < n ∧ f d = 0) → ∃ d, d < n ∧ f d = 0 ∧ ∀ e, e < d → f e ≠ 0
  | 0, ⟨d, h, _⟩ => by omega
  | n + 1, ⟨d, h1, h2⟩ => by
    by_cases c : ∃ d, d < n ∧ f d = 0
    · obtain ⟨d', g1, g2, g3⟩ := th_least f n c
      exact ⟨d', by omega, g2, g3⟩
    · have e : d = n := by
        by_cases z : d < n
        · exact absurd ⟨d, z, h2⟩ c
        · omega
      exact ⟨d, h1, h2, fun e' he z => c ⟨e', by omega, z⟩⟩
section NOTE2
variable {P : Int} {A B Y : Int → Int}
theorem c_note {x : tg_Mem} {L : List tr_S} {S : tr_S} (hm : tr_md P A B Y) (hw : tw_x x L) (hI : tr_I P A B S) (hall : ∀ T ∈ L, tr_I P A B T) :
    ∃ x', f_X3_note (kc_key S) x = some (0, x') ∧ tw_x x' (ts_nt L S) ∧ (∀ c, c ≠ 26 → c ≠ 30 → c ≠ 31 → x' c = x c) ∧ ∀ i : Nat, (i : Int) < L.length → x' 30 i = x 30 i := by
  have hw0 := hw
  obtain ⟨w1, w2, w3, w4, w5, w6, w7⟩ := hw
  by_cases hful : 1000 < L.length
  · refine ⟨x, ?_, by unfold ts_nt; rw [if_pos hful]; exact hw0, fun _ _ _ _ => rfl, fun _ _ => rfl⟩
    simp only [f_X3_note]
    rw [if_neg (by omega)]
  · have hnt : ts_nt L S = ts_nu L S := if_neg hful
    rw [hnt]
    by_cases hin : S ∈ L
    · obtain ⟨i, hi⟩ := List.mem_iff_getElem?.mp hin
      obtain ⟨d, d1, d2, d3⟩ := w7 i S hi
      refine ⟨x, ?_, by unfold ts_nu; rw [if_pos hin]; exact hw0, fun _ _ _ _ => rfl, fun _ _ => rfl⟩
      simp only [f_X3_note, tg_lt]
      rw [if_pos (by omega)]
      refine tg_jn_d (fun J hJ => ?_)
      have q := c_notel_T (j94 := J) hw0 hi d1 d2 d3 d 0 tg_FU (by have := tg_FUg; omega) (by omega)
      have hb := tb_iand2047 (a := tg_l2i (tg_lushr (tg_wl (kc_key S * (-7046029254386353131))) 53))
      rw [show (((th_h (kc_key S) + 0) % 2048 : Nat) : Int) = tg_iand (tg_l2i (tg_lushr (tg_wl (kc_key S * (-7046029254386353131))) 53)) 2047 by have := th_h_b (kc_key S); unfold th_h at this ⊢; omega] at q
      exact q
    · have hnu : ts_nu L S = L ++ [S] := if_neg hin
      rw [hnu]
      have hex : ∃ d, d < 2048 ∧ x 31 ((th_h (kc_key S) + d) % 2048) = 0 := by
        apply Classical.byContradiction
        intro hno
        have hall0 : ∀ s, s < 2048 → x 31 s ≠ 0 := by
          intro s hs z
          refine hno ⟨(s + 2048 - th_h (kc_key S)) % 2048, Nat.mod_lt _ (by decide), ?_⟩
          have hb := th_h_b (kc_key S)
          rw [show (th_h (kc_key S) + (s + 2048 - th_h (kc_key S)) % 2048) % 2048 = s by omega]
          exact z
        have := th_cnt_all (x 31) 2048 hall0
        omega
      obtain ⟨d, d1, d2, d3⟩ := th_least (fun d => x 31 ((th_h (kc_key S) + d) % 2048)) 2048 hex
      have hne : ∀ i : Nat, i < L.length → x 30 i ≠ kc_key S := by
        intro i hi z
        obtain ⟨T, hT⟩ : ∃ T, L[i]? = some T := ⟨_, List.getElem?_eq_getElem hi⟩
        rw [w3 i T hT] at z
        have hTm := List.mem_of_getElem? hT
        have := (kc_key_inj hm (hall T hTm) hI).mp z
        rw [this] at hTm
        exact hin hTm
      obtain ⟨s0, hs0⟩ : ∃ s0, s0 = (th_h (kc_key S) + d) % 2048 := ⟨_, rfl⟩
      rw [← hs0] at d2
      have hs0b : s0 < 2048 := by rw [hs0]; exact Nat.mod_lt _ (by decide)
      obtain ⟨x', hx'⟩ : ∃ x', x' = tg_up (tg_up (tg_up x 30 L.length (kc_key S)) 26 4 ((L.length : Int) + 1)) 31 s0 ((L.length : Int) + 1) := ⟨_, rfl⟩
      have f31 : ∀ s, s ≠ s0 → x' 31 s = x 31 s := fun s hs => by rw [hx', tg_up_j hs, tg_up_k (by decide), tg_up_k (by decide)]
      have f31s : x' 31 s0 = (L.length : Int) + 1 := by rw [hx', tg_up_same]
      have f30 : ∀ i, i ≠ L.length → x' 30 i = x 30 i := fun i hi => by rw [hx', tg_up_k (by decide), tg_up_k (by decide), tg_up_j hi]
      have f30s : x' 30 L.length = kc_key S := by rw [hx', tg_up_k (by decide), tg_up_k (by decide), tg_up_same]
      have f26 : x' 26 4 = (L.length : Int) + 1 := by rw [hx', tg_up_k (by decide), tg_up_same]
      refine ⟨x', ?_, ⟨?_, ?_, ?_, ?_, ?_, ?_, ?_⟩, fun c c1 c2 c3 => by rw [hx', tg_up_k c3, tg_up_k c1, tg_up_k c2], fun i hi => f30 i (by omega)⟩
      · simp only [f_X3_note, tg_lt]
        rw [if_pos (by omega)]
        refine tg_jn_d (fun J hJ => ?_)
        have q := c_notel_F (j94 := J) hw0 hne d1 (by rw [← hs0]; exact d2) d3 d 0 tg_FU (by have := tg_FUg; omega) (by omega)
        rw [show (((th_h (kc_key S) + 0) % 2048 : Nat) : Int) = tg_iand (tg_l2i (tg_lushr (tg_wl (kc_key S * (-7046029254386353131))) 53)) 2047 by have := th_h_b (kc_key S); have hb := tb_iand2047 (a := tg_l2i (tg_lushr (tg_wl (kc_key S * (-7046029254386353131))) 53)); unfold th_h at this ⊢; omega] at q
        refine q.trans ?_
        rw [hJ, ← hs0]
        dsimp only
        rw [w1, tg_ck_pos (by omega), Int.toNat_natCast, tg_up_k (by decide : (26 : Nat) ≠ 30), w1, tg_wi_e (by omega), tg_ck_pos (by omega), Int.toNat_natCast, tg_up_same, ← hx']
      · rw [f26, List.length_append, List.length_singleton]; omega
      · rw [List.length_append, List.length_singleton]; omega
      · intro i T hT
        by_cases c : i < L.length
        · rw [List.getElem?_append_left c] at hT
          rw [f30 i (by omega)]; exact w3 i T hT
        · have hlt := (List.getElem?_eq_some_iff.mp hT).1
          rw [List.length_append, List.length_singleton] at hlt
          have e : i = L.length := by omega
          rw [e] at hT ⊢
          rw [List.getElem?_append_right (Nat.le_refl _), Nat.sub_self] at hT
          have : S = T := by simpa using hT
          rw [f30s, this]
      · refine List.nodup_append.mpr ⟨w4, by simp, fun a ha b hb => ?_⟩
        rw [List.mem_singleton.mp hb]
        exact fun e => hin (by rw [← e]; exact ha)
      · intro s hs
        rw [List.length_append, List.length_singleton]
        by_cases c : s = s0
        · rw [c, f31s]; omega
        · rw [f31 s c]; have := w5 s hs; omega
      · rw [th_cnt_up (x 31) (x' 31) s0 d2 (by rw [f31s]; omega) f31 2048 hs0b, w6, List.length_append, List.length_singleton]; omega
      · intro i T hT
        by_cases c : i < L.length
        · rw [List.getElem?_append_left c] at hT
          obtain ⟨e, e1, e2, e3⟩ := w7 i T hT
          refine ⟨e, e1, ?_, fun e' he' => ?_⟩
          · rw [f31 _ (fun z => by rw [z, d2] at e2; omega)]; exact e2
          · rw [f31 _ (fun z => e3 e' he' (by rw [z]; exact d2))]; exact e3 e' he'
        · have hlt := (List.getElem?_eq_some_iff.mp hT).1
          rw [List.length_append, List.length_singleton] at hlt
          have e : i = L.length := by omega
          rw [e] at hT ⊢
          rw [List.getElem?_append_right (Nat.le_refl _), Nat.sub_self] at hT
          have hST : S = T := by simpa using hT
          rw [← hST]
          refine ⟨d, d1, by rw [← hs0, f31s], fun e' he' => ?_⟩
          by_cases z : (th_h (kc_key S) + e') % 2048 = s0
          · rw [z, f31s]; omega
          · rw [f31 _ z]; exact d3 e' he'
end NOTE2
