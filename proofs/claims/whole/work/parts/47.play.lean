-- the class plays
section PLAY
variable {P : Int} {A B Y : Int → Int} {ρ h0 h1 : Int} {w : Int → Int}
theorem c_besidel {x : tg_Mem} {bare : Int} (hw : ∀ i, 0 ≤ i → i ≤ 7 → 0 ≤ w i ∧ w i ≤ 99) (hx : tc_cf x P A B Y ρ h0 h1 w) : ∀ (N : Nat) (i v : Int) (n : Nat), N < n → 0 ≤ i → i + N = 8 → 0 ≤ v → v ≤ 99 * i → tg_fx (f_X2_worthBeside_B4 bare) (fun _ _ _ => none) n v i x = some (tn_sum (fun q => tr_wo w q bare) N i v, x) := by
  intro N
  induction N with
  | zero =>
    intro i v n hn hi hiN hv hv2
    obtain ⟨n, rfl⟩ : ∃ n', n = n' + 1 := ⟨n - 1, by omega⟩
    rw [tg_fx_s]
    unfold f_X2_worthBeside_B4
    rw [if_pos (by omega)]; rfl
  | succ N ih =>
    intro i v n hn hi hiN hv hv2
    obtain ⟨n, rfl⟩ : ∃ n', n = n' + 1 := ⟨n - 1, by omega⟩
    have hwi : 0 ≤ tr_wo w i bare ∧ tr_wo w i bare ≤ 99 := tr_wo_b (hw i hi (by omega))
    rw [tg_fx_s]
    unfold f_X2_worthBeside_B4
    rw [if_neg (by omega), c_worthAt hx ⟨hi, by omega⟩, tg_bd_some]
    simp only [tg_lt]
    rw [tg_wi_e (a := v + tr_wo w i bare) (by omega), tg_wi_e (a := i + 1) (by omega)]
    exact ih (i + 1) (v + tr_wo w i bare) n (by omega) (by omega) (by omega) (by omega) (by omega)
theorem c_gain0 {G : Int → Int → Int → Int → tg_Mem → tg_R} : tu_G P A B Y ρ h0 h1 w 0 (f_X6_gainB G) := by
  intro g low high bare S x hg hlh hlo hhi hS hx hr hb
  refine ⟨0, tg_up x 32 3 (-1), ?_, ⟨id, fun _ _ => rfl, id⟩, by omega, by omega, tc_rp_of hr (tg_up_k (by decide)) (tg_up_k (by decide)) (tg_up_k (by decide)), by rw [tg_up_j (by decide)]; exact hb, fun _ _ => tg_up_same _ _ _ _, fun c c1 c2 c3 c4 => tg_up_k c1⟩
  simp only [f_X6_gainB, tg_lt]
  rw [if_pos (by decide)]
theorem c_gainS {G : Int → Int → Int → Int → tg_Mem → tg_R} {left : Nat} (hcf : tr_cf P A B Y ρ w) (hl : left ≤ 5) (hG : tu_G P A B Y ρ h0 h1 w left G) : tu_G P A B Y ρ h0 h1 w (left + 1) (f_X6_gainB G) := by
  intro g low high bare S x hg hlh hlo hhi hS hx hr hb
  have hm := hcf.1
  have ec : ((left + 1 : Nat) : Int) = (left : Int) + 1 := by omega
  rw [ec] at hlo hhi ⊢
  obtain ⟨x1, hx1⟩ : ∃ x1, x1 = tg_up x 32 3 (-1) := ⟨_, rfl⟩
  have f1 : ∀ c, c ≠ 32 → x1 c = x c := fun c h => by rw [hx1, tg_up_k h]
  have hb1 : x1 32 2 = bare := by rw [hx1, tg_up_j (by decide)]; exact hb
  have hcx1 : tc_cf x1 P A B Y ρ h0 h1 w := tc_cf_32 hx (fun c c1 _ _ _ => f1 c c1)
  have hr1 := tc_rp_of hr (f1 33 (by decide)) (f1 34 (by decide)) (f1 35 (by decide))
  have hsum : f_X2_worthBeside bare x1 = some (tn_sum (fun q => tr_wo w q bare) 8 0 0, x1) := by
    unfold f_X2_worthBeside
    exact c_besidel hcf.2.2 hcx1 8 0 0 tg_FU (by have := tg_FUg; omega) (by decide) (by decide) (by decide) (by decide)
  have hnn : ∀ j, (0 : Int) ≤ j → j < 0 + ((8 : Nat) : Int) → 0 ≤ tr_wo w j bare := fun j q1 q2 => (tr_wo_b (hcf.2.2 j q1 (by omega))).1
  obtain ⟨u1, u2⟩ := tn_sum_0 (f := fun q => tr_wo w q bare) 8 0 0 hnn
  by_cases hz : tn_sum (fun q => tr_wo w q bare) 8 0 0 = 0
  · have h0 : ∀ q, 0 ≤ q → q ≤ 7 → tr_wo w q bare = 0 := fun q q1 q2 => u2 hz q q1 (by omega)
    obtain ⟨v0, p0⟩ := tu_v_0 (ρ := ρ) hm (left + 1) g S bare hg hS h0
    rw [v0, p0]
    refine ⟨0, x1, ?_, ⟨id, fun _ _ => rfl, id⟩, by omega, by omega, hr1, hb1, fun _ _ => by rw [hx1, tg_up_same], fun c c1 c2 c3 c4 => f1 c c1⟩
    simp only [f_X6_gainB, tg_lt]
    rw [if_neg (by omega), ← hx1, hb1, hsum, tg_bd_some, if_neg (fun z => z hz)]
  · obtain ⟨r, x2, q1, q2, q3, q4, q5, q6, -, q7⟩ := hG (1 - g) (-high) (-low) bare S x1 (by omega) (by omega) (by omega) (by omega) hS hcx1 hr1 hb1
    obtain ⟨s1, s2, s3⟩ := q2
    have hvb := tu_v_b (ρ := ρ) hm hcf.2.2 left (1 - g) S bare (by omega) hS
    obtain ⟨b', st', x3, g1, g2, g3, g4, g5, g6, g7, g8, g9⟩ := c_gainl (j158 := fun (v5_158 : Int) (v6_158 : Int) (m_158 : tg_Mem) => some (v5_158, tg_up m_158 32 3 v6_158)) hcf hl hG hg hlh hlo hhi hS P.toNat 0 (-r) (-1) (-(tu_v P A B Y ρ w left (1 - g) S bare)) (-1) x2 tg_FU (by have := tg_FUg; have := hm.2.1; omega) (by decide) (by have := hm.1; omega) (by omega) (by omega) (by omega) (by omega) (by omega) (by omega) (by omega) (tc_cf_32 hcx1 q7) q5 q6
    have ev : tu_v P A B Y ρ w (left + 1) g S bare = (tu_f P A B Y ρ w (tu_v P A B Y ρ w left (1 - g)) g S bare P.toNat 0 (-(tu_v P A B Y ρ w left (1 - g) S bare)) (-1)).1 := rfl
    have ep : tu_p P A B Y ρ w (left + 1) g S bare = (tu_f P A B Y ρ w (tu_v P A B Y ρ w left (1 - g)) g S bare P.toNat 0 (-(tu_v P A B Y ρ w left (1 - g) S bare)) (-1)).2 := rfl
    rw [ev, ep]
    refine ⟨b', tg_up x3 32 3 st', ?_, ⟨g2, fun z1 z2 => (g3 z1 z2).1, g4⟩, g5, g6, tc_rp_of g7 (tg_up_k (by decide)) (tg_up_k (by decide)) (tg_up_k (by decide)), by rw [tg_up_j (by decide)]; exact g8, fun z1 z2 => by rw [tg_up_same]; exact (g3 z1 z2).2, fun c c1 c2 c3 c4 => by rw [tg_up_k c1, g9 c c1 c2 c3 c4, q7 c c1 c2 c3 c4, f1 c c1]⟩
    simp only [f_X6_gainB, tg_lt, tg_jn]
    rw [if_neg (by omega), ← hx1, hb1, hsum, tg_bd_some, if_pos hz, tg_wi_e (a := 1 - g) (by omega), tg_wi_e (a := (left : Int) + 1 - 1) (by omega), show (left : Int) + 1 - 1 = left by omega, tg_wi_e (a := -high) (by omega), tg_wi_e (a := -low) (by omega), q1, tg_bd_some, tg_wi_e (a := -r) (by omega)]
    exact g1
theorem c_gain (hcf : tr_cf P A B Y ρ w) : ∀ (left n : Nat), left < n → left ≤ 6 → tu_G P A B Y ρ h0 h1 w left (f_X6_gain n)
  | 0, 0, h, _ => by omega
  | 0, n + 1, _, _ => c_gain0
  | left + 1, 0, h, _ => by omega
  | left + 1, n + 1, h, h2 => c_gainS hcf (by omega) (c_gain hcf left n (by omega) (by omega))
theorem tr_nd_take : ∀ (j : Nat) (r : List Int), tr_nd r → tr_nd (r.take j)
  | 0, _, _ => trivial
  | j + 1, [], _ => trivial
  | j + 1, p :: r, h => by
    refine ⟨fun z => h.1 ?_, tr_nd_take j r h.2⟩
    cases r with
    | nil => simp at z
    | cons q r =>
      cases j with
      | zero => simp at z
      | succ j => simpa using z
theorem c_becl {S : tr_S} {k k0 : Nat} (hk : 10 ≤ k) (hkk : k0 + 2 < k) (hm : tr_md P A B Y) (hI : tr_I P A B S) (hl : S.2.2.length ≤ 18) : ∀ (N i : Nat) (x : tg_Mem) (F : Nat), N < F → i + N = S.2.2.length → tc_md x P A B Y → tc_rp Y k0 x S → tc_rp Y k x (S.1, tr_fin A B S.1 (S.2.2.take i), S.2.2.take i) →
    ∃ x', tg_fx (f_X1_become_B12 k k0) (fun _ _ => none) F (i : Int) x = some (0, x') ∧ tc_rp Y k x' S ∧ ∀ c, c ≠ k → c ≠ k + 1 → c ≠ k + 2 → x' c = x c := by
  intro N
  induction N with
  | zero =>
    intro i x F hF hi hx hr0 hr
    obtain ⟨F, rfl⟩ : ∃ n', F = n' + 1 := ⟨F - 1, by omega⟩
    refine ⟨x, ?_, ?_, fun _ _ _ _ => rfl⟩
    · rw [tg_fx_s]
      unfold f_X1_become_B12
      rw [hr0.2.2.1, if_pos (by omega)]
    · have e : i = S.2.2.length := by omega
      rw [e, List.take_length, ← hI.2.2.1] at hr
      exact hr
  | succ N ih =>
    intro i x F hF hi hx hr0 hr
    obtain ⟨F, rfl⟩ : ∃ n', F = n' + 1 := ⟨F - 1, by omega⟩
    obtain ⟨p, p1, p2⟩ := c_pathAt (i := (i : Int)) hr0 ⟨by omega, by omega⟩
    rw [Int.toNat_natCast] at p1
    have e1 := kc_take p1
    have e2 : S.2.2.drop i = p :: S.2.2.drop (i + 1) := by
      obtain ⟨z1, z2⟩ := List.getElem?_eq_some_iff.mp p1
      rw [List.drop_eq_getElem_cons z1, z2]
    have hok := tr_ok_drop (P := P) (A := A) (B := B) i S.1 S.2.2 hI.2.1
    rw [e2] at hok
    have ht := hok.1
    have hnd := tr_nd_take (i + 1) S.2.2 hI.2.2.2
    rw [e1] at hnd
    have hlast := ((tr_nd_app _ _).mp hnd).2
    have hlb := tr_len_b hm (S.2.2.take i) (fun q hq => tr_ok_mem _ _ hI.2.1 q (List.mem_of_mem_take hq))
    have htl : (S.2.2.take i).length ≤ 18 := by rw [List.length_take]; omega
    obtain ⟨x1, g1, g2, g3⟩ := c_go (g := 1) (p := p) hk hm hx hr (Or.inr rfl) ⟨ht.1, ht.2.1⟩ (by dsimp only; omega) (by dsimp only; omega)
    have e5 : tr_go A B 1 p (S.1, tr_fin A B S.1 (S.2.2.take i), S.2.2.take i) = (S.1, tr_fin A B S.1 (S.2.2.take (i + 1)), S.2.2.take (i + 1)) := by
      unfold tr_go
      dsimp only
      rw [if_neg (by decide), if_neg hlast, e1, tr_fin_app]
    rw [e5] at g2
    obtain ⟨x', q1, q2, q3⟩ := ih (i + 1) x1 F (by omega) (by omega) (tc_md_of hx (by rw [g3 1 (by omega) (by omega) (by omega)]) (g3 7 (by omega) (by omega) (by omega)) (g3 8 (by omega) (by omega) (by omega)) (g3 9 (by omega) (by omega) (by omega))) (tc_rp_of hr0 (g3 _ (by omega) (by omega) (by omega)) (g3 _ (by omega) (by omega) (by omega)) (g3 _ (by omega) (by omega) (by omega))) g2
    refine ⟨x', ?_, q2, fun c c1 c2 c3 => by rw [q3 c c1 c2 c3, g3 c c1 c2 c3]⟩
    rw [tg_fx_s]
    generalize tg_fx (f_X1_become_B12 k k0) (fun _ _ => none) F = G at q1 ⊢
    unfold f_X1_become_B12
    simp only [tg_lt]
    rw [hr0.2.2.1, if_neg (by omega), p2, tg_bd_some, g1, tg_bd_some, tg_wi_e (by omega), show (i : Int) + 1 = ((i + 1 : Nat) : Int) by omega]
    exact q1
theorem c_become {S : tr_S} {k k0 : Nat} {x : tg_Mem} (hk : 10 ≤ k) (hkk : k0 + 2 < k) (hm : tr_md P A B Y) (hI : tr_I P A B S) (hl : S.2.2.length ≤ 18) (hx : tc_md x P A B Y) (hr : tc_rp Y k0 x S) (hk0 : 1 < k0 ∧ 9 < k0) : ∃ x', f_X1_become k k0 x = some (0, x') ∧ tc_rp Y k x' S ∧ ∀ c, c ≠ k → c ≠ k + 1 → c ≠ k + 2 → x' c = x c := by
  obtain ⟨x1, e1, e2, e3⟩ := c_standBoth (Y := Y) (k := k) (x := x) (a := S.1)
  obtain ⟨x', q1, q2, q3⟩ := c_becl hk hkk hm hI hl S.2.2.length 0 x1 tg_FU (by have := tg_FUg; omega) (by omega) (tc_md_of hx (by rw [e3 1 (by omega) (by omega)]) (e3 7 (by omega) (by omega)) (e3 8 (by omega) (by omega)) (e3 9 (by omega) (by omega))) (tc_rp_of hr (e3 _ (by omega) (by omega)) (e3 _ (by omega) (by omega)) (e3 _ (by omega) (by omega))) e2
  refine ⟨x', ?_, q2, fun c c1 c2 c3 => by rw [q3 c c1 c2 c3, e3 c c1 c2]⟩
  simp only [f_X1_become]
  rw [tg_ck_pos (by decide), hr.1, e1, tg_bd_some]
  exact q1
theorem c_play {S : tr_S} {k : Nat} {x : tg_Mem} {n bare : Int} (hcf : tr_cf P A B Y ρ w) (hk : 10 ≤ k ∧ k ≤ 18) (hn : 1 ≤ n ∧ n ≤ 5) (hS : ts_va P A B Y ρ S) (hx : tc_cf x P A B Y ρ h0 h1 w) (hr : tc_rp Y (k + 3) x S) (hb : x k 6 = bare) :
    ∃ x', f_X6_play k n x = some (tu_v P A B Y ρ w n.toNat 0 S bare, x') ∧ x' 32 3 = tu_p P A B Y ρ w n.toNat 0 S bare ∧ ∀ c, c ≠ 32 → c ≠ 33 → c ≠ 34 → c ≠ 35 → x' c = x c := by
  obtain ⟨x1, e1, e2, e3⟩ := c_become (k := 33) (k0 := k + 3) (by decide) (by omega) hcf.1 hS.1 (ts_va_l hcf.1 hcf.2.1.2 hS) hx.1 hr (by omega)
  obtain ⟨x2, hx2⟩ : ∃ x2, x2 = tg_up x1 32 2 bare := ⟨_, rfl⟩
  have f2 : ∀ c, c ≠ 32 → c ≠ 33 → c ≠ 34 → c ≠ 35 → x2 c = x c := fun c c1 c2 c3 c4 => by rw [hx2, tg_up_k c1, e3 c c2 c3 c4]
  have hG := c_gain (h0 := h0) (h1 := h1) hcf n.toNat 6 (by omega) (by omega)
  have hvb := tu_v_b (ρ := ρ) hcf.1 hcf.2.2 n.toNat 0 S bare (Or.inl rfl) hS
  obtain ⟨r, x3, q1, q2, q3, q4, q5, q6, q7, q8⟩ := hG 0 (-10000) 10000 bare S x2 (Or.inl rfl) (by decide) (by omega) (by omega) hS (tc_cf_32 hx f2) (tc_rp_of e2 (by rw [hx2, tg_up_k (by decide)]) (by rw [hx2, tg_up_k (by decide)]) (by rw [hx2, tg_up_k (by decide)])) (by rw [hx2, tg_up_same])
  have er := q2.2.1 (by omega) (by omega)
  refine ⟨x3, ?_, q7 (by omega) (by omega), fun c c1 c2 c3 c4 => by rw [q8 c c1 c2 c3 c4, f2 c c1 c2 c3 c4]⟩
  simp only [f_X6_play, tg_lt]
  rw [show ((n.toNat : Nat) : Int) = n by omega] at q1
  rw [e1, tg_bd_some, e3 k (by omega) (by omega) (by omega), hb, ← hx2, q1, tg_bd_some, er]
end PLAY
