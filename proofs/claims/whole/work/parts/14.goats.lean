-- the class's goats
def tc_md (x : tg_Mem) (P : Int) (A B Y : Int → Int) : Prop := x 1 8 = P ∧ ∀ p : Int, 0 ≤ p → p < P → x 7 p.toNat = A p ∧ x 8 p.toNat = B p ∧ x 9 p.toNat = Y p
def tc_rp (Y : Int → Int) (k : Nat) (x : tg_Mem) (S : Int × Int × List Int) : Prop :=
  x (k + 1) 0 = S.1 ∧ x (k + 1) 1 = S.2.1 ∧ x k 4 = S.2.2.length ∧ x k 5 = tr_len Y S.2.2 ∧ (0 ≤ x k 3 ∧ x k 3 < 64) ∧ S.2.2.length ≤ 63 ∧ ∀ i : Nat, i < S.2.2.length → S.2.2[i]? = some (x (k + 2) ((x k 3 + i) % 64).toNat)
theorem tc_md_of {x x' : tg_Mem} {P : Int} {A B Y : Int → Int} (h : tc_md x P A B Y) (h1 : x' 1 8 = x 1 8) (h7 : x' 7 = x 7) (h8 : x' 8 = x 8) (h9 : x' 9 = x 9) : tc_md x' P A B Y := by
  unfold tc_md at h ⊢
  rw [h1, h7, h8, h9]; exact h
theorem tc_rp_of {Y : Int → Int} {k : Nat} {x x' : tg_Mem} {S : Int × Int × List Int} (h : tc_rp Y k x S) (h0 : x' k = x k) (h1 : x' (k + 1) = x (k + 1)) (h2 : x' (k + 2) = x (k + 2)) : tc_rp Y k x' S := by
  unfold tc_rp at h ⊢
  rw [h0, h1, h2]; exact h
section TCG
variable {P : Int} {A B Y : Int → Int} {k : Nat} {x : tg_Mem} {S : Int × Int × List Int}
theorem c_yardsOf {p : Int} (hm : tr_md P A B Y) (hx : tc_md x P A B Y) (hp : 0 ≤ p ∧ p < P) : f_X2_yardsOf p x = some (Y p, x) := by
  have h1 := hm.2.1
  have h2 := (hx.2 p hp.1 hp.2).2.2
  have e : tg_iand p 7 = p := by rw [tg_iand7 (by omega)]; omega
  simp only [f_X2_yardsOf, e]
  rw [tg_ck_pos (by omega), h2]
theorem c_across {p pl : Int} (hm : tr_md P A B Y) (hx : tc_md x P A B Y) (hp : 0 ≤ p ∧ p < P) : f_X2_across p pl x = some (tr_oth A B p pl, x) := by
  have h1 := hm.2.1
  have h2 := hx.2 p hp.1 hp.2
  have e : tg_iand p 7 = p := by rw [tg_iand7 (by omega)]; omega
  simp only [f_X2_across, tg_lt, e]
  rw [tg_ck_pos (by omega), h2.1, h2.2.1]
  unfold tr_oth
  by_cases h : A p = pl
  · rw [if_neg (by omega), tg_ck_pos (by omega), if_pos h]
  · rw [if_pos h, tg_ck_pos (by omega), if_neg h]
theorem c_leadsT {p pl : Int} (hm : tr_md P A B Y) (hx : tc_md x P A B Y) (h : tr_tch P A B p pl) : f_X2_leadsFrom p pl x = some (1, x) := by
  have h1 := hm.2.1
  have h2 := hx.2 p h.1 h.2.1
  have h3 := hx.1
  have h4 := h.1
  have h5 := h.2.1
  simp only [f_X2_leadsFrom, tg_jn]
  rw [if_neg (by omega), if_neg (by omega), if_pos (by omega), tg_ck_pos (by omega), h2.1, h2.2.1]
  by_cases h6 : A p = pl
  · rw [if_pos h6]
  · rw [if_neg h6, tg_ck_pos (by omega)]
    rcases h.2.2 with q | q
    · exact absurd q h6
    · rw [if_neg (by omega)]
theorem c_leadsF {p pl : Int} (hm : tr_md P A B Y) (hx : tc_md x P A B Y) (h : ¬ tr_tch P A B p pl) : f_X2_leadsFrom p pl x = some (0, x) := by
  have h1 := hm.2.1
  have h3 := hx.1
  simp only [f_X2_leadsFrom, tg_jn]
  by_cases h4 : p < 0
  · rw [if_pos h4]
  · rw [if_neg h4]
    by_cases h5 : P ≤ p
    · rw [if_pos (by omega)]
    · rw [if_neg (by omega), if_pos (by omega), tg_ck_pos (by omega)]
      have h2 := hx.2 p (by omega) (by omega)
      have h6 : ¬ A p = pl := fun q => h ⟨by omega, by omega, Or.inl q⟩
      have h7 : ¬ B p = pl := fun q => h ⟨by omega, by omega, Or.inr q⟩
      rw [h2.1, h2.2.1, if_neg h6, tg_ck_pos (by omega), if_pos h7]
theorem c_canGoT {g p : Int} (hm : tr_md P A B Y) (hx : tc_md x P A B Y) (hr : tc_rp Y k x S) (hg : g = 0 ∨ g = 1) (h : tr_tch P A B p (tr_at g S)) : f_X1_canGo k g p x = some (1, x) := by
  have e : x (k + 1) g.toNat = tr_at g S := by
    unfold tr_at
    rcases hg with rfl | rfl
    · exact hr.1
    · exact hr.2.1
  simp only [f_X1_canGo, tg_jn]
  rw [b_isBelowT (by omega)]
  simp only [tg_bd_some]
  rw [if_neg (by decide), tg_ck_pos (by omega), e, c_leadsT hm hx h]
  simp only [tg_bd_some]
  rw [if_neg (by decide)]
theorem c_canGoF {g p : Int} (hm : tr_md P A B Y) (hx : tc_md x P A B Y) (hr : tc_rp Y k x S) (hg : g = 0 ∨ g = 1) (h : ¬ tr_tch P A B p (tr_at g S)) : f_X1_canGo k g p x = some (0, x) := by
  have e : x (k + 1) g.toNat = tr_at g S := by
    unfold tr_at
    rcases hg with rfl | rfl
    · exact hr.1
    · exact hr.2.1
  simp only [f_X1_canGo, tg_jn]
  rw [b_isBelowT (by omega)]
  simp only [tg_bd_some]
  rw [if_neg (by decide), tg_ck_pos (by omega), e, c_leadsF hm hx h]
  simp only [tg_bd_some]
  rfl
theorem c_nextTo {g : Int} (hr : tc_rp Y k x S) (hg : g = 0 ∨ g = 1) : f_X1_nextTo k g x = some (tr_nx g S.2.2, x) := by
  obtain ⟨a, b, r⟩ := S
  obtain ⟨h1, h2, h3, h4, h5, h6, h7⟩ := hr
  dsimp only at h1 h2 h3 h4 h5 h6 h7
  simp only [f_X1_nextTo, tg_jn]
  by_cases h0 : r.length = 0
  · have hn : r = [] := List.eq_nil_of_length_eq_zero h0
    subst hn
    rw [if_neg (by rw [h3]; simp)]
    unfold tr_nx
    rcases hg with rfl | rfl <;> rfl
  · rw [if_pos (by omega)]
    rcases hg with rfl | rfl
    · rw [if_neg (by decide)]
      have e := h7 0 (by omega)
      have e2 : (x k 3 + ((0 : Nat) : Int)) % 64 = x k 3 := by omega
      rw [e2] at e
      have e3 : tg_iand (x k 3) 63 = x k 3 := by rw [tg_iand63 (by omega)]; omega
      rw [e3, tg_ck_pos (by omega)]
      unfold tr_nx
      rw [if_pos rfl, List.head?_eq_getElem?, e]; rfl
    · rw [if_pos (by decide)]
      have e := h7 (r.length - 1) (by omega)
      have e2 : ((x k 3 + ((r.length - 1 : Nat) : Int)) % 64) = (x k 3 + x k 4 - 1) % 64 := by rw [h3]; omega
      rw [e2] at e
      rw [tg_wi_e (a := x k 3 + x k 4) (by omega), tg_wi_e (by omega), tg_iand63 (by omega), tg_ck_pos (by omega)]
      unfold tr_nx
      rw [if_neg (by decide), List.getLast?_eq_getElem?, e]; rfl
theorem c_pathAt {i : Int} (hr : tc_rp Y k x S) (hi : 0 ≤ i ∧ i < S.2.2.length) : ∃ p, S.2.2[i.toNat]? = some p ∧ f_X1_pathAt k i x = some (p, x) := by
  obtain ⟨h1, h2, h3, h4, h5, h6, h7⟩ := hr
  have e := h7 i.toNat (by omega)
  refine ⟨_, e, ?_⟩
  simp only [f_X1_pathAt, tg_jn]
  rw [if_neg (by omega), if_neg (by omega), tg_wi_e (by omega), tg_iand63 (by omega), tg_ck_pos (by omega), Int.toNat_of_nonneg hi.1]
theorem c_pathAtN {i : Int} (hr : tc_rp Y k x S) (hi : ¬ (0 ≤ i ∧ i < S.2.2.length)) : f_X1_pathAt k i x = some (-1, x) := by
  have h3 := hr.2.2.1
  simp only [f_X1_pathAt, tg_jn]
  by_cases h : i < 0
  · rw [if_pos h]
  · rw [if_neg h, if_pos (by omega)]
theorem c_standBoth {a : Int} : ∃ x', f_X1_standBoth k a x = some (0, x') ∧ tc_rp Y k x' (a, a, []) ∧ (∀ c, c ≠ k → c ≠ k + 1 → x' c = x c) := by
  refine ⟨tg_up (tg_up (tg_up (tg_up (tg_up x (k + 1) 0 a) (k + 1) 1 a) k 3 0) k 4 0) k 5 0, ?_, ⟨?_, ?_, ?_, ?_, ?_, ?_, ?_⟩, ?_⟩
  · simp (disch := omega) only [tg_lt, tg_jn, tg_bd_some, tg_ck_pos, if_pos, if_neg, tg_wi_e, tg_up_ss, tg_up_nk, tg_up_nj, ne_eq, not_true_eq_false, not_false_eq_true, if_true, if_false, Nat.reduceAdd, f_X1_standBoth]
  · rw [tg_up_k (by omega), tg_up_k (by omega), tg_up_k (by omega), tg_up_j (by decide), tg_up_same]
  · rw [tg_up_k (by omega), tg_up_k (by omega), tg_up_k (by omega), tg_up_same]
  · rw [tg_up_j (by decide), tg_up_same]; rfl
  · rw [tg_up_same]; rfl
  · rw [tg_up_j (by decide), tg_up_j (by decide), tg_up_same]; omega
  · show 0 ≤ 63; omega
  · intro i hi; cases hi
  · intro c h1 h2
    rw [tg_up_k h1, tg_up_k h1, tg_up_k h1, tg_up_k h2, tg_up_k h2]
theorem c_go {g p : Int} (hk : 10 ≤ k) (hm : tr_md P A B Y) (hx : tc_md x P A B Y) (hr : tc_rp Y k x S) (hg : g = 0 ∨ g = 1) (hp : 0 ≤ p ∧ p < P) (hY : 0 ≤ tr_len Y S.2.2 ∧ tr_len Y S.2.2 ≤ 1000) (hlen : S.2.2.length ≤ 62) :
    ∃ x', f_X1_go k g p x = some (0, x') ∧ tc_rp Y k x' (tr_go A B g p S) ∧ (∀ c, c ≠ k → c ≠ k + 1 → c ≠ k + 2 → x' c = x c) := by
  have hnx := c_nextTo hr hg
  have hYp := (hm.2.2 p hp.1 hp.2).2.2.2
  obtain ⟨a, b, r⟩ := S
  obtain ⟨h1, h2, h3, h4, h5, h6, h7⟩ := hr
  dsimp only at h1 h2 h3 h4 h5 h6 h7 hnx hlen hY
  by_cases hn : tr_nx g r = p
  · -- it takes that path up
    have hgo := tr_go_T (A := A) (B := B) (S := (a, b, r)) hg hp.1 hn
    have hpos : 0 < r.length := by
      rw [tr_nx_iff hp.1] at hn
      cases r with
      | nil => rcases hg with rfl | rfl <;> simp at hn
      | cons q r => simp
    rcases hg with rfl | rfl
    · rw [if_pos rfl] at hgo
      obtain ⟨q, r', rfl⟩ : ∃ q r', r = q :: r' := by
        cases r with
        | nil => simp at hpos
        | cons q r' => exact ⟨q, r', rfl⟩
      have hq : q = p := by
        rw [tr_nx_iff hp.1, if_pos rfl] at hn
        exact Option.some.inj hn
      subst hq
      obtain ⟨x1, hx1⟩ : ∃ x1, x1 = tg_up (tg_up x k 4 (x k 4 - 1)) k 3 ((x k 3 + 1) % 64) := ⟨_, rfl⟩
      have e1 : f_X1_takeUp k 0 x = some (0, x1) := by
        simp only [f_X1_takeUp, tg_lt]
        rw [if_neg (by decide), tg_wi_e (a := x k 4 - 1) (by omega), tg_up_j (by decide : (3 : Nat) ≠ 4), tg_wi_e (by omega), tg_iand63 (by omega), hx1]
      have g1 : ∀ c, c ≠ k → x1 c = x c := fun c hc => by rw [hx1, tg_up_k hc, tg_up_k hc]
      have hxm : tc_md x1 P A B Y := tc_md_of hx (by rw [g1 1 (by omega)]) (g1 7 (by omega)) (g1 8 (by omega)) (g1 9 (by omega))
      have k5 : x1 k 5 = x k 5 := by rw [hx1, tg_up_j (by decide), tg_up_j (by decide)]
      obtain ⟨x2, hx2⟩ : ∃ x2, x2 = tg_up x1 k 5 (x k 5 - Y q) := ⟨_, rfl⟩
      have g2 : ∀ c, c ≠ k → x2 c = x c := fun c hc => by rw [hx2, tg_up_k hc, g1 c hc]
      have hxm2 : tc_md x2 P A B Y := tc_md_of hx (by rw [g2 1 (by omega)]) (g2 7 (by omega)) (g2 8 (by omega)) (g2 9 (by omega))
      refine ⟨tg_up x2 (k + 1) 0 (tr_oth A B q a), ?_, ?_, fun c c1 c2 c3 => by rw [tg_up_k c2, g2 c c1]⟩
      · simp only [f_X1_go, tg_jn, tg_lt]
        rw [b_isBelowT (by omega)]
        simp only [tg_bd_some]
        rw [if_pos (by decide), hnx]
        simp only [tg_bd_some]
        rw [if_neg (fun z => z hn), e1]
        simp only [tg_bd_some]
        rw [c_yardsOf hm hxm hp]
        simp only [tg_bd_some]
        rw [k5, tg_wi_e (by omega), ← hx2, tg_ck_pos (by omega), c_across hm hxm2 hp]
        simp only [tg_bd_some]
        rw [tg_ck_pos (by omega), g2 (k + 1) (by omega)]
        show some (0, tg_up x2 (k + 1) 0 (tr_oth A B q (x (k + 1) 0))) = _
        rw [h1]
      · rw [hgo]
        simp only [List.length_cons, tr_len] at h3 h4 h6
        have a3 : x2 k 3 = (x k 3 + 1) % 64 := by rw [hx2, tg_up_j (by decide), hx1, tg_up_same]
        have a4 : x2 k 4 = x k 4 - 1 := by rw [hx2, tg_up_j (by decide), hx1, tg_up_j (by decide), tg_up_same]
        refine ⟨tg_up_same _ _ _ _, ?_, ?_, ?_, ?_, ?_, fun i hi => ?_⟩
        · rw [tg_up_j (by decide), g2 _ (by omega), h2]
        · rw [tg_up_k (by omega), a4, h3]; show _ = ((r'.length : Nat) : Int); omega
        · rw [tg_up_k (by omega), hx2, tg_up_same, h4]; show _ = tr_len Y r'; omega
        · rw [tg_up_k (by omega), a3]; omega
        · show r'.length ≤ 63; omega
        · have hi2 : i < r'.length := hi
          have e := h7 (i + 1) (by simp only [List.length_cons]; omega)
          rw [tg_up_k (by omega), tg_up_k (by omega : k ≠ k + 1), g2 _ (by omega), a3]
          show r'[i]? = _
          rw [List.getElem?_cons_succ] at e
          rw [e]
          congr 3
          omega
    · rw [if_neg (by decide)] at hgo
      obtain ⟨x1, hx1⟩ : ∃ x1, x1 = tg_up x k 4 (x k 4 - 1) := ⟨_, rfl⟩
      have e1 : f_X1_takeUp k 1 x = some (0, x1) := by
        simp only [f_X1_takeUp, tg_lt]
        rw [if_pos (by decide), tg_wi_e (a := x k 4 - 1) (by omega), hx1]
      have g1 : ∀ c, c ≠ k → x1 c = x c := fun c hc => by rw [hx1, tg_up_k hc]
      have hxm : tc_md x1 P A B Y := tc_md_of hx (by rw [g1 1 (by omega)]) (g1 7 (by omega)) (g1 8 (by omega)) (g1 9 (by omega))
      have k5 : x1 k 5 = x k 5 := by rw [hx1, tg_up_j (by decide)]
      obtain ⟨x2, hx2⟩ : ∃ x2, x2 = tg_up x1 k 5 (x k 5 - Y p) := ⟨_, rfl⟩
      have g2 : ∀ c, c ≠ k → x2 c = x c := fun c hc => by rw [hx2, tg_up_k hc, g1 c hc]
      have hxm2 : tc_md x2 P A B Y := tc_md_of hx (by rw [g2 1 (by omega)]) (g2 7 (by omega)) (g2 8 (by omega)) (g2 9 (by omega))
      have hlenY : tr_len Y r.dropLast = tr_len Y r - Y p := by
        have := tr_go_len (Y := Y) (A := A) (B := B) (S := (a, b, r)) (g := 1) (p := p) (Or.inr rfl) hp.1
        rw [hgo, if_pos hn] at this
        exact this
      refine ⟨tg_up x2 (k + 1) 1 (tr_oth A B p b), ?_, ?_, fun c c1 c2 c3 => by rw [tg_up_k c2, g2 c c1]⟩
      · simp only [f_X1_go, tg_jn, tg_lt]
        rw [b_isBelowT (by omega)]
        simp only [tg_bd_some]
        rw [if_pos (by decide), hnx]
        simp only [tg_bd_some]
        rw [if_neg (fun z => z hn), e1]
        simp only [tg_bd_some]
        rw [c_yardsOf hm hxm hp]
        simp only [tg_bd_some]
        rw [k5, tg_wi_e (by omega), ← hx2, tg_ck_pos (by omega), c_across hm hxm2 hp]
        simp only [tg_bd_some]
        rw [tg_ck_pos (by omega), g2 (k + 1) (by omega)]
        show some (0, tg_up x2 (k + 1) 1 (tr_oth A B p (x (k + 1) 1))) = _
        rw [h2]
      · rw [hgo]
        have a3 : x2 k 3 = x k 3 := by rw [hx2, tg_up_j (by decide), hx1, tg_up_j (by decide)]
        have a4 : x2 k 4 = x k 4 - 1 := by rw [hx2, tg_up_j (by decide), hx1, tg_up_same]
        refine ⟨?_, tg_up_same _ _ _ _, ?_, ?_, ?_, ?_, fun i hi => ?_⟩
        · rw [tg_up_j (by decide), g2 _ (by omega), h1]
        · rw [tg_up_k (by omega), a4, h3]; show _ = ((r.dropLast.length : Nat) : Int); rw [List.length_dropLast]; omega
        · rw [tg_up_k (by omega), hx2, tg_up_same, h4]; exact hlenY.symm
        · rw [tg_up_k (by omega), a3]; exact h5
        · show r.dropLast.length ≤ 63; rw [List.length_dropLast]; omega
        · have hi2 : i < r.dropLast.length := hi
          rw [List.length_dropLast] at hi2
          have e := h7 i (by omega)
          rw [tg_up_k (by omega), tg_up_k (by omega : k ≠ k + 1), g2 _ (by omega), a3]
          show r.dropLast[i]? = _
          rw [List.getElem?_dropLast, if_pos hi2, e]
  · -- the path comes to its end
    have hgo := tr_go_F (A := A) (B := B) (S := (a, b, r)) hg hp.1 hn
    rcases hg with rfl | rfl
    · rw [if_pos rfl] at hgo
      obtain ⟨x1, hx1⟩ : ∃ x1, x1 = tg_up (tg_up (tg_up x k 4 (x k 4 + 1)) k 3 ((x k 3 - 1) % 64)) (k + 2) ((x k 3 - 1) % 64).toNat p := ⟨_, rfl⟩
      have e1 : f_X1_layDown k 0 p x = some (0, x1) := by
        simp only [f_X1_layDown, tg_lt]
        rw [if_neg (by decide), tg_wi_e (a := x k 4 + 1) (by omega), tg_up_j (by decide : (3 : Nat) ≠ 4), tg_wi_e (by omega), tg_iand63p (by omega), tg_up_same, tg_ck_pos (by omega), hx1]
      have g1 : ∀ c, c ≠ k → c ≠ k + 2 → x1 c = x c := fun c hc hc2 => by rw [hx1, tg_up_k hc2, tg_up_k hc, tg_up_k hc]
      have hxm : tc_md x1 P A B Y := tc_md_of hx (by rw [g1 1 (by omega) (by omega)]) (g1 7 (by omega) (by omega)) (g1 8 (by omega) (by omega)) (g1 9 (by omega) (by omega))
      have k5 : x1 k 5 = x k 5 := by rw [hx1, tg_up_k (by omega), tg_up_j (by decide), tg_up_j (by decide)]
      obtain ⟨x2, hx2⟩ : ∃ x2, x2 = tg_up x1 k 5 (x k 5 + Y p) := ⟨_, rfl⟩
      have g2 : ∀ c, c ≠ k → c ≠ k + 2 → x2 c = x c := fun c hc hc2 => by rw [hx2, tg_up_k hc, g1 c hc hc2]
      have hxm2 : tc_md x2 P A B Y := tc_md_of hx (by rw [g2 1 (by omega) (by omega)]) (g2 7 (by omega) (by omega)) (g2 8 (by omega) (by omega)) (g2 9 (by omega) (by omega))
      refine ⟨tg_up x2 (k + 1) 0 (tr_oth A B p a), ?_, ?_, fun c c1 c2 c3 => by rw [tg_up_k c2, g2 c c1 c3]⟩
      · simp only [f_X1_go, tg_jn, tg_lt]
        rw [b_isBelowT (by omega)]
        simp only [tg_bd_some]
        rw [if_pos (by decide), hnx]
        simp only [tg_bd_some]
        rw [if_pos hn, e1]
        simp only [tg_bd_some]
        rw [c_yardsOf hm hxm hp]
        simp only [tg_bd_some]
        rw [k5, tg_wi_e (by omega), ← hx2, tg_ck_pos (by omega), c_across hm hxm2 hp]
        simp only [tg_bd_some]
        rw [tg_ck_pos (by omega), g2 (k + 1) (by omega) (by omega)]
        show some (0, tg_up x2 (k + 1) 0 (tr_oth A B p (x (k + 1) 0))) = _
        rw [h1]
      · rw [hgo]
        have a3 : x2 k 3 = (x k 3 - 1) % 64 := by rw [hx2, tg_up_j (by decide), hx1, tg_up_k (by omega), tg_up_same]
        have a4 : x2 k 4 = x k 4 + 1 := by rw [hx2, tg_up_j (by decide), hx1, tg_up_k (by omega), tg_up_j (by decide), tg_up_same]
        have ar : ∀ i : Nat, i ≠ ((x k 3 - 1) % 64).toNat → x2 (k + 2) i = x (k + 2) i := fun i hi => by rw [hx2, tg_up_k (by omega), hx1, tg_up_j hi, tg_up_k (by omega), tg_up_k (by omega)]
        have a0 : x2 (k + 2) ((x k 3 - 1) % 64).toNat = p := by rw [hx2, tg_up_k (by omega), hx1, tg_up_same]
        refine ⟨tg_up_same _ _ _ _, ?_, ?_, ?_, ?_, ?_, fun i hi => ?_⟩
        · rw [tg_up_j (by decide), g2 _ (by omega) (by omega), h2]
        · rw [tg_up_k (by omega), a4, h3]; show _ = (((p :: r).length : Nat) : Int); rw [List.length_cons]; omega
        · rw [tg_up_k (by omega), hx2, tg_up_same, h4]; show _ = Y p + tr_len Y r; omega
        · rw [tg_up_k (by omega), a3]; omega
        · show (p :: r).length ≤ 63; rw [List.length_cons]; omega
        · have hi2 : i < (p :: r).length := hi
          rw [List.length_cons] at hi2
          rw [tg_up_k (by omega), tg_up_k (by omega : k ≠ k + 1), a3]
          show (p :: r)[i]? = _
          cases i with
          | zero =>
            rw [List.getElem?_cons_zero]
            have e : ((x k 3 - 1) % 64 + ((0 : Nat) : Int)) % 64 = (x k 3 - 1) % 64 := by omega
            rw [e, a0]
          | succ i =>
            rw [List.getElem?_cons_succ, h7 i (by omega), ar _ (by omega)]
            congr 3
            omega
    · rw [if_neg (by decide)] at hgo
      obtain ⟨x1, hx1⟩ : ∃ x1, x1 = tg_up (tg_up x k 4 (x k 4 + 1)) (k + 2) ((x k 3 + x k 4) % 64).toNat p := ⟨_, rfl⟩
      have e1 : f_X1_layDown k 1 p x = some (0, x1) := by
        simp only [f_X1_layDown, tg_lt]
        have e9 : x k 3 + (x k 4 + 1) - 1 = x k 3 + x k 4 := by omega
        rw [if_pos (by decide), tg_wi_e (a := x k 4 + 1) (by omega), tg_up_j (by decide : (3 : Nat) ≠ 4), tg_up_same, tg_wi_e (a := x k 3 + (x k 4 + 1)) (by omega), tg_wi_e (by omega), tg_iand63 (by omega), tg_ck_pos (by omega), e9, hx1]
      have g1 : ∀ c, c ≠ k → c ≠ k + 2 → x1 c = x c := fun c hc hc2 => by rw [hx1, tg_up_k hc2, tg_up_k hc]
      have hxm : tc_md x1 P A B Y := tc_md_of hx (by rw [g1 1 (by omega) (by omega)]) (g1 7 (by omega) (by omega)) (g1 8 (by omega) (by omega)) (g1 9 (by omega) (by omega))
      have k5 : x1 k 5 = x k 5 := by rw [hx1, tg_up_k (by omega), tg_up_j (by decide)]
      obtain ⟨x2, hx2⟩ : ∃ x2, x2 = tg_up x1 k 5 (x k 5 + Y p) := ⟨_, rfl⟩
      have g2 : ∀ c, c ≠ k → c ≠ k + 2 → x2 c = x c := fun c hc hc2 => by rw [hx2, tg_up_k hc, g1 c hc hc2]
      have hxm2 : tc_md x2 P A B Y := tc_md_of hx (by rw [g2 1 (by omega) (by omega)]) (g2 7 (by omega) (by omega)) (g2 8 (by omega) (by omega)) (g2 9 (by omega) (by omega))
      refine ⟨tg_up x2 (k + 1) 1 (tr_oth A B p b), ?_, ?_, fun c c1 c2 c3 => by rw [tg_up_k c2, g2 c c1 c3]⟩
      · simp only [f_X1_go, tg_jn, tg_lt]
        rw [b_isBelowT (by omega)]
        simp only [tg_bd_some]
        rw [if_pos (by decide), hnx]
        simp only [tg_bd_some]
        rw [if_pos hn, e1]
        simp only [tg_bd_some]
        rw [c_yardsOf hm hxm hp]
        simp only [tg_bd_some]
        rw [k5, tg_wi_e (by omega), ← hx2, tg_ck_pos (by omega), c_across hm hxm2 hp]
        simp only [tg_bd_some]
        rw [tg_ck_pos (by omega), g2 (k + 1) (by omega) (by omega)]
        show some (0, tg_up x2 (k + 1) 1 (tr_oth A B p (x (k + 1) 1))) = _
        rw [h2]
      · rw [hgo]
        have a3 : x2 k 3 = x k 3 := by rw [hx2, tg_up_j (by decide), hx1, tg_up_k (by omega), tg_up_j (by decide)]
        have a4 : x2 k 4 = x k 4 + 1 := by rw [hx2, tg_up_j (by decide), hx1, tg_up_k (by omega), tg_up_same]
        have ar : ∀ i : Nat, i ≠ ((x k 3 + x k 4) % 64).toNat → x2 (k + 2) i = x (k + 2) i := fun i hi => by rw [hx2, tg_up_k (by omega), hx1, tg_up_j hi, tg_up_k (by omega)]
        have a0 : x2 (k + 2) ((x k 3 + x k 4) % 64).toNat = p := by rw [hx2, tg_up_k (by omega), hx1, tg_up_same]
        refine ⟨?_, tg_up_same _ _ _ _, ?_, ?_, ?_, ?_, fun i hi => ?_⟩
        · rw [tg_up_j (by decide), g2 _ (by omega) (by omega), h1]
        · rw [tg_up_k (by omega), a4, h3]; show _ = (((r ++ [p]).length : Nat) : Int); rw [List.length_append]; simp
        · rw [tg_up_k (by omega), hx2, tg_up_same, h4]; show _ = tr_len Y (r ++ [p]); rw [tr_len_app]; simp [tr_len]
        · rw [tg_up_k (by omega), a3]; exact h5
        · show (r ++ [p]).length ≤ 63; rw [List.length_append]; simp; omega
        · have hi2 : i < (r ++ [p]).length := hi
          rw [List.length_append, List.length_singleton] at hi2
          rw [tg_up_k (by omega), tg_up_k (by omega : k ≠ k + 1), a3]
          show (r ++ [p])[i]? = _
          by_cases hil : i < r.length
          · rw [List.getElem?_append_left hil, h7 i hil, ar _ (by omega)]
          · have e : i = r.length := by omega
            subst e
            rw [List.getElem?_append_right (Nat.le_refl _), Nat.sub_self]
            have e2 : (x k 3 + ((r.length : Nat) : Int)) % 64 = (x k 3 + x k 4) % 64 := by rw [h3]
            rw [e2, a0]; rfl
end TCG
