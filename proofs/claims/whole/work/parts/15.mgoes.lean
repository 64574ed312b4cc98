-- the reference's goats
def tm_md (m : tg_Mem) (P : Int) (A B Y : Int → Int) : Prop := m 0 8 = P ∧ ∀ p : Int, 0 ≤ p → p < P → m 7 (3 * p).toNat = A p ∧ m 7 (3 * p + 1).toNat = B p ∧ m 7 (3 * p + 2).toNat = Y p
def tm_rp (Y : Int → Int) (m : tg_Mem) (S : Int × Int × List Int) : Prop :=
  m 11 0 = S.1 ∧ m 11 1 = S.2.1 ∧ m 0 15 = S.2.2.length ∧ m 0 16 = tr_len Y S.2.2 ∧ S.2.2.length ≤ 63 ∧ ∀ i : Nat, i < S.2.2.length → S.2.2[i]? = some (m 12 i)
theorem tm_md_of {m m' : tg_Mem} {P : Int} {A B Y : Int → Int} (h : tm_md m P A B Y) (h1 : m' 0 8 = m 0 8) (h7 : m' 7 = m 7) : tm_md m' P A B Y := by
  unfold tm_md at h ⊢
  rw [h1, h7]; exact h
theorem tm_rp_of {Y : Int → Int} {m m' : tg_Mem} {S : Int × Int × List Int} (h : tm_rp Y m S) (h1 : m' 11 = m 11) (h2 : m' 12 = m 12) (h3 : m' 0 15 = m 0 15) (h4 : m' 0 16 = m 0 16) : tm_rp Y m' S := by
  unfold tm_rp at h ⊢
  rw [h1, h2, h3, h4]; exact h
section TMG
variable {P : Int} {A B Y : Int → Int} {m : tg_Mem} {S : Int × Int × List Int}
theorem r_touchT {p pl : Int} (hm : tr_md P A B Y) (hx : tm_md m P A B Y) (h : tr_tch P A B p pl) : f_X8_touches p pl m = some (1, m) := by
  have h1 := hm.2.1
  have h2 := hx.2 p h.1 h.2.1
  have h4 := h.1
  have h5 := h.2.1
  simp only [f_X8_touches, tg_jn]
  rw [tg_wi_e (a := 3 * p) (by omega), tg_ck_pos (by omega), h2.1]
  by_cases h6 : A p = pl
  · rw [if_pos h6]
  · rw [if_neg h6, tg_wi_e (by omega), tg_ck_pos (by omega), h2.2.1]
    rcases h.2.2 with q | q
    · exact absurd q h6
    · rw [if_neg (by omega)]
theorem r_touchF {p pl : Int} (hm : tr_md P A B Y) (hx : tm_md m P A B Y) (hp : 0 ≤ p ∧ p < P) (h : ¬ tr_tch P A B p pl) : f_X8_touches p pl m = some (0, m) := by
  have h1 := hm.2.1
  have h2 := hx.2 p hp.1 hp.2
  have h6 : ¬ A p = pl := fun q => h ⟨hp.1, hp.2, Or.inl q⟩
  have h7 : ¬ B p = pl := fun q => h ⟨hp.1, hp.2, Or.inr q⟩
  simp only [f_X8_touches, tg_jn]
  rw [tg_wi_e (a := 3 * p) (by omega), tg_ck_pos (by omega), h2.1, if_neg h6, tg_wi_e (by omega), tg_ck_pos (by omega), h2.2.1, if_pos h7]
theorem r_other {p pl : Int} (hm : tr_md P A B Y) (hx : tm_md m P A B Y) (h : tr_tch P A B p pl) (hpl : 0 ≤ pl ∧ pl ≤ 7) : f_X8_otherEnd p pl m = some (tr_oth A B p pl, m) := by
  have h1 := hm.2.1
  have h2 := hx.2 p h.1 h.2.1
  have h3 := hm.2.2 p h.1 h.2.1
  have h4 := h.1
  have h5 := h.2.1
  simp only [f_X8_otherEnd]
  rw [tg_wi_e (a := 3 * p) (by omega), tg_ck_pos (by omega), tg_wi_e (a := 3 * p + 1) (by omega), tg_ck_pos (by omega), h2.1, h2.2.1, tg_wi_e (a := A p + B p) (by omega), tg_wi_e (by omega), tr_oth_sum h]
theorem r_next {g : Int} (hr : tm_rp Y m S) (hg : g = 0 ∨ g = 1) : f_X8_next g m = some (tr_nx g S.2.2, m) := by
  obtain ⟨a, b, r⟩ := S
  obtain ⟨h1, h2, h3, h4, h6, h7⟩ := hr
  dsimp only at h1 h2 h3 h4 h6 h7
  simp only [f_X8_next]
  by_cases h0 : r.length = 0
  · have hn : r = [] := List.eq_nil_of_length_eq_zero h0
    subst hn
    rw [if_neg (by rw [h3]; simp)]
    unfold tr_nx
    rcases hg with rfl | rfl <;> rfl
  · rw [if_pos (by omega)]
    rcases hg with rfl | rfl
    · rw [if_neg (by decide), tg_ck_pos (by omega)]
      unfold tr_nx
      rw [if_pos rfl, List.head?_eq_getElem?, h7 0 (by omega)]; rfl
    · rw [if_pos (by decide), tg_wi_e (by omega), tg_ck_pos (by omega)]
      have e : (m 0 15 - 1).toNat = r.length - 1 := by omega
      unfold tr_nx
      rw [if_neg (by decide), List.getLast?_eq_getElem?, h7 (r.length - 1) (by omega), e]; rfl
theorem r_lenB {g p : Int} (hm : tr_md P A B Y) (hx : tm_md m P A B Y) (hr : tm_rp Y m S) (hg : g = 0 ∨ g = 1) (hp : 0 ≤ p ∧ p < P) (hY : 0 ≤ tr_len Y S.2.2 ∧ tr_len Y S.2.2 ≤ 1000) : f_X8_lengthBehind g p m = some (tr_len Y (tr_go A B g p S).2.2, m) := by
  have h1 := hm.2.1
  have h2 := hx.2 p hp.1 hp.2
  have h3 := hm.2.2 p hp.1 hp.2
  have h4 := hr.2.2.2.1
  simp only [f_X8_lengthBehind]
  rw [r_next hr hg, tr_go_len hg hp.1]
  simp only [tg_bd_some]
  rw [tg_wi_e (a := 3 * p) (by omega), tg_wi_e (a := 3 * p + 2) (by omega), h2.2.2, h4]
  by_cases h : tr_nx g S.2.2 = p
  · rw [if_neg (fun z => z h), tg_ck_pos (by omega), tg_wi_e (by omega), if_pos h]
  · rw [if_pos h, tg_ck_pos (by omega), tg_wi_e (by omega), if_neg h]
theorem r_shl {j : tg_Mem → tg_R} {L : Int} (hL : L ≤ 63) : ∀ (n : Nat) (v : Int) (m : tg_Mem), 1 ≤ v → v ≤ L → L - v < n → m 0 15 = L → ∃ m', tg_fx (f_X8_goes_B80 j) (fun _ _ => none) n v m = j m' ∧ (∀ c, c ≠ 12 → m' c = m c) ∧ ∀ i : Nat, m' 12 i = if v - 1 ≤ (i : Int) ∧ (i : Int) + 1 < L then m 12 (i + 1) else m 12 i := by
  intro n
  induction n with
  | zero => intro v m h1 h0 h2 h3; omega
  | succ n ih =>
    intro v m h1 h0 h2 h3
    rw [tg_fx_s]
    by_cases hv : L ≤ v
    · refine ⟨m, ?_, fun _ _ => rfl, fun i => by rw [if_neg (by omega)]⟩
      unfold f_X8_goes_B80
      rw [if_pos (by omega)]
    · obtain ⟨m1, hm1⟩ : ∃ m1, m1 = tg_up m 12 (v - 1).toNat (m 12 v.toNat) := ⟨_, rfl⟩
      have e : f_X8_goes_B80 j (tg_fx (f_X8_goes_B80 j) (fun _ _ => none) n) v m = tg_fx (f_X8_goes_B80 j) (fun _ _ => none) n (v + 1) m1 := by
        unfold f_X8_goes_B80
        simp only [tg_lt]
        rw [if_neg (by omega), tg_ck_pos (by omega), tg_wi_e (a := v - 1) (by omega), tg_ck_pos (by omega), ← hm1, tg_wi_e (by omega)]
      rw [e]
      obtain ⟨m', q1, q2, q3⟩ := ih (v + 1) m1 (by omega) (by omega) (by omega) (by rw [hm1, tg_up_k (by decide)]; exact h3)
      refine ⟨m', q1, fun c hc => by rw [q2 c hc, hm1, tg_up_k hc], fun i => ?_⟩
      rw [q3 i]
      by_cases c1 : (i : Int) = v - 1
      · rw [if_neg (by omega), if_pos (by omega), hm1]
        have e2 : i = (v - 1).toNat := by omega
        rw [e2, tg_up_same]
        congr 1; omega
      · have a1 : ∀ i' : Nat, (i' : Int) ≠ v - 1 → m1 12 i' = m 12 i' := fun i' h => by rw [hm1, tg_up_j (by omega)]
        by_cases c2 : v + 1 - 1 ≤ (i : Int) ∧ (i : Int) + 1 < L
        · rw [if_pos c2, if_pos (by omega), a1 _ (by omega)]
        · rw [if_neg c2, if_neg (by omega), a1 _ c1]
theorem r_shr {j : tg_Mem → tg_R} : ∀ (n : Nat) (v : Int) (m : tg_Mem), 0 ≤ v → v ≤ 63 → v < n → ∃ m', tg_fx (f_X8_goes_B125 j) (fun _ _ => none) n v m = j m' ∧ (∀ c, c ≠ 12 → m' c = m c) ∧ ∀ i : Nat, m' 12 i = if 1 ≤ i ∧ (i : Int) ≤ v then m 12 (i - 1) else m 12 i := by
  intro n
  induction n with
  | zero => intro v m h1 h2 h3; omega
  | succ n ih =>
    intro v m h1 h2 h3
    rw [tg_fx_s]
    by_cases hv : v ≤ 0
    · refine ⟨m, ?_, fun _ _ => rfl, fun i => by rw [if_neg (by omega)]⟩
      unfold f_X8_goes_B125
      rw [if_pos (by omega)]
    · obtain ⟨m1, hm1⟩ : ∃ m1, m1 = tg_up m 12 v.toNat (m 12 (v - 1).toNat) := ⟨_, rfl⟩
      have e : f_X8_goes_B125 j (tg_fx (f_X8_goes_B125 j) (fun _ _ => none) n) v m = tg_fx (f_X8_goes_B125 j) (fun _ _ => none) n (v - 1) m1 := by
        unfold f_X8_goes_B125
        simp only [tg_lt]
        rw [if_neg (by omega), tg_wi_e (a := v - 1) (by omega), tg_ck_pos (by omega), tg_ck_pos (by omega), ← hm1, tg_wi_e (by omega)]
        rfl
      rw [e]
      obtain ⟨m', q1, q2, q3⟩ := ih (v - 1) m1 (by omega) (by omega) (by omega)
      refine ⟨m', q1, fun c hc => by rw [q2 c hc, hm1, tg_up_k hc], fun i => ?_⟩
      rw [q3 i]
      have a1 : ∀ i' : Nat, (i' : Int) ≠ v → m1 12 i' = m 12 i' := fun i' h => by rw [hm1, tg_up_j (by omega)]
      by_cases c1 : (i : Int) = v
      · rw [if_neg (by omega), if_pos (by omega), hm1]
        have e2 : i = v.toNat := by omega
        rw [e2, tg_up_same]
        congr 1; omega
      · by_cases c2 : 1 ≤ i ∧ (i : Int) ≤ v - 1
        · rw [if_pos c2, if_pos (by omega), a1 _ (by omega)]
        · rw [if_neg c2, if_neg (by omega), a1 _ c1]
theorem r_goes {g p : Int} (hm : tr_md P A B Y) (hx : tm_md m P A B Y) (hr : tm_rp Y m S) (hg : g = 0 ∨ g = 1) (ht : tr_tch P A B p (tr_at g S)) (hat : 0 ≤ tr_at g S ∧ tr_at g S ≤ 7) (hY : 0 ≤ tr_len Y S.2.2 ∧ tr_len Y S.2.2 ≤ 1000) (hlen : S.2.2.length ≤ 62) :
    ∃ m', f_X8_goes g p m = some (0, m') ∧ tm_rp Y m' (tr_go A B g p S) ∧ (∀ c, c ≠ 0 → c ≠ 11 → c ≠ 12 → m' c = m c) ∧ (∀ j, j ≠ 15 → j ≠ 16 → m' 0 j = m 0 j) := by
  have hp : 0 ≤ p ∧ p < P := ⟨ht.1, ht.2.1⟩
  have hP := hm.2.1
  have hnx := r_next hr hg
  have hYp := (hm.2.2 p hp.1 hp.2).2.2.2
  have hm7 := (hx.2 p hp.1 hp.2).2.2
  have hoth := r_other hm hx ht hat
  have hgl := tr_go_len (Y := Y) (A := A) (B := B) (S := S) hg hp.1
  have hoi := tr_oth_in hm ht
  obtain ⟨a, b, r⟩ := S
  obtain ⟨h1, h2, h3, h4, h6, h7⟩ := hr
  dsimp only at h1 h2 h3 h4 h6 h7 hnx hlen hY hgl
  have e11 : m 11 g.toNat = tr_at g (a, b, r) := by
    unfold tr_at
    rcases hg with rfl | rfl
    · exact h1
    · exact h2
  obtain ⟨m1, hm1⟩ : ∃ m1, m1 = tg_up m 11 g.toNat (tr_oth A B p (tr_at g (a, b, r))) := ⟨_, rfl⟩
  have k1 : ∀ c, c ≠ 11 → m1 c = m c := fun c hc => by rw [hm1, tg_up_k hc]
  by_cases hn : tr_nx g r = p
  · have hgo := tr_go_T (A := A) (B := B) (S := (a, b, r)) hg hp.1 hn
    rw [if_pos hn] at hgl
    have hpos : 0 < r.length := by
      rw [tr_nx_iff hp.1] at hn
      cases r with
      | nil => rcases hg with rfl | rfl <;> simp at hn
      | cons q r => simp
    obtain ⟨m2, hm2⟩ : ∃ m2, m2 = tg_up m1 0 16 (tr_len Y r - Y p) := ⟨_, rfl⟩
    have k2 : ∀ c, c ≠ 11 → c ≠ 0 → m2 c = m c := fun c hc h0 => by rw [hm2, tg_up_k h0, k1 c hc]
    have k20 : ∀ j, j ≠ 16 → m2 0 j = m 0 j := fun j hj => by rw [hm2, tg_up_j hj, k1 0 (by decide)]
    rcases hg with rfl | rfl
    · rw [if_pos rfl] at hgo
      have ea : tr_at 0 (a, b, r) = a := rfl
      rw [ea] at *
      obtain ⟨m3, q1, q2, q3⟩ := r_shl (j := fun m_111 => some (0, tg_up m_111 0 15 (tg_wi (m_111 0 15 + -1)))) (L := r.length) (by omega) tg_FU 1 m2 (by omega) (by omega) (by have := tg_FUg; omega) (by rw [k20 15 (by decide)]; exact h3)
      refine ⟨tg_up m3 0 15 (r.length - 1), ?_, ?_, fun c c1 c2 c3 => by rw [tg_up_k c1, q2 c c3, k2 c c2 c1], fun j j1 j2 => by rw [tg_up_j j1, q2 0 (by decide), k20 j j2]⟩
      · simp only [f_X8_goes, tg_jn, tg_lt]
        rw [hnx]
        simp only [tg_bd_some]
        rw [if_neg (fun z => z hn), tg_ck_pos (by omega), e11, hoth]
        simp only [tg_bd_some]
        rw [tg_ck_pos (by omega), ← hm1]
        simp only [show ¬ ((1 : Int) = 0) from by decide, if_false, ne_eq, not_true_eq_false, not_false_eq_true, if_true]
        rw [tg_wi_e (a := 3 * p) (by omega), tg_wi_e (a := 3 * p + 2) (by omega), tg_ck_pos (by omega), k1 7 (by decide), hm7, tg_wi_e (a := -Y p) (by omega), k1 0 (by decide), h4, tg_wi_e (by omega), show tr_len Y r + -Y p = tr_len Y r - Y p from by omega, ← hm2]
        refine q1.trans ?_
        rw [q2 0 (by decide), k20 15 (by decide), h3, tg_wi_e (by omega)]; rfl
      · rw [hgo]
        have e0 : (tr_oth A B p a, b, r.tail).2.2 = r.tail := rfl
        refine ⟨?_, ?_, ?_, ?_, ?_, fun i hi => ?_⟩
        · rw [tg_up_k (by decide), q2 11 (by decide), hm2, tg_up_k (by decide), hm1]; exact tg_up_same _ _ _ _
        · rw [tg_up_k (by decide), q2 11 (by decide), hm2, tg_up_k (by decide), hm1, tg_up_j (by decide)]; exact h2
        · rw [tg_up_same]; show _ = ((r.tail.length : Nat) : Int); rw [List.length_tail]; omega
        · rw [tg_up_j (by decide), q2 0 (by decide), hm2, tg_up_same]; rw [hgo] at hgl; exact hgl.symm
        · show r.tail.length ≤ 63; rw [List.length_tail]; omega
        · have hi2 : i < r.tail.length := hi
          rw [List.length_tail] at hi2
          rw [tg_up_k (by decide), q3 i, if_pos (by omega), k2 12 (by decide) (by decide)]
          show r.tail[i]? = _
          rw [List.getElem?_tail, h7 (i + 1) (by omega)]
    · rw [if_neg (by decide)] at hgo
      have ea : tr_at 1 (a, b, r) = b := rfl
      rw [ea] at *
      refine ⟨tg_up m2 0 15 (r.length - 1), ?_, ?_, fun c c1 c2 c3 => by rw [tg_up_k c1, k2 c c2 c1], fun j j1 j2 => by rw [tg_up_j j1, k20 j j2]⟩
      · simp only [f_X8_goes, tg_jn, tg_lt]
        rw [hnx]
        simp only [tg_bd_some]
        rw [if_neg (fun z => z hn), tg_ck_pos (by omega), e11, hoth]
        simp only [tg_bd_some]
        rw [tg_ck_pos (by omega), ← hm1]
        simp only [show ¬ ((1 : Int) = 0) from by decide, if_false, ne_eq, not_true_eq_false, not_false_eq_true, if_true]
        rw [tg_wi_e (a := 3 * p) (by omega), tg_wi_e (a := 3 * p + 2) (by omega), tg_ck_pos (by omega), k1 7 (by decide), hm7, tg_wi_e (a := -Y p) (by omega), k1 0 (by decide), h4, tg_wi_e (by omega), show tr_len Y r + -Y p = tr_len Y r - Y p from by omega, ← hm2, k20 15 (by decide), h3, tg_wi_e (by omega)]
        rfl
      · rw [hgo]
        refine ⟨?_, ?_, ?_, ?_, ?_, fun i hi => ?_⟩
        · rw [tg_up_k (by decide), hm2, tg_up_k (by decide), hm1, tg_up_j (by decide)]; exact h1
        · rw [tg_up_k (by decide), hm2, tg_up_k (by decide), hm1]; exact tg_up_same _ _ _ _
        · rw [tg_up_same]; show _ = ((r.dropLast.length : Nat) : Int); rw [List.length_dropLast]; omega
        · rw [tg_up_j (by decide), hm2, tg_up_same]; rw [hgo] at hgl; exact hgl.symm
        · show r.dropLast.length ≤ 63; rw [List.length_dropLast]; omega
        · have hi2 : i < r.dropLast.length := hi
          rw [List.length_dropLast] at hi2
          rw [tg_up_k (by decide), k2 12 (by decide) (by decide)]
          show r.dropLast[i]? = _
          rw [List.getElem?_dropLast, if_pos hi2, h7 i (by omega)]
  · have hgo := tr_go_F (A := A) (B := B) (S := (a, b, r)) hg hp.1 hn
    rw [if_neg hn] at hgl
    obtain ⟨m2, hm2⟩ : ∃ m2, m2 = tg_up m1 0 16 (tr_len Y r + Y p) := ⟨_, rfl⟩
    have k2 : ∀ c, c ≠ 11 → c ≠ 0 → m2 c = m c := fun c hc h0 => by rw [hm2, tg_up_k h0, k1 c hc]
    have k20 : ∀ j, j ≠ 16 → m2 0 j = m 0 j := fun j hj => by rw [hm2, tg_up_j hj, k1 0 (by decide)]
    rcases hg with rfl | rfl
    · rw [if_pos rfl] at hgo
      have ea : tr_at 0 (a, b, r) = a := rfl
      rw [ea] at *
      obtain ⟨m3, q1, q2, q3⟩ := r_shr (j := fun m_152 => tg_ck (0 ≤ (0 : Int) ∧ (0 : Int) < 64) (some (0, tg_up (tg_up m_152 12 0 p) 0 15 (tg_wi ((tg_up m_152 12 0 p) 0 15 + 1))))) tg_FU (r.length : Int) m2 (by omega) (by omega) (by have := tg_FUg; omega)
      refine ⟨tg_up (tg_up m3 12 0 p) 0 15 (r.length + 1), ?_, ?_, fun c c1 c2 c3 => by rw [tg_up_k c1, tg_up_k c3, q2 c c3, k2 c c2 c1], fun j j1 j2 => by rw [tg_up_j j1, tg_up_k (by decide), q2 0 (by decide), k20 j j2]⟩
      · simp only [f_X8_goes, tg_jn, tg_lt]
        rw [hnx]
        simp only [tg_bd_some]
        rw [if_pos hn, tg_ck_pos (by omega), e11, hoth]
        simp only [tg_bd_some]
        rw [tg_ck_pos (by omega), ← hm1]
        simp only [show ¬ ((1 : Int) = 0) from by decide, if_false, ne_eq, not_true_eq_false, not_false_eq_true, if_true]
        rw [tg_wi_e (a := 3 * p) (by omega), tg_wi_e (a := 3 * p + 2) (by omega), tg_ck_pos (by omega), k1 7 (by decide), hm7, k1 0 (by decide), h4, tg_wi_e (by omega), ← hm2, k20 15 (by decide), h3]
        refine q1.trans ?_
        rw [tg_ck_pos (by omega), tg_up_k (by decide : (0 : Nat) ≠ 12), q2 0 (by decide), k20 15 (by decide), h3, tg_wi_e (by omega)]
      · rw [hgo]
        refine ⟨?_, ?_, ?_, ?_, ?_, fun i hi => ?_⟩
        · rw [tg_up_k (by decide), tg_up_k (by decide), q2 11 (by decide), hm2, tg_up_k (by decide), hm1]; exact tg_up_same _ _ _ _
        · rw [tg_up_k (by decide), tg_up_k (by decide), q2 11 (by decide), hm2, tg_up_k (by decide), hm1, tg_up_j (by decide)]; exact h2
        · rw [tg_up_same]; show _ = (((p :: r).length : Nat) : Int); rw [List.length_cons]; omega
        · rw [tg_up_j (by decide), tg_up_k (by decide), q2 0 (by decide), hm2, tg_up_same]; rw [hgo] at hgl; exact hgl.symm
        · show (p :: r).length ≤ 63; rw [List.length_cons]; omega
        · have hi2 : i < (p :: r).length := hi
          rw [List.length_cons] at hi2
          rw [tg_up_k (by decide)]
          show (p :: r)[i]? = _
          cases i with
          | zero => rw [tg_up_same]; rfl
          | succ i =>
            rw [tg_up_j (by omega), q3 (i + 1), if_pos (by omega), k2 12 (by decide) (by decide), List.getElem?_cons_succ, Nat.add_sub_cancel, h7 i (by omega)]
    · rw [if_neg (by decide)] at hgo
      have ea : tr_at 1 (a, b, r) = b := rfl
      rw [ea] at *
      refine ⟨tg_up (tg_up m2 12 r.length p) 0 15 (r.length + 1), ?_, ?_, fun c c1 c2 c3 => by rw [tg_up_k c1, tg_up_k c3, k2 c c2 c1], fun j j1 j2 => by rw [tg_up_j j1, tg_up_k (by decide), k20 j j2]⟩
      · simp only [f_X8_goes, tg_jn, tg_lt]
        rw [hnx]
        simp only [tg_bd_some]
        rw [if_pos hn, tg_ck_pos (by omega), e11, hoth]
        simp only [tg_bd_some]
        rw [tg_ck_pos (by omega), ← hm1]
        simp only [show ¬ ((1 : Int) = 0) from by decide, if_false, ne_eq, not_true_eq_false, not_false_eq_true, if_true]
        rw [tg_wi_e (a := 3 * p) (by omega), tg_wi_e (a := 3 * p + 2) (by omega), tg_ck_pos (by omega), k1 7 (by decide), hm7, k1 0 (by decide), h4, tg_wi_e (by omega), ← hm2, k20 15 (by decide), h3, tg_ck_pos (by omega), Int.toNat_natCast, tg_up_k (by decide : (0 : Nat) ≠ 12), k20 15 (by decide), h3, tg_wi_e (by omega)]
      · rw [hgo]
        refine ⟨?_, ?_, ?_, ?_, ?_, fun i hi => ?_⟩
        · rw [tg_up_k (by decide), tg_up_k (by decide), hm2, tg_up_k (by decide), hm1, tg_up_j (by decide)]; exact h1
        · rw [tg_up_k (by decide), tg_up_k (by decide), hm2, tg_up_k (by decide), hm1]; exact tg_up_same _ _ _ _
        · rw [tg_up_same]; show _ = (((r ++ [p]).length : Nat) : Int); rw [List.length_append]; simp
        · rw [tg_up_j (by decide), tg_up_k (by decide), hm2, tg_up_same]; rw [hgo] at hgl; exact hgl.symm
        · show (r ++ [p]).length ≤ 63; rw [List.length_append]; simp; omega
        · have hi2 : i < (r ++ [p]).length := hi
          rw [List.length_append, List.length_singleton] at hi2
          rw [tg_up_k (by decide)]
          show (r ++ [p])[i]? = _
          by_cases hil : i < r.length
          · rw [List.getElem?_append_left hil, h7 i hil, tg_up_j (by omega), k2 12 (by decide) (by decide)]
          · have e : i = r.length := by omega
            subst e
            rw [List.getElem?_append_right (Nat.le_refl _), Nat.sub_self, tg_up_same]; rfl
theorem r_begins {d : Int} (hd : d = 0 ∨ d = 1) : ∃ m', f_X8_begins d m = some (0, m') ∧ tm_rp Y m' (m 8 d.toNat, m 8 d.toNat, []) ∧ m' 13 0 = 0 ∧ m' 13 1 = 0 ∧ m' 14 0 = 0 ∧ m' 14 1 = 0 ∧ m' 0 19 = 0 ∧ (∀ c, c ≠ 0 → c ≠ 11 → c ≠ 13 → c ≠ 14 → m' c = m c) ∧ (∀ j, j ≠ 15 → j ≠ 16 → j ≠ 19 → m' 0 j = m 0 j) := by
  obtain ⟨F, hF⟩ : ∃ n : Nat, tg_FU = n + 3 := ⟨tg_FU - 3, by have := tg_FUg; omega⟩
  obtain ⟨m1, hm1⟩ : ∃ m1, m1 = tg_up (tg_up (tg_up (tg_up (tg_up m 11 0 (m 8 d.toNat)) 11 1 (m 8 d.toNat)) 0 15 0) 0 16 0) 0 19 0 := ⟨_, rfl⟩
  have e1 : f_X8_begins d m = tg_fx f_X8_begins_B41 (fun _ _ => none) (F + 3) 0 m1 := by
    rw [← hF, hm1]
    simp only [f_X8_begins, tg_lt]
    rw [tg_ck_pos (by omega), tg_ck_pos (by omega), tg_ck_pos (by omega), tg_ck_pos (by omega), tg_up_k (by decide : (8 : Nat) ≠ 11)]
  have e2 : ∀ (self : Int → tg_Mem → tg_R) (v : Int) (q : tg_Mem), (v = 0 ∨ v = 1) → f_X8_begins_B41 self v q = self (v + 1) (tg_up (tg_up q 13 v.toNat 0) 14 v.toNat 0) := by
    intro self v q hv
    unfold f_X8_begins_B41
    simp only [tg_lt]
    rw [if_neg (by omega), tg_ck_pos (by omega), tg_ck_pos (by omega), tg_wi_e (by omega)]
  have e3 : ∀ (self : Int → tg_Mem → tg_R) (q : tg_Mem), f_X8_begins_B41 self 2 q = some (0, q) := by
    intro self q
    unfold f_X8_begins_B41
    rw [if_pos (by decide)]
  refine ⟨tg_up (tg_up (tg_up (tg_up m1 13 0 0) 14 0 0) 13 1 0) 14 1 0, ?_, ⟨?_, ?_, ?_, ?_, ?_, fun i hi => by cases hi⟩, ?_, ?_, ?_, ?_, ?_, fun c c0 c1 c2 c3 => ?_, fun j j0 j1 j2 => ?_⟩
  · rw [e1, tg_fx_s, e2 _ 0 _ (Or.inl rfl), tg_fx_s, show (0 : Int) + 1 = 1 from rfl, e2 _ 1 _ (Or.inr rfl), tg_fx_s]
    exact e3 _ _
  · rw [tg_up_k (by decide), tg_up_k (by decide), tg_up_k (by decide), tg_up_k (by decide), hm1, tg_up_k (by decide), tg_up_k (by decide), tg_up_k (by decide), tg_up_j (by decide), tg_up_same]
  · rw [tg_up_k (by decide), tg_up_k (by decide), tg_up_k (by decide), tg_up_k (by decide), hm1, tg_up_k (by decide), tg_up_k (by decide), tg_up_k (by decide), tg_up_same]
  · rw [tg_up_k (by decide), tg_up_k (by decide), tg_up_k (by decide), tg_up_k (by decide), hm1, tg_up_j (by decide), tg_up_j (by decide), tg_up_same]; rfl
  · rw [tg_up_k (by decide), tg_up_k (by decide), tg_up_k (by decide), tg_up_k (by decide), hm1, tg_up_j (by decide), tg_up_same]; rfl
  · show 0 ≤ 63; omega
  · rw [tg_up_k (by decide), tg_up_j (by decide), tg_up_k (by decide), tg_up_same]
  · rw [tg_up_k (by decide), tg_up_same]
  · rw [tg_up_j (by decide), tg_up_k (by decide), tg_up_same]
  · rw [tg_up_same]
  · rw [tg_up_k (by decide), tg_up_k (by decide), tg_up_k (by decide), tg_up_k (by decide), hm1, tg_up_same]
  · rw [tg_up_k c3, tg_up_k c2, tg_up_k c3, tg_up_k c2, hm1, tg_up_k c0, tg_up_k c0, tg_up_k c0, tg_up_k c1, tg_up_k c1]
  · rw [tg_up_k (by decide), tg_up_k (by decide), tg_up_k (by decide), tg_up_k (by decide), hm1, tg_up_j j2, tg_up_j j1, tg_up_j j0, tg_up_k (by decide), tg_up_k (by decide)]
end TMG
