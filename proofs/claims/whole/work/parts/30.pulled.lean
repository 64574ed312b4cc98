-- a rope pulled from one path to the other
def tp_q (a b s p : Int) : Int := if p = a ∨ p = b then s else p
def tp_run (A B : Int → Int) (a b s : Int) : List Int → (Int × Int × List Int) → (Int × Int × List Int)
  | [], T => T
  | p :: r, T => tp_run A B a b s r (tr_go A B 1 (tp_q a b s p) T)
theorem tp_drop {r : List Int} {i : Int} {p : Int} (hi : 0 ≤ i) (h : r[i.toNat]? = some p) : r.drop i.toNat = p :: r.drop (i + 1).toNat := by
  obtain ⟨z1, z2⟩ := List.getElem?_eq_some_iff.mp h
  rw [List.drop_eq_getElem_cons z1, z2, show (i + 1).toNat = i.toNat + 1 by omega]
theorem tg_jn_d {γ : Type} {J : γ} {k : γ → tg_R} {r : tg_R} (h : ∀ J', J' = J → k J' = r) : tg_jn J k = r := h J rfl
section PULL
variable {P : Int} {A B Y : Int → Int} {S : Int × Int × List Int} {a b s : Int}
theorem tp_go_mem {q : Int} {T : Int × Int × List Int} (hq : 0 ≤ q ∧ q < P) (hT : ∀ p ∈ T.2.2, 0 ≤ p ∧ p < P) : ∀ p ∈ (tr_go A B 1 q T).2.2, 0 ≤ p ∧ p < P := by
  unfold tr_go
  rw [if_neg (by decide)]
  by_cases h : T.2.2.getLast? = some q
  · rw [if_pos h]
    exact fun p hp => hT p (List.dropLast_subset _ hp)
  · rw [if_neg h]
    intro p hp
    rcases List.mem_append.mp hp with z | z
    · exact hT p z
    · rw [List.mem_singleton.mp z]; exact hq
theorem c_rell {k : Nat} (hk : k = 13 ∨ k = 21) (hm : tr_md P A B Y) (hI : tr_I P A B S) (hlS : S.2.2.length ≤ 18) (hs : 0 ≤ s ∧ s < P) : ∀ (N : Nat) (i : Int) (T : Int × Int × List Int) (x : tg_Mem) (F : Nat), N < F → 0 ≤ i → i + N = S.2.2.length → tc_md x P A B Y → tc_rp Y k x S → tc_rp Y 36 x T → T.2.2.length ≤ i → (∀ p ∈ T.2.2, 0 ≤ p ∧ p < P) →
    ∃ x', tg_fx (f_X1_relay_B24 36 k a b s) (fun _ _ => none) F i x = some (0, x') ∧ tc_rp Y 36 x' (tp_run A B a b s (S.2.2.drop i.toNat) T) ∧ ∀ c, c ≠ 36 → c ≠ 37 → c ≠ 38 → x' c = x c := by
  intro N
  induction N with
  | zero =>
    intro i T x F hF hi hiN hx hr hT hl hmem
    obtain ⟨F, rfl⟩ : ∃ n', F = n' + 1 := ⟨F - 1, by omega⟩
    have e1 : S.2.2.drop i.toNat = [] := List.drop_eq_nil_of_le (by omega)
    refine ⟨x, ?_, by rw [e1]; exact hT, fun _ _ _ _ => rfl⟩
    rw [tg_fx_s]
    unfold f_X1_relay_B24
    rw [hr.2.2.1, if_pos (by omega)]
  | succ N ih =>
    intro i T x F hF hi hiN hx hr hT hl hmem
    obtain ⟨F, rfl⟩ : ∃ n', F = n' + 1 := ⟨F - 1, by omega⟩
    obtain ⟨p, p1, p2⟩ := c_pathAt (i := i) hr ⟨hi, by omega⟩
    have hp := tr_ok_mem _ _ hI.2.1 p (List.mem_of_getElem? p1)
    have hq : 0 ≤ tp_q a b s p ∧ tp_q a b s p < P := by unfold tp_q; split <;> omega
    have hb := tr_len_b hm _ hmem
    obtain ⟨x1, e1, e2, e3⟩ := c_go (k := 36) (g := 1) (by decide) hm hx hT (Or.inr rfl) hq (by omega) (by omega)
    have hlen := tr_go_length (A := A) (B := B) (g := 1) (p := tp_q a b s p) (S := T)
    obtain ⟨x', q1, q2, q3⟩ := ih (i + 1) (tr_go A B 1 (tp_q a b s p) T) x1 F (by omega) (by omega) (by omega) (tc_md_of hx (by rw [e3 1 (by decide) (by decide) (by decide)]) (e3 7 (by decide) (by decide) (by decide)) (e3 8 (by decide) (by decide) (by decide)) (e3 9 (by decide) (by decide) (by decide))) (tc_rp_of hr (e3 _ (by omega) (by omega) (by omega)) (e3 _ (by omega) (by omega) (by omega)) (e3 _ (by omega) (by omega) (by omega))) e2 (by omega) (tp_go_mem hq hmem)
    refine ⟨x', ?_, by rw [tp_drop hi p1]; exact q2, fun c c1 c2 c3 => by rw [q3 c c1 c2 c3, e3 c c1 c2 c3]⟩
    rw [tg_fx_s]
    generalize tg_fx (f_X1_relay_B24 36 k a b s) (fun _ _ => none) F = G at q1 ⊢
    unfold f_X1_relay_B24
    rw [hr.2.2.1, if_neg (by omega), p2, tg_bd_some]
    simp only [tg_jn, tg_lt]
    unfold tp_q at e1
    by_cases c1 : p = a
    · rw [if_pos (Or.inl c1)] at e1
      rw [if_pos c1, e1, tg_bd_some, tg_wi_e (by omega)]; exact q1
    · by_cases c2 : p = b
      · rw [if_pos (Or.inr c2)] at e1
        rw [if_neg c1, if_neg (fun z => z c2), e1, tg_bd_some, tg_wi_e (by omega)]; exact q1
      · rw [if_neg (fun z => z.elim c1 c2)] at e1
        rw [if_neg c1, if_pos c2, e1, tg_bd_some, tg_wi_e (by omega)]; exact q1
/-- the stack after a path is laid on it -/
theorem tp_go_stk {q : Int} {T : Int × Int × List Int} {f : Nat → Int} (hq : 0 ≤ q) (h : ∀ j : Nat, j < T.2.2.length → T.2.2[j]? = some (f j)) :
    (0 < T.2.2.length ∧ f (T.2.2.length - 1) = q ∧ (tr_go A B 1 q T).2.2 = T.2.2.dropLast ∧ tr_len Y (tr_go A B 1 q T).2.2 = tr_len Y T.2.2 - Y q) ∨ (¬ (0 < T.2.2.length ∧ f (T.2.2.length - 1) = q) ∧ (tr_go A B 1 q T).2.2 = T.2.2 ++ [q] ∧ tr_len Y (tr_go A B 1 q T).2.2 = tr_len Y T.2.2 + Y q) := by
  have hgl := tr_go_len (Y := Y) (A := A) (B := B) (g := 1) (p := q) (S := T) (Or.inr rfl) hq
  have hni := tr_nx_iff (g := 1) (p := q) (r := T.2.2) hq
  rw [if_neg (by decide)] at hni
  have hla : T.2.2.getLast? = T.2.2[T.2.2.length - 1]? := List.getLast?_eq_getElem?
  by_cases h0 : 0 < T.2.2.length
  · have h1 := h (T.2.2.length - 1) (by omega)
    rw [← hla] at h1
    by_cases hf : f (T.2.2.length - 1) = q
    · left
      rw [hf] at h1
      refine ⟨h0, hf, ?_, ?_⟩
      · unfold tr_go; rw [if_neg (by decide), if_pos h1]
      · rw [hgl, if_pos (hni.mpr h1)]
    · right
      have h2 : T.2.2.getLast? ≠ some q := fun z => hf (Option.some.inj (h1.symm.trans z))
      refine ⟨fun z => hf z.2, ?_, ?_⟩
      · unfold tr_go; rw [if_neg (by decide), if_neg h2]
      · rw [hgl, if_neg (fun z => h2 (hni.mp z))]
  · right
    have h2 : T.2.2.getLast? ≠ some q := fun z => by
      have : T.2.2 = [] := List.eq_nil_of_length_eq_zero (by omega)
      rw [this] at z; cases z
    refine ⟨fun z => h0 z.1, ?_, ?_⟩
    · unfold tr_go; rw [if_neg (by decide), if_neg h2]
    · rw [hgl, if_neg (fun z => h2 (hni.mp z))]
theorem r_rell {j237 : Int → Int → tg_Mem → tg_R} (hm : tr_md P A B Y) (hI : tr_I P A B S) (hlS : S.2.2.length ≤ 18) (hs : 0 ≤ s ∧ s < P) : ∀ (N : Nat) (i : Int) (T : Int × Int × List Int) (m : tg_Mem) (F : Nat), N < F → 0 ≤ i → i + N = S.2.2.length → tm_md m P A B Y → tm_rp Y m S → (∀ j : Nat, j < T.2.2.length → T.2.2[j]? = some (m 16 j)) → T.2.2.length ≤ i → (∀ p ∈ T.2.2, 0 ≤ p ∧ p < P) →
    ∃ m', tg_fx (f_X8_pulledOf_B85 a b s j237) (fun _ _ _ _ => none) F (T.2.2.length : Int) (tr_len Y T.2.2) i m = j237 ((tp_run A B a b s (S.2.2.drop i.toNat) T).2.2.length : Int) (tr_len Y (tp_run A B a b s (S.2.2.drop i.toNat) T).2.2) m' ∧ ∀ c, c ≠ 16 → m' c = m c := by
  intro N
  induction N with
  | zero =>
    intro i T m F hF hi hiN hx hr hT hl hmem
    obtain ⟨F, rfl⟩ : ∃ n', F = n' + 1 := ⟨F - 1, by omega⟩
    have e1 : S.2.2.drop i.toNat = [] := List.drop_eq_nil_of_le (by omega)
    refine ⟨m, ?_, fun _ _ => rfl⟩
    rw [tg_fx_s, e1]
    unfold f_X8_pulledOf_B85
    rw [hr.2.2.1, if_pos (by omega)]; rfl
  | succ N ih =>
    intro i T m F hF hi hiN hx hr hT hl hmem
    obtain ⟨F, rfl⟩ : ∃ n', F = n' + 1 := ⟨F - 1, by omega⟩
    have p1 := hr.2.2.2.2.2 i.toNat (by omega)
    obtain ⟨p, hp0⟩ : ∃ p, p = m 12 i.toNat := ⟨_, rfl⟩
    rw [← hp0] at p1
    have hp := tr_ok_mem _ _ hI.2.1 p (List.mem_of_getElem? p1)
    have hq : 0 ≤ tp_q a b s p ∧ tp_q a b s p < P := by unfold tp_q; split <;> omega
    have hb := tr_len_b hm _ hmem
    have hP := hm.2.1
    obtain ⟨q, hqq⟩ : ∃ q, q = tp_q a b s p := ⟨_, rfl⟩
    rw [← hqq] at hq
    have hYq := (hm.2.2 q hq.1 hq.2).2.2.2
    have m7 := (hx.2 q hq.1 hq.2).2.2
    have hlen := tr_go_length (A := A) (B := B) (g := 1) (p := q) (S := T)
    -- what the body does, once the path's stand-in is known
    have body : ∃ m1 : tg_Mem, (∀ c, c ≠ 16 → m1 c = m c) ∧ (∀ j : Nat, j < (tr_go A B 1 q T).2.2.length → (tr_go A B 1 q T).2.2[j]? = some (m1 16 j)) ∧
        f_X8_pulledOf_B85 a b s j237 (tg_fx (f_X8_pulledOf_B85 a b s j237) (fun _ _ _ _ => none) F) (T.2.2.length : Int) (tr_len Y T.2.2) i m = tg_fx (f_X8_pulledOf_B85 a b s j237) (fun _ _ _ _ => none) F ((tr_go A B 1 q T).2.2.length : Int) (tr_len Y (tr_go A B 1 q T).2.2) (i + 1) m1 := by
      generalize tg_fx (f_X8_pulledOf_B85 a b s j237) (fun _ _ _ _ => none) F = G
      have e0 : ∀ K : Int → tg_R, (if p = a then K s else tg_ck (0 ≤ i ∧ i < 64) (if p ≠ b then tg_ck (0 ≤ i ∧ i < 64) (K p) else K s)) = K q := by
        intro K
        rw [hqq]; unfold tp_q
        by_cases c1 : p = a
        · rw [if_pos c1, if_pos (Or.inl c1)]
        · by_cases c2 : p = b
          · rw [if_neg c1, tg_ck_pos (by omega), if_neg (fun z => z c2), if_pos (Or.inr c2)]
          · rw [if_neg c1, tg_ck_pos (by omega), if_pos c2, tg_ck_pos (by omega), if_neg (fun z => z.elim c1 c2)]
      rcases tp_go_stk (A := A) (B := B) (Y := Y) (f := m 16) hq.1 hT with ⟨t0, t1, t2, t3⟩ | ⟨t0, t2, t3⟩
      · refine ⟨tg_up m 16 ((T.2.2.length : Int)).toNat (m 16 ((T.2.2.length : Int)).toNat), fun c hc => tg_up_k hc, fun j hj => ?_, ?_⟩
        · rw [t2, List.length_dropLast] at hj
          rw [t2, List.getElem?_dropLast, if_pos (by omega), tg_up_j (by omega)]
          exact hT j (by omega)
        · unfold f_X8_pulledOf_B85
          rw [hr.2.2.1, if_neg (by omega), tg_ck_pos (by omega), ← hp0]
          refine tg_jn_d (fun J hJ => ?_)
          simp only [tg_jn]
          rw [e0, hJ]
          refine tg_jn_d (fun J2 hJ2 => ?_)
          simp only [tg_jn]
          rw [if_neg (by omega), tg_wi_e (a := (T.2.2.length : Int) - 1) (by omega), tg_ck_pos (by omega), show ((T.2.2.length : Int) - 1).toNat = T.2.2.length - 1 by omega, t1, if_neg (fun z => z rfl), hJ2]
          simp only [if_neg (show ¬ (1 : Int) = 0 by decide), tg_lt, tg_jn]
          rw [tg_wi_e (a := 3 * q) (by omega), tg_wi_e (a := 3 * q + 2) (by omega), tg_ck_pos (by omega), m7, tg_ck_pos (by omega), tg_ck_pos (by omega), tg_wi_e (a := -(Y q)) (by omega), tg_wi_e (a := tr_len Y T.2.2 + -(Y q)) (by omega), tg_wi_e (a := (T.2.2.length : Int) + -1) (by omega), tg_wi_e (a := i + 1) (by omega), t3, t2, List.length_dropLast, show (T.2.2.length : Int) + -1 = ((T.2.2.length - 1 : Nat) : Int) by omega, show tr_len Y T.2.2 + -(Y q) = tr_len Y T.2.2 - Y q by omega]
      · refine ⟨tg_up m 16 ((T.2.2.length : Int)).toNat q, fun c hc => tg_up_k hc, fun j hj => ?_, ?_⟩
        · rw [t2, List.length_append, List.length_singleton] at hj
          rw [t2]
          by_cases hj2 : j < T.2.2.length
          · rw [List.getElem?_append_left hj2, tg_up_j (by omega)]
            exact hT j hj2
          · have : j = T.2.2.length := by omega
            rw [this, Int.toNat_natCast, tg_up_same]
            simp
        · unfold f_X8_pulledOf_B85
          have e1 : ∀ K : Int → tg_R, (if (T.2.2.length : Int) ≤ 0 then K 0 else tg_ck (0 ≤ tg_wi ((T.2.2.length : Int) - 1) ∧ tg_wi ((T.2.2.length : Int) - 1) < 64) (if m 16 (tg_wi ((T.2.2.length : Int) - 1)).toNat ≠ q then K 0 else K 1)) = K 0 := by
            intro K
            by_cases h0 : (T.2.2.length : Int) ≤ 0
            · rw [if_pos h0]
            · rw [if_neg h0, tg_wi_e (by omega), tg_ck_pos (by omega), show ((T.2.2.length : Int) - 1).toNat = T.2.2.length - 1 by omega, if_pos (fun z => t0 ⟨by omega, z⟩)]
          rw [hr.2.2.1, if_neg (by omega), tg_ck_pos (by omega), ← hp0]
          refine tg_jn_d (fun J hJ => ?_)
          simp only [tg_jn]
          rw [e0, hJ]
          refine tg_jn_d (fun J2 hJ2 => ?_)
          simp only [tg_jn]
          rw [e1, hJ2]
          simp only [tg_lt, tg_jn, eq_self, if_true]
          rw [tg_wi_e (a := 3 * q) (by omega), tg_wi_e (a := 3 * q + 2) (by omega), tg_ck_pos (by omega), m7, tg_ck_pos (by omega), tg_wi_e (a := tr_len Y T.2.2 + Y q) (by omega), tg_wi_e (a := (T.2.2.length : Int) + 1) (by omega), tg_wi_e (a := i + 1) (by omega), t3, t2, List.length_append, List.length_singleton, show ((T.2.2.length + 1 : Nat) : Int) = (T.2.2.length : Int) + 1 by omega]
    obtain ⟨m1, f1, f2, f3⟩ := body
    obtain ⟨m', q1, q2⟩ := ih (i + 1) (tr_go A B 1 q T) m1 F (by omega) (by omega) (by omega) (tm_md_of hx (by rw [f1 0 (by decide)]) (f1 7 (by decide))) (tm_rp_of hr (f1 11 (by decide)) (f1 12 (by decide)) (by rw [f1 0 (by decide)]) (by rw [f1 0 (by decide)])) f2 (by omega) (tp_go_mem hq hmem)
    refine ⟨m', ?_, fun c hc => by rw [q2 c hc, f1 c hc]⟩
    rw [tg_fx_s, f3, q1, tp_drop hi p1, hqq]; rfl
end PULL
section PULL2
variable {P : Int} {A B Y : Int → Int} {ρ h0 h1 : Int} {w : Int → Int} {x m : tg_Mem}
def tp_sh (Y : Int → Int) (a b : Int) : Int := if Y (tg_min a b) ≤ Y (tg_max a b) then tg_min a b else tg_max a b
theorem tg_min_e (a b : Int) : tg_min a b = if a ≤ b then a else b := by
  unfold tg_min; split <;> split <;> omega
theorem tp_mm {a b : Int} (ha : 0 ≤ a ∧ a < P) (hb : 0 ≤ b ∧ b < P) : (0 ≤ tg_min a b ∧ tg_min a b < P) ∧ (0 ≤ tg_max a b ∧ tg_max a b < P) := by
  rw [tg_min_e, tg_max_e]
  constructor <;> split <;> omega
theorem tp_sh_b {a b : Int} (ha : 0 ≤ a ∧ a < P) (hb : 0 ≤ b ∧ b < P) : 0 ≤ tp_sh Y a b ∧ tp_sh Y a b < P := by
  unfold tp_sh
  have := tp_mm ha hb
  split
  · exact this.1
  · exact this.2
theorem c_shorter {a b : Int} (hm : tr_md P A B Y) (hx : tc_md x P A B Y) (ha : 0 ≤ a ∧ a < P) (hb : 0 ≤ b ∧ b < P) : f_X2_shorter a b x = some (tp_sh Y a b, x) := by
  have h := tp_mm ha hb
  simp only [f_X2_shorter, tg_lt]
  rw [c_yardsOf hm hx h.2, tg_bd_some, c_yardsOf hm hx h.1, tg_bd_some]
  unfold tp_sh
  split <;> rfl
def tp_same (A B : Int → Int) (a b : Int) : Prop := (A b = A a ∨ A b = B a) ∧ (B b = A a ∨ B b = B a)
theorem c_same {a b : Int} (h : R_all x m) (hm : tr_md P A B Y) (hx : tc_md x P A B Y) (ha : 0 ≤ a ∧ a < P) (hb : 0 ≤ b ∧ b < P) :
    (tp_same A B a b → f_X2_haveSameEnds a b x = some (1, x)) ∧ (¬ tp_same A B a b → f_X2_haveSameEnds a b x = some (0, x)) := by
  obtain ⟨⟨s1, s2, s3⟩, ⟨t1, t2, t3⟩, -⟩ := h
  have hP : x 1 8 = P := hx.1
  have hn : 4 * P - 1 = x 2 1 := by
    rw [hP] at s2
    by_cases hφ : x 1 9 = -1
    · rw [if_pos hφ] at s2
      rw [hφ] at s1
      have := tm_ff_n s1 t1.1
      omega
    · rw [if_neg hφ] at s2; omega
  have hP8 := hm.2.1
  obtain ⟨z1, z2, z3⟩ := s3 b hb.1 (by omega)
  obtain ⟨y1, y2, y3⟩ := hx.2 b hb.1 hb.2
  have f0 := b_figure (x := x) (p := b) (w := 0) (by omega) (by omega) (by omega) (t3 (4 * b + 0) (by omega) (by omega)).2
  have f1 := b_figure (x := x) (p := b) (w := 1) (by omega) (by omega) (by omega) (t3 (4 * b + 1) (by omega) (by omega)).2
  rw [Int.add_zero, ← z1, y1] at f0
  rw [← z2, y2] at f1
  simp only [f_X2_haveSameEnds, tg_jn]
  rw [f0, tg_bd_some]
  by_cases c1 : tr_tch P A B a (A b)
  · rw [c_leadsT hm hx c1, tg_bd_some, if_neg (by decide), f1, tg_bd_some]
    by_cases c2 : tr_tch P A B a (B b)
    · rw [c_leadsT hm hx c2, tg_bd_some, if_neg (by decide)]
      refine ⟨fun _ => rfl, fun z => absurd ⟨?_, ?_⟩ z⟩
      · have := c1.2.2; omega
      · have := c2.2.2; omega
    · rw [c_leadsF hm hx c2, tg_bd_some, if_pos rfl]
      refine ⟨fun z => absurd ⟨ha.1, ha.2, ?_⟩ c2, fun _ => rfl⟩
      have := z.2; omega
  · rw [c_leadsF hm hx c1, tg_bd_some, if_pos rfl]
    refine ⟨fun z => absurd ⟨ha.1, ha.2, ?_⟩ c1, fun _ => rfl⟩
    have := z.1; omega
theorem r_same {a b : Int} (hm : tr_md P A B Y) (hx : tm_md m P A B Y) (ha : 0 ≤ a ∧ a < P) (hb : 0 ≤ b ∧ b < P) :
    (tp_same A B a b → f_X8_haveLikeEnds a b m = some (1, m)) ∧ (¬ tp_same A B a b → f_X8_haveLikeEnds a b m = some (0, m)) := by
  have hP8 := hm.2.1
  obtain ⟨y1, y2, y3⟩ := hx.2 a ha.1 ha.2
  have n1 := (hm.2.2 a ha.1 ha.2).2.2.1
  have n2 := (hm.2.2 b hb.1 hb.2).2.2.1
  simp only [f_X8_haveLikeEnds, tg_jn]
  rw [tg_wi_e (a := 3 * a) (by omega), tg_ck_pos (by omega), tg_wi_e (a := 3 * a + 1) (by omega), y1]
  by_cases c1 : tr_tch P A B b (A a)
  · rw [r_touchT hm hx c1, tg_bd_some, if_neg (by decide), tg_ck_pos (by omega), y2]
    by_cases c2 : tr_tch P A B b (B a)
    · rw [r_touchT hm hx c2, tg_bd_some, if_neg (by decide)]
      refine ⟨fun _ => rfl, fun z => absurd ⟨?_, ?_⟩ z⟩
      · have := c1.2.2; have := c2.2.2; omega
      · have := c1.2.2; have := c2.2.2; omega
    · rw [r_touchF hm hx hb c2, tg_bd_some, if_pos rfl]
      refine ⟨fun z => absurd ⟨hb.1, hb.2, ?_⟩ c2, fun _ => rfl⟩
      have := z.1; have := z.2; omega
  · rw [r_touchF hm hx hb c1, tg_bd_some, if_pos rfl]
    refine ⟨fun z => absurd ⟨hb.1, hb.2, ?_⟩ c1, fun _ => rfl⟩
    have := z.1; have := z.2; omega
theorem r_isPath {a : Int} (hm : tr_md P A B Y) (hx : tm_md m P A B Y) {v : Int} {m0 : tg_Mem} (hr : f_X8_reads m0 = some (v, m)) : f_X8_isPath a m0 = some (if 0 ≤ a ∧ a < P then 1 else 0, m) := by
  have h1 := hm.1
  have h2 := hm.2.1
  simp only [f_X8_isPath]
  rw [hr, tg_bd_some, hx.1, tg_wi_e (by omega)]
  by_cases c : 0 ≤ a ∧ a < P
  · rw [b_inT (by omega), if_pos c]; rfl
  · rw [b_inF (by omega), if_neg c]; rfl
end PULL2
