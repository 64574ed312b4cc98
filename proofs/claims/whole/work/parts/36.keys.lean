-- a way as a number, in the class's fashion and back
theorem tb_land {a b : Int} (k : Nat) (ha : 0 ≤ a ∧ a < 9223372036854775808) (hb : 0 ≤ b ∧ b < 9223372036854775808) (hk : b.toNat = 2 ^ k - 1) : tg_land a b = ((a.toNat % 2 ^ k : Nat) : Int) := by
  have e : (tg_J a &&& tg_J b).toBitVec.toNat = a.toNat % 2 ^ k := by
    rw [Int64.toBitVec_and, BitVec.toNat_and, tb_J ha, tb_J hb, hk, Nat.and_two_pow_sub_one_eq_mod]
  have h1 : a.toNat % 2 ^ k ≤ a.toNat := Nat.mod_le _ _
  unfold tg_land
  rw [tb_Jt (by omega), e]
theorem tb_land7 {a : Int} (ha : 0 ≤ a ∧ a < 9223372036854775808) : tg_land a 7 = a % 8 := by
  rw [tb_land 3 ha (by decide) (by decide)]; omega
theorem tb_land31 {a : Int} (ha : 0 ≤ a ∧ a < 9223372036854775808) : tg_land a 31 = a % 32 := by
  rw [tb_land 5 ha (by decide) (by decide)]; omega
theorem tb_sh64 : ∀ n : Fin 64, (((tg_I ((n.val : Nat) : Int)).toInt64 &&& 63).toBitVec.smod 64).toNat = n.val := by decide +kernel
theorem tb_lshr {a b : Int} (ha : 0 ≤ a ∧ a < 9223372036854775808) (hb : 0 ≤ b ∧ b < 64) : tg_lshr a b = ((a.toNat / 2 ^ b.toNat : Nat) : Int) := by
  have hs := tb_sh64 ⟨b.toNat, by omega⟩
  dsimp only at hs
  rw [show ((b.toNat : Nat) : Int) = b by omega] at hs
  have e : (tg_J a >>> ((tg_I b).toInt64 &&& 63)).toBitVec.toNat = a.toNat / 2 ^ b.toNat := by
    rw [Int64.toBitVec_shiftRight, BitVec.sshiftRight_eq', hs, BitVec.sshiftRight_eq_of_msb_false (BitVec.msb_eq_false_iff_two_mul_lt.mpr (by rw [tb_J ha]; omega)), BitVec.toNat_ushiftRight, tb_J ha, Nat.shiftRight_eq_div_pow]
  have h1 : a.toNat / 2 ^ b.toNat ≤ a.toNat := Nat.div_le_self _ _
  unfold tg_lshr
  rw [tb_Jt (by omega), e]
theorem tb_lshr3 {a : Int} (ha : 0 ≤ a ∧ a < 9223372036854775808) : tg_lshr a 3 = a / 8 := by
  rw [tb_lshr ha (by decide)]
  show ((a.toNat / 2 ^ 3 : Nat) : Int) = a / 8
  omega
theorem tb_l2i {a : Int} (h : -2147483648 ≤ a ∧ a ≤ 2147483647) : tg_l2i a = a := tg_wi_e h
def kc_f : Int → List Int → Int
  | v, [] => v
  | v, p :: r => kc_f (8 * v + p) r
def kc_key (S : tr_S) : Int := 8 * kc_f 1 S.2.2 + S.2.1
theorem kc_app (p : Int) : ∀ (r : List Int) (v : Int), kc_f v (r ++ [p]) = 8 * kc_f v r + p
  | [], _ => rfl
  | q :: r, v => kc_app p r (8 * v + q)
theorem kc_ge : ∀ (r : List Int) (v : Int), (∀ p ∈ r, 0 ≤ p ∧ p ≤ 7) → 0 ≤ v → v ≤ kc_f v r
  | [], v, _, _ => Int.le_refl v
  | p :: r, v, h, hv => by
    have h2 := h p List.mem_cons_self
    have := kc_ge r (8 * v + p) (fun q hq => h q (List.mem_cons_of_mem _ hq)) (by omega)
    show v ≤ kc_f (8 * v + p) r
    omega
theorem kc_lt : ∀ (r : List Int) (v : Int) (i : Nat), (∀ p ∈ r, 0 ≤ p ∧ p ≤ 7) → 0 ≤ v → v < 2 * 8 ^ i → kc_f v r < 2 * 8 ^ (i + r.length)
  | [], v, i, _, _, h => h
  | p :: r, v, i, h, hv, hl => by
    have h2 := h p List.mem_cons_self
    have e : (8 : Int) ^ (i + 1) = 8 ^ i * 8 := Int.pow_succ _ _
    have := kc_lt r (8 * v + p) (i + 1) (fun q hq => h q (List.mem_cons_of_mem _ hq)) (by omega) (by omega)
    show kc_f (8 * v + p) r < 2 * 8 ^ (i + (r.length + 1))
    rw [show i + (r.length + 1) = i + 1 + r.length by omega]
    exact this
theorem kc_bb {r : List Int} (h : ∀ p ∈ r, 0 ≤ p ∧ p ≤ 7) (hl : r.length ≤ 18) : 1 ≤ kc_f 1 r ∧ kc_f 1 r < 36028797018963968 := by
  have h1 := kc_ge r 1 h (by decide)
  have h2 := kc_lt r 1 0 h (by decide) (by decide)
  rw [Nat.zero_add] at h2
  have h3 := tk_pow hl
  omega
section KEYS
variable {P : Int} {A B Y : Int → Int} {S : tr_S} {k : Nat} {x : tg_Mem}
theorem c_keyl {j29 : Int → tg_Mem → tg_R} (hr : tc_rp Y k x S) (hp : ∀ p ∈ S.2.2, 0 ≤ p ∧ p ≤ 7) (hl : S.2.2.length ≤ 18) : ∀ (N : Nat) (i v : Int) (F : Nat), N < F → 0 ≤ i → i + N = S.2.2.length → 0 ≤ v → v < 2 * 8 ^ i.toNat → tg_fx (f_X1_asKey_B4 k j29) (fun _ _ _ => none) F v i x = j29 (kc_f v (S.2.2.drop i.toNat)) x := by
  intro N
  induction N with
  | zero =>
    intro i v F hF hi hiN hv hv2
    obtain ⟨F, rfl⟩ : ∃ n', F = n' + 1 := ⟨F - 1, by omega⟩
    have e1 : S.2.2.drop i.toNat = [] := List.drop_eq_nil_of_le (by omega)
    rw [tg_fx_s, e1]
    unfold f_X1_asKey_B4
    rw [hr.2.2.1, if_pos (by omega)]; rfl
  | succ N ih =>
    intro i v F hF hi hiN hv hv2
    obtain ⟨F, rfl⟩ : ∃ n', F = n' + 1 := ⟨F - 1, by omega⟩
    obtain ⟨p, p1, p2⟩ := c_pathAt (i := i) hr ⟨hi, by omega⟩
    have hpp := hp p (List.mem_of_getElem? p1)
    have e : (8 : Int) ^ (i + 1).toNat = 8 ^ i.toNat * 8 := by rw [show (i + 1).toNat = i.toNat + 1 by omega]; exact Int.pow_succ _ _
    have hpw : (8 : Int) ^ i.toNat ≤ 18014398509481984 := tk_pow (by omega)
    have q := ih (i + 1) (8 * v + p) F (by omega) (by omega) (by omega) (by omega) (by omega)
    rw [tg_fx_s, tp_drop hi p1]
    generalize tg_fx (f_X1_asKey_B4 k j29) (fun _ _ _ => none) F = G at q ⊢
    unfold f_X1_asKey_B4
    simp only [tg_lt]
    rw [hr.2.2.1, if_neg (by omega), p2, tg_bd_some, tb_lshl3 (by omega), tb_lor (a := 8 * v) (b := p) 3 (by omega) (by omega) (by omega) (by omega) (by omega), tg_wi_e (a := i + 1) (by omega)]
    exact q
theorem c_key (hr : tc_rp Y k x S) (hp : ∀ p ∈ S.2.2, 0 ≤ p ∧ p ≤ 7) (hl : S.2.2.length ≤ 18) (h1 : 0 ≤ S.2.1 ∧ S.2.1 ≤ 7) : f_X1_asKey k x = some (kc_key S, x) := by
  have hb := kc_bb hp hl
  simp only [f_X1_asKey, tg_jn]
  rw [c_keyl hr hp hl S.2.2.length 0 1 tg_FU (by have := tg_FUg; omega) (by omega) (by omega) (by omega) (by decide), show S.2.2.drop (0 : Int).toNat = S.2.2 from rfl, tg_ck_pos (by decide), hr.2.1, tb_lshl3 (by omega), tb_lor (a := 8 * kc_f 1 S.2.2) (b := S.2.1) 3 (by omega) (by omega) (by omega) (by omega) (by omega)]
  rfl
theorem tr_ok_drop : ∀ (j : Nat) (a : Int) (r : List Int), tr_ok P A B a r → tr_ok P A B (tr_fin A B a (r.take j)) (r.drop j)
  | 0, _, _, h => h
  | j + 1, _, [], h => h
  | j + 1, a, p :: r, h => tr_ok_drop j _ r h.2
theorem tr_nd_drop : ∀ (j : Nat) (r : List Int), tr_nd r → tr_nd (r.drop j)
  | 0, _, h => h
  | j + 1, [], h => h
  | j + 1, p :: r, h => tr_nd_drop j r h.2
theorem kc_take {r : List Int} {j : Nat} {p : Int} (h : r[j]? = some p) : r.take (j + 1) = r.take j ++ [p] := by
  rw [List.take_succ, h]; rfl
theorem c_becomel (hk : 10 ≤ k) (hm : tr_md P A B Y) (hI : tr_I P A B S) (hl : S.2.2.length ≤ 18) : ∀ (N : Nat) (x : tg_Mem) (F : Nat), N < F → N ≤ S.2.2.length → tc_md x P A B Y → tc_rp Y k x (tr_fin A B S.1 (S.2.2.take N), S.2.1, S.2.2.drop N) →
    ∃ x', tg_fx (f_X1_becomeKey_B17 k) (fun _ _ _ => none) F (kc_f 1 (S.2.2.take N)) ((S.2.2.length : Int) - N) x = some (0, x') ∧ tc_rp Y k x' S ∧ ∀ c, c ≠ k → c ≠ k + 1 → c ≠ k + 2 → x' c = x c := by
  intro N
  induction N with
  | zero =>
    intro x F hF hN hx hr
    obtain ⟨F, rfl⟩ : ∃ n', F = n' + 1 := ⟨F - 1, by omega⟩
    refine ⟨x, ?_, hr, fun _ _ _ _ => rfl⟩
    rw [tg_fx_s]
    unfold f_X1_becomeKey_B17
    show (if (18 : Int) ≤ _ then _ else if (1 : Int) ≤ 1 then _ else _) = _
    by_cases c : (18 : Int) ≤ (S.2.2.length : Int) - ((0 : Nat) : Int)
    · rw [if_pos c]
    · rw [if_neg c, if_pos (by decide)]
  | succ N ih =>
    intro x F hF hN hx hr
    obtain ⟨F, rfl⟩ : ∃ n', F = n' + 1 := ⟨F - 1, by omega⟩
    have hmem := tr_I_m hm hI
    obtain ⟨p, hp⟩ : ∃ p, S.2.2[N]? = some p := ⟨_, List.getElem?_eq_getElem (by omega)⟩
    have hpm := tr_ok_mem _ _ hI.2.1 p (List.mem_of_getElem? hp)
    have hpp := hmem p (List.mem_of_getElem? hp)
    have e1 := kc_take hp
    have e2 : S.2.2.drop N = p :: S.2.2.drop (N + 1) := by
      obtain ⟨z1, z2⟩ := List.getElem?_eq_some_iff.mp hp
      rw [List.drop_eq_getElem_cons z1, z2]
    have hok := tr_ok_drop (P := P) (A := A) (B := B) N S.1 S.2.2 hI.2.1
    rw [e2] at hok
    have hnd := tr_nd_drop N S.2.2 hI.2.2.2
    rw [e2] at hnd
    have ht := hok.1
    have hb := kc_bb (r := S.2.2.take N) (fun q hq => hmem q (List.mem_of_mem_take hq)) (by rw [List.length_take]; omega)
    have e3 : kc_f 1 (S.2.2.take (N + 1)) = 8 * kc_f 1 (S.2.2.take N) + p := by rw [e1, kc_app]
    have e4 : tr_fin A B S.1 (S.2.2.take (N + 1)) = tr_oth A B p (tr_fin A B S.1 (S.2.2.take N)) := by rw [e1, tr_fin_app]
    have hlb := tr_len_b hm (S.2.2.drop (N + 1)) (fun q hq => tr_ok_mem _ _ hI.2.1 q (List.mem_of_mem_drop hq))
    have hdl : (S.2.2.drop (N + 1)).length ≤ 17 := by rw [List.length_drop]; omega
    obtain ⟨x1, g1, g2, g3⟩ := c_go (g := 0) (p := p) hk hm hx hr (Or.inl rfl) hpm (by dsimp only; omega) (by dsimp only; omega)
    have e5 : tr_go A B 0 p (tr_fin A B S.1 (S.2.2.take (N + 1)), S.2.1, S.2.2.drop (N + 1)) = (tr_fin A B S.1 (S.2.2.take N), S.2.1, S.2.2.drop N) := by
      unfold tr_go
      dsimp only
      rw [if_pos rfl, if_neg hnd.1, e4, tr_oth_oth hm ht, e2]
    rw [e5] at g2
    obtain ⟨x', q1, q2, q3⟩ := ih x1 F (by omega) (by omega) (tc_md_of hx (by rw [g3 1 (by omega) (by omega) (by omega)]) (g3 7 (by omega) (by omega) (by omega)) (g3 8 (by omega) (by omega) (by omega)) (g3 9 (by omega) (by omega) (by omega))) g2
    refine ⟨x', ?_, q2, fun c c1 c2 c3 => by rw [q3 c c1 c2 c3, g3 c c1 c2 c3]⟩
    rw [tg_fx_s, e3]
    generalize tg_fx (f_X1_becomeKey_B17 k) (fun _ _ _ => none) F = G at q1 ⊢
    unfold f_X1_becomeKey_B17
    simp only [tg_lt]
    rw [if_neg (by omega), if_neg (by omega), tb_land7 (by omega), show (8 * kc_f 1 (S.2.2.take N) + p) % 8 = p by omega, tb_l2i (by omega), g1, tg_bd_some, tb_lshr3 (by omega), show (8 * kc_f 1 (S.2.2.take N) + p) / 8 = kc_f 1 (S.2.2.take N) by omega, tg_wi_e (by omega), show (S.2.2.length : Int) - ((N + 1 : Nat) : Int) + 1 = (S.2.2.length : Int) - (N : Int) by omega]
    exact q1
theorem c_becomeKey (hk : 10 ≤ k) (hm : tr_md P A B Y) (hI : tr_I P A B S) (hl : S.2.2.length ≤ 18) (hx : tc_md x P A B Y) : ∃ x', f_X1_becomeKey k (kc_key S) x = some (0, x') ∧ tc_rp Y k x' S ∧ ∀ c, c ≠ k → c ≠ k + 1 → c ≠ k + 2 → x' c = x c := by
  have hmem := tr_I_m hm hI
  have hb := kc_bb hmem hl
  have h2 := (tr_I_b hm hI).2.1
  obtain ⟨x1, e1, e2, e3⟩ := c_standBoth (Y := Y) (k := k) (x := x) (a := S.2.1)
  have e5 : (tr_fin A B S.1 (S.2.2.take S.2.2.length), S.2.1, S.2.2.drop S.2.2.length) = (S.2.1, S.2.1, ([] : List Int)) := by
    rw [List.take_length, List.drop_length, ← hI.2.2.1]
  obtain ⟨x', q1, q2, q3⟩ := c_becomel (Y := Y) hk hm hI hl S.2.2.length x1 tg_FU (by have := tg_FUg; omega) (Nat.le_refl _) (tc_md_of hx (by rw [e3 1 (by omega) (by omega)]) (e3 7 (by omega) (by omega)) (e3 8 (by omega) (by omega)) (e3 9 (by omega) (by omega))) (by rw [e5]; exact e2)
  refine ⟨x', ?_, q2, fun c c1 c2 c3 => by rw [q3 c c1 c2 c3, e3 c c1 c2]⟩
  simp only [f_X1_becomeKey, tg_lt]
  unfold kc_key
  rw [tb_land7 (by omega), show (8 * kc_f 1 S.2.2 + S.2.1) % 8 = S.2.1 by omega, tb_l2i (by omega), e1, tg_bd_some, tb_lshr3 (by omega), show (8 * kc_f 1 S.2.2 + S.2.1) / 8 = kc_f 1 S.2.2 by omega]
  rw [List.take_length, show (S.2.2.length : Int) - (S.2.2.length : Nat) = 0 by omega] at q1
  exact q1
end KEYS
