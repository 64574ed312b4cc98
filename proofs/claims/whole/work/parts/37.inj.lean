-- unlike ways have unlike numbers
theorem kc_inj : ∀ (n : Nat) (r q : List Int), r.length = n → (∀ p ∈ r, 0 ≤ p ∧ p ≤ 7) → (∀ p ∈ q, 0 ≤ p ∧ p ≤ 7) → kc_f 1 r = kc_f 1 q → r = q := by
  have big : ∀ (r : List Int) (p : Int), (∀ p ∈ r, 0 ≤ p ∧ p ≤ 7) → 0 ≤ p → 8 ≤ kc_f 1 (r ++ [p]) := by
    intro r p h hp
    have := kc_ge r 1 h (by decide)
    rw [kc_app]; omega
  have spl : ∀ (r : List Int), r ≠ [] → ∃ r' p, r = r' ++ [p] := fun r h => ⟨r.dropLast, r.getLast h, (List.dropLast_concat_getLast h).symm⟩
  intro n
  induction n with
  | zero =>
    intro r q hn hr hq h
    have e : r = [] := List.eq_nil_of_length_eq_zero hn
    rw [e] at h ⊢
    by_cases c : q = []
    · rw [c]
    · obtain ⟨q', p, hqp⟩ := spl q c
      have hb := big q' p (fun z hz => hq z (by rw [hqp]; exact List.mem_append_left _ hz)) (hq p (by rw [hqp]; simp)).1
      rw [← hqp, ← h] at hb
      have : kc_f 1 [] = 1 := rfl
      omega
  | succ n ih =>
    intro r q hn hr hq h
    have hr0 : r ≠ [] := fun z => by rw [z] at hn; cases hn
    obtain ⟨r', p, hrp⟩ := spl r hr0
    have hp := hr p (by rw [hrp]; simp)
    have hr' : ∀ z ∈ r', 0 ≤ z ∧ z ≤ 7 := fun z hz => hr z (by rw [hrp]; exact List.mem_append_left _ hz)
    by_cases c : q = []
    · have hb := big r' p hr' hp.1
      rw [← hrp, h, c] at hb
      have : kc_f 1 [] = 1 := rfl
      omega
    · obtain ⟨q', p2, hqp⟩ := spl q c
      have hp2 := hq p2 (by rw [hqp]; simp)
      have hq' : ∀ z ∈ q', 0 ≤ z ∧ z ≤ 7 := fun z hz => hq z (by rw [hqp]; exact List.mem_append_left _ hz)
      rw [hrp, hqp, kc_app, kc_app] at h
      have e := ih r' q' (by rw [hrp, List.length_append, List.length_singleton] at hn; omega) hr' hq' (by omega)
      rw [hrp, hqp, e, show p = p2 by rw [e] at h; omega]
section INJ
variable {P : Int} {A B Y : Int → Int} {S T : tr_S}
theorem tr_fin_inj (hm : tr_md P A B Y) : ∀ (r : List Int) (a b : Int), tr_ok P A B a r → tr_ok P A B b r → tr_fin A B a r = tr_fin A B b r → a = b
  | [], _, _, _, _, h => h
  | p :: r, a, b, h1, h2, h => by
    have e := tr_fin_inj hm r _ _ h1.2 h2.2 h
    rw [← tr_oth_oth hm h1.1, ← tr_oth_oth hm h2.1, e]
theorem kc_key_inj (hm : tr_md P A B Y) (hI : tr_I P A B S) (hJ : tr_I P A B T) : kc_key S = kc_key T ↔ S = T := by
  constructor
  · intro h
    unfold kc_key at h
    have a := (tr_I_b hm hI).2.1
    have b := (tr_I_b hm hJ).2.1
    have e1 : S.2.1 = T.2.1 := by omega
    have e2 := kc_inj _ S.2.2 T.2.2 rfl (tr_I_m hm hI) (tr_I_m hm hJ) (by omega)
    have e3 : S.1 = T.1 := by
      have o2 := hJ.2.1
      rw [← e2] at o2
      refine tr_fin_inj hm S.2.2 _ _ hI.2.1 o2 ?_
      rw [← hI.2.2.1, e1, hJ.2.2.1, e2]
    obtain ⟨s1, s2, s3⟩ := S
    obtain ⟨t1, t2, t3⟩ := T
    dsimp only at e1 e2 e3
    rw [e1, e2, e3]
  · intro h; rw [h]
end INJ
-- places of a table of 2048, counted
def th_cnt (f : Nat → Int) : Nat → Int
  | 0 => 0
  | n + 1 => th_cnt f n + if f n = 0 then 0 else 1
theorem th_cnt_all (f : Nat → Int) : ∀ n : Nat, (∀ i, i < n → f i ≠ 0) → th_cnt f n = n
  | 0, _ => rfl
  | n + 1, h => by
    unfold th_cnt
    rw [th_cnt_all f n (fun i hi => h i (by omega)), if_neg (h n (by omega))]; omega
theorem th_cnt_0 (f : Nat → Int) : ∀ n : Nat, (∀ i, i < n → f i = 0) → th_cnt f n = 0
  | 0, _ => rfl
  | n + 1, h => by
    unfold th_cnt
    rw [th_cnt_0 f n (fun i hi => h i (by omega)), if_pos (h n (by omega))]; rfl
theorem th_cnt_same (f g : Nat → Int) : ∀ n : Nat, (∀ i, i < n → f i = g i) → th_cnt f n = th_cnt g n
  | 0, _ => rfl
  | n + 1, h => by
    unfold th_cnt
    rw [th_cnt_same f g n (fun i hi => h i (by omega)), h n (by omega)]
theorem th_cnt_up (f g : Nat → Int) (s : Nat) (h0 : f s = 0) (h1 : g s ≠ 0) (h2 : ∀ i, i ≠ s → g i = f i) : ∀ n : Nat, s < n → th_cnt g n = th_cnt f n + 1
  | 0, h => by omega
  | n + 1, h => by
    unfold th_cnt
    by_cases c : s = n
    · rw [← c, if_pos h0, if_neg h1, th_cnt_same g f s (fun i hi => h2 i (by omega))]; omega
    · rw [th_cnt_up f g s h0 h1 h2 n (by omega), h2 n (fun z => c z.symm)]; omega
theorem tb_iand2047 {a : Int} : 0 ≤ tg_iand a 2047 ∧ tg_iand a 2047 ≤ 2047 := by
  have e : (tg_I a &&& tg_I 2047).toBitVec.toNat ≤ 2047 := by
    rw [Int32.toBitVec_and, BitVec.toNat_and, tb_I (a := 2047) (by decide)]
    exact Nat.and_le_right
  unfold tg_iand
  rw [tb_It (by omega)]
  omega
theorem tb_next {a : Int} (h : 0 ≤ a ∧ a ≤ 2147483647) : tg_iand a 2047 = a % 2048 := tg_iand_mod 11 h.1 h.2 (by decide +kernel) (by decide)
