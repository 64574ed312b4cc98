-- the class notes a way
def th_h (a : Int) : Nat := (tg_iand (tg_l2i (tg_lushr (tg_wl (a * (-7046029254386353131))) 53)) 2047).toNat
def tw_x (x : tg_Mem) (L : List tr_S) : Prop := x 26 4 = L.length ∧ L.length ≤ 1001 ∧ (∀ (i : Nat) (S : tr_S), L[i]? = some S → x 30 i = kc_key S) ∧ L.Nodup ∧
  (∀ s : Nat, s < 2048 → 0 ≤ x 31 s ∧ x 31 s ≤ L.length) ∧ th_cnt (x 31) 2048 = L.length ∧
  ∀ (i : Nat) (S : tr_S), L[i]? = some S → ∃ d : Nat, d < 2048 ∧ x 31 ((th_h (kc_key S) + d) % 2048) = (i : Int) + 1 ∧ ∀ e : Nat, e < d → x 31 ((th_h (kc_key S) + e) % 2048) ≠ 0
theorem th_h_b (a : Int) : th_h a < 2048 := by
  have := tb_iand2047 (a := tg_l2i (tg_lushr (tg_wl (a * (-7046029254386353131))) 53))
  unfold th_h
  omega
section NOTE
variable {P : Int} {A B Y : Int → Int} {ρ : Int}
/-- found, or told that it is not there -/
theorem c_notel_T {j94 : Int → tg_Mem → tg_R} {x : tg_Mem} {L : List tr_S} {S : tr_S} (hw : tw_x x L) {i : Nat} (hi : L[i]? = some S) {d : Nat} (hd : d < 2048) (h1 : x 31 ((th_h (kc_key S) + d) % 2048) = (i : Int) + 1) (h2 : ∀ e : Nat, e < d → x 31 ((th_h (kc_key S) + e) % 2048) ≠ 0) :
    ∀ (N c F : Nat), N < F → c + N = d → tg_fx (f_X3_note_B28 (kc_key S) j94) (fun _ _ _ => none) F (((th_h (kc_key S) + c) % 2048 : Nat) : Int) (c : Int) x = some (0, x) := by
  obtain ⟨w1, w2, w3, w4, w5, w6, w7⟩ := hw
  have hil : i < L.length := (List.getElem?_eq_some_iff.mp hi).1
  intro N
  induction N with
  | zero =>
    intro c F hF hc
    obtain ⟨F, rfl⟩ : ∃ n', F = n' + 1 := ⟨F - 1, by omega⟩
    have e : c = d := by omega
    rw [tg_fx_s, e]
    unfold f_X3_note_B28
    simp only [tg_lt, tg_jn]
    have hb := Nat.mod_lt (th_h (kc_key S) + d) (show 0 < 2048 by decide)
    rw [if_neg (by omega), tg_ck_pos (by omega), Int.toNat_natCast, h1, if_neg (by omega), tg_ck_pos (by omega), tg_wi_e (a := (i : Int) + 1 - 1) (by omega), show (i : Int) + 1 - 1 = i by omega, b_isBelowT (by omega), tg_bd_some, if_neg (by decide), tg_ck_pos (by omega), Int.toNat_natCast, w3 i S hi, if_neg (fun z => z rfl)]
  | succ N ih =>
    intro c F hF hc
    obtain ⟨F, rfl⟩ : ∃ n', F = n' + 1 := ⟨F - 1, by omega⟩
    have q := ih (c + 1) F (by omega) (by omega)
    have hb := Nat.mod_lt (th_h (kc_key S) + c) (show 0 < 2048 by decide)
    have n0 := h2 c (by omega)
    have w5' := w5 _ hb
    rw [tg_fx_s]
    generalize tg_fx (f_X3_note_B28 (kc_key S) j94) (fun _ _ _ => none) F = G at q ⊢
    unfold f_X3_note_B28
    simp only [tg_lt, tg_jn]
    rw [if_neg (by omega), tg_ck_pos (by omega), Int.toNat_natCast, if_neg n0, tg_ck_pos (by omega), tg_wi_e (a := x 31 ((th_h (kc_key S) + c) % 2048) - 1) (by omega), b_isBelowT (by omega), tg_bd_some, if_neg (by decide), tg_ck_pos (by omega)]
    by_cases hk : x 30 (x 31 ((th_h (kc_key S) + c) % 2048) - 1).toNat = kc_key S
    · rw [if_neg (fun z => z hk)]
    · rw [if_pos hk, tg_wi_e (by omega), tb_next (by omega), tg_wi_e (by omega)]
      have e1 : ((((th_h (kc_key S) + c) % 2048 : Nat) : Int) + 1) % 2048 = (((th_h (kc_key S) + (c + 1)) % 2048 : Nat) : Int) := by omega
      rw [e1, show (c : Int) + 1 = ((c + 1 : Nat) : Int) by omega]
      exact q
theorem c_notel_F {j94 : Int → tg_Mem → tg_R} {x : tg_Mem} {L : List tr_S} {K : Int} (hw : tw_x x L) (hi : ∀ i : Nat, i < L.length → x 30 i ≠ K) {d : Nat} (hd : d < 2048) (h1 : x 31 ((th_h K + d) % 2048) = 0) (h2 : ∀ e : Nat, e < d → x 31 ((th_h K + e) % 2048) ≠ 0) :
    ∀ (N c F : Nat), N < F → c + N = d → tg_fx (f_X3_note_B28 K j94) (fun _ _ _ => none) F (((th_h K + c) % 2048 : Nat) : Int) (c : Int) x = j94 (((th_h K + d) % 2048 : Nat) : Int) x := by
  obtain ⟨w1, w2, w3, w4, w5, w6, w7⟩ := hw
  intro N
  induction N with
  | zero =>
    intro c F hF hc
    obtain ⟨F, rfl⟩ : ∃ n', F = n' + 1 := ⟨F - 1, by omega⟩
    have e : c = d := by omega
    rw [tg_fx_s, e]
    unfold f_X3_note_B28
    simp only [tg_lt, tg_jn]
    have hb := Nat.mod_lt (th_h K + d) (show 0 < 2048 by decide)
    rw [if_neg (by omega), tg_ck_pos (by omega), Int.toNat_natCast, if_pos h1]
  | succ N ih =>
    intro c F hF hc
    obtain ⟨F, rfl⟩ : ∃ n', F = n' + 1 := ⟨F - 1, by omega⟩
    have q := ih (c + 1) F (by omega) (by omega)
    have hb := Nat.mod_lt (th_h K + c) (show 0 < 2048 by decide)
    have n0 := h2 c (by omega)
    have w5' := w5 _ hb
    have hk := hi (x 31 ((th_h K + c) % 2048) - 1).toNat (by omega)
    rw [tg_fx_s]
    generalize tg_fx (f_X3_note_B28 K j94) (fun _ _ _ => none) F = G at q ⊢
    unfold f_X3_note_B28
    simp only [tg_lt, tg_jn]
    rw [if_neg (by omega), tg_ck_pos (by omega), Int.toNat_natCast, if_neg n0, tg_ck_pos (by omega), tg_wi_e (a := x 31 ((th_h K + c) % 2048) - 1) (by omega), b_isBelowT (by omega), tg_bd_some, if_neg (by decide), tg_ck_pos (by omega), if_pos hk, tg_wi_e (by omega), tb_next (by omega), tg_wi_e (by omega)]
    have e1 : ((((th_h K + c) % 2048 : Nat) : Int) + 1) % 2048 = (((th_h K + (c + 1)) % 2048 : Nat) : Int) := by omega
    rw [e1, show (c : Int) + 1 = ((c + 1 : Nat) : Int) by omega]
    exact q
end NOTE
