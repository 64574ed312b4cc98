-- a day: what becomes of goats and rope, step by step
abbrev tr_D : Type := (Int × Int × List Int) × (Int × Int) × (Int × Int) × Int
def tr_code (b : Int) : Int := if 97 ≤ b ∧ b ≤ 104 then b - 97 else if 65 ≤ b ∧ b ≤ 72 then b - 65 + 8 else -1
def tr_wo (w : Int → Int) (pl bare : Int) : Int := if tg_iand (tg_ishr bare pl) 1 = 0 then w pl else 0
def tr_eat (w : Int → Int) (g : Int) (D : tr_D) : tr_D :=
  (D.1, (if g = 0 then (D.2.1.1 + tr_wo w (tr_at g D.1) D.2.2.2, D.2.1.2) else (D.2.1.1, D.2.1.2 + tr_wo w (tr_at g D.1) D.2.2.2)), D.2.2.1, tg_ior D.2.2.2 (tg_ishl 1 (tr_at g D.1)))
def tr_drag (A B Y : Int → Int) (ρ g : Int) : Nat → (Int × Int × List Int) → (Int × Int × List Int) × Int
  | 0, S => (S, 0)
  | n + 1, S => if tr_len Y S.2.2 ≤ ρ then (S, 0) else ((tr_drag A B Y ρ g n (tr_go A B g (tr_nx g S.2.2) S)).1, (tr_drag A B Y ρ g n (tr_go A B g (tr_nx g S.2.2) S)).2 + 1)
def tr_add (g n : Int) (q : Int × Int) : Int × Int := if g = 0 then (q.1 + n, q.2) else (q.1, q.2 + n)
def tr_step (P : Int) (A B Y : Int → Int) (ρ h0 h1 : Int) (w : Int → Int) (code : Int) (D : tr_D) : Option tr_D :=
  if code = -1 then none else
  if 0 ≤ code % 8 ∧ code % 8 < P ∧ (A (code % 8) = tr_at (code / 8) D.1 ∨ B (code % 8) = tr_at (code / 8) D.1) then
    if tr_len Y (tr_go A B (code / 8) (code % 8) D.1).2.2 ≤ ρ then some (tr_eat w (code / 8) (tr_go A B (code / 8) (code % 8) D.1, D.2))
    else if (code / 8 = 0 ∧ h1 < h0) ∨ (code / 8 ≠ 0 ∧ h0 < h1) then
      some (tr_eat w (code / 8) ((tr_drag A B Y ρ (1 - code / 8) (tr_go A B (code / 8) (code % 8) D.1).2.2.length (tr_go A B (code / 8) (code % 8) D.1)).1, D.2.1, tr_add (1 - code / 8) (tr_drag A B Y ρ (1 - code / 8) (tr_go A B (code / 8) (code % 8) D.1).2.2.length (tr_go A B (code / 8) (code % 8) D.1)).2 D.2.2.1, D.2.2.2))
    else none
  else none
def tr_run (P : Int) (A B Y : Int → Int) (ρ h0 h1 : Int) (w : Int → Int) (c : Int → Int) : Nat → Int → tr_D → Int × tr_D
  | 0, k, D => (k, D)
  | n + 1, k, D => match tr_step P A B Y ρ h0 h1 w (c k) D with
    | none => (k, D)
    | some D' => tr_run P A B Y ρ h0 h1 w c n (k + 1) D'
def tr_cf (P : Int) (A B Y : Int → Int) (ρ : Int) (w : Int → Int) : Prop := tr_md P A B Y ∧ (1 ≤ ρ ∧ ρ ≤ 18) ∧ ∀ i, 0 ≤ i → i ≤ 7 → 0 ≤ w i ∧ w i ≤ 99
def tr_DI (P : Int) (A B Y : Int → Int) (ρ : Int) (k : Int) (D : tr_D) : Prop := tr_I P A B D.1 ∧ tr_len Y D.1.2.2 ≤ ρ ∧ (0 ≤ D.2.1.1 ∧ D.2.1.1 ≤ 99 * k) ∧ (0 ≤ D.2.1.2 ∧ D.2.1.2 ≤ 99 * k) ∧ (0 ≤ D.2.2.1.1 ∧ D.2.2.1.1 ≤ 63 * k) ∧ (0 ≤ D.2.2.1.2 ∧ D.2.2.1.2 ≤ 63 * k)
section TRD
variable {P : Int} {A B Y : Int → Int} {ρ h0 h1 : Int} {w : Int → Int}
theorem tr_I_b {S : Int × Int × List Int} (hm : tr_md P A B Y) (hI : tr_I P A B S) : (0 ≤ S.1 ∧ S.1 ≤ 7) ∧ (0 ≤ S.2.1 ∧ S.2.1 ≤ 7) ∧ (S.2.2.length : Int) ≤ tr_len Y S.2.2 ∧ tr_len Y S.2.2 ≤ 9 * S.2.2.length := by
  refine ⟨hI.1, ?_, tr_len_b hm _ (tr_ok_mem _ _ hI.2.1)⟩
  rw [hI.2.2.1]; exact tr_fin_in hm _ _ hI.1 hI.2.1
theorem tr_at_b {S : Int × Int × List Int} {g : Int} (hm : tr_md P A B Y) (hI : tr_I P A B S) : 0 ≤ tr_at g S ∧ tr_at g S ≤ 7 := by
  have := tr_I_b hm hI
  unfold tr_at
  by_cases h : g = 0
  · rw [if_pos h]; exact this.1
  · rw [if_neg h]; exact this.2.1
theorem tr_nx_tch {S : Int × Int × List Int} {g : Int} (hg : g = 0 ∨ g = 1) (hm : tr_md P A B Y) (hI : tr_I P A B S) (hr : 0 < S.2.2.length) : tr_tch P A B (tr_nx g S.2.2) (tr_at g S) := by
  obtain ⟨a, b, r⟩ := S
  obtain ⟨h1, h2, h3, h4⟩ := hI
  dsimp only at *
  rcases hg with rfl | rfl
  · cases r with
    | nil => simp at hr
    | cons q r => exact h2.1
  · have hne : r ≠ [] := fun q => by rw [q] at hr; simp at hr
    have e := List.getLast?_eq_some_getLast hne
    have e2 := tr_last r _ e
    have e3 : tr_nx 1 r = r.getLast hne := by unfold tr_nx; rw [if_neg (by decide), e]; rfl
    rw [e3]
    rw [e2] at h2 h3
    have h5 := (tr_ok_app _ _ _).mp h2
    rw [tr_fin_app] at h3
    show tr_tch P A B _ b
    rw [h3]
    exact tr_tch_oth h5.2
theorem tr_nx_len {S : Int × Int × List Int} {g : Int} (hg : g = 0 ∨ g = 1) (hm : tr_md P A B Y) (hI : tr_I P A B S) (hr : 0 < S.2.2.length) : (tr_go A B g (tr_nx g S.2.2) S).2.2.length + 1 = S.2.2.length := by
  have ht := tr_nx_tch hg hm hI hr
  rw [tr_go_T hg ht.1 rfl]
  rcases hg with rfl | rfl
  · rw [if_pos rfl, List.length_tail]; omega
  · rw [if_neg (by decide), List.length_dropLast]; omega
theorem tr_drag_I {g : Int} (hg : g = 0 ∨ g = 1) (hm : tr_md P A B Y) (hρ : 1 ≤ ρ) : ∀ (N : Nat) (S : Int × Int × List Int), S.2.2.length = N → tr_I P A B S → tr_I P A B (tr_drag A B Y ρ g N S).1 ∧ tr_len Y (tr_drag A B Y ρ g N S).1.2.2 ≤ ρ ∧ 0 ≤ (tr_drag A B Y ρ g N S).2 ∧ (tr_drag A B Y ρ g N S).2 ≤ N ∧ (tr_drag A B Y ρ g N S).1.2.2.length ≤ N := by
  intro N
  induction N with
  | zero =>
    intro S hS hI
    have e : S.2.2 = [] := List.eq_nil_of_length_eq_zero hS
    refine ⟨hI, ?_, by show (0 : Int) ≤ 0; omega, by show (0 : Int) ≤ _; omega, by show S.2.2.length ≤ _; omega⟩
    show tr_len Y S.2.2 ≤ ρ
    rw [e]; simp only [tr_len]; omega
  | succ N ih =>
    intro S hS hI
    unfold tr_drag
    by_cases h : tr_len Y S.2.2 ≤ ρ
    · rw [if_pos h]; exact ⟨hI, h, by show (0 : Int) ≤ 0; omega, by show (0 : Int) ≤ _; omega, by show S.2.2.length ≤ _; omega⟩
    · rw [if_neg h]
      have ht := tr_nx_tch hg hm hI (by omega)
      obtain ⟨q1, q2, q3, q4, q5⟩ := ih (tr_go A B g (tr_nx g S.2.2) S) (by have := tr_nx_len hg hm hI (by omega); omega) (tr_go_I hm hg hI ht)
      exact ⟨q1, q2, by dsimp only; omega, by dsimp only; omega, by dsimp only; omega⟩
theorem tr_code_b {b : Int} : tr_code b = -1 ∨ (0 ≤ tr_code b ∧ tr_code b ≤ 15) := by
  unfold tr_code
  by_cases h : 97 ≤ b ∧ b ≤ 104
  · rw [if_pos h]; omega
  · rw [if_neg h]
    by_cases h2 : 65 ≤ b ∧ b ≤ 72
    · rw [if_pos h2]; omega
    · rw [if_neg h2]; omega
theorem tr_wo_b {pl bare : Int} (hw : 0 ≤ w pl ∧ w pl ≤ 99) : 0 ≤ tr_wo w pl bare ∧ tr_wo w pl bare ≤ 99 := by
  unfold tr_wo
  by_cases h : tg_iand (tg_ishr bare pl) 1 = 0
  · rw [if_pos h]; exact hw
  · rw [if_neg h]; omega
theorem tr_step_I {c k : Int} {D D' : tr_D} (hc : tr_cf P A B Y ρ w) (hcode : c = -1 ∨ (0 ≤ c ∧ c ≤ 15)) (hD : tr_DI P A B Y ρ k D) (h : tr_step P A B Y ρ h0 h1 w c D = some D') : tr_DI P A B Y ρ (k + 1) D' := by
  obtain ⟨S, ⟨eA, eB⟩, ⟨dA, dB⟩, bare⟩ := D
  obtain ⟨hI, hl, q1, q2, q3, q4⟩ := hD
  dsimp only at hI hl q1 q2 q3 q4
  unfold tr_step at h
  by_cases hc1 : c = -1
  · rw [if_pos hc1] at h; cases h
  · rw [if_neg hc1] at h
    by_cases ht : 0 ≤ c % 8 ∧ c % 8 < P ∧ (A (c % 8) = tr_at (c / 8) S ∨ B (c % 8) = tr_at (c / 8) S)
    · rw [if_pos ht] at h
      have hg : c / 8 = 0 ∨ c / 8 = 1 := by omega
      have hI1 := tr_go_I hc.1 hg hI ht
      have hlen := tr_I_b hc.1 hI
      have hgl : (tr_go A B (c / 8) (c % 8) S).2.2.length ≤ S.2.2.length + 1 := tr_go_length
      have hρ := hc.2.1
      by_cases h5 : tr_len Y (tr_go A B (c / 8) (c % 8) S).2.2 ≤ ρ
      · rw [if_pos h5] at h
        cases h
        have hw := tr_wo_b (w := w) (bare := bare) (hc.2.2 _ (tr_at_b (g := c / 8) hc.1 hI1).1 (tr_at_b (g := c / 8) hc.1 hI1).2)
        refine ⟨hI1, h5, ?_, ?_, ?_, ?_⟩
        · show 0 ≤ (if c / 8 = 0 then _ else _ : Int × Int).1 ∧ (if c / 8 = 0 then _ else _ : Int × Int).1 ≤ _
          rcases hg with g | g <;> simp only [g] <;> simp <;> (try rw [g] at hw) <;> omega
        · show 0 ≤ (if c / 8 = 0 then _ else _ : Int × Int).2 ∧ (if c / 8 = 0 then _ else _ : Int × Int).2 ≤ _
          rcases hg with g | g <;> simp only [g] <;> simp <;> (try rw [g] at hw) <;> omega
        · show 0 ≤ dA ∧ dA ≤ _; omega
        · show 0 ≤ dB ∧ dB ≤ _; omega
      · rw [if_neg h5] at h
        by_cases h6 : (c / 8 = 0 ∧ h1 < h0) ∨ (c / 8 ≠ 0 ∧ h0 < h1)
        · rw [if_pos h6] at h
          cases h
          have hg2 : 1 - c / 8 = 0 ∨ 1 - c / 8 = 1 := by omega
          obtain ⟨z1, z2, z3, z4, z5⟩ := tr_drag_I hg2 hc.1 hρ.1 _ _ rfl hI1
          have hw := tr_wo_b (w := w) (bare := bare) (hc.2.2 _ (tr_at_b (g := c / 8) hc.1 z1).1 (tr_at_b (g := c / 8) hc.1 z1).2)
          generalize tr_drag A B Y ρ (1 - c / 8) (tr_go A B (c / 8) (c % 8) S).2.2.length (tr_go A B (c / 8) (c % 8) S) = q at z1 z2 z3 z4 z5 hw ⊢
          refine ⟨z1, z2, ?_, ?_, ?_, ?_⟩
          · show 0 ≤ (if c / 8 = 0 then _ else _ : Int × Int).1 ∧ (if c / 8 = 0 then _ else _ : Int × Int).1 ≤ _
            rcases hg with g | g <;> simp only [g] <;> simp <;> (try rw [g] at hw) <;> omega
          · show 0 ≤ (if c / 8 = 0 then _ else _ : Int × Int).2 ∧ (if c / 8 = 0 then _ else _ : Int × Int).2 ≤ _
            rcases hg with g | g <;> simp only [g] <;> simp <;> (try rw [g] at hw) <;> omega
          · show 0 ≤ (tr_add (1 - c / 8) q.2 (dA, dB)).1 ∧ (tr_add (1 - c / 8) q.2 (dA, dB)).1 ≤ _
            unfold tr_add
            rcases hg2 with g | g <;> rw [g] <;> simp <;> omega
          · show 0 ≤ (tr_add (1 - c / 8) q.2 (dA, dB)).2 ∧ (tr_add (1 - c / 8) q.2 (dA, dB)).2 ≤ _
            unfold tr_add
            rcases hg2 with g | g <;> rw [g] <;> simp <;> omega
        · rw [if_neg h6] at h; cases h
    · rw [if_neg ht] at h; cases h
theorem tr_run_I {c : Int → Int} (hc : tr_cf P A B Y ρ w) (hcode : ∀ k, c k = -1 ∨ (0 ≤ c k ∧ c k ≤ 15)) : ∀ (n : Nat) (k : Int) (D : tr_D), 0 ≤ k → tr_DI P A B Y ρ k D → k ≤ (tr_run P A B Y ρ h0 h1 w c n k D).1 ∧ (tr_run P A B Y ρ h0 h1 w c n k D).1 ≤ k + n ∧ tr_DI P A B Y ρ (tr_run P A B Y ρ h0 h1 w c n k D).1 (tr_run P A B Y ρ h0 h1 w c n k D).2 := by
  intro n
  induction n with
  | zero => intro k D hk hD; exact ⟨by show k ≤ k; omega, by show k ≤ _; omega, hD⟩
  | succ n ih =>
    intro k D hk hD
    unfold tr_run
    cases h : tr_step P A B Y ρ h0 h1 w (c k) D with
    | none => exact ⟨by show k ≤ k; omega, by show k ≤ _; omega, hD⟩
    | some D' =>
      have := ih (k + 1) D' (by omega) (tr_step_I hc (hcode k) hD h)
      exact ⟨by dsimp only; omega, by dsimp only; omega, this.2.2⟩
end TRD
