-- the rope, as a row of paths
def tr_md (P : Int) (A B Y : Int → Int) : Prop := 0 ≤ P ∧ P ≤ 8 ∧ ∀ p, 0 ≤ p → p < P → (0 ≤ A p ∧ A p ≤ 7) ∧ (0 ≤ B p ∧ B p ≤ 7) ∧ A p ≠ B p ∧ (1 ≤ Y p ∧ Y p ≤ 9)
def tr_oth (A B : Int → Int) (p pl : Int) : Int := if A p = pl then B p else A p
def tr_tch (P : Int) (A B : Int → Int) (p pl : Int) : Prop := 0 ≤ p ∧ p < P ∧ (A p = pl ∨ B p = pl)
def tr_len (Y : Int → Int) : List Int → Int
  | [] => 0
  | p :: r => Y p + tr_len Y r
def tr_fin (A B : Int → Int) : Int → List Int → Int
  | a, [] => a
  | a, p :: r => tr_fin A B (tr_oth A B p a) r
def tr_ok (P : Int) (A B : Int → Int) : Int → List Int → Prop
  | _, [] => True
  | a, p :: r => tr_tch P A B p a ∧ tr_ok P A B (tr_oth A B p a) r
def tr_nd : List Int → Prop
  | [] => True
  | p :: r => r.head? ≠ some p ∧ tr_nd r
def tr_go (A B : Int → Int) (g p : Int) (S : Int × Int × List Int) : Int × Int × List Int :=
  if g = 0 then (if S.2.2.head? = some p then (tr_oth A B p S.1, S.2.1, S.2.2.tail) else (tr_oth A B p S.1, S.2.1, p :: S.2.2))
  else (if S.2.2.getLast? = some p then (S.1, tr_oth A B p S.2.1, S.2.2.dropLast) else (S.1, tr_oth A B p S.2.1, S.2.2 ++ [p]))
def tr_nx (g : Int) (r : List Int) : Int := if g = 0 then r.head?.getD (-1) else r.getLast?.getD (-1)
def tr_at (g : Int) (S : Int × Int × List Int) : Int := if g = 0 then S.1 else S.2.1
def tr_I (P : Int) (A B : Int → Int) (S : Int × Int × List Int) : Prop := (0 ≤ S.1 ∧ S.1 ≤ 7) ∧ tr_ok P A B S.1 S.2.2 ∧ S.2.1 = tr_fin A B S.1 S.2.2 ∧ tr_nd S.2.2
section TRR
variable {P : Int} {A B Y : Int → Int}
theorem tr_tch_oth {p pl : Int} (h : tr_tch P A B p pl) : tr_tch P A B p (tr_oth A B p pl) := by
  refine ⟨h.1, h.2.1, ?_⟩
  unfold tr_oth
  by_cases h1 : A p = pl
  · rw [if_pos h1]; exact Or.inr rfl
  · rw [if_neg h1]; exact Or.inl rfl
theorem tr_oth_oth {p pl : Int} (hm : tr_md P A B Y) (h : tr_tch P A B p pl) : tr_oth A B p (tr_oth A B p pl) = pl := by
  have := hm.2.2 p h.1 h.2.1
  unfold tr_oth
  by_cases h1 : A p = pl
  · rw [if_pos h1, if_neg (by omega), h1]
  · rw [if_neg h1, if_pos rfl]
    rcases h.2.2 with h2 | h2
    · exact absurd h2 h1
    · exact h2
theorem tr_oth_in {p pl : Int} (hm : tr_md P A B Y) (h : tr_tch P A B p pl) : 0 ≤ tr_oth A B p pl ∧ tr_oth A B p pl ≤ 7 := by
  have := hm.2.2 p h.1 h.2.1
  unfold tr_oth
  by_cases h1 : A p = pl
  · rw [if_pos h1]; omega
  · rw [if_neg h1]; omega
theorem tr_oth_sum {p pl : Int} (h : tr_tch P A B p pl) : A p + B p - pl = tr_oth A B p pl := by
  unfold tr_oth
  by_cases h1 : A p = pl
  · rw [if_pos h1]; omega
  · rw [if_neg h1]
    rcases h.2.2 with h2 | h2
    · exact absurd h2 h1
    · omega
theorem tr_len_app (r q : List Int) : tr_len Y (r ++ q) = tr_len Y r + tr_len Y q := by
  induction r with
  | nil => simp [tr_len]
  | cons p r ih => simp only [List.cons_append, tr_len, ih]; omega
theorem tr_fin_app (r : List Int) (p : Int) : ∀ a, tr_fin A B a (r ++ [p]) = tr_oth A B p (tr_fin A B a r) := by
  induction r with
  | nil => intro a; rfl
  | cons q r ih => intro a; simp only [List.cons_append, tr_fin, ih]
theorem tr_ok_app (r : List Int) (p : Int) : ∀ a, tr_ok P A B a (r ++ [p]) ↔ tr_ok P A B a r ∧ tr_tch P A B p (tr_fin A B a r) := by
  induction r with
  | nil => intro a; simp [tr_ok, tr_fin]
  | cons q r ih => intro a; simp only [List.cons_append, tr_ok, tr_fin, ih, and_assoc]
theorem tr_nd_app (r : List Int) (p : Int) : tr_nd (r ++ [p]) ↔ tr_nd r ∧ r.getLast? ≠ some p := by
  induction r with
  | nil => simp [tr_nd]
  | cons q r ih =>
    cases r with
    | nil => simp [tr_nd]; constructor <;> (intro h q; exact h q.symm)
    | cons s r =>
      simp only [List.cons_append, tr_nd, List.head?_cons] at ih ⊢
      simp only [List.getLast?_cons_cons]
      constructor
      · rintro ⟨h1, h2⟩; exact ⟨⟨h1, (ih.mp h2).1⟩, (ih.mp h2).2⟩
      · rintro ⟨⟨h1, h2⟩, h3⟩; exact ⟨h1, ih.mpr ⟨h2, h3⟩⟩
theorem tr_last (r : List Int) (p : Int) (h : r.getLast? = some p) : r = r.dropLast ++ [p] := by
  have hne : r ≠ [] := fun q => by rw [q] at h; cases h
  have h2 := List.dropLast_concat_getLast hne
  rw [List.getLast?_eq_some_getLast hne] at h
  rw [← Option.some.inj h]
  exact h2.symm
theorem tr_ok_mem (r : List Int) : ∀ a, tr_ok P A B a r → ∀ p ∈ r, 0 ≤ p ∧ p < P := by
  induction r with
  | nil => intro a _ p hp; cases hp
  | cons q r ih =>
    intro a h p hp
    rcases List.mem_cons.mp hp with rfl | hp
    · exact ⟨h.1.1, h.1.2.1⟩
    · exact ih _ h.2 p hp
theorem tr_fin_in (hm : tr_md P A B Y) (r : List Int) : ∀ a, (0 ≤ a ∧ a ≤ 7) → tr_ok P A B a r → 0 ≤ tr_fin A B a r ∧ tr_fin A B a r ≤ 7 := by
  induction r with
  | nil => intro a h _; exact h
  | cons q r ih => intro a _ h; exact ih _ (tr_oth_in hm h.1) h.2
theorem tr_len_b (hm : tr_md P A B Y) (r : List Int) (h : ∀ p ∈ r, 0 ≤ p ∧ p < P) : (r.length : Int) ≤ tr_len Y r ∧ tr_len Y r ≤ 9 * r.length := by
  induction r with
  | nil => simp [tr_len]
  | cons q r ih =>
    have h1 := hm.2.2 q (h q List.mem_cons_self).1 (h q List.mem_cons_self).2
    have h2 := ih (fun p hp => h p (List.mem_cons_of_mem _ hp))
    simp only [tr_len, List.length_cons]
    omega
theorem tr_nx_iff {g p : Int} {r : List Int} (hp : 0 ≤ p) : tr_nx g r = p ↔ (if g = 0 then r.head? = some p else r.getLast? = some p) := by
  unfold tr_nx
  by_cases hg : g = 0
  · rw [if_pos hg, if_pos hg]
    cases r.head? with
    | none => simp; omega
    | some q => simp
  · rw [if_neg hg, if_neg hg]
    cases r.getLast? with
    | none => simp; omega
    | some q => simp
theorem tr_go_T {g p : Int} {S : Int × Int × List Int} (hg : g = 0 ∨ g = 1) (hp : 0 ≤ p) (h : tr_nx g S.2.2 = p) : tr_go A B g p S = if g = 0 then (tr_oth A B p S.1, S.2.1, S.2.2.tail) else (S.1, tr_oth A B p S.2.1, S.2.2.dropLast) := by
  rw [tr_nx_iff hp] at h
  unfold tr_go
  rcases hg with rfl | rfl
  · rw [if_pos rfl] at h; rw [if_pos rfl, if_pos h, if_pos rfl]
  · rw [if_neg (by decide)] at h; rw [if_neg (by decide), if_pos h, if_neg (by decide)]
theorem tr_go_F {g p : Int} {S : Int × Int × List Int} (hg : g = 0 ∨ g = 1) (hp : 0 ≤ p) (h : tr_nx g S.2.2 ≠ p) : tr_go A B g p S = if g = 0 then (tr_oth A B p S.1, S.2.1, p :: S.2.2) else (S.1, tr_oth A B p S.2.1, S.2.2 ++ [p]) := by
  have h : ¬ _ := fun q => h ((tr_nx_iff hp).mpr q)
  unfold tr_go
  rcases hg with rfl | rfl
  · rw [if_pos rfl] at h; rw [if_pos rfl, if_neg h, if_pos rfl]
  · rw [if_neg (by decide)] at h; rw [if_neg (by decide), if_neg h, if_neg (by decide)]
/-- going keeps what a rope is -/
theorem tr_go_I {g p : Int} {S : Int × Int × List Int} (hm : tr_md P A B Y) (hg : g = 0 ∨ g = 1) (hI : tr_I P A B S) (ht : tr_tch P A B p (tr_at g S)) : tr_I P A B (tr_go A B g p S) := by
  obtain ⟨a, b, r⟩ := S
  obtain ⟨h1, h2, h3, h4⟩ := hI
  dsimp only at h1 h2 h3 h4
  unfold tr_at at ht
  rcases hg with rfl | rfl
  · rw [if_pos rfl] at ht
    dsimp only at ht
    unfold tr_go
    rw [if_pos rfl]
    dsimp only
    by_cases hh : r.head? = some p
    · rw [if_pos hh]
      cases r with
      | nil => cases hh
      | cons q r =>
        cases hh
        exact ⟨tr_oth_in hm ht, h2.2, h3, h4.2⟩
    · rw [if_neg hh]
      refine ⟨tr_oth_in hm ht, ⟨tr_tch_oth ht, ?_⟩, ?_, ⟨hh, h4⟩⟩
      · rw [tr_oth_oth hm ht]; exact h2
      · show b = tr_fin A B (tr_oth A B p (tr_oth A B p a)) r
        rw [tr_oth_oth hm ht]; exact h3
  · rw [if_neg (by decide)] at ht
    dsimp only at ht
    unfold tr_go
    rw [if_neg (by decide)]
    dsimp only
    by_cases hh : r.getLast? = some p
    · rw [if_pos hh]
      have e := tr_last r p hh
      rw [e] at h2 h3 h4
      have h5 := (tr_ok_app _ _ _).mp h2
      rw [tr_fin_app] at h3
      refine ⟨h1, h5.1, ?_, ((tr_nd_app _ _).mp h4).1⟩
      show tr_oth A B p b = tr_fin A B a r.dropLast
      rw [h3, tr_oth_oth hm h5.2]
    · rw [if_neg hh]
      refine ⟨h1, (tr_ok_app _ _ _).mpr ⟨h2, by rw [← h3]; exact ht⟩, ?_, (tr_nd_app _ _).mpr ⟨h4, hh⟩⟩
      show tr_oth A B p b = tr_fin A B a (r ++ [p])
      rw [tr_fin_app, h3]
theorem tr_go_len {g p : Int} {S : Int × Int × List Int} (hg : g = 0 ∨ g = 1) (hp : 0 ≤ p) : tr_len Y (tr_go A B g p S).2.2 = if tr_nx g S.2.2 = p then tr_len Y S.2.2 - Y p else tr_len Y S.2.2 + Y p := by
  obtain ⟨a, b, r⟩ := S
  by_cases h : tr_nx g r = p
  · rw [if_pos h, tr_go_T hg hp h]
    rw [tr_nx_iff hp] at h
    rcases hg with rfl | rfl
    · rw [if_pos rfl] at h ⊢
      cases r with
      | nil => cases h
      | cons q r => cases h; simp only [List.tail_cons, tr_len]; omega
    · rw [if_neg (by decide)] at h ⊢
      have e := tr_last r p h
      dsimp only
      have e2 : tr_len Y r = tr_len Y (r.dropLast ++ [p]) := by rw [← e]
      rw [e2, tr_len_app]
      simp only [tr_len]; omega
  · rw [if_neg h, tr_go_F hg hp h]
    rcases hg with rfl | rfl
    · rw [if_pos rfl]; simp only [tr_len]; omega
    · rw [if_neg (by decide)]; simp only [tr_len_app, tr_len]; omega
theorem tr_go_at {g p : Int} {S : Int × Int × List Int} (hg : g = 0 ∨ g = 1) : tr_at g (tr_go A B g p S) = tr_oth A B p (tr_at g S) := by
  obtain ⟨a, b, r⟩ := S
  unfold tr_go tr_at
  rcases hg with rfl | rfl
  · by_cases h : r.head? = some p <;> simp [h]
  · by_cases h : r.getLast? = some p <;> simp [h]
theorem tr_go_go {g p : Int} {S : Int × Int × List Int} (hm : tr_md P A B Y) (hg : g = 0 ∨ g = 1) (hI : tr_I P A B S) (ht : tr_tch P A B p (tr_at g S)) : tr_go A B g p (tr_go A B g p S) = S := by
  obtain ⟨a, b, r⟩ := S
  obtain ⟨h1, h2, h3, h4⟩ := hI
  dsimp only at h1 h2 h3 h4
  unfold tr_at at ht
  rcases hg with rfl | rfl
  · rw [if_pos rfl] at ht
    dsimp only at ht
    unfold tr_go
    rw [if_pos rfl, if_pos rfl]
    dsimp only
    by_cases hh : r.head? = some p
    · rw [if_pos hh]
      cases r with
      | nil => cases hh
      | cons q r =>
        cases hh
        rw [List.tail_cons, if_neg h4.1, tr_oth_oth hm ht]
    · rw [if_neg hh]
      dsimp only
      rw [List.head?_cons, if_pos rfl, List.tail_cons, tr_oth_oth hm ht]
  · rw [if_neg (by decide)] at ht
    dsimp only at ht
    have h10 : ¬ (1 : Int) = 0 := by decide
    unfold tr_go
    simp only [h10, if_false]
    by_cases hh : r.getLast? = some p
    · rw [if_pos hh]
      have e := tr_last r p hh
      rw [e] at h4
      rw [if_neg ((tr_nd_app _ _).mp h4).2, tr_oth_oth hm ht, ← e]
    · rw [if_neg hh]
      rw [List.getLast?_concat, if_pos rfl, List.dropLast_concat, tr_oth_oth hm ht]
theorem tr_go_length {g p : Int} {S : Int × Int × List Int} : (tr_go A B g p S).2.2.length ≤ S.2.2.length + 1 := by
  obtain ⟨a, b, r⟩ := S
  unfold tr_go
  by_cases hg : g = 0
  · rw [if_pos hg]; by_cases h : r.head? = some p <;> simp [h]; omega
  · rw [if_neg hg]; by_cases h : r.getLast? = some p <;> simp [h]; omega
end TRR
