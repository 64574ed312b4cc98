-- ways that are kept, each once and no more than 1001
abbrev tr_S : Type := Int × Int × List Int
def ts_nu (L : List tr_S) (S : tr_S) : List tr_S := if S ∈ L then L else L ++ [S]
def ts_nt (L : List tr_S) (S : tr_S) : List tr_S := if 1000 < L.length then L else ts_nu L S
theorem ts_nu_pre (L : List tr_S) (S : tr_S) : ∃ t, ts_nu L S = L ++ t ∧ t.length ≤ 1 := by
  unfold ts_nu
  by_cases h : S ∈ L
  · rw [if_pos h]; exact ⟨[], by simp, by simp⟩
  · rw [if_neg h]; exact ⟨[S], rfl, by simp⟩
theorem ts_nu_fold : ∀ (C L : List tr_S), L.Nodup → (C.foldl ts_nu L).Nodup ∧ (∀ X, X ∈ C.foldl ts_nu L ↔ X ∈ L ∨ X ∈ C) ∧ ∃ t, C.foldl ts_nu L = L ++ t
  | [], L, h => ⟨h, fun X => by simp, [], by simp⟩
  | S :: C, L, h => by
    have h1 : (ts_nu L S).Nodup ∧ ∀ X, X ∈ ts_nu L S ↔ X ∈ L ∨ X = S := by
      unfold ts_nu
      by_cases c : S ∈ L
      · rw [if_pos c]
        refine ⟨h, fun X => ⟨Or.inl, fun z => z.elim id (fun e => by rw [e]; exact c)⟩⟩
      · rw [if_neg c]
        refine ⟨List.nodup_append.mpr ⟨h, by simp, fun a ha b hb => ?_⟩, fun X => by simp⟩
        rw [List.mem_singleton.mp hb]
        exact fun e => c (by rw [← e]; exact ha)
    obtain ⟨g1, g2, t, g3⟩ := ts_nu_fold C (ts_nu L S) h1.1
    obtain ⟨t2, g4, -⟩ := ts_nu_pre L S
    refine ⟨g1, fun X => ?_, t2 ++ t, ?_⟩
    · show X ∈ C.foldl ts_nu (ts_nu L S) ↔ _
      rw [g2, h1.2, List.mem_cons, or_assoc]
    · show C.foldl ts_nu (ts_nu L S) = _
      rw [g3, g4, List.append_assoc]
theorem ts_nt_fold : ∀ (C L : List tr_S), L.Nodup → L.length ≤ 1001 → C.foldl ts_nt L = (C.foldl ts_nu L).take 1001
  | [], L, _, h => (List.take_of_length_le h).symm
  | S :: C, L, hn, h => by
    obtain ⟨g1, -, -⟩ := ts_nu_fold [S] L hn
    have g1 : (ts_nu L S).Nodup := g1
    obtain ⟨t, e1, e2⟩ := ts_nu_pre L S
    show C.foldl ts_nt (ts_nt L S) = (C.foldl ts_nu (ts_nu L S)).take 1001
    by_cases c : 1000 < L.length
    · have e3 : ts_nt L S = L := if_pos c
      have e4 : L.length = 1001 := by omega
      obtain ⟨-, -, u, e5⟩ := ts_nu_fold C L hn
      obtain ⟨-, -, u2, e6⟩ := ts_nu_fold C (ts_nu L S) g1
      rw [e3, ts_nt_fold C L hn h, e5, e6, e1, List.append_assoc, List.take_append_of_le_length (by omega), List.take_append_of_le_length (by omega)]
    · have e3 : ts_nt L S = ts_nu L S := if_neg c
      rw [e3]
      exact ts_nt_fold C _ g1 (by rw [e1, List.length_append]; omega)
/-- two rows of ways with the same members, and what becomes of them -/
theorem ts_same {L M C D : List tr_S} (hL : L.Nodup) (hM : M.Nodup) (hLM : ∀ X, X ∈ L ↔ X ∈ M) (hl : L.length ≤ 1000) (hCD : ∀ X, X ∈ C ↔ X ∈ D) :
    (C.foldl ts_nt L).Nodup ∧ (D.foldl ts_nt M).Nodup ∧ (C.foldl ts_nt L).length = (D.foldl ts_nt M).length ∧ (C.foldl ts_nt L).length ≤ 1001 ∧
    ((C.foldl ts_nt L).length ≤ 1000 → ∀ X, X ∈ C.foldl ts_nt L ↔ X ∈ D.foldl ts_nt M) ∧ (∃ t, C.foldl ts_nt L = L ++ t) ∧ (∃ t, D.foldl ts_nt M = M ++ t) ∧ L.length = M.length ∧ (∀ X, X ∈ C.foldl ts_nt L → X ∈ L ∨ X ∈ C) ∧ (∀ X, X ∈ D.foldl ts_nt M → X ∈ M ∨ X ∈ D) := by
  have e0 : L.length = M.length := ((List.perm_ext_iff_of_nodup hL hM).mpr hLM).length_eq
  obtain ⟨a1, a2, t, a3⟩ := ts_nu_fold C L hL
  obtain ⟨b1, b2, u, b3⟩ := ts_nu_fold D M hM
  have hm : ∀ X, X ∈ C.foldl ts_nu L ↔ X ∈ D.foldl ts_nu M := fun X => by rw [a2, b2, hLM, hCD]
  have e1 : (C.foldl ts_nu L).length = (D.foldl ts_nu M).length := ((List.perm_ext_iff_of_nodup a1 b1).mpr hm).length_eq
  rw [ts_nt_fold C L hL (by omega), ts_nt_fold D M hM (by omega)]
  refine ⟨a1.sublist (List.take_sublist _ _), b1.sublist (List.take_sublist _ _), by rw [List.length_take, List.length_take, e1], by rw [List.length_take]; omega, fun h => ?_, ?_, ?_, e0, fun X h => (a2 X).mp (List.mem_of_mem_take h), fun X h => (b2 X).mp (List.mem_of_mem_take h)⟩
  · rw [List.length_take] at h
    rw [List.take_of_length_le (by omega), List.take_of_length_le (by omega)]
    exact hm
  · rw [a3, List.take_append, List.take_of_length_le (by omega)]
    exact ⟨_, rfl⟩
  · rw [b3, List.take_append, List.take_of_length_le (by omega)]
    exact ⟨_, rfl⟩
section CAND
variable {P : Int} {A B Y : Int → Int} {ρ : Int}
def ts_ok (P : Int) (A B Y : Int → Int) (ρ : Int) (g p : Int) (S : tr_S) : Bool := decide (0 ≤ p ∧ p < P ∧ (A p = tr_at g S ∨ B p = tr_at g S)) && decide (tr_len Y (tr_go A B g p S).2.2 ≤ ρ)
theorem ts_ok_e {g p : Int} {S : tr_S} : ts_ok P A B Y ρ g p S = true ↔ tr_tch P A B p (tr_at g S) ∧ tr_len Y (tr_go A B g p S).2.2 ≤ ρ := by
  unfold ts_ok tr_tch
  rw [Bool.and_eq_true, decide_eq_true_iff, decide_eq_true_iff]
def ts_cand (P : Int) (A B Y : Int → Int) (ρ : Int) (c : Nat → Int × Int) (S : tr_S) : Nat → Nat → List tr_S
  | 0, _ => []
  | n + 1, i => if ts_ok P A B Y ρ (c i).1 (c i).2 S = true then tr_go A B (c i).1 (c i).2 S :: ts_cand P A B Y ρ c S n (i + 1) else ts_cand P A B Y ρ c S n (i + 1)
theorem ts_cand_m {c : Nat → Int × Int} {S X : tr_S} : ∀ (n i : Nat), X ∈ ts_cand P A B Y ρ c S n i ↔ ∃ j, i ≤ j ∧ j < i + n ∧ ts_ok P A B Y ρ (c j).1 (c j).2 S = true ∧ X = tr_go A B (c j).1 (c j).2 S := by
  intro n
  induction n with
  | zero =>
    intro i
    constructor
    · intro h; cases h
    · rintro ⟨j, h1, h2, -⟩; omega
  | succ n ih =>
    intro i
    unfold ts_cand
    by_cases h : ts_ok P A B Y ρ (c i).1 (c i).2 S = true
    · rw [if_pos h, List.mem_cons, ih]
      constructor
      · rintro (z | ⟨j, z1, z2, z3⟩)
        · exact ⟨i, Nat.le_refl i, by omega, h, z⟩
        · exact ⟨j, by omega, by omega, z3⟩
      · rintro ⟨j, z1, z2, z3, z4⟩
        by_cases e : j = i
        · left; rw [e] at z4; exact z4
        · right; exact ⟨j, by omega, by omega, z3, z4⟩
    · rw [if_neg h, ih]
      constructor
      · rintro ⟨j, z1, z2, z3⟩
        exact ⟨j, by omega, by omega, z3⟩
      · rintro ⟨j, z1, z2, z3, z4⟩
        by_cases e : j = i
        · rw [e] at z3; exact absurd z3 h
        · exact ⟨j, by omega, by omega, z3, z4⟩
def ts_cx (j : Nat) : Int × Int := (((j % 2 : Nat) : Int), ((j / 2 : Nat) : Int))
def ts_cm (j : Nat) : Int × Int := (((j / 8 : Nat) : Int), ((j % 8 : Nat) : Int))
theorem ts_cand_x (hm : tr_md P A B Y) {S X : tr_S} : X ∈ ts_cand P A B Y ρ ts_cx S (2 * P.toNat) 0 ↔ ∃ g p, (g = 0 ∨ g = 1) ∧ ts_ok P A B Y ρ g p S = true ∧ X = tr_go A B g p S := by
  rw [ts_cand_m]
  constructor
  · rintro ⟨j, -, h2, h3, h4⟩
    exact ⟨_, _, by unfold ts_cx; dsimp only; omega, h3, h4⟩
  · rintro ⟨g, p, h1, h3, h4⟩
    have ht := (ts_ok_e.mp h3).1
    have e : ts_cx (2 * p.toNat + g.toNat) = (g, p) := by
      have := ht.1
      unfold ts_cx
      rw [show (2 * p.toNat + g.toNat) % 2 = g.toNat by omega, show (2 * p.toNat + g.toNat) / 2 = p.toNat by omega, show ((g.toNat : Nat) : Int) = g by omega, show ((p.toNat : Nat) : Int) = p by omega]
    refine ⟨2 * p.toNat + g.toNat, Nat.zero_le _, ?_, ?_, ?_⟩
    · have := ht.1; have := ht.2.1; omega
    · rw [e]; exact h3
    · rw [e]; exact h4
theorem ts_cand_r (hm : tr_md P A B Y) {S X : tr_S} : X ∈ ts_cand P A B Y ρ ts_cm S 16 0 ↔ ∃ g p, (g = 0 ∨ g = 1) ∧ ts_ok P A B Y ρ g p S = true ∧ X = tr_go A B g p S := by
  rw [ts_cand_m]
  constructor
  · rintro ⟨j, -, h2, h3, h4⟩
    exact ⟨_, _, by unfold ts_cm; dsimp only; omega, h3, h4⟩
  · rintro ⟨g, p, h1, h3, h4⟩
    have ht := (ts_ok_e.mp h3).1
    have hP := hm.2.1
    have e : ts_cm (8 * g.toNat + p.toNat) = (g, p) := by
      have := ht.1; have := ht.2.1
      unfold ts_cm
      rw [show (8 * g.toNat + p.toNat) % 8 = p.toNat by omega, show (8 * g.toNat + p.toNat) / 8 = g.toNat by omega, show ((g.toNat : Nat) : Int) = g by omega, show ((p.toNat : Nat) : Int) = p by omega]
    refine ⟨8 * g.toNat + p.toNat, Nat.zero_le _, ?_, ?_, ?_⟩
    · have := ht.1; have := ht.2.1; omega
    · rw [e]; exact h3
    · rw [e]; exact h4
def ts_cands (P : Int) (A B Y : Int → Int) (ρ : Int) (c : Nat → Int × Int) (n : Nat) (fr : List tr_S) : List tr_S := fr.flatMap (fun S => ts_cand P A B Y ρ c S n 0)
theorem ts_cands_same (hm : tr_md P A B Y) {fx fm : List tr_S} (h : ∀ X, X ∈ fx ↔ X ∈ fm) : ∀ X, X ∈ ts_cands P A B Y ρ ts_cx (2 * P.toNat) fx ↔ X ∈ ts_cands P A B Y ρ ts_cm 16 fm := by
  intro X
  unfold ts_cands
  rw [List.mem_flatMap, List.mem_flatMap]
  constructor
  · rintro ⟨S, h1, h2⟩
    exact ⟨S, (h S).mp h1, (ts_cand_r hm).mpr ((ts_cand_x hm).mp h2)⟩
  · rintro ⟨S, h1, h2⟩
    exact ⟨S, (h S).mpr h1, (ts_cand_x hm).mpr ((ts_cand_r hm).mp h2)⟩
/-- of two rows with the same members and the same members ahead, what is left has the same members -/
theorem ts_front {L M : List tr_S} {b : Nat} (hL : L.Nodup) (hM : M.Nodup) (h : ∀ X, X ∈ L ↔ X ∈ M) (hb : ∀ X, X ∈ L.take b ↔ X ∈ M.take b) : ∀ X, X ∈ L.drop b ↔ X ∈ M.drop b := by
  have one : ∀ (L : List tr_S), L.Nodup → ∀ X, X ∈ L.drop b ↔ X ∈ L ∧ X ∉ L.take b := by
    intro L hL X
    have e := List.take_append_drop b L
    rw [← e] at hL
    have hd := (List.nodup_append.mp hL).2.2
    constructor
    · intro hx
      exact ⟨List.mem_of_mem_drop hx, fun z => hd X z X hx rfl⟩
    · rintro ⟨h1, h2⟩
      rw [← e] at h1
      exact (List.mem_append.mp h1).resolve_left h2
  intro X
  rw [one L hL, one M hM, h, hb]
end CAND
