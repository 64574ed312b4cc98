-- two who step in turn: what it is worth
theorem tg_II (x : Int32) : tg_I x.toInt = x := Int32.ofInt_toInt x
theorem tu_ishr {b q : Int} (hq : 0 ≤ q ∧ q ≤ 7) (i : Nat) (hi : i < 20) : (tg_I (tg_ishr b q)).toBitVec.getLsbD i = (tg_I b).toBitVec.getLsbD (q.toNat + i) := by
  have hs : ((tg_I q &&& 31).toBitVec.smod 32).toNat = q.toNat := by
    obtain ⟨n, hn⟩ : ∃ n : Fin 8, q = ((n.val : Nat) : Int) := ⟨⟨q.toNat, by omega⟩, by dsimp only; omega⟩
    rw [hn]
    have : ∀ n : Fin 8, ((tg_I ((n.val : Nat) : Int) &&& 31).toBitVec.smod 32).toNat = (((n.val : Nat) : Int)).toNat := by decide +kernel
    exact this n
  unfold tg_ishr
  rw [tg_II, Int32.toBitVec_shiftRight, BitVec.sshiftRight_eq', hs, BitVec.getLsbD_sshiftRight]
  have h1 : ¬ (32 ≤ i) := by omega
  have h2 : q.toNat + i < 32 := by omega
  simp [h1, h2]
theorem tu_iand {b : Int} : tg_iand b 1 = if (tg_I b).toBitVec.getLsbD 0 = true then 1 else 0 := by
  have e : (tg_I b &&& tg_I 1).toBitVec = BitVec.setWidth 32 (BitVec.ofBool ((tg_I b).toBitVec.getLsbD 0)) := by
    rw [Int32.toBitVec_and, show (tg_I 1).toBitVec = 1#32 from rfl, BitVec.and_one_eq_setWidth_ofBool_getLsbD]
  show (tg_I b &&& tg_I 1).toBitVec.toInt = _
  rw [e]
  cases (tg_I b).toBitVec.getLsbD 0 <;> decide
theorem tu_bit {b q : Int} (hq : 0 ≤ q ∧ q ≤ 7) : tg_iand (tg_ishr b q) 1 = 0 ↔ (tg_I b).toBitVec.getLsbD q.toNat = false := by
  rw [tu_iand, tu_ishr hq 0 (by decide), Nat.add_zero]
  cases (tg_I b).toBitVec.getLsbD q.toNat
  · simp
  · simp
theorem tu_ior {b pl q : Int} (hpl : 0 ≤ pl ∧ pl ≤ 7) (hq : 0 ≤ q ∧ q ≤ 7) : (tg_I (tg_ior b (tg_ishl 1 pl))).toBitVec.getLsbD q.toNat = ((tg_I b).toBitVec.getLsbD q.toNat || decide (q = pl)) := by
  unfold tg_ior
  rw [tg_II, Int32.toBitVec_or, BitVec.getLsbD_or]
  congr 1
  have : ∀ n k : Fin 8, (tg_I (tg_ishl 1 ((n.val : Nat) : Int))).toBitVec.getLsbD k.val = decide (((k.val : Nat) : Int) = ((n.val : Nat) : Int)) := by decide +kernel
  have h := this ⟨pl.toNat, by omega⟩ ⟨q.toNat, by omega⟩
  dsimp only at h
  rw [show ((pl.toNat : Nat) : Int) = pl by omega, show ((q.toNat : Nat) : Int) = q by omega] at h
  exact h
def tu_b (bare pl : Int) : Int := tg_ior bare (tg_ishl 1 pl)
section TURNS
variable {P : Int} {A B Y : Int → Int} {ρ : Int} {w : Int → Int}
theorem tu_wo {b pl q : Int} (hpl : 0 ≤ pl ∧ pl ≤ 7) (hq : 0 ≤ q ∧ q ≤ 7) (h : tr_wo w q b = 0) : tr_wo w q (tu_b b pl) = 0 := by
  unfold tr_wo at h ⊢
  by_cases c : tg_iand (tg_ishr b q) 1 = 0
  · rw [if_pos c] at h
    split
    · exact h
    · rfl
  · have c2 : ¬ tg_iand (tg_ishr (tu_b b pl) q) 1 = 0 := by
      rw [tu_bit hq] at c ⊢
      unfold tu_b
      rw [tu_ior hpl hq]
      intro z
      rw [Bool.or_eq_false_iff] at z
      exact c z.1
    rw [if_neg c2]
/-- the best of standing still and of the paths from 'p' on -/
def tu_f (P : Int) (A B Y : Int → Int) (ρ : Int) (w : Int → Int) (T : tr_S → Int → Int) (g : Int) (S : tr_S) (bare : Int) : Nat → Int → Int → Int → Int × Int
  | 0, _, best, step => (best, step)
  | N + 1, p, best, step =>
    if ts_ok P A B Y ρ g p S = true then
      (if best < tr_wo w (tr_at g (tr_go A B g p S)) bare - T (tr_go A B g p S) (tu_b bare (tr_at g (tr_go A B g p S))) then
        tu_f P A B Y ρ w T g S bare N (p + 1) (tr_wo w (tr_at g (tr_go A B g p S)) bare - T (tr_go A B g p S) (tu_b bare (tr_at g (tr_go A B g p S)))) p
      else tu_f P A B Y ρ w T g S bare N (p + 1) best step)
    else tu_f P A B Y ρ w T g S bare N (p + 1) best step
def tu_v (P : Int) (A B Y : Int → Int) (ρ : Int) (w : Int → Int) : Nat → Int → tr_S → Int → Int
  | 0, _, _, _ => 0
  | n + 1, g, S, bare => (tu_f P A B Y ρ w (tu_v P A B Y ρ w n (1 - g)) g S bare P.toNat 0 (-(tu_v P A B Y ρ w n (1 - g) S bare)) (-1)).1
def tu_p (P : Int) (A B Y : Int → Int) (ρ : Int) (w : Int → Int) : Nat → Int → tr_S → Int → Int
  | 0, _, _, _ => -1
  | n + 1, g, S, bare => (tu_f P A B Y ρ w (tu_v P A B Y ρ w n (1 - g)) g S bare P.toNat 0 (-(tu_v P A B Y ρ w n (1 - g) S bare)) (-1)).2
theorem tu_f_b {T : tr_S → Int → Int} {g : Int} {S : tr_S} {bare c : Int} (hm : tr_md P A B Y) (hg : g = 0 ∨ g = 1) (hS : ts_va P A B Y ρ S) (hw : ∀ i, 0 ≤ i → i ≤ 7 → 0 ≤ w i ∧ w i ≤ 99) (hT : ∀ X b, ts_va P A B Y ρ X → -c ≤ T X b ∧ T X b ≤ c) : ∀ (N : Nat) (p best step : Int), -(c + 99) ≤ best → best ≤ c + 99 → -(c + 99) ≤ (tu_f P A B Y ρ w T g S bare N p best step).1 ∧ (tu_f P A B Y ρ w T g S bare N p best step).1 ≤ c + 99 ∧ best ≤ (tu_f P A B Y ρ w T g S bare N p best step).1 := by
  intro N
  induction N with
  | zero => intro p best step h1 h2; exact ⟨h1, h2, Int.le_refl _⟩
  | succ N ih =>
    intro p best step h1 h2
    unfold tu_f
    by_cases ho : ts_ok P A B Y ρ g p S = true
    · rw [if_pos ho]
      have hva := ts_ok_va hm hg hS ho
      have hat := tr_at_b (g := g) hm hva.1
      have h3 := hT _ (tu_b bare (tr_at g (tr_go A B g p S))) hva
      have h4 : 0 ≤ tr_wo w (tr_at g (tr_go A B g p S)) bare ∧ tr_wo w (tr_at g (tr_go A B g p S)) bare ≤ 99 := tr_wo_b (hw _ hat.1 hat.2)
      by_cases hb : best < tr_wo w (tr_at g (tr_go A B g p S)) bare - T (tr_go A B g p S) (tu_b bare (tr_at g (tr_go A B g p S)))
      · rw [if_pos hb]
        have := ih (p + 1) (tr_wo w (tr_at g (tr_go A B g p S)) bare - T (tr_go A B g p S) (tu_b bare (tr_at g (tr_go A B g p S)))) p (by omega) (by omega)
        omega
      · rw [if_neg hb]; exact ih (p + 1) best step h1 h2
    · rw [if_neg ho]; exact ih (p + 1) best step h1 h2
theorem tu_v_b (hm : tr_md P A B Y) (hw : ∀ i, 0 ≤ i → i ≤ 7 → 0 ≤ w i ∧ w i ≤ 99) : ∀ (n : Nat) (g : Int) (S : tr_S) (bare : Int), (g = 0 ∨ g = 1) → ts_va P A B Y ρ S → -(99 * (n : Int)) ≤ tu_v P A B Y ρ w n g S bare ∧ tu_v P A B Y ρ w n g S bare ≤ 99 * n
  | 0, g, S, bare, _, _ => by
    show -(99 * ((0 : Nat) : Int)) ≤ 0 ∧ (0 : Int) ≤ 99 * ((0 : Nat) : Int)
    omega
  | n + 1, g, S, bare, hg, hS => by
    have h := fun X b (hX : ts_va P A B Y ρ X) => tu_v_b hm hw n (1 - g) X b (by omega) hX
    have h2 := h S bare hS
    have := tu_f_b (bare := bare) (c := 99 * n) hm hg hS hw h P.toNat 0 (-(tu_v P A B Y ρ w n (1 - g) S bare)) (-1) (by omega) (by omega)
    unfold tu_v
    omega
theorem tu_f_0 {T : tr_S → Int → Int} {g : Int} {S : tr_S} {bare : Int} (hm : tr_md P A B Y) (hg : g = 0 ∨ g = 1) (hS : ts_va P A B Y ρ S) (h0 : ∀ q, 0 ≤ q → q ≤ 7 → tr_wo w q bare = 0) (hT : ∀ X b, ts_va P A B Y ρ X → (∀ q, 0 ≤ q → q ≤ 7 → tr_wo w q b = 0) → T X b = 0) : ∀ (N : Nat) (p : Int), tu_f P A B Y ρ w T g S bare N p 0 (-1) = (0, -1) := by
  intro N
  induction N with
  | zero => intro p; rfl
  | succ N ih =>
    intro p
    unfold tu_f
    by_cases ho : ts_ok P A B Y ρ g p S = true
    · rw [if_pos ho]
      have hva := ts_ok_va hm hg hS ho
      have hat := tr_at_b (g := g) hm hva.1
      rw [h0 _ hat.1 hat.2, hT _ _ hva (fun q q1 q2 => tu_wo hat ⟨q1, q2⟩ (h0 q q1 q2)), if_neg (by decide)]
      exact ih (p + 1)
    · rw [if_neg ho]; exact ih (p + 1)
theorem tu_v_0 (hm : tr_md P A B Y) : ∀ (n : Nat) (g : Int) (S : tr_S) (bare : Int), (g = 0 ∨ g = 1) → ts_va P A B Y ρ S → (∀ q, 0 ≤ q → q ≤ 7 → tr_wo w q bare = 0) → tu_v P A B Y ρ w n g S bare = 0 ∧ tu_p P A B Y ρ w n g S bare = -1
  | 0, _, _, _, _, _, _ => ⟨rfl, rfl⟩
  | n + 1, g, S, bare, hg, hS, h0 => by
    have h := fun X b (hX : ts_va P A B Y ρ X) h => (tu_v_0 hm n (1 - g) X b (by omega) hX h).1
    show (tu_f P A B Y ρ w (tu_v P A B Y ρ w n (1 - g)) g S bare P.toNat 0 (-(tu_v P A B Y ρ w n (1 - g) S bare)) (-1)).1 = 0 ∧ (tu_f P A B Y ρ w (tu_v P A B Y ρ w n (1 - g)) g S bare P.toNat 0 (-(tu_v P A B Y ρ w n (1 - g) S bare)) (-1)).2 = -1
    rw [h S bare hS h0, show -(0 : Int) = 0 from rfl, tu_f_0 hm hg hS h0 h]
    exact ⟨rfl, rfl⟩
theorem tn_sum_0 {f : Int → Int} : ∀ (N : Nat) (i v : Int), (∀ j, i ≤ j → j < i + N → 0 ≤ f j) → v ≤ tn_sum f N i v ∧ (tn_sum f N i v = v → ∀ j, i ≤ j → j < i + N → f j = 0)
  | 0, i, v, _ => ⟨Int.le_refl _, fun _ j h1 h2 => by omega⟩
  | N + 1, i, v, h => by
    have h1 := h i (Int.le_refl _) (by omega)
    obtain ⟨a, b⟩ := tn_sum_0 N (i + 1) (v + f i) (fun j q1 q2 => h j (by omega) (by omega))
    have e : tn_sum f (N + 1) i v = tn_sum f N (i + 1) (v + f i) := rfl
    rw [e]
    refine ⟨by omega, fun hz j q1 q2 => ?_⟩
    have hfi : f i = 0 := by omega
    by_cases c : j = i
    · rw [c]; exact hfi
    · exact b (by omega) j (by omega) (by omega)
end TURNS
