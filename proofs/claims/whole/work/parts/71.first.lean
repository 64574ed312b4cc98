-- the first memories are related
theorem R_all0 : R_all mu7 mu8 := by
  have t0 : ∀ k t : Nat, mu7 k 1 = 0 → mu8 6 t = 0 → R_txt mu7 mu8 k t := fun k t h1 h2 => ⟨by rw [h1]; omega, by rw [h1, h2], fun i a b => by rw [h1] at b; omega⟩
  have s0 : ∀ s : Nat, mu7 (40 + 2 * s) 1 = -1 → mu8 1 s = -1 → R_sht mu7 mu8 s := fun s h1 h2 => ⟨by rw [h1]; omega, by rw [h1, h2], fun z => absurd h1 z⟩
  refine ⟨⟨?_, ?_, ?_⟩, t0 2 0 rfl rfl, t0 11 1 rfl rfl, t0 19 2 rfl rfl, ⟨?_, ?_, ?_, ?_, ?_, ?_, ?_⟩, s0 0 rfl rfl, s0 1 rfl rfl, s0 2 rfl rfl, s0 3 rfl rfl⟩
  · show tm_ff (fun i => mu7 3 i.toNat) 0 (-1)
    unfold tm_ff
    left
    refine ⟨rfl, fun i a b => by omega, by omega⟩
  · decide
  · intro p a b
    have e : mu7 1 8 = 0 := rfl
    rw [e] at b
    omega
  · decide
  · decide
  · decide
  · decide
  · decide
  · intro i a b
    have e1 : mu8 10 i.toNat = 0 := rfl
    have e2 : mu7 5 i.toNat = 0 := rfl
    rw [e1, e2]
    omega
  · decide
