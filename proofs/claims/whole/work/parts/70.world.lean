-- the worlds that the constructors leave (laid by wip/gen/gen_world.py)
theorem tk_permD {A : Nat → Prop} {ws ws' : va_W} (hD : va_D A ws) (is : List Nat) (hn : va_nd is = true) (hs : is.map (fun i => (ws[i]?).map (fun q => q.1)) = ws'.map (fun q => some q.1)) : va_D A ws' := by
  have key : ∀ (k : Nat) (q : Nat × va_E), ws'[k]? = some q → ∃ (i : Nat) (z : Nat × va_E), is[k]? = some i ∧ ws[i]? = some z ∧ z.1 = q.1 := by
    intro k q hk
    have h1 : (is.map (fun i => (ws[i]?).map (fun q => q.1)))[k]? = some (some q.1) := by rw [hs, List.getElem?_map, hk]; rfl
    rw [List.getElem?_map] at h1
    obtain ⟨i, h2, h3⟩ := Option.map_eq_some_iff.mp h1
    obtain ⟨z, h4, h5⟩ := Option.map_eq_some_iff.mp h3
    exact ⟨i, z, h2, h4, h5⟩
  refine ⟨fun i j x y hi hj hxy => ?_, fun k q hk => ?_⟩
  · obtain ⟨a, z1, h1, h2, h3⟩ := key i x hi
    obtain ⟨b, z2, h4, h5, h6⟩ := key j y hj
    have hab := hD.1 a b z1 z2 h2 h5 (by rw [h3, h6]; exact hxy)
    subst hab
    exact va_nd_inj is hn i j a h1 h4
  · obtain ⟨a, z, -, h2, h3⟩ := key k q hk
    rw [← h3]; exact hD.2 a z h2
theorem tgI0 : tg_I 0 = 0 := by decide +kernel
theorem tgI9 : tg_I 9 = 9 := by decide +kernel
theorem tgI5 : tg_I 5 = 5 := by decide +kernel
theorem tgIm : tg_I (-1) = -1 := by decide +kernel
theorem tgJ0 : tg_J 0 = 0 := by decide +kernel
theorem tg_ceI {G : tg_G} {ad : Nat → Nat} {row : Nat → Int} {n : Nat} {rs : List Nat} (h : ∀ j, row j = 0) : tg_ce G ad row (.inl (0, n, rs)) = .inl (G.1, n, .inl (fun _ => 0)) := by
  show (Sum.inl (G.1, n, Sum.inl (fun j => tg_I (row j))) : va_E) = _
  simp only [h, tgI0]
theorem tg_ceL {G : tg_G} {ad : Nat → Nat} {row : Nat → Int} {n : Nat} {rs : List Nat} (h : ∀ j, row j = 0) : tg_ce G ad row (.inl (1, n, rs)) = .inl (G.2.1, n, .inr (.inl (fun _ => 0))) := by
  show (Sum.inl (G.2.1, n, Sum.inr (Sum.inl (fun j => tg_J (row j)))) : va_E) = _
  simp only [h, tgJ0]
theorem tg_W_adr {G : tg_G} {ad : Nat → Nat} {L : List tg_Sh} {μ : tg_Mem} : (tg_W G ad L μ).map (fun q => some q.1) = (List.range L.length).map (fun k => some (ad k)) := by
  apply List.ext_getElem?
  intro i
  unfold tg_W
  rw [List.getElem?_map, List.getElem?_mapIdx, List.getElem?_map]
  by_cases h : i < L.length
  · rw [List.getElem?_eq_getElem h, List.getElem?_range h]; rfl
  · rw [List.getElem?_eq_none (by omega), List.getElem?_eq_none (by simp; omega)]; rfl
def tk_all (f : Nat → tg_Sh → Prop) : Nat → List tg_Sh → Prop
  | _, [] => True
  | k, s :: L => f k s ∧ tk_all f (k + 1) L
theorem tk_all_of {f : Nat → tg_Sh → Prop} : ∀ (L : List tg_Sh) (k : Nat), tk_all f k L → ∀ (i : Nat) (s : tg_Sh), L[i]? = some s → f (k + i) s
  | [], _, _, i, s, h => by simp at h
  | a :: L, k, ha, 0, s, h => by
    have e : a = s := by simpa using h
    rw [← e]; exact ha.1
  | a :: L, k, ha, i + 1, s, h => by
    have := tk_all_of L (k + 1) ha.2 i s (by simpa using h)
    rw [show k + (i + 1) = k + 1 + i by omega]; exact this
theorem tk_P_of {D : va_G} {G : tg_G} {ad : Nat → Nat} {L : List tg_Sh} {μ : tg_Mem} {H : Heap} (h : ∀ (k : Nat) (s : tg_Sh), L[k]? = some s → va_at D vwCl (ad k, tg_ce G ad (μ k) s) H) : va_P D vwCl (tg_W G ad L μ) H := by
  intro k q hk
  have hl : k < L.length := by
    have h1 := (List.getElem?_eq_some_iff.mp hk).1
    unfold tg_W at h1
    rw [List.length_mapIdx] at h1
    exact h1
  rw [tg_W_at (List.getElem?_eq_getElem hl)] at hk
  rw [← Option.some.inj hk]
  exact h k _ (List.getElem?_eq_getElem hl)
theorem mi_2 {f : Nat → Option Nat → Value} {a0 a1 : Option Nat} : List.mapIdx f [a0, a1] = [f 0 a0, f 1 a1] := by simp [List.mapIdx_cons]
theorem mi_3 {f : Nat → Option Nat → Value} {a0 a1 a2 : Option Nat} : List.mapIdx f [a0, a1, a2] = [f 0 a0, f 1 a1, f 2 a2] := by simp [List.mapIdx_cons]
theorem mi_4 {f : Nat → Option Nat → Value} {a0 a1 a2 a3 : Option Nat} : List.mapIdx f [a0, a1, a2, a3] = [f 0 a0, f 1 a1, f 2 a2, f 3 a3] := by simp [List.mapIdx_cons]
theorem mi_5 {f : Nat → Option Nat → Value} {a0 a1 a2 a3 a4 : Option Nat} : List.mapIdx f [a0, a1, a2, a3, a4] = [f 0 a0, f 1 a1, f 2 a2, f 3 a3, f 4 a4] := by simp [List.mapIdx_cons]
theorem mi_6 {f : Nat → Option Nat → Value} {a0 a1 a2 a3 a4 a5 : Option Nat} : List.mapIdx f [a0, a1, a2, a3, a4, a5] = [f 0 a0, f 1 a1, f 2 a2, f 3 a3, f 4 a4, f 5 a5] := by simp [List.mapIdx_cons]
theorem mi_8 {f : Nat → Option Nat → Value} {a0 a1 a2 a3 a4 a5 a6 a7 : Option Nat} : List.mapIdx f [a0, a1, a2, a3, a4, a5, a6, a7] = [f 0 a0, f 1 a1, f 2 a2, f 3 a3, f 4 a4, f 5 a5, f 6 a6, f 7 a7] := by simp [List.mapIdx_cons]
theorem mi_10 {f : Nat → Option Nat → Value} {a0 a1 a2 a3 a4 a5 a6 a7 a8 a9 : Option Nat} : List.mapIdx f [a0, a1, a2, a3, a4, a5, a6, a7, a8, a9] = [f 0 a0, f 1 a1, f 2 a2, f 3 a3, f 4 a4, f 5 a5, f 6 a6, f 7 a7, f 8 a8, f 9 a9] := by simp [List.mapIdx_cons]
theorem mi_29 {f : Nat → Option Nat → Value} {a0 a1 a2 a3 a4 a5 a6 a7 a8 a9 a10 a11 a12 a13 a14 a15 a16 a17 a18 a19 a20 a21 a22 a23 a24 a25 a26 a27 a28 : Option Nat} : List.mapIdx f [a0, a1, a2, a3, a4, a5, a6, a7, a8, a9, a10, a11, a12, a13, a14, a15, a16, a17, a18, a19, a20, a21, a22, a23, a24, a25, a26, a27, a28] = [f 0 a0, f 1 a1, f 2 a2, f 3 a3, f 4 a4, f 5 a5, f 6 a6, f 7 a7, f 8 a8, f 9 a9, f 10 a10, f 11 a11, f 12 a12, f 13 a13, f 14 a14, f 15 a15, f 16 a16, f 17 a17, f 18 a18, f 19 a19, f 20 a20, f 21 a21, f 22 a22, f 23 a23, f 24 a24, f 25 a25, f 26 a26, f 27 a27, f 28 a28] := by simp [List.mapIdx_cons]
def ad7 (h0 : Nat) (u : Nat → Nat) : Nat → Nat := fun k => [h0, u 0, u 1, u 2, u 3, u 4, u 5, u 6, u 7, u 8, u 9, u 10, u 11, u 14, u 15, u 16, u 12, u 13, u 17, u 18, u 19, u 22, u 23, u 24, u 20, u 21, u 25, u 28, u 29, u 30, u 26, u 27, u 31, u 32, u 33, u 34, u 35, u 36, u 37, u 38, u 39, u 40, u 41, u 42, u 43, u 44, u 45, u 46].getD k 0
def mu7 : tg_Mem := fun k j => if k = 1 then (if j = 7 then 9 else if j = 9 then -1 else 0) else if k = 4 then (if j = 0 then 5 else if j = 1 then 5 else 0) else if k = 32 then (if j = 3 then -1 else 0) else if k = 40 ∨ k = 42 ∨ k = 44 ∨ k = 46 then (if j = 1 then -1 else 0) else 0
set_option maxRecDepth 100000 in
set_option maxHeartbeats 8000000 in
theorem ad7_D {G : tg_G} {h0 : Nat} {u : Nat → Nat} {A : Nat → Prop} (hD : va_D A (tk_wX7 G h0 u)) (μ : tg_Mem) : va_D A (tg_W G (ad7 h0 u) LX μ) := tk_permD hD [0, 1, 2, 3, 4, 5, 6, 7, 8, 9, 10, 11, 12, 15, 16, 17, 13, 14, 18, 19, 20, 23, 24, 25, 21, 22, 26, 29, 30, 31, 27, 28, 32, 33, 34, 35, 36, 37, 38, 39, 40, 41, 42, 43, 44, 45, 46, 47] rfl (by rw [tg_W_adr]; rfl)
set_option maxRecDepth 100000 in
set_option maxHeartbeats 1000000 in
theorem ad7_c0 {D : va_G} {G : tg_G} {h0 : Nat} {u : Nat → Nat} {H : Heap} (hP : va_P D vwCl (tk_wX7 G h0 u) H) : va_at D vwCl (ad7 h0 u 0, tg_ce G (ad7 h0 u) (mu7 0) (.inr (7, [some 1, some 10, some 18, some 26, some 32, some 36, some 39, none]))) H := by
    have e : tg_ce G (ad7 h0 u) (mu7 0) (.inr (7, [some 1, some 10, some 18, some 26, some 32, some 36, some 39, none])) = .inr (7, [.ref (u 0), .ref (u 9), .ref (u 17), .ref (u 25), .ref (u 31), .ref (u 35), .ref (u 38), .int 0]) := by
      show (Sum.inr (7, List.mapIdx (tg_fv (ad7 h0 u) (mu7 0)) [some 1, some 10, some 18, some 26, some 32, some 36, some 39, none]) : va_E) = _
      rw [mi_8]
      show (Sum.inr (7, [Value.ref (ad7 h0 u 1), Value.ref (ad7 h0 u 10), Value.ref (ad7 h0 u 18), Value.ref (ad7 h0 u 26), Value.ref (ad7 h0 u 32), Value.ref (ad7 h0 u 36), Value.ref (ad7 h0 u 39), Value.int (tg_I (mu7 0 7))]) : va_E) = _
      rw [show mu7 0 7 = 0 from rfl, tgI0]
      rfl
    rw [e]
    exact hP 0 _ rfl
set_option maxRecDepth 100000 in
set_option maxHeartbeats 1000000 in
theorem ad7_c1 {D : va_G} {G : tg_G} {h0 : Nat} {u : Nat → Nat} {H : Heap} (hP : va_P D vwCl (tk_wX7 G h0 u) H) : va_at D vwCl (ad7 h0 u 1, tg_ce G (ad7 h0 u) (mu7 1) (.inr (2, [some 2, some 4, some 5, some 6, some 7, some 8, some 9, none, none, none]))) H := by
    have e : tg_ce G (ad7 h0 u) (mu7 1) (.inr (2, [some 2, some 4, some 5, some 6, some 7, some 8, some 9, none, none, none])) = .inr (2, [.ref (u 1), .ref (u 3), .ref (u 4), .ref (u 5), .ref (u 6), .ref (u 7), .ref (u 8), .int 9, .int 0, .int (-1)]) := by
      show (Sum.inr (2, List.mapIdx (tg_fv (ad7 h0 u) (mu7 1)) [some 2, some 4, some 5, some 6, some 7, some 8, some 9, none, none, none]) : va_E) = _
      rw [mi_10]
      show (Sum.inr (2, [Value.ref (ad7 h0 u 2), Value.ref (ad7 h0 u 4), Value.ref (ad7 h0 u 5), Value.ref (ad7 h0 u 6), Value.ref (ad7 h0 u 7), Value.ref (ad7 h0 u 8), Value.ref (ad7 h0 u 9), Value.int (tg_I (mu7 1 7)), Value.int (tg_I (mu7 1 8)), Value.int (tg_I (mu7 1 9))]) : va_E) = _
      rw [show mu7 1 7 = 9 from rfl, show mu7 1 8 = 0 from rfl, show mu7 1 9 = (-1) from rfl, tgI9, tgI0, tgIm]
      rfl
    rw [e]
    exact hP 1 _ rfl
set_option maxRecDepth 100000 in
set_option maxHeartbeats 1000000 in
theorem ad7_c2 {D : va_G} {G : tg_G} {h0 : Nat} {u : Nat → Nat} {H : Heap} (hP : va_P D vwCl (tk_wX7 G h0 u) H) : va_at D vwCl (ad7 h0 u 2, tg_ce G (ad7 h0 u) (mu7 2) (.inr (5, [some 3, none]))) H := by
    have e : tg_ce G (ad7 h0 u) (mu7 2) (.inr (5, [some 3, none])) = .inr (5, [.ref (u 2), .int 0]) := by
      show (Sum.inr (5, List.mapIdx (tg_fv (ad7 h0 u) (mu7 2)) [some 3, none]) : va_E) = _
      rw [mi_2]
      show (Sum.inr (5, [Value.ref (ad7 h0 u 3), Value.int (tg_I (mu7 2 1))]) : va_E) = _
      rw [show mu7 2 1 = 0 from rfl, tgI0]
      rfl
    rw [e]
    exact hP 2 _ rfl
set_option maxRecDepth 100000 in
set_option maxHeartbeats 1000000 in
theorem ad7_c3 {D : va_G} {G : tg_G} {h0 : Nat} {u : Nat → Nat} {H : Heap} (hP : va_P D vwCl (tk_wX7 G h0 u) H) : va_at D vwCl (ad7 h0 u 3, tg_ce G (ad7 h0 u) (mu7 3) (.inl (0, 40, []))) H := by
    rw [tg_ceI (row := mu7 3) (fun j => rfl)]
    exact hP 3 _ rfl
set_option maxRecDepth 100000 in
set_option maxHeartbeats 1000000 in
theorem ad7_c4 {D : va_G} {G : tg_G} {h0 : Nat} {u : Nat → Nat} {H : Heap} (hP : va_P D vwCl (tk_wX7 G h0 u) H) : va_at D vwCl (ad7 h0 u 4, tg_ce G (ad7 h0 u) (mu7 4) (.inl (0, 2, []))) H := by
    have e : (fun j => tg_I (mu7 4 j)) = upd (upd (fun _ => 0) (0 : Int32).toNatClampNeg 5) (1 : Int32).toNatClampNeg 5 := by
      funext j
      rcases j with _ | _ | j
      · decide +kernel
      · decide +kernel
      · show tg_I 0 = _; rw [tgI0]; simp [upd]
    show va_at D vwCl (_, .inl (G.1, 2, .inl (fun j => tg_I (mu7 4 j)))) H
    rw [e]
    exact hP 4 _ rfl
set_option maxRecDepth 100000 in
set_option maxHeartbeats 1000000 in
theorem ad7_c5 {D : va_G} {G : tg_G} {h0 : Nat} {u : Nat → Nat} {H : Heap} (hP : va_P D vwCl (tk_wX7 G h0 u) H) : va_at D vwCl (ad7 h0 u 5, tg_ce G (ad7 h0 u) (mu7 5) (.inl (0, 8, []))) H := by
    rw [tg_ceI (row := mu7 5) (fun j => rfl)]
    exact hP 5 _ rfl
set_option maxRecDepth 100000 in
set_option maxHeartbeats 1000000 in
theorem ad7_c6 {D : va_G} {G : tg_G} {h0 : Nat} {u : Nat → Nat} {H : Heap} (hP : va_P D vwCl (tk_wX7 G h0 u) H) : va_at D vwCl (ad7 h0 u 6, tg_ce G (ad7 h0 u) (mu7 6) (.inl (0, 8, []))) H := by
    rw [tg_ceI (row := mu7 6) (fun j => rfl)]
    exact hP 6 _ rfl
set_option maxRecDepth 100000 in
set_option maxHeartbeats 1000000 in
theorem ad7_c7 {D : va_G} {G : tg_G} {h0 : Nat} {u : Nat → Nat} {H : Heap} (hP : va_P D vwCl (tk_wX7 G h0 u) H) : va_at D vwCl (ad7 h0 u 7, tg_ce G (ad7 h0 u) (mu7 7) (.inl (0, 8, []))) H := by
    rw [tg_ceI (row := mu7 7) (fun j => rfl)]
    exact hP 7 _ rfl
set_option maxRecDepth 100000 in
set_option maxHeartbeats 1000000 in
theorem ad7_c8 {D : va_G} {G : tg_G} {h0 : Nat} {u : Nat → Nat} {H : Heap} (hP : va_P D vwCl (tk_wX7 G h0 u) H) : va_at D vwCl (ad7 h0 u 8, tg_ce G (ad7 h0 u) (mu7 8) (.inl (0, 8, []))) H := by
    rw [tg_ceI (row := mu7 8) (fun j => rfl)]
    exact hP 8 _ rfl
set_option maxRecDepth 100000 in
set_option maxHeartbeats 1000000 in
theorem ad7_c9 {D : va_G} {G : tg_G} {h0 : Nat} {u : Nat → Nat} {H : Heap} (hP : va_P D vwCl (tk_wX7 G h0 u) H) : va_at D vwCl (ad7 h0 u 9, tg_ce G (ad7 h0 u) (mu7 9) (.inl (0, 8, []))) H := by
    rw [tg_ceI (row := mu7 9) (fun j => rfl)]
    exact hP 9 _ rfl
set_option maxRecDepth 100000 in
set_option maxHeartbeats 1000000 in
theorem ad7_c10 {D : va_G} {G : tg_G} {h0 : Nat} {u : Nat → Nat} {H : Heap} (hP : va_P D vwCl (tk_wX7 G h0 u) H) : va_at D vwCl (ad7 h0 u 10, tg_ce G (ad7 h0 u) (mu7 10) (.inr (0, [some 1, some 11, some 13, some 16, some 17, none, none, none]))) H := by
    have e : tg_ce G (ad7 h0 u) (mu7 10) (.inr (0, [some 1, some 11, some 13, some 16, some 17, none, none, none])) = .inr (0, [.ref (u 0), .ref (u 10), .ref (u 14), .ref (u 12), .ref (u 13), .int 0, .int 0, .int 0]) := by
      show (Sum.inr (0, List.mapIdx (tg_fv (ad7 h0 u) (mu7 10)) [some 1, some 11, some 13, some 16, some 17, none, none, none]) : va_E) = _
      rw [mi_8]
      show (Sum.inr (0, [Value.ref (ad7 h0 u 1), Value.ref (ad7 h0 u 11), Value.ref (ad7 h0 u 13), Value.ref (ad7 h0 u 16), Value.ref (ad7 h0 u 17), Value.int (tg_I (mu7 10 5)), Value.int (tg_I (mu7 10 6)), Value.int (tg_I (mu7 10 7))]) : va_E) = _
      rw [show mu7 10 5 = 0 from rfl, show mu7 10 6 = 0 from rfl, show mu7 10 7 = 0 from rfl, tgI0]
      rfl
    rw [e]
    exact hP 10 _ rfl
set_option maxRecDepth 100000 in
set_option maxHeartbeats 1000000 in
theorem ad7_c11 {D : va_G} {G : tg_G} {h0 : Nat} {u : Nat → Nat} {H : Heap} (hP : va_P D vwCl (tk_wX7 G h0 u) H) : va_at D vwCl (ad7 h0 u 11, tg_ce G (ad7 h0 u) (mu7 11) (.inr (5, [some 12, none]))) H := by
    have e : tg_ce G (ad7 h0 u) (mu7 11) (.inr (5, [some 12, none])) = .inr (5, [.ref (u 11), .int 0]) := by
      show (Sum.inr (5, List.mapIdx (tg_fv (ad7 h0 u) (mu7 11)) [some 12, none]) : va_E) = _
      rw [mi_2]
      show (Sum.inr (5, [Value.ref (ad7 h0 u 12), Value.int (tg_I (mu7 11 1))]) : va_E) = _
      rw [show mu7 11 1 = 0 from rfl, tgI0]
      rfl
    rw [e]
    exact hP 11 _ rfl
set_option maxRecDepth 100000 in
set_option maxHeartbeats 1000000 in
theorem ad7_c12 {D : va_G} {G : tg_G} {h0 : Nat} {u : Nat → Nat} {H : Heap} (hP : va_P D vwCl (tk_wX7 G h0 u) H) : va_at D vwCl (ad7 h0 u 12, tg_ce G (ad7 h0 u) (mu7 12) (.inl (0, 40, []))) H := by
    rw [tg_ceI (row := mu7 12) (fun j => rfl)]
    exact hP 12 _ rfl
set_option maxRecDepth 100000 in
set_option maxHeartbeats 1000000 in
theorem ad7_c13 {D : va_G} {G : tg_G} {h0 : Nat} {u : Nat → Nat} {H : Heap} (hP : va_P D vwCl (tk_wX7 G h0 u) H) : va_at D vwCl (ad7 h0 u 13, tg_ce G (ad7 h0 u) (mu7 13) (.inr (1, [some 1, some 14, some 15, none, none, none]))) H := by
    have e : tg_ce G (ad7 h0 u) (mu7 13) (.inr (1, [some 1, some 14, some 15, none, none, none])) = .inr (1, [.ref (u 0), .ref (u 15), .ref (u 16), .int 0, .int 0, .int 0]) := by
      show (Sum.inr (1, List.mapIdx (tg_fv (ad7 h0 u) (mu7 13)) [some 1, some 14, some 15, none, none, none]) : va_E) = _
      rw [mi_6]
      show (Sum.inr (1, [Value.ref (ad7 h0 u 1), Value.ref (ad7 h0 u 14), Value.ref (ad7 h0 u 15), Value.int (tg_I (mu7 13 3)), Value.int (tg_I (mu7 13 4)), Value.int (tg_I (mu7 13 5))]) : va_E) = _
      rw [show mu7 13 3 = 0 from rfl, show mu7 13 4 = 0 from rfl, show mu7 13 5 = 0 from rfl, tgI0]
      rfl
    rw [e]
    exact hP 15 _ rfl
set_option maxRecDepth 100000 in
set_option maxHeartbeats 1000000 in
theorem ad7_c14 {D : va_G} {G : tg_G} {h0 : Nat} {u : Nat → Nat} {H : Heap} (hP : va_P D vwCl (tk_wX7 G h0 u) H) : va_at D vwCl (ad7 h0 u 14, tg_ce G (ad7 h0 u) (mu7 14) (.inl (0, 2, []))) H := by
    rw [tg_ceI (row := mu7 14) (fun j => rfl)]
    exact hP 16 _ rfl
set_option maxRecDepth 100000 in
set_option maxHeartbeats 1000000 in
theorem ad7_c15 {D : va_G} {G : tg_G} {h0 : Nat} {u : Nat → Nat} {H : Heap} (hP : va_P D vwCl (tk_wX7 G h0 u) H) : va_at D vwCl (ad7 h0 u 15, tg_ce G (ad7 h0 u) (mu7 15) (.inl (0, 64, []))) H := by
    rw [tg_ceI (row := mu7 15) (fun j => rfl)]
    exact hP 17 _ rfl
set_option maxRecDepth 100000 in
set_option maxHeartbeats 1000000 in
theorem ad7_c16 {D : va_G} {G : tg_G} {h0 : Nat} {u : Nat → Nat} {H : Heap} (hP : va_P D vwCl (tk_wX7 G h0 u) H) : va_at D vwCl (ad7 h0 u 16, tg_ce G (ad7 h0 u) (mu7 16) (.inl (0, 2, []))) H := by
    rw [tg_ceI (row := mu7 16) (fun j => rfl)]
    exact hP 13 _ rfl
set_option maxRecDepth 100000 in
set_option maxHeartbeats 1000000 in
theorem ad7_c17 {D : va_G} {G : tg_G} {h0 : Nat} {u : Nat → Nat} {H : Heap} (hP : va_P D vwCl (tk_wX7 G h0 u) H) : va_at D vwCl (ad7 h0 u 17, tg_ce G (ad7 h0 u) (mu7 17) (.inl (0, 2, []))) H := by
    rw [tg_ceI (row := mu7 17) (fun j => rfl)]
    exact hP 14 _ rfl
set_option maxRecDepth 100000 in
set_option maxHeartbeats 1000000 in
theorem ad7_c18 {D : va_G} {G : tg_G} {h0 : Nat} {u : Nat → Nat} {H : Heap} (hP : va_P D vwCl (tk_wX7 G h0 u) H) : va_at D vwCl (ad7 h0 u 18, tg_ce G (ad7 h0 u) (mu7 18) (.inr (0, [some 1, some 19, some 21, some 24, some 25, none, none, none]))) H := by
    have e : tg_ce G (ad7 h0 u) (mu7 18) (.inr (0, [some 1, some 19, some 21, some 24, some 25, none, none, none])) = .inr (0, [.ref (u 0), .ref (u 18), .ref (u 22), .ref (u 20), .ref (u 21), .int 0, .int 0, .int 0]) := by
      show (Sum.inr (0, List.mapIdx (tg_fv (ad7 h0 u) (mu7 18)) [some 1, some 19, some 21, some 24, some 25, none, none, none]) : va_E) = _
      rw [mi_8]
      show (Sum.inr (0, [Value.ref (ad7 h0 u 1), Value.ref (ad7 h0 u 19), Value.ref (ad7 h0 u 21), Value.ref (ad7 h0 u 24), Value.ref (ad7 h0 u 25), Value.int (tg_I (mu7 18 5)), Value.int (tg_I (mu7 18 6)), Value.int (tg_I (mu7 18 7))]) : va_E) = _
      rw [show mu7 18 5 = 0 from rfl, show mu7 18 6 = 0 from rfl, show mu7 18 7 = 0 from rfl, tgI0]
      rfl
    rw [e]
    exact hP 18 _ rfl
set_option maxRecDepth 100000 in
set_option maxHeartbeats 1000000 in
theorem ad7_c19 {D : va_G} {G : tg_G} {h0 : Nat} {u : Nat → Nat} {H : Heap} (hP : va_P D vwCl (tk_wX7 G h0 u) H) : va_at D vwCl (ad7 h0 u 19, tg_ce G (ad7 h0 u) (mu7 19) (.inr (5, [some 20, none]))) H := by
    have e : tg_ce G (ad7 h0 u) (mu7 19) (.inr (5, [some 20, none])) = .inr (5, [.ref (u 19), .int 0]) := by
      show (Sum.inr (5, List.mapIdx (tg_fv (ad7 h0 u) (mu7 19)) [some 20, none]) : va_E) = _
      rw [mi_2]
      show (Sum.inr (5, [Value.ref (ad7 h0 u 20), Value.int (tg_I (mu7 19 1))]) : va_E) = _
      rw [show mu7 19 1 = 0 from rfl, tgI0]
      rfl
    rw [e]
    exact hP 19 _ rfl
set_option maxRecDepth 100000 in
set_option maxHeartbeats 1000000 in
theorem ad7_c20 {D : va_G} {G : tg_G} {h0 : Nat} {u : Nat → Nat} {H : Heap} (hP : va_P D vwCl (tk_wX7 G h0 u) H) : va_at D vwCl (ad7 h0 u 20, tg_ce G (ad7 h0 u) (mu7 20) (.inl (0, 40, []))) H := by
    rw [tg_ceI (row := mu7 20) (fun j => rfl)]
    exact hP 20 _ rfl
set_option maxRecDepth 100000 in
set_option maxHeartbeats 1000000 in
theorem ad7_c21 {D : va_G} {G : tg_G} {h0 : Nat} {u : Nat → Nat} {H : Heap} (hP : va_P D vwCl (tk_wX7 G h0 u) H) : va_at D vwCl (ad7 h0 u 21, tg_ce G (ad7 h0 u) (mu7 21) (.inr (1, [some 1, some 22, some 23, none, none, none]))) H := by
    have e : tg_ce G (ad7 h0 u) (mu7 21) (.inr (1, [some 1, some 22, some 23, none, none, none])) = .inr (1, [.ref (u 0), .ref (u 23), .ref (u 24), .int 0, .int 0, .int 0]) := by
      show (Sum.inr (1, List.mapIdx (tg_fv (ad7 h0 u) (mu7 21)) [some 1, some 22, some 23, none, none, none]) : va_E) = _
      rw [mi_6]
      show (Sum.inr (1, [Value.ref (ad7 h0 u 1), Value.ref (ad7 h0 u 22), Value.ref (ad7 h0 u 23), Value.int (tg_I (mu7 21 3)), Value.int (tg_I (mu7 21 4)), Value.int (tg_I (mu7 21 5))]) : va_E) = _
      rw [show mu7 21 3 = 0 from rfl, show mu7 21 4 = 0 from rfl, show mu7 21 5 = 0 from rfl, tgI0]
      rfl
    rw [e]
    exact hP 23 _ rfl
set_option maxRecDepth 100000 in
set_option maxHeartbeats 1000000 in
theorem ad7_c22 {D : va_G} {G : tg_G} {h0 : Nat} {u : Nat → Nat} {H : Heap} (hP : va_P D vwCl (tk_wX7 G h0 u) H) : va_at D vwCl (ad7 h0 u 22, tg_ce G (ad7 h0 u) (mu7 22) (.inl (0, 2, []))) H := by
    rw [tg_ceI (row := mu7 22) (fun j => rfl)]
    exact hP 24 _ rfl
set_option maxRecDepth 100000 in
set_option maxHeartbeats 1000000 in
theorem ad7_c23 {D : va_G} {G : tg_G} {h0 : Nat} {u : Nat → Nat} {H : Heap} (hP : va_P D vwCl (tk_wX7 G h0 u) H) : va_at D vwCl (ad7 h0 u 23, tg_ce G (ad7 h0 u) (mu7 23) (.inl (0, 64, []))) H := by
    rw [tg_ceI (row := mu7 23) (fun j => rfl)]
    exact hP 25 _ rfl
set_option maxRecDepth 100000 in
set_option maxHeartbeats 1000000 in
theorem ad7_c24 {D : va_G} {G : tg_G} {h0 : Nat} {u : Nat → Nat} {H : Heap} (hP : va_P D vwCl (tk_wX7 G h0 u) H) : va_at D vwCl (ad7 h0 u 24, tg_ce G (ad7 h0 u) (mu7 24) (.inl (0, 2, []))) H := by
    rw [tg_ceI (row := mu7 24) (fun j => rfl)]
    exact hP 21 _ rfl
set_option maxRecDepth 100000 in
set_option maxHeartbeats 1000000 in
theorem ad7_c25 {D : va_G} {G : tg_G} {h0 : Nat} {u : Nat → Nat} {H : Heap} (hP : va_P D vwCl (tk_wX7 G h0 u) H) : va_at D vwCl (ad7 h0 u 25, tg_ce G (ad7 h0 u) (mu7 25) (.inl (0, 2, []))) H := by
    rw [tg_ceI (row := mu7 25) (fun j => rfl)]
    exact hP 22 _ rfl
set_option maxRecDepth 100000 in
set_option maxHeartbeats 1000000 in
theorem ad7_c26 {D : va_G} {G : tg_G} {h0 : Nat} {u : Nat → Nat} {H : Heap} (hP : va_P D vwCl (tk_wX7 G h0 u) H) : va_at D vwCl (ad7 h0 u 26, tg_ce G (ad7 h0 u) (mu7 26) (.inr (3, [some 1, some 27, some 30, some 31, none]))) H := by
    have e : tg_ce G (ad7 h0 u) (mu7 26) (.inr (3, [some 1, some 27, some 30, some 31, none])) = .inr (3, [.ref (u 0), .ref (u 28), .ref (u 26), .ref (u 27), .int 0]) := by
      show (Sum.inr (3, List.mapIdx (tg_fv (ad7 h0 u) (mu7 26)) [some 1, some 27, some 30, some 31, none]) : va_E) = _
      rw [mi_5]
      show (Sum.inr (3, [Value.ref (ad7 h0 u 1), Value.ref (ad7 h0 u 27), Value.ref (ad7 h0 u 30), Value.ref (ad7 h0 u 31), Value.int (tg_I (mu7 26 4))]) : va_E) = _
      rw [show mu7 26 4 = 0 from rfl, tgI0]
      rfl
    rw [e]
    exact hP 26 _ rfl
set_option maxRecDepth 100000 in
set_option maxHeartbeats 1000000 in
theorem ad7_c27 {D : va_G} {G : tg_G} {h0 : Nat} {u : Nat → Nat} {H : Heap} (hP : va_P D vwCl (tk_wX7 G h0 u) H) : va_at D vwCl (ad7 h0 u 27, tg_ce G (ad7 h0 u) (mu7 27) (.inr (1, [some 1, some 28, some 29, none, none, none]))) H := by
    have e : tg_ce G (ad7 h0 u) (mu7 27) (.inr (1, [some 1, some 28, some 29, none, none, none])) = .inr (1, [.ref (u 0), .ref (u 29), .ref (u 30), .int 0, .int 0, .int 0]) := by
      show (Sum.inr (1, List.mapIdx (tg_fv (ad7 h0 u) (mu7 27)) [some 1, some 28, some 29, none, none, none]) : va_E) = _
      rw [mi_6]
      show (Sum.inr (1, [Value.ref (ad7 h0 u 1), Value.ref (ad7 h0 u 28), Value.ref (ad7 h0 u 29), Value.int (tg_I (mu7 27 3)), Value.int (tg_I (mu7 27 4)), Value.int (tg_I (mu7 27 5))]) : va_E) = _
      rw [show mu7 27 3 = 0 from rfl, show mu7 27 4 = 0 from rfl, show mu7 27 5 = 0 from rfl, tgI0]
      rfl
    rw [e]
    exact hP 29 _ rfl
set_option maxRecDepth 100000 in
set_option maxHeartbeats 1000000 in
theorem ad7_c28 {D : va_G} {G : tg_G} {h0 : Nat} {u : Nat → Nat} {H : Heap} (hP : va_P D vwCl (tk_wX7 G h0 u) H) : va_at D vwCl (ad7 h0 u 28, tg_ce G (ad7 h0 u) (mu7 28) (.inl (0, 2, []))) H := by
    rw [tg_ceI (row := mu7 28) (fun j => rfl)]
    exact hP 30 _ rfl
set_option maxRecDepth 100000 in
set_option maxHeartbeats 1000000 in
theorem ad7_c29 {D : va_G} {G : tg_G} {h0 : Nat} {u : Nat → Nat} {H : Heap} (hP : va_P D vwCl (tk_wX7 G h0 u) H) : va_at D vwCl (ad7 h0 u 29, tg_ce G (ad7 h0 u) (mu7 29) (.inl (0, 64, []))) H := by
    rw [tg_ceI (row := mu7 29) (fun j => rfl)]
    exact hP 31 _ rfl
set_option maxRecDepth 100000 in
set_option maxHeartbeats 1000000 in
theorem ad7_c30 {D : va_G} {G : tg_G} {h0 : Nat} {u : Nat → Nat} {H : Heap} (hP : va_P D vwCl (tk_wX7 G h0 u) H) : va_at D vwCl (ad7 h0 u 30, tg_ce G (ad7 h0 u) (mu7 30) (.inl (1, 1001, []))) H := by
    rw [tg_ceL (row := mu7 30) (fun j => rfl)]
    exact hP 27 _ rfl
set_option maxRecDepth 100000 in
set_option maxHeartbeats 1000000 in
theorem ad7_c31 {D : va_G} {G : tg_G} {h0 : Nat} {u : Nat → Nat} {H : Heap} (hP : va_P D vwCl (tk_wX7 G h0 u) H) : va_at D vwCl (ad7 h0 u 31, tg_ce G (ad7 h0 u) (mu7 31) (.inl (0, 2048, []))) H := by
    rw [tg_ceI (row := mu7 31) (fun j => rfl)]
    exact hP 28 _ rfl
set_option maxRecDepth 100000 in
set_option maxHeartbeats 1000000 in
theorem ad7_c32 {D : va_G} {G : tg_G} {h0 : Nat} {u : Nat → Nat} {H : Heap} (hP : va_P D vwCl (tk_wX7 G h0 u) H) : va_at D vwCl (ad7 h0 u 32, tg_ce G (ad7 h0 u) (mu7 32) (.inr (6, [some 1, some 33, none, none]))) H := by
    have e : tg_ce G (ad7 h0 u) (mu7 32) (.inr (6, [some 1, some 33, none, none])) = .inr (6, [.ref (u 0), .ref (u 32), .int 0, .int (-1)]) := by
      show (Sum.inr (6, List.mapIdx (tg_fv (ad7 h0 u) (mu7 32)) [some 1, some 33, none, none]) : va_E) = _
      rw [mi_4]
      show (Sum.inr (6, [Value.ref (ad7 h0 u 1), Value.ref (ad7 h0 u 33), Value.int (tg_I (mu7 32 2)), Value.int (tg_I (mu7 32 3))]) : va_E) = _
      rw [show mu7 32 2 = 0 from rfl, show mu7 32 3 = (-1) from rfl, tgI0, tgIm]
      rfl
    rw [e]
    exact hP 32 _ rfl
set_option maxRecDepth 100000 in
set_option maxHeartbeats 1000000 in
theorem ad7_c33 {D : va_G} {G : tg_G} {h0 : Nat} {u : Nat → Nat} {H : Heap} (hP : va_P D vwCl (tk_wX7 G h0 u) H) : va_at D vwCl (ad7 h0 u 33, tg_ce G (ad7 h0 u) (mu7 33) (.inr (1, [some 1, some 34, some 35, none, none, none]))) H := by
    have e : tg_ce G (ad7 h0 u) (mu7 33) (.inr (1, [some 1, some 34, some 35, none, none, none])) = .inr (1, [.ref (u 0), .ref (u 33), .ref (u 34), .int 0, .int 0, .int 0]) := by
      show (Sum.inr (1, List.mapIdx (tg_fv (ad7 h0 u) (mu7 33)) [some 1, some 34, some 35, none, none, none]) : va_E) = _
      rw [mi_6]
      show (Sum.inr (1, [Value.ref (ad7 h0 u 1), Value.ref (ad7 h0 u 34), Value.ref (ad7 h0 u 35), Value.int (tg_I (mu7 33 3)), Value.int (tg_I (mu7 33 4)), Value.int (tg_I (mu7 33 5))]) : va_E) = _
      rw [show mu7 33 3 = 0 from rfl, show mu7 33 4 = 0 from rfl, show mu7 33 5 = 0 from rfl, tgI0]
      rfl
    rw [e]
    exact hP 33 _ rfl
set_option maxRecDepth 100000 in
set_option maxHeartbeats 1000000 in
theorem ad7_c34 {D : va_G} {G : tg_G} {h0 : Nat} {u : Nat → Nat} {H : Heap} (hP : va_P D vwCl (tk_wX7 G h0 u) H) : va_at D vwCl (ad7 h0 u 34, tg_ce G (ad7 h0 u) (mu7 34) (.inl (0, 2, []))) H := by
    rw [tg_ceI (row := mu7 34) (fun j => rfl)]
    exact hP 34 _ rfl
set_option maxRecDepth 100000 in
set_option maxHeartbeats 1000000 in
theorem ad7_c35 {D : va_G} {G : tg_G} {h0 : Nat} {u : Nat → Nat} {H : Heap} (hP : va_P D vwCl (tk_wX7 G h0 u) H) : va_at D vwCl (ad7 h0 u 35, tg_ce G (ad7 h0 u) (mu7 35) (.inl (0, 64, []))) H := by
    rw [tg_ceI (row := mu7 35) (fun j => rfl)]
    exact hP 35 _ rfl
set_option maxRecDepth 100000 in
set_option maxHeartbeats 1000000 in
theorem ad7_c36 {D : va_G} {G : tg_G} {h0 : Nat} {u : Nat → Nat} {H : Heap} (hP : va_P D vwCl (tk_wX7 G h0 u) H) : va_at D vwCl (ad7 h0 u 36, tg_ce G (ad7 h0 u) (mu7 36) (.inr (1, [some 1, some 37, some 38, none, none, none]))) H := by
    have e : tg_ce G (ad7 h0 u) (mu7 36) (.inr (1, [some 1, some 37, some 38, none, none, none])) = .inr (1, [.ref (u 0), .ref (u 36), .ref (u 37), .int 0, .int 0, .int 0]) := by
      show (Sum.inr (1, List.mapIdx (tg_fv (ad7 h0 u) (mu7 36)) [some 1, some 37, some 38, none, none, none]) : va_E) = _
      rw [mi_6]
      show (Sum.inr (1, [Value.ref (ad7 h0 u 1), Value.ref (ad7 h0 u 37), Value.ref (ad7 h0 u 38), Value.int (tg_I (mu7 36 3)), Value.int (tg_I (mu7 36 4)), Value.int (tg_I (mu7 36 5))]) : va_E) = _
      rw [show mu7 36 3 = 0 from rfl, show mu7 36 4 = 0 from rfl, show mu7 36 5 = 0 from rfl, tgI0]
      rfl
    rw [e]
    exact hP 36 _ rfl
set_option maxRecDepth 100000 in
set_option maxHeartbeats 1000000 in
theorem ad7_c37 {D : va_G} {G : tg_G} {h0 : Nat} {u : Nat → Nat} {H : Heap} (hP : va_P D vwCl (tk_wX7 G h0 u) H) : va_at D vwCl (ad7 h0 u 37, tg_ce G (ad7 h0 u) (mu7 37) (.inl (0, 2, []))) H := by
    rw [tg_ceI (row := mu7 37) (fun j => rfl)]
    exact hP 37 _ rfl
set_option maxRecDepth 100000 in
set_option maxHeartbeats 1000000 in
theorem ad7_c38 {D : va_G} {G : tg_G} {h0 : Nat} {u : Nat → Nat} {H : Heap} (hP : va_P D vwCl (tk_wX7 G h0 u) H) : va_at D vwCl (ad7 h0 u 38, tg_ce G (ad7 h0 u) (mu7 38) (.inl (0, 64, []))) H := by
    rw [tg_ceI (row := mu7 38) (fun j => rfl)]
    exact hP 38 _ rfl
set_option maxRecDepth 100000 in
set_option maxHeartbeats 1000000 in
theorem ad7_c39 {D : va_G} {G : tg_G} {h0 : Nat} {u : Nat → Nat} {H : Heap} (hP : va_P D vwCl (tk_wX7 G h0 u) H) : va_at D vwCl (ad7 h0 u 39, tg_ce G (ad7 h0 u) (mu7 39) (.inl (2, 4, [40, 42, 44, 46]))) H := by
    have e : (fun j : Nat => ([40, 42, 44, 46][j]?).map (ad7 h0 u)) = (va_up (va_up (va_up (va_up (fun _ => none) (0 : Int32).toNatClampNeg (some (u 39))) (1 : Int32).toNatClampNeg (some (u 41))) (2 : Int32).toNatClampNeg (some (u 43))) (3 : Int32).toNatClampNeg (some (u 45))) := by
      funext j
      rcases j with _ | _ | _ | _ | j
      · rfl
      · rfl
      · rfl
      · rfl
      · simp [va_up]
    show va_at D vwCl (_, .inl (G.2.2, 4, .inr (.inr (.inr (.inr (fun j : Nat => ([40, 42, 44, 46][j]?).map (ad7 h0 u))))))) H
    rw [e]
    exact hP 39 _ rfl
set_option maxRecDepth 100000 in
set_option maxHeartbeats 1000000 in
theorem ad7_c40 {D : va_G} {G : tg_G} {h0 : Nat} {u : Nat → Nat} {H : Heap} (hP : va_P D vwCl (tk_wX7 G h0 u) H) : va_at D vwCl (ad7 h0 u 40, tg_ce G (ad7 h0 u) (mu7 40) (.inr (4, [some 41, none, none]))) H := by
    have e : tg_ce G (ad7 h0 u) (mu7 40) (.inr (4, [some 41, none, none])) = .inr (4, [.ref (u 40), .int (-1), .int 0]) := by
      show (Sum.inr (4, List.mapIdx (tg_fv (ad7 h0 u) (mu7 40)) [some 41, none, none]) : va_E) = _
      rw [mi_3]
      show (Sum.inr (4, [Value.ref (ad7 h0 u 41), Value.int (tg_I (mu7 40 1)), Value.int (tg_I (mu7 40 2))]) : va_E) = _
      rw [show mu7 40 1 = (-1) from rfl, show mu7 40 2 = 0 from rfl, tgIm, tgI0]
      rfl
    rw [e]
    exact hP 40 _ rfl
set_option maxRecDepth 100000 in
set_option maxHeartbeats 1000000 in
theorem ad7_c41 {D : va_G} {G : tg_G} {h0 : Nat} {u : Nat → Nat} {H : Heap} (hP : va_P D vwCl (tk_wX7 G h0 u) H) : va_at D vwCl (ad7 h0 u 41, tg_ce G (ad7 h0 u) (mu7 41) (.inl (0, 60, []))) H := by
    rw [tg_ceI (row := mu7 41) (fun j => rfl)]
    exact hP 41 _ rfl
set_option maxRecDepth 100000 in
set_option maxHeartbeats 1000000 in
theorem ad7_c42 {D : va_G} {G : tg_G} {h0 : Nat} {u : Nat → Nat} {H : Heap} (hP : va_P D vwCl (tk_wX7 G h0 u) H) : va_at D vwCl (ad7 h0 u 42, tg_ce G (ad7 h0 u) (mu7 42) (.inr (4, [some 43, none, none]))) H := by
    have e : tg_ce G (ad7 h0 u) (mu7 42) (.inr (4, [some 43, none, none])) = .inr (4, [.ref (u 42), .int (-1), .int 0]) := by
      show (Sum.inr (4, List.mapIdx (tg_fv (ad7 h0 u) (mu7 42)) [some 43, none, none]) : va_E) = _
      rw [mi_3]
      show (Sum.inr (4, [Value.ref (ad7 h0 u 43), Value.int (tg_I (mu7 42 1)), Value.int (tg_I (mu7 42 2))]) : va_E) = _
      rw [show mu7 42 1 = (-1) from rfl, show mu7 42 2 = 0 from rfl, tgIm, tgI0]
      rfl
    rw [e]
    exact hP 42 _ rfl
set_option maxRecDepth 100000 in
set_option maxHeartbeats 1000000 in
theorem ad7_c43 {D : va_G} {G : tg_G} {h0 : Nat} {u : Nat → Nat} {H : Heap} (hP : va_P D vwCl (tk_wX7 G h0 u) H) : va_at D vwCl (ad7 h0 u 43, tg_ce G (ad7 h0 u) (mu7 43) (.inl (0, 60, []))) H := by
    rw [tg_ceI (row := mu7 43) (fun j => rfl)]
    exact hP 43 _ rfl
set_option maxRecDepth 100000 in
set_option maxHeartbeats 1000000 in
theorem ad7_c44 {D : va_G} {G : tg_G} {h0 : Nat} {u : Nat → Nat} {H : Heap} (hP : va_P D vwCl (tk_wX7 G h0 u) H) : va_at D vwCl (ad7 h0 u 44, tg_ce G (ad7 h0 u) (mu7 44) (.inr (4, [some 45, none, none]))) H := by
    have e : tg_ce G (ad7 h0 u) (mu7 44) (.inr (4, [some 45, none, none])) = .inr (4, [.ref (u 44), .int (-1), .int 0]) := by
      show (Sum.inr (4, List.mapIdx (tg_fv (ad7 h0 u) (mu7 44)) [some 45, none, none]) : va_E) = _
      rw [mi_3]
      show (Sum.inr (4, [Value.ref (ad7 h0 u 45), Value.int (tg_I (mu7 44 1)), Value.int (tg_I (mu7 44 2))]) : va_E) = _
      rw [show mu7 44 1 = (-1) from rfl, show mu7 44 2 = 0 from rfl, tgIm, tgI0]
      rfl
    rw [e]
    exact hP 44 _ rfl
set_option maxRecDepth 100000 in
set_option maxHeartbeats 1000000 in
theorem ad7_c45 {D : va_G} {G : tg_G} {h0 : Nat} {u : Nat → Nat} {H : Heap} (hP : va_P D vwCl (tk_wX7 G h0 u) H) : va_at D vwCl (ad7 h0 u 45, tg_ce G (ad7 h0 u) (mu7 45) (.inl (0, 60, []))) H := by
    rw [tg_ceI (row := mu7 45) (fun j => rfl)]
    exact hP 45 _ rfl
set_option maxRecDepth 100000 in
set_option maxHeartbeats 1000000 in
theorem ad7_c46 {D : va_G} {G : tg_G} {h0 : Nat} {u : Nat → Nat} {H : Heap} (hP : va_P D vwCl (tk_wX7 G h0 u) H) : va_at D vwCl (ad7 h0 u 46, tg_ce G (ad7 h0 u) (mu7 46) (.inr (4, [some 47, none, none]))) H := by
    have e : tg_ce G (ad7 h0 u) (mu7 46) (.inr (4, [some 47, none, none])) = .inr (4, [.ref (u 46), .int (-1), .int 0]) := by
      show (Sum.inr (4, List.mapIdx (tg_fv (ad7 h0 u) (mu7 46)) [some 47, none, none]) : va_E) = _
      rw [mi_3]
      show (Sum.inr (4, [Value.ref (ad7 h0 u 47), Value.int (tg_I (mu7 46 1)), Value.int (tg_I (mu7 46 2))]) : va_E) = _
      rw [show mu7 46 1 = (-1) from rfl, show mu7 46 2 = 0 from rfl, tgIm, tgI0]
      rfl
    rw [e]
    exact hP 46 _ rfl
set_option maxRecDepth 100000 in
set_option maxHeartbeats 1000000 in
theorem ad7_c47 {D : va_G} {G : tg_G} {h0 : Nat} {u : Nat → Nat} {H : Heap} (hP : va_P D vwCl (tk_wX7 G h0 u) H) : va_at D vwCl (ad7 h0 u 47, tg_ce G (ad7 h0 u) (mu7 47) (.inl (0, 60, []))) H := by
    rw [tg_ceI (row := mu7 47) (fun j => rfl)]
    exact hP 47 _ rfl
set_option maxRecDepth 100000 in
set_option maxHeartbeats 4000000 in
theorem ad7_P {D : va_G} {G : tg_G} {h0 : Nat} {u : Nat → Nat} {H : Heap} (hP : va_P D vwCl (tk_wX7 G h0 u) H) : va_P D vwCl (tg_W G (ad7 h0 u) LX mu7) H := by
  refine tk_P_of (fun k s h => ?_)
  have hall : tk_all (fun k s => va_at D vwCl (ad7 h0 u k, tg_ce G (ad7 h0 u) (mu7 k) s) H) 0 LX := ⟨ad7_c0 hP, ad7_c1 hP, ad7_c2 hP, ad7_c3 hP, ad7_c4 hP, ad7_c5 hP, ad7_c6 hP, ad7_c7 hP, ad7_c8 hP, ad7_c9 hP, ad7_c10 hP, ad7_c11 hP, ad7_c12 hP, ad7_c13 hP, ad7_c14 hP, ad7_c15 hP, ad7_c16 hP, ad7_c17 hP, ad7_c18 hP, ad7_c19 hP, ad7_c20 hP, ad7_c21 hP, ad7_c22 hP, ad7_c23 hP, ad7_c24 hP, ad7_c25 hP, ad7_c26 hP, ad7_c27 hP, ad7_c28 hP, ad7_c29 hP, ad7_c30 hP, ad7_c31 hP, ad7_c32 hP, ad7_c33 hP, ad7_c34 hP, ad7_c35 hP, ad7_c36 hP, ad7_c37 hP, ad7_c38 hP, ad7_c39 hP, ad7_c40 hP, ad7_c41 hP, ad7_c42 hP, ad7_c43 hP, ad7_c44 hP, ad7_c45 hP, ad7_c46 hP, ad7_c47 hP, trivial⟩
  have h2 := tk_all_of _ _ hall k s h
  rw [Nat.zero_add] at h2
  exact h2
def ad8 (h0 : Nat) (u : Nat → Nat) : Nat → Nat := fun k => [h0, u 0, u 1, u 2, u 3, u 4, u 5, u 6, u 7, u 8, u 9, u 10, u 11, u 12, u 13, u 14, u 15, u 16, u 17, u 18, u 19, u 20, u 21].getD k 0
def mu8 : tg_Mem := fun k j => if k = 1 then (if j < 4 then -1 else 0) else if k = 9 then (if j = 0 then 5 else if j = 1 then 5 else if j = 2 then 9 else 0) else 0
set_option maxRecDepth 100000 in
set_option maxHeartbeats 8000000 in
theorem ad8_D {G : tg_G} {h0 : Nat} {u : Nat → Nat} {A : Nat → Prop} (hD : va_D A (tk_wX8 G h0 u)) (μ : tg_Mem) : va_D A (tg_W G (ad8 h0 u) LM μ) := tk_permD hD [0, 1, 2, 3, 4, 5, 6, 7, 8, 9, 10, 11, 12, 13, 14, 15, 16, 17, 18, 19, 20, 21, 22] rfl (by rw [tg_W_adr]; rfl)
set_option maxRecDepth 100000 in
set_option maxHeartbeats 1000000 in
theorem ad8_c0 {D : va_G} {G : tg_G} {h0 : Nat} {u : Nat → Nat} {H : Heap} (hP : va_P D vwCl (tk_wX8 G h0 u) H) : va_at D vwCl (ad8 h0 u 0, tg_ce G (ad8 h0 u) (mu8 0) (.inr (8, [some 1, some 2, some 3, some 4, none, some 5, some 6, none, none, some 7, some 8, some 9, some 10, some 11, some 12, none, none, some 13, some 14, none, some 15, none, some 16, some 17, some 18, some 19, some 20, some 21, some 22]))) H := by
    have e : tg_ce G (ad8 h0 u) (mu8 0) (.inr (8, [some 1, some 2, some 3, some 4, none, some 5, some 6, none, none, some 7, some 8, some 9, some 10, some 11, some 12, none, none, some 13, some 14, none, some 15, none, some 16, some 17, some 18, some 19, some 20, some 21, some 22])) = .inr (8, [.ref (u 0), .ref (u 1), .ref (u 2), .ref (u 3), .int 0, .ref (u 4), .ref (u 5), .int 0, .int 0, .ref (u 6), .ref (u 7), .ref (u 8), .ref (u 9), .ref (u 10), .ref (u 11), .int 0, .int 0, .ref (u 12), .ref (u 13), .int 0, .ref (u 14), .int 0, .ref (u 15), .ref (u 16), .ref (u 17), .ref (u 18), .ref (u 19), .ref (u 20), .ref (u 21)]) := by
      show (Sum.inr (8, List.mapIdx (tg_fv (ad8 h0 u) (mu8 0)) [some 1, some 2, some 3, some 4, none, some 5, some 6, none, none, some 7, some 8, some 9, some 10, some 11, some 12, none, none, some 13, some 14, none, some 15, none, some 16, some 17, some 18, some 19, some 20, some 21, some 22]) : va_E) = _
      rw [mi_29]
      show (Sum.inr (8, [Value.ref (ad8 h0 u 1), Value.ref (ad8 h0 u 2), Value.ref (ad8 h0 u 3), Value.ref (ad8 h0 u 4), Value.int (tg_I (mu8 0 4)), Value.ref (ad8 h0 u 5), Value.ref (ad8 h0 u 6), Value.int (tg_I (mu8 0 7)), Value.int (tg_I (mu8 0 8)), Value.ref (ad8 h0 u 7), Value.ref (ad8 h0 u 8), Value.ref (ad8 h0 u 9), Value.ref (ad8 h0 u 10), Value.ref (ad8 h0 u 11), Value.ref (ad8 h0 u 12), Value.int (tg_I (mu8 0 15)), Value.int (tg_I (mu8 0 16)), Value.ref (ad8 h0 u 13), Value.ref (ad8 h0 u 14), Value.int (tg_I (mu8 0 19)), Value.ref (ad8 h0 u 15), Value.int (tg_I (mu8 0 21)), Value.ref (ad8 h0 u 16), Value.ref (ad8 h0 u 17), Value.ref (ad8 h0 u 18), Value.ref (ad8 h0 u 19), Value.ref (ad8 h0 u 20), Value.ref (ad8 h0 u 21), Value.ref (ad8 h0 u 22)]) : va_E) = _
      rw [show mu8 0 4 = 0 from rfl, show mu8 0 7 = 0 from rfl, show mu8 0 8 = 0 from rfl, show mu8 0 15 = 0 from rfl, show mu8 0 16 = 0 from rfl, show mu8 0 19 = 0 from rfl, show mu8 0 21 = 0 from rfl, tgI0]
      rfl
    rw [e]
    exact hP 0 _ rfl
set_option maxRecDepth 100000 in
set_option maxHeartbeats 1000000 in
theorem ad8_c1 {D : va_G} {G : tg_G} {h0 : Nat} {u : Nat → Nat} {H : Heap} (hP : va_P D vwCl (tk_wX8 G h0 u) H) : va_at D vwCl (ad8 h0 u 1, tg_ce G (ad8 h0 u) (mu8 1) (.inl (0, 4, []))) H := by
    have e : (fun j => tg_I (mu8 1 j)) = (upd (upd (upd (upd (fun _ => 0) (0 : Int32).toNatClampNeg (-1)) (1 : Int32).toNatClampNeg (-1)) (2 : Int32).toNatClampNeg (-1)) (3 : Int32).toNatClampNeg (-1)) := by
      funext j
      rcases j with _ | _ | _ | _ | j
      · decide +kernel
      · decide +kernel
      · decide +kernel
      · decide +kernel
      · show tg_I 0 = _; rw [tgI0]; simp [upd]
    show va_at D vwCl (_, .inl (G.1, 4, .inl (fun j => tg_I (mu8 1 j)))) H
    rw [e]
    exact hP 1 _ rfl
set_option maxRecDepth 100000 in
set_option maxHeartbeats 1000000 in
theorem ad8_c2 {D : va_G} {G : tg_G} {h0 : Nat} {u : Nat → Nat} {H : Heap} (hP : va_P D vwCl (tk_wX8 G h0 u) H) : va_at D vwCl (ad8 h0 u 2, tg_ce G (ad8 h0 u) (mu8 2) (.inl (0, 4, []))) H := by
    rw [tg_ceI (row := mu8 2) (fun j => rfl)]
    exact hP 2 _ rfl
set_option maxRecDepth 100000 in
set_option maxHeartbeats 1000000 in
theorem ad8_c3 {D : va_G} {G : tg_G} {h0 : Nat} {u : Nat → Nat} {H : Heap} (hP : va_P D vwCl (tk_wX8 G h0 u) H) : va_at D vwCl (ad8 h0 u 3, tg_ce G (ad8 h0 u) (mu8 3) (.inl (0, 240, []))) H := by
    rw [tg_ceI (row := mu8 3) (fun j => rfl)]
    exact hP 3 _ rfl
set_option maxRecDepth 100000 in
set_option maxHeartbeats 1000000 in
theorem ad8_c4 {D : va_G} {G : tg_G} {h0 : Nat} {u : Nat → Nat} {H : Heap} (hP : va_P D vwCl (tk_wX8 G h0 u) H) : va_at D vwCl (ad8 h0 u 4, tg_ce G (ad8 h0 u) (mu8 4) (.inl (0, 60, []))) H := by
    rw [tg_ceI (row := mu8 4) (fun j => rfl)]
    exact hP 4 _ rfl
set_option maxRecDepth 100000 in
set_option maxHeartbeats 1000000 in
theorem ad8_c5 {D : va_G} {G : tg_G} {h0 : Nat} {u : Nat → Nat} {H : Heap} (hP : va_P D vwCl (tk_wX8 G h0 u) H) : va_at D vwCl (ad8 h0 u 5, tg_ce G (ad8 h0 u) (mu8 5) (.inl (0, 120, []))) H := by
    rw [tg_ceI (row := mu8 5) (fun j => rfl)]
    exact hP 5 _ rfl
set_option maxRecDepth 100000 in
set_option maxHeartbeats 1000000 in
theorem ad8_c6 {D : va_G} {G : tg_G} {h0 : Nat} {u : Nat → Nat} {H : Heap} (hP : va_P D vwCl (tk_wX8 G h0 u) H) : va_at D vwCl (ad8 h0 u 6, tg_ce G (ad8 h0 u) (mu8 6) (.inl (0, 3, []))) H := by
    rw [tg_ceI (row := mu8 6) (fun j => rfl)]
    exact hP 6 _ rfl
set_option maxRecDepth 100000 in
set_option maxHeartbeats 1000000 in
theorem ad8_c7 {D : va_G} {G : tg_G} {h0 : Nat} {u : Nat → Nat} {H : Heap} (hP : va_P D vwCl (tk_wX8 G h0 u) H) : va_at D vwCl (ad8 h0 u 7, tg_ce G (ad8 h0 u) (mu8 7) (.inl (0, 24, []))) H := by
    rw [tg_ceI (row := mu8 7) (fun j => rfl)]
    exact hP 7 _ rfl
set_option maxRecDepth 100000 in
set_option maxHeartbeats 1000000 in
theorem ad8_c8 {D : va_G} {G : tg_G} {h0 : Nat} {u : Nat → Nat} {H : Heap} (hP : va_P D vwCl (tk_wX8 G h0 u) H) : va_at D vwCl (ad8 h0 u 8, tg_ce G (ad8 h0 u) (mu8 8) (.inl (0, 2, []))) H := by
    rw [tg_ceI (row := mu8 8) (fun j => rfl)]
    exact hP 8 _ rfl
set_option maxRecDepth 100000 in
set_option maxHeartbeats 1000000 in
theorem ad8_c9 {D : va_G} {G : tg_G} {h0 : Nat} {u : Nat → Nat} {H : Heap} (hP : va_P D vwCl (tk_wX8 G h0 u) H) : va_at D vwCl (ad8 h0 u 9, tg_ce G (ad8 h0 u) (mu8 9) (.inl (0, 3, []))) H := by
    have e : (fun j => tg_I (mu8 9 j)) = (upd (upd (upd (fun _ => 0) (0 : Int32).toNatClampNeg 5) (1 : Int32).toNatClampNeg 5) (2 : Int32).toNatClampNeg 9) := by
      funext j
      rcases j with _ | _ | _ | j
      · decide +kernel
      · decide +kernel
      · decide +kernel
      · show tg_I 0 = _; rw [tgI0]; simp [upd]
    show va_at D vwCl (_, .inl (G.1, 3, .inl (fun j => tg_I (mu8 9 j)))) H
    rw [e]
    exact hP 9 _ rfl
set_option maxRecDepth 100000 in
set_option maxHeartbeats 1000000 in
theorem ad8_c10 {D : va_G} {G : tg_G} {h0 : Nat} {u : Nat → Nat} {H : Heap} (hP : va_P D vwCl (tk_wX8 G h0 u) H) : va_at D vwCl (ad8 h0 u 10, tg_ce G (ad8 h0 u) (mu8 10) (.inl (0, 8, []))) H := by
    rw [tg_ceI (row := mu8 10) (fun j => rfl)]
    exact hP 10 _ rfl
set_option maxRecDepth 100000 in
set_option maxHeartbeats 1000000 in
theorem ad8_c11 {D : va_G} {G : tg_G} {h0 : Nat} {u : Nat → Nat} {H : Heap} (hP : va_P D vwCl (tk_wX8 G h0 u) H) : va_at D vwCl (ad8 h0 u 11, tg_ce G (ad8 h0 u) (mu8 11) (.inl (0, 2, []))) H := by
    rw [tg_ceI (row := mu8 11) (fun j => rfl)]
    exact hP 11 _ rfl
set_option maxRecDepth 100000 in
set_option maxHeartbeats 1000000 in
theorem ad8_c12 {D : va_G} {G : tg_G} {h0 : Nat} {u : Nat → Nat} {H : Heap} (hP : va_P D vwCl (tk_wX8 G h0 u) H) : va_at D vwCl (ad8 h0 u 12, tg_ce G (ad8 h0 u) (mu8 12) (.inl (0, 64, []))) H := by
    rw [tg_ceI (row := mu8 12) (fun j => rfl)]
    exact hP 12 _ rfl
set_option maxRecDepth 100000 in
set_option maxHeartbeats 1000000 in
theorem ad8_c13 {D : va_G} {G : tg_G} {h0 : Nat} {u : Nat → Nat} {H : Heap} (hP : va_P D vwCl (tk_wX8 G h0 u) H) : va_at D vwCl (ad8 h0 u 13, tg_ce G (ad8 h0 u) (mu8 13) (.inl (0, 2, []))) H := by
    rw [tg_ceI (row := mu8 13) (fun j => rfl)]
    exact hP 13 _ rfl
set_option maxRecDepth 100000 in
set_option maxHeartbeats 1000000 in
theorem ad8_c14 {D : va_G} {G : tg_G} {h0 : Nat} {u : Nat → Nat} {H : Heap} (hP : va_P D vwCl (tk_wX8 G h0 u) H) : va_at D vwCl (ad8 h0 u 14, tg_ce G (ad8 h0 u) (mu8 14) (.inl (0, 2, []))) H := by
    rw [tg_ceI (row := mu8 14) (fun j => rfl)]
    exact hP 14 _ rfl
set_option maxRecDepth 100000 in
set_option maxHeartbeats 1000000 in
theorem ad8_c15 {D : va_G} {G : tg_G} {h0 : Nat} {u : Nat → Nat} {H : Heap} (hP : va_P D vwCl (tk_wX8 G h0 u) H) : va_at D vwCl (ad8 h0 u 15, tg_ce G (ad8 h0 u) (mu8 15) (.inl (1, 1024, []))) H := by
    rw [tg_ceL (row := mu8 15) (fun j => rfl)]
    exact hP 15 _ rfl
set_option maxRecDepth 100000 in
set_option maxHeartbeats 1000000 in
theorem ad8_c16 {D : va_G} {G : tg_G} {h0 : Nat} {u : Nat → Nat} {H : Heap} (hP : va_P D vwCl (tk_wX8 G h0 u) H) : va_at D vwCl (ad8 h0 u 16, tg_ce G (ad8 h0 u) (mu8 16) (.inl (0, 64, []))) H := by
    rw [tg_ceI (row := mu8 16) (fun j => rfl)]
    exact hP 16 _ rfl
set_option maxRecDepth 100000 in
set_option maxHeartbeats 1000000 in
theorem ad8_c17 {D : va_G} {G : tg_G} {h0 : Nat} {u : Nat → Nat} {H : Heap} (hP : va_P D vwCl (tk_wX8 G h0 u) H) : va_at D vwCl (ad8 h0 u 17, tg_ce G (ad8 h0 u) (mu8 17) (.inl (0, 8, []))) H := by
    rw [tg_ceI (row := mu8 17) (fun j => rfl)]
    exact hP 17 _ rfl
set_option maxRecDepth 100000 in
set_option maxHeartbeats 1000000 in
theorem ad8_c18 {D : va_G} {G : tg_G} {h0 : Nat} {u : Nat → Nat} {H : Heap} (hP : va_P D vwCl (tk_wX8 G h0 u) H) : va_at D vwCl (ad8 h0 u 18, tg_ce G (ad8 h0 u) (mu8 18) (.inl (1, 6, []))) H := by
    rw [tg_ceL (row := mu8 18) (fun j => rfl)]
    exact hP 18 _ rfl
set_option maxRecDepth 100000 in
set_option maxHeartbeats 1000000 in
theorem ad8_c19 {D : va_G} {G : tg_G} {h0 : Nat} {u : Nat → Nat} {H : Heap} (hP : va_P D vwCl (tk_wX8 G h0 u) H) : va_at D vwCl (ad8 h0 u 19, tg_ce G (ad8 h0 u) (mu8 19) (.inl (0, 6, []))) H := by
    rw [tg_ceI (row := mu8 19) (fun j => rfl)]
    exact hP 19 _ rfl
set_option maxRecDepth 100000 in
set_option maxHeartbeats 1000000 in
theorem ad8_c20 {D : va_G} {G : tg_G} {h0 : Nat} {u : Nat → Nat} {H : Heap} (hP : va_P D vwCl (tk_wX8 G h0 u) H) : va_at D vwCl (ad8 h0 u 20, tg_ce G (ad8 h0 u) (mu8 20) (.inl (0, 6, []))) H := by
    rw [tg_ceI (row := mu8 20) (fun j => rfl)]
    exact hP 20 _ rfl
set_option maxRecDepth 100000 in
set_option maxHeartbeats 1000000 in
theorem ad8_c21 {D : va_G} {G : tg_G} {h0 : Nat} {u : Nat → Nat} {H : Heap} (hP : va_P D vwCl (tk_wX8 G h0 u) H) : va_at D vwCl (ad8 h0 u 21, tg_ce G (ad8 h0 u) (mu8 21) (.inl (0, 6, []))) H := by
    rw [tg_ceI (row := mu8 21) (fun j => rfl)]
    exact hP 21 _ rfl
set_option maxRecDepth 100000 in
set_option maxHeartbeats 1000000 in
theorem ad8_c22 {D : va_G} {G : tg_G} {h0 : Nat} {u : Nat → Nat} {H : Heap} (hP : va_P D vwCl (tk_wX8 G h0 u) H) : va_at D vwCl (ad8 h0 u 22, tg_ce G (ad8 h0 u) (mu8 22) (.inl (0, 6, []))) H := by
    rw [tg_ceI (row := mu8 22) (fun j => rfl)]
    exact hP 22 _ rfl
set_option maxRecDepth 100000 in
set_option maxHeartbeats 4000000 in
theorem ad8_P {D : va_G} {G : tg_G} {h0 : Nat} {u : Nat → Nat} {H : Heap} (hP : va_P D vwCl (tk_wX8 G h0 u) H) : va_P D vwCl (tg_W G (ad8 h0 u) LM mu8) H := by
  refine tk_P_of (fun k s h => ?_)
  have hall : tk_all (fun k s => va_at D vwCl (ad8 h0 u k, tg_ce G (ad8 h0 u) (mu8 k) s) H) 0 LM := ⟨ad8_c0 hP, ad8_c1 hP, ad8_c2 hP, ad8_c3 hP, ad8_c4 hP, ad8_c5 hP, ad8_c6 hP, ad8_c7 hP, ad8_c8 hP, ad8_c9 hP, ad8_c10 hP, ad8_c11 hP, ad8_c12 hP, ad8_c13 hP, ad8_c14 hP, ad8_c15 hP, ad8_c16 hP, ad8_c17 hP, ad8_c18 hP, ad8_c19 hP, ad8_c20 hP, ad8_c21 hP, ad8_c22 hP, trivial⟩
  have h2 := tk_all_of _ _ hall k s h
  rw [Nat.zero_add] at h2
  exact h2
set_option maxRecDepth 100000 in
set_option maxHeartbeats 8000000 in
theorem ad78_D {G : tg_G} {h0 h1 : Nat} {u v : Nat → Nat} {A : Nat → Prop} (hD : va_D A (tk_wX7 G h0 u ++ tk_wX8 G h1 v)) (μ ν : tg_Mem) : va_D A (tg_W G (ad7 h0 u) LX μ ++ tg_W G (ad8 h1 v) LM ν) := tk_permD hD [0, 1, 2, 3, 4, 5, 6, 7, 8, 9, 10, 11, 12, 15, 16, 17, 13, 14, 18, 19, 20, 23, 24, 25, 21, 22, 26, 29, 30, 31, 27, 28, 32, 33, 34, 35, 36, 37, 38, 39, 40, 41, 42, 43, 44, 45, 46, 47, 48, 49, 50, 51, 52, 53, 54, 55, 56, 57, 58, 59, 60, 61, 62, 63, 64, 65, 66, 67, 68, 69, 70] rfl (by rw [List.map_append, tg_W_adr, tg_W_adr]; rfl)
theorem mok7 : tg_mok LX mu7 := by
  intro k j
  have h : -2147483648 ≤ mu7 k j ∧ mu7 k j ≤ 2147483647 := by
    unfold mu7
    repeat' split
    all_goals omega
  exact ⟨tg_inL_of h, fun _ => h⟩
theorem mok8 : tg_mok LM mu8 := by
  intro k j
  have h : -2147483648 ≤ mu8 k j ∧ mu8 k j ≤ 2147483647 := by
    unfold mu8
    repeat' split
    all_goals omega
  exact ⟨tg_inL_of h, fun _ => h⟩
