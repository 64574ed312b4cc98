/-! ===== the layer: memory as numbers, values as numbers, and one judgement 'tg_AW' that carries a pure program ===== -/
abbrev tg_Mem : Type := Nat → Nat → Int
abbrev tg_R : Type := Option (Int × tg_Mem)
abbrev tg_V : Type := Int ⊕ (Int ⊕ (Nat ⊕ Unit))
abbrev ti_ (a : Int) : tg_V := Sum.inl a
abbrev tl_ (a : Int) : tg_V := Sum.inr (Sum.inl a)
abbrev tr_ (k : Nat) : tg_V := Sum.inr (Sum.inr (Sum.inl k))
abbrev tj_ : tg_V := Sum.inr (Sum.inr (Sum.inr ()))
def tg_I (a : Int) : Int32 := Int32.ofInt a
def tg_J (a : Int) : Int64 := Int64.ofInt a
def tg_inR (a : Int) : Prop := -2147483648 ≤ a ∧ a ≤ 2147483647
def tg_inL (a : Int) : Prop := -9223372036854775808 ≤ a ∧ a ≤ 9223372036854775807
def tg_wi (a : Int) : Int := (Int32.ofInt a).toInt
def tg_wl (a : Int) : Int := (Int64.ofInt a).toInt
theorem tg_wi_in (a : Int) : tg_inR (tg_wi a) := ⟨Int32.le_toInt _, by have := Int32.toInt_lt (Int32.ofInt a); unfold tg_wi; omega⟩
theorem tg_wl_in (a : Int) : tg_inL (tg_wl a) := ⟨Int64.le_toInt _, by have := Int64.toInt_lt (Int64.ofInt a); unfold tg_wl; omega⟩
theorem tg_I_wi (a : Int) : tg_I (tg_wi a) = tg_I a := Int32.ofInt_toInt _
theorem tg_J_wl (a : Int) : tg_J (tg_wl a) = tg_J a := Int64.ofInt_toInt _
theorem tg_wi_eq {a : Int} (h : tg_inR a) : tg_wi a = a := Int32.toInt_ofInt_of_le (by have := h.1; omega) (by have := h.2; omega)
theorem tg_wl_eq {a : Int} (h : tg_inL a) : tg_wl a = a := Int64.toInt_ofInt_of_le (by have := h.1; omega) (by have := h.2; omega)
theorem tg_It {a : Int} (h : tg_inR a) : (tg_I a).toInt = a := tg_wi_eq h
theorem tg_Jt {a : Int} (h : tg_inL a) : (tg_J a).toInt = a := tg_wl_eq h
theorem tg_It0 (a : Int) : (tg_I a).toInt = tg_wi a := rfl
theorem tg_Jt0 (a : Int) : (tg_J a).toInt = tg_wl a := rfl
theorem tg_I_toInt (x : Int32) : tg_I x.toInt = x := Int32.ofInt_toInt x
theorem tg_J_toInt (x : Int64) : tg_J x.toInt = x := Int64.ofInt_toInt x
theorem tg_i32_in (x : Int32) : tg_inR x.toInt := ⟨Int32.le_toInt _, by have := Int32.toInt_lt x; omega⟩
theorem tg_i64_in (x : Int64) : tg_inL x.toInt := ⟨Int64.le_toInt _, by have := Int64.toInt_lt x; omega⟩
theorem tg_I_lt {a b : Int} (ha : tg_inR a) (hb : tg_inR b) : tg_I a < tg_I b ↔ a < b := by rw [Int32.lt_iff_toInt_lt, tg_It ha, tg_It hb]
theorem tg_I_le {a b : Int} (ha : tg_inR a) (hb : tg_inR b) : tg_I a ≤ tg_I b ↔ a ≤ b := by rw [Int32.le_iff_toInt_le, tg_It ha, tg_It hb]
theorem tg_I_eq {a b : Int} (ha : tg_inR a) (hb : tg_inR b) : tg_I a = tg_I b ↔ a = b := by rw [← Int32.toInt_inj, tg_It ha, tg_It hb]
theorem tg_J_lt {a b : Int} (ha : tg_inL a) (hb : tg_inL b) : tg_J a < tg_J b ↔ a < b := by rw [Int64.lt_iff_toInt_lt, tg_Jt ha, tg_Jt hb]
theorem tg_J_le {a b : Int} (ha : tg_inL a) (hb : tg_inL b) : tg_J a ≤ tg_J b ↔ a ≤ b := by rw [Int64.le_iff_toInt_le, tg_Jt ha, tg_Jt hb]
theorem tg_J_eq {a b : Int} (ha : tg_inL a) (hb : tg_inL b) : tg_J a = tg_J b ↔ a = b := by rw [← Int64.toInt_inj, tg_Jt ha, tg_Jt hb]
theorem tg_R0 : tg_inR 0 := ⟨by decide, by decide⟩
-- pure operations of the machine on numbers
def tg_idiv (a b : Int) : Int := (tg_I a / tg_I b).toInt
def tg_irem (a b : Int) : Int := (tg_I a - tg_I a / tg_I b * tg_I b).toInt
def tg_iand (a b : Int) : Int := (tg_I a &&& tg_I b).toInt
def tg_ior (a b : Int) : Int := (tg_I a ||| tg_I b).toInt
def tg_ishl (a b : Int) : Int := (tg_I a <<< (tg_I b &&& 31)).toInt
def tg_ishr (a b : Int) : Int := (tg_I a >>> (tg_I b &&& 31)).toInt
def tg_i2b (a : Int) : Int := ((tg_I a).toInt8.toInt32).toInt
def tg_i2s (a : Int) : Int := ((tg_I a).toInt16.toInt32).toInt
def tg_land (a b : Int) : Int := (tg_J a &&& tg_J b).toInt
def tg_lor (a b : Int) : Int := (tg_J a ||| tg_J b).toInt
def tg_lshl (a b : Int) : Int := (tg_J a <<< ((tg_I b).toInt64 &&& 63)).toInt
def tg_lshr (a b : Int) : Int := (tg_J a >>> ((tg_I b).toInt64 &&& 63)).toInt
def tg_lushr (a b : Int) : Int := (((tg_J a).toUInt64 >>> ((tg_I b).toInt64.toUInt64 &&& Int64.toUInt64 63)).toInt64).toInt
def tg_l2i (a : Int) : Int := tg_wi a
-- pure program combinators
def tg_bd (x : tg_R) (g : Int → tg_Mem → tg_R) : tg_R := match x with
  | some (a, μ) => g a μ
  | none => none
def tg_ck (c : Prop) [Decidable c] (x : tg_R) : tg_R := if c then x else none
def tg_lt {β : Type} (e : β) (k : β → tg_R) : tg_R := k e
def tg_jn {γ : Type} (J : γ) (k : γ → tg_R) : tg_R := k J
def tg_lp {β : Type} (F : (β → tg_R) → β → tg_R) : Nat → β → tg_R
  | 0, _ => none
  | n + 1, b => F (tg_lp F n) b
theorem tg_bd_some {a : Int} {μ : tg_Mem} {g : Int → tg_Mem → tg_R} : tg_bd (some (a, μ)) g = g a μ := rfl
theorem tg_bd_of {x : tg_R} {g : Int → tg_Mem → tg_R} {q : Int × tg_Mem} (h : tg_bd x g = some q) : ∃ a μ, x = some (a, μ) ∧ g a μ = some q := by
  match x, h with
  | some (a, μ), h => exact ⟨a, μ, rfl, h⟩
  | none, h => cases h
theorem tg_ck_of {c : Prop} [Decidable c] {x : tg_R} {q : Int × tg_Mem} (h : tg_ck c x = some q) : c ∧ x = some q := by
  unfold tg_ck at h
  by_cases hc : c
  · rw [if_pos hc] at h; exact ⟨hc, h⟩
  · rw [if_neg hc] at h; cases h
theorem tg_ck_pos {c : Prop} [Decidable c] {x : tg_R} (h : c) : tg_ck c x = x := if_pos h
theorem tg_lp_succ {β : Type} (F : (β → tg_R) → β → tg_R) (n : Nat) (b : β) : tg_lp F (n + 1) b = F (tg_lp F n) b := rfl
-- memory
def tg_up (μ : tg_Mem) (k j : Nat) (v : Int) : tg_Mem := fun k' j' => if k' = k ∧ j' = j then v else μ k' j'
theorem tg_up_same (μ : tg_Mem) (k j : Nat) (v : Int) : tg_up μ k j v k j = v := if_pos ⟨rfl, rfl⟩
theorem tg_up_k {μ : tg_Mem} {k j k' : Nat} {v : Int} (h : k' ≠ k) : tg_up μ k j v k' = μ k' := funext fun j' => if_neg fun q => h q.1
theorem tg_up_j {μ : tg_Mem} {k j k' j' : Nat} {v : Int} (h : j' ≠ j) : tg_up μ k j v k' j' = μ k' j' := if_neg fun q => h q.2
theorem tg_up_row (μ : tg_Mem) (k j : Nat) (v : Int) : tg_up μ k j v k = fun j' => if j' = j then v else μ k j' := funext fun j' => by
  unfold tg_up
  by_cases h : j' = j <;> simp [h]
-- shapes: an array (kind 0 ints, 1 longs, 2 references; length; what references), or an object (class, its fields: a number, or a fixed reference)
abbrev tg_Sh : Type := (Nat × Nat × List Nat) ⊕ (Nat × List (Option Nat))
abbrev tg_G : Type := ClassId × ClassId × ClassId
def tg_cv (ad : Nat → Nat) : tg_V → Value
  | .inl a => .int (tg_I a)
  | .inr (.inl a) => .long (tg_J a)
  | .inr (.inr (.inl k)) => .ref (ad k)
  | .inr (.inr (.inr _)) => .null
def tg_vok : tg_V → Prop
  | .inl a => tg_inR a
  | .inr (.inl a) => tg_inL a
  | _ => True
def tg_fv (ad : Nat → Nat) (row : Nat → Int) (j : Nat) (f : Option Nat) : Value := match f with
  | none => .int (tg_I (row j))
  | some r => .ref (ad r)
def tg_ce (G : tg_G) (ad : Nat → Nat) (row : Nat → Int) : tg_Sh → va_E
  | .inl (0, n, _) => .inl (G.1, n, .inl (fun j => tg_I (row j)))
  | .inl (1, n, _) => .inl (G.2.1, n, .inr (.inl (fun j => tg_J (row j))))
  | .inl (_ + 2, n, rs) => .inl (G.2.2, n, .inr (.inr (.inr (.inr (fun j => (rs[j]?).map ad)))))
  | .inr (ci, fs) => .inr (ci, fs.mapIdx (tg_fv ad row))
def tg_W (G : tg_G) (ad : Nat → Nat) (L : List tg_Sh) (μ : tg_Mem) : va_W := L.mapIdx (fun k s => (ad k, tg_ce G ad (μ k) s))
theorem tg_W_at {G : tg_G} {ad : Nat → Nat} {L : List tg_Sh} {μ : tg_Mem} {k : Nat} {s : tg_Sh} (h : L[k]? = some s) : (tg_W G ad L μ)[k]? = some (ad k, tg_ce G ad (μ k) s) := by
  unfold tg_W
  rw [List.getElem?_mapIdx, h]; rfl
theorem tg_W_set {G : tg_G} {ad : Nat → Nat} {L : List tg_Sh} {μ : tg_Mem} {k j : Nat} {v : Int} {s : tg_Sh} (h : L[k]? = some s) :
    (tg_W G ad L μ).set k (ad k, tg_ce G ad (tg_up μ k j v k) s) = tg_W G ad L (tg_up μ k j v) := by
  apply List.ext_getElem?
  intro i
  unfold tg_W
  rw [List.getElem?_set, List.length_mapIdx, List.getElem?_mapIdx, List.getElem?_mapIdx]
  by_cases hi : k = i
  · subst hi
    have hk : k < L.length := (List.getElem?_eq_some_iff.mp h).1
    rw [if_pos rfl, if_pos hk, h]; rfl
  · rw [if_neg hi, tg_up_k (fun q => hi q.symm)]
def tg_isl (L : List tg_Sh) (k : Nat) : Bool := match L[k]? with
  | some (.inl (1, _, _)) => true
  | _ => false
def tg_mok (L : List tg_Sh) (μ : tg_Mem) : Prop := ∀ k j, tg_inL (μ k j) ∧ (tg_isl L k = false → tg_inR (μ k j))
theorem tg_inL_of {a : Int} (h : tg_inR a) : tg_inL a := ⟨by have := h.1; omega, by have := h.2; omega⟩
theorem tg_mok_up {L : List tg_Sh} {μ : tg_Mem} (h : tg_mok L μ) {k j : Nat} {v : Int} (hv : tg_inR v) : tg_mok L (tg_up μ k j v) := by
  intro k' j'
  unfold tg_up
  by_cases hc : k' = k ∧ j' = j
  · rw [if_pos hc]; exact ⟨tg_inL_of hv, fun _ => hv⟩
  · rw [if_neg hc]; exact h k' j'
theorem tg_mok_upL {L : List tg_Sh} {μ : tg_Mem} (h : tg_mok L μ) {k j : Nat} {v : Int} (hl : tg_isl L k = true) (hv : tg_inL v) : tg_mok L (tg_up μ k j v) := by
  intro k' j'
  unfold tg_up
  by_cases hc : k' = k ∧ j' = j
  · rw [if_pos hc]; exact ⟨hv, fun q => by rw [hc.1, hl] at q; cases q⟩
  · rw [if_neg hc]; exact h k' j'
def tg_tys (G : tg_G) : List (ClassId × FieldType) := [(G.1, .int), (G.2.1, .long), (G.2.2, .object "TwoGoats$Sheet")]
-- locals: known ones at their places (tj_: nothing said)
def tg_lc (ad : Nat → Nat) (ls : Array Slot) (lv : List tg_V) : Prop := ls.size = lv.length ∧ lv_wf ls ∧ ∀ (i : Nat) (v : tg_V), lv[i]? = some v → v ≠ tj_ → ls[i]? = some (.val (tg_cv ad v))
abbrev tg_E : Type := Program × Launch × Env × Room × State × MethodId × Array Value × List Frame × Method × Code × va_G × tg_G × (Nat → Nat) × (Nat → Prop)
def tg_rv (ad : Nat → Nat) (kd : Option FieldType) (r : Int) : Option Value := match kd with
  | none => none
  | some .long => some (.long (tg_J r))
  | some (.object _) => some (.ref (ad r.toNat))
  | some _ => some (.int (tg_I r))
def tg_rok (kd : Option FieldType) (r : Int) : Prop := match kd with
  | none => True
  | some .long => tg_inL r
  | some (.object _) => True
  | some .boolean => r = 0 ∨ r = 1
  | some _ => tg_inR r
def tg_nests : List (String × Nat × MethodName × String) := [(RX0, 65, yX7_codeOfByte, RX7), (RX0, 98, yX7_isBelow, RX7), (RX1, 50, yX7_isBelow, RX7), (RX2, 87, yX7_isBelow, RX7), (RX3, 85, yX7_isBelow, RX7), (RX4, 28, yX7_isBelow, RX7), (RX5, 19, yX7_isBelow, RX7), (RX6, 75, yX7_isBelow, RX7)]
def tg_nest (U : State) : Prop := ∀ q ∈ tg_nests, va_Nw (.methodLinkNest q.1 q.2.1 q.2.2.1 q.2.2.2) U
def tg_B (D : va_G) (G : tg_G) (ad : Nat → Nat) (L : List tg_Sh) (μ : tg_Mem) (t : State) : Prop := va_P D vwCl (tg_W G ad L μ) t.heap ∧ va_K D vwCl (tg_tys G) t ∧ tg_nest t
def tg_Q (ret : Option Value) (P0 : Prop) (B : State → Prop) (A : Nat → Prop) : Array Value → State → Outcome → State → Prop := fun _ st oc t => oc = .returned ret ∧ P0 ∧ B t ∧ va_F A st t
def tg_AW (E : tg_E) (L : List tg_Sh) (kd : Option FieldType) (X : tg_R) (pc : Nat) (lv st : List tg_V) (μ : tg_Mem) : Prop :=
  match E with
  | (p, l, e, R, s, m, args, below, meth, c, D, G, ad, A) =>
    tg_mok L μ → (∀ v ∈ lv, tg_vok v) → (∀ v ∈ st, tg_vok v) → ∀ (r : Int) (μ' : tg_Mem), X = some (r, μ') →
      ∀ (H : Heap) (locs : List Loc) (ls : Array Slot), va_P D vwCl (tg_W G ad L μ) H → va_S A s.heap H locs → tg_lc ad ls lv →
        W p l e R s m args below meth c H locs 0 0 (MQ below (tg_Q (tg_rv ad kd r) (tg_rok kd r ∧ tg_mok L μ') (tg_B D G ad L μ') A) args s 0 0 A) (F0 m pc ls (st.map (tg_cv ad)))
def tg_rm (d : Nat) : Room := { frames := d, cells := 0, slots := 0, locals := 40 * d }
def tg_Am (E : tg_E) (L : List tg_Sh) (kd : Option FieldType) (own : String) (cc : ByteArray) (nL d : Nat) : Prop := match E with
  | (p, l, e, R, s, m, args, below, meth, c, D, G, ad, A) =>
    p.tables.exec = Jvm.exec ∧ c.code = cc ∧ c.maxLocals = nL ∧ s.vm.findClass own = some m.cls ∧ (∀ w ∈ tg_ALL, w.before args s = true) ∧ va_K D vwCl (tg_tys G) s ∧ (∀ μ, va_D A (tg_W G ad L μ)) ∧ (∀ q : Nat, s.heap.size ≤ q → A q) ∧ meth.locks = false ∧ meth.sig.returnType = kd ∧ R = tg_rm d ∧ tg_nest s
def tg_C (y : MethodName) (cc : ByteArray) (n : Nat) (kd : Option FieldType) (d : Nat) (L : List tg_Sh) (tas : List tg_V) (X : tg_R) (μ : tg_Mem) : Prop :=
  tg_mok L μ → (∀ v ∈ tas, tg_vok v) → ∀ (r : Int) (μ' : tg_Mem), X = some (r, μ') → ∀ (l : Launch) (D : va_G) (G : tg_G) (ad : Nat → Nat) (sz : Nat),
    Met l y (.code y cc n kd :: tg_ALL) (tg_rm d) (va_Pc (tas.map (tg_cv ad)) (fun U => U.heap.size = sz ∧ tg_B D G ad L μ U ∧ va_D (fun _ => True) (tg_W G ad L μ)))
      (tg_Q (tg_rv ad kd r) (tg_rok kd r ∧ tg_mok L μ') (tg_B D G ad L μ') (va_A (tg_W G ad L μ) sz)) 0 0 (va_A (tg_W G ad L μ) sz)
