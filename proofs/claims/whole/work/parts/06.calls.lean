section TGF
variable {E : tg_E} {L : List tg_Sh} {kd : Option FieldType} {X : tg_R} {own : String} {cc : ByteArray} {nL d pc : Nat} {lv st : List tg_V} {μ : tg_Mem}
theorem tg_fs_at {ad : Nat → Nat} {row : Nat → Int} {fs : List (Option Nat)} {j : Nat} {f : Option Nat} (h : fs[j]? = some f) : (fs.mapIdx (tg_fv ad row))[j]? = some (tg_fv ad row j f) := by
  rw [List.getElem?_mapIdx, h]; rfl
theorem tg_fs_set {ad : Nat → Nat} {μ : tg_Mem} {fs : List (Option Nat)} {k j : Nat} {v : Int} (h : fs[j]? = some none) : (fs.mapIdx (tg_fv ad (μ k))).set j (.int (tg_I v)) = fs.mapIdx (tg_fv ad (tg_up μ k j v k)) := by
  apply List.ext_getElem?
  intro i
  rw [List.getElem?_set, List.length_mapIdx, List.getElem?_mapIdx, List.getElem?_mapIdx, tg_up_row]
  by_cases hi : j = i
  · subst hi
    have hk : j < fs.length := (List.getElem?_eq_some_iff.mp h).1
    rw [if_pos rfl, if_pos hk, h]
    show some (Value.int (tg_I v)) = some (Value.int (tg_I (if j = j then v else μ k j)))
    rw [if_pos rfl]
  · rw [if_neg hi]
    cases hf : fs[i]? with
    | none => rfl
    | some f =>
      cases f with
      | none =>
        show some (Value.int (tg_I (μ k i))) = some (Value.int (tg_I (if i = j then v else μ k i)))
        rw [if_neg (fun q => hi q.symm)]
      | some r => rfl
theorem ta_getI {k j idx ci N : Nat} {fs : List (Option Nat)} {C : String} {T : u_T} (hE : tg_Am E L kd own cc nL d) (hd : decode cc pc = .ok (.getfield idx, 3)) (hk : L[k]? = some (.inr (ci, fs))) (hf : fs[j]? = some none)
    (hc : vwCl[ci]? = some (C, T, N)) (hjn : j < N) (hin : ∀ w ∈ u_ws C T N, w ∈ tg_ALL) (hl : Cond.fieldLink own idx (T j).1 (T j).2.1 (T j).2.2.1 ∈ tg_ALL)
    (K : tg_AW E L kd X (pc + 3) lv (ti_ (μ k j) :: st) μ) : tg_AW E L kd X pc lv (tr_ k :: st) μ := by
  obtain ⟨p, l, e, R, s, m, args, below, meth, c, D, G, ad, A⟩ := E
  obtain ⟨hx, hb, hml, hown, hts, hK, hD, hA, hlk0, hret, hR, hN⟩ := hE
  intro hm hl0 hs r μ' hX H locs ls hP hS hlc
  have h9 : tg_inR (μ k j) := (hm k j).2 (by unfold tg_isl; rw [hk])
  have h8 := K hm hl0 (List.forall_mem_cons.mpr ⟨h9, (List.forall_mem_cons.mp hs).2⟩) r μ' hX H locs ls hP hS hlc
  exact va_get (D := D) hx hb hts hin hown hK hP k (tg_W_at hk) hc j hjn (hts _ hl) (fun _ h => h) (tg_fs_at hf) hd h8
theorem ta_getR {k j idx ci N q : Nat} {fs : List (Option Nat)} {C : String} {T : u_T} (hE : tg_Am E L kd own cc nL d) (hd : decode cc pc = .ok (.getfield idx, 3)) (hk : L[k]? = some (.inr (ci, fs))) (hf : fs[j]? = some (some q))
    (hc : vwCl[ci]? = some (C, T, N)) (hjn : j < N) (hin : ∀ w ∈ u_ws C T N, w ∈ tg_ALL) (hl : Cond.fieldLink own idx (T j).1 (T j).2.1 (T j).2.2.1 ∈ tg_ALL)
    (K : tg_AW E L kd X (pc + 3) lv (tr_ q :: st) μ) : tg_AW E L kd X pc lv (tr_ k :: st) μ := by
  obtain ⟨p, l, e, R, s, m, args, below, meth, c, D, G, ad, A⟩ := E
  obtain ⟨hx, hb, hml, hown, hts, hK, hD, hA, hlk0, hret, hR, hN⟩ := hE
  intro hm hl0 hs r μ' hX H locs ls hP hS hlc
  have h8 := K hm hl0 (List.forall_mem_cons.mpr ⟨trivial, (List.forall_mem_cons.mp hs).2⟩) r μ' hX H locs ls hP hS hlc
  exact va_get (D := D) hx hb hts hin hown hK hP k (tg_W_at hk) hc j hjn (hts _ hl) (fun _ h => h) (tg_fs_at hf) hd h8
theorem ta_putI {k j idx ci N : Nat} {v : Int} {fs : List (Option Nat)} {C : String} {T : u_T} {ty : Nat → FieldType} (hE : tg_Am E L kd own cc nL d) (hd : decode cc pc = .ok (.putfield idx, 3)) (hk : L[k]? = some (.inr (ci, fs))) (hf : fs[j]? = some none)
    (hc : vwCl[ci]? = some (C, T, N)) (hjn : j < N) (hin : ∀ w ∈ u_ws C T N, w ∈ tg_ALL) (hl : Cond.fieldLink own idx (T j).1 (T j).2.1 (T j).2.2.1 ∈ tg_ALL)
    (hty : ∀ k, k < N → parseFieldDescriptor (T k).2.2.1 = some (ty k)) (hnm : ∀ a, a < N → ∀ b, b < N → a ≠ b → (T a).2.1 ≠ (T b).2.1) (hfin : (T j).2.2.2 = false) (htj : ty j = .int)
    (K : tg_AW E L kd X (pc + 3) lv st (tg_up μ k j v)) : tg_AW E L kd X pc lv (ti_ v :: tr_ k :: st) μ := by
  obtain ⟨p, l, e, R, s, m, args, below, meth, c, D, G, ad, A⟩ := E
  obtain ⟨hx, hb, hml, hown, hts, hK, hD, hA, hlk0, hret, hR, hN⟩ := hE
  intro hm hl0 hs r μ' hX H locs ls hP hS hlc
  have hv : tg_inR v := (List.forall_mem_cons.mp hs).1
  have hs2 := (List.forall_mem_cons.mp (List.forall_mem_cons.mp hs).2).2
  have hd9 : parseFieldDescriptor (T j).2.2.1 = some .int := by rw [hty j hjn, htj]
  have e9 : (tg_W G ad L μ).set k (ad k, Sum.inr (ci, (fs.mapIdx (tg_fv ad (μ k))).set j (.int (tg_I v)))) = tg_W G ad L (tg_up μ k j v) := by
    rw [tg_fs_set hf]
    exact tg_W_set hk
  refine va_put (D := D) hx hb hts hin ty hty hnm hown hK hP (hD μ) hS k (tg_W_at hk) hc j hjn (hts _ hl) (fun _ h => h) hfin hd9 rfl rfl (by rw [List.length_mapIdx]; exact (List.getElem?_eq_some_iff.mp hf).1) hd (fun H1 locs1 hP1 hD1 hS1 => ?_)
  have hP2 : va_P D vwCl (tg_W G ad L (tg_up μ k j v)) H1 := by rw [← e9]; exact hP1
  exact K (tg_mok_up hm hv) hl0 hs2 r μ' hX H1 locs1 ls hP2 hS1 hlc
theorem tg_in_vp {i : Int} {n : Nat} (hi : tg_inR i) (h0 : 0 ≤ i) (hn : i < n) : vp_in (tg_I i) n ∧ (tg_I i).toNatClampNeg = i.toNat := by
  have e9 : (tg_I i).toInt = i := tg_It hi
  have e8 : (tg_I i).toNatClampNeg = i.toNat := by rw [← Int32.toNat_toInt, e9]
  exact ⟨vp_in_iff.mpr ⟨by rw [e9]; exact h0, by rw [e9]; exact hn⟩, e8⟩
theorem ta_iald {k n : Nat} {i n' : Int} {rs : List Nat} (hE : tg_Am E L kd own cc nL d) (hd : decode cc pc = .ok (.iaload, 1)) (hk : L[k]? = some (.inl (0, n, rs))) (hn : (n : Int) = n')
    (K : 0 ≤ i → i < n' → tg_AW E L kd X (pc + 1) lv (ti_ (μ k i.toNat) :: st) μ) : tg_AW E L kd (tg_ck (0 ≤ i ∧ i < n') X) pc lv (ti_ i :: tr_ k :: st) μ := by
  obtain ⟨p, l, e, R, s, m, args, below, meth, c, D, G, ad, A⟩ := E
  obtain ⟨hx, hb, hml, hown, hts, hK, hD, hA, hlk0, hret, hR, hN⟩ := hE
  intro hm hl0 hs r μ' hX H locs ls hP hS hlc
  subst hn
  obtain ⟨⟨h0, h1⟩, hX⟩ := tg_ck_of hX
  obtain ⟨v1, v2⟩ := tg_in_vp (List.forall_mem_cons.mp hs).1 h0 h1
  have h9 : tg_inR (μ k i.toNat) := (hm k i.toNat).2 (by unfold tg_isl; rw [hk]; rfl)
  have h8 := K h0 h1 hm hl0 (List.forall_mem_cons.mpr ⟨h9, (List.forall_mem_cons.mp (List.forall_mem_cons.mp hs).2).2⟩) r μ' hX H locs ls hP hS hlc
  refine va_iald (D := D) hx hb hK hP k 0 (tg_W_at hk) rfl v1 hd ?_
  rw [v2]
  exact h8
theorem ta_lald {k n : Nat} {i n' : Int} {rs : List Nat} (hE : tg_Am E L kd own cc nL d) (hd : decode cc pc = .ok (.laload, 1)) (hk : L[k]? = some (.inl (1, n, rs))) (hn : (n : Int) = n')
    (K : 0 ≤ i → i < n' → tg_AW E L kd X (pc + 1) lv (tl_ (μ k i.toNat) :: st) μ) : tg_AW E L kd (tg_ck (0 ≤ i ∧ i < n') X) pc lv (ti_ i :: tr_ k :: st) μ := by
  obtain ⟨p, l, e, R, s, m, args, below, meth, c, D, G, ad, A⟩ := E
  obtain ⟨hx, hb, hml, hown, hts, hK, hD, hA, hlk0, hret, hR, hN⟩ := hE
  intro hm hl0 hs r μ' hX H locs ls hP hS hlc
  subst hn
  obtain ⟨⟨h0, h1⟩, hX⟩ := tg_ck_of hX
  obtain ⟨v1, v2⟩ := tg_in_vp (List.forall_mem_cons.mp hs).1 h0 h1
  have h9 : tg_inL (μ k i.toNat) := (hm k i.toNat).1
  have h8 := K h0 h1 hm hl0 (List.forall_mem_cons.mpr ⟨h9, (List.forall_mem_cons.mp (List.forall_mem_cons.mp hs).2).2⟩) r μ' hX H locs ls hP hS hlc
  refine va_lald (D := D) hx hb hK hP k 1 (tg_W_at hk) rfl v1 hd ?_
  rw [v2]
  exact h8
theorem ta_iast {k n : Nat} {i v n' : Int} {rs : List Nat} (hE : tg_Am E L kd own cc nL d) (hd : decode cc pc = .ok (.iastore, 1)) (hk : L[k]? = some (.inl (0, n, rs))) (hn : (n : Int) = n')
    (K : 0 ≤ i → i < n' → tg_AW E L kd X (pc + 1) lv st (tg_up μ k i.toNat v)) : tg_AW E L kd (tg_ck (0 ≤ i ∧ i < n') X) pc lv (ti_ v :: ti_ i :: tr_ k :: st) μ := by
  obtain ⟨p, l, e, R, s, m, args, below, meth, c, D, G, ad, A⟩ := E
  obtain ⟨hx, hb, hml, hown, hts, hK, hD, hA, hlk0, hret, hR, hN⟩ := hE
  intro hm hl0 hs r μ' hX H locs ls hP hS hlc
  subst hn
  obtain ⟨⟨h0, h1⟩, hX⟩ := tg_ck_of hX
  have hs1 := List.forall_mem_cons.mp (List.forall_mem_cons.mp hs).2
  obtain ⟨v1, v2⟩ := tg_in_vp hs1.1 h0 h1
  have hv : tg_inR v := (List.forall_mem_cons.mp hs).1
  have e9 : (tg_W G ad L μ).set k (ad k, Sum.inl (G.1, n, Sum.inl (upd (fun j => tg_I (μ k j)) i.toNat (tg_I v)))) = tg_W G ad L (tg_up μ k i.toNat v) := by
    rw [← tg_W_set hk]
    have e7 : upd (fun j => tg_I (μ k j)) i.toNat (tg_I v) = fun j => tg_I (tg_up μ k i.toNat v k j) := by
      funext j
      rw [tg_up_row]
      show (if j = i.toNat then tg_I v else tg_I (μ k j)) = tg_I (if j = i.toNat then v else μ k j)
      by_cases hj : j = i.toNat
      · rw [if_pos hj, if_pos hj]
      · rw [if_neg hj, if_neg hj]
    rw [e7]; rfl
  refine va_iast (D := D) hx hb hK hP (hD μ) hS k 0 (tg_W_at hk) rfl v1 hd (fun H1 locs1 hP1 hD1 hS1 => ?_)
  rw [v2, e9] at hP1
  exact K h0 h1 (tg_mok_up hm hv) hl0 (List.forall_mem_cons.mp hs1.2).2 r μ' hX H1 locs1 ls hP1 hS1 hlc
theorem ta_last {k n : Nat} {i v n' : Int} {rs : List Nat} (hE : tg_Am E L kd own cc nL d) (hd : decode cc pc = .ok (.lastore, 1)) (hk : L[k]? = some (.inl (1, n, rs))) (hn : (n : Int) = n')
    (K : 0 ≤ i → i < n' → tg_AW E L kd X (pc + 1) lv st (tg_up μ k i.toNat v)) : tg_AW E L kd (tg_ck (0 ≤ i ∧ i < n') X) pc lv (tl_ v :: ti_ i :: tr_ k :: st) μ := by
  obtain ⟨p, l, e, R, s, m, args, below, meth, c, D, G, ad, A⟩ := E
  obtain ⟨hx, hb, hml, hown, hts, hK, hD, hA, hlk0, hret, hR, hN⟩ := hE
  intro hm hl0 hs r μ' hX H locs ls hP hS hlc
  subst hn
  obtain ⟨⟨h0, h1⟩, hX⟩ := tg_ck_of hX
  have hs1 := List.forall_mem_cons.mp (List.forall_mem_cons.mp hs).2
  obtain ⟨v1, v2⟩ := tg_in_vp hs1.1 h0 h1
  have hv : tg_inL v := (List.forall_mem_cons.mp hs).1
  have e9 : (tg_W G ad L μ).set k (ad k, Sum.inl (G.2.1, n, Sum.inr (Sum.inl (vp_updL (fun j => tg_J (μ k j)) i.toNat (tg_J v))))) = tg_W G ad L (tg_up μ k i.toNat v) := by
    rw [← tg_W_set hk]
    have e7 : vp_updL (fun j => tg_J (μ k j)) i.toNat (tg_J v) = fun j => tg_J (tg_up μ k i.toNat v k j) := by
      funext j
      rw [tg_up_row]
      show (if j = i.toNat then tg_J v else tg_J (μ k j)) = tg_J (if j = i.toNat then v else μ k j)
      by_cases hj : j = i.toNat
      · rw [if_pos hj, if_pos hj]
      · rw [if_neg hj, if_neg hj]
    rw [e7]; rfl
  refine va_last (D := D) hx hb hK hP (hD μ) hS k 1 (tg_W_at hk) rfl v1 hd (fun H1 locs1 hP1 hD1 hS1 => ?_)
  rw [v2, e9] at hP1
  exact K h0 h1 (tg_mok_upL hm (by unfold tg_isl; rw [hk]; rfl) hv) hl0 (List.forall_mem_cons.mp hs1.2).2 r μ' hX H1 locs1 ls hP1 hS1 hlc
theorem ta_aald {k n : Nat} {i n' : Int} {rs : List Nat} (hE : tg_Am E L kd own cc nL d) (hd : decode cc pc = .ok (.aaload, 1)) (hk : L[k]? = some (.inl (2, n, rs))) (hn : (n : Int) = n') (hlen : rs.length = n)
    (K : 0 ≤ i → i < n' → tg_AW E L kd X (pc + 1) lv (tr_ (rs.getD i.toNat 0) :: st) μ) : tg_AW E L kd (tg_ck (0 ≤ i ∧ i < n') X) pc lv (ti_ i :: tr_ k :: st) μ := by
  obtain ⟨p, l, e, R, s, m, args, below, meth, c, D, G, ad, A⟩ := E
  obtain ⟨hx, hb, hml, hown, hts, hK, hD, hA, hlk0, hret, hR, hN⟩ := hE
  intro hm hl0 hs r μ' hX H locs ls hP hS hlc
  subst hn
  obtain ⟨⟨h0, h1⟩, hX⟩ := tg_ck_of hX
  obtain ⟨v1, v2⟩ := tg_in_vp (List.forall_mem_cons.mp hs).1 h0 h1
  have h8 := K h0 h1 hm hl0 (List.forall_mem_cons.mpr ⟨trivial, (List.forall_mem_cons.mp (List.forall_mem_cons.mp hs).2).2⟩) r μ' hX H locs ls hP hS hlc
  refine va_aldq (D := D) hx hb hK hP k 2 (tg_W_at hk) rfl v1 hd ?_
  rw [v2]
  have hi : i.toNat < rs.length := by rw [hlen]; omega
  have e9 : va_rf ((rs[i.toNat]?).map ad) = .ref (ad (rs.getD i.toNat 0)) := by
    rw [List.getD_eq_getElem?_getD, List.getElem?_eq_getElem hi]; rfl
  show W p l e R s m args below meth c H locs 0 0 _ (F0 m (pc + 1) ls (va_rf ((rs[i.toNat]?).map ad) :: st.map (tg_cv ad)))
  rw [e9]
  exact h8
theorem ta_alen {k n a : Nat} {v : Int} {rs : List Nat} (hE : tg_Am E L kd own cc nL d) (hd : decode cc pc = .ok (.arraylength, 1)) (hk : L[k]? = some (.inl (a, n, rs))) (ha : a = 0) (hn : (n : Int) = v) (hv : n < 2147483648)
    (K : tg_AW E L kd X (pc + 1) lv (ti_ v :: st) μ) : tg_AW E L kd X pc lv (tr_ k :: st) μ := by
  obtain ⟨p, l, e, R, s, m, args, below, meth, c, D, G, ad, A⟩ := E
  obtain ⟨hx, hb, hml, hown, hts, hK, hD, hA, hlk0, hret, hR, hN⟩ := hE
  intro hm hl0 hs r μ' hX H locs ls hP hS hlc
  subst hn; subst ha
  have h8 := K hm hl0 (List.forall_mem_cons.mpr ⟨⟨by omega, by omega⟩, (List.forall_mem_cons.mp hs).2⟩) r μ' hX H locs ls hP hS hlc
  exact va_alen (D := D) hx hb hK hP k 0 (tg_W_at hk) rfl (show Int32.ofNat n = tg_I (n : Int) from Int32.ofInt_eq_ofNat.symm) hd h8
-- ends
theorem ta_iret {a : Int} (hE : tg_Am E L (some .int) own cc nL d) (hd : decode cc pc = .ok (.ireturn, 1)) : tg_AW E L (some .int) (some (a, μ)) pc lv [ti_ a] μ := by
  obtain ⟨p, l, e, R, s, m, args, below, meth, c, D, G, ad, A⟩ := E
  obtain ⟨hx, hb, hml, hown, hts, hK, hD, hA, hlk0, hret, hR, hN⟩ := hE
  intro hm hl0 hs r μ' hX H locs ls hP hS hlc
  cases hX
  exact W.iret hx hb hret (fun t ht hW => ⟨rfl, ⟨(List.forall_mem_cons.mp hs).1, hm⟩, ⟨by rw [ht]; exact hP, va_K.moved hW.alike hK, fun q hq => va_Nw.warmM hW (hN q hq)⟩, hS.F ht⟩) hS.2.2 hd hlk0
theorem ta_lret {a : Int} (hE : tg_Am E L (some .long) own cc nL d) (hd : decode cc pc = .ok (.lreturn, 1)) : tg_AW E L (some .long) (some (a, μ)) pc lv [tl_ a] μ := by
  obtain ⟨p, l, e, R, s, m, args, below, meth, c, D, G, ad, A⟩ := E
  obtain ⟨hx, hb, hml, hown, hts, hK, hD, hA, hlk0, hret, hR, hN⟩ := hE
  intro hm hl0 hs r μ' hX H locs ls hP hS hlc
  cases hX
  exact W.lret hx hb hret (fun t ht hW => ⟨rfl, ⟨(List.forall_mem_cons.mp hs).1, hm⟩, ⟨by rw [ht]; exact hP, va_K.moved hW.alike hK, fun q hq => va_Nw.warmM hW (hN q hq)⟩, hS.F ht⟩) hS.2.2 hd hlk0
theorem ta_zret {a : Int} (hE : tg_Am E L (some .boolean) own cc nL d) (hd : decode cc pc = .ok (.ireturn, 1)) (ha : a = 0 ∨ a = 1) : tg_AW E L (some .boolean) (some (a, μ)) pc lv [ti_ a] μ := by
  obtain ⟨p, l, e, R, s, m, args, below, meth, c, D, G, ad, A⟩ := E
  obtain ⟨hx, hb, hml, hown, hts, hK, hD, hA, hlk0, hret, hR, hN⟩ := hE
  intro hm hl0 hs r μ' hX H locs ls hP hS hlc
  cases hX
  have h9 : narrow .boolean (.int (tg_I a)) = .int (tg_I a) := by rcases ha with rfl | rfl <;> rfl
  exact W.zret hx hb hret h9 (fun t ht hW => ⟨rfl, ⟨ha, hm⟩, ⟨by rw [ht]; exact hP, va_K.moved hW.alike hK, fun q hq => va_Nw.warmM hW (hN q hq)⟩, hS.F ht⟩) hS.2.2 hd hlk0
theorem ta_vret (hE : tg_Am E L none own cc nL d) (hd : decode cc pc = .ok (.return_, 1)) : tg_AW E L none (some (0, μ)) pc lv [] μ := by
  obtain ⟨p, l, e, R, s, m, args, below, meth, c, D, G, ad, A⟩ := E
  obtain ⟨hx, hb, hml, hown, hts, hK, hD, hA, hlk0, hret, hR, hN⟩ := hE
  intro hm hl0 hs r μ' hX H locs ls hP hS hlc
  cases hX
  exact W.vret hx hb hret (fun t ht hW => ⟨rfl, ⟨trivial, hm⟩, ⟨by rw [ht]; exact hP, va_K.moved hW.alike hK, fun q hq => va_Nw.warmM hW (hN q hq)⟩, hS.F ht⟩) hS.2.2 hd hlk0
theorem ta_aret {k : Nat} {C : String} (hE : tg_Am E L (some (.object C)) own cc nL d) (hd : decode cc pc = .ok (.areturn, 1)) : tg_AW E L (some (.object C)) (some ((k : Int), μ)) pc lv [tr_ k] μ := by
  obtain ⟨p, l, e, R, s, m, args, below, meth, c, D, G, ad, A⟩ := E
  obtain ⟨hx, hb, hml, hown, hts, hK, hD, hA, hlk0, hret, hR, hN⟩ := hE
  intro hm hl0 hs r μ' hX H locs ls hP hS hlc
  cases hX
  exact W.aret hx hb hret (Or.inl ⟨C, rfl⟩) (Or.inr ⟨ad k, rfl⟩) (fun t ht hW => ⟨rfl, ⟨trivial, hm⟩, ⟨by rw [ht]; exact hP, va_K.moved hW.alike hK, fun q hq => va_Nw.warmM hW (hN q hq)⟩, hS.F ht⟩) hS.2.2 hd hlk0
-- calls
def tg_ps (kd : Option FieldType) (r : Int) (st : List tg_V) : List tg_V := match kd with
  | none => st
  | some .long => tl_ r :: st
  | some (.object _) => tr_ r.toNat :: st
  | some _ => ti_ r :: st
theorem tg_ps_ok {kd2 : Option FieldType} {r : Int} (h : tg_rok kd2 r) (hs : ∀ v ∈ st, tg_vok v) : ∀ v ∈ tg_ps kd2 r st, tg_vok v := by
  match kd2, h with
  | none, _ => exact hs
  | some .long, h => exact List.forall_mem_cons.mpr ⟨h, hs⟩
  | some (.object _), _ => exact List.forall_mem_cons.mpr ⟨trivial, hs⟩
  | some .boolean, h => exact List.forall_mem_cons.mpr ⟨by rcases h with rfl | rfl <;> exact ⟨by decide, by decide⟩, hs⟩
  | some .int, h => exact List.forall_mem_cons.mpr ⟨h, hs⟩
  | some .byte, h => exact List.forall_mem_cons.mpr ⟨h, hs⟩
  | some .char, h => exact List.forall_mem_cons.mpr ⟨h, hs⟩
  | some .short, h => exact List.forall_mem_cons.mpr ⟨h, hs⟩
  | some .float, h => exact List.forall_mem_cons.mpr ⟨h, hs⟩
  | some .double, h => exact List.forall_mem_cons.mpr ⟨h, hs⟩
  | some (.array _), h => exact List.forall_mem_cons.mpr ⟨h, hs⟩
theorem tg_ps_cv {kd2 : Option FieldType} {r : Int} (ad : Nat → Nat) : (tg_ps kd2 r st).map (tg_cv ad) = (tg_rv ad kd2 r).toList ++ st.map (tg_cv ad) := by
  match kd2 with
  | none => rfl
  | some .long => rfl
  | some (.object _) => rfl
  | some .boolean => rfl
  | some .int => rfl
  | some .byte => rfl
  | some .char => rfl
  | some .short => rfl
  | some .float => rfl
  | some .double => rfl
  | some (.array _) => rfl
/-- what stands behind each call: the machine's part as a run, then the rest -/
theorem tg_after {p : Program} {l : Launch} {e : Env} {R : Room} {s : State} {m : MethodId} {args : Array Value} {below : List Frame} {meth : Method} {c : Code} {D : va_G} {G : tg_G} {ad : Nat → Nat} {A : Nat → Prop} {H : Heap} {locs : List Loc} {ls : Array Slot} {Q : State → Prop} {stk : List Value} {kd2 : Option FieldType} {r : Int} {μ1 : tg_Mem} {a : Array Value} {rest : List tg_V}
    (hD : ∀ μ, va_D A (tg_W G ad L μ)) (hA : ∀ q : Nat, s.heap.size ≤ q → A q) (hS : va_S A s.heap H locs)
    (hr : va_Run p l e R s m args below meth c H locs 0 0 0 0 (F0 m pc ls stk) (rest.map (tg_cv ad)) (tg_Q (tg_rv ad kd2 r) (tg_rok kd2 r ∧ tg_mok L μ1) (tg_B D G ad L μ1) (va_A (tg_W G ad L μ) H.size) a) (va_A (tg_W G ad L μ) H.size))
    (kk : tg_rok kd2 r → tg_mok L μ1 → ∀ (H1 : Heap) (locs1 : List Loc), va_P D vwCl (tg_W G ad L μ1) H1 → va_S A s.heap H1 locs1 → W p l e R s m args below meth c H1 locs1 0 0 Q (F0 m (pc + 3) ls ((tg_ps kd2 r rest).map (tg_cv ad)))) : W p l e R s m args below meth c H locs 0 0 Q (F0 m pc ls stk) := by
  intro T hT X
  obtain ⟨v, st₀, t, T', L', h0, X', hL, e1, e2, ⟨hv, ⟨q1, q2⟩, hB, hz, hk⟩, st⟩ := hr T hT X
  rw [h0] at hz hk
  have hF : ∀ q, va_A (tg_W G ad L μ) H.size q → A q := by
    intro q hq
    rcases hq with ⟨k, ee, hq⟩ | hq
    · exact (hD μ).2 k _ hq
    · exact hA q (Nat.le_trans hS.1 hq)
  have hv2 : v = tg_rv ad kd2 r := by cases hv; rfl
  obtain ⟨t2, a1, b1⟩ := kk q1 q2 T'.heap (locs ++ L') (by rw [e1]; exact hB.1)
    ⟨Nat.le_trans hS.1 (by rw [e1]; exact hz), fun q h1 h2 => by rw [e1, hk q (Nat.lt_of_lt_of_le h1 hS.1) (fun z => h2 (hF q z))]; exact hS.2.1 q h1 h2, fun q hq => by
      rcases List.mem_append.mp hq with h | h
      · exact hS.2.2 q h
      · exact hF _ (hL q h)⟩ T' rfl X'
  refine ⟨t2, st t2 ?_, b1⟩
  rw [tg_ps_cv, ← hv2] at a1
  exact a1
theorem tg_blind {D : va_G} {G : tg_G} {ad : Nat → Nat} {sz : Nat} {tas : List Value} : FrameBlind (va_Pc tas (fun U => U.heap.size = sz ∧ tg_B D G ad L μ U ∧ va_D (fun _ => True) (tg_W G ad L μ))) :=
  fun a U g mk q => by
    obtain ⟨q0, q1, ⟨qP, qK, qN⟩, qD⟩ := q
    exact ⟨q0, q1, ⟨qP, va_K.moved (u := U) (U := U.calling g mk a) (Vm.Alike.refl U.vm) qK, fun z hz => va_Nw.same rfl rfl (qN z hz)⟩, qD⟩
theorem tg_preU {p : Program} {s : State} {D : va_G} {G : tg_G} {ad : Nat → Nat} {A : Nat → Prop} {H : Heap} {tas : List Value} (hP : va_P D vwCl (tg_W G ad L μ) H) (hK : va_K D vwCl (tg_tys G) s) (hN : tg_nest s) (hD : ∀ μ, va_D A (tg_W G ad L μ)) :
    ∀ U : State, U.heap = H → s.WarmedH U.vm → va_Pc tas (fun U => U.heap.size = H.size ∧ tg_B D G ad L μ U ∧ va_D (fun _ => True) (tg_W G ad L μ)) tas.toArray U :=
  fun U hU hW => ⟨rfl, by rw [hU], ⟨by rw [hU]; exact hP, va_K.moved hW.alike hK, fun z hz => va_Nw.warmM hW (hN z hz)⟩, (hD μ).weaken (fun _ _ _ _ => trivial)⟩
theorem tg_words {big : List Cond} {y : MethodName} {bytes : ByteArray} {maxL : Nat} {kd2 : Option FieldType} (hb : ∀ w ∈ tg_ALL, w ∈ big) (hco : Cond.code y bytes maxL kd2 ∈ tg_ALL) : GoodIn big (.code y bytes maxL kd2 :: tg_ALL) := by
  intro w hw
  rcases List.mem_cons.mp hw with rfl | hw
  · exact ⟨hb _ hco, good_of_word (List.mem_filter.mp hco).2⟩
  · exact tg_all_good hb w hw
theorem ta_callV {idx maxL d2 k ci N : Nat} {y : MethodName} {bytes : ByteArray} {kd2 : Option FieldType} {tas stk : List tg_V} {X1 : tg_R} {g : Int → tg_Mem → tg_R} {fs : List (Option Nat)} {C : String} {T : u_T}
    (hE : tg_Am E L kd own cc nL d) (hd : decode cc pc = .ok (.invokevirtual idx, 3)) (hC : tg_C y bytes maxL kd2 d2 L (tr_ k :: tas) X1 μ)
    (hml : Cond.methodLink own idx y ∈ tg_ALL) (him : Cond.instanceMethod y ∈ tg_ALL) (hse : Cond.selects C y y ∈ tg_ALL) (hini : Cond.initialized C ∈ tg_ALL) (hco : Cond.code y bytes maxL kd2 ∈ tg_ALL)
    (hy : y.cls = C ∧ y.cls ≠ "java/lang/invoke/MethodHandle" ∧ y.cls ≠ "java/lang/invoke/VarHandle" ∧ (parseMethodDescriptor y.desc).map (fun q => q.parameters.length) = some tas.length) (hdd : d2 + 1 ≤ d ∧ 8 + (maxL + 11) + 40 * d2 ≤ 40 * d)
    (hk : L[k]? = some (.inr (ci, fs))) (hci : vwCl[ci]? = some (C, T, N)) (hstk : tas.reverse ++ tr_ k :: st = stk) (hn : nL = lv.length) (hW8 : ∀ ad, ((st.map (tg_cv ad)).map fun v => v.category).sum ≤ 8)
    (K : ∀ (r : Int) (μ1 : tg_Mem), X1 = some (r, μ1) → tg_rok kd2 r → tg_AW E L kd (g r μ1) (pc + 3) lv (tg_ps kd2 r st) μ1) : tg_AW E L kd (tg_bd X1 g) pc lv stk μ := by
  obtain ⟨p, l, e, R, s, m, args, below, meth, c, D, G, ad, A⟩ := E
  obtain ⟨hx, hb, hml0, hown, hts, hK, hD, hA, hlk0, hret, hR, hN⟩ := id hE
  subst hstk; subst hR
  intro hm hl0 hs r μ' hX H locs ls hP hS hlc
  obtain ⟨a, μ1, hX1, hX2⟩ := tg_bd_of hX
  have hst := fun v hv => hs v (List.mem_append_right _ (List.mem_cons_of_mem _ hv))
  have hta : ∀ v ∈ (tr_ k :: tas), tg_vok v := List.forall_mem_cons.mpr ⟨trivial, fun v hv => hs v (List.mem_append_left _ (List.mem_reverse.mpr hv))⟩
  have hM := hC hm hta a μ1 hX1 l D G ad H.size
  have hPre := tg_preU (p := p) (tas := (tr_ k :: tas).map (tg_cv ad)) hP hK hN hD
  have hsz : ls.size = nL := by rw [hn]; exact hlc.1
  have cw : CallW (tg_rm d) s args own C idx y bytes maxL kd2 (.code y bytes maxL kd2 :: tg_ALL) (tg_rm d2) 0 0 (tas.map (tg_cv ad)).length := by
    rw [List.length_map]
    exact ⟨callB_of tas.length hts (tg_words (fun _ h => h) hco) rfl rfl rfl (hts _ (by rw [hy.1]; exact hini)) (hts _ hml) hy.2 hdd, hts _ him, hts _ hse⟩
  have hrun := va_runV (As := tas.map (tg_cv ad)) (rest := st.map (tg_cv ad)) (g := F0 m pc ls ((tas.reverse ++ tr_ k :: st).map (tg_cv ad))) (cells := 0) (slots := 0) (H := H) (locs := locs) (p := p) (l := l) (e := e) (below := below) (meth := meth) (nL := nL)
    ⟨hx, hb, hml0, hown, hts⟩ hM cw ⟨tg_blind, va_recv hK hP hci (tg_W_at hk), hPre⟩ rfl rfl hsz (by simp [List.map_append, List.map_reverse]; rfl) (lv_room (hW8 ad)) hd ⟨Nat.le_refl 0, Nat.le_refl 0⟩
  exact tg_after hD hA hS hrun (fun h1 h2 H1 locs1 hP1 hS1 => K a μ1 hX1 h1 h2 hl0 (tg_ps_ok h1 hst) r μ' hX2 H1 locs1 ls hP1 hS1 hlc)
theorem ta_callS {idx maxL d2 : Nat} {y : MethodName} {bytes : ByteArray} {kd2 : Option FieldType} {tas stk : List tg_V} {X1 : tg_R} {g : Int → tg_Mem → tg_R}
    (hE : tg_Am E L kd own cc nL d) (hd : decode cc pc = .ok (.invokestatic idx, 3)) (hC : tg_C y bytes maxL kd2 d2 L tas X1 μ)
    (hml : Cond.methodLink own idx y ∈ tg_ALL) (hsta : Cond.static y ∈ tg_ALL) (hini : Cond.initialized y.cls ∈ tg_ALL) (hco : Cond.code y bytes maxL kd2 ∈ tg_ALL)
    (hy : y.cls ≠ "java/lang/invoke/MethodHandle" ∧ y.cls ≠ "java/lang/invoke/VarHandle" ∧ (parseMethodDescriptor y.desc).map (fun q => q.parameters.length) = some tas.length) (hdd : d2 + 1 ≤ d ∧ 8 + (maxL + 11) + 40 * d2 ≤ 40 * d)
    (hstk : tas.reverse ++ st = stk) (hn : nL = lv.length) (hW8 : ∀ ad, ((st.map (tg_cv ad)).map fun v => v.category).sum ≤ 8)
    (K : ∀ (r : Int) (μ1 : tg_Mem), X1 = some (r, μ1) → tg_rok kd2 r → tg_AW E L kd (g r μ1) (pc + 3) lv (tg_ps kd2 r st) μ1) : tg_AW E L kd (tg_bd X1 g) pc lv stk μ := by
  obtain ⟨p, l, e, R, s, m, args, below, meth, c, D, G, ad, A⟩ := E
  obtain ⟨hx, hb, hml0, hown, hts, hK, hD, hA, hlk0, hret, hR, hN⟩ := id hE
  subst hstk; subst hR
  intro hm hl0 hs r μ' hX H locs ls hP hS hlc
  obtain ⟨a, μ1, hX1, hX2⟩ := tg_bd_of hX
  have hst := fun v hv => hs v (List.mem_append_right _ hv)
  have hta : ∀ v ∈ tas, tg_vok v := fun v hv => hs v (List.mem_append_left _ (List.mem_reverse.mpr hv))
  have hM := hC hm hta a μ1 hX1 l D G ad H.size
  have hPre := tg_preU (p := p) (tas := tas.map (tg_cv ad)) hP hK hN hD
  have hsz : ls.size = nL := by rw [hn]; exact hlc.1
  have cw : CallB (tg_rm d) s args own idx y bytes maxL kd2 (.code y bytes maxL kd2 :: tg_ALL) (tg_rm d2) 0 0 (tas.map (tg_cv ad)).length ∧ (Cond.static y).before args s = true := by
    rw [List.length_map]
    exact ⟨callB_of tas.length hts (tg_words (fun _ h => h) hco) rfl rfl rfl (hts _ hini) (hts _ hml) hy hdd, hts _ hsta⟩
  have hrun := va_runS (As := tas.map (tg_cv ad)) (rest := st.map (tg_cv ad)) (g := F0 m pc ls ((tas.reverse ++ st).map (tg_cv ad))) (cells := 0) (slots := 0) (H := H) (locs := locs) (p := p) (l := l) (e := e) (below := below) (meth := meth) (nL := nL)
    ⟨hx, hb, hml0, hown, hts⟩ hM cw ⟨tg_blind, hPre⟩ rfl rfl hsz (by simp [List.map_append, List.map_reverse]) (lv_room (hW8 ad)) hd ⟨Nat.le_refl 0, Nat.le_refl 0⟩
  exact tg_after hD hA hS hrun (fun h1 h2 H1 locs1 hP1 hS1 => K a μ1 hX1 h1 h2 hl0 (tg_ps_ok h1 hst) r μ' hX2 H1 locs1 ls hP1 hS1 hlc)
theorem ta_callN {idx maxL d2 : Nat} {y : MethodName} {bytes : ByteArray} {kd2 : Option FieldType} {tas stk : List tg_V} {X1 : tg_R} {g : Int → tg_Mem → tg_R} {host : String}
    (hE : tg_Am E L kd own cc nL d) (hd : decode cc pc = .ok (.invokestatic idx, 3)) (hC : tg_C y bytes maxL kd2 d2 L tas X1 μ)
    (hnl : (own, idx, y, host) ∈ tg_nests) (hsta : Cond.static y ∈ tg_ALL) (hini : Cond.initialized y.cls ∈ tg_ALL) (hco : Cond.code y bytes maxL kd2 ∈ tg_ALL)
    (hy : y.cls ≠ "java/lang/invoke/MethodHandle" ∧ y.cls ≠ "java/lang/invoke/VarHandle" ∧ (parseMethodDescriptor y.desc).map (fun q => q.parameters.length) = some tas.length) (hdd : d2 + 1 ≤ d ∧ 8 + (maxL + 11) + 40 * d2 ≤ 40 * d)
    (hstk : tas.reverse ++ st = stk) (hn : nL = lv.length) (hW8 : ∀ ad, ((st.map (tg_cv ad)).map fun v => v.category).sum ≤ 8)
    (K : ∀ (r : Int) (μ1 : tg_Mem), X1 = some (r, μ1) → tg_rok kd2 r → tg_AW E L kd (g r μ1) (pc + 3) lv (tg_ps kd2 r st) μ1) : tg_AW E L kd (tg_bd X1 g) pc lv stk μ := by
  obtain ⟨p, l, e, R, s, m, args, below, meth, c, D, G, ad, A⟩ := E
  obtain ⟨hx, hb, hml0, hown, hts, hK, hD, hA, hlk0, hret, hR, hN⟩ := id hE
  subst hstk; subst hR
  intro hm hl0 hs r μ' hX H locs ls hP hS hlc
  obtain ⟨a, μ1, hX1, hX2⟩ := tg_bd_of hX
  have hst := fun v hv => hs v (List.mem_append_right _ hv)
  have hta : ∀ v ∈ tas, tg_vok v := fun v hv => hs v (List.mem_append_left _ (List.mem_reverse.mpr hv))
  have hM := hC hm hta a μ1 hX1 l D G ad H.size
  have hPre := tg_preU (p := p) (tas := tas.map (tg_cv ad)) hP hK hN hD
  have hsz : ls.size = nL := by rw [hn]; exact hlc.1
  have cw : va_CN (tg_rm d) s args own idx y host bytes maxL kd2 (.code y bytes maxL kd2 :: tg_ALL) (tg_rm d2) 0 0 (tas.map (tg_cv ad)).length ∧ (Cond.static y).before args s = true ∧ True := by
    rw [List.length_map]
    exact ⟨va_cnB tas.length hts (tg_words (fun _ h => h) hco) rfl rfl rfl (hN _ hnl) (hts _ hini) hy hdd, hts _ hsta, trivial⟩
  have hrun := va_runSN (As := tas.map (tg_cv ad)) (rest := st.map (tg_cv ad)) (g := F0 m pc ls ((tas.reverse ++ st).map (tg_cv ad))) (cells := 0) (slots := 0) (H := H) (locs := locs) (p := p) (l := l) (e := e) (below := below) (meth := meth) (nL := nL)
    ⟨hx, hb, hml0, hown, hts⟩ hM cw ⟨tg_blind, hPre⟩ rfl rfl hsz (by simp [List.map_append, List.map_reverse]) (lv_room (hW8 ad)) hd ⟨Nat.le_refl 0, Nat.le_refl 0⟩
  exact tg_after hD hA hS hrun (fun h1 h2 H1 locs1 hP1 hS1 => K a μ1 hX1 h1 h2 hl0 (tg_ps_ok h1 hst) r μ' hX2 H1 locs1 ls hP1 hS1 hlc)
-- the entry of a method
def tg_fl (tas : List tg_V) : List tg_V := tas.flatMap (fun v => match v with
  | .inr (.inl a) => [tl_ a, tj_]
  | v => [v])
def tg_l0 (tas : List tg_V) (n : Nat) : List tg_V := tg_fl tas ++ List.replicate (n - (tg_fl tas).length) tj_
theorem tg_fl_sl (ad : Nat → Nat) (tas : List tg_V) (hj : ∀ v ∈ tas, v ≠ tj_) : (lg_sl (tas.map (tg_cv ad))).length = (tg_fl tas).length ∧ ∀ (b i : Nat) (v : tg_V), (tg_fl tas)[i]? = some v → v ≠ tj_ → (b + i, tg_cv ad v) ∈ lv_args b (tas.map (tg_cv ad)) := by
  induction tas with
  | nil => exact ⟨rfl, fun b i v h => by cases h⟩
  | cons a tas ih =>
    obtain ⟨ih1, ih2⟩ := ih (fun v hv => hj v (List.mem_cons_of_mem _ hv))
    have e0 : lg_sl ((a :: tas).map (tg_cv ad)) = (if (tg_cv ad a).category = 2 then [Slot.val (tg_cv ad a), .second] else [.val (tg_cv ad a)]) ++ lg_sl (tas.map (tg_cv ad)) := rfl
    have e2 : lv_args = lv_args := rfl
    match a with
    | .inr (.inl z) =>
      have e1 : tg_fl (Sum.inr (Sum.inl z) :: tas) = [tl_ z, tj_] ++ tg_fl tas := rfl
      refine ⟨by rw [e0, e1, List.length_append, List.length_append, ih1]; rfl, fun b i v h hv => ?_⟩
      rw [e1] at h
      match i, h with
      | 0, h => cases h; exact List.mem_cons_self
      | 1, h => cases h; exact absurd rfl hv
      | i + 2, h =>
        have := ih2 (b + 2) i v h hv
        rw [show b + (i + 2) = b + 2 + i from by omega]
        exact List.mem_cons_of_mem _ this
    | .inl z =>
      have e1 : tg_fl (Sum.inl z :: tas) = [ti_ z] ++ tg_fl tas := rfl
      refine ⟨by rw [e0, e1, List.length_append, List.length_append, ih1]; rfl, fun b i v h hv => ?_⟩
      rw [e1] at h
      match i, h with
      | 0, h => cases h; exact List.mem_cons_self
      | i + 1, h =>
        have := ih2 (b + 1) i v h hv
        rw [show b + (i + 1) = b + 1 + i from by omega]
        exact List.mem_cons_of_mem _ this
    | .inr (.inr (.inl z)) =>
      have e1 : tg_fl (Sum.inr (Sum.inr (Sum.inl z)) :: tas) = [tr_ z] ++ tg_fl tas := rfl
      refine ⟨by rw [e0, e1, List.length_append, List.length_append, ih1]; rfl, fun b i v h hv => ?_⟩
      rw [e1] at h
      match i, h with
      | 0, h => cases h; exact List.mem_cons_self
      | i + 1, h =>
        have := ih2 (b + 1) i v h hv
        rw [show b + (i + 1) = b + 1 + i from by omega]
        exact List.mem_cons_of_mem _ this
    | .inr (.inr (.inr ())) => exact absurd rfl (hj _ List.mem_cons_self)
theorem tg_fl_ok (tas : List tg_V) (h : ∀ v ∈ tas, tg_vok v) (n : Nat) : ∀ v ∈ tg_l0 tas n, tg_vok v := by
  intro v hv
  rcases List.mem_append.mp hv with hv | hv
  · obtain ⟨w, hw, hv⟩ := List.mem_flatMap.mp hv
    have hw2 := h w hw
    match w, hw2, hv with
    | .inr (.inl z), hw2, hv =>
      rcases List.mem_cons.mp hv with rfl | hv
      · exact hw2
      · rcases List.mem_cons.mp hv with rfl | hv
        · trivial
        · cases hv
    | .inl z, hw2, hv => rcases List.mem_cons.mp hv with rfl | hv; exact hw2; cases hv
    | .inr (.inr z), hw2, hv => rcases List.mem_cons.mp hv with rfl | hv; exact hw2; cases hv
  · rw [List.eq_of_mem_replicate hv]; trivial
theorem ta_enter {y : MethodName} {n : Nat} {tas lv0 : List tg_V} (hy : plainName y.cls = true) (hown : y.cls = own) (hj : ∀ v ∈ tas, v ≠ tj_) (hlen : (tg_fl tas).length ≤ n) (hlv : tg_l0 tas n = lv0)
    (K : ∀ E, tg_Am E L kd own cc n d → tg_AW E L kd X 0 lv0 [] μ) : tg_C y cc n kd d L tas X μ := by
  intro hm hok r μ' hX l D G ad sz
  refine Met.ofW (cc := cc) (maxL := n) (ret := kd) hy rfl ?_
  intro p e s m args below meth c s₁ B hml hv
  obtain ⟨rfl, hsz, ⟨hP, hK, hN⟩, hD0⟩ := hv
  have hts := atoms_spec (ws := .code y cc n kd :: tg_ALL) B.pre
  have hown2 : s.vm.findClass own = some m.cls := by rw [← hown]; exact findClass_of_methodNamed B.named
  subst hsz; subst hlv
  have hD : ∀ μ2, va_D (va_A (tg_W G ad L μ) s.heap.size) (tg_W G ad L μ2) := by
    intro μ2
    have hw : ∀ (μ3 : tg_Mem) (i : Nat) (q : Nat × va_E), (tg_W G ad L μ3)[i]? = some q → ∃ e2, (tg_W G ad L μ)[i]? = some (q.1, e2) := by
      intro μ3 i q hq
      unfold tg_W at hq ⊢
      rw [List.getElem?_mapIdx] at hq ⊢
      cases hL : L[i]? with
      | none => rw [hL] at hq; cases hq
      | some sh => rw [hL] at hq; cases hq; exact ⟨_, rfl⟩
    refine ⟨fun i j a b ha hb hab => ?_, fun k q hq => ?_⟩
    · obtain ⟨e1, h1⟩ := hw μ2 i a ha
      obtain ⟨e2, h2⟩ := hw μ2 j b hb
      exact hD0.1 i j _ _ h1 h2 hab
    · obtain ⟨e1, h1⟩ := hw μ2 k q hq
      exact Or.inl ⟨k, e1, h1⟩
  have hE : tg_Am (p, l, e, (headSpec (.code y cc n kd :: tg_ALL) (tg_rm d)).room, s, m, (tas.map (tg_cv ad)).toArray, below, meth, c, D, G, ad, va_A (tg_W G ad L μ) s.heap.size) L kd own cc n d :=
    ⟨B.exec, B.bytes, hml, hown2, fun w hw => hts w (List.mem_cons_of_mem _ hw), hK, hD, fun q h => Or.inr h, B.notSynchronized, B.returns, rfl, hN⟩
  obtain ⟨f1, f2⟩ := tg_fl_sl ad tas hj
  have hl := lv_entry (tas.map (tg_cv ad)) (n := n) (by rw [f1]; exact hlen)
  rw [lg_entry_eq]
  refine K _ hE hm (tg_fl_ok tas hok n) (fun _ h => by cases h) r μ' hX s.heap [] _ hP va_S.rf ⟨?_, hl.2.1, fun i v hi hv => ?_⟩
  · rw [hl.1]
    unfold tg_l0
    rw [List.length_append, List.length_replicate]
    omega
  · have hi2 : (tg_fl tas)[i]? = some v := by
      unfold tg_l0 at hi
      rw [List.getElem?_append] at hi
      by_cases hlt : i < (tg_fl tas).length
      · rw [if_pos hlt] at hi; exact hi
      · rw [if_neg hlt] at hi
        exact absurd (List.eq_of_mem_replicate (List.mem_of_getElem? hi)) hv
    have h9 := f2 0 i v hi2 hv
    rw [Nat.zero_add] at h9
    exact hl.2.2 (i, tg_cv ad v) h9
-- names for what is computed, joins, loops
theorem ta_name {β : Type} {e : β} {k : β → tg_R} (K : tg_AW E L kd (k e) pc lv st μ) : tg_AW E L kd (tg_lt e k) pc lv st μ := K
theorem ta_nmi {a : Int} {k : Int → tg_R} (K : ∀ x : Int, tg_AW E L kd (k x) pc lv (ti_ x :: st) μ) : tg_AW E L kd (tg_lt a k) pc lv (ti_ a :: st) μ := K a
theorem ta_nml {a : Int} {k : Int → tg_R} (K : ∀ x : Int, tg_AW E L kd (k x) pc lv (tl_ x :: st) μ) : tg_AW E L kd (tg_lt a k) pc lv (tl_ a :: st) μ := K a
theorem ta_nma {a : Nat} {k : Nat → tg_R} (K : ∀ x : Nat, x = a → tg_AW E L kd (k x) pc lv (tr_ x :: st) μ) : tg_AW E L kd (tg_lt a k) pc lv (tr_ a :: st) μ := K a rfl
theorem ta_nmm {k : tg_Mem → tg_R} (K : ∀ x : tg_Mem, tg_AW E L kd (k x) pc lv st x) : tg_AW E L kd (tg_lt μ k) pc lv st μ := K μ
theorem ta_join {γ : Type} {J : γ} {k : γ → tg_R} (P : γ → Prop) (hJ : P J) (K : ∀ J2, P J2 → tg_AW E L kd (k J2) pc lv st μ) : tg_AW E L kd (tg_jn J k) pc lv st μ := K J hJ
def tg_fx {γ : Type} (F : γ → γ) (z : γ) : Nat → γ
  | 0 => z
  | n + 1 => F (tg_fx F z n)
theorem tg_fx_s {γ : Type} (F : γ → γ) (z : γ) (n : Nat) : tg_fx F z (n + 1) = F (tg_fx F z n) := rfl
theorem ta_fx {γ : Type} {F : γ → γ} {z : γ} (P : γ → Prop) (h0 : P z) (hF : ∀ self, P self → P (F self)) : ∀ n, P (tg_fx F z n) := by
  intro n
  induction n with
  | zero => exact h0
  | succ n ih => exact hF _ ih
theorem ta_none : tg_AW E L kd none pc lv st μ := by
  obtain ⟨p, l, e, R, s, m, args, below, meth, c, D, G, ad, A⟩ := E
  intro hm hl hs r μ' hX
  cases hX
theorem ta_ite {cnd : Prop} [Decidable cnd] {X1 X2 : tg_R} (K1 : cnd → tg_AW E L kd X1 pc lv st μ) (K2 : ¬ cnd → tg_AW E L kd X2 pc lv st μ) : tg_AW E L kd (if cnd then X1 else X2) pc lv st μ := by
  by_cases hc : cnd
  · rw [if_pos hc]; exact K1 hc
  · rw [if_neg hc]; exact K2 hc
theorem ta_ck {cnd : Prop} [Decidable cnd] (K : cnd → tg_AW E L kd X pc lv st μ) : tg_AW E L kd (tg_ck cnd X) pc lv st μ := by
  unfold tg_ck
  by_cases hc : cnd
  · rw [if_pos hc]; exact K hc
  · rw [if_neg hc]; exact ta_none
theorem ta_swc {a dflt lo hi off : Int} {offs : Array Int} {len tgt : Nat} (x : Int) (hE : tg_Am E L kd own cc nL d) (hd : decode cc pc = .ok (.tableswitch dflt lo hi offs, len)) (hx : a = x) (h1 : ¬ x < lo) (h2 : ¬ hi < x) (ho : offs[(x - lo).toNat]? = some off) (ht : (pc : Int) + off = (tgt : Int))
    (K : tg_AW E L kd X tgt lv st μ) : tg_AW E L kd X pc lv (ti_ a :: st) μ := by
  subst hx
  refine tg_go K (fun hl hs => ⟨hl, (List.forall_mem_cons.mp hs).2⟩) (fun p l e R s m args below meth c D G ad A hEe H locs ls Q hlc hlk hsk kk => ?_)
  subst hEe
  obtain ⟨hx, hb, hml, hown, hts, hK, hD, hA, hlk0, hret, hR, hN⟩ := hE
  have e9 : (tg_I a).toInt = a := tg_It (List.forall_mem_cons.mp hsk).1
  exact lv_tableIn hx hb hd (by rw [e9]; exact h1) (by rw [e9]; exact h2) (by rw [e9]; exact ho) ht (kk ls hlc)
theorem ta_swd {a dflt lo hi : Int} {offs : Array Int} {len tgt : Nat} (hE : tg_Am E L kd own cc nL d) (hd : decode cc pc = .ok (.tableswitch dflt lo hi offs, len)) (h1 : a < lo ∨ hi < a) (ht : (pc : Int) + dflt = (tgt : Int))
    (K : tg_AW E L kd X tgt lv st μ) : tg_AW E L kd X pc lv (ti_ a :: st) μ := by
  refine tg_go K (fun hl hs => ⟨hl, (List.forall_mem_cons.mp hs).2⟩) (fun p l e R s m args below meth c D G ad A hEe H locs ls Q hlc hlk hsk kk => ?_)
  subst hEe
  obtain ⟨hx, hb, hml, hown, hts, hK, hD, hA, hlk0, hret, hR, hN⟩ := hE
  have e9 : (tg_I a).toInt = a := tg_It (List.forall_mem_cons.mp hsk).1
  exact lv_tableOut hx hb hd (by rw [e9]; exact h1) ht (kk ls hlc)
def tg_cpy (μ : tg_Mem) (k1 i k2 j n : Nat) : tg_Mem := fun k' j' => if k' = k2 ∧ j ≤ j' ∧ j' < j + n then μ k1 (i + (j' - j)) else μ k' j'
theorem tg_cpy_row (μ : tg_Mem) (k1 i k2 j n : Nat) : tg_cpy μ k1 i k2 j n k2 = va_cpy (μ k1) (μ k2) i j n := by
  funext j'
  unfold tg_cpy va_cpy
  by_cases h : j ≤ j' ∧ j' < j + n
  · rw [if_pos h, if_pos ⟨rfl, h⟩]
  · rw [if_neg h, if_neg (fun q => h q.2)]
theorem tg_cpy_W {G : tg_G} {ad : Nat → Nat} {k1 i k2 j n : Nat} {s : tg_Sh} (h : L[k2]? = some s) :
    (tg_W G ad L μ).set k2 (ad k2, tg_ce G ad (tg_cpy μ k1 i k2 j n k2) s) = tg_W G ad L (tg_cpy μ k1 i k2 j n) := by
  apply List.ext_getElem?
  intro a
  unfold tg_W
  rw [List.getElem?_set, List.length_mapIdx, List.getElem?_mapIdx, List.getElem?_mapIdx]
  by_cases hi : k2 = a
  · subst hi
    have hk : k2 < L.length := (List.getElem?_eq_some_iff.mp h).1
    rw [if_pos rfl, if_pos hk, h]; rfl
  · rw [if_neg hi]
    have e7 : tg_cpy μ k1 i k2 j n a = μ a := by
      funext j'
      unfold tg_cpy
      rw [if_neg (fun q => hi q.1.symm)]
    rw [e7]
theorem ta_copy {idx k1 k2 n1 n2 : Nat} {i j n : Int} {rs1 rs2 : List Nat} (hE : tg_Am E L kd own cc nL d) (hd : decode cc pc = .ok (.invokestatic idx, 3)) (hk1 : L[k1]? = some (.inl (0, n1, rs1))) (hk2 : L[k2]? = some (.inl (0, n2, rs2)))
    (hml : Cond.methodLink own idx arraycopyName ∈ tg_ALL) (hna : Cond.native arraycopyName ∈ tg_ALL) (hsta : Cond.static arraycopyName ∈ tg_ALL) (hini : Cond.initialized "java/lang/System" ∈ tg_ALL)
    (h1 : 0 ≤ i) (h2 : 0 ≤ j) (h3 : 0 ≤ n) (h4 : i + n ≤ n1) (h5 : j + n ≤ n2) (hn : nL = lv.length) (hdd : 1 ≤ d) (hW8 : ∀ ad, ((st.map (tg_cv ad)).map fun v => v.category).sum = 0)
    (K : tg_AW E L kd X (pc + 3) lv st (tg_cpy μ k1 i.toNat k2 j.toNat n.toNat)) : tg_AW E L kd X pc lv (ti_ n :: ti_ j :: tr_ k2 :: ti_ i :: tr_ k1 :: st) μ := by
  obtain ⟨p, l, e, R, s, m, args, below, meth, c, D, G, ad, A⟩ := E
  obtain ⟨hx, hb, hml0, hown, hts, hK, hD, hA, hlk0, hret, hR, hN⟩ := hE
  subst hR
  intro hm hl0 hs r μ' hX H locs ls hP hS hlc
  have q1 := List.forall_mem_cons.mp hs
  have q2 := List.forall_mem_cons.mp q1.2
  have q3 := List.forall_mem_cons.mp q2.2
  have q4 := List.forall_mem_cons.mp q3.2
  have q5 := List.forall_mem_cons.mp q4.2
  have e1 : (tg_I i).toInt = i := tg_It q4.1
  have e2 : (tg_I j).toInt = j := tg_It q2.1
  have e3 : (tg_I n).toInt = n := tg_It q1.1
  have f1 : (tg_I i).toNatClampNeg = i.toNat := by rw [← Int32.toNat_toInt, e1]
  have f2 : (tg_I j).toNatClampNeg = j.toNat := by rw [← Int32.toNat_toInt, e2]
  have f3 : (tg_I n).toNatClampNeg = n.toNat := by rw [← Int32.toNat_toInt, e3]
  have hm2 : tg_mok L (tg_cpy μ k1 i.toNat k2 j.toNat n.toNat) := by
    intro k' j'
    unfold tg_cpy
    by_cases hc : k' = k2 ∧ j.toNat ≤ j' ∧ j' < j.toNat + n.toNat
    · rw [if_pos hc]
      have := (hm k1 (i.toNat + (j' - j.toNat))).2 (by unfold tg_isl; rw [hk1]; rfl)
      exact ⟨tg_inL_of this, fun _ => this⟩
    · rw [if_neg hc]; exact hm k' j'
  have e9 : (tg_W G ad L μ).set k2 (ad k2, Sum.inl (G.1, n2, Sum.inl (va_cpy (fun j => tg_I (μ k1 j)) (fun j => tg_I (μ k2 j)) i.toNat j.toNat n.toNat))) = tg_W G ad L (tg_cpy μ k1 i.toNat k2 j.toNat n.toNat) := by
    rw [← tg_cpy_W hk2]
    have e7 : va_cpy (fun j => tg_I (μ k1 j)) (fun j => tg_I (μ k2 j)) i.toNat j.toNat n.toNat = fun j' => tg_I (tg_cpy μ k1 i.toNat k2 j.toNat n.toNat k2 j') := by
      rw [tg_cpy_row]
      funext j'
      unfold va_cpy
      by_cases hc : j.toNat ≤ j' ∧ j' < j.toNat + n.toNat
      · rw [if_pos hc, if_pos hc]
      · rw [if_neg hc, if_neg hc]
    rw [e7]; rfl
  have z0 : ∀ (x : Int), (tg_I x).toInt = x → 0 ≤ x → ¬ tg_I x < 0 := fun x hx h => by
    rw [Int32.lt_iff_toInt_lt, hx, Int32.toInt_zero]; omega
  refine va_copyi (D := D) hx hb (by rw [hml0, hn]; exact hlc.1.symm) hown (hts _ hml) (hts _ hna) (hts _ hsta) (hts _ hini) hK hP (hD μ) hS k1 k2 0 0 (tg_W_at hk1) (tg_W_at hk2) rfl rfl rfl (z0 i e1 h1) (z0 j e2 h2) (z0 n e3 h3) (by rw [f1, f3]; omega) (by rw [f2, f3]; omega) (fun _ _ => rfl) hdd (by rw [hW8 ad]; show 0 + _ ≤ 40 * d; exact Nat.le_trans (Nat.le_of_ble_eq_true rfl : _ ≤ 40) (by omega)) hd (fun H1 locs1 hP1 hD1 hS1 => ?_)
  rw [f1, f2, f3] at hP1
  have hP2 : va_P D vwCl (tg_W G ad L (tg_cpy μ k1 i.toNat k2 j.toNat n.toNat)) H1 := by rw [← e9]; exact hP1
  exact K hm2 hl0 q5.2 r μ' hX H1 locs1 ls hP2 hS1 hlc
end TGF
