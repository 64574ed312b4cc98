-- the law: calls, and the script's numbers
theorem tk_D_left {A : Nat → Prop} {w1 w2 : va_W} (h : va_D A (w1 ++ w2)) : va_D A w1 := by
  have k : ∀ (i : Nat) (q : Nat × va_E), w1[i]? = some q → (w1 ++ w2)[i]? = some q := fun i q hq => by
    rw [List.getElem?_append_left (List.getElem?_eq_some_iff.mp hq).1]; exact hq
  exact ⟨fun i j p q hi hj e => h.1 i j p q (k i p hi) (k j q hj) e, fun i q hi => h.2 i q (k i q hi)⟩
theorem tk_app2 {w1 w2 : va_W} {i : Nat} {q : Nat × va_E} (hq : w2[i]? = some q) : (w1 ++ w2)[w1.length + i]? = some q := by
  rw [List.getElem?_append_right (by omega), Nat.add_sub_cancel_left]; exact hq
theorem tk_D_right {A : Nat → Prop} {w1 w2 : va_W} (h : va_D A (w1 ++ w2)) : va_D A w2 :=
  ⟨fun i j p q hi hj e => by have := h.1 _ _ p q (tk_app2 hi) (tk_app2 hj) e; omega, fun i q hi => h.2 _ q (tk_app2 hi)⟩
theorem tk_ap {A : Nat → Prop} {w1 w2 : va_W} (h : va_D A (w1 ++ w2)) : ∀ (i j : Nat) (p q : Nat × va_E), w1[i]? = some p → w2[j]? = some q → p.1 ≠ q.1 := by
  intro i j p q hi hj e
  have hl := (List.getElem?_eq_some_iff.mp hi).1
  have := h.1 i (w1.length + j) p q (by rw [List.getElem?_append_left hl]; exact hi) (tk_app2 hj) e
  omega
section LK
variable {p : Program} {l : Launch} {e : Env} {R : Room} {s : State} {m : MethodId} {args : Array Value} {below : List Frame} {meth : Method} {c : Code} {H : Heap} {locs : List Loc} {cells slots : Nat} {Q : State → Prop} {cc : ByteArray} {pc : Nat} {ls : Array Slot} {rest stk : List Value} {D : va_G} {G : tg_G} {A : Nat → Prop}
theorem lk_call {ad : Nat → Nat} {L : List tg_Sh} {μ μ1 : tg_Mem} {wo : va_W} {own C : String} {T : u_T} {N idx maxL d2 k ci nL : Nat} {r : Int} {y : MethodName} {bytes : ByteArray} {kd2 : Option FieldType} {tas : List tg_V} {X1 : tg_R} {fs : List (Option Nat)}
    (hx : p.tables.exec = Jvm.exec) (hb : c.code = cc) (hml : c.maxLocals = nL) (hown : s.vm.findClass own = some m.cls) (hts : ∀ w ∈ tg_ALL, w.before args s = true) (hK : va_K D vwCl (tg_tys G) s) (hN : tg_nest s)
    (hD : ∀ μ, va_D A (tg_W G ad L μ)) (hA : ∀ q : Nat, s.heap.size ≤ q → A q) (hap : ∀ (i j : Nat) (p q : Nat × va_E), (tg_W G ad L μ)[i]? = some p → wo[j]? = some q → p.1 ≠ q.1)
    (hm : tg_mok L μ) (hP : va_P D vwCl (tg_W G ad L μ) H) (hPo : va_P D vwCl wo H) (hS : va_S A s.heap H locs) (hC : tg_C y bytes maxL kd2 d2 L (tr_ k :: tas) X1 μ) (hX : X1 = some (r, μ1)) (hta : ∀ v ∈ tas, tg_vok v)
    (hlk : Cond.methodLink own idx y ∈ tg_ALL) (him : Cond.instanceMethod y ∈ tg_ALL) (hse : Cond.selects C y y ∈ tg_ALL) (hini : Cond.initialized C ∈ tg_ALL) (hco : Cond.code y bytes maxL kd2 ∈ tg_ALL)
    (hy : y.cls = C ∧ y.cls ≠ "java/lang/invoke/MethodHandle" ∧ y.cls ≠ "java/lang/invoke/VarHandle" ∧ (parseMethodDescriptor y.desc).map (fun q => q.parameters.length) = some tas.length) (hdd : d2 + 1 ≤ R.frames ∧ 8 + (maxL + 11) + 40 * d2 ≤ R.locals)
    (hk : L[k]? = some (.inr (ci, fs))) (hci : vwCl[ci]? = some (C, T, N)) (hstk : (tas.map (tg_cv ad)).reverse ++ .ref (ad k) :: rest = stk) (hsz : ls.size = nL) (hroom : (rest.map fun v => v.category).sum ≤ 8) (hd : decode cc pc = .ok (.invokevirtual idx, 3)) (hcs : cells ≤ R.cells ∧ slots ≤ R.slots)
    (kk : tg_rok kd2 r → tg_mok L μ1 → ∀ (H1 : Heap) (locs1 : List Loc), va_P D vwCl (tg_W G ad L μ1) H1 → va_P D vwCl wo H1 → va_S A s.heap H1 locs1 → W p l e R s m args below meth c H1 locs1 cells slots Q (F0 m (pc + 3) ls ((tg_rv ad kd2 r).toList ++ rest))) : W p l e R s m args below meth c H locs cells slots Q (F0 m pc ls stk) := by
  subst hstk
  have htas : ∀ v ∈ (tr_ k :: tas), tg_vok v := List.forall_mem_cons.mpr ⟨trivial, hta⟩
  have hM := hC hm htas r μ1 hX l D G ad H.size
  have hPre := tg_preU (p := p) (tas := (tr_ k :: tas).map (tg_cv ad)) hP hK hN hD
  have cw : CallW R s args own C idx y bytes maxL kd2 (.code y bytes maxL kd2 :: tg_ALL) (tg_rm d2) 0 0 (tas.map (tg_cv ad)).length := by
    rw [List.length_map]
    exact ⟨callB_of tas.length hts (tg_words (fun _ h => h) hco) rfl rfl rfl (hts _ (by rw [hy.1]; exact hini)) (hts _ hlk) hy.2 hdd, hts _ him, hts _ hse⟩
  have hrun := va_runV (As := tas.map (tg_cv ad)) (rest := rest) (g := F0 m pc ls ((tas.map (tg_cv ad)).reverse ++ .ref (ad k) :: rest)) (cells := cells) (slots := slots) (H := H) (locs := locs) (p := p) (l := l) (e := e) (below := below) (meth := meth) (nL := nL)
    ⟨hx, hb, hml, hown, hts⟩ hM cw ⟨tg_blind, va_recv hK hP hci (tg_W_at hk), hPre⟩ rfl rfl hsz rfl (lv_room hroom) hd hcs
  intro T0 hT X
  obtain ⟨v, st₀, t, T', L', h0, X', hL, e1, e2, ⟨hv, ⟨q1, q2⟩, hB, hz, hkk⟩, st⟩ := hrun T0 hT X
  rw [h0] at hz hkk
  have hF : ∀ q, va_A (tg_W G ad L μ) H.size q → A q := by
    intro q hq
    rcases hq with ⟨k, ee, hq⟩ | hq
    · exact (hD μ).2 k _ hq
    · exact hA q (Nat.le_trans hS.1 hq)
  have hv2 : v = tg_rv ad kd2 r := by cases hv; rfl
  obtain ⟨t2, a1, b1⟩ := kk q1 q2 T'.heap (locs ++ L') (by rw [e1]; exact hB.1)
    (hPo.kept (fun i x hx => by
      rw [e1]
      refine hkk x.1 ((hPo i x hx).lt) (fun z => ?_)
      rcases z with ⟨k', ee, hz'⟩ | hge
      · exact hap k' i _ x hz' hx rfl
      · exact absurd ((hPo i x hx).lt) (Nat.not_lt.mpr hge)))
    ⟨Nat.le_trans hS.1 (by rw [e1]; exact hz), fun q h1 h2 => by rw [e1, hkk q (Nat.lt_of_lt_of_le h1 hS.1) (fun z => h2 (hF q z))]; exact hS.2.1 q h1 h2, fun q hq => by
      rcases List.mem_append.mp hq with h | h
      · exact hS.2.2 q h
      · exact hF _ (hL q h)⟩ T' rfl X'
  refine ⟨t2, st t2 ?_, b1⟩
  rw [← hv2] at a1
  exact a1
theorem lk_arg {b L n : Nat} {xs : Nat → Int32} {j : Int} {jn : Nat} {h7 h8 : Nat} (hx : p.tables.exec = Jvm.exec) (hb : c.code = cc) (hX : va_X b L xs s s.heap) (hbl : b < s.heap.size) (hbA : ¬ A b) (hS : va_S A s.heap H locs)
    (hl : lv_has ls 4 [(3, .int (tg_I (n : Int))), (2, .ref h8), (1, .ref h7), (0, .ref b)]) (hn : n + 6 ≤ L) (hL : L ≤ 3072) (hj : j = (jn : Int) ∧ jn ≤ 5)
    (d0 : decode cc pc = .ok (.aload_n 0, 1)) (d1 : decode cc (pc + 1) = .ok (.iload_n 3, 1)) (d2 : decode cc (pc + 1 + 1) = .ok (.iconst j, 1)) (d3 : decode cc (pc + 1 + 1 + 1) = .ok (.iadd, 1)) (d4 : decode cc (pc + 1 + 1 + 1 + 1) = .ok (.iaload, 1))
    (kk : W p l e R s m args below meth c H locs cells slots Q (F0 m (pc + 1 + 1 + 1 + 1 + 1) ls (.int (xs (n + jn)) :: rest))) : W p l e R s m args below meth c H locs cells slots Q (F0 m pc ls rest) := by
  refine lv_aload_n hx hb d0 rfl (lv_at hl 3 rfl) ?_
  refine lv_iload_n hx hb d1 rfl (lv_at hl 0 rfl) ?_
  refine lv_iconst (v := Int32.ofInt j) hx hb d2 rfl ?_
  refine lv_iadd hx hb d3 ?_
  have e1 : tg_I (n : Int) + Int32.ofInt j = tg_I ((n : Int) + j) := (Int32.ofInt_add _ _).symm
  rw [e1]
  obtain ⟨v1, v2⟩ := tg_in_vp (i := (n : Int) + j) (n := L) ⟨by omega, by omega⟩ (by omega) (by omega)
  refine va_sld hx hb hX hbl hbA hS v1 d4 ?_
  rw [v2, show ((n : Int) + j).toNat = n + jn by omega]
  exact kk
end LK
theorem lk_cmp0 (z : Int64) : lg_cmp z z = 0 := by
  rw [tg_cmpv, if_neg (by rw [Int64.lt_iff_toInt_lt]; omega), if_pos rfl]
def lk_Cx (p : Program) (s : State) (m : MethodId) (c : Code) (b L : Nat) (xs : Nat → Int32) (D : va_G) (G : tg_G) (a7 a8 : Nat → Nat) : Prop :=
  p.tables.exec = Jvm.exec ∧ c.code = code ∧ c.maxLocals = 4 ∧ s.vm.findClass RL = some m.cls ∧ (∀ w ∈ tg_ALL, w.before #[Value.ref b] s = true) ∧ va_K D vwCl (tg_tys G) s ∧ tg_nest s ∧ (∀ μ ν, va_D (fun q : Nat => s.heap.size ≤ q) (tg_W G a7 LX μ ++ tg_W G a8 LM ν)) ∧ va_X b L xs s s.heap ∧ b < s.heap.size ∧ L ≤ 3072
