-- constructors: worlds that grow
def tk_nests : List (String × Nat × MethodName × String) := [(RX7, 11, yX2_init, RX7), (RX2, 11, yX5_init, RX7), (RX0, 11, yX5_init, RX7), (RX7, 59, yX4_init, RX7)]
def tk_nest (U : State) : Prop := (∀ q ∈ tk_nests, va_Nw (.methodLinkNest q.1 q.2.1 q.2.2.1 q.2.2.2) U) ∧ va_AO "TwoGoats$Sheet" U
def tk_B (D : va_G) (G : tg_G) (ws : va_W) (t : State) : Prop := va_P D vwCl ws t.heap ∧ va_K D vwCl (tg_tys G) t ∧ tk_nest t
theorem tk_nest_warm {s U : State} (hW : s.WarmedH U.vm) (h : tk_nest s) : tk_nest U := ⟨fun q hq => va_Nw.warmM hW (h.1 q hq), va_AO.moved hW.alike h.2⟩
theorem tk_blind {D : va_G} {G : tg_G} {ws : va_W} {sz : Nat} {As : List Value} : FrameBlind (va_Pc As (fun U => U.heap.size = sz ∧ tk_B D G ws U ∧ va_D (fun _ => True) ws)) :=
  fun a U g mk q => by
    obtain ⟨q0, q1, ⟨qP, qK, qN⟩, qD⟩ := q
    exact ⟨q0, q1, ⟨qP, va_K.moved (u := U) (U := U.calling g mk a) (Vm.Alike.refl U.vm) qK, fun z hz => va_Nw.same rfl rfl (qN.1 z hz), va_AO.moved (u := U) (U := U.calling g mk a) (Vm.Alike.refl U.vm) qN.2⟩, qD⟩
theorem tk_preU {p : Program} {s : State} {D : va_G} {G : tg_G} {A : Nat → Prop} {H : Heap} {ws : va_W} {As : List Value} (hP : va_P D vwCl ws H) (hK : va_K D vwCl (tg_tys G) s) (hN : tk_nest s) (hD : va_D A ws) :
    ∀ U : State, U.heap = H → s.WarmedH U.vm → va_Pc As (fun U => U.heap.size = H.size ∧ tk_B D G ws U ∧ va_D (fun _ => True) ws) As.toArray U :=
  fun U hU hW => ⟨rfl, by rw [hU], ⟨by rw [hU]; exact hP, va_K.moved hW.alike hK, tk_nest_warm hW hN⟩, hD.weaken (fun _ _ _ _ => trivial)⟩
theorem tk_subP {D : va_G} {ws w0 : va_W} {H : Heap} {isC : List Nat} (hP : va_P D vwCl ws H) (hC : isC.map (fun i => ws[i]?) = w0.map some) : va_P D vwCl w0 H := by
  intro k q hk
  have h1 : (isC.map (fun i => ws[i]?))[k]? = some (some q) := by rw [hC, List.getElem?_map, hk]; rfl
  rw [List.getElem?_map] at h1
  obtain ⟨i, -, h2⟩ := Option.map_eq_some_iff.mp h1
  exact hP i q h2
section TKB
variable {p : Program} {l : Launch} {e : Env} {R : Room} {s : State} {m : MethodId} {args : Array Value} {below : List Frame} {meth : Method} {c : Code} {H H0 : Heap} {locs : List Loc} {cells slots : Nat} {Q : State → Prop} {cc : ByteArray} {pc : Nat} {ls : Array Slot} {rest stk : List Value} {D : va_G} {G : tg_G} {A : Nat → Prop} {ws : va_W}
theorem tk_newI (hx : p.tables.exec = Jvm.exec) (hb : c.code = cc) (harr : (Cond.arrayClass .int).before args s = true) (hK : va_K D vwCl (tg_tys G) s) (hP : va_P D vwCl ws H) (hD : va_D A ws) (hS : va_S A H0 H locs) (hA : ∀ q, H0.size ≤ q → A q)
    {n : Int32} {N : Nat} (hn : ¬ n < 0) (hN : n.toNatClampNeg = N) (hbytes : N * componentBytes .int ≤ 536870912) (hcells : cells + 1 ≤ R.cells) (hslots : slots + N ≤ R.slots) (hdg : decode cc pc = .ok (.newarray .int, 2))
    (kk : ∀ (q : Nat) (H1 : Heap), va_P D vwCl (ws ++ [(q, .inl (G.1, N, .inl (fun _ => 0)))]) H1 → va_D A (ws ++ [(q, .inl (G.1, N, .inl (fun _ => 0)))]) → va_S A H0 H1 locs → W p l e R s m args below meth c H1 locs (cells + 1) (slots + N) Q (F0 m (pc + 2) ls (.ref q :: rest))) : W p l e R s m args below meth c H locs cells slots Q (F0 m pc ls (.int n :: rest)) := by
  refine va_newa (atype := .int) hx hb harr rfl hK hP hD hS hA (a0 := (N, .inl (fun _ => 0))) (fun cA => rfl) hn hN hbytes hcells hslots hdg (fun q cA H1 hK1 hP1 hD1 hS1 => ?_)
  have e : cA = G.1 := by
    have h1 : s.vm.findClass _ = some G.1 := (hK.2 0 (G.1, .int) rfl).2
    have h2 : s.vm.findClass _ = some cA := (hK1.2 3 (cA, .int) rfl).2
    exact Option.some.inj (h2.symm.trans h1)
  rw [e] at hP1 hD1
  exact kk q H1 hP1 hD1 hS1
theorem tk_newL (hx : p.tables.exec = Jvm.exec) (hb : c.code = cc) (harr : (Cond.arrayClass .long).before args s = true) (hK : va_K D vwCl (tg_tys G) s) (hP : va_P D vwCl ws H) (hD : va_D A ws) (hS : va_S A H0 H locs) (hA : ∀ q, H0.size ≤ q → A q)
    {n : Int32} {N : Nat} (hn : ¬ n < 0) (hN : n.toNatClampNeg = N) (hbytes : N * componentBytes .long ≤ 536870912) (hcells : cells + 1 ≤ R.cells) (hslots : slots + N ≤ R.slots) (hdg : decode cc pc = .ok (.newarray .long, 2))
    (kk : ∀ (q : Nat) (H1 : Heap), va_P D vwCl (ws ++ [(q, .inl (G.2.1, N, .inr (.inl (fun _ => 0))))]) H1 → va_D A (ws ++ [(q, .inl (G.2.1, N, .inr (.inl (fun _ => 0))))]) → va_S A H0 H1 locs → W p l e R s m args below meth c H1 locs (cells + 1) (slots + N) Q (F0 m (pc + 2) ls (.ref q :: rest))) : W p l e R s m args below meth c H locs cells slots Q (F0 m pc ls (.int n :: rest)) := by
  refine va_newa (atype := .long) hx hb harr rfl hK hP hD hS hA (a0 := (N, .inr (.inl (fun _ => 0)))) (fun cA => rfl) hn hN hbytes hcells hslots hdg (fun q cA H1 hK1 hP1 hD1 hS1 => ?_)
  have e : cA = G.2.1 := by
    have h1 : s.vm.findClass _ = some G.2.1 := (hK.2 1 (G.2.1, .long) rfl).2
    have h2 : s.vm.findClass _ = some cA := (hK1.2 3 (cA, .long) rfl).2
    exact Option.some.inj (h2.symm.trans h1)
  rw [e] at hP1 hD1
  exact kk q H1 hP1 hD1 hS1
theorem tk_newQ {own : String} {index : Nat} (hx : p.tables.exec = Jvm.exec) (hb : c.code = cc) (hown : s.vm.findClass own = some m.cls) (hcl : (Cond.classLink own index "TwoGoats$Sheet").before args s = true) (hAO : va_AO "TwoGoats$Sheet" s) (hK : va_K D vwCl (tg_tys G) s) (hP : va_P D vwCl ws H) (hD : va_D A ws) (hS : va_S A H0 H locs) (hA : ∀ q, H0.size ≤ q → A q)
    {n : Int32} {N : Nat} (hn : ¬ n < 0) (hN : n.toNatClampNeg = N) (hbytes : N * 4 ≤ 536870912) (hcells : cells + 1 ≤ R.cells) (hslots : slots + N ≤ R.slots) (hdg : decode cc pc = .ok (.anewarray index, 3))
    (kk : ∀ (q : Nat) (H1 : Heap), va_P D vwCl (ws ++ [(q, .inl (G.2.2, N, .inr (.inr (.inr (.inr (fun _ => none))))))]) H1 → va_D A (ws ++ [(q, .inl (G.2.2, N, .inr (.inr (.inr (.inr (fun _ => none))))))]) → va_S A H0 H1 locs → W p l e R s m args below meth c H1 locs (cells + 1) (slots + N) Q (F0 m (pc + 3) ls (.ref q :: rest))) : W p l e R s m args below meth c H locs cells slots Q (F0 m pc ls (.int n :: rest)) := by
  refine va_newq hx hb hown hcl hAO hK hP hD hS hA hn hN hbytes hcells hslots hdg (fun q cA H1 hK1 hP1 hD1 hS1 => ?_)
  have e : cA = G.2.2 := by
    obtain ⟨-, -, -, -, -, h1⟩ := (hK.2 2 (G.2.2, .object "TwoGoats$Sheet") rfl).2
    obtain ⟨-, -, -, -, -, h2⟩ := (hK1.2 3 (cA, .object "TwoGoats$Sheet") rfl).2
    exact Option.some.inj (h2.symm.trans h1)
  rw [e] at hP1 hD1
  exact kk q H1 hP1 hD1 hS1
def tk_M (l : Launch) (D : va_G) (G : tg_G) (y : MethodName) (bytes : ByteArray) (maxL : Nat) (rm : Room) (h : Nat) (As : List Value) (w0 : va_W) (wf : (Nat → Nat) → va_W) (mc ms sz : Nat) : Prop :=
  Met l y (.code y bytes maxL none :: tg_ALL) rm (va_Pc (.ref h :: As) (fun U => U.heap.size = sz ∧ tk_B D G w0 U ∧ va_D (fun _ => True) w0)) (va_Qv (S := Nat → Nat) (fun _ => True) (fun u t => tk_B D G (wf u) t ∧ va_D (va_A w0 sz) (wf u)) (va_A w0 sz)) mc ms (va_A w0 sz)
theorem tk_callI {own : String} {nL idx maxL mc ms h : Nat} {y : MethodName} {bytes : ByteArray} {rm : Room} {As : List Value} {w0 wr : va_W} {wf : (Nat → Nat) → va_W}
    (hx : p.tables.exec = Jvm.exec) (hb : c.code = cc) (hml : c.maxLocals = nL) (hown : s.vm.findClass own = some m.cls) (hts : ∀ w ∈ tg_ALL, w.before args s = true) (hK : va_K D vwCl (tg_tys G) s) (hN : tk_nest s)
    (hP : va_P D vwCl ws H) (hD : va_D A ws) (hS : va_S A s.heap H locs) (hA : ∀ q : Nat, s.heap.size ≤ q → A q) (hM : tk_M l D G y bytes maxL rm h As w0 wf mc ms H.size)
    (isC isR : List Nat) (hC : isC.map (fun i => ws[i]?) = w0.map some) (hR : isR.map (fun i => ws[i]?) = wr.map some) (hnC : va_nd isC = true) (hn : va_nd isR = true) (hdis : ∀ i ∈ isR, i ∉ isC)
    (hlink : Cond.methodLink own idx y ∈ tg_ALL) (him : Cond.instanceMethod y ∈ tg_ALL) (hini : Cond.initialized y.cls ∈ tg_ALL) (hco : Cond.code y bytes maxL none ∈ tg_ALL) (hyn : y.name = "<init>") (hy : y.cls ≠ "java/lang/invoke/MethodHandle" ∧ y.cls ≠ "java/lang/invoke/VarHandle" ∧ (parseMethodDescriptor y.desc).map (fun q => q.parameters.length) = some As.length)
    (hrm : rm.cells = mc) (hrs : rm.slots = ms) (hR2 : rm.frames + 1 ≤ R.frames ∧ 8 + (maxL + 11) + rm.locals ≤ R.locals) (hsz : ls.size = nL) (hstk : As.reverse ++ .ref h :: rest = stk) (hroom : (rest.map fun v => v.category).sum ≤ 8) (hdg : decode cc pc = .ok (.invokespecial idx, 3)) (hf : cells + mc ≤ R.cells ∧ slots + ms ≤ R.slots)
    (kk : ∀ (u : Nat → Nat) (H1 : Heap) (locs1 : List Loc), va_P D vwCl (wr ++ wf u) H1 → va_D A (wr ++ wf u) → va_S A s.heap H1 locs1 → W p l e R s m args below meth c H1 locs1 (cells + mc) (slots + ms) Q (F0 m (pc + 3) ls rest)) : W p l e R s m args below meth c H locs cells slots Q (F0 m pc ls stk) := by
  subst hstk
  have hFc := va_free (wc := w0) hD hS hA isC hC
  have hPc := tk_subP hP hC
  have hDc := hD.sub isC hnC hC
  refine va_callv (va_runI (As := As) (rest := rest) ⟨hx, hb, hml, hown, hts⟩ hM ⟨callB_of As.length hts (tg_words (fun _ h => h) hco) rfl hrm hrs (hts _ hini) (hts _ hlink) hy hR2, hyn, hts _ him⟩ ⟨tk_blind, tk_preU (p := p) hPc hK hN hDc⟩ rfl rfl hsz rfl (lv_room hroom) hdg hf) hS (fun q _ h => hFc q h) hFc (fun u t H1 locs1 ht hvm hw hB hz1 hk1 hS1 => ?_)
  obtain ⟨⟨hP1, hK1, hN1⟩, hD1⟩ := hB
  rw [ht] at hP1
  obtain ⟨hP2, hD2⟩ := va_join (wr := wr) (w1 := wf u) hP hD isC isR hC hR hn hdis hk1 hFc hP1 hD1
  exact kk u H1 locs1 hP2 hD2 hS1
theorem tk_callN {own host : String} {nL idx maxL mc ms h : Nat} {y : MethodName} {bytes : ByteArray} {rm : Room} {As : List Value} {w0 wr : va_W} {wf : (Nat → Nat) → va_W}
    (hx : p.tables.exec = Jvm.exec) (hb : c.code = cc) (hml : c.maxLocals = nL) (hown : s.vm.findClass own = some m.cls) (hts : ∀ w ∈ tg_ALL, w.before args s = true) (hK : va_K D vwCl (tg_tys G) s) (hN : tk_nest s)
    (hP : va_P D vwCl ws H) (hD : va_D A ws) (hS : va_S A s.heap H locs) (hA : ∀ q : Nat, s.heap.size ≤ q → A q) (hM : tk_M l D G y bytes maxL rm h As w0 wf mc ms H.size)
    (isC isR : List Nat) (hC : isC.map (fun i => ws[i]?) = w0.map some) (hR : isR.map (fun i => ws[i]?) = wr.map some) (hnC : va_nd isC = true) (hn : va_nd isR = true) (hdis : ∀ i ∈ isR, i ∉ isC)
    (hnl : (own, idx, y, host) ∈ tk_nests) (him : Cond.instanceMethod y ∈ tg_ALL) (hini : Cond.initialized y.cls ∈ tg_ALL) (hco : Cond.code y bytes maxL none ∈ tg_ALL) (hyn : y.name = "<init>") (hy : y.cls ≠ "java/lang/invoke/MethodHandle" ∧ y.cls ≠ "java/lang/invoke/VarHandle" ∧ (parseMethodDescriptor y.desc).map (fun q => q.parameters.length) = some As.length)
    (hrm : rm.cells = mc) (hrs : rm.slots = ms) (hR2 : rm.frames + 1 ≤ R.frames ∧ 8 + (maxL + 11) + rm.locals ≤ R.locals) (hsz : ls.size = nL) (hstk : As.reverse ++ .ref h :: rest = stk) (hroom : (rest.map fun v => v.category).sum ≤ 8) (hdg : decode cc pc = .ok (.invokespecial idx, 3)) (hf : cells + mc ≤ R.cells ∧ slots + ms ≤ R.slots)
    (kk : ∀ (u : Nat → Nat) (H1 : Heap) (locs1 : List Loc), va_P D vwCl (wr ++ wf u) H1 → va_D A (wr ++ wf u) → va_S A s.heap H1 locs1 → W p l e R s m args below meth c H1 locs1 (cells + mc) (slots + ms) Q (F0 m (pc + 3) ls rest)) : W p l e R s m args below meth c H locs cells slots Q (F0 m pc ls stk) := by
  subst hstk
  have hFc := va_free (wc := w0) hD hS hA isC hC
  have hPc := tk_subP hP hC
  have hDc := hD.sub isC hnC hC
  refine va_callv (va_runIN (As := As) (rest := rest) ⟨hx, hb, hml, hown, hts⟩ hM ⟨va_cnB As.length hts (tg_words (fun _ h => h) hco) rfl hrm hrs (hN.1 _ hnl) (hts _ hini) hy hR2, hyn, hts _ him⟩ ⟨tk_blind, tk_preU (p := p) hPc hK hN hDc⟩ rfl rfl hsz rfl (lv_room hroom) hdg hf) hS (fun q _ h => hFc q h) hFc (fun u t H1 locs1 ht hvm hw hB hz1 hk1 hS1 => ?_)
  obtain ⟨⟨hP1, hK1, hN1⟩, hD1⟩ := hB
  rw [ht] at hP1
  obtain ⟨hP2, hD2⟩ := va_join (wr := wr) (w1 := wf u) hP hD isC isR hC hR hn hdis hk1 hFc hP1 hD1
  exact kk u H1 locs1 hP2 hD2 hS1
end TKB
/-- the three kinds of arrays -/
theorem tk_known {args : Array Value} {s : State} (hts : ∀ w ∈ tg_ALL, w.before args s = true) (hAO : va_AO "TwoGoats$Sheet" s) : ∃ G : tg_G, ∀ (k : Nat) (q : ClassId × FieldType), (tg_tys G)[k]? = some q → ArrOfT s q.1 q.2 ∧ va_RA s q.1 q.2 := by
  obtain ⟨c1, k1, o1, a1, a2, a3⟩ := Cond.arrayClass_spec (hts _ ac_1_43)
  obtain ⟨c2, k2, o2, b1, b2, b3⟩ := Cond.arrayClass_spec (hts _ ac_1_184)
  obtain ⟨o3, c3, k3, d1, d2, d3, d4, d5⟩ := Cond.arrayOver_spec hAO
  refine ⟨(c1, c2, c3), fun k q hq => ?_⟩
  match k, hq with
  | 0, hq => cases hq; exact ⟨fun n z => ⟨fun k h => (by cases h), k1, a2, o1, a3⟩, a1⟩
  | 1, hq => cases hq; exact ⟨fun n z => ⟨fun k h => (by cases h), k2, b2, o2, b3⟩, b1⟩
  | 2, hq => cases hq; exact ⟨fun n z => ⟨fun k h => (by cases h), k3, d3, o3, d4⟩, k3, o3, d3, d4, d1, d5⟩
  | k + 3, hq => simp [tg_tys] at hq
