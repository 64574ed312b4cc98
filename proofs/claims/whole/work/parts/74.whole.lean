-- the law: its loop, its start; about them the skeleton's rows (laid by wip/gen/gen_whole.py)
/-! THE CLAIM OUT OF ONE WALK OF THE LAW'S BODY. Your part is whole_start (and what it stands on); all else here is the same for every law, but numbers. -/
def R_law : String := "TwoGoatsLaw"
def lw_P (b : Addr) (xs : List Int32) (args : Array Value) (s : State) : Prop := args = #[.ref b] ∧ s.IntsAt b xs ∧ xs.length ≤ 3072 ∧ (Jvm.Cond.and given_1 narrow_1).before args s = true
def lw_Q (_ : Array Value) (s : State) (o : Outcome) (t : State) : Prop := o = .returned (some (.int 1)) ∧ Framed s o t [] 600000 7302250
def lw_Z (below : List Frame) (a : Array Value) (s : State) : State → Prop := fun t => ∃ o, t.status = .running ∧ Ended t below o ∧ lw_Q a s o t
/-- the law's own end, with 1 on the stack, nothing written that was there before, its room as the claim has it -/
theorem lw_ret {p : Program} {l : Launch} {e : Env} {s : State} {m : MethodId} {below : List Frame} {meth : Method} {c : Code} {b : Nat} (hx : p.tables.exec = Jvm.exec) (hb : c.code = code) (hr : meth.sig.returnType = ret) (hlocks : meth.locks = false) {pc : Nat} {H : Heap} {ls : Array Slot} (hdg : decode code pc = .ok (.ireturn, 1)) : W p l e room_1 s m #[Value.ref b] below meth c H [] 600000 7302250 (lw_Z below #[Value.ref b] s) (F0 m pc ls [.int 1]) := by
  intro T hT X
  obtain ⟨fs, hret, hrun, hended, hW, hframe⟩ := X.leave (v := some (.int 1)) (hlocks := hlocks) (fun h => by rw [hr] at h; cases h)
  have hmeth' : T.vm.method? m = some meth := X.method'
  refine ⟨T.setFrames fs, ?_, .returned (some (.int 1)), hrun, hended, rfl, ⟨_, rfl⟩, hW, hframe⟩
  jvm_step X.here [X.here.top, hx, hb, hdg, hmeth', hr, ret, narrow_b1]
  (try refine ⟨rfl, ?_⟩); (try refine ⟨rfl, ?_⟩)
  first | (intro acts; rw [hret _ acts rfl rfl rfl]) | rw [hret _ _ rfl rfl rfl]
  exact Steps.refl _
/-- what holds at the law's entry: the machine, the code, the tables' words (any of lw_tbl by 'hts w (by decide +kernel)'), the script of L ints xs at the cell b, what the Statement gives of the start (any of its parts by flat_of_before) -/
def lw_At (p : Program) (s : State) (m : MethodId) (meth : Method) (c : Code) (b L : Nat) (xs : Nat → Int32) : Prop :=
  p.tables.exec = Jvm.exec ∧ c.code = code ∧ meth.sig.returnType = ret ∧ c.maxLocals = 4 ∧ s.vm.findClass R_law = some m.cls ∧ (∀ w ∈ lw_tbl, w.before #[Value.ref b] s = true) ∧ va_X b L xs s s.heap ∧ b < s.heap.size ∧ meth.locks = false ∧ (Jvm.Cond.and given_1 narrow_1).before #[Value.ref b] s = true
-- ===== YOUR PART BEGINS =====
theorem lk_and31 (x : Int32) : 0 ≤ (x &&& 31).toInt ∧ (x &&& 31).toInt ≤ 31 := by
  have h1 : (x &&& 31).toBitVec.toNat ≤ 31 := by
    rw [Int32.toBitVec_and, BitVec.toNat_and]
    exact Nat.and_le_right
  rw [tb_It (by omega)]
  omega
set_option maxRecDepth 100000 in
set_option maxHeartbeats 8000000 in
theorem lw_loop {p : Program} {l : Launch} {e : Env} {s : State} {m : MethodId} {below : List Frame} {meth : Method} {c : Code} {b L : Nat} {xs : Nat → Int32} {D : va_G} {G : tg_G} {a7 a8 : Nat → Nat} (cx : lk_Cx p s m c b L xs D G a7 a8) (hr : meth.sig.returnType = ret) (hlocks : meth.locks = false) :
    ∀ (k n : Nat) (μ ν : tg_Mem) (H : Heap) (locs : List Loc) (ls : Array Slot), L < n + 6 * k → n ≤ L → R_all μ ν → tg_mok LX μ → tg_mok LM ν → va_P D vwCl (tg_W G a7 LX μ) H → va_P D vwCl (tg_W G a8 LM ν) H → va_S (fun q : Nat => s.heap.size ≤ q) s.heap H locs → lv_has ls 4 [(3, .int (tg_I (n : Int))), (2, .ref (a8 0)), (1, .ref (a7 0)), (0, .ref b)] →
      W p l e room_1 s m #[Value.ref b] below meth c H locs 71 5577 (lw_Z below #[Value.ref b] s) (F0 m 18 ls []) := by
  obtain ⟨hx, hb, hml, hown, hts, hK, hN, hDD, hX, hbl, hL⟩ := id cx
  have hbA : ¬ (fun q : Nat => s.heap.size ≤ q) b := Nat.not_le.mpr hbl
  have hcs : 71 ≤ room_1.cells ∧ 5577 ≤ room_1.slots := ⟨Nat.le_of_ble_eq_true rfl, Nat.le_of_ble_eq_true rfl⟩
  intro k
  induction k with
  | zero => intro n μ ν H locs ls h1 h2; omega
  | succ k ih =>
    intro n μ ν H locs ls h1 h2 hR hm7 hm8 hP7 hP8 hS hl
    refine lv_iload_n hx hb dL_law_18 rfl (lv_at hl 0 rfl) ?_
    refine lv_aload_n hx hb dL_law_19 rfl (lv_at hl 3 rfl) ?_
    refine va_slen hx hb hX hbl hbA hS dL_law_20 ?_
    refine lv_bipush (v := 6) hx hb dL_law_21 (by decide) ?_
    refine lv_isub hx hb dL_law_23 ?_
    have e1 : Int32.ofNat L - 6 = tg_I ((L : Int) - 6) := by
      show Int32.ofNat L - Int32.ofInt 6 = Int32.ofInt ((L : Int) - 6)
      rw [Int32.ofInt_sub, Int32.ofInt_eq_ofNat]
    rw [e1]
    have hlt : tg_I ((L : Int) - 6) < tg_I (n : Int) ↔ (L : Int) - 6 < n := tg_I_lt ⟨by omega, by omega⟩ ⟨by omega, by omega⟩
    refine lv_icmp_gt (tgt := 1054) hx hb dL_law_24 (by decide) (fun c9 => ?_) (fun c9 => ?_)
    · refine lv_iconst (v := 1) hx hb dL_law_1054 (by decide) ?_
      refine va_forget (fun q hq => hS.2.2 q hq) ?_
      refine W.widen (k := 600000) (n := 7302250) (Nat.le_of_ble_eq_true rfl) (Nat.le_of_ble_eq_true rfl) ?_
      exact lw_ret hx hb hr hlocks dL_law_1055
    · have hn : n + 6 ≤ L := by
        have h9 : ¬ ((L : Int) - 6 < (n : Int)) := fun z => c9 (hlt.mpr z)
        omega
      -- behind a case
      have cont : ∀ (μ1 ν1 : tg_Mem) (H1 : Heap) (locs1 : List Loc), R_all μ1 ν1 → tg_mok LX μ1 → tg_mok LM ν1 → va_P D vwCl (tg_W G a7 LX μ1) H1 → va_P D vwCl (tg_W G a8 LM ν1) H1 → va_S (fun q : Nat => s.heap.size ≤ q) s.heap H1 locs1 → W p l e room_1 s m #[Value.ref b] below meth c H1 locs1 71 5577 (lw_Z below #[Value.ref b] s) (F0 m 1048 ls []) := by
        intro μ1 ν1 H1 locs1 g1 g2 g3 g4 g5 g6
        refine lv_iinc (v := tg_I ((n + 6 : Nat) : Int)) (lv' := [(3, .int (tg_I ((n + 6 : Nat) : Int))), (2, .ref (a8 0)), (1, .ref (a7 0)), (0, .ref b)]) hx hb dL_law_1048 hl (k := 0) rfl ?_ (by decide) rfl (fun ls2 hl2 => ?_)
        · show Int32.ofInt (n : Int) + Int32.ofInt 6 = Int32.ofInt ((n + 6 : Nat) : Int)
          rw [← Int32.ofInt_add]; rfl
        · refine lv_goto (tgt := 18) hx hb dL_law_1051 (by decide) ?_
          exact ih (n + 6) μ1 ν1 H1 locs1 ls2 (by omega) hn g1 g2 g3 g4 g5 g6 hl2
      refine lv_aload_n hx hb dL_law_27 rfl (lv_at hl 3 rfl) ?_
      refine lv_iload_n hx hb dL_law_28 rfl (lv_at hl 0 rfl) ?_
      obtain ⟨v1, v2⟩ := tg_in_vp (i := (n : Int)) (n := L) ⟨by omega, by omega⟩ (by omega) (by omega)
      refine va_sld hx hb hX hbl hbA hS v1 dL_law_29 ?_
      refine lv_bipush (v := 31) hx hb dL_law_30 (by decide) ?_
      refine lv_iand hx hb dL_law_32 ?_
      have hv := lk_and31 (xs (tg_I (n : Int)).toNatClampNeg)
      generalize xs (tg_I (n : Int)).toNatClampNeg &&& 31 = v at hv ⊢
      by_cases hv26 : v.toInt ≤ 26
      · rcases (show v.toInt = 0 ∨ v.toInt = 1 ∨ v.toInt = 2 ∨ v.toInt = 3 ∨ v.toInt = 4 ∨ v.toInt = 5 ∨ v.toInt = 6 ∨ v.toInt = 7 ∨ v.toInt = 8 ∨ v.toInt = 9 ∨ v.toInt = 10 ∨ v.toInt = 11 ∨ v.toInt = 12 ∨ v.toInt = 13 ∨ v.toInt = 14 ∨ v.toInt = 15 ∨ v.toInt = 16 ∨ v.toInt = 17 ∨ v.toInt = 18 ∨ v.toInt = 19 ∨ v.toInt = 20 ∨ v.toInt = 21 ∨ v.toInt = 22 ∨ v.toInt = 23 ∨ v.toInt = 24 ∨ v.toInt = 25 ∨ v.toInt = 26 by omega) with hv0 | hv0 | hv0 | hv0 | hv0 | hv0 | hv0 | hv0 | hv0 | hv0 | hv0 | hv0 | hv0 | hv0 | hv0 | hv0 | hv0 | hv0 | hv0 | hv0 | hv0 | hv0 | hv0 | hv0 | hv0 | hv0 | hv0
        · refine lv_tableIn (off := 123) (tgt := 156) hx hb dL_law_33 (by rw [hv0]; decide) (by rw [hv0]; decide) (by rw [hv0]; rfl) (by decide) ?_
          exact lc_0 cx hR hm7 hm8 hP7 hP8 hS hl hn hcs cont
        · refine lv_tableIn (off := 156) (tgt := 189) hx hb dL_law_33 (by rw [hv0]; decide) (by rw [hv0]; decide) (by rw [hv0]; rfl) (by decide) ?_
          exact lc_1 cx hR hm7 hm8 hP7 hP8 hS hl hn hcs cont
        · refine lv_tableIn (off := 179) (tgt := 212) hx hb dL_law_33 (by rw [hv0]; decide) (by rw [hv0]; decide) (by rw [hv0]; rfl) (by decide) ?_
          exact lc_2 cx hR hm7 hm8 hP7 hP8 hS hl hn hcs cont
        · refine lv_tableIn (off := 192) (tgt := 225) hx hb dL_law_33 (by rw [hv0]; decide) (by rw [hv0]; decide) (by rw [hv0]; rfl) (by decide) ?_
          exact lc_3 cx hR hm7 hm8 hP7 hP8 hS hl hn hcs cont
        · refine lv_tableIn (off := 225) (tgt := 258) hx hb dL_law_33 (by rw [hv0]; decide) (by rw [hv0]; decide) (by rw [hv0]; rfl) (by decide) ?_
          exact lc_4 cx hR hm7 hm8 hP7 hP8 hS hl hn hcs cont
        · refine lv_tableIn (off := 258) (tgt := 291) hx hb dL_law_33 (by rw [hv0]; decide) (by rw [hv0]; decide) (by rw [hv0]; rfl) (by decide) ?_
          exact lc_5 cx hR hm7 hm8 hP7 hP8 hS hl hn hcs cont
        · refine lv_tableIn (off := 291) (tgt := 324) hx hb dL_law_33 (by rw [hv0]; decide) (by rw [hv0]; decide) (by rw [hv0]; rfl) (by decide) ?_
          exact lc_6 cx hR hm7 hm8 hP7 hP8 hS hl hn hcs cont
        · refine lv_tableIn (off := 324) (tgt := 357) hx hb dL_law_33 (by rw [hv0]; decide) (by rw [hv0]; decide) (by rw [hv0]; rfl) (by decide) ?_
          exact lc_7 cx hR hm7 hm8 hP7 hP8 hS hl hn hcs cont
        · refine lv_tableIn (off := 357) (tgt := 390) hx hb dL_law_33 (by rw [hv0]; decide) (by rw [hv0]; decide) (by rw [hv0]; rfl) (by decide) ?_
          exact lc_8 cx hR hm7 hm8 hP7 hP8 hS hl hn hcs cont
        · refine lv_tableIn (off := 380) (tgt := 413) hx hb dL_law_33 (by rw [hv0]; decide) (by rw [hv0]; decide) (by rw [hv0]; rfl) (by decide) ?_
          exact lc_9 cx hR hm7 hm8 hP7 hP8 hS hl hn hcs cont
        · refine lv_tableIn (off := 403) (tgt := 436) hx hb dL_law_33 (by rw [hv0]; decide) (by rw [hv0]; decide) (by rw [hv0]; rfl) (by decide) ?_
          exact lc_10 cx hR hm7 hm8 hP7 hP8 hS hl hn hcs cont
        · refine lv_tableIn (off := 446) (tgt := 479) hx hb dL_law_33 (by rw [hv0]; decide) (by rw [hv0]; decide) (by rw [hv0]; rfl) (by decide) ?_
          exact lc_11 cx hR hm7 hm8 hP7 hP8 hS hl hn hcs cont
        · refine lv_tableIn (off := 489) (tgt := 522) hx hb dL_law_33 (by rw [hv0]; decide) (by rw [hv0]; decide) (by rw [hv0]; rfl) (by decide) ?_
          exact lc_12 cx hR hm7 hm8 hP7 hP8 hS hl hn hcs cont
        · refine lv_tableIn (off := 512) (tgt := 545) hx hb dL_law_33 (by rw [hv0]; decide) (by rw [hv0]; decide) (by rw [hv0]; rfl) (by decide) ?_
          exact lc_13 cx hR hm7 hm8 hP7 hP8 hS hl hn hcs cont
        · refine lv_tableIn (off := 555) (tgt := 588) hx hb dL_law_33 (by rw [hv0]; decide) (by rw [hv0]; decide) (by rw [hv0]; rfl) (by decide) ?_
          exact lc_14 cx hR hm7 hm8 hP7 hP8 hS hl hn hcs cont
        · refine lv_tableIn (off := 578) (tgt := 611) hx hb dL_law_33 (by rw [hv0]; decide) (by rw [hv0]; decide) (by rw [hv0]; rfl) (by decide) ?_
          exact lc_15 cx hR hm7 hm8 hP7 hP8 hS hl hn hcs cont
        · refine lv_tableIn (off := 631) (tgt := 664) hx hb dL_law_33 (by rw [hv0]; decide) (by rw [hv0]; decide) (by rw [hv0]; rfl) (by decide) ?_
          exact lc_16 cx hR hm7 hm8 hP7 hP8 hS hl hn hcs cont
        · refine lv_tableIn (off := 664) (tgt := 697) hx hb dL_law_33 (by rw [hv0]; decide) (by rw [hv0]; decide) (by rw [hv0]; rfl) (by decide) ?_
          exact lc_17 cx hR hm7 hm8 hP7 hP8 hS hl hn hcs cont
        · refine lv_tableIn (off := 707) (tgt := 740) hx hb dL_law_33 (by rw [hv0]; decide) (by rw [hv0]; decide) (by rw [hv0]; rfl) (by decide) ?_
          exact lc_18 cx hR hm7 hm8 hP7 hP8 hS hl hn hcs cont
        · refine lv_tableIn (off := 720) (tgt := 753) hx hb dL_law_33 (by rw [hv0]; decide) (by rw [hv0]; decide) (by rw [hv0]; rfl) (by decide) ?_
          exact lc_19 cx hR hm7 hm8 hP7 hP8 hS hl hn hcs cont
        · refine lv_tableIn (off := 763) (tgt := 796) hx hb dL_law_33 (by rw [hv0]; decide) (by rw [hv0]; decide) (by rw [hv0]; rfl) (by decide) ?_
          exact lc_20 cx hR hm7 hm8 hP7 hP8 hS hl hn hcs cont
        · refine lv_tableIn (off := 786) (tgt := 819) hx hb dL_law_33 (by rw [hv0]; decide) (by rw [hv0]; decide) (by rw [hv0]; rfl) (by decide) ?_
          exact lc_21 cx hR hm7 hm8 hP7 hP8 hS hl hn hcs cont
        · refine lv_tableIn (off := 839) (tgt := 872) hx hb dL_law_33 (by rw [hv0]; decide) (by rw [hv0]; decide) (by rw [hv0]; rfl) (by decide) ?_
          exact lc_22 cx hR hm7 hm8 hP7 hP8 hS hl hn hcs cont
        · refine lv_tableIn (off := 882) (tgt := 915) hx hb dL_law_33 (by rw [hv0]; decide) (by rw [hv0]; decide) (by rw [hv0]; rfl) (by decide) ?_
          exact lc_23 cx hR hm7 hm8 hP7 hP8 hS hl hn hcs cont
        · refine lv_tableIn (off := 945) (tgt := 978) hx hb dL_law_33 (by rw [hv0]; decide) (by rw [hv0]; decide) (by rw [hv0]; rfl) (by decide) ?_
          exact lc_24 cx hR hm7 hm8 hP7 hP8 hS hl hn hcs cont
        · refine lv_tableIn (off := 978) (tgt := 1011) hx hb dL_law_33 (by rw [hv0]; decide) (by rw [hv0]; decide) (by rw [hv0]; rfl) (by decide) ?_
          exact lc_25 cx hR hm7 hm8 hP7 hP8 hS hl hn hcs cont
        · refine lv_tableIn (off := 1001) (tgt := 1034) hx hb dL_law_33 (by rw [hv0]; decide) (by rw [hv0]; decide) (by rw [hv0]; rfl) (by decide) ?_
          exact lc_26 cx hR hm7 hm8 hP7 hP8 hS hl hn hcs cont
      · refine lv_tableOut (tgt := 1048) hx hb dL_law_33 (Or.inr (by omega)) (by decide) ?_
        exact cont μ ν H locs hR hm7 hm8 hP7 hP8 hS
set_option maxRecDepth 100000 in
set_option maxHeartbeats 8000000 in
theorem whole_start {p : Program} {e : Env} {s : State} {m : MethodId} {below : List Frame} {meth : Method} {c : Code} (l : Launch) (hflags : l.flags = flags0) {b L : Nat} {xs : Nat → Int32} (hL : L ≤ 3072) (C0 : lw_At p s m meth c b L xs) : W p l e room_1 s m #[Value.ref b] below meth c s.heap [] 0 0 (lw_Z below #[Value.ref b] s) (entryFrame m ([Value.ref b] : List Value).toArray 4) := by
  obtain ⟨hx, hb, hr, hml, hown, hts0, hX, hbl, hlocks, hgv⟩ := id C0
  have hts : ∀ w ∈ tg_ALL, w.before #[Value.ref b] s = true := fun w h => hts0 w (List.mem_filter.mp h).1
  have hA : ∀ q : Nat, s.heap.size ≤ q → (fun q : Nat => s.heap.size ≤ q) q := fun _ h => h
  obtain ⟨c0, i0, k0⟩ := u_known (C := RX0) (T := TX0) (N := 8) (n := 8) hts inAX0 (hts _ it_X0)
  obtain ⟨c1, i1, k1⟩ := u_known (C := RX1) (T := TX1) (N := 6) (n := 6) hts inAX1 (hts _ it_X1)
  obtain ⟨c2, i2, k2⟩ := u_known (C := RX2) (T := TX2) (N := 10) (n := 10) hts inAX2 (hts _ it_X2)
  obtain ⟨c3, i3, k3⟩ := u_known (C := RX3) (T := TX3) (N := 5) (n := 5) hts inAX3 (hts _ it_X3)
  obtain ⟨c4, i4, k4⟩ := u_known (C := RX4) (T := TX4) (N := 3) (n := 3) hts inAX4 (hts _ it_X4)
  obtain ⟨c5, i5, k5⟩ := u_known (C := RX5) (T := TX5) (N := 2) (n := 2) hts inAX5 (hts _ it_X5)
  obtain ⟨c6, i6, k6⟩ := u_known (C := RX6) (T := TX6) (N := 4) (n := 4) hts inAX6 (hts _ it_X6)
  obtain ⟨c7, i7, k7⟩ := u_known (C := RX7) (T := TX7) (N := 8) (n := 8) hts inAX7 (hts _ it_X7)
  obtain ⟨c8, i8, k8⟩ := u_known (C := RX8) (T := TX8) (N := 29) (n := 29) hts inAX8 (hts _ it_X8)
  have hAO : va_AO "TwoGoats$Sheet" s := va_AO.of (hts0 _ ao_1_210)
  obtain ⟨G, hG⟩ := tk_known hts hAO
  obtain ⟨D, hKc⟩ : ∃ D : va_G, ∀ (k : Nat) (q : vw_C), vwCl[k]? = some q → u_Kn s q.1 q.2.1 q.2.2 (D.1 k) (D.2 k) := by
    refine ⟨(fun k => [c0, c1, c2, c3, c4, c5, c6, c7, c8].getD k 0, fun k => [i0, i1, i2, i3, i4, i5, i6, i7, i8].getD k (fun _ => 0)), ?_⟩
    intro k q hq
    match k, hq with
    | 0, hq => cases hq; exact k0
    | 1, hq => cases hq; exact k1
    | 2, hq => cases hq; exact k2
    | 3, hq => cases hq; exact k3
    | 4, hq => cases hq; exact k4
    | 5, hq => cases hq; exact k5
    | 6, hq => cases hq; exact k6
    | 7, hq => cases hq; exact k7
    | 8, hq => cases hq; exact k8
    | k + 9, hq => simp [vwCl] at hq
  have hK : va_K D vwCl (tg_tys G) s := ⟨hKc, hG⟩
  have hN : tk_nest s := by
    refine ⟨fun q hq => ?_, hAO⟩
    simp only [tk_nests, List.mem_cons, List.not_mem_nil, or_false] at hq
    rcases hq with rfl | rfl | rfl | rfl
    · exact va_Nw.of rfl (hts0 _ nl_X7_11)
    · exact va_Nw.of rfl (hts0 _ nl_X2_11)
    · exact va_Nw.of rfl (hts0 _ nl_X0_11)
    · exact va_Nw.of rfl (hts0 _ nl_X7_59)
  have hNn : tg_nest s := by
    intro q hq
    simp only [tg_nests, List.mem_cons, List.not_mem_nil, or_false] at hq
    rcases hq with rfl | rfl | rfl | rfl | rfl | rfl | rfl | rfl
    · exact va_Nw.of rfl (hts0 _ nl_X0_65)
    · exact va_Nw.of rfl (hts0 _ nl_X0_98)
    · exact va_Nw.of rfl (hts0 _ nl_X1_50)
    · exact va_Nw.of rfl (hts0 _ nl_X2_87)
    · exact va_Nw.of rfl (hts0 _ nl_X3_85)
    · exact va_Nw.of rfl (hts0 _ nl_X4_28)
    · exact va_Nw.of rfl (hts0 _ nl_X5_19)
    · exact va_Nw.of rfl (hts0 _ nl_X6_75)
  have hS : va_S (fun q : Nat => s.heap.size ≤ q) s.heap s.heap [] := va_S.rf
  have hP : va_P D vwCl [] s.heap := fun k q h => by simp at h
  have hD : va_D (fun q : Nat => s.heap.size ≤ q) [] := ⟨fun i j p q h => by simp at h, fun k q h => by simp at h⟩
  have hl := lv_entry ([.ref b]) (n := 4) (Nat.le_of_ble_eq_true rfl)
  rw [lg_entry_eq]
  generalize (lg_sl ([.ref b]) ++ List.replicate (4 - (lg_sl ([.ref b])).length) Slot.unset).toArray = ls at hl ⊢
  have hl : lv_has ls 4 [(0, .ref b)] := hl
  refine va_new (ci := 7) (fs := [.null, .null, .null, .null, .null, .null, .null, .int 0]) (C := RX7) (T := TX7) (N := 8) hx hb hts inAX7 tyX7 tyX7_ok hown (hts _ cl_L_7) (hts _ it_X7) (hts _ in_X7) hK hP hD hS hA rfl (fun j hj => by rcases (show j = 0 ∨ j = 1 ∨ j = 2 ∨ j = 3 ∨ j = 4 ∨ j = 5 ∨ j = 6 ∨ j = 7 by omega) with rfl | rfl | rfl | rfl | rfl | rfl | rfl | rfl <;> rfl) (Nat.le_of_ble_eq_true rfl) (Nat.le_of_ble_eq_true rfl) dL_law_0 (fun q7 H hP hD hS => ?_)
  refine W.widen (k := 1) (n := 8) (Nat.le_of_ble_eq_true rfl) (Nat.le_of_ble_eq_true rfl) ?_
  refine lv_dup hx hb dL_law_3 rfl ?_
  refine tk_callI (w0 := [(q7, .inr (7, [.null, .null, .null, .null, .null, .null, .null, .int 0]))]) (wr := []) (wf := tk_wX7 G q7) hx hb hml hown hts hK hN hP hD hS hA (kc_X7 l D G q7 H.size) [0] [] rfl rfl rfl rfl (by decide) ml_L_9 im_X7_init in_X7 co_X7_init rfl (show yX7_init.cls ≠ "java/lang/invoke/MethodHandle" ∧ yX7_init.cls ≠ "java/lang/invoke/VarHandle" ∧ (parseMethodDescriptor yX7_init.desc).map (fun q => q.parameters.length) = some 0 by decide +kernel) rfl rfl ⟨(Nat.le_of_ble_eq_true rfl), (Nat.le_of_ble_eq_true rfl)⟩ hl.1 rfl (Nat.le_of_ble_eq_true rfl) dL_law_4 ⟨(Nat.le_of_ble_eq_true rfl), (Nat.le_of_ble_eq_true rfl)⟩ (fun u7 H locs hP hD hS => ?_)
  refine W.widen (k := 48) (n := 3884) (Nat.le_of_ble_eq_true rfl) (Nat.le_of_ble_eq_true rfl) ?_
  have hP : va_P D vwCl (tk_wX7 G q7 u7) H := hP
  have hD : va_D (fun q : Nat => s.heap.size ≤ q) (tk_wX7 G q7 u7) := hD
  refine lv_astore_n (lv' := [(1, .ref q7), (0, .ref b)]) hx hb dL_law_7 rfl hl (by decide) rfl (fun ls hl => ?_)
  refine va_new (ci := 8) (fs := [.null, .null, .null, .null, .int 0, .null, .null, .int 0, .int 0, .null, .null, .null, .null, .null, .null, .int 0, .int 0, .null, .null, .int 0, .null, .int 0, .null, .null, .null, .null, .null, .null, .null]) (C := RX8) (T := TX8) (N := 29) hx hb hts inAX8 tyX8 tyX8_ok hown (hts _ cl_L_10) (hts _ it_X8) (hts _ in_X8) hK hP hD hS hA rfl (fun j hj => by rcases (show j = 0 ∨ j = 1 ∨ j = 2 ∨ j = 3 ∨ j = 4 ∨ j = 5 ∨ j = 6 ∨ j = 7 ∨ j = 8 ∨ j = 9 ∨ j = 10 ∨ j = 11 ∨ j = 12 ∨ j = 13 ∨ j = 14 ∨ j = 15 ∨ j = 16 ∨ j = 17 ∨ j = 18 ∨ j = 19 ∨ j = 20 ∨ j = 21 ∨ j = 22 ∨ j = 23 ∨ j = 24 ∨ j = 25 ∨ j = 26 ∨ j = 27 ∨ j = 28 by omega) with rfl | rfl | rfl | rfl | rfl | rfl | rfl | rfl | rfl | rfl | rfl | rfl | rfl | rfl | rfl | rfl | rfl | rfl | rfl | rfl | rfl | rfl | rfl | rfl | rfl | rfl | rfl | rfl | rfl <;> rfl) (Nat.le_of_ble_eq_true rfl) (Nat.le_of_ble_eq_true rfl) dL_law_8 (fun q8 H hP hD hS => ?_)
  refine W.widen (k := 49) (n := 3913) (Nat.le_of_ble_eq_true rfl) (Nat.le_of_ble_eq_true rfl) ?_
  refine lv_dup hx hb dL_law_11 rfl ?_
  refine tk_callI (w0 := [(q8, .inr (8, [.null, .null, .null, .null, .int 0, .null, .null, .int 0, .int 0, .null, .null, .null, .null, .null, .null, .int 0, .int 0, .null, .null, .int 0, .null, .int 0, .null, .null, .null, .null, .null, .null, .null]))]) (wr := tk_wX7 G q7 u7) (wf := tk_wX8 G q8) hx hb hml hown hts hK hN hP hD hS hA (kc_X8 l D G q8 H.size) [48] [0, 1, 2, 3, 4, 5, 6, 7, 8, 9, 10, 11, 12, 13, 14, 15, 16, 17, 18, 19, 20, 21, 22, 23, 24, 25, 26, 27, 28, 29, 30, 31, 32, 33, 34, 35, 36, 37, 38, 39, 40, 41, 42, 43, 44, 45, 46, 47] rfl rfl rfl rfl (by decide) ml_L_12 im_X8_init in_X8 co_X8_init rfl (show yX8_init.cls ≠ "java/lang/invoke/MethodHandle" ∧ yX8_init.cls ≠ "java/lang/invoke/VarHandle" ∧ (parseMethodDescriptor yX8_init.desc).map (fun q => q.parameters.length) = some 0 by decide +kernel) rfl rfl ⟨(Nat.le_of_ble_eq_true rfl), (Nat.le_of_ble_eq_true rfl)⟩ hl.1 rfl (Nat.le_of_ble_eq_true rfl) dL_law_12 ⟨(Nat.le_of_ble_eq_true rfl), (Nat.le_of_ble_eq_true rfl)⟩ (fun u8 H locs hP hD hS => ?_)
  refine W.widen (k := 71) (n := 5577) (Nat.le_of_ble_eq_true rfl) (Nat.le_of_ble_eq_true rfl) ?_
  refine lv_astore_n (lv' := [(2, .ref q8), (1, .ref q7), (0, .ref b)]) hx hb dL_law_15 rfl hl (by decide) rfl (fun ls hl => ?_)
  refine lv_iconst (v := tg_I ((0 : Nat) : Int)) hx hb dL_law_16 rfl ?_
  refine lv_istore_n (lv' := [(3, .int (tg_I ((0 : Nat) : Int))), (2, .ref q8), (1, .ref q7), (0, .ref b)]) hx hb dL_law_17 rfl hl (by decide) rfl (fun ls hl => ?_)
  have hP7 : va_P D vwCl (tk_wX7 G q7 u7) H := fun k q hk => hP k q (by rw [List.getElem?_append_left (List.getElem?_eq_some_iff.mp hk).1]; exact hk)
  have hP8 : va_P D vwCl (tk_wX8 G q8 u8) H := fun k q hk => hP _ q (tk_app2 hk)
  have cx : lk_Cx p s m c b L xs D G (ad7 q7 u7) (ad8 q8 u8) := ⟨hx, hb, hml, hown, hts, hK, hNn, fun μ ν => ad78_D hD μ ν, hX, hbl, hL⟩
  exact lw_loop cx hr hlocks (L + 1) 0 mu7 mu8 H locs ls (by omega) (by omega) R_all0 mok7 mok8 (ad7_P hP7) (ad8_P hP8) hS hl
-- ===== YOUR PART ENDS =====
set_option maxHeartbeats 4000000 in
theorem lw_walk (l : Launch) (hflags : l.flags = flags0) (b : Addr) (xs : List Int32) : MetFree l x (headSpec (Jvm.Cond.code x code maxLocals ret :: tables_1) room_1) (lw_P b xs) (fun _ _ _ _ _ => True) lw_Q := by
  refine MetFree.of_bodyS (code := code) (maxLocals := maxLocals) (ret := ret) (by decide) ?_ ?_
  · intro args s m h hn
    obtain ⟨meth, c, h1, h2, h3, h4, h5, h6, -, -⟩ := Cond.code_spec hn (atoms_spec (ws := Jvm.Cond.code x code maxLocals ret :: tables_1) h _ List.mem_cons_self)
    exact ⟨meth, c, h1, h2, h3, h4, h5, h6⟩
  · intro p e s m args below meth c s₁ B hml0 hP _
    obtain ⟨rfl, hx, hbd, hgv⟩ := hP
    obtain ⟨scr, harrAt, hlist, hof, hsmall⟩ := hx
    obtain ⟨hcb, hkn, -, -⟩ := State.arrayAt?_spec harrAt
    have hown : s.vm.findClass R_law = some m.cls := findClass_of_methodNamed B.named
    have hts0 : ∀ c ∈ (Jvm.Cond.code x code maxLocals ret :: tables_1), c.before #[Value.ref b] s = true := atoms_spec (ws := Jvm.Cond.code x code maxLocals ret :: tables_1) B.pre
    have hts : ∀ w ∈ lw_tbl, w.before #[Value.ref b] s = true := k2_hts_sels lw_privs (fun w hw => hts0 w (List.mem_cons_of_mem _ hw)) lw_privs_ok
    have hml : c.maxLocals = 4 := B.maxLocals_eq (hts0 _ List.mem_cons_self)
    have X₀ : Stand p l e room_1 s m #[Value.ref b] below meth c s₁ [] 0 0 := Stand.of_body B
    have hh0 : s₁.heap = s.heap := by rw [B.state]; rfl
    have hsz : scr.slots.size = xs.length := by rw [← Array.length_toList, hlist, List.length_map]
    have hval : ∀ j : Nat, j < xs.length → scr.slots[j]? = some (.int (xs.getD j 0)) := fun j hj => by
      rw [← Array.getElem?_toList, hlist]
      simp [hj]
    have hbl : b < s.heap.size := (Array.getElem?_eq_some_iff.mp hcb).1
    have hX : va_X b xs.length (fun j => xs.getD j 0) s s.heap := ⟨scr, hcb, hof, hkn, hsz, hval⟩
    have K : W p l e room_1 s m #[Value.ref b] below meth c s₁.heap [] 0 0 (lw_Z below #[Value.ref b] s) (entryFrame m ([Value.ref b] : List Value).toArray 4) := by
      rw [hh0]
      exact whole_start l hflags hbd ⟨B.exec, B.bytes, B.returns, hml, hown, hts, hX, hbl, B.notSynchronized, hgv⟩
    obtain ⟨t, a1, o, b1, b2, b3⟩ := K s₁ rfl X₀
    exact ⟨t, o, a1, b1, b2, b3⟩
theorem lw_pre_spec {args : Array Value} {s : State} (h : (Jvm.Cond.and given_1 narrow_1).before args s = true) (hr : rest_1_c.before args s = true) : ∃ (b : Addr) (xs : List Int32), lw_P b xs args s := by
  have hs := flat_of_before _ h
  have hq := flat_of_before _ hr
  have hc : (Cond.count 1).before args s = true := hs _ (by decide +kernel)
  have harr : (Cond.arrayOf (.arg 0) .int).before args s = true := hs _ (by decide +kernel)
  have hle : (Cond.le (.length (.arg 0)) (.int 3072)).before args s = true := hs _ (by decide +kernel)
  have hlen : (Cond.isInt (.length (.arg 0))).before args s = true := hq _ (by decide +kernel)
  have hall : (Cond.all (.arg 0) (.isInt (.elem (.arg 0) (.index 0)))).before args s = true := hq _ (by decide +kernel)
  obtain ⟨b, xs, hb, hx⟩ := State.ints_of_pre rfl harr hlen hall
  have hsm : xs.length < 2 ^ 31 := hx.choose_spec.2.2.2
  have hev : (Term.length (.arg 0)).eval args s none [] s = some (.int xs.length.toInt32) := hx.length_eval hb
  have hv := Cond.le_ints hev (show (Term.int 3072).eval args s none [] s = some (.int 3072) from rfl)
  have hd : xs.length.toInt32 ≤ 3072 := by
    simpa [Cond.before, Cond.holds, hv] using hle
  have hN : xs.length ≤ 3072 := (Int32.ofNat_le_ofNat hsm (by decide)).mp (show Int32.ofNat xs.length ≤ Int32.ofNat 3072 from hd)
  exact ⟨b, xs, Cond.one_arg hc (show args[0]? = some (.ref b) from hb), hx, hN, h⟩
theorem lw_comes (l : Launch) (hflags : l.flags = flags0) : Comes l x (Jvm.Cond.code x code maxLocals ret :: tables_1) room_1 (fun tb e args s => Calls_1 tb e args s ∧ rest_1 tb e args s ∧ Pre_1 tb e args s)
    (fun _ _ args s o t => lw_Q args s o t) := by
  intro p e ha hc hk s m args below hf hfit hheap happ hpre
  obtain ⟨b, xs, hP⟩ := lw_pre_spec hpre.2.2 hpre.2.1
  obtain ⟨k, o, h1, h2, h3, hQ⟩ := lw_walk l hflags b xs p e ha hc hk s m args below hf ((Spec.applies_iff_loose hf).mp happ).1 hP trivial
  exact ⟨k, o, h1, h2, h3, hQ⟩
theorem lw_frame {s t : State} {o : Outcome} {args : Array Value} (h : Framed s o t [] 600000 7302250) :
    Framed s o t (fieldLocs frame_1_writes args s ++ arrayLocs frame_1_arrays args s ++ staticLocs frame_1_statics s) 600000 7302250 := h
theorem lw_limb (L : Cond) (hL : ∀ (args : Array Value) (s t : State), L.after args s (.returned (some (.int 1))) t = true) :
    ArmFor flags0 classFile x code maxLocals ret World_1 tables_1 room_1 Calls_1 rest_1 Pre_1
      (fun tb e a s o t => postC L tb e a s o t ∧ Framed s o t (fieldLocs frame_1_writes a s ++ arrayLocs frame_1_arrays a s ++ staticLocs frame_1_statics s) 600000 7302250) := by
  intro l hflags _ _ p e ha hc hk s m args below hf hfit hheap happ hpre
  obtain ⟨k, o, h1, h2, h3, rfl, hF⟩ := lw_comes l hflags p e ha hc hk s m args below hf hfit hheap happ hpre
  exact ⟨k, _, h1, h2, h3, hL args s _, lw_frame hF⟩
theorem i_vc : Claimed_1_1 ∧ Claimed_1_2 := ⟨lw_limb limb_1_1 (fun args s t => by simp [limb_1_1, Cond.after, Cond.holds, Cond.value]), lw_limb limb_1_2 (fun args s t => Cond.after_iff.mpr (by
  first | (rw [show limb_1_2 = Cond.eq .result (.int 1) from rfl, Cond.eq_ints (x := 1) (y := 1) rfl rfl]; simp; done) | (simp [limb_1_2, Cond.value, Term.eval]; done)))⟩
