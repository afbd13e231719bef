/-! the law's walk: both systems side by side -/
def Lok (x : MX) (w1 w2 : WX) (b L : Nat) (xs : Nat → Int32) : Prop :=
  (mP x).tables.exec = Jvm.exec ∧ (mC x).code = cL_law ∧ (mC x).maxLocals = 4 ∧ (mS x).vm.findClass RL = some (mM x).cls ∧ (∀ c ∈ gtb, c.before (mA x) (mS x) = true) ∧
  ((mH x).sig.returnType = ret ∧ (mH x).locks = false ∧ mR x = room_1 ∧ mA x = #[Value.ref b]) ∧
  (va_K (wD w1) vwCl (wT w1) (mS x) ∧ wInj w1 ∧ wE w1 (mS x) (mS x).heap ∧ ∀ q, wA w1 q → (mS x).heap.size ≤ q ∧ ¬ wA w2 q) ∧
  (va_K (wD w2) vwCl (wT w2) (mS x) ∧ wInj w2 ∧ wE w2 (mS x) (mS x).heap ∧ ∀ q, wA w2 q → (mS x).heap.size ≤ q ∧ ¬ wA w1 q) ∧
  va_X b L xs (mS x) (mS x).heap ∧ b < (mS x).heap.size
def nwA (x : MX) : Nat → Prop := fun q => (mS x).heap.size ≤ q
/-- from this frame the law comes to its end with true -/
def LSim (x : MX) (w1 w2 : WX) (cs ss pc : Nat) (lv : List (Nat × Value)) (st : List Value) (σ τ : St) : Prop :=
  ∀ (H : Heap) (locs : List Loc) (ls : Array Slot), va_P (wD w1) vwCl (wC w1 σ) H → va_P (wD w2) vwCl (wC w2 τ) H → va_S (nwA x) (mS x).heap H locs → lv_has ls 4 lv →
    W (mP x) (mL x) (mE x) (mR x) (mS x) (mM x) (mA x) (mB x) (mH x) (mC x) H locs cs ss (lw_Z (mB x) (mA x) (mS x)) (F0 (mM x) pc ls st)
section LRows
variable {x : MX} {w1 w2 : WX} {b L : Nat} {xs : Nat → Int32} {cs ss pc : Nat} {lv : List (Nat × Value)} {st : List Value} {σ τ : St}
theorem Lok.sw (C : Lok x w1 w2 b L xs) : Lok x w2 w1 b L xs := by
  obtain ⟨a1, a2, a3, a4, a5, a6, a7, a8, a9⟩ := C
  exact ⟨a1, a2, a3, a4, a5, a6, a8, a7, a9⟩
theorem LSim.sw (h : LSim x w1 w2 cs ss pc lv st σ τ) : LSim x w2 w1 cs ss pc lv st τ σ := fun H locs ls hP hQ hS hl => h H locs ls hQ hP hS hl
theorem L_aload_n (C : Lok x w1 w2 b L xs) (j : Nat) {i : Fin 4} {a : Nat} (hd : decode cL_law pc = .ok (.aload_n i, 1)) (hj : lv[j]? = some ((i : Nat), .ref a)) (h : LSim x w1 w2 cs ss (pc + 1) lv (.ref a :: st) σ τ) : LSim x w1 w2 cs ss pc lv st σ τ := fun H locs ls hP hQ hS hl => lv_aload_n C.1 C.2.1 hd rfl (lv_at hl j hj) (h H locs ls hP hQ hS hl)
theorem L_iload_n (C : Lok x w1 w2 b L xs) (j : Nat) {i : Fin 4} {a : Int32} (hd : decode cL_law pc = .ok (.iload_n i, 1)) (hj : lv[j]? = some ((i : Nat), .int a)) (h : LSim x w1 w2 cs ss (pc + 1) lv (.int a :: st) σ τ) : LSim x w1 w2 cs ss pc lv st σ τ := fun H locs ls hP hQ hS hl => lv_iload_n C.1 C.2.1 hd rfl (lv_at hl j hj) (h H locs ls hP hQ hS hl)
theorem L_iconst (C : Lok x w1 w2 b L xs) (v : Int32) {n : Int} (hd : decode cL_law pc = .ok (.iconst n, 1)) (hv : Int32.ofInt n = v) (h : LSim x w1 w2 cs ss (pc + 1) lv (.int v :: st) σ τ) : LSim x w1 w2 cs ss pc lv st σ τ := fun H locs ls hP hQ hS hl => lv_iconst C.1 C.2.1 hd hv (h H locs ls hP hQ hS hl)
theorem L_bipush (C : Lok x w1 w2 b L xs) (v : Int32) {n : Int} (hd : decode cL_law pc = .ok (.bipush n, 2)) (hv : (Int8.ofInt n).toInt32 = v) (h : LSim x w1 w2 cs ss (pc + 2) lv (.int v :: st) σ τ) : LSim x w1 w2 cs ss pc lv st σ τ := fun H locs ls hP hQ hS hl => lv_bipush C.1 C.2.1 hd hv (h H locs ls hP hQ hS hl)
theorem L_iadd (C : Lok x w1 w2 b L xs) {u v : Int32} (hd : decode cL_law pc = .ok (.iadd, 1)) (h : LSim x w1 w2 cs ss (pc + 1) lv (.int (u + v) :: st) σ τ) : LSim x w1 w2 cs ss pc lv (.int v :: .int u :: st) σ τ := fun H locs ls hP hQ hS hl => lv_iadd C.1 C.2.1 hd (h H locs ls hP hQ hS hl)
theorem L_isub (C : Lok x w1 w2 b L xs) {u v : Int32} (hd : decode cL_law pc = .ok (.isub, 1)) (h : LSim x w1 w2 cs ss (pc + 1) lv (.int (u - v) :: st) σ τ) : LSim x w1 w2 cs ss pc lv (.int v :: .int u :: st) σ τ := fun H locs ls hP hQ hS hl => lv_isub C.1 C.2.1 hd (h H locs ls hP hQ hS hl)
theorem L_iand (C : Lok x w1 w2 b L xs) {u v : Int32} (hd : decode cL_law pc = .ok (.iand, 1)) (h : LSim x w1 w2 cs ss (pc + 1) lv (.int (u &&& v) :: st) σ τ) : LSim x w1 w2 cs ss pc lv (.int v :: .int u :: st) σ τ := fun H locs ls hP hQ hS hl => lv_iand C.1 C.2.1 hd (h H locs ls hP hQ hS hl)
theorem L_i2l (C : Lok x w1 w2 b L xs) {u : Int32} (hd : decode cL_law pc = .ok (.i2l, 1)) (h : LSim x w1 w2 cs ss (pc + 1) lv (.long u.toInt64 :: st) σ τ) : LSim x w1 w2 cs ss pc lv (.int u :: st) σ τ := fun H locs ls hP hQ hS hl => lv_i2l C.1 C.2.1 hd rfl (h H locs ls hP hQ hS hl)
theorem L_lshl (C : Lok x w1 w2 b L xs) {u : Int64} {v : Int32} (hd : decode cL_law pc = .ok (.lshl, 1)) (h : LSim x w1 w2 cs ss (pc + 1) lv (.long (u <<< (v.toInt64 &&& 63)) :: st) σ τ) : LSim x w1 w2 cs ss pc lv (.int v :: .long u :: st) σ τ := fun H locs ls hP hQ hS hl => lv_lshl C.1 C.2.1 hd rfl (h H locs ls hP hQ hS hl)
theorem L_land (C : Lok x w1 w2 b L xs) {u v : Int64} (hd : decode cL_law pc = .ok (.land, 1)) (h : LSim x w1 w2 cs ss (pc + 1) lv (.long (u &&& v) :: st) σ τ) : LSim x w1 w2 cs ss pc lv (.long v :: .long u :: st) σ τ := fun H locs ls hP hQ hS hl => lv_land C.1 C.2.1 hd (h H locs ls hP hQ hS hl)
theorem L_lor (C : Lok x w1 w2 b L xs) {u v : Int64} (hd : decode cL_law pc = .ok (.lor, 1)) (h : LSim x w1 w2 cs ss (pc + 1) lv (.long (u ||| v) :: st) σ τ) : LSim x w1 w2 cs ss pc lv (.long v :: .long u :: st) σ τ := fun H locs ls hP hQ hS hl => lv_lor C.1 C.2.1 hd (h H locs ls hP hQ hS hl)
theorem L_ldc2 (C : Lok x w1 w2 b L xs) (v : Int64) {index : Nat} (hm : Jvm.Cond.constantLong RL index v ∈ gtb) (hd : decode cL_law pc = .ok (.ldc2_w index, 3)) (h : LSim x w1 w2 cs ss (pc + 3) lv (.long v :: st) σ τ) : LSim x w1 w2 cs ss pc lv st σ τ := fun H locs ls hP hQ hS hl => lv_ldc2 C.1 C.2.1 C.2.2.2.1 (C.2.2.2.2.1 _ hm) hd (h H locs ls hP hQ hS hl)
theorem L_goto (C : Lok x w1 w2 b L xs) (tgt : Nat) {off : Int} (hd : decode cL_law pc = .ok (.goto off, 3)) (ht : (pc : Int) + off = (tgt : Int)) (h : LSim x w1 w2 cs ss tgt lv st σ τ) : LSim x w1 w2 cs ss pc lv st σ τ := fun H locs ls hP hQ hS hl => lv_goto C.1 C.2.1 hd ht (h H locs ls hP hQ hS hl)
theorem L_iinc (C : Lok x w1 w2 b L xs) (j : Nat) (lv1 : List (Nat × Value)) {i : Nat} {n : Int} {a : Int32} (v : Int32) (hd : decode cL_law pc = .ok (.iinc i n, 3)) (hj : lv[j]? = some (i, .int a)) (hv : a + Int32.ofInt n = v) (hn : i < 4) (hf : (i, Value.int v) :: lv.filter (fun q => !(q.1 == i) && !(q.1 + 1 == i && q.2.category == 2)) = lv1) (h : LSim x w1 w2 cs ss (pc + 3) lv1 st σ τ) : LSim x w1 w2 cs ss pc lv st σ τ := fun H locs ls hP hQ hS hl => lv_iinc C.1 C.2.1 hd hl hj hv hn hf (fun ls1 hl1 => h H locs ls1 hP hQ hS hl1)
theorem L_icmp_eq (C : Lok x w1 w2 b L xs) (tgt : Nat) {u v : Int32} {off : Int} (hd : decode cL_law pc = .ok (.if_icmp .eq off, 3)) (ht : (pc : Int) + off = (tgt : Int)) (h1 : u = v → LSim x w1 w2 cs ss tgt lv st σ τ) (h2 : ¬ u = v → LSim x w1 w2 cs ss (pc + 3) lv st σ τ) : LSim x w1 w2 cs ss pc lv (.int v :: .int u :: st) σ τ := fun H locs ls hP hQ hS hl => lv_icmp_eq C.1 C.2.1 hd ht (fun hc => h1 hc H locs ls hP hQ hS hl) (fun hc => h2 hc H locs ls hP hQ hS hl)
theorem L_icmp_gt (C : Lok x w1 w2 b L xs) (tgt : Nat) {u v : Int32} {off : Int} (hd : decode cL_law pc = .ok (.if_icmp .gt off, 3)) (ht : (pc : Int) + off = (tgt : Int)) (h1 : v < u → LSim x w1 w2 cs ss tgt lv st σ τ) (h2 : ¬ v < u → LSim x w1 w2 cs ss (pc + 3) lv st σ τ) : LSim x w1 w2 cs ss pc lv (.int v :: .int u :: st) σ τ := fun H locs ls hP hQ hS hl => lv_icmp_gt C.1 C.2.1 hd ht (fun hc => h1 hc H locs ls hP hQ hS hl) (fun hc => h2 hc H locs ls hP hQ hS hl)
theorem L_lcmp (C : Lok x w1 w2 b L xs) {u v : Int64} (hd : decode cL_law pc = .ok (.lcmp, 1)) (h : LSim x w1 w2 cs ss (pc + 1) lv (.int (lg_cmp u v) :: st) σ τ) : LSim x w1 w2 cs ss pc lv (.long v :: .long u :: st) σ τ := fun H locs ls hP hQ hS hl => W.lcmp C.1 C.2.1 hd (h H locs ls hP hQ hS hl)
theorem L_ifeq (C : Lok x w1 w2 b L xs) (tgt : Nat) {u : Int32} {off : Int} (hd : decode cL_law pc = .ok (.ifCond .eq off, 3)) (ht : (pc : Int) + off = (tgt : Int)) (h1 : u = 0 → LSim x w1 w2 cs ss tgt lv st σ τ) (h2 : ¬ u = 0 → LSim x w1 w2 cs ss (pc + 3) lv st σ τ) : LSim x w1 w2 cs ss pc lv (.int u :: st) σ τ := fun H locs ls hP hQ hS hl => lv_if_eq C.1 C.2.1 hd ht (fun hc => h1 hc H locs ls hP hQ hS hl) (fun hc => h2 hc H locs ls hP hQ hS hl)
theorem L_nb (C : Lok x w1 w2 b L xs) : ¬ nwA x b := Nat.not_le.mpr C.2.2.2.2.2.2.2.2.2
theorem L_sld (C : Lok x w1 w2 b L xs) {i : Int32} (hin : vp_in i L) (hd : decode cL_law pc = .ok (.iaload, 1)) (h : LSim x w1 w2 cs ss (pc + 1) lv (.int (xs i.toNatClampNeg) :: st) σ τ) : LSim x w1 w2 cs ss pc lv (.int i :: .ref b :: st) σ τ := fun H locs ls hP hQ hS hl => va_sld C.1 C.2.1 C.2.2.2.2.2.2.2.2.1 C.2.2.2.2.2.2.2.2.2 (L_nb C) hS hin hd (h H locs ls hP hQ hS hl)
theorem L_slen (C : Lok x w1 w2 b L xs) (hd : decode cL_law pc = .ok (.arraylength, 1)) (h : LSim x w1 w2 cs ss (pc + 1) lv (.int (nI L) :: st) σ τ) : LSim x w1 w2 cs ss pc lv (.ref b :: st) σ τ := fun H locs ls hP hQ hS hl => va_slen C.1 C.2.1 C.2.2.2.2.2.2.2.2.1 C.2.2.2.2.2.2.2.2.2 (L_nb C) hS hd (h H locs ls hP hQ hS hl)
/-- its end -/
theorem L_ret (C : Lok x w1 w2 b L xs) (hc : cs ≤ 600000) (hs : ss ≤ 7302250) (hd : decode cL_law pc = .ok (.ireturn, 1)) : LSim x w1 w2 cs ss pc lv [.int 1] σ τ := fun H locs ls hP hQ hS hl => by
  obtain ⟨e1, e2, e3, e4⟩ := C.2.2.2.2.2.1
  refine va_forget (fun q hq => hS.2.2 q hq) (W.widen (k := 600000) (n := 7302250) hc hs ?_)
  rw [e3, e4]
  exact lw_ret C.1 C.2.1 e1 e2 hd
/-- a call of the first system -/
theorem L_call (C : Lok x w1 w2 b L xs) {y : MethodName} {bytes : ByteArray} {maxL fr1 lo1 n index q a ci N : Nat} {T : u_T} {fs : List Value} {rt : Option FieldType} {As st0 : List Value} {o : Option Value × St}
    (hm : mwI y bytes maxL rt n) (hv : mwV y) (hl : Cond.methodLink RL index y ∈ gtb) (hcon : Con w1 (mL x) y bytes maxL rt fr1 lo1 (.ref a :: As) σ o) (hR : fr1 + 1 ≤ 2048 ∧ 8 + (maxL + 11) + lo1 ≤ 84000) (hn : As.length = n)
    (hq : q < wN w1) (ha : wAd w1 q = a) (he : cellAt (wSh w1) σ q = .inr (ci, fs)) (hc : vwCl[ci]? = some (y.cls, T, N)) (hst : st0 = As.reverse ++ .ref a :: st) (hW : (st.map fun v => v.category).sum ≤ 8) (hd : decode cL_law pc = .ok (.invokevirtual index, 3))
    (hcs : cs ≤ 600000) (hss : ss ≤ 7302250) (h : LSim x w1 w2 cs ss (pc + 3) lv (o.1.toList ++ st) o.2 τ) : LSim x w1 w2 cs ss pc lv st0 σ τ := by
  intro H locs ls hP hQ hS hls
  subst hst
  obtain ⟨c1, c2, c3, c4, c5, ⟨c6, c7, c8, c9⟩, ⟨k1, k2, k3, k4⟩, ⟨k5, k6, k7, k8⟩, c10, c11⟩ := id C
  have hS1 : ∀ q : Nat, q < (mS x).heap.size → ¬ wA w1 q → H[q]? = (mS x).heap[q]? := fun q h1 h2 => hS.2.1 q h1 (Nat.not_le.mpr h1)
  have hpre : ∀ U : State, U.heap = H → (mS x).WarmedH U.vm → va_Pc (.ref a :: As) (fun U => va_P (wD w1) vwCl (wC w1 σ) U.heap ∧ va_K (wD w1) vwCl (wT w1) U ∧ wInj w1 ∧ wE w1 U U.heap) (Value.ref a :: As).toArray U := fun U hU hW =>
    ⟨rfl, by rw [hU]; exact hP, va_K.moved hW.alike k1, k2, by
      rw [hU]
      exact (wE.warm hW k3).kept hS1⟩
  have hB : CallB (mR x) (mS x) (mA x) RL index y bytes maxL rt (Cond.code y bytes maxL rt :: gtb) { frames := fr1, cells := 0, slots := 0, locals := lo1 } 0 0 n :=
    callB_of n c5 (tbl_in hm.1) rfl rfl rfl (c5 _ hm.2.1) (c5 _ hl) hm.2.2 (by rw [c8]; exact hR)
  have hr := va_runV (As := As) (rest := st) (b := a) (C := y.cls) (n := n) (nL := 4) (H := H) (locs := locs) (cells := cs) (slots := ss) (below := mB x) (meth := mH x) (e := mE x) (l := mL x) ⟨c1, c2, c3, c4, c5⟩ hcon ⟨hB, c5 _ hv.1, c5 _ hv.2⟩ ⟨pc_blind, va_recv k1 hP hc (wC_at hq ha he), hpre⟩ rfl hn hls.1 rfl (lv_room hW) hd (by rw [c8]; exact ⟨hcs, hss⟩)
  intro T hT X
  obtain ⟨v, st₀, t, T', LL, h0, X', hL, e1, e2, ⟨⟨hv', hp⟩, hz, hk⟩, stp⟩ := hr T hT X
  cases hv'
  rw [h0] at hz hk
  have hQ' : va_P (wD w2) vwCl (wC w2 τ) T'.heap := hQ.kept (fun k q hkq => by
    obtain ⟨i1, i2⟩ := cells_of hkq
    have hA2 : wA w2 q.1 := ⟨k, i1, by rw [i2]⟩
    rw [e1]
    exact hk q.1 (hQ k q hkq).lt (k8 q.1 hA2).2)
  obtain ⟨t2, a1, b1⟩ := h T'.heap (locs ++ LL) ls (by rw [e1]; exact hp) hQ' ⟨Nat.le_trans hS.1 (by rw [e1]; exact hz), fun q h1 h2 => by rw [e1, hk q (Nat.lt_of_lt_of_le h1 hS.1) (fun hA => h2 (k4 q hA).1)]; exact hS.2.1 q h1 h2, fun q hq => by
      rcases List.mem_append.mp hq with h | h
      · exact hS.2.2 q h
      · exact (k4 _ (hL q h)).1⟩ hls T' rfl X'
  exact ⟨t2, stp t2 a1, b1⟩
end LRows
