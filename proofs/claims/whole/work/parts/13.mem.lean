/-! rows that read and write the memory; calls -/
theorem gI_sIs (σ : St) (q j : Nat) (v : Int32) : gI (sI σ q j v) q = upd (gI σ q) j v := by funext a; simp [gI, sI, upd]
theorem gJ_sJs (σ : St) (q j : Nat) (v : Int64) : gJ (sJ σ q j v) q = vp_updL (gJ σ q) j v := by funext a; simp [gJ, sJ, vp_updL]
section Mem
variable {x : MX} {w : WX} {own : String} {cc : ByteArray} {nL : Nat} {ret : Option FieldType} {fr lo : Nat} {ρ : Type} {inj : ρ → Option Value × St} {k kt kf : Option ρ} {pc : Nat} {lv lv1 : List (Nat × Value)} {st : List Value} {σ : St}
theorem wC_at {q : Nat} (hq : q < wN w) {a : Nat} (ha : wAd w q = a) {e : va_E} (he : cellAt (wSh w) σ q = e) : (wC w σ)[q]? = some (a, e) := by
  subst ha; subst he; exact cells_at hq
theorem S_get (C : Cok x w own cc nL ret fr lo) {index ci kf q a N : Nat} {Cn : String} {T : u_T} {fs : List Value} {v : Value} (hq : q < wN w) (ha : wAd w q = a) (he : cellAt (wSh w) σ q = .inr (ci, fs)) (hc : vwCl[ci]? = some (Cn, T, N)) (hin : ∀ c ∈ u_ws Cn T N, c ∈ gtb) (hk : kf < N) (hl : Cond.fieldLink own index (T kf).1 (T kf).2.1 (T kf).2.2.1 ∈ gtb) (hv : fs[kf]? = some v) (hd : decode cc pc = .ok (.getfield index, 3)) (h : Sim x w nL inj k (pc + 3) lv (v :: st) σ) : Sim x w nL inj k pc lv (.ref a :: st) σ :=
  fun H locs ls r hkk hP hS hls => va_get C.1 C.2.1 C.2.2.2.2.1 hin C.2.2.2.1 C.2.2.2.2.2.2.2.1 hP q (wC_at hq ha he) hc kf hk (C.2.2.2.2.1 _ hl) (fun _ z => z) hv hd (h H locs ls r hkk hP hS hls)
theorem S_put (C : Cok x w own cc nL ret fr lo) {index ci kf q a N : Nat} {Cn : String} {T : u_T} {fs : List Value} {v : Value} {ty0 : Nat → FieldType} {σ' : St} (hq : q < wN w) (ha : wAd w q = a) (he : cellAt (wSh w) σ q = .inr (ci, fs)) (hc : vwCl[ci]? = some (Cn, T, N)) (hin : ∀ c ∈ u_ws Cn T N, c ∈ gtb) (hty : ∀ k, k < N → parseFieldDescriptor (T k).2.2.1 = some (ty0 k)) (hnm : ∀ a, a < N → ∀ b, b < N → a ≠ b → (T a).2.1 ≠ (T b).2.1) (hk : kf < N) (hfin : (T kf).2.2.2 = false) (hl : Cond.fieldLink own index (T kf).1 (T kf).2.1 (T kf).2.2.1 ∈ gtb) (hn : narrow (ty0 kf) v = v) (hfit : fits (ty0 kf) v = true) (hlen : kf < fs.length) (hs : cellAt (wSh w) σ' q = .inr (ci, fs.set kf v)) (ho : ∀ q', q' ≠ q → cellAt (wSh w) σ' q' = cellAt (wSh w) σ q') (hd : decode cc pc = .ok (.putfield index, 3)) (h : Sim x w nL inj k (pc + 3) lv st σ') : Sim x w nL inj k pc lv (v :: .ref a :: st) σ := by
  intro H locs ls r hkk hP hS hls
  subst ha
  refine va_put C.1 C.2.1 C.2.2.2.2.1 hin ty0 hty hnm C.2.2.2.1 C.2.2.2.2.2.2.2.1 hP (wC_D C.2.2.2.2.2.2.2.2.1 σ) hS q (wC_at hq rfl he) hc kf hk (C.2.2.2.2.1 _ hl) (fun _ z => z) hfin (hty kf hk) hn hfit hlen hd (fun H1 locs1 hP1 _ hS1 => ?_)
  have e : (wC w σ).set q (wAd w q, .inr (ci, fs.set kf v)) = wC w σ' := cells_set hs ho
  rw [e] at hP1
  exact h H1 locs1 ls r hkk hP1 hS1 hls
theorem S_iald (C : Cok x w own cc nL ret fr lo) {q a n t0 : Nat} {cA : ClassId} {i : Int32} (hq : q < wN w) (ha : wAd w q = a) (he : cellAt (wSh w) σ q = .inl (cA, n, .inl (gI σ q))) (ht : (wT w)[t0]? = some (cA, .int)) (hd : decode cc pc = .ok (.iaload, 1)) (h : vp_in i n → Sim x w nL inj k (pc + 1) lv (.int (gI σ q i.toNatClampNeg) :: st) σ) : Sim x w nL inj (chk i n k) pc lv (.int i :: .ref a :: st) σ :=
  fun H locs ls r hkk hP hS hls => va_iald C.1 C.2.1 C.2.2.2.2.2.2.2.1 hP q t0 (wC_at hq ha he) ht (chk_some hkk).1 hd (h (chk_some hkk).1 H locs ls r (chk_some hkk).2 hP hS hls)
theorem S_bald (C : Cok x w own cc nL ret fr lo) {q a n t0 : Nat} {cA : ClassId} {i : Int32} (hq : q < wN w) (ha : wAd w q = a) (he : cellAt (wSh w) σ q = .inl (cA, n, .inl (gI σ q))) (ht : (wT w)[t0]? = some (cA, .byte)) (hd : decode cc pc = .ok (.baload, 1)) (h : vp_in i n → Sim x w nL inj k (pc + 1) lv (.int (gI σ q i.toNatClampNeg) :: st) σ) : Sim x w nL inj (chk i n k) pc lv (.int i :: .ref a :: st) σ :=
  fun H locs ls r hkk hP hS hls => va_bald C.1 C.2.1 C.2.2.2.2.2.2.2.1 hP q t0 (wC_at hq ha he) ht (chk_some hkk).1 hd (h (chk_some hkk).1 H locs ls r (chk_some hkk).2 hP hS hls)
theorem S_lald (C : Cok x w own cc nL ret fr lo) {q a n t0 : Nat} {cA : ClassId} {i : Int32} (hq : q < wN w) (ha : wAd w q = a) (he : cellAt (wSh w) σ q = .inl (cA, n, .inr (.inl (gJ σ q)))) (ht : (wT w)[t0]? = some (cA, .long)) (hd : decode cc pc = .ok (.laload, 1)) (h : vp_in i n → Sim x w nL inj k (pc + 1) lv (.long (gJ σ q i.toNatClampNeg) :: st) σ) : Sim x w nL inj (chk i n k) pc lv (.int i :: .ref a :: st) σ :=
  fun H locs ls r hkk hP hS hls => va_lald C.1 C.2.1 C.2.2.2.2.2.2.2.1 hP q t0 (wC_at hq ha he) ht (chk_some hkk).1 hd (h (chk_some hkk).1 H locs ls r (chk_some hkk).2 hP hS hls)
theorem S_aald (C : Cok x w own cc nL ret fr lo) {q a n t0 : Nat} {cA : ClassId} {Cn : String} {f : Nat → Option Nat} {i : Int32} (hq : q < wN w) (ha : wAd w q = a) (he : cellAt (wSh w) σ q = .inl (cA, n, .inr (.inr (.inr (.inr f))))) (ht : (wT w)[t0]? = some (cA, .object Cn)) (hd : decode cc pc = .ok (.aaload, 1)) (h : vp_in i n → Sim x w nL inj k (pc + 1) lv (va_rf (f i.toNatClampNeg) :: st) σ) : Sim x w nL inj (chk i n k) pc lv (.int i :: .ref a :: st) σ :=
  fun H locs ls r hkk hP hS hls => va_aldq C.1 C.2.1 C.2.2.2.2.2.2.2.1 hP q t0 (wC_at hq ha he) ht (chk_some hkk).1 hd (h (chk_some hkk).1 H locs ls r (chk_some hkk).2 hP hS hls)
theorem S_iast (C : Cok x w own cc nL ret fr lo) {q a n t0 : Nat} {cA : ClassId} {i v : Int32} (hq : q < wN w) (ha : wAd w q = a) (he : ∀ τ : St, cellAt (wSh w) τ q = .inl (cA, n, .inl (gI τ q))) (ht : (wT w)[t0]? = some (cA, .int)) (hd : decode cc pc = .ok (.iastore, 1)) (h : vp_in i n → Sim x w nL inj k (pc + 1) lv st (sI σ q i.toNatClampNeg v)) : Sim x w nL inj (chk i n k) pc lv (.int v :: .int i :: .ref a :: st) σ := by
  intro H locs ls r hkk hP hS hls
  subst ha
  refine va_iast C.1 C.2.1 C.2.2.2.2.2.2.2.1 hP (wC_D C.2.2.2.2.2.2.2.2.1 σ) hS q t0 (wC_at hq rfl (he σ)) ht (chk_some hkk).1 hd (fun H1 locs1 hP1 _ hS1 => ?_)
  have e : (wC w σ).set q (wAd w q, .inl (cA, n, .inl (upd (gI σ q) i.toNatClampNeg v))) = wC w (sI σ q i.toNatClampNeg v) := cells_set (by rw [he, gI_sIs]) cellAt_sI
  rw [e] at hP1
  exact h (chk_some hkk).1 H1 locs1 ls r (chk_some hkk).2 hP1 hS1 hls
theorem S_bast (C : Cok x w own cc nL ret fr lo) {q a n t0 : Nat} {cA : ClassId} {i v : Int32} (hq : q < wN w) (ha : wAd w q = a) (he : ∀ τ : St, cellAt (wSh w) τ q = .inl (cA, n, .inl (gI τ q))) (ht : (wT w)[t0]? = some (cA, .byte)) (hd : decode cc pc = .ok (.bastore, 1)) (h : vp_in i n → Sim x w nL inj k (pc + 1) lv st (sI σ q i.toNatClampNeg (vp_nar .byte v))) : Sim x w nL inj (chk i n k) pc lv (.int v :: .int i :: .ref a :: st) σ := by
  intro H locs ls r hkk hP hS hls
  subst ha
  refine va_bast C.1 C.2.1 C.2.2.2.2.2.2.2.1 hP (wC_D C.2.2.2.2.2.2.2.2.1 σ) hS q t0 (wC_at hq rfl (he σ)) ht (chk_some hkk).1 hd (fun H1 locs1 hP1 _ hS1 => ?_)
  have e : (wC w σ).set q (wAd w q, .inl (cA, n, .inl (upd (gI σ q) i.toNatClampNeg (vp_nar .byte v)))) = wC w (sI σ q i.toNatClampNeg (vp_nar .byte v)) := cells_set (by rw [he, gI_sIs]) cellAt_sI
  rw [e] at hP1
  exact h (chk_some hkk).1 H1 locs1 ls r (chk_some hkk).2 hP1 hS1 hls
theorem S_last (C : Cok x w own cc nL ret fr lo) {q a n t0 : Nat} {cA : ClassId} {i : Int32} {v : Int64} (hq : q < wN w) (ha : wAd w q = a) (he : ∀ τ : St, cellAt (wSh w) τ q = .inl (cA, n, .inr (.inl (gJ τ q)))) (ht : (wT w)[t0]? = some (cA, .long)) (hd : decode cc pc = .ok (.lastore, 1)) (h : vp_in i n → Sim x w nL inj k (pc + 1) lv st (sJ σ q i.toNatClampNeg v)) : Sim x w nL inj (chk i n k) pc lv (.long v :: .int i :: .ref a :: st) σ := by
  intro H locs ls r hkk hP hS hls
  subst ha
  refine va_last C.1 C.2.1 C.2.2.2.2.2.2.2.1 hP (wC_D C.2.2.2.2.2.2.2.2.1 σ) hS q t0 (wC_at hq rfl (he σ)) ht (chk_some hkk).1 hd (fun H1 locs1 hP1 _ hS1 => ?_)
  have e : (wC w σ).set q (wAd w q, .inl (cA, n, .inr (.inl (vp_updL (gJ σ q) i.toNatClampNeg v)))) = wC w (sJ σ q i.toNatClampNeg v) := cells_set (by rw [he, gJ_sJs]) cellAt_sJ
  rw [e] at hP1
  exact h (chk_some hkk).1 H1 locs1 ls r (chk_some hkk).2 hP1 hS1 hls
theorem S_alen (C : Cok x w own cc nL ret fr lo) {q a t0 : Nat} {cA : ClassId} {y : vp_A} {ty : FieldType} {v : Int32} (hq : q < wN w) (ha : wAd w q = a) (he : cellAt (wSh w) σ q = .inl (cA, y)) (ht : (wT w)[t0]? = some (cA, ty)) (hv : Int32.ofNat y.1 = v) (hd : decode cc pc = .ok (.arraylength, 1)) (h : Sim x w nL inj k (pc + 1) lv (.int v :: st) σ) : Sim x w nL inj k pc lv (.ref a :: st) σ :=
  fun H locs ls r hkk hP hS hls => va_alen C.1 C.2.1 C.2.2.2.2.2.2.2.1 hP q t0 (wC_at hq ha he) ht hv hd (h H locs ls r hkk hP hS hls)
/-- what a method does, as a contract of the kit -/
def Con (w : WX) (l : Launch) (y : MethodName) (bytes : ByteArray) (maxL : Nat) (rt : Option FieldType) (fr lo : Nat) (av : List Value) (σ : St) (o : Option Value × St) : Prop :=
  Met l y (Cond.code y bytes maxL rt :: gtb) { frames := fr, cells := 0, slots := 0, locals := lo } (va_Pc av (fun U => va_P (wD w) vwCl (wC w σ) U.heap ∧ va_K (wD w) vwCl (wT w) U ∧ wInj w ∧ wE w U U.heap)) (wQ w o) 0 0 (wA w)
theorem tbl_good : ∀ c ∈ gtb, (c.onTables && c.keeps) = true ∨ ∃ ty, c = .arrayClass ty := by
  intro c hc
  exact good_of_word (List.mem_filter.mp hc).2
theorem tbl_in {y : MethodName} {bytes : ByteArray} {maxL : Nat} {rt : Option FieldType} (h : Cond.code y bytes maxL rt ∈ gtb) : GoodIn gtb (Cond.code y bytes maxL rt :: gtb) := fun c hc =>
  (List.mem_cons.mp hc).elim (fun e => ⟨e ▸ h, tbl_good _ (e ▸ h)⟩) (fun e => ⟨e, tbl_good _ e⟩)
theorem pc_blind {av : List Value} {σ : St} : FrameBlind (va_Pc av (fun U => va_P (wD w) vwCl (wC w σ) U.heap ∧ va_K (wD w) vwCl (wT w) U ∧ wInj w ∧ wE w U U.heap)) :=
  fun a U g mk q => by
    obtain ⟨q0, qP, qK, qI, qE⟩ := q
    exact ⟨q0, qP, va_K.moved (u := U) (U := U.calling g mk a) (Vm.Alike.refl U.vm) qK, qI, wE.same (u := U) (U := U.calling g mk a) rfl qE⟩
theorem pc_pre (C : Cok x w own cc nL ret fr lo) {av : List Value} {H : Heap} {locs : List Loc} (hP : va_P (wD w) vwCl (wC w σ) H) (hS : va_S (wA w) (mS x).heap H locs) : ∀ U : State, U.heap = H → (mS x).WarmedH U.vm → va_Pc av (fun U => va_P (wD w) vwCl (wC w σ) U.heap ∧ va_K (wD w) vwCl (wT w) U ∧ wInj w ∧ wE w U U.heap) av.toArray U :=
  fun U hU hW => ⟨rfl, by rw [hU]; exact hP, va_K.moved hW.alike C.2.2.2.2.2.2.2.1, C.2.2.2.2.2.2.2.2.1, by
    rw [hU]
    exact (wE.warm hW C.2.2.2.2.2.2.2.2.2.1).kept (fun a h1 h2 => hS.2.1 a h1 h2)⟩
/-- behind a call: what came back goes on -/
theorem S_back {f : St × Option Value} {K : Option ρ} {st0 : List Value} {av : Array Value} {H : Heap} {locs : List Loc} {ls : Array Slot} {r : ρ} {o : Option Value × St} {lv : List (Nat × Value)} {nL : Nat}
    (hr : va_Run (mP x) (mL x) (mE x) (mR x) (mS x) (mM x) (mA x) (mB x) (mH x) (mC x) H locs 0 0 0 0 (F0 (mM x) pc ls st0) st (wQ w o av) (wA w)) (hS : va_S (wA w) (mS x).heap H locs) (hls : lv_has ls nL lv) (hK : K = some r)
    (h : Sim x w nL inj K (pc + 3) lv (o.1.toList ++ st) o.2) :
    W (mP x) (mL x) (mE x) (mR x) (mS x) (mM x) (mA x) (mB x) (mH x) (mC x) H locs 0 0 (MQ (mB x) (wQ w (inj r)) (mA x) (mS x) 0 0 (wA w)) (F0 (mM x) pc ls st0) := by
  intro T hT X
  obtain ⟨v, st₀, t, T', L, h0, X', hL, e1, e2, ⟨⟨hv, hp⟩, hz, hk⟩, stp⟩ := hr T hT X
  cases hv
  rw [h0] at hz hk
  obtain ⟨t2, a1, b1⟩ := h T'.heap (locs ++ L) ls r hK (by rw [e1]; exact hp) ⟨Nat.le_trans hS.1 (by rw [e1]; exact hz), fun q h1 h2 => by rw [e1, hk q (Nat.lt_of_lt_of_le h1 hS.1) h2]; exact hS.2.1 q h1 h2, fun q hq => by
      rcases List.mem_append.mp hq with h | h
      · exact hS.2.2 q h
      · exact hL q h⟩ hls T' rfl X'
  exact ⟨t2, stp t2 a1, b1⟩
/-- the tables' words of a method: its code, its class ready -/
def mwI (y : MethodName) (bytes : ByteArray) (maxL : Nat) (rt : Option FieldType) (n : Nat) : Prop :=
  Cond.code y bytes maxL rt ∈ gtb ∧ Cond.initialized y.cls ∈ gtb ∧ (y.cls ≠ "java/lang/invoke/MethodHandle" ∧ y.cls ≠ "java/lang/invoke/VarHandle" ∧ (parseMethodDescriptor y.desc).map (fun d => d.parameters.length) = some n)
def mwV (y : MethodName) : Prop := Cond.instanceMethod y ∈ gtb ∧ Cond.selects y.cls y y ∈ gtb
theorem callB (C : Cok x w own cc nL ret fr lo) {y : MethodName} {bytes : ByteArray} {maxL fr1 lo1 n index : Nat} {rt : Option FieldType} (hm : mwI y bytes maxL rt n) (hl : Cond.methodLink own index y ∈ gtb) (hR : fr1 + 1 ≤ fr ∧ 8 + (maxL + 11) + lo1 ≤ lo) :
    CallB (mR x) (mS x) (mA x) own index y bytes maxL rt (Cond.code y bytes maxL rt :: gtb) { frames := fr1, cells := 0, slots := 0, locals := lo1 } 0 0 n :=
  callB_of n C.2.2.2.2.1 (tbl_in hm.1) rfl rfl rfl (C.2.2.2.2.1 _ hm.2.1) (C.2.2.2.2.1 _ hl) hm.2.2 (by rw [C.2.2.2.2.2.2.2.2.2.2]; exact hR)
theorem cs0 (C : Cok x w own cc nL ret fr lo) : 0 + 0 ≤ (mR x).cells ∧ 0 + 0 ≤ (mR x).slots := ⟨Nat.zero_le _, Nat.zero_le _⟩
theorem S_callV (C : Cok x w own cc nL ret fr lo) {ρ1 : Type} {f : Option ρ1} {K : ρ1 → Option ρ} {inj1 : ρ1 → Option Value × St} {y : MethodName} {bytes : ByteArray} {maxL fr1 lo1 n index q b ci N : Nat} {T : u_T} {fs : List Value} {rt : Option FieldType} {As st0 : List Value}
    (hm : mwI y bytes maxL rt n) (hv : mwV y) (hl : Cond.methodLink own index y ∈ gtb) (hcon : ∀ r, f = some r → Con w (mL x) y bytes maxL rt fr1 lo1 (.ref b :: As) σ (inj1 r)) (hR : fr1 + 1 ≤ fr ∧ 8 + (maxL + 11) + lo1 ≤ lo) (hn : As.length = n)
    (hq : q < wN w) (ha : wAd w q = b) (he : cellAt (wSh w) σ q = .inr (ci, fs)) (hc : vwCl[ci]? = some (y.cls, T, N)) (hst : st0 = As.reverse ++ .ref b :: st) (hW : (st.map fun v => v.category).sum ≤ 8) (hd : decode cc pc = .ok (.invokevirtual index, 3))
    (h : ∀ r, Sim x w nL inj (K r) (pc + 3) lv ((inj1 r).1.toList ++ st) (inj1 r).2) : Sim x w nL inj (f.bind K) pc lv st0 σ := by
  intro H locs ls r hkk hP hS hls
  obtain ⟨r1, hf, hK⟩ := Option.bind_eq_some_iff.mp hkk
  subst hst
  refine S_back (f := (σ, none)) (o := inj1 r1) (av := (Value.ref b :: As).toArray) (va_runV (As := As) (rest := st) (b := b) (C := y.cls) (n := n) (nL := nL) ⟨C.1, C.2.1, C.2.2.1, C.2.2.2.1, C.2.2.2.2.1⟩ (hcon r1 hf) ⟨callB C hm hl hR, C.2.2.2.2.1 _ hv.1, C.2.2.2.2.1 _ hv.2⟩ ⟨pc_blind, va_recv C.2.2.2.2.2.2.2.1 hP hc (wC_at hq ha he), pc_pre C hP hS⟩ rfl hn hls.1 rfl (lv_room hW) hd (cs0 C)) hS hls hK (h r1)
theorem S_callS (C : Cok x w own cc nL ret fr lo) {ρ1 : Type} {f : Option ρ1} {K : ρ1 → Option ρ} {inj1 : ρ1 → Option Value × St} {y : MethodName} {bytes : ByteArray} {maxL fr1 lo1 n index : Nat} {rt : Option FieldType} {As st0 : List Value}
    (hm : mwI y bytes maxL rt n) (hv : Cond.static y ∈ gtb) (hl : Cond.methodLink own index y ∈ gtb) (hcon : ∀ r, f = some r → Con w (mL x) y bytes maxL rt fr1 lo1 As σ (inj1 r)) (hR : fr1 + 1 ≤ fr ∧ 8 + (maxL + 11) + lo1 ≤ lo) (hn : As.length = n)
    (hst : st0 = As.reverse ++ st) (hW : (st.map fun v => v.category).sum ≤ 8) (hd : decode cc pc = .ok (.invokestatic index, 3))
    (h : ∀ r, Sim x w nL inj (K r) (pc + 3) lv ((inj1 r).1.toList ++ st) (inj1 r).2) : Sim x w nL inj (f.bind K) pc lv st0 σ := by
  intro H locs ls r hkk hP hS hls
  obtain ⟨r1, hf, hK⟩ := Option.bind_eq_some_iff.mp hkk
  subst hst
  refine S_back (f := (σ, none)) (o := inj1 r1) (av := As.toArray) (va_runS (As := As) (rest := st) (n := n) (nL := nL) ⟨C.1, C.2.1, C.2.2.1, C.2.2.2.1, C.2.2.2.2.1⟩ (hcon r1 hf) ⟨callB C hm hl hR, C.2.2.2.2.1 _ hv⟩ ⟨pc_blind, pc_pre C hP hS⟩ rfl hn hls.1 rfl (lv_room hW) hd (cs0 C)) hS hls hK (h r1)
end Mem
