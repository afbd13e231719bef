/-! Rules.forget over the seven cells of a young Rules -/
set_option maxRecDepth 10000 in
theorem WG_fill_L5 {x : MX} {w : WX} {ci0 : ClassId} (C : Cok x w RJ7 cJ7_fill_53178 4 none 0 0) (q : Nat) (ln : Nat) (hq : q < wN w) (hsh : ∀ τ : St, cellAt (wSh w) τ q = .inl (ci0, ln, .inl (gI τ q))) (ht : (wT w)[0]? = some (ci0, .int)) : ∀ (n : Nat) (x1 : Int32) (x2 : Int32) (x3 : Int32) (σ : St), Sim x w 4 jV (J7_fill_53178_L5 q ln n x1 x2 x3 σ) 5 [(0, .ref (wAd w q)), (1, .int x1), (2, .int x2), (3, .int x3)] [] σ := by
  intro n
  induction n with
  | zero =>
    intros
    exact S_none
  | succ n ih =>
    intro x1 x2 x3 σ
    rw [J7_fill_53178_L5]
    refine S_iload_n C 2 dJ7_fill_53178_5 rfl ?_
    refine S_iload_n C 3 dJ7_fill_53178_6 rfl ?_
    refine S_icmp_ge C 20 dJ7_fill_53178_7 (by decide) ?_ ?_
    · exact S_vret C rfl dJ7_fill_53178_20
    · refine S_aload_n C 0 dJ7_fill_53178_10 rfl ?_
      refine S_iload_n C 2 dJ7_fill_53178_11 rfl ?_
      refine S_iload_n C 1 dJ7_fill_53178_12 rfl ?_
      refine S_iast C (t0 := 0) hq rfl hsh ht dJ7_fill_53178_13 (fun _ => ?_)
      refine S_bndS (fun σ2 _ => ?_)
      refine S_iinc C 2 [(2, .int (x2 + 1)), (0, .ref (wAd w q)), (1, .int x1), (3, .int x3)] (x2 + 1) dJ7_fill_53178_14 rfl rfl (by decide) rfl ?_
      refine S_goto C 5 dJ7_fill_53178_17 (by decide) ?_
      exact S_sub [1, 2, 0, 3] rfl (ih x1 (x2 + 1) x3 σ2)
set_option maxRecDepth 10000 in
theorem WG_fill {x : MX} {w : WX} {ci0 : ClassId} (C : Cok x w RJ7 cJ7_fill_53178 4 none 0 0) (q : Nat) (ln : Nat) (x1 : Int32) (σ : St) (hq : q < wN w) (hsh : ∀ τ : St, cellAt (wSh w) τ q = .inl (ci0, ln, .inl (gI τ q))) (ht : (wT w)[0]? = some (ci0, .int)) : Sim x w 4 jV (J7_fill_53178 q ln x1 σ) 0 [(0, .ref (wAd w q)), (1, .int x1)] [] σ := by
  rw [J7_fill_53178]
  refine S_iconst C (0) dJ7_fill_53178_0 (by decide) ?_
  refine S_istore_n C [(2, .int 0), (0, .ref (wAd w q)), (1, .int x1)] (i := 2) dJ7_fill_53178_1 rfl (by decide) rfl ?_
  refine S_aload_n C 1 dJ7_fill_53178_2 rfl ?_
  refine S_alen C (t0 := 0) hq rfl (hsh σ) ht rfl dJ7_fill_53178_3 ?_
  refine S_bndT (fun x3_1 _ => ?_)
  refine S_istore_n C [(3, .int x3_1), (2, .int 0), (0, .ref (wAd w q)), (1, .int x1)] (i := 3) dJ7_fill_53178_4 rfl (by decide) rfl ?_
  exact S_sub [2, 3, 1, 0] rfl (WG_fill_L5 C q ln hq hsh ht FU x1 (0 : Int32) x3_1 σ)
set_option maxRecDepth 10000 in
theorem conG_fill (w : WX) {ci0 : ClassId} (l : Launch) (q : Nat) (ln : Nat) (x1 : Int32) (σ : St) (hq : q < wN w) (hsh : ∀ τ : St, cellAt (wSh w) τ q = .inl (ci0, ln, .inl (gI τ q))) (ht : (wT w)[0]? = some (ci0, .int)) : ∀ ro, J7_fill_53178 q ln x1 σ = some ro → Con w l yJ7_fill_53178 cJ7_fill_53178 4 none 0 0 [.ref (wAd w q), .int x1] σ (jV ro) :=
  fun ro hk => Con_of hk (by decide) (Nat.le_of_ble_eq_true rfl) (fun x hx C => WG_fill C q ln x1 σ hq hsh ht)
set_option maxRecDepth 10000 in
theorem KG_fill {x : MX} {w : WX} {ci0 : ClassId} {own : String} {cc : ByteArray} {nL : Nat} {ret : Option FieldType} {fr lo : Nat} {ρ : Type} {inj : ρ → Option Value × St} {pc : Nat} {lv : List (Nat × Value)} {st : List Value} {σ : St} (C : Cok x w own cc nL ret fr lo) {q : Nat} {ln : Nat} {x1 : Int32} (hq : q < wN w) (hsh : ∀ τ : St, cellAt (wSh w) τ q = .inl (ci0, ln, .inl (gI τ q))) (ht : (wT w)[0]? = some (ci0, .int)) {index : Nat} (hl : Cond.methodLink own index yJ7_fill_53178 ∈ gtb) (hR : 0 + 1 ≤ fr ∧ 8 + (4 + 11) + 0 ≤ lo) (hW : (st.map fun v => v.category).sum ≤ 8) (hd : decode cc pc = .ok (.invokestatic index, 3)) {K : St → Option ρ} (h : ∀ v, Sim x w nL inj (K v) (pc + 3) lv (st) v) : Sim x w nL inj ((J7_fill_53178 q ln x1 σ).bind K) pc lv (.int x1 :: .ref (wAd w q) :: st) σ :=
  S_callS C (As := [.ref (wAd w q), .int x1]) (inj1 := jV) mw_J7_fill_53178 ms_J7_fill_53178 hl (fun ro hro => conG_fill w (mL x) q ln x1 σ hq hsh ht ro hro) hR rfl rfl hW hd h
section CopyG
variable {x : MX} {w : WX} {cc : ByteArray} {nL : Nat} {ret : Option FieldType} {fr lo : Nat} {ρ : Type} {inj : ρ → Option Value × St} {k : Option ρ} {pc : Nat} {lv : List (Nat × Value)} {st : List Value} {σ : St}
theorem SG_cpyF (C : Cok x w RX5 cc nL ret fr lo) {n8 : Nat} {ci0 : ClassId} (hq8 : n8 < wN w) (hsh : ∀ τ : St, cellAt (wSh w) τ n8 = .inl (ci0, 8, .inl (gI τ n8))) (ht : (wT w)[0]? = some (ci0, .int)) (hR : 1 ≤ fr ∧ 8 + (nativeFrameWords "java/lang/System" "arraycopy" 5 + 11) ≤ lo) (hW : (st.map fun v => v.category).sum ≤ 8) (hd : decode cc pc = .ok (.invokestatic 36, 3))
    (h : Sim x w nL inj k (pc + 3) lv st (sIf σ n8 (va_cpy tFirst (gI σ n8) 0 0 8))) : Sim x w nL inj k pc lv (.int 8 :: .int 0 :: .ref (wAd w n8) :: .int 0 :: .ref (wS1 w) :: st) σ := by
  intro H locs ls q hk hP hS hl T hT X
  have hE := C.2.2.2.2.2.2.2.2.2.1.2.1
  have hD := wC_D C.2.2.2.2.2.2.2.2.1 σ
  have hat : (wC w σ)[n8]? = some (wAd w n8, .inl (ci0, 8, .inl (gI σ n8))) := wC_at (w := w) hq8 rfl (hsh σ)
  obtain ⟨scr, e1, ⟨e2, k0, hk0, cm0, hkk0⟩, e3, e4, -, e5, e6⟩ := hE
  have hc0 : H[wS1 w]? = some scr := by rw [hS.2.1 _ (Array.getElem?_eq_some_iff.mp e1).1 e6]; exact e1
  have hc1 : H[wAd w n8]? = some (vp_cell ci0 (8, .inl (gI σ n8))) := hP n8 _ hat
  obtain ⟨-, k1, hk1, cm1, hkk1⟩ := (C.2.2.2.2.2.2.2.1.2 0 _ ht).1 8 (fun j => .int (gI σ n8 j))
  have hfr : 1 ≤ (mR x).frames := by rw [C.2.2.2.2.2.2.2.2.2.2]; exact hR.1
  have hlo : (st.map fun v => v.category).sum + (nativeFrameWords "java/lang/System" "arraycopy" 5 + 11) ≤ (mR x).locals := by
    rw [C.2.2.2.2.2.2.2.2.2.2]; show _ ≤ lo; omega
  obtain ⟨vm', X', step⟩ := X.arraycopy C.1 C.2.2.2.1 (C.2.2.2.2.1 (.methodLink "FamilyNames$Rules" 36 arraycopyName) (gtb_at 97 (by decide +kernel) rfl)) (C.2.2.2.2.1 (.native arraycopyName) (gtb_at 99 (by decide +kernel) rfl)) (C.2.2.2.2.1 (.static arraycopyName) (gtb_at 98 (by decide +kernel) rfl)) (C.2.2.2.2.1 (.initialized "java/lang/System") (gtb_at 5 (by decide +kernel) rfl))
    (src := wS1 w) (dst := wAd w n8) (cs := scr) (cd := vp_cell ci0 (8, .inl (gI σ n8))) (srcPos := 0) (destPos := 0) (n := 8) (by rw [hT]; exact hc0) (by rw [hT]; exact hc1)
    e2 (fun _ q => by cases q) e3 (fun q => by cases q) hk0 hk1 hkk0 hkk1 (by simp [refKind]) (by decide) (by decide) (by decide)
    (by show ¬ ((0 : Int32).toInt + (8 : Int32).toInt > (scr.slots.size : Int)); simp; omega)
    (by show ¬ ((0 : Int32).toInt + (8 : Int32).toInt > ((arrV ci0 8 (fun j => .int (gI σ n8 j))).slots.size : Int)); rw [arrV_size]; decide)
    (fun vm₁ _ i hi => by
      have hi8 : i < 8 := hi
      have e : scr.slots.getD ((0 : Int32).toNatClampNeg + i) .null = .int (tFirst i) := by
        rw [Array.getD_eq_getD_getElem?, show (0 : Int32).toNatClampNeg + i = i by simp, e5 _ hi8]; rfl
      exact ⟨by rw [e]; rfl, by rw [e]; exact trivial⟩)
    (g := F0 (mM x) pc ls (.int 8 :: .int 0 :: .ref (wAd w n8) :: .int 0 :: .ref (wS1 w) :: st)) rfl (by rw [C.2.2.1]; exact hl.1) (rest := st) rfl (by rw [C.2.1]; exact hd) hfr (by show 2 * 0 + _ + _ ≤ _; omega)
  have ec : copied scr (vp_cell ci0 (8, .inl (gI σ n8))) 0 0 8 = vp_cell ci0 (8, .inl (va_cpy tFirst (gI σ n8) 0 0 8)) := va_copiedX (fun v => .int v) scr ci0 tFirst (gI σ n8) e5 (Nat.le_refl 8)
  rw [ec] at X' step
  have hlt : wAd w n8 < H.size := (Array.getElem?_eq_some_iff.mp hc1).1
  have oq : ∀ p : Nat, p ≠ wAd w n8 → (H.setIfInBounds (wAd w n8) (vp_cell ci0 (8, .inl (va_cpy tFirst (gI σ n8) 0 0 8))))[p]? = H[p]? := fun p hp => by simp [Array.getElem?_setIfInBounds, Ne.symm hp]
  have hP1 := hP.set (e := .inl (ci0, 8, .inl (va_cpy tFirst (gI σ n8) 0 0 8))) hD hat (show (H.setIfInBounds (wAd w n8) (vp_cell ci0 (8, .inl (va_cpy tFirst (gI σ n8) 0 0 8))))[wAd w n8]? = some _ by simp [Array.getElem?_setIfInBounds, hlt]) oq
  have es : (wC w σ).set n8 (wAd w n8, .inl (ci0, 8, .inl (va_cpy tFirst (gI σ n8) 0 0 8))) = wC w (sIf σ n8 (va_cpy tFirst (gI σ n8) 0 0 8)) :=
    cells_set (ad := wAd w) (by rw [show cellAt (wSh w) (sIf σ n8 (va_cpy tFirst (gI σ n8) 0 0 8)) n8 = _ from hsh _, gI_sIfs]) cellAt_sIf
  rw [es] at hP1
  obtain ⟨t, a1, b1⟩ := h _ _ ls q hk hP1 ⟨by simp; exact hS.1, fun p g1 g2 => by
      rw [oq p (fun e => g2 ⟨n8, hq8, e⟩)]
      exact hS.2.1 p g1 g2, fun p hp => by
      rcases List.mem_append.mp hp with hh | hh
      · exact hS.2.2 p hh
      · obtain ⟨y, -, hy⟩ := List.mem_map.mp hh
        rw [← hy]
        exact ⟨n8, hq8, rfl⟩⟩ hl _ (show ((T.setVm vm').setCell (wAd w n8) _).heap = _ by rw [← hT]; rfl) X'
  exact ⟨t, step t a1, b1⟩
end CopyG
def shR (B : ZB) (a : Nat → Nat) : Shp := fun q I J R => ([
  .inr (4, [.ref (a 1), .ref (a 2), .ref (a 3), .ref (a 4), .ref (a 5), .ref (a 6), .int (I 6), .int (I 7)]),
  .inl (bI B, 8, .inl I),
  .inl (bI B, 12, .inl I),
  .inl (bI B, 12, .inl I),
  .inl (bI B, 12, .inl I),
  .inl (bI B, 12, .inl I),
  .inl (bI B, 729, .inl I)] : List va_E).getD q (.inr (0, []))
abbrev wR (B : ZB) (a : Nat → Nat) : WX := (bD B, bT B, a, shR B a, 7, B.2.2.2.2.2.2.1, B.2.2.2.2.2.2.2.1, B.2.2.2.2.2.2.2.2.1, B.2.2.2.2.2.2.2.2.2)
def R_forget (σ : St) : Option St :=
  bnd (sIf σ 1 (va_cpy tFirst (gI σ 1) 0 0 8)) fun σ1 => (J7_fill_53178 6 729 (-1) σ1).bind fun σ2 => bnd (sI σ2 0 6 0) fun σ3 => bnd (sI σ3 0 7 0) fun σ4 => some σ4
set_option maxRecDepth 10000 in
theorem WR_forget {x : MX} {B : ZB} {a : Nat → Nat} (C : Cok x (wR B a) RX5 cX5_forget 1 none 1 79) (σ : St) : Sim x (wR B a) 1 jV (R_forget σ) 0 [(0, .ref (a 0))] [] σ := by
  rw [R_forget]
  refine S_gets_FIRST C dX5_forget_0 ?_
  refine S_iconst C (0) dX5_forget_3 (by decide) ?_
  refine S_aload_n C 0 dX5_forget_4 rfl ?_
  refine S_get C (q := 0) (kf := 0) (show 0 < 7 by decide) rfl rfl rfl gX5 (by decide) fl_X5_11 rfl dX5_forget_5 ?_
  refine S_iconst C (0) dX5_forget_8 (by decide) ?_
  refine S_bipush C (8) dX5_forget_9 (by decide) ?_
  refine SG_cpyF (n8 := 1) (ci0 := bI B) C (show 1 < 7 by decide) (fun _ => rfl) rfl (by decide) (Nat.le_of_ble_eq_true rfl) dX5_forget_11 ?_
  refine S_bndS (fun σ1 _ => ?_)
  refine S_aload_n C 0 dX5_forget_14 rfl ?_
  refine S_get C (q := 0) (kf := 5) (show 0 < 7 by decide) rfl rfl rfl gX5 (by decide) fl_X5_27 rfl dX5_forget_15 ?_
  refine S_iconst C (-1) dX5_forget_18 (by decide) ?_
  refine KG_fill (q := 6) (ci0 := bI B) C (show 6 < 7 by decide) (fun _ => rfl) rfl ml_X5_42 (by decide) (Nat.le_of_ble_eq_true rfl) dX5_forget_19 (fun σ2 => ?_)
  refine S_aload_n C 0 dX5_forget_22 rfl ?_
  refine S_iconst C (0) dX5_forget_23 (by decide) ?_
  refine S_put C (q := 0) (kf := 6) (σ' := sI σ2 0 6 0) (show 0 < 7 by decide) rfl rfl rfl gX5 tyX5_ok nmX5 (by decide) rfl fl_X5_48 rfl rfl (Nat.le_of_ble_eq_true rfl) rfl cellAt_sI dX5_forget_24 ?_
  refine S_bndS (fun σ3 _ => ?_)
  refine S_aload_n C 0 dX5_forget_27 rfl ?_
  refine S_iconst C (0) dX5_forget_28 (by decide) ?_
  refine S_put C (q := 0) (kf := 7) (σ' := sI σ3 0 7 0) (show 0 < 7 by decide) rfl rfl rfl gX5 tyX5_ok nmX5 (by decide) rfl fl_X5_52 rfl rfl (Nat.le_of_ble_eq_true rfl) rfl cellAt_sI dX5_forget_29 ?_
  refine S_bndS (fun σ4 _ => ?_)
  exact S_vret C rfl dX5_forget_32
theorem conR_forget (B : ZB) (a : Nat → Nat) (l : Launch) (σ : St) : ∀ ro, R_forget σ = some ro → Con (wR B a) l yX5_forget cX5_forget 1 none 1 79 [.ref (a 0)] σ (jV ro) :=
  fun ro hk => Con_of hk (by decide) (Nat.le_of_ble_eq_true rfl) (fun x hx C => WR_forget C σ)
def σR : St := (fun _ _ => 0, fun _ _ => 0, fun _ _ => 0)
theorem R_forget_0 : ∃ τ, R_forget σR = some τ ∧ τ.1 1 = s0I 6 ∧ τ.1 6 = s0I 16 ∧ ∀ q, q ≠ 1 → q ≠ 6 → τ.1 q = fun _ => 0 := by
  rw [R_forget, bnd, c_fill 6 729 (-1) (by decide), Option.bind_some, bnd, bnd]
  refine ⟨_, rfl, funext fun j => ?_, funext fun j => ?_, fun q h1 h6 => funext fun j => ?_⟩
  · show gI _ 1 j = _
    rw [gI_sIn (by decide), gI_sIn (by decide), gI_sIfn (by decide), gI_sIf]
    unfold va_cpy s0I
    rw [if_pos (Or.inl rfl)]
    by_cases hj : j < 8
    · rw [if_pos ⟨Nat.zero_le _, by omega⟩, if_pos hj]
      congr 1
      omega
    · rw [if_neg (by omega), if_neg hj]
      rfl
  · show gI _ 6 j = _
    have e16 : s0I 16 j = if j < 729 then -1 else 0 := by
      unfold s0I
      rw [if_neg (by decide), if_pos (Or.inl rfl)]
    rw [e16, gI_sIn (by decide), gI_sIn (by decide), gI_sIf]
    by_cases hj : j < 729
    · rw [if_pos hj, if_pos hj]
    · rw [if_neg hj, if_neg hj, gI_sIfn (by decide)]
      rfl
  · show gI _ q j = 0
    rw [gI_sI]
    by_cases e7 : q = 0 ∧ j = 7
    · rw [if_pos e7]
    · rw [if_neg e7, gI_sI]
      by_cases e6 : q = 0 ∧ j = 6
      · rw [if_pos e6]
      · rw [if_neg e6, gI_sIfn h6, gI_sIfn h1]
        rfl
section Young
variable {x : MX} {B : ZB} {own : String} {cc : ByteArray} {nL h0 fr lo mc ms : Nat} {R : va_W → Prop} {cs ss pc : Nat} {lv : List (Nat × Value)} {st : List Value}
/-- the seven cells, newest first, with what the numbers and the costs hold -/
def youngR (B : ZB) (q1 q2 q3 q4 q5 q6 : Nat) (fn fk : Nat → Int32) : va_W := [(q6, .inl (bI B, 729, .inl fk)), (q5, .inl (bI B, 12, .inl (fun _ => 0))), (q4, .inl (bI B, 12, .inl (fun _ => 0))), (q3, .inl (bI B, 12, .inl (fun _ => 0))), (q2, .inl (bI B, 12, .inl (fun _ => 0))), (q1, .inl (bI B, 8, .inl fn))]
theorem I_forget (C : IOk x B RX5 cX5_init nL h0 fr lo mc ms) {q1 q2 q3 q4 q5 q6 : Nat} (hR : 1 + 1 ≤ fr ∧ 8 + (1 + 11) + 79 ≤ lo) (hcs : cs + 0 ≤ mc) (hss : ss + 0 ≤ ms) (hW : (st.map fun v => v.category).sum ≤ 8) (hd : decode cX5_init pc = .ok (.invokevirtual 30, 3))
    (h : ISim x B nL h0 mc ms R cs ss (pc + 3) lv st (.inr (4, [.ref q1, .ref q2, .ref q3, .ref q4, .ref q5, .ref q6, .int 0, .int 0])) (youngR B q1 q2 q3 q4 q5 q6 (s0I 6) (s0I 16))) : ISim x B nL h0 mc ms R cs ss pc lv (.ref h0 :: st) (.inr (4, [.ref q1, .ref q2, .ref q3, .ref q4, .ref q5, .ref q6, .int 0, .int 0])) (youngR B q1 q2 q3 q4 q5 q6 (fun _ => 0) (fun _ => 0)) := fun H locs ls hP hD hS hls => by
  obtain ⟨τ, t0, t1, t6, tz⟩ := R_forget_0
  obtain ⟨a, ha⟩ : ∃ a : Nat → Nat, a = fun j => [h0, q1, q2, q3, q4, q5, q6].getD j 0 := ⟨_, rfl⟩
  have eR := C.2.2.2.2.2.2.2.2.2.2.2.2
  have a0 : a 0 = h0 := by rw [ha]; rfl
  have a1 : a 1 = q1 := by rw [ha]; rfl
  have a2 : a 2 = q2 := by rw [ha]; rfl
  have a3 : a 3 = q3 := by rw [ha]; rfl
  have a4 : a 4 = q4 := by rw [ha]; rfl
  have a5 : a 5 = q5 := by rw [ha]; rfl
  have a6 : a 6 = q6 := by rw [ha]; rfl
  have e0 : wC (wR B a) σR = [(h0, .inr (4, [.ref q1, .ref q2, .ref q3, .ref q4, .ref q5, .ref q6, .int 0, .int 0])), (q1, .inl (bI B, 8, .inl (fun _ => 0))), (q2, .inl (bI B, 12, .inl (fun _ => 0))), (q3, .inl (bI B, 12, .inl (fun _ => 0))), (q4, .inl (bI B, 12, .inl (fun _ => 0))), (q5, .inl (bI B, 12, .inl (fun _ => 0))), (q6, .inl (bI B, 729, .inl (fun _ => 0)))] := by
    rw [ha]
    rfl
  have e1 : wC (wR B a) τ = [(h0, .inr (4, [.ref q1, .ref q2, .ref q3, .ref q4, .ref q5, .ref q6, .int 0, .int 0])), (q1, .inl (bI B, 8, .inl (s0I 6))), (q2, .inl (bI B, 12, .inl (fun _ => 0))), (q3, .inl (bI B, 12, .inl (fun _ => 0))), (q4, .inl (bI B, 12, .inl (fun _ => 0))), (q5, .inl (bI B, 12, .inl (fun _ => 0))), (q6, .inl (bI B, 729, .inl (s0I 16)))] := by
    rw [show wC (wR B a) τ = [(a 0, .inr (4, [.ref (a 1), .ref (a 2), .ref (a 3), .ref (a 4), .ref (a 5), .ref (a 6), .int (τ.1 0 6), .int (τ.1 0 7)])), (a 1, .inl (bI B, 8, .inl (τ.1 1))), (a 2, .inl (bI B, 12, .inl (τ.1 2))), (a 3, .inl (bI B, 12, .inl (τ.1 3))), (a 4, .inl (bI B, 12, .inl (τ.1 4))), (a 5, .inl (bI B, 12, .inl (τ.1 5))), (a 6, .inl (bI B, 729, .inl (τ.1 6)))] from rfl, t1, t6, tz 0 (by decide) (by decide), tz 2 (by decide) (by decide), tz 3 (by decide) (by decide), tz 4 (by decide) (by decide), tz 5 (by decide) (by decide), a0, a1, a2, a3, a4, a5, a6]
  have hperm : ∀ {X c1 c2 c3 c4 c5 c6 : Nat × va_E}, List.Perm [X, c6, c5, c4, c3, c2, c1] [X, c1, c2, c3, c4, c5, c6] := fun {X c1 c2 c3 c4 c5 c6} => (show List.Perm [c6, c5, c4, c3, c2, c1] [c1, c2, c3, c4, c5, c6] from (List.reverse_perm [c1, c2, c3, c4, c5, c6])).cons X
  have hP0 : va_P (bD B) vwCl (wC (wR B a) σR) H := by
    rw [e0]
    exact P_iff.mpr fun c hc => P_iff.mp hP c (hperm.mem_iff.mpr hc)
  have hD0 : va_D (cA h0 (mS x).heap.size) (wC (wR B a) σR) := by
    rw [e0]
    obtain ⟨d1, d2⟩ := D_iff.mp hD
    exact D_iff.mpr ⟨(hperm.map (fun c => c.1)).nodup_iff.mp d1, fun c hc => d2 c (hperm.mem_iff.mpr hc)⟩
  have hI : wInj (wR B a) := fun i j hi hj he => hD0.1 i j (a i, cellAt (wSh (wR B a)) σR i) (a j, cellAt (wSh (wR B a)) σR j) (cells_at hi) (cells_at hj) he
  have hAA : ∀ q, wA (wR B a) q → cA h0 (mS x).heap.size q := fun q hq => by
    obtain ⟨i, hi, rfl⟩ := hq
    exact hD0.2 i (a i, cellAt (wSh (wR B a)) σR i) (cells_at hi)
  have hAB : ∀ q, wA (wR B a) q → (bH B).size ≤ q := fun q hq => by
    rcases hAA q hq with e | e
    · rw [e]; exact C.2.2.2.2.2.2.2.2.2.2.2.1
    · exact Nat.le_trans C.2.2.2.2.2.2.2.2.2.2.1.1 e
  have hE := C.2.2.2.2.2.2.2.2.2.1.1 (wR B a) rfl rfl rfl rfl hAB
  have hr := va_runV (p := mP x) (l := mL x) (e := mE x) (R := mR x) (s := mS x) (m := mM x) (args := mA x) (below := mB x) (meth := mH x) (c := mC x) (locs := locs) (cells := cs) (slots := ss) (H := H) (g := F0 (mM x) pc ls (.ref h0 :: st)) (As := []) (rest := st) (b := h0) (C := yX5_forget.cls) (n := 0) (nL := nL) (own := RX5) (index := 30) (cc := cX5_init) ⟨C.1, C.2.1, C.2.2.1, C.2.2.2.1, C.2.2.2.2.1⟩ (a0 ▸ conR_forget B a (mL x) σR τ t0) ⟨callB_of 0 C.2.2.2.2.1 (tbl_in mw_X5_forget.1) rfl rfl rfl (C.2.2.2.2.1 _ mw_X5_forget.2.1) (C.2.2.2.2.1 _ ml_X5_30) mw_X5_forget.2.2 (by rw [eR]; exact hR), C.2.2.2.2.1 _ mv_X5_forget.1, C.2.2.2.2.1 _ mv_X5_forget.2⟩ ⟨pc_blind, va_recv C.2.2.2.2.2.2.2.2.1 hP (ci := 4) (q0 := 0) (q := (RX5, TX5, 8)) rfl rfl, fun U hU hW => ⟨rfl, by rw [hU]; exact hP0, va_K.moved hW.alike C.2.2.2.2.2.2.2.2.1, hI, by
      rw [hU]
      exact (wE.warm hW hE).kept (fun q h1 _ => (I_HB C hS).2 q h1)⟩⟩ rfl rfl hls.1 rfl (lv_room hW) hd ⟨by rw [eR]; exact hcs, by rw [eR]; exact hss⟩
  intro T hT X
  obtain ⟨v, st₀, t, T', L, h0', X', hL, f1, f2, ⟨⟨hv, hp⟩, hz, hk⟩, stp⟩ := hr T hT X
  cases hv
  rw [h0'] at hz hk
  have hp1 : va_P (bD B) vwCl (wC (wR B a) τ) T'.heap := by rw [f1]; exact hp
  rw [e1] at hp1
  have hPn : va_P (bD B) vwCl ((h0, .inr (4, [.ref q1, .ref q2, .ref q3, .ref q4, .ref q5, .ref q6, .int 0, .int 0])) :: youngR B q1 q2 q3 q4 q5 q6 (s0I 6) (s0I 16)) T'.heap := P_iff.mpr fun c hc => P_iff.mp hp1 c (hperm.mem_iff.mp hc)
  have hDn : va_D (cA h0 (mS x).heap.size) ((h0, .inr (4, [.ref q1, .ref q2, .ref q3, .ref q4, .ref q5, .ref q6, .int 0, .int 0])) :: youngR B q1 q2 q3 q4 q5 q6 (s0I 6) (s0I 16)) := by
    obtain ⟨d1, d2⟩ := D_iff.mp hD
    refine D_iff.mpr ⟨d1, fun c hc => ?_⟩
    have hm : c.1 ∈ (((h0, .inr (4, [.ref q1, .ref q2, .ref q3, .ref q4, .ref q5, .ref q6, .int 0, .int 0])) :: youngR B q1 q2 q3 q4 q5 q6 (fun _ => 0) (fun _ => 0)) : va_W).map (fun c => c.1) := (List.mem_map_of_mem (f := fun c : Nat × va_E => c.1) hc : c.1 ∈ (((h0, .inr (4, [.ref q1, .ref q2, .ref q3, .ref q4, .ref q5, .ref q6, .int 0, .int 0])) :: youngR B q1 q2 q3 q4 q5 q6 (s0I 6) (s0I 16)) : va_W).map (fun c => c.1))
    obtain ⟨c', hc', he⟩ := List.mem_map.mp hm
    rw [← he]
    exact d2 c' hc'
  obtain ⟨t2, g1, g2⟩ := h T'.heap (locs ++ L) ls hPn hDn ⟨Nat.le_trans hS.1 (by rw [f1]; exact hz), fun q h1 h2 => by rw [f1, hk q (Nat.lt_of_lt_of_le h1 hS.1) (fun hh => h2 (hAA q hh))]; exact hS.2.1 q h1 h2, fun q hq => by
      rcases List.mem_append.mp hq with hh | hh
      · exact hS.2.2 q hh
      · exact hAA _ (hL q hh)⟩ hls T' rfl X'
  exact ⟨t2, stp t2 g1, g2⟩
end Young
