/-! rows written by hand: the recursion of Covering.suffices, the copy of AT_FIRST, the String constants -/
section HandRows
variable {x : MX} {w : WX} {z : ZT} {own : String} {cc : ByteArray} {nL : Nat} {ret : Option FieldType} {fr lo : Nat} {ρ : Type} {inj : ρ → Option Value × St} {k : Option ρ} {pc : Nat} {lv : List (Nat × Value)} {st : List Value} {σ : St}
theorem K_rec_X1_suffices {rc : Int32 → Int32 → Int32 → Option Int32} {fr1 lo1 index : Nat} {a b c : Int32} {K : Int32 → Option ρ} (C : Cok x (wxC z) RX1 cc nL ret fr lo)
    (hrc : ∀ (x1 x2 x3 : Int32) (r : Int32), rc x1 x2 x3 = some r → Con (wxC z) (mL x) yX1_suffices cX1_suffices 7 (some .boolean) fr1 lo1 [.ref (aC z 20), .int x1, .int x2, .int x3] σ (jI σ r)) (hR : fr1 + 1 ≤ fr ∧ 8 + (7 + 11) + lo1 ≤ lo)
    (hl : Cond.methodLink RX1 index yX1_suffices ∈ gtb) (hW : (st.map fun v => v.category).sum ≤ 8) (hd : decode cc pc = .ok (.invokestatic index, 3)) (h : ∀ v, Sim x (wxC z) nL inj (K v) (pc + 3) lv (.int v :: st) σ) :
    Sim x (wxC z) nL inj ((rc a b c).bind K) pc lv (.int c :: .int b :: .int a :: .ref (aC z 20) :: st) σ :=
  S_callS C (As := [.ref (aC z 20), .int a, .int b, .int c]) (inj1 := jI σ) mw_X1_suffices ms_X1_suffices hl (fun r hr => hrc a b c r hr) hR rfl rfl hW hd h
theorem S_tyret {ty : FieldType} (C : Cok x w own cc nL (some ty) fr lo) {r : ρ} {a : Int32} (hn : narrow ty (.int a) = .int a) (hi : inj r = (some (.int a), σ)) (hd : decode cc pc = .ok (.ireturn, 1)) : Sim x w nL inj (some r) pc lv [.int a] σ := fun H locs ls r1 hk hP hS hl => by
  cases hk
  exact W.zret C.1 C.2.1 C.2.2.2.2.2.1 hn (fun t ht hW => ⟨⟨by rw [hi], by rw [hi, ht]; exact hP⟩, hS.F ht⟩) hS.2.2 hd C.2.2.2.2.2.2.1
theorem S_i2c (C : Cok x w own cc nL ret fr lo) {a : Int32} (hd : decode cc pc = .ok (.i2c, 1)) (h : Sim x w nL inj k (pc + 1) lv (.int ((a.toUInt32 % 65536).toInt32) :: st) σ) : Sim x w nL inj k pc lv (.int a :: st) σ :=
  fun H locs ls r hk hP hS hl => lv_i2c C.1 C.2.1 hd rfl (h H locs ls r hk hP hS hl)
theorem S_gets_FIRST (C : Cok x w RX5 cc nL ret fr lo) (hd : decode cc pc = .ok (.getstatic 33, 3)) (h : Sim x w nL inj k (pc + 3) lv (.ref (wS1 w) :: st) σ) : Sim x w nL inj k pc lv st σ :=
  fun H locs ls r hk hP hS hl => va_gets C.1 C.2.1 C.2.2.2.2.2.2.2.2.2.1.1 hS C.2.2.2.1 (C.2.2.2.2.1 (.fieldLink "FamilyNames$Rules" 33 "FamilyNames$Rules" "AT_FIRST" "[I") (gtb_at 95 (by decide +kernel) rfl)) (fun _ z => z) hd (h H locs ls r hk hP hS hl)
theorem S_gets_COMP (C : Cok x w RJ0 cc nL ret fr lo) (hd : decode cc pc = .ok (.getstatic 38, 3)) (h : Sim x w nL inj k (pc + 3) lv (.int 1 :: st) σ) : Sim x w nL inj k pc lv st σ :=
  fun H locs ls r hk hP hS hl => va_gets C.1 C.2.1 C.2.2.2.2.2.2.2.2.2.1.2.2.2.2.1 hS C.2.2.2.1 (C.2.2.2.2.1 (.fieldLink "java/lang/String" 38 "java/lang/String" "COMPACT_STRINGS" "Z") (gtb_at 515 (by decide +kernel) rfl)) (fun _ z => z) hd (h H locs ls r hk hP hS hl)
theorem S_gets_FMT (C : Cok x w RJ0 cc nL ret fr lo) (hd : decode cc pc = .ok (.getstatic 1053, 3)) (h : ∀ v : Value, (v = .null ∨ ∃ t, v = .ref t) → Sim x w nL inj k (pc + 3) lv (v :: st) σ) : Sim x w nL inj k pc lv st σ :=
  fun H locs ls r hk hP hS hl => by
    rcases C.2.2.2.2.2.2.2.2.2.1.2.2.2.2.2.1 with hz | ⟨t, hz⟩
    · exact va_gets C.1 C.2.1 hz hS C.2.2.2.1 (C.2.2.2.2.1 (.fieldLink "java/lang/String" 1053 "jdk/internal/util/Preconditions" "SIOOBE_FORMATTER" "Ljava/util/function/BiFunction;") (gtb_at 531 (by decide +kernel) rfl)) (fun _ z => z) hd (h .null (Or.inl rfl) H locs ls r hk hP hS hl)
    · exact va_gets C.1 C.2.1 hz hS C.2.2.2.1 (C.2.2.2.2.1 (.fieldLink "java/lang/String" 1053 "jdk/internal/util/Preconditions" "SIOOBE_FORMATTER" "Ljava/util/function/BiFunction;") (gtb_at 531 (by decide +kernel) rfl)) (fun _ z => z) hd (h (.ref t) (Or.inr ⟨t, rfl⟩) H locs ls r hk hP hS hl)
theorem S_strV (C : Cok x w RJ0 cc nL ret fr lo) {j : Nat} (hj : j < 8) (hd : decode cc pc = .ok (.getfield 9, 3)) (h : Sim x w nL inj k (pc + 3) lv (.ref (wVs w j) :: st) σ) : Sim x w nL inj k pc lv (.ref (wKs w j) :: st) σ :=
  fun H locs ls r hk hP hS hl => vk_getf C.1 C.2.1 (C.2.2.2.2.2.2.2.2.2.1.2.2.2.2.2.2.1.1 j hj).2.2.1 hS C.2.2.2.1 (C.2.2.2.2.1 (.fieldLink "java/lang/String" 9 "java/lang/String" "value" "[B") (gtb_at 1570 (by decide +kernel) rfl)) (fun _ z => z) hd (h H locs ls r hk hP hS hl)
theorem S_strC (C : Cok x w RJ0 cc nL ret fr lo) {j : Nat} (hj : j < 8) (hd : decode cc pc = .ok (.getfield 15, 3)) (h : Sim x w nL inj k (pc + 3) lv (.int 0 :: st) σ) : Sim x w nL inj k pc lv (.ref (wKs w j) :: st) σ :=
  fun H locs ls r hk hP hS hl => vk_getf C.1 C.2.1 (C.2.2.2.2.2.2.2.2.2.1.2.2.2.2.2.2.1.1 j hj).2.1 hS C.2.2.2.1 (C.2.2.2.2.1 (.fieldLink "java/lang/String" 15 "java/lang/String" "coder" "B") (gtb_at 1571 (by decide +kernel) rfl)) (fun _ z => z) hd (h H locs ls r hk hP hS hl)
theorem S_strL (C : Cok x w own cc nL ret fr lo) {j : Nat} (hj : j < 8) (hd : decode cc pc = .ok (.arraylength, 1)) (h : Sim x w nL inj k (pc + 1) lv (.int (Int32.ofNat (kLen.getD j 0)) :: st) σ) : Sim x w nL inj k pc lv (.ref (wVs w j) :: st) σ :=
  fun H locs ls r hk hP hS hl => va_tlen C.1 C.2.1 (C.2.2.2.2.2.2.2.2.2.1.2.2.2.2.2.2.1.1 j hj).2.2.2 hS rfl hd (h H locs ls r hk hP hS hl)
theorem S_strB (C : Cok x w own cc nL ret fr lo) {j : Nat} {i : Int32} (hj : j < 8) (hd : decode cc pc = .ok (.baload, 1)) (h : vp_in i (kLen.getD j 0) → Sim x w nL inj k (pc + 1) lv (.int ((kByt.getD j []).getD i.toNatClampNeg 0) :: st) σ) : Sim x w nL inj (chk i (kLen.getD j 0) k) pc lv (.int i :: .ref (wVs w j) :: st) σ :=
  fun H locs ls r hk hP hS hl => va_tb C.1 C.2.1 (C.2.2.2.2.2.2.2.2.2.1.2.2.2.2.2.2.1.1 j hj).2.2.2 hS (chk_some hk).1 rfl hd (h (chk_some hk).1 H locs ls r (chk_some hk).2 hP hS hl)
theorem S_ldcs (C : Cok x w RX8 cc nL ret fr lo) (j : Nat) (hj : j < 8) (hd : decode cc pc = .ok (.ldc (kIdx j), 2)) (h : Sim x w nL inj k (pc + 2) lv (.ref (wKs w j) :: st) σ) : Sim x w nL inj k pc lv st σ :=
  fun H locs ls r hk hP hS hl => va_ldcS C.1 C.2.1 C.2.2.2.1 (C.2.2.2.2.2.2.2.2.2.1.2.2.2.2.2.2.2.1 j hj) hd (h H locs ls r hk hP hS hl)
theorem S_callStr (C : Cok x w own cc nL ret fr lo) {ρ1 : Type} {f : Option ρ1} {K : ρ1 → Option ρ} {inj1 : ρ1 → Option Value × St} {y : MethodName} {bytes : ByteArray} {maxL fr1 lo1 n index j : Nat} {rt : Option FieldType} {As st0 : List Value} (hj : j < 8) (hy : y.cls = "java/lang/String")
    (hm : mwI y bytes maxL rt n) (hv : mwV y) (hl : Cond.methodLink own index y ∈ gtb) (hcon : ∀ r, f = some r → Con w (mL x) y bytes maxL rt fr1 lo1 (.ref (wKs w j) :: As) σ (inj1 r)) (hR : fr1 + 1 ≤ fr ∧ 8 + (maxL + 11) + lo1 ≤ lo) (hn : As.length = n)
    (hst : st0 = As.reverse ++ .ref (wKs w j) :: st) (hW : (st.map fun v => v.category).sum ≤ 8) (hd : decode cc pc = .ok (.invokevirtual index, 3))
    (h : ∀ r, Sim x w nL inj (K r) (pc + 3) lv ((inj1 r).1.toList ++ st) (inj1 r).2) : Sim x w nL inj (f.bind K) pc lv st0 σ := by
  intro H locs ls r hkk hP hS hls
  obtain ⟨r1, hf, hK⟩ := Option.bind_eq_some_iff.mp hkk
  subst hst
  refine S_back (f := (σ, none)) (o := inj1 r1) (av := (Value.ref (wKs w j) :: As).toArray) (va_runV (As := As) (rest := st) (b := wKs w j) (C := y.cls) (n := n) (nL := nL) ⟨C.1, C.2.1, C.2.2.1, C.2.2.2.1, C.2.2.2.2.1⟩ (hcon r1 hf) ⟨callB C hm hl hR, C.2.2.2.2.1 _ hv.1, C.2.2.2.2.1 _ hv.2⟩ ⟨pc_blind, by rw [hy]; exact vk_recv C.2.2.2.2.2.2.2.2.2.1.2.2.2.2.2.2.1 hj hS, pc_pre C hP hS⟩ rfl hn hls.1 rfl (lv_room hW) hd (cs0 C)) hS hls hK (h r1)
end HandRows
theorem gI_sIfs (σ : St) (q : Nat) (f : Nat → Int32) : gI (sIf σ q f) q = f := by funext a; simp [gI, sIf]
section Copy
variable {x : MX} {z : ZT} {cc : ByteArray} {nL : Nat} {ret : Option FieldType} {fr lo : Nat} {ρ : Type} {inj : ρ → Option Value × St} {k : Option ρ} {pc : Nat} {lv : List (Nat × Value)} {st : List Value} {σ : St}
/-- System.arraycopy of all of AT_FIRST into the numbers of the rules r -/
theorem S_cpyF (C : Cok x (wxC z) RX5 cc nL ret fr lo) {r : Nat} (hr : r < 2) (hR : 1 ≤ fr ∧ 8 + (nativeFrameWords "java/lang/System" "arraycopy" 5 + 11) ≤ lo) (hW : (st.map fun v => v.category).sum ≤ 8) (hd : decode cc pc = .ok (.invokestatic 36, 3))
    (h : Sim x (wxC z) nL inj k (pc + 3) lv st (sIf σ (6 + r) (va_cpy tFirst (gI σ (6 + r)) 0 0 8))) : Sim x (wxC z) nL inj k pc lv (.int 8 :: .int 0 :: .ref (aC z (6 + r)) :: .int 0 :: .ref (wS1 (wxC z)) :: st) σ := by
  intro H locs ls q hk hP hS hl T hT X
  have hE := C.2.2.2.2.2.2.2.2.2.1.2.1
  have hD := wC_D C.2.2.2.2.2.2.2.2.1 σ
  have hat : (wC (wxC z) σ)[6 + r]? = some (aC z (6 + r), .inl (z.2.1, 8, .inl (gI σ (6 + r)))) := wC_at (w := wxC z) (show 6 + r < 59 by omega) rfl (ca_X5_numbers z hr σ)
  obtain ⟨scr, e1, ⟨e2, k0, hk0, cm0, hkk0⟩, e3, e4, -, e5, e6⟩ := hE
  have hc0 : H[wS1 (wxC z)]? = some scr := by rw [hS.2.1 _ (Array.getElem?_eq_some_iff.mp e1).1 e6]; exact e1
  have hc1 : H[aC z (6 + r)]? = some (vp_cell z.2.1 (8, .inl (gI σ (6 + r)))) := hP (6 + r) _ hat
  obtain ⟨-, k1, hk1, cm1, hkk1⟩ := (C.2.2.2.2.2.2.2.1.2 0 _ rfl).1 8 (fun j => .int (gI σ (6 + r) j))
  have hfr : 1 ≤ (mR x).frames := by rw [C.2.2.2.2.2.2.2.2.2.2]; exact hR.1
  have hlo : (st.map fun v => v.category).sum + (nativeFrameWords "java/lang/System" "arraycopy" 5 + 11) ≤ (mR x).locals := by
    rw [C.2.2.2.2.2.2.2.2.2.2]; show _ ≤ lo; omega
  obtain ⟨vm', X', step⟩ := X.arraycopy C.1 C.2.2.2.1 (C.2.2.2.2.1 (.methodLink "FamilyNames$Rules" 36 arraycopyName) (gtb_at 97 (by decide +kernel) rfl)) (C.2.2.2.2.1 (.native arraycopyName) (gtb_at 99 (by decide +kernel) rfl)) (C.2.2.2.2.1 (.static arraycopyName) (gtb_at 98 (by decide +kernel) rfl)) (C.2.2.2.2.1 (.initialized "java/lang/System") (gtb_at 5 (by decide +kernel) rfl))
    (src := wS1 (wxC z)) (dst := aC z (6 + r)) (cs := scr) (cd := vp_cell z.2.1 (8, .inl (gI σ (6 + r)))) (srcPos := 0) (destPos := 0) (n := 8) (by rw [hT]; exact hc0) (by rw [hT]; exact hc1)
    e2 (fun _ q => by cases q) e3 (fun q => by cases q) hk0 hk1 hkk0 hkk1 (by simp [refKind]) (by decide) (by decide) (by decide)
    (by show ¬ ((0 : Int32).toInt + (8 : Int32).toInt > (scr.slots.size : Int)); simp; omega)
    (by show ¬ ((0 : Int32).toInt + (8 : Int32).toInt > ((arrV z.2.1 8 (fun j => .int (gI σ (6 + r) j))).slots.size : Int)); rw [arrV_size]; decide)
    (fun vm₁ _ i hi => by
      have hi8 : i < 8 := hi
      have e : scr.slots.getD ((0 : Int32).toNatClampNeg + i) .null = .int (tFirst i) := by
        rw [Array.getD_eq_getD_getElem?, show (0 : Int32).toNatClampNeg + i = i by simp, e5 _ hi8]; rfl
      exact ⟨by rw [e]; rfl, by rw [e]; exact trivial⟩)
    (g := F0 (mM x) pc ls (.int 8 :: .int 0 :: .ref (aC z (6 + r)) :: .int 0 :: .ref (wS1 (wxC z)) :: st)) rfl (by rw [C.2.2.1]; exact hl.1) (rest := st) rfl (by rw [C.2.1]; exact hd) hfr (by show 2 * 0 + _ + _ ≤ _; omega)
  have ec : copied scr (vp_cell z.2.1 (8, .inl (gI σ (6 + r)))) 0 0 8 = vp_cell z.2.1 (8, .inl (va_cpy tFirst (gI σ (6 + r)) 0 0 8)) := va_copiedX (fun v => .int v) scr z.2.1 tFirst (gI σ (6 + r)) e5 (Nat.le_refl 8)
  rw [ec] at X' step
  have hlt : aC z (6 + r) < H.size := (Array.getElem?_eq_some_iff.mp hc1).1
  have oq : ∀ p : Nat, p ≠ aC z (6 + r) → (H.setIfInBounds (aC z (6 + r)) (vp_cell z.2.1 (8, .inl (va_cpy tFirst (gI σ (6 + r)) 0 0 8))))[p]? = H[p]? := fun p hp => by simp [Array.getElem?_setIfInBounds, Ne.symm hp]
  have hP1 := hP.set (e := .inl (z.2.1, 8, .inl (va_cpy tFirst (gI σ (6 + r)) 0 0 8))) hD hat (show (H.setIfInBounds (aC z (6 + r)) (vp_cell z.2.1 (8, .inl (va_cpy tFirst (gI σ (6 + r)) 0 0 8))))[aC z (6 + r)]? = some _ by simp [Array.getElem?_setIfInBounds, hlt]) oq
  have es : (wC (wxC z) σ).set (6 + r) (aC z (6 + r), .inl (z.2.1, 8, .inl (va_cpy tFirst (gI σ (6 + r)) 0 0 8))) = wC (wxC z) (sIf σ (6 + r) (va_cpy tFirst (gI σ (6 + r)) 0 0 8)) :=
    cells_set (ad := aC z) (by rw [show cellAt (wSh (wxC z)) (sIf σ (6 + r) (va_cpy tFirst (gI σ (6 + r)) 0 0 8)) (6 + r) = _ from ca_X5_numbers z hr _, gI_sIfs]) cellAt_sIf
  rw [es] at hP1
  obtain ⟨t, a1, b1⟩ := h _ _ ls q hk hP1 ⟨by simp; exact hS.1, fun p g1 g2 => by
      rw [oq p (fun e => g2 ⟨6 + r, by show 6 + r < 59; omega, e⟩)]
      exact hS.2.1 p g1 g2, fun p hp => by
      rcases List.mem_append.mp hp with hh | hh
      · exact hS.2.2 p hh
      · obtain ⟨y, -, hy⟩ := List.mem_map.mp hh
        rw [← hy]
        exact ⟨6 + r, by show 6 + r < 59; omega, rfl⟩⟩ hl _ (show ((T.setVm vm').setCell (aC z (6 + r)) _).heap = _ by rw [← hT]; rfl) X'
  exact ⟨t, step t a1, b1⟩
end Copy
