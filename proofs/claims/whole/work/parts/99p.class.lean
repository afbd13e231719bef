/-! the class: all its cells made -/
section IRows2
variable {x : MX} {B : ZB} {own : String} {cc : ByteArray} {nL h0 fr lo mc ms : Nat} {R : va_W → Prop} {cs ss pc : Nat} {lv : List (Nat × Value)} {st : List Value} {o : va_E} {as : va_W}
theorem I_aast (C : IOk x B own cc nL h0 fr lo mc ms) (k0 kv : Nat) {q v n : Nat} {f : Nat → Option Nat} {vs : List Value} {i : Int32} (ha : as[k0]? = some (q, .inl (bS B, n, .inr (.inr (.inr (.inr f)))))) (hv : as[kv]? = some (v, .inr (5, vs))) (hi : vp_in i n) (hd : decode cc pc = .ok (.aastore, 1))
    (h : ISim x B nL h0 mc ms R cs ss (pc + 1) lv st o (as.set k0 (q, .inl (bS B, n, .inr (.inr (.inr (.inr (va_up f i.toNatClampNeg (some v))))))))) : ISim x B nL h0 mc ms R cs ss pc lv (.ref v :: .int i :: .ref q :: st) o as := fun H locs ls hP hD hS hls =>
  va_astq (r := (RX6, TX6, 3)) C.1 C.2.1 C.2.2.2.2.2.2.2.2.1 hP hD hS (k0 + 1) 3 (kv + 1) 5 ha rfl hv rfl hi hd (fun H1 locs1 hP1 hD1 hS1 => h H1 locs1 ls hP1 hD1 hS1 hls)
theorem I_alen (C : IOk x B own cc nL h0 fr lo mc ms) (k0 : Nat) {q n : Nat} {f : Nat → Option Nat} {v : Int32} (ha : as[k0]? = some (q, .inl (bS B, n, .inr (.inr (.inr (.inr f)))))) (hv : Int32.ofNat n = v) (hd : decode cc pc = .ok (.arraylength, 1))
    (h : ISim x B nL h0 mc ms R cs ss (pc + 1) lv (.int v :: st) o as) : ISim x B nL h0 mc ms R cs ss pc lv (.ref q :: st) o as := fun H locs ls hP hD hS hls =>
  va_alen (x := (n, .inr (.inr (.inr (.inr f))))) C.1 C.2.1 C.2.2.2.2.2.2.2.2.1 hP (k0 + 1) 3 ha rfl hv hd (h H locs ls hP hD hS hls)
theorem I_callN (C : IOk x B RX10 cc nL h0 fr lo mc ms) {fr1 lo1 ci q : Nat} {fs : List Value} {R1 : va_W → Prop} (hcon : ∀ sz, IC B (mL x) yX2_init cX2_init 1 fr1 lo1 0 0 ci fs q sz [.ref q] R1) (hq : (bH B).size ≤ q)
    (hR : fr1 + 1 ≤ fr ∧ 8 + (1 + 11) + lo1 ≤ lo) (hcs : cs + 0 ≤ mc) (hss : ss + 0 ≤ ms) (hW : (st.map fun v => v.category).sum ≤ 8) (hd : decode cc pc = .ok (.invokespecial 71, 3))
    (h : ∀ u, R1 u → ISim x B nL h0 mc ms R (cs + 0) (ss + 0) (pc + 3) lv st o (u ++ as)) : ISim x B nL h0 mc ms R cs ss pc lv (.ref q :: st) o ((q, .inr (ci, fs)) :: as) := fun H locs ls hP hD hS hls => by
  have eR := C.2.2.2.2.2.2.2.2.2.2.2.2
  refine I_back C hP hD hS hls (va_runIN (As := []) (rest := st) (b := q) (n := 0) (nL := nL) ⟨C.1, C.2.1, C.2.2.1, C.2.2.2.1, C.2.2.2.2.1⟩ (hcon H.size) ⟨va_cnB 0 C.2.2.2.2.1 (tbl_in mw_X2_init.1) rfl rfl rfl C.2.2.2.2.2.2.2.2.2.1.2.1 (C.2.2.2.2.1 _ mw_X2_init.2.1) mw_X2_init.2.2 (by rw [eR]; exact hR), rfl, C.2.2.2.2.1 _ mi_X2_init⟩ ⟨I_blind, I_pre C hP hS hq⟩ rfl rfl hls.1 rfl (lv_room hW) hd (by rw [eR]; exact ⟨hcs, hss⟩)) h
end IRows2
abbrev ztB (B : ZB) (a : Nat → Nat) : ZT := (bD B, bI B, bJ B, bY B, bS B, a, B.2.2.2.2.2.2.1, B.2.2.2.2.2.2.2.1, B.2.2.2.2.2.2.2.2.1, B.2.2.2.2.2.2.2.2.2)
theorem s0_z (q : Nat) (h : (q != 6 && q != 7 && q != 16 && q != 17 && !(Nat.ble 51 q && Nat.ble q 54)) = true) : s0I q = fun _ => 0 := by
  funext j
  simp only [Bool.and_eq_true, bne_iff_ne, Bool.not_eq_true', Bool.and_eq_false_iff] at h
  have h5 : ¬ ((51 ≤ q ∧ q ≤ 54) ∧ j = 2) := by
    rintro ⟨⟨a1, a2⟩, -⟩
    rcases h.2 with e | e
    · rw [Nat.ble_eq_true_of_le a1] at e; cases e
    · rw [Nat.ble_eq_true_of_le a2] at e; cases e
  exact s0_0 h.1.1.1.1 h.1.1.1.2 h.1.1.2 h.1.2 h5
def pm10 : List Nat := [0, 54, 58, 53, 57, 52, 56, 51, 55, 50, 49, 46, 48, 47, 34, 45, 44, 43, 42, 41, 40, 39, 38, 37, 36, 35, 27, 33, 32, 31, 30, 29, 28, 18, 26, 25, 21, 20, 24, 22, 23, 19, 5, 17, 15, 13, 11, 9, 7, 4, 16, 14, 12, 10, 8, 6, 3, 1, 2]
def ce10 (B : ZB) (a : Nat → Nat) (f : Nat → Option Nat) (q : Nat) : va_E := bif Nat.beq q 50 then .inl (bS B, 4, .inr (.inr (.inr (.inr f)))) else cellAt (shC (ztB B a)) σ0 q
def cr_X10 (B : ZB) (h0 : Nat) (u : va_W) : Prop := ∃ (a : Nat → Nat) (f : Nat → Option Nat), a 0 = h0 ∧ (∀ j, j < 4 → f j = some (a (51 + j))) ∧ u = pm10.map (fun q => (a q, ce10 B a f q))
theorem s0_7 : s0I 7 = s0I 6 := rfl
theorem s0_17 : s0I 17 = s0I 16 := rfl
set_option maxRecDepth 20000 in
theorem cr_X10_of {B : ZB} {h0 : Nat} (q1 q2 q3 q4 q11 q5 q12 q6 q13 q7 q14 q8 q15 q9 q16 q10 q17 q18 q19 q23 q24 q21 q20 q22 q25 q26 q27 q28 q29 q30 q31 q32 q33 q34 q35 q36 q37 q38 q39 q40 q41 q42 q43 q44 q45 q46 q47 q48 q49 q50 q51 q53 q55 q57 q52 q54 q56 q58 : Nat) : cr_X10 B h0 [(h0, .inr (9, [.ref q1, .ref q3, .ref q18, .ref q27, .ref q34, .ref q46, .ref q49, .ref q50, .ref q4, .ref q11, .int 0, .int 0, .int 0])), (q57, .inr (5, [.ref q58, .int 0, .int (-4)])), (q58, .inl (bI B, 64, .inl (fun _ => 0))), (q55, .inr (5, [.ref q56, .int 0, .int (-4)])), (q56, .inl (bI B, 64, .inl (fun _ => 0))), (q53, .inr (5, [.ref q54, .int 0, .int (-4)])), (q54, .inl (bI B, 64, .inl (fun _ => 0))), (q51, .inr (5, [.ref q52, .int 0, .int (-4)])), (q52, .inl (bI B, 64, .inl (fun _ => 0))), (q50, .inl (bS B, 4, .inr (.inr (.inr (.inr (va_up (va_up (va_up (va_up (fun _ => none) 0 (some q51)) 1 (some q53)) 2 (some q55)) 3 (some q57))))))), (q49, .inr (1, [.long 0, .long 0])), (q46, .inr (3, [.ref q34, .ref q27, .ref q47, .ref q48, .int 0, .int 0, .int 0])), (q48, .inl (bI B, 8, .inl (fun _ => 0))), (q47, .inl (bI B, 8, .inl (fun _ => 0))), (q34, .inr (2, [.ref q18, .ref q27, .ref q35, .ref q36, .ref q37, .ref q38, .ref q39, .ref q40, .ref q41, .ref q42, .int 0, .ref q43, .ref q44, .ref q45, .int 0])), (q45, .inl (bI B, 60, .inl (fun _ => 0))), (q44, .inl (bI B, 60, .inl (fun _ => 0))), (q43, .inl (bI B, 60, .inl (fun _ => 0))), (q42, .inl (bI B, 40, .inl (fun _ => 0))), (q41, .inl (bI B, 40, .inl (fun _ => 0))), (q40, .inl (bI B, 40, .inl (fun _ => 0))), (q39, .inl (bI B, 40, .inl (fun _ => 0))), (q38, .inl (bI B, 40, .inl (fun _ => 0))), (q37, .inl (bI B, 40, .inl (fun _ => 0))), (q36, .inl (bI B, 40, .inl (fun _ => 0))), (q35, .inl (bI B, 40, .inl (fun _ => 0))), (q27, .inr (0, [.ref q28, .ref q29, .int 0, .ref q30, .ref q31, .ref q32, .ref q33, .int 0])), (q33, .inl (bJ B, 8, .inr (.inl (fun _ => 0)))), (q32, .inl (bI B, 8, .inl (fun _ => 0))), (q31, .inl (bI B, 8, .inl (fun _ => 0))), (q30, .inl (bI B, 8, .inl (fun _ => 0))), (q29, .inl (bI B, 8, .inl (fun _ => 0))), (q28, .inl (bI B, 8, .inl (fun _ => 0))), (q18, .inr (8, [.ref q19, .int 0, .ref q23, .ref q24, .ref q21, .ref q4, .ref q20, .ref q22, .ref q25, .ref q26])), (q26, .inl (bI B, 21, .inl (fun _ => 0))), (q25, .inl (bI B, 16, .inl (fun _ => 0))), (q24, .inl (bI B, 16, .inl (fun _ => 0))), (q23, .inl (bI B, 16, .inl (fun _ => 0))), (q22, .inl (bI B, 256, .inl (fun _ => 0))), (q21, .inl (bI B, 16, .inl (fun _ => 0))), (q20, .inl (bI B, 320, .inl (fun _ => 0))), (q19, .inl (bJ B, 16, .inr (.inl (fun _ => 0)))), (q11, .inr (4, [.ref q12, .ref q13, .ref q14, .ref q15, .ref q16, .ref q17, .int 0, .int 0])), (q17, .inl (bI B, 729, .inl (s0I 16))), (q16, .inl (bI B, 12, .inl (fun _ => 0))), (q15, .inl (bI B, 12, .inl (fun _ => 0))), (q14, .inl (bI B, 12, .inl (fun _ => 0))), (q13, .inl (bI B, 12, .inl (fun _ => 0))), (q12, .inl (bI B, 8, .inl (s0I 6))), (q4, .inr (4, [.ref q5, .ref q6, .ref q7, .ref q8, .ref q9, .ref q10, .int 0, .int 0])), (q10, .inl (bI B, 729, .inl (s0I 16))), (q9, .inl (bI B, 12, .inl (fun _ => 0))), (q8, .inl (bI B, 12, .inl (fun _ => 0))), (q7, .inl (bI B, 12, .inl (fun _ => 0))), (q6, .inl (bI B, 12, .inl (fun _ => 0))), (q5, .inl (bI B, 8, .inl (s0I 6))), (q3, .inr (7, [.ref q1, .null, .int 0, .int 0, .int 0, .int 0, .int 0, .int 0, .int 0, .int 0])), (q1, .inr (6, [.ref q2, .int 0])), (q2, .inl (bY B, 200, .inl (fun _ => 0)))] := by
  refine ⟨fun j => [h0, q1, q2, q3, q4, q11, q5, q12, q6, q13, q7, q14, q8, q15, q9, q16, q10, q17, q18, q19, q23, q24, q21, q20, q22, q25, q26, q27, q28, q29, q30, q31, q32, q33, q34, q35, q36, q37, q38, q39, q40, q41, q42, q43, q44, q45, q46, q47, q48, q49, q50, q51, q53, q55, q57, q52, q54, q56, q58].getD j 0, (va_up (va_up (va_up (va_up (fun _ => none) 0 (some q51)) 1 (some q53)) 2 (some q55)) 3 (some q57)), rfl, by
    intro j hj
    match j, hj with
    | 0, _ => rfl
    | 1, _ => rfl
    | 2, _ => rfl
    | 3, _ => rfl, ?_⟩
  generalize (va_up (va_up (va_up (va_up (fun _ => none) 0 (some q51)) 1 (some q53)) 2 (some q55)) 3 (some q57)) = f0
  refine Eq.trans ?_ (show ([(h0, .inr (9, [.ref q1, .ref q3, .ref q18, .ref q27, .ref q34, .ref q46, .ref q49, .ref q50, .ref q4, .ref q11, .int 0, .int 0, .int 0])), (q57, .inr (5, [.ref q58, .int 0, .int (-4)])), (q58, .inl (bI B, 64, .inl (s0I 58))), (q55, .inr (5, [.ref q56, .int 0, .int (-4)])), (q56, .inl (bI B, 64, .inl (s0I 57))), (q53, .inr (5, [.ref q54, .int 0, .int (-4)])), (q54, .inl (bI B, 64, .inl (s0I 56))), (q51, .inr (5, [.ref q52, .int 0, .int (-4)])), (q52, .inl (bI B, 64, .inl (s0I 55))), (q50, .inl (bS B, 4, .inr (.inr (.inr (.inr f0))))), (q49, .inr (1, [.long 0, .long 0])), (q46, .inr (3, [.ref q34, .ref q27, .ref q47, .ref q48, .int 0, .int 0, .int 0])), (q48, .inl (bI B, 8, .inl (s0I 48))), (q47, .inl (bI B, 8, .inl (s0I 47))), (q34, .inr (2, [.ref q18, .ref q27, .ref q35, .ref q36, .ref q37, .ref q38, .ref q39, .ref q40, .ref q41, .ref q42, .int 0, .ref q43, .ref q44, .ref q45, .int 0])), (q45, .inl (bI B, 60, .inl (s0I 45))), (q44, .inl (bI B, 60, .inl (s0I 44))), (q43, .inl (bI B, 60, .inl (s0I 43))), (q42, .inl (bI B, 40, .inl (s0I 42))), (q41, .inl (bI B, 40, .inl (s0I 41))), (q40, .inl (bI B, 40, .inl (s0I 40))), (q39, .inl (bI B, 40, .inl (s0I 39))), (q38, .inl (bI B, 40, .inl (s0I 38))), (q37, .inl (bI B, 40, .inl (s0I 37))), (q36, .inl (bI B, 40, .inl (s0I 36))), (q35, .inl (bI B, 40, .inl (s0I 35))), (q27, .inr (0, [.ref q28, .ref q29, .int 0, .ref q30, .ref q31, .ref q32, .ref q33, .int 0])), (q33, .inl (bJ B, 8, .inr (.inl (fun _ => 0)))), (q32, .inl (bI B, 8, .inl (s0I 32))), (q31, .inl (bI B, 8, .inl (s0I 31))), (q30, .inl (bI B, 8, .inl (s0I 30))), (q29, .inl (bI B, 8, .inl (s0I 29))), (q28, .inl (bI B, 8, .inl (s0I 28))), (q18, .inr (8, [.ref q19, .int 0, .ref q23, .ref q24, .ref q21, .ref q4, .ref q20, .ref q22, .ref q25, .ref q26])), (q26, .inl (bI B, 21, .inl (s0I 26))), (q25, .inl (bI B, 16, .inl (s0I 25))), (q24, .inl (bI B, 16, .inl (s0I 21))), (q23, .inl (bI B, 16, .inl (s0I 20))), (q22, .inl (bI B, 256, .inl (s0I 24))), (q21, .inl (bI B, 16, .inl (s0I 22))), (q20, .inl (bI B, 320, .inl (s0I 23))), (q19, .inl (bJ B, 16, .inr (.inl (fun _ => 0)))), (q11, .inr (4, [.ref q12, .ref q13, .ref q14, .ref q15, .ref q16, .ref q17, .int 0, .int 0])), (q17, .inl (bI B, 729, .inl (s0I 16))), (q16, .inl (bI B, 12, .inl (s0I 15))), (q15, .inl (bI B, 12, .inl (s0I 13))), (q14, .inl (bI B, 12, .inl (s0I 11))), (q13, .inl (bI B, 12, .inl (s0I 9))), (q12, .inl (bI B, 8, .inl (s0I 6))), (q4, .inr (4, [.ref q5, .ref q6, .ref q7, .ref q8, .ref q9, .ref q10, .int 0, .int 0])), (q10, .inl (bI B, 729, .inl (s0I 16))), (q9, .inl (bI B, 12, .inl (s0I 14))), (q8, .inl (bI B, 12, .inl (s0I 12))), (q7, .inl (bI B, 12, .inl (s0I 10))), (q6, .inl (bI B, 12, .inl (s0I 8))), (q5, .inl (bI B, 8, .inl (s0I 6))), (q3, .inr (7, [.ref q1, .null, .int 0, .int 0, .int 0, .int 0, .int 0, .int 0, .int 0, .int 0])), (q1, .inr (6, [.ref q2, .int 0])), (q2, .inl (bY B, 200, .inl (s0I 2)))] : va_W) = _ from rfl)
  rw [s0_z 58 rfl, s0_z 57 rfl, s0_z 56 rfl, s0_z 55 rfl, s0_z 48 rfl, s0_z 47 rfl, s0_z 45 rfl, s0_z 44 rfl, s0_z 43 rfl, s0_z 42 rfl, s0_z 41 rfl, s0_z 40 rfl, s0_z 39 rfl, s0_z 38 rfl, s0_z 37 rfl, s0_z 36 rfl, s0_z 35 rfl, s0_z 32 rfl, s0_z 31 rfl, s0_z 30 rfl, s0_z 29 rfl, s0_z 28 rfl, s0_z 26 rfl, s0_z 25 rfl, s0_z 21 rfl, s0_z 20 rfl, s0_z 24 rfl, s0_z 22 rfl, s0_z 23 rfl, s0_z 15 rfl, s0_z 13 rfl, s0_z 11 rfl, s0_z 9 rfl, s0_z 14 rfl, s0_z 12 rfl, s0_z 10 rfl, s0_z 8 rfl, s0_z 2 rfl]
set_option maxRecDepth 20000 in
theorem wi_X10 {x : MX} {B : ZB} {h0 : Nat} (C : IOk x B RX10 cX10_init 2 h0 3 119 58 3353) : ISim x B 2 h0 58 3353 (cr_X10 B h0) 0 0 0 [(0, .ref h0)] [] (.inr (9, fls 13 (fun j => defaultValue (tyX10 j)))) [] := by
  refine I_aload_n C 0 dX10_init_0 rfl ?_
  refine I_obj C oi_X10 dX10_init_1 ⟨by decide, (Nat.le_of_ble_eq_true rfl)⟩ ?_
  refine I_aload_n C 0 dX10_init_4 rfl ?_
  refine I_new C tyX7 gX7 tyX7_ok cl_X10_7 is_X7 ini_X7 (ci := 6) rfl ⟨(Nat.le_of_ble_eq_true rfl), (Nat.le_of_ble_eq_true rfl)⟩ dX10_init_5 (fun q1 hq1 => ?_)
  refine I_dup C dX10_init_8 rfl ?_
  refine I_call C (As := []) (st := [.ref q1, .ref h0]) mw_X7_init mi_X7_init ml_X10_9 rfl (fun sz => ic_X7 sz) hq1 (by decide) rfl ⟨(Nat.le_of_ble_eq_true rfl), (Nat.le_of_ble_eq_true rfl)⟩ rfl (Nat.le_of_ble_eq_true rfl) dX10_init_9 (fun u hu => ?_)
  obtain ⟨q2, rfl⟩ := hu
  refine I_put C 0 tyX10 gX10 tyX10_ok nmX10 rfl (by decide) fl_X10_10 rfl rfl rfl dX10_init_12 ?_
  refine I_aload_n C 0 dX10_init_15 rfl ?_
  refine I_new C tyX8 gX8 tyX8_ok cl_X10_16 is_X8 ini_X8 (ci := 7) rfl ⟨(Nat.le_of_ble_eq_true rfl), (Nat.le_of_ble_eq_true rfl)⟩ dX10_init_16 (fun q3 hq3 => ?_)
  refine I_dup C dX10_init_19 rfl ?_
  refine I_aload_n C 0 dX10_init_20 rfl ?_
  refine I_get C 0 (.ref q1) gX10 rfl (by decide) fl_X10_10 rfl dX10_init_21 ?_
  refine I_call C (As := [.ref q1]) (st := [.ref q3, .ref h0]) mw_X8_init mi_X8_init ml_X10_18 rfl (fun sz => ic_X8 sz) hq3 (by decide) rfl ⟨(Nat.le_of_ble_eq_true rfl), (Nat.le_of_ble_eq_true rfl)⟩ rfl (Nat.le_of_ble_eq_true rfl) dX10_init_24 (fun u hu => ?_)
  unfold cr_X8 at hu
  subst hu
  refine I_put C 1 tyX10 gX10 tyX10_ok nmX10 rfl (by decide) fl_X10_21 rfl rfl rfl dX10_init_27 ?_
  refine I_aload_n C 0 dX10_init_30 rfl ?_
  refine I_new C tyX5 gX5 tyX5_ok cl_X10_25 is_X5 ini_X5 (ci := 4) rfl ⟨(Nat.le_of_ble_eq_true rfl), (Nat.le_of_ble_eq_true rfl)⟩ dX10_init_31 (fun q4 hq4 => ?_)
  refine I_dup C dX10_init_34 rfl ?_
  refine I_call C (As := []) (st := [.ref q4, .ref h0]) mw_X5_init mi_X5_init ml_X10_27 rfl (fun sz => ic_X5 sz) hq4 (by decide) rfl ⟨(Nat.le_of_ble_eq_true rfl), (Nat.le_of_ble_eq_true rfl)⟩ rfl (Nat.le_of_ble_eq_true rfl) dX10_init_35 (fun u hu => ?_)
  obtain ⟨q5, q6, q7, q8, q9, q10, rfl⟩ := hu
  refine I_put C 8 tyX10 gX10 tyX10_ok nmX10 rfl (by decide) fl_X10_28 rfl rfl rfl dX10_init_38 ?_
  refine I_aload_n C 0 dX10_init_41 rfl ?_
  refine I_new C tyX5 gX5 tyX5_ok cl_X10_25 is_X5 ini_X5 (ci := 4) rfl ⟨(Nat.le_of_ble_eq_true rfl), (Nat.le_of_ble_eq_true rfl)⟩ dX10_init_42 (fun q11 hq11 => ?_)
  refine I_dup C dX10_init_45 rfl ?_
  refine I_call C (As := []) (st := [.ref q11, .ref h0]) mw_X5_init mi_X5_init ml_X10_27 rfl (fun sz => ic_X5 sz) hq11 (by decide) rfl ⟨(Nat.le_of_ble_eq_true rfl), (Nat.le_of_ble_eq_true rfl)⟩ rfl (Nat.le_of_ble_eq_true rfl) dX10_init_46 (fun u hu => ?_)
  obtain ⟨q12, q13, q14, q15, q16, q17, rfl⟩ := hu
  refine I_put C 9 tyX10 gX10 tyX10_ok nmX10 rfl (by decide) fl_X10_32 rfl rfl rfl dX10_init_49 ?_
  refine I_aload_n C 0 dX10_init_52 rfl ?_
  refine I_new C tyX9 gX9 tyX9_ok cl_X10_35 is_X9 ini_X9 (ci := 8) rfl ⟨(Nat.le_of_ble_eq_true rfl), (Nat.le_of_ble_eq_true rfl)⟩ dX10_init_53 (fun q18 hq18 => ?_)
  refine I_dup C dX10_init_56 rfl ?_
  refine I_aload_n C 0 dX10_init_57 rfl ?_
  refine I_get C 8 (.ref q4) gX10 rfl (by decide) fl_X10_28 rfl dX10_init_58 ?_
  refine I_call C (As := [.ref q4]) (st := [.ref q18, .ref h0]) mw_X9_init mi_X9_init ml_X10_37 rfl (fun sz => ic_X9 sz) hq18 (by decide) rfl ⟨(Nat.le_of_ble_eq_true rfl), (Nat.le_of_ble_eq_true rfl)⟩ rfl (Nat.le_of_ble_eq_true rfl) dX10_init_61 (fun u hu => ?_)
  obtain ⟨q19, q20, q21, q22, q23, q24, q25, q26, rfl⟩ := hu
  refine I_put C 2 tyX10 gX10 tyX10_ok nmX10 rfl (by decide) fl_X10_40 rfl rfl rfl dX10_init_64 ?_
  refine I_aload_n C 0 dX10_init_67 rfl ?_
  refine I_new C tyX0 gX0 tyX0_ok cl_X10_44 is_X0 ini_X0 (ci := 0) rfl ⟨(Nat.le_of_ble_eq_true rfl), (Nat.le_of_ble_eq_true rfl)⟩ dX10_init_68 (fun q27 hq27 => ?_)
  refine I_dup C dX10_init_71 rfl ?_
  refine I_call C (As := []) (st := [.ref q27, .ref h0]) mw_X0_init mi_X0_init ml_X10_46 rfl (fun sz => ic_X0 sz) hq27 (by decide) rfl ⟨(Nat.le_of_ble_eq_true rfl), (Nat.le_of_ble_eq_true rfl)⟩ rfl (Nat.le_of_ble_eq_true rfl) dX10_init_72 (fun u hu => ?_)
  obtain ⟨q28, q29, q30, q31, q32, q33, rfl⟩ := hu
  refine I_put C 3 tyX10 gX10 tyX10_ok nmX10 rfl (by decide) fl_X10_47 rfl rfl rfl dX10_init_75 ?_
  refine I_aload_n C 0 dX10_init_78 rfl ?_
  refine I_new C tyX3 gX3 tyX3_ok cl_X10_51 is_X3 ini_X3 (ci := 2) rfl ⟨(Nat.le_of_ble_eq_true rfl), (Nat.le_of_ble_eq_true rfl)⟩ dX10_init_79 (fun q34 hq34 => ?_)
  refine I_dup C dX10_init_82 rfl ?_
  refine I_aload_n C 0 dX10_init_83 rfl ?_
  refine I_get C 2 (.ref q18) gX10 rfl (by decide) fl_X10_40 rfl dX10_init_84 ?_
  refine I_aload_n C 0 dX10_init_87 rfl ?_
  refine I_get C 3 (.ref q27) gX10 rfl (by decide) fl_X10_47 rfl dX10_init_88 ?_
  refine I_call C (As := [.ref q18, .ref q27]) (st := [.ref q34, .ref h0]) mw_X3_init mi_X3_init ml_X10_53 rfl (fun sz => ic_X3 sz) hq34 (by decide) rfl ⟨(Nat.le_of_ble_eq_true rfl), (Nat.le_of_ble_eq_true rfl)⟩ rfl (Nat.le_of_ble_eq_true rfl) dX10_init_91 (fun u hu => ?_)
  obtain ⟨q35, q36, q37, q38, q39, q40, q41, q42, q43, q44, q45, rfl⟩ := hu
  refine I_put C 4 tyX10 gX10 tyX10_ok nmX10 rfl (by decide) fl_X10_56 rfl rfl rfl dX10_init_94 ?_
  refine I_aload_n C 0 dX10_init_97 rfl ?_
  refine I_new C tyX4 gX4 tyX4_ok cl_X10_60 is_X4 ini_X4 (ci := 3) rfl ⟨(Nat.le_of_ble_eq_true rfl), (Nat.le_of_ble_eq_true rfl)⟩ dX10_init_98 (fun q46 hq46 => ?_)
  refine I_dup C dX10_init_101 rfl ?_
  refine I_aload_n C 0 dX10_init_102 rfl ?_
  refine I_get C 4 (.ref q34) gX10 rfl (by decide) fl_X10_56 rfl dX10_init_103 ?_
  refine I_aload_n C 0 dX10_init_106 rfl ?_
  refine I_get C 3 (.ref q27) gX10 rfl (by decide) fl_X10_47 rfl dX10_init_107 ?_
  refine I_call C (As := [.ref q34, .ref q27]) (st := [.ref q46, .ref h0]) mw_X4_init mi_X4_init ml_X10_62 rfl (fun sz => ic_X4 sz) hq46 (by decide) rfl ⟨(Nat.le_of_ble_eq_true rfl), (Nat.le_of_ble_eq_true rfl)⟩ rfl (Nat.le_of_ble_eq_true rfl) dX10_init_110 (fun u hu => ?_)
  obtain ⟨q47, q48, rfl⟩ := hu
  refine I_put C 5 tyX10 gX10 tyX10_ok nmX10 rfl (by decide) fl_X10_65 rfl rfl rfl dX10_init_113 ?_
  refine I_aload_n C 0 dX10_init_116 rfl ?_
  refine I_new C tyX2 gX2 tyX2_ok cl_X10_69 is_X2 ini_X2 (ci := 1) rfl ⟨(Nat.le_of_ble_eq_true rfl), (Nat.le_of_ble_eq_true rfl)⟩ dX10_init_117 (fun q49 hq49 => ?_)
  refine I_dup C dX10_init_120 rfl ?_
  refine I_callN C (fun sz => ic_X2 sz) hq49 (by decide) (Nat.le_of_ble_eq_true rfl) (Nat.le_of_ble_eq_true rfl) (st := [.ref q49, .ref h0]) (Nat.le_of_ble_eq_true rfl) dX10_init_121 (fun u hu => ?_)
  unfold cr_X2 at hu
  subst hu
  refine I_put C 6 tyX10 gX10 tyX10_ok nmX10 rfl (by decide) fl_X10_72 rfl rfl rfl dX10_init_124 ?_
  refine I_aload_n C 0 dX10_init_127 rfl ?_
  refine I_iconst C (4) dX10_init_128 (by decide) ?_
  refine I_newS C 4 cl_X10_76 (by decide) (by decide) (by decide) ⟨(Nat.le_of_ble_eq_true rfl), (Nat.le_of_ble_eq_true rfl)⟩ dX10_init_129 (fun q50 => ?_)
  refine I_put C 7 tyX10 gX10 tyX10_ok nmX10 rfl (by decide) fl_X10_78 rfl rfl rfl dX10_init_132 ?_
  refine I_iconst C (0) dX10_init_135 (by decide) ?_
  refine I_istore_n C [(1, .int 0), (0, .ref h0)] (i := 1) dX10_init_136 rfl (by decide) rfl ?_
  refine I_iload_n C 0 dX10_init_137 rfl ?_
  refine I_aload_n C 1 dX10_init_138 rfl ?_
  refine I_get C 7 (.ref q50) gX10 rfl (by decide) fl_X10_78 rfl dX10_init_139 ?_
  refine I_alen C 0 (v := 4) rfl (by decide) dX10_init_142 ?_
  refine I_icmp_ge C 165 dX10_init_143 (by decide) (fun hc => absurd hc (by decide)) (fun _ => ?_)
  refine I_aload_n C 1 dX10_init_146 rfl ?_
  refine I_get C 7 (.ref q50) gX10 rfl (by decide) fl_X10_78 rfl dX10_init_147 ?_
  refine I_iload_n C 0 dX10_init_150 rfl ?_
  refine I_new C tyX6 gX6 tyX6_ok cl_X10_76 is_X6 ini_X6 (ci := 5) rfl ⟨(Nat.le_of_ble_eq_true rfl), (Nat.le_of_ble_eq_true rfl)⟩ dX10_init_151 (fun q51 hq51 => ?_)
  refine I_dup C dX10_init_154 rfl ?_
  refine I_call C (As := []) (st := [.ref q51, .int 0, .ref q50]) mw_X6_init mi_X6_init ml_X10_82 rfl (fun sz => ic_X6 sz) hq51 (by decide) rfl ⟨(Nat.le_of_ble_eq_true rfl), (Nat.le_of_ble_eq_true rfl)⟩ rfl (Nat.le_of_ble_eq_true rfl) dX10_init_155 (fun u hu => ?_)
  obtain ⟨q52, rfl⟩ := hu
  refine I_aast C 2 0 rfl rfl (by unfold vp_in; decide) dX10_init_158 ?_
  refine I_iinc C 0 [(1, .int 1), (0, .ref h0)] 1 dX10_init_159 rfl (by decide) (by decide) rfl ?_
  refine I_goto C 137 dX10_init_162 (by decide) ?_
  refine I_iload_n C 0 dX10_init_137 rfl ?_
  refine I_aload_n C 1 dX10_init_138 rfl ?_
  refine I_get C 7 (.ref q50) gX10 rfl (by decide) fl_X10_78 rfl dX10_init_139 ?_
  refine I_alen C 2 (v := 4) rfl (by decide) dX10_init_142 ?_
  refine I_icmp_ge C 165 dX10_init_143 (by decide) (fun hc => absurd hc (by decide)) (fun _ => ?_)
  refine I_aload_n C 1 dX10_init_146 rfl ?_
  refine I_get C 7 (.ref q50) gX10 rfl (by decide) fl_X10_78 rfl dX10_init_147 ?_
  refine I_iload_n C 0 dX10_init_150 rfl ?_
  refine I_new C tyX6 gX6 tyX6_ok cl_X10_76 is_X6 ini_X6 (ci := 5) rfl ⟨(Nat.le_of_ble_eq_true rfl), (Nat.le_of_ble_eq_true rfl)⟩ dX10_init_151 (fun q53 hq53 => ?_)
  refine I_dup C dX10_init_154 rfl ?_
  refine I_call C (As := []) (st := [.ref q53, .int 1, .ref q50]) mw_X6_init mi_X6_init ml_X10_82 rfl (fun sz => ic_X6 sz) hq53 (by decide) rfl ⟨(Nat.le_of_ble_eq_true rfl), (Nat.le_of_ble_eq_true rfl)⟩ rfl (Nat.le_of_ble_eq_true rfl) dX10_init_155 (fun u hu => ?_)
  obtain ⟨q54, rfl⟩ := hu
  refine I_aast C 4 0 rfl rfl (by unfold vp_in; decide) dX10_init_158 ?_
  refine I_iinc C 0 [(1, .int 2), (0, .ref h0)] 2 dX10_init_159 rfl (by decide) (by decide) rfl ?_
  refine I_goto C 137 dX10_init_162 (by decide) ?_
  refine I_iload_n C 0 dX10_init_137 rfl ?_
  refine I_aload_n C 1 dX10_init_138 rfl ?_
  refine I_get C 7 (.ref q50) gX10 rfl (by decide) fl_X10_78 rfl dX10_init_139 ?_
  refine I_alen C 4 (v := 4) rfl (by decide) dX10_init_142 ?_
  refine I_icmp_ge C 165 dX10_init_143 (by decide) (fun hc => absurd hc (by decide)) (fun _ => ?_)
  refine I_aload_n C 1 dX10_init_146 rfl ?_
  refine I_get C 7 (.ref q50) gX10 rfl (by decide) fl_X10_78 rfl dX10_init_147 ?_
  refine I_iload_n C 0 dX10_init_150 rfl ?_
  refine I_new C tyX6 gX6 tyX6_ok cl_X10_76 is_X6 ini_X6 (ci := 5) rfl ⟨(Nat.le_of_ble_eq_true rfl), (Nat.le_of_ble_eq_true rfl)⟩ dX10_init_151 (fun q55 hq55 => ?_)
  refine I_dup C dX10_init_154 rfl ?_
  refine I_call C (As := []) (st := [.ref q55, .int 2, .ref q50]) mw_X6_init mi_X6_init ml_X10_82 rfl (fun sz => ic_X6 sz) hq55 (by decide) rfl ⟨(Nat.le_of_ble_eq_true rfl), (Nat.le_of_ble_eq_true rfl)⟩ rfl (Nat.le_of_ble_eq_true rfl) dX10_init_155 (fun u hu => ?_)
  obtain ⟨q56, rfl⟩ := hu
  refine I_aast C 6 0 rfl rfl (by unfold vp_in; decide) dX10_init_158 ?_
  refine I_iinc C 0 [(1, .int 3), (0, .ref h0)] 3 dX10_init_159 rfl (by decide) (by decide) rfl ?_
  refine I_goto C 137 dX10_init_162 (by decide) ?_
  refine I_iload_n C 0 dX10_init_137 rfl ?_
  refine I_aload_n C 1 dX10_init_138 rfl ?_
  refine I_get C 7 (.ref q50) gX10 rfl (by decide) fl_X10_78 rfl dX10_init_139 ?_
  refine I_alen C 6 (v := 4) rfl (by decide) dX10_init_142 ?_
  refine I_icmp_ge C 165 dX10_init_143 (by decide) (fun hc => absurd hc (by decide)) (fun _ => ?_)
  refine I_aload_n C 1 dX10_init_146 rfl ?_
  refine I_get C 7 (.ref q50) gX10 rfl (by decide) fl_X10_78 rfl dX10_init_147 ?_
  refine I_iload_n C 0 dX10_init_150 rfl ?_
  refine I_new C tyX6 gX6 tyX6_ok cl_X10_76 is_X6 ini_X6 (ci := 5) rfl ⟨(Nat.le_of_ble_eq_true rfl), (Nat.le_of_ble_eq_true rfl)⟩ dX10_init_151 (fun q57 hq57 => ?_)
  refine I_dup C dX10_init_154 rfl ?_
  refine I_call C (As := []) (st := [.ref q57, .int 3, .ref q50]) mw_X6_init mi_X6_init ml_X10_82 rfl (fun sz => ic_X6 sz) hq57 (by decide) rfl ⟨(Nat.le_of_ble_eq_true rfl), (Nat.le_of_ble_eq_true rfl)⟩ rfl (Nat.le_of_ble_eq_true rfl) dX10_init_155 (fun u hu => ?_)
  obtain ⟨q58, rfl⟩ := hu
  refine I_aast C 8 0 rfl rfl (by unfold vp_in; decide) dX10_init_158 ?_
  refine I_iinc C 0 [(1, .int 4), (0, .ref h0)] 4 dX10_init_159 rfl (by decide) (by decide) rfl ?_
  refine I_goto C 137 dX10_init_162 (by decide) ?_
  refine I_iload_n C 0 dX10_init_137 rfl ?_
  refine I_aload_n C 1 dX10_init_138 rfl ?_
  refine I_get C 7 (.ref q50) gX10 rfl (by decide) fl_X10_78 rfl dX10_init_139 ?_
  refine I_alen C 8 (v := 4) rfl (by decide) dX10_init_142 ?_
  refine I_icmp_ge C 165 dX10_init_143 (by decide) (fun _ => ?_) (fun hc => absurd (by decide) hc)
  exact I_vret C (cr_X10_of q1 q2 q3 q4 q11 q5 q12 q6 q13 q7 q14 q8 q15 q9 q16 q10 q17 q18 q19 q23 q24 q21 q20 q22 q25 q26 q27 q28 q29 q30 q31 q32 q33 q34 q35 q36 q37 q38 q39 q40 q41 q42 q43 q44 q45 q46 q47 q48 q49 q50 q51 q53 q55 q57 q52 q54 q56 q58) rfl rfl dX10_init_165
theorem ic_X10 {B : ZB} {l : Launch} {h0 : Nat} (sz : Nat) : IC B l yX10_init cX10_init 2 3 119 58 3353 9 (fls 13 (fun j => defaultValue (tyX10 j))) h0 sz [.ref h0] (cr_X10 B h0) :=
  IC_of (by decide) rfl (Nat.le_of_ble_eq_true rfl) (fun x hx C => wi_X10 C) sz
