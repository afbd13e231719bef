/-! the reference: all its cells made -/
theorem t0_z (q : Nat) (h : (q != 5 && q != 6 && q != 7 && q != 45) = true) : t0I q = fun _ => 0 := by
  funext j
  simp only [Bool.and_eq_true, bne_iff_ne] at h
  exact t0_0 h.1.1.1 h.1.1.2 h.1.2 h.2
theorem upd_ne {f : Nat → Int32} {k j : Nat} {v : Int32} (h : j ≠ k) : upd f k v j = f j := by unfold upd; rw [if_neg h]
theorem t0_big5 {j : Nat} (hj : ¬ j < 9) : t0I 5 j = 0 := by
  unfold t0I 
  rw [if_pos rfl, List.getD_eq_getElem?_getD, List.getElem?_eq_none (by simp only [List.length_cons, List.length_nil]; omega)]
  rfl
theorem t0_big6 {j : Nat} (hj : ¬ j < 33) : t0I 6 j = 0 := by
  unfold t0I 
  rw [if_neg (by decide), if_pos rfl, List.getD_eq_getElem?_getD, List.getElem?_eq_none (by simp only [List.length_cons, List.length_nil]; omega)]
  rfl
theorem t0_big7 {j : Nat} (hj : ¬ j < 8) : t0I 7 j = 0 := by
  unfold t0I nF
  rw [if_neg (by decide), if_neg (by decide), if_pos rfl, List.getD_eq_getElem?_getD, List.getElem?_eq_none (by simp only [List.length_cons, List.length_nil]; omega)]
  rfl
theorem t0_big45 {j : Nat} (hj : ¬ j < 4) : t0I 45 j = 0 := by
  unfold t0I
  rw [if_neg (by decide), if_neg (by decide), if_neg (by decide), if_pos rfl, if_neg hj]
set_option maxRecDepth 20000 in
theorem t0_5 : t0I 5 = (upd (upd (upd (upd (upd (upd (upd (upd (upd (fun _ => 0) 0 0) 1 3) 2 7) 3 11) 4 15) 5 20) 6 24) 7 29) 8 33) := by
  funext j
  by_cases hj : j < 9
  · exact (show ∀ j, j < 9 → t0I 5 j = (upd (upd (upd (upd (upd (upd (upd (upd (upd (fun _ => 0) 0 0) 1 3) 2 7) 3 11) 4 15) 5 20) 6 24) 7 29) 8 33) j by decide +kernel) j hj
  · rw [upd_ne (by omega), upd_ne (by omega), upd_ne (by omega), upd_ne (by omega), upd_ne (by omega), upd_ne (by omega), upd_ne (by omega), upd_ne (by omega), upd_ne (by omega)]
    exact t0_big5 hj
set_option maxRecDepth 20000 in
theorem t0_6 : t0I 6 = (upd (upd (upd (upd (upd (upd (upd (upd (upd (upd (upd (upd (upd (upd (upd (upd (upd (upd (upd (upd (upd (upd (upd (upd (upd (upd (upd (upd (upd (upd (upd (upd (upd (fun _ => 0) 0 115) 1 97) 2 121) 3 109) 4 117) 5 116) 6 101) 7 108) 8 105) 9 107) 10 101) 11 100) 12 114) 13 111) 14 112) 15 111) 16 116) 17 104) 18 101) 19 114) 20 106) 21 111) 22 105) 23 110) 24 109) 25 105) 26 108) 27 101) 28 115) 29 115) 30 111) 31 110) 32 115) := by
  funext j
  by_cases hj : j < 33
  · exact (show ∀ j, j < 33 → t0I 6 j = (upd (upd (upd (upd (upd (upd (upd (upd (upd (upd (upd (upd (upd (upd (upd (upd (upd (upd (upd (upd (upd (upd (upd (upd (upd (upd (upd (upd (upd (upd (upd (upd (upd (fun _ => 0) 0 115) 1 97) 2 121) 3 109) 4 117) 5 116) 6 101) 7 108) 8 105) 9 107) 10 101) 11 100) 12 114) 13 111) 14 112) 15 111) 16 116) 17 104) 18 101) 19 114) 20 106) 21 111) 22 105) 23 110) 24 109) 25 105) 26 108) 27 101) 28 115) 29 115) 30 111) 31 110) 32 115) j by decide +kernel) j hj
  · rw [upd_ne (by omega), upd_ne (by omega), upd_ne (by omega), upd_ne (by omega), upd_ne (by omega), upd_ne (by omega), upd_ne (by omega), upd_ne (by omega), upd_ne (by omega), upd_ne (by omega), upd_ne (by omega), upd_ne (by omega), upd_ne (by omega), upd_ne (by omega), upd_ne (by omega), upd_ne (by omega), upd_ne (by omega), upd_ne (by omega), upd_ne (by omega), upd_ne (by omega), upd_ne (by omega), upd_ne (by omega), upd_ne (by omega), upd_ne (by omega), upd_ne (by omega), upd_ne (by omega), upd_ne (by omega), upd_ne (by omega), upd_ne (by omega), upd_ne (by omega), upd_ne (by omega), upd_ne (by omega), upd_ne (by omega)]
    exact t0_big6 hj
set_option maxRecDepth 20000 in
theorem t0_7 : t0I 7 = (upd (upd (upd (upd (upd (upd (upd (upd (fun _ => 0) 0 3) 1 4) 2 4) 3 5) 4 1) 5 1) 6 1) 7 1) := by
  funext j
  by_cases hj : j < 8
  · exact (show ∀ j, j < 8 → t0I 7 j = (upd (upd (upd (upd (upd (upd (upd (upd (fun _ => 0) 0 3) 1 4) 2 4) 3 5) 4 1) 5 1) 6 1) 7 1) j by decide +kernel) j hj
  · rw [upd_ne (by omega), upd_ne (by omega), upd_ne (by omega), upd_ne (by omega), upd_ne (by omega), upd_ne (by omega), upd_ne (by omega), upd_ne (by omega)]
    exact t0_big7 hj
set_option maxRecDepth 20000 in
theorem t0_45 : t0I 45 = (upd (upd (upd (upd (fun _ => 0) 0 (-4)) 1 (-4)) 2 (-4)) 3 (-4)) := by
  funext j
  by_cases hj : j < 4
  · exact (show ∀ j, j < 4 → t0I 45 j = (upd (upd (upd (upd (fun _ => 0) 0 (-4)) 1 (-4)) 2 (-4)) 3 (-4)) j by decide +kernel) j hj
  · rw [upd_ne (by omega), upd_ne (by omega), upd_ne (by omega), upd_ne (by omega)]
    exact t0_big45 hj
def pm11 : List Nat := [0, 47, 46, 45, 44, 43, 42, 41, 40, 39, 38, 37, 36, 35, 34, 33, 32, 31, 30, 29, 28, 27, 26, 25, 24, 23, 22, 21, 20, 19, 18, 17, 16, 15, 14, 13, 12, 11, 10, 9, 8, 7, 6, 5, 4, 3, 2, 1]
def cr_X11 (B : ZB) (h0 : Nat) (u : va_W) : Prop := ∃ a : Nat → Nat, a 0 = h0 ∧ u = pm11.map (fun q => (a q, cellAt (shM (ztB B a)) τ0 q))
set_option maxRecDepth 20000 in
theorem cr_X11_of {B : ZB} {h0 : Nat} (q1 q2 q3 q4 q5 q6 q7 q8 q9 q10 q11 q12 q13 q14 q15 q16 q17 q18 q19 q20 q21 q22 q23 q24 q25 q26 q27 q28 q29 q30 q31 q32 q33 q34 q35 q36 q37 q38 q39 q40 q41 q42 q43 q44 q45 q46 q47 : Nat) : cr_X11 B h0 [(h0, .inr (10, [.int 0, .ref q1, .ref q2, .ref q3, .ref q4, .int 0, .int 0, .int 0, .int 0, .int 0, .int 0, .int 0, .int 0, .ref q5, .ref q6, .ref q7, .int 0, .ref q8, .ref q9, .int 0, .ref q10, .ref q11, .ref q12, .int 0, .ref q13, .int 0, .ref q14, .ref q15, .int 0, .ref q16, .ref q17, .ref q18, .int 0, .ref q19, .ref q20, .ref q21, .ref q22, .ref q23, .ref q24, .ref q25, .ref q26, .int 0, .ref q27, .ref q28, .int 0, .ref q29, .ref q30, .ref q31, .ref q32, .int 0, .ref q33, .ref q34, .ref q35, .ref q36, .ref q37, .ref q38, .ref q39, .ref q40, .int 0, .ref q41, .ref q42, .ref q43, .int 0, .ref q44, .ref q45, .ref q46, .ref q47, .int 0])), (q47, .inl (bI B, 256, .inl (fun _ => 0))), (q46, .inl (bI B, 4, .inl (fun _ => 0))), (q45, .inl (bI B, 4, .inl (upd (upd (upd (upd (fun _ => 0) 0 (-4)) 1 (-4)) 2 (-4)) 3 (-4)))), (q44, .inl (bI B, 8, .inl (fun _ => 0))), (q43, .inl (bI B, 60, .inl (fun _ => 0))), (q42, .inl (bI B, 60, .inl (fun _ => 0))), (q41, .inl (bI B, 60, .inl (fun _ => 0))), (q40, .inl (bI B, 40, .inl (fun _ => 0))), (q39, .inl (bI B, 40, .inl (fun _ => 0))), (q38, .inl (bI B, 40, .inl (fun _ => 0))), (q37, .inl (bI B, 40, .inl (fun _ => 0))), (q36, .inl (bI B, 40, .inl (fun _ => 0))), (q35, .inl (bI B, 40, .inl (fun _ => 0))), (q34, .inl (bI B, 40, .inl (fun _ => 0))), (q33, .inl (bI B, 40, .inl (fun _ => 0))), (q32, .inl (bJ B, 8, .inr (.inl (fun _ => 0)))), (q31, .inl (bI B, 8, .inl (fun _ => 0))), (q30, .inl (bI B, 8, .inl (fun _ => 0))), (q29, .inl (bI B, 8, .inl (fun _ => 0))), (q28, .inl (bI B, 8, .inl (fun _ => 0))), (q27, .inl (bI B, 8, .inl (fun _ => 0))), (q26, .inl (bI B, 16, .inl (fun _ => 0))), (q25, .inl (bI B, 16, .inl (fun _ => 0))), (q24, .inl (bI B, 16, .inl (fun _ => 0))), (q23, .inl (bI B, 441, .inl (fun _ => 0))), (q22, .inl (bI B, 16, .inl (fun _ => 0))), (q21, .inl (bI B, 256, .inl (fun _ => 0))), (q20, .inl (bI B, 320, .inl (fun _ => 0))), (q19, .inl (bI B, 16, .inl (fun _ => 0))), (q18, .inl (bI B, 40, .inl (fun _ => 0))), (q17, .inl (bI B, 40, .inl (fun _ => 0))), (q16, .inl (bI B, 40, .inl (fun _ => 0))), (q15, .inl (bI B, 24, .inl (fun _ => 0))), (q14, .inl (bI B, 36, .inl (fun _ => 0))), (q13, .inl (bI B, 8, .inl (fun _ => 0))), (q12, .inl (bI B, 40, .inl (fun _ => 0))), (q11, .inl (bI B, 40, .inl (fun _ => 0))), (q10, .inl (bI B, 40, .inl (fun _ => 0))), (q9, .inl (bI B, 24, .inl (fun _ => 0))), (q8, .inl (bI B, 36, .inl (fun _ => 0))), (q7, .inl (bI B, 8, .inl (upd (upd (upd (upd (upd (upd (upd (upd (fun _ => 0) 0 3) 1 4) 2 4) 3 5) 4 1) 5 1) 6 1) 7 1))), (q6, .inl (bI B, 33, .inl (upd (upd (upd (upd (upd (upd (upd (upd (upd (upd (upd (upd (upd (upd (upd (upd (upd (upd (upd (upd (upd (upd (upd (upd (upd (upd (upd (upd (upd (upd (upd (upd (upd (fun _ => 0) 0 115) 1 97) 2 121) 3 109) 4 117) 5 116) 6 101) 7 108) 8 105) 9 107) 10 101) 11 100) 12 114) 13 111) 14 112) 15 111) 16 116) 17 104) 18 101) 19 114) 20 106) 21 111) 22 105) 23 110) 24 109) 25 105) 26 108) 27 101) 28 115) 29 115) 30 111) 31 110) 32 115))), (q5, .inl (bI B, 9, .inl (upd (upd (upd (upd (upd (upd (upd (upd (upd (fun _ => 0) 0 0) 1 3) 2 7) 3 11) 4 15) 5 20) 6 24) 7 29) 8 33))), (q4, .inl (bI B, 200, .inl (fun _ => 0))), (q3, .inl (bI B, 10, .inl (fun _ => 0))), (q2, .inl (bI B, 160, .inl (fun _ => 0))), (q1, .inl (bI B, 16, .inl (fun _ => 0)))] := by
  refine ⟨fun j => [h0, q1, q2, q3, q4, q5, q6, q7, q8, q9, q10, q11, q12, q13, q14, q15, q16, q17, q18, q19, q20, q21, q22, q23, q24, q25, q26, q27, q28, q29, q30, q31, q32, q33, q34, q35, q36, q37, q38, q39, q40, q41, q42, q43, q44, q45, q46, q47].getD j 0, rfl, ?_⟩
  refine Eq.trans ?_ (show ([(h0, .inr (10, [.int 0, .ref q1, .ref q2, .ref q3, .ref q4, .int 0, .int 0, .int 0, .int 0, .int 0, .int 0, .int 0, .int 0, .ref q5, .ref q6, .ref q7, .int 0, .ref q8, .ref q9, .int 0, .ref q10, .ref q11, .ref q12, .int 0, .ref q13, .int 0, .ref q14, .ref q15, .int 0, .ref q16, .ref q17, .ref q18, .int 0, .ref q19, .ref q20, .ref q21, .ref q22, .ref q23, .ref q24, .ref q25, .ref q26, .int 0, .ref q27, .ref q28, .int 0, .ref q29, .ref q30, .ref q31, .ref q32, .int 0, .ref q33, .ref q34, .ref q35, .ref q36, .ref q37, .ref q38, .ref q39, .ref q40, .int 0, .ref q41, .ref q42, .ref q43, .int 0, .ref q44, .ref q45, .ref q46, .ref q47, .int 0])), (q47, .inl (bI B, 256, .inl (t0I 47))), (q46, .inl (bI B, 4, .inl (t0I 46))), (q45, .inl (bI B, 4, .inl (t0I 45))), (q44, .inl (bI B, 8, .inl (t0I 44))), (q43, .inl (bI B, 60, .inl (t0I 43))), (q42, .inl (bI B, 60, .inl (t0I 42))), (q41, .inl (bI B, 60, .inl (t0I 41))), (q40, .inl (bI B, 40, .inl (t0I 40))), (q39, .inl (bI B, 40, .inl (t0I 39))), (q38, .inl (bI B, 40, .inl (t0I 38))), (q37, .inl (bI B, 40, .inl (t0I 37))), (q36, .inl (bI B, 40, .inl (t0I 36))), (q35, .inl (bI B, 40, .inl (t0I 35))), (q34, .inl (bI B, 40, .inl (t0I 34))), (q33, .inl (bI B, 40, .inl (t0I 33))), (q32, .inl (bJ B, 8, .inr (.inl (fun _ => 0)))), (q31, .inl (bI B, 8, .inl (t0I 31))), (q30, .inl (bI B, 8, .inl (t0I 30))), (q29, .inl (bI B, 8, .inl (t0I 29))), (q28, .inl (bI B, 8, .inl (t0I 28))), (q27, .inl (bI B, 8, .inl (t0I 27))), (q26, .inl (bI B, 16, .inl (t0I 26))), (q25, .inl (bI B, 16, .inl (t0I 25))), (q24, .inl (bI B, 16, .inl (t0I 24))), (q23, .inl (bI B, 441, .inl (t0I 23))), (q22, .inl (bI B, 16, .inl (t0I 22))), (q21, .inl (bI B, 256, .inl (t0I 21))), (q20, .inl (bI B, 320, .inl (t0I 20))), (q19, .inl (bI B, 16, .inl (t0I 19))), (q18, .inl (bI B, 40, .inl (t0I 18))), (q17, .inl (bI B, 40, .inl (t0I 17))), (q16, .inl (bI B, 40, .inl (t0I 16))), (q15, .inl (bI B, 24, .inl (t0I 15))), (q14, .inl (bI B, 36, .inl (t0I 14))), (q13, .inl (bI B, 8, .inl (t0I 13))), (q12, .inl (bI B, 40, .inl (t0I 12))), (q11, .inl (bI B, 40, .inl (t0I 11))), (q10, .inl (bI B, 40, .inl (t0I 10))), (q9, .inl (bI B, 24, .inl (t0I 9))), (q8, .inl (bI B, 36, .inl (t0I 8))), (q7, .inl (bI B, 8, .inl (t0I 7))), (q6, .inl (bI B, 33, .inl (t0I 6))), (q5, .inl (bI B, 9, .inl (t0I 5))), (q4, .inl (bI B, 200, .inl (t0I 4))), (q3, .inl (bI B, 10, .inl (t0I 3))), (q2, .inl (bI B, 160, .inl (t0I 2))), (q1, .inl (bI B, 16, .inl (t0I 1)))] : va_W) = _ from rfl)
  rw [t0_5, t0_6, t0_7, t0_45, t0_z 47 rfl, t0_z 46 rfl, t0_z 44 rfl, t0_z 43 rfl, t0_z 42 rfl, t0_z 41 rfl, t0_z 40 rfl, t0_z 39 rfl, t0_z 38 rfl, t0_z 37 rfl, t0_z 36 rfl, t0_z 35 rfl, t0_z 34 rfl, t0_z 33 rfl, t0_z 31 rfl, t0_z 30 rfl, t0_z 29 rfl, t0_z 28 rfl, t0_z 27 rfl, t0_z 26 rfl, t0_z 25 rfl, t0_z 24 rfl, t0_z 23 rfl, t0_z 22 rfl, t0_z 21 rfl, t0_z 20 rfl, t0_z 19 rfl, t0_z 18 rfl, t0_z 17 rfl, t0_z 16 rfl, t0_z 15 rfl, t0_z 14 rfl, t0_z 13 rfl, t0_z 12 rfl, t0_z 11 rfl, t0_z 10 rfl, t0_z 9 rfl, t0_z 8 rfl, t0_z 4 rfl, t0_z 3 rfl, t0_z 2 rfl, t0_z 1 rfl]
set_option maxRecDepth 20000 in
theorem wi_X11 {x : MX} {B : ZB} {h0 : Nat} (C : IOk x B RX11 cX11_init 1 h0 1 12 47 2721) : ISim x B 1 h0 47 2721 (cr_X11 B h0) 0 0 0 [(0, .ref h0)] [] (.inr (10, fls 68 (fun j => defaultValue (tyX11 j)))) [] := by
  refine I_aload_n C 0 dX11_init_0 rfl ?_
  refine I_obj C oi_X11 dX11_init_1 ⟨by decide, (Nat.le_of_ble_eq_true rfl)⟩ ?_
  refine I_aload_n C 0 dX11_init_4 rfl ?_
  refine I_bipush C (16) dX11_init_5 (by decide) ?_
  refine I_newI C 16 (by decide) (by decide) (by decide) ⟨(Nat.le_of_ble_eq_true rfl), (Nat.le_of_ble_eq_true rfl)⟩ dX11_init_7 (fun q1 => ?_)
  refine I_put C 1 tyX11 gX11 tyX11_ok nmX11 rfl (by decide) fl_X11_7 rfl rfl rfl dX11_init_9 ?_
  refine I_aload_n C 0 dX11_init_12 rfl ?_
  refine I_sipush C (160) dX11_init_13 (by decide) ?_
  refine I_newI C 160 (by decide) (by decide) (by decide) ⟨(Nat.le_of_ble_eq_true rfl), (Nat.le_of_ble_eq_true rfl)⟩ dX11_init_16 (fun q2 => ?_)
  refine I_put C 2 tyX11 gX11 tyX11_ok nmX11 rfl (by decide) fl_X11_13 rfl rfl rfl dX11_init_18 ?_
  refine I_aload_n C 0 dX11_init_21 rfl ?_
  refine I_bipush C (10) dX11_init_22 (by decide) ?_
  refine I_newI C 10 (by decide) (by decide) (by decide) ⟨(Nat.le_of_ble_eq_true rfl), (Nat.le_of_ble_eq_true rfl)⟩ dX11_init_24 (fun q3 => ?_)
  refine I_put C 3 tyX11 gX11 tyX11_ok nmX11 rfl (by decide) fl_X11_16 rfl rfl rfl dX11_init_26 ?_
  refine I_aload_n C 0 dX11_init_29 rfl ?_
  refine I_sipush C (200) dX11_init_30 (by decide) ?_
  refine I_newI C 200 (by decide) (by decide) (by decide) ⟨(Nat.le_of_ble_eq_true rfl), (Nat.le_of_ble_eq_true rfl)⟩ dX11_init_33 (fun q4 => ?_)
  refine I_put C 4 tyX11 gX11 tyX11_ok nmX11 rfl (by decide) fl_X11_19 rfl rfl rfl dX11_init_35 ?_
  refine I_aload_n C 0 dX11_init_38 rfl ?_
  refine I_bipush C (9) dX11_init_39 (by decide) ?_
  refine I_newI C 9 (by decide) (by decide) (by decide) ⟨(Nat.le_of_ble_eq_true rfl), (Nat.le_of_ble_eq_true rfl)⟩ dX11_init_41 (fun q5 => ?_)
  refine I_dup C dX11_init_43 rfl ?_
  refine I_iconst C (0) dX11_init_44 (by decide) ?_
  refine I_iconst C (0) dX11_init_45 (by decide) ?_
  refine I_iast C (n := 9) (by unfold vp_in; decide) dX11_init_46 ?_
  refine I_dup C dX11_init_47 rfl ?_
  refine I_iconst C (1) dX11_init_48 (by decide) ?_
  refine I_iconst C (3) dX11_init_49 (by decide) ?_
  refine I_iast C (n := 9) (by unfold vp_in; decide) dX11_init_50 ?_
  refine I_dup C dX11_init_51 rfl ?_
  refine I_iconst C (2) dX11_init_52 (by decide) ?_
  refine I_bipush C (7) dX11_init_53 (by decide) ?_
  refine I_iast C (n := 9) (by unfold vp_in; decide) dX11_init_55 ?_
  refine I_dup C dX11_init_56 rfl ?_
  refine I_iconst C (3) dX11_init_57 (by decide) ?_
  refine I_bipush C (11) dX11_init_58 (by decide) ?_
  refine I_iast C (n := 9) (by unfold vp_in; decide) dX11_init_60 ?_
  refine I_dup C dX11_init_61 rfl ?_
  refine I_iconst C (4) dX11_init_62 (by decide) ?_
  refine I_bipush C (15) dX11_init_63 (by decide) ?_
  refine I_iast C (n := 9) (by unfold vp_in; decide) dX11_init_65 ?_
  refine I_dup C dX11_init_66 rfl ?_
  refine I_iconst C (5) dX11_init_67 (by decide) ?_
  refine I_bipush C (20) dX11_init_68 (by decide) ?_
  refine I_iast C (n := 9) (by unfold vp_in; decide) dX11_init_70 ?_
  refine I_dup C dX11_init_71 rfl ?_
  refine I_bipush C (6) dX11_init_72 (by decide) ?_
  refine I_bipush C (24) dX11_init_74 (by decide) ?_
  refine I_iast C (n := 9) (by unfold vp_in; decide) dX11_init_76 ?_
  refine I_dup C dX11_init_77 rfl ?_
  refine I_bipush C (7) dX11_init_78 (by decide) ?_
  refine I_bipush C (29) dX11_init_80 (by decide) ?_
  refine I_iast C (n := 9) (by unfold vp_in; decide) dX11_init_82 ?_
  refine I_dup C dX11_init_83 rfl ?_
  refine I_bipush C (8) dX11_init_84 (by decide) ?_
  refine I_bipush C (33) dX11_init_86 (by decide) ?_
  refine I_iast C (n := 9) (by unfold vp_in; decide) dX11_init_88 ?_
  refine I_put C 13 tyX11 gX11 tyX11_ok nmX11 rfl (by decide) fl_X11_22 rfl rfl rfl dX11_init_89 ?_
  refine I_aload_n C 0 dX11_init_92 rfl ?_
  refine I_bipush C (33) dX11_init_93 (by decide) ?_
  refine I_newI C 33 (by decide) (by decide) (by decide) ⟨(Nat.le_of_ble_eq_true rfl), (Nat.le_of_ble_eq_true rfl)⟩ dX11_init_95 (fun q6 => ?_)
  refine I_dup C dX11_init_97 rfl ?_
  refine I_iconst C (0) dX11_init_98 (by decide) ?_
  refine I_bipush C (115) dX11_init_99 (by decide) ?_
  refine I_iast C (n := 33) (by unfold vp_in; decide) dX11_init_101 ?_
  refine I_dup C dX11_init_102 rfl ?_
  refine I_iconst C (1) dX11_init_103 (by decide) ?_
  refine I_bipush C (97) dX11_init_104 (by decide) ?_
  refine I_iast C (n := 33) (by unfold vp_in; decide) dX11_init_106 ?_
  refine I_dup C dX11_init_107 rfl ?_
  refine I_iconst C (2) dX11_init_108 (by decide) ?_
  refine I_bipush C (121) dX11_init_109 (by decide) ?_
  refine I_iast C (n := 33) (by unfold vp_in; decide) dX11_init_111 ?_
  refine I_dup C dX11_init_112 rfl ?_
  refine I_iconst C (3) dX11_init_113 (by decide) ?_
  refine I_bipush C (109) dX11_init_114 (by decide) ?_
  refine I_iast C (n := 33) (by unfold vp_in; decide) dX11_init_116 ?_
  refine I_dup C dX11_init_117 rfl ?_
  refine I_iconst C (4) dX11_init_118 (by decide) ?_
  refine I_bipush C (117) dX11_init_119 (by decide) ?_
  refine I_iast C (n := 33) (by unfold vp_in; decide) dX11_init_121 ?_
  refine I_dup C dX11_init_122 rfl ?_
  refine I_iconst C (5) dX11_init_123 (by decide) ?_
  refine I_bipush C (116) dX11_init_124 (by decide) ?_
  refine I_iast C (n := 33) (by unfold vp_in; decide) dX11_init_126 ?_
  refine I_dup C dX11_init_127 rfl ?_
  refine I_bipush C (6) dX11_init_128 (by decide) ?_
  refine I_bipush C (101) dX11_init_130 (by decide) ?_
  refine I_iast C (n := 33) (by unfold vp_in; decide) dX11_init_132 ?_
  refine I_dup C dX11_init_133 rfl ?_
  refine I_bipush C (7) dX11_init_134 (by decide) ?_
  refine I_bipush C (108) dX11_init_136 (by decide) ?_
  refine I_iast C (n := 33) (by unfold vp_in; decide) dX11_init_138 ?_
  refine I_dup C dX11_init_139 rfl ?_
  refine I_bipush C (8) dX11_init_140 (by decide) ?_
  refine I_bipush C (105) dX11_init_142 (by decide) ?_
  refine I_iast C (n := 33) (by unfold vp_in; decide) dX11_init_144 ?_
  refine I_dup C dX11_init_145 rfl ?_
  refine I_bipush C (9) dX11_init_146 (by decide) ?_
  refine I_bipush C (107) dX11_init_148 (by decide) ?_
  refine I_iast C (n := 33) (by unfold vp_in; decide) dX11_init_150 ?_
  refine I_dup C dX11_init_151 rfl ?_
  refine I_bipush C (10) dX11_init_152 (by decide) ?_
  refine I_bipush C (101) dX11_init_154 (by decide) ?_
  refine I_iast C (n := 33) (by unfold vp_in; decide) dX11_init_156 ?_
  refine I_dup C dX11_init_157 rfl ?_
  refine I_bipush C (11) dX11_init_158 (by decide) ?_
  refine I_bipush C (100) dX11_init_160 (by decide) ?_
  refine I_iast C (n := 33) (by unfold vp_in; decide) dX11_init_162 ?_
  refine I_dup C dX11_init_163 rfl ?_
  refine I_bipush C (12) dX11_init_164 (by decide) ?_
  refine I_bipush C (114) dX11_init_166 (by decide) ?_
  refine I_iast C (n := 33) (by unfold vp_in; decide) dX11_init_168 ?_
  refine I_dup C dX11_init_169 rfl ?_
  refine I_bipush C (13) dX11_init_170 (by decide) ?_
  refine I_bipush C (111) dX11_init_172 (by decide) ?_
  refine I_iast C (n := 33) (by unfold vp_in; decide) dX11_init_174 ?_
  refine I_dup C dX11_init_175 rfl ?_
  refine I_bipush C (14) dX11_init_176 (by decide) ?_
  refine I_bipush C (112) dX11_init_178 (by decide) ?_
  refine I_iast C (n := 33) (by unfold vp_in; decide) dX11_init_180 ?_
  refine I_dup C dX11_init_181 rfl ?_
  refine I_bipush C (15) dX11_init_182 (by decide) ?_
  refine I_bipush C (111) dX11_init_184 (by decide) ?_
  refine I_iast C (n := 33) (by unfold vp_in; decide) dX11_init_186 ?_
  refine I_dup C dX11_init_187 rfl ?_
  refine I_bipush C (16) dX11_init_188 (by decide) ?_
  refine I_bipush C (116) dX11_init_190 (by decide) ?_
  refine I_iast C (n := 33) (by unfold vp_in; decide) dX11_init_192 ?_
  refine I_dup C dX11_init_193 rfl ?_
  refine I_bipush C (17) dX11_init_194 (by decide) ?_
  refine I_bipush C (104) dX11_init_196 (by decide) ?_
  refine I_iast C (n := 33) (by unfold vp_in; decide) dX11_init_198 ?_
  refine I_dup C dX11_init_199 rfl ?_
  refine I_bipush C (18) dX11_init_200 (by decide) ?_
  refine I_bipush C (101) dX11_init_202 (by decide) ?_
  refine I_iast C (n := 33) (by unfold vp_in; decide) dX11_init_204 ?_
  refine I_dup C dX11_init_205 rfl ?_
  refine I_bipush C (19) dX11_init_206 (by decide) ?_
  refine I_bipush C (114) dX11_init_208 (by decide) ?_
  refine I_iast C (n := 33) (by unfold vp_in; decide) dX11_init_210 ?_
  refine I_dup C dX11_init_211 rfl ?_
  refine I_bipush C (20) dX11_init_212 (by decide) ?_
  refine I_bipush C (106) dX11_init_214 (by decide) ?_
  refine I_iast C (n := 33) (by unfold vp_in; decide) dX11_init_216 ?_
  refine I_dup C dX11_init_217 rfl ?_
  refine I_bipush C (21) dX11_init_218 (by decide) ?_
  refine I_bipush C (111) dX11_init_220 (by decide) ?_
  refine I_iast C (n := 33) (by unfold vp_in; decide) dX11_init_222 ?_
  refine I_dup C dX11_init_223 rfl ?_
  refine I_bipush C (22) dX11_init_224 (by decide) ?_
  refine I_bipush C (105) dX11_init_226 (by decide) ?_
  refine I_iast C (n := 33) (by unfold vp_in; decide) dX11_init_228 ?_
  refine I_dup C dX11_init_229 rfl ?_
  refine I_bipush C (23) dX11_init_230 (by decide) ?_
  refine I_bipush C (110) dX11_init_232 (by decide) ?_
  refine I_iast C (n := 33) (by unfold vp_in; decide) dX11_init_234 ?_
  refine I_dup C dX11_init_235 rfl ?_
  refine I_bipush C (24) dX11_init_236 (by decide) ?_
  refine I_bipush C (109) dX11_init_238 (by decide) ?_
  refine I_iast C (n := 33) (by unfold vp_in; decide) dX11_init_240 ?_
  refine I_dup C dX11_init_241 rfl ?_
  refine I_bipush C (25) dX11_init_242 (by decide) ?_
  refine I_bipush C (105) dX11_init_244 (by decide) ?_
  refine I_iast C (n := 33) (by unfold vp_in; decide) dX11_init_246 ?_
  refine I_dup C dX11_init_247 rfl ?_
  refine I_bipush C (26) dX11_init_248 (by decide) ?_
  refine I_bipush C (108) dX11_init_250 (by decide) ?_
  refine I_iast C (n := 33) (by unfold vp_in; decide) dX11_init_252 ?_
  refine I_dup C dX11_init_253 rfl ?_
  refine I_bipush C (27) dX11_init_254 (by decide) ?_
  refine I_bipush C (101) dX11_init_256 (by decide) ?_
  refine I_iast C (n := 33) (by unfold vp_in; decide) dX11_init_258 ?_
  refine I_dup C dX11_init_259 rfl ?_
  refine I_bipush C (28) dX11_init_260 (by decide) ?_
  refine I_bipush C (115) dX11_init_262 (by decide) ?_
  refine I_iast C (n := 33) (by unfold vp_in; decide) dX11_init_264 ?_
  refine I_dup C dX11_init_265 rfl ?_
  refine I_bipush C (29) dX11_init_266 (by decide) ?_
  refine I_bipush C (115) dX11_init_268 (by decide) ?_
  refine I_iast C (n := 33) (by unfold vp_in; decide) dX11_init_270 ?_
  refine I_dup C dX11_init_271 rfl ?_
  refine I_bipush C (30) dX11_init_272 (by decide) ?_
  refine I_bipush C (111) dX11_init_274 (by decide) ?_
  refine I_iast C (n := 33) (by unfold vp_in; decide) dX11_init_276 ?_
  refine I_dup C dX11_init_277 rfl ?_
  refine I_bipush C (31) dX11_init_278 (by decide) ?_
  refine I_bipush C (110) dX11_init_280 (by decide) ?_
  refine I_iast C (n := 33) (by unfold vp_in; decide) dX11_init_282 ?_
  refine I_dup C dX11_init_283 rfl ?_
  refine I_bipush C (32) dX11_init_284 (by decide) ?_
  refine I_bipush C (115) dX11_init_286 (by decide) ?_
  refine I_iast C (n := 33) (by unfold vp_in; decide) dX11_init_288 ?_
  refine I_put C 14 tyX11 gX11 tyX11_ok nmX11 rfl (by decide) fl_X11_25 rfl rfl rfl dX11_init_289 ?_
  refine I_aload_n C 0 dX11_init_292 rfl ?_
  refine I_bipush C (8) dX11_init_293 (by decide) ?_
  refine I_newI C 8 (by decide) (by decide) (by decide) ⟨(Nat.le_of_ble_eq_true rfl), (Nat.le_of_ble_eq_true rfl)⟩ dX11_init_295 (fun q7 => ?_)
  refine I_dup C dX11_init_297 rfl ?_
  refine I_iconst C (0) dX11_init_298 (by decide) ?_
  refine I_iconst C (3) dX11_init_299 (by decide) ?_
  refine I_iast C (n := 8) (by unfold vp_in; decide) dX11_init_300 ?_
  refine I_dup C dX11_init_301 rfl ?_
  refine I_iconst C (1) dX11_init_302 (by decide) ?_
  refine I_iconst C (4) dX11_init_303 (by decide) ?_
  refine I_iast C (n := 8) (by unfold vp_in; decide) dX11_init_304 ?_
  refine I_dup C dX11_init_305 rfl ?_
  refine I_iconst C (2) dX11_init_306 (by decide) ?_
  refine I_iconst C (4) dX11_init_307 (by decide) ?_
  refine I_iast C (n := 8) (by unfold vp_in; decide) dX11_init_308 ?_
  refine I_dup C dX11_init_309 rfl ?_
  refine I_iconst C (3) dX11_init_310 (by decide) ?_
  refine I_iconst C (5) dX11_init_311 (by decide) ?_
  refine I_iast C (n := 8) (by unfold vp_in; decide) dX11_init_312 ?_
  refine I_dup C dX11_init_313 rfl ?_
  refine I_iconst C (4) dX11_init_314 (by decide) ?_
  refine I_iconst C (1) dX11_init_315 (by decide) ?_
  refine I_iast C (n := 8) (by unfold vp_in; decide) dX11_init_316 ?_
  refine I_dup C dX11_init_317 rfl ?_
  refine I_iconst C (5) dX11_init_318 (by decide) ?_
  refine I_iconst C (1) dX11_init_319 (by decide) ?_
  refine I_iast C (n := 8) (by unfold vp_in; decide) dX11_init_320 ?_
  refine I_dup C dX11_init_321 rfl ?_
  refine I_bipush C (6) dX11_init_322 (by decide) ?_
  refine I_iconst C (1) dX11_init_324 (by decide) ?_
  refine I_iast C (n := 8) (by unfold vp_in; decide) dX11_init_325 ?_
  refine I_dup C dX11_init_326 rfl ?_
  refine I_bipush C (7) dX11_init_327 (by decide) ?_
  refine I_iconst C (1) dX11_init_329 (by decide) ?_
  refine I_iast C (n := 8) (by unfold vp_in; decide) dX11_init_330 ?_
  refine I_put C 15 tyX11 gX11 tyX11_ok nmX11 rfl (by decide) fl_X11_28 rfl rfl rfl dX11_init_331 ?_
  refine I_aload_n C 0 dX11_init_334 rfl ?_
  refine I_bipush C (36) dX11_init_335 (by decide) ?_
  refine I_newI C 36 (by decide) (by decide) (by decide) ⟨(Nat.le_of_ble_eq_true rfl), (Nat.le_of_ble_eq_true rfl)⟩ dX11_init_337 (fun q8 => ?_)
  refine I_put C 17 tyX11 gX11 tyX11_ok nmX11 rfl (by decide) fl_X11_31 rfl rfl rfl dX11_init_339 ?_
  refine I_aload_n C 0 dX11_init_342 rfl ?_
  refine I_bipush C (24) dX11_init_343 (by decide) ?_
  refine I_newI C 24 (by decide) (by decide) (by decide) ⟨(Nat.le_of_ble_eq_true rfl), (Nat.le_of_ble_eq_true rfl)⟩ dX11_init_345 (fun q9 => ?_)
  refine I_put C 18 tyX11 gX11 tyX11_ok nmX11 rfl (by decide) fl_X11_34 rfl rfl rfl dX11_init_347 ?_
  refine I_aload_n C 0 dX11_init_350 rfl ?_
  refine I_bipush C (40) dX11_init_351 (by decide) ?_
  refine I_newI C 40 (by decide) (by decide) (by decide) ⟨(Nat.le_of_ble_eq_true rfl), (Nat.le_of_ble_eq_true rfl)⟩ dX11_init_353 (fun q10 => ?_)
  refine I_put C 20 tyX11 gX11 tyX11_ok nmX11 rfl (by decide) fl_X11_37 rfl rfl rfl dX11_init_355 ?_
  refine I_aload_n C 0 dX11_init_358 rfl ?_
  refine I_bipush C (40) dX11_init_359 (by decide) ?_
  refine I_newI C 40 (by decide) (by decide) (by decide) ⟨(Nat.le_of_ble_eq_true rfl), (Nat.le_of_ble_eq_true rfl)⟩ dX11_init_361 (fun q11 => ?_)
  refine I_put C 21 tyX11 gX11 tyX11_ok nmX11 rfl (by decide) fl_X11_40 rfl rfl rfl dX11_init_363 ?_
  refine I_aload_n C 0 dX11_init_366 rfl ?_
  refine I_bipush C (40) dX11_init_367 (by decide) ?_
  refine I_newI C 40 (by decide) (by decide) (by decide) ⟨(Nat.le_of_ble_eq_true rfl), (Nat.le_of_ble_eq_true rfl)⟩ dX11_init_369 (fun q12 => ?_)
  refine I_put C 22 tyX11 gX11 tyX11_ok nmX11 rfl (by decide) fl_X11_43 rfl rfl rfl dX11_init_371 ?_
  refine I_aload_n C 0 dX11_init_374 rfl ?_
  refine I_bipush C (8) dX11_init_375 (by decide) ?_
  refine I_newI C 8 (by decide) (by decide) (by decide) ⟨(Nat.le_of_ble_eq_true rfl), (Nat.le_of_ble_eq_true rfl)⟩ dX11_init_377 (fun q13 => ?_)
  refine I_put C 24 tyX11 gX11 tyX11_ok nmX11 rfl (by decide) fl_X11_46 rfl rfl rfl dX11_init_379 ?_
  refine I_aload_n C 0 dX11_init_382 rfl ?_
  refine I_bipush C (36) dX11_init_383 (by decide) ?_
  refine I_newI C 36 (by decide) (by decide) (by decide) ⟨(Nat.le_of_ble_eq_true rfl), (Nat.le_of_ble_eq_true rfl)⟩ dX11_init_385 (fun q14 => ?_)
  refine I_put C 26 tyX11 gX11 tyX11_ok nmX11 rfl (by decide) fl_X11_49 rfl rfl rfl dX11_init_387 ?_
  refine I_aload_n C 0 dX11_init_390 rfl ?_
  refine I_bipush C (24) dX11_init_391 (by decide) ?_
  refine I_newI C 24 (by decide) (by decide) (by decide) ⟨(Nat.le_of_ble_eq_true rfl), (Nat.le_of_ble_eq_true rfl)⟩ dX11_init_393 (fun q15 => ?_)
  refine I_put C 27 tyX11 gX11 tyX11_ok nmX11 rfl (by decide) fl_X11_52 rfl rfl rfl dX11_init_395 ?_
  refine I_aload_n C 0 dX11_init_398 rfl ?_
  refine I_bipush C (40) dX11_init_399 (by decide) ?_
  refine I_newI C 40 (by decide) (by decide) (by decide) ⟨(Nat.le_of_ble_eq_true rfl), (Nat.le_of_ble_eq_true rfl)⟩ dX11_init_401 (fun q16 => ?_)
  refine I_put C 29 tyX11 gX11 tyX11_ok nmX11 rfl (by decide) fl_X11_55 rfl rfl rfl dX11_init_403 ?_
  refine I_aload_n C 0 dX11_init_406 rfl ?_
  refine I_bipush C (40) dX11_init_407 (by decide) ?_
  refine I_newI C 40 (by decide) (by decide) (by decide) ⟨(Nat.le_of_ble_eq_true rfl), (Nat.le_of_ble_eq_true rfl)⟩ dX11_init_409 (fun q17 => ?_)
  refine I_put C 30 tyX11 gX11 tyX11_ok nmX11 rfl (by decide) fl_X11_58 rfl rfl rfl dX11_init_411 ?_
  refine I_aload_n C 0 dX11_init_414 rfl ?_
  refine I_bipush C (40) dX11_init_415 (by decide) ?_
  refine I_newI C 40 (by decide) (by decide) (by decide) ⟨(Nat.le_of_ble_eq_true rfl), (Nat.le_of_ble_eq_true rfl)⟩ dX11_init_417 (fun q18 => ?_)
  refine I_put C 31 tyX11 gX11 tyX11_ok nmX11 rfl (by decide) fl_X11_61 rfl rfl rfl dX11_init_419 ?_
  refine I_aload_n C 0 dX11_init_422 rfl ?_
  refine I_bipush C (16) dX11_init_423 (by decide) ?_
  refine I_newI C 16 (by decide) (by decide) (by decide) ⟨(Nat.le_of_ble_eq_true rfl), (Nat.le_of_ble_eq_true rfl)⟩ dX11_init_425 (fun q19 => ?_)
  refine I_put C 33 tyX11 gX11 tyX11_ok nmX11 rfl (by decide) fl_X11_64 rfl rfl rfl dX11_init_427 ?_
  refine I_aload_n C 0 dX11_init_430 rfl ?_
  refine I_sipush C (320) dX11_init_431 (by decide) ?_
  refine I_newI C 320 (by decide) (by decide) (by decide) ⟨(Nat.le_of_ble_eq_true rfl), (Nat.le_of_ble_eq_true rfl)⟩ dX11_init_434 (fun q20 => ?_)
  refine I_put C 34 tyX11 gX11 tyX11_ok nmX11 rfl (by decide) fl_X11_67 rfl rfl rfl dX11_init_436 ?_
  refine I_aload_n C 0 dX11_init_439 rfl ?_
  refine I_sipush C (256) dX11_init_440 (by decide) ?_
  refine I_newI C 256 (by decide) (by decide) (by decide) ⟨(Nat.le_of_ble_eq_true rfl), (Nat.le_of_ble_eq_true rfl)⟩ dX11_init_443 (fun q21 => ?_)
  refine I_put C 35 tyX11 gX11 tyX11_ok nmX11 rfl (by decide) fl_X11_70 rfl rfl rfl dX11_init_445 ?_
  refine I_aload_n C 0 dX11_init_448 rfl ?_
  refine I_bipush C (16) dX11_init_449 (by decide) ?_
  refine I_newI C 16 (by decide) (by decide) (by decide) ⟨(Nat.le_of_ble_eq_true rfl), (Nat.le_of_ble_eq_true rfl)⟩ dX11_init_451 (fun q22 => ?_)
  refine I_put C 36 tyX11 gX11 tyX11_ok nmX11 rfl (by decide) fl_X11_73 rfl rfl rfl dX11_init_453 ?_
  refine I_aload_n C 0 dX11_init_456 rfl ?_
  refine I_sipush C (441) dX11_init_457 (by decide) ?_
  refine I_newI C 441 (by decide) (by decide) (by decide) ⟨(Nat.le_of_ble_eq_true rfl), (Nat.le_of_ble_eq_true rfl)⟩ dX11_init_460 (fun q23 => ?_)
  refine I_put C 37 tyX11 gX11 tyX11_ok nmX11 rfl (by decide) fl_X11_76 rfl rfl rfl dX11_init_462 ?_
  refine I_aload_n C 0 dX11_init_465 rfl ?_
  refine I_bipush C (16) dX11_init_466 (by decide) ?_
  refine I_newI C 16 (by decide) (by decide) (by decide) ⟨(Nat.le_of_ble_eq_true rfl), (Nat.le_of_ble_eq_true rfl)⟩ dX11_init_468 (fun q24 => ?_)
  refine I_put C 38 tyX11 gX11 tyX11_ok nmX11 rfl (by decide) fl_X11_79 rfl rfl rfl dX11_init_470 ?_
  refine I_aload_n C 0 dX11_init_473 rfl ?_
  refine I_bipush C (16) dX11_init_474 (by decide) ?_
  refine I_newI C 16 (by decide) (by decide) (by decide) ⟨(Nat.le_of_ble_eq_true rfl), (Nat.le_of_ble_eq_true rfl)⟩ dX11_init_476 (fun q25 => ?_)
  refine I_put C 39 tyX11 gX11 tyX11_ok nmX11 rfl (by decide) fl_X11_82 rfl rfl rfl dX11_init_478 ?_
  refine I_aload_n C 0 dX11_init_481 rfl ?_
  refine I_bipush C (16) dX11_init_482 (by decide) ?_
  refine I_newI C 16 (by decide) (by decide) (by decide) ⟨(Nat.le_of_ble_eq_true rfl), (Nat.le_of_ble_eq_true rfl)⟩ dX11_init_484 (fun q26 => ?_)
  refine I_put C 40 tyX11 gX11 tyX11_ok nmX11 rfl (by decide) fl_X11_85 rfl rfl rfl dX11_init_486 ?_
  refine I_aload_n C 0 dX11_init_489 rfl ?_
  refine I_bipush C (8) dX11_init_490 (by decide) ?_
  refine I_newI C 8 (by decide) (by decide) (by decide) ⟨(Nat.le_of_ble_eq_true rfl), (Nat.le_of_ble_eq_true rfl)⟩ dX11_init_492 (fun q27 => ?_)
  refine I_put C 42 tyX11 gX11 tyX11_ok nmX11 rfl (by decide) fl_X11_88 rfl rfl rfl dX11_init_494 ?_
  refine I_aload_n C 0 dX11_init_497 rfl ?_
  refine I_bipush C (8) dX11_init_498 (by decide) ?_
  refine I_newI C 8 (by decide) (by decide) (by decide) ⟨(Nat.le_of_ble_eq_true rfl), (Nat.le_of_ble_eq_true rfl)⟩ dX11_init_500 (fun q28 => ?_)
  refine I_put C 43 tyX11 gX11 tyX11_ok nmX11 rfl (by decide) fl_X11_91 rfl rfl rfl dX11_init_502 ?_
  refine I_aload_n C 0 dX11_init_505 rfl ?_
  refine I_bipush C (8) dX11_init_506 (by decide) ?_
  refine I_newI C 8 (by decide) (by decide) (by decide) ⟨(Nat.le_of_ble_eq_true rfl), (Nat.le_of_ble_eq_true rfl)⟩ dX11_init_508 (fun q29 => ?_)
  refine I_put C 45 tyX11 gX11 tyX11_ok nmX11 rfl (by decide) fl_X11_94 rfl rfl rfl dX11_init_510 ?_
  refine I_aload_n C 0 dX11_init_513 rfl ?_
  refine I_bipush C (8) dX11_init_514 (by decide) ?_
  refine I_newI C 8 (by decide) (by decide) (by decide) ⟨(Nat.le_of_ble_eq_true rfl), (Nat.le_of_ble_eq_true rfl)⟩ dX11_init_516 (fun q30 => ?_)
  refine I_put C 46 tyX11 gX11 tyX11_ok nmX11 rfl (by decide) fl_X11_97 rfl rfl rfl dX11_init_518 ?_
  refine I_aload_n C 0 dX11_init_521 rfl ?_
  refine I_bipush C (8) dX11_init_522 (by decide) ?_
  refine I_newI C 8 (by decide) (by decide) (by decide) ⟨(Nat.le_of_ble_eq_true rfl), (Nat.le_of_ble_eq_true rfl)⟩ dX11_init_524 (fun q31 => ?_)
  refine I_put C 47 tyX11 gX11 tyX11_ok nmX11 rfl (by decide) fl_X11_100 rfl rfl rfl dX11_init_526 ?_
  refine I_aload_n C 0 dX11_init_529 rfl ?_
  refine I_bipush C (8) dX11_init_530 (by decide) ?_
  refine I_newJ C 8 (by decide) (by decide) (by decide) ⟨(Nat.le_of_ble_eq_true rfl), (Nat.le_of_ble_eq_true rfl)⟩ dX11_init_532 (fun q32 => ?_)
  refine I_put C 48 tyX11 gX11 tyX11_ok nmX11 rfl (by decide) fl_X11_103 rfl rfl rfl dX11_init_534 ?_
  refine I_aload_n C 0 dX11_init_537 rfl ?_
  refine I_bipush C (40) dX11_init_538 (by decide) ?_
  refine I_newI C 40 (by decide) (by decide) (by decide) ⟨(Nat.le_of_ble_eq_true rfl), (Nat.le_of_ble_eq_true rfl)⟩ dX11_init_540 (fun q33 => ?_)
  refine I_put C 50 tyX11 gX11 tyX11_ok nmX11 rfl (by decide) fl_X11_107 rfl rfl rfl dX11_init_542 ?_
  refine I_aload_n C 0 dX11_init_545 rfl ?_
  refine I_bipush C (40) dX11_init_546 (by decide) ?_
  refine I_newI C 40 (by decide) (by decide) (by decide) ⟨(Nat.le_of_ble_eq_true rfl), (Nat.le_of_ble_eq_true rfl)⟩ dX11_init_548 (fun q34 => ?_)
  refine I_put C 51 tyX11 gX11 tyX11_ok nmX11 rfl (by decide) fl_X11_110 rfl rfl rfl dX11_init_550 ?_
  refine I_aload_n C 0 dX11_init_553 rfl ?_
  refine I_bipush C (40) dX11_init_554 (by decide) ?_
  refine I_newI C 40 (by decide) (by decide) (by decide) ⟨(Nat.le_of_ble_eq_true rfl), (Nat.le_of_ble_eq_true rfl)⟩ dX11_init_556 (fun q35 => ?_)
  refine I_put C 52 tyX11 gX11 tyX11_ok nmX11 rfl (by decide) fl_X11_113 rfl rfl rfl dX11_init_558 ?_
  refine I_aload_n C 0 dX11_init_561 rfl ?_
  refine I_bipush C (40) dX11_init_562 (by decide) ?_
  refine I_newI C 40 (by decide) (by decide) (by decide) ⟨(Nat.le_of_ble_eq_true rfl), (Nat.le_of_ble_eq_true rfl)⟩ dX11_init_564 (fun q36 => ?_)
  refine I_put C 53 tyX11 gX11 tyX11_ok nmX11 rfl (by decide) fl_X11_116 rfl rfl rfl dX11_init_566 ?_
  refine I_aload_n C 0 dX11_init_569 rfl ?_
  refine I_bipush C (40) dX11_init_570 (by decide) ?_
  refine I_newI C 40 (by decide) (by decide) (by decide) ⟨(Nat.le_of_ble_eq_true rfl), (Nat.le_of_ble_eq_true rfl)⟩ dX11_init_572 (fun q37 => ?_)
  refine I_put C 54 tyX11 gX11 tyX11_ok nmX11 rfl (by decide) fl_X11_119 rfl rfl rfl dX11_init_574 ?_
  refine I_aload_n C 0 dX11_init_577 rfl ?_
  refine I_bipush C (40) dX11_init_578 (by decide) ?_
  refine I_newI C 40 (by decide) (by decide) (by decide) ⟨(Nat.le_of_ble_eq_true rfl), (Nat.le_of_ble_eq_true rfl)⟩ dX11_init_580 (fun q38 => ?_)
  refine I_put C 55 tyX11 gX11 tyX11_ok nmX11 rfl (by decide) fl_X11_122 rfl rfl rfl dX11_init_582 ?_
  refine I_aload_n C 0 dX11_init_585 rfl ?_
  refine I_bipush C (40) dX11_init_586 (by decide) ?_
  refine I_newI C 40 (by decide) (by decide) (by decide) ⟨(Nat.le_of_ble_eq_true rfl), (Nat.le_of_ble_eq_true rfl)⟩ dX11_init_588 (fun q39 => ?_)
  refine I_put C 56 tyX11 gX11 tyX11_ok nmX11 rfl (by decide) fl_X11_125 rfl rfl rfl dX11_init_590 ?_
  refine I_aload_n C 0 dX11_init_593 rfl ?_
  refine I_bipush C (40) dX11_init_594 (by decide) ?_
  refine I_newI C 40 (by decide) (by decide) (by decide) ⟨(Nat.le_of_ble_eq_true rfl), (Nat.le_of_ble_eq_true rfl)⟩ dX11_init_596 (fun q40 => ?_)
  refine I_put C 57 tyX11 gX11 tyX11_ok nmX11 rfl (by decide) fl_X11_128 rfl rfl rfl dX11_init_598 ?_
  refine I_aload_n C 0 dX11_init_601 rfl ?_
  refine I_bipush C (60) dX11_init_602 (by decide) ?_
  refine I_newI C 60 (by decide) (by decide) (by decide) ⟨(Nat.le_of_ble_eq_true rfl), (Nat.le_of_ble_eq_true rfl)⟩ dX11_init_604 (fun q41 => ?_)
  refine I_put C 59 tyX11 gX11 tyX11_ok nmX11 rfl (by decide) fl_X11_131 rfl rfl rfl dX11_init_606 ?_
  refine I_aload_n C 0 dX11_init_609 rfl ?_
  refine I_bipush C (60) dX11_init_610 (by decide) ?_
  refine I_newI C 60 (by decide) (by decide) (by decide) ⟨(Nat.le_of_ble_eq_true rfl), (Nat.le_of_ble_eq_true rfl)⟩ dX11_init_612 (fun q42 => ?_)
  refine I_put C 60 tyX11 gX11 tyX11_ok nmX11 rfl (by decide) fl_X11_134 rfl rfl rfl dX11_init_614 ?_
  refine I_aload_n C 0 dX11_init_617 rfl ?_
  refine I_bipush C (60) dX11_init_618 (by decide) ?_
  refine I_newI C 60 (by decide) (by decide) (by decide) ⟨(Nat.le_of_ble_eq_true rfl), (Nat.le_of_ble_eq_true rfl)⟩ dX11_init_620 (fun q43 => ?_)
  refine I_put C 61 tyX11 gX11 tyX11_ok nmX11 rfl (by decide) fl_X11_137 rfl rfl rfl dX11_init_622 ?_
  refine I_aload_n C 0 dX11_init_625 rfl ?_
  refine I_bipush C (8) dX11_init_626 (by decide) ?_
  refine I_newI C 8 (by decide) (by decide) (by decide) ⟨(Nat.le_of_ble_eq_true rfl), (Nat.le_of_ble_eq_true rfl)⟩ dX11_init_628 (fun q44 => ?_)
  refine I_put C 63 tyX11 gX11 tyX11_ok nmX11 rfl (by decide) fl_X11_140 rfl rfl rfl dX11_init_630 ?_
  refine I_aload_n C 0 dX11_init_633 rfl ?_
  refine I_iconst C (4) dX11_init_634 (by decide) ?_
  refine I_newI C 4 (by decide) (by decide) (by decide) ⟨(Nat.le_of_ble_eq_true rfl), (Nat.le_of_ble_eq_true rfl)⟩ dX11_init_635 (fun q45 => ?_)
  refine I_dup C dX11_init_637 rfl ?_
  refine I_iconst C (0) dX11_init_638 (by decide) ?_
  refine I_bipush C (-4) dX11_init_639 (by decide) ?_
  refine I_iast C (n := 4) (by unfold vp_in; decide) dX11_init_641 ?_
  refine I_dup C dX11_init_642 rfl ?_
  refine I_iconst C (1) dX11_init_643 (by decide) ?_
  refine I_bipush C (-4) dX11_init_644 (by decide) ?_
  refine I_iast C (n := 4) (by unfold vp_in; decide) dX11_init_646 ?_
  refine I_dup C dX11_init_647 rfl ?_
  refine I_iconst C (2) dX11_init_648 (by decide) ?_
  refine I_bipush C (-4) dX11_init_649 (by decide) ?_
  refine I_iast C (n := 4) (by unfold vp_in; decide) dX11_init_651 ?_
  refine I_dup C dX11_init_652 rfl ?_
  refine I_iconst C (3) dX11_init_653 (by decide) ?_
  refine I_bipush C (-4) dX11_init_654 (by decide) ?_
  refine I_iast C (n := 4) (by unfold vp_in; decide) dX11_init_656 ?_
  refine I_put C 64 tyX11 gX11 tyX11_ok nmX11 rfl (by decide) fl_X11_143 rfl rfl rfl dX11_init_657 ?_
  refine I_aload_n C 0 dX11_init_660 rfl ?_
  refine I_iconst C (4) dX11_init_661 (by decide) ?_
  refine I_newI C 4 (by decide) (by decide) (by decide) ⟨(Nat.le_of_ble_eq_true rfl), (Nat.le_of_ble_eq_true rfl)⟩ dX11_init_662 (fun q46 => ?_)
  refine I_put C 65 tyX11 gX11 tyX11_ok nmX11 rfl (by decide) fl_X11_146 rfl rfl rfl dX11_init_664 ?_
  refine I_aload_n C 0 dX11_init_667 rfl ?_
  refine I_sipush C (256) dX11_init_668 (by decide) ?_
  refine I_newI C 256 (by decide) (by decide) (by decide) ⟨(Nat.le_of_ble_eq_true rfl), (Nat.le_of_ble_eq_true rfl)⟩ dX11_init_671 (fun q47 => ?_)
  refine I_put C 66 tyX11 gX11 tyX11_ok nmX11 rfl (by decide) fl_X11_149 rfl rfl rfl dX11_init_673 ?_
  exact I_vret C (cr_X11_of q1 q2 q3 q4 q5 q6 q7 q8 q9 q10 q11 q12 q13 q14 q15 q16 q17 q18 q19 q20 q21 q22 q23 q24 q25 q26 q27 q28 q29 q30 q31 q32 q33 q34 q35 q36 q37 q38 q39 q40 q41 q42 q43 q44 q45 q46 q47) rfl rfl dX11_init_676
theorem ic_X11 {B : ZB} {l : Launch} {h0 : Nat} (sz : Nat) : IC B l yX11_init cX11_init 1 1 12 47 2721 10 (fls 68 (fun j => defaultValue (tyX11 j))) h0 sz [.ref h0] (cr_X11 B h0) :=
  IC_of (by decide) rfl (Nat.le_of_ble_eq_true rfl) (fun x hx C => wi_X11 C) sz
