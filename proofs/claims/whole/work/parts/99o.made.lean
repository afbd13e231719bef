/-! the constructors: their walks and contracts -/
theorem oi_X10 : Cond.methodLink RX10 1 objectInit ∈ gtb := gtb_1 27 (by rfl) rfl
theorem oi_X7 : Cond.methodLink RX7 1 objectInit ∈ gtb := gtb_1 35 (by rfl) rfl
theorem oi_X8 : Cond.methodLink RX8 1 objectInit ∈ gtb := gtb_1 51 (by rfl) rfl
theorem oi_X5 : Cond.methodLink RX5 3 objectInit ∈ gtb := gtb_1 90 (by rfl) rfl
theorem oi_X9 : Cond.methodLink RX9 5 objectInit ∈ gtb := gtb_1 144 (by rfl) rfl
theorem oi_X0 : Cond.methodLink RX0 3 objectInit ∈ gtb := gtb_1 188 (by rfl) rfl
theorem oi_X3 : Cond.methodLink RX3 3 objectInit ∈ gtb := gtb_1 227 (by rfl) rfl
theorem oi_X4 : Cond.methodLink RX4 3 objectInit ∈ gtb := gtb_2 48 (by rfl) rfl
theorem oi_X2 : Cond.methodLink RX2 1 objectInit ∈ gtb := gtb_2 79 (by rfl) rfl
theorem oi_X6 : Cond.methodLink RX6 3 objectInit ∈ gtb := gtb_2 95 (by rfl) rfl
theorem oi_X11 : Cond.methodLink RX11 1 objectInit ∈ gtb := gtb_5 83 (by rfl) rfl
theorem is_X10 : Cond.instantiable RX10 13 ∈ gtb := gtb_1 23 (by rfl) rfl
theorem is_X7 : Cond.instantiable RX7 2 ∈ gtb := gtb_1 31 (by rfl) rfl
theorem is_X8 : Cond.instantiable RX8 10 ∈ gtb := gtb_1 47 (by rfl) rfl
theorem is_X5 : Cond.instantiable RX5 8 ∈ gtb := gtb_1 86 (by rfl) rfl
theorem is_X9 : Cond.instantiable RX9 10 ∈ gtb := gtb_1 140 (by rfl) rfl
theorem is_X0 : Cond.instantiable RX0 8 ∈ gtb := gtb_1 184 (by rfl) rfl
theorem is_X3 : Cond.instantiable RX3 15 ∈ gtb := gtb_1 223 (by rfl) rfl
theorem is_X4 : Cond.instantiable RX4 7 ∈ gtb := gtb_2 44 (by rfl) rfl
theorem is_X2 : Cond.instantiable RX2 2 ∈ gtb := gtb_2 75 (by rfl) rfl
theorem is_X6 : Cond.instantiable RX6 3 ∈ gtb := gtb_2 91 (by rfl) rfl
theorem is_X11 : Cond.instantiable RX11 68 ∈ gtb := gtb_5 79 (by rfl) rfl
theorem cl_X10_7 : Cond.classLink RX10 7 RX7 ∈ gtb := gtb_1 30 (by rfl) rfl
theorem cl_X10_16 : Cond.classLink RX10 16 RX8 ∈ gtb := gtb_1 46 (by rfl) rfl
theorem cl_X10_25 : Cond.classLink RX10 25 RX5 ∈ gtb := gtb_1 85 (by rfl) rfl
theorem cl_X10_35 : Cond.classLink RX10 35 RX9 ∈ gtb := gtb_1 139 (by rfl) rfl
theorem cl_X10_44 : Cond.classLink RX10 44 RX0 ∈ gtb := gtb_1 183 (by rfl) rfl
theorem cl_X10_51 : Cond.classLink RX10 51 RX3 ∈ gtb := gtb_1 222 (by rfl) rfl
theorem cl_X10_60 : Cond.classLink RX10 60 RX4 ∈ gtb := gtb_2 43 (by rfl) rfl
theorem cl_X10_69 : Cond.classLink RX10 69 RX2 ∈ gtb := gtb_2 74 (by rfl) rfl
theorem cl_X10_76 : Cond.classLink RX10 76 RX6 ∈ gtb := gtb_2 89 (by rfl) rfl
theorem cl_L_7 : Cond.classLink RL 7 RX10 ∈ gtb := gtb_1 22 (by rfl) rfl
theorem cl_L_10 : Cond.classLink RL 10 RX11 ∈ gtb := gtb_5 78 (by rfl) rfl
def cr_X7 (B : ZB) (h0 : Nat) (u : va_W) : Prop := ∃ q1, u = [(h0, .inr (6, [.ref q1, .int 0])), (q1, .inl (bY B, 200, .inl (fun _ => 0)))]
set_option maxRecDepth 20000 in
theorem wi_X7 {x : MX} {B : ZB} {h0 : Nat} (C : IOk x B RX7 cX7_init 1 h0 1 12 1 200) : ISim x B 1 h0 1 200 (cr_X7 B h0) 0 0 0 [(0, .ref h0)] [] (.inr (6, fls 2 (fun j => defaultValue (tyX7 j)))) [] := by
  refine I_aload_n C 0 dX7_init_0 rfl ?_
  refine I_obj C oi_X7 dX7_init_1 ⟨by decide, (Nat.le_of_ble_eq_true rfl)⟩ ?_
  refine I_aload_n C 0 dX7_init_4 rfl ?_
  refine I_sipush C (200) dX7_init_5 (by decide) ?_
  refine I_newB C 200 (by decide) (by decide) (by decide) ⟨(Nat.le_of_ble_eq_true rfl), (Nat.le_of_ble_eq_true rfl)⟩ dX7_init_8 (fun q1 => ?_)
  refine I_put C 0 tyX7 gX7 tyX7_ok nmX7 rfl (by decide) fl_X7_9 rfl rfl rfl dX7_init_10 ?_
  exact I_vret C ⟨q1, rfl⟩ rfl rfl dX7_init_13
theorem ic_X7 {B : ZB} {l : Launch} {h0 : Nat} (sz : Nat) : IC B l yX7_init cX7_init 1 1 12 1 200 6 (fls 2 (fun j => defaultValue (tyX7 j))) h0 sz [.ref h0] (cr_X7 B h0) :=
  IC_of (by decide) rfl (Nat.le_of_ble_eq_true rfl) (fun x hx C => wi_X7 C) sz
def cr_X8 (B : ZB) (h0 t : Nat) (u : va_W) : Prop := u = [(h0, .inr (7, [.ref t, .null, .int 0, .int 0, .int 0, .int 0, .int 0, .int 0, .int 0, .int 0]))]
set_option maxRecDepth 20000 in
theorem wi_X8 {x : MX} {B : ZB} {h0 t : Nat} (C : IOk x B RX8 cX8_init 2 h0 1 12 0 0) : ISim x B 2 h0 0 0 (cr_X8 B h0 t) 0 0 0 [(0, .ref h0), (1, .ref t)] [] (.inr (7, fls 10 (fun j => defaultValue (tyX8 j)))) [] := by
  refine I_aload_n C 0 dX8_init_0 rfl ?_
  refine I_obj C oi_X8 dX8_init_1 ⟨by decide, (Nat.le_of_ble_eq_true rfl)⟩ ?_
  refine I_aload_n C 0 dX8_init_4 rfl ?_
  refine I_aload_n C 1 dX8_init_5 rfl ?_
  refine I_put C 0 tyX8 gX8 tyX8_ok nmX8 rfl (by decide) fl_X8_7 rfl rfl rfl dX8_init_6 ?_
  exact I_vret C rfl rfl rfl dX8_init_9
theorem ic_X8 {B : ZB} {l : Launch} {h0 t : Nat} (sz : Nat) : IC B l yX8_init cX8_init 2 1 12 0 0 7 (fls 10 (fun j => defaultValue (tyX8 j))) h0 sz [.ref h0, .ref t] (cr_X8 B h0 t) :=
  IC_of (by decide) rfl (Nat.le_of_ble_eq_true rfl) (fun x hx C => wi_X8 C) sz
def cr_X9 (B : ZB) (h0 t : Nat) (u : va_W) : Prop := ∃ q1 q2 q3 q4 q5 q6 q7 q8, u = [(h0, .inr (8, [.ref q1, .int 0, .ref q5, .ref q6, .ref q3, .ref t, .ref q2, .ref q4, .ref q7, .ref q8])), (q8, .inl (bI B, 21, .inl (fun _ => 0))), (q7, .inl (bI B, 16, .inl (fun _ => 0))), (q6, .inl (bI B, 16, .inl (fun _ => 0))), (q5, .inl (bI B, 16, .inl (fun _ => 0))), (q4, .inl (bI B, 256, .inl (fun _ => 0))), (q3, .inl (bI B, 16, .inl (fun _ => 0))), (q2, .inl (bI B, 320, .inl (fun _ => 0))), (q1, .inl (bJ B, 16, .inr (.inl (fun _ => 0))))]
set_option maxRecDepth 20000 in
theorem wi_X9 {x : MX} {B : ZB} {h0 t : Nat} (C : IOk x B RX9 cX9_init 2 h0 1 12 8 677) : ISim x B 2 h0 8 677 (cr_X9 B h0 t) 0 0 0 [(0, .ref h0), (1, .ref t)] [] (.inr (8, fls 10 (fun j => defaultValue (tyX9 j)))) [] := by
  refine I_aload_n C 0 dX9_init_0 rfl ?_
  refine I_obj C oi_X9 dX9_init_1 ⟨by decide, (Nat.le_of_ble_eq_true rfl)⟩ ?_
  refine I_aload_n C 0 dX9_init_4 rfl ?_
  refine I_aload_n C 1 dX9_init_5 rfl ?_
  refine I_put C 5 tyX9 gX9 tyX9_ok nmX9 rfl (by decide) fl_X9_11 rfl rfl rfl dX9_init_6 ?_
  refine I_aload_n C 0 dX9_init_9 rfl ?_
  refine I_bipush C (16) dX9_init_10 (by decide) ?_
  refine I_newJ C 16 (by decide) (by decide) (by decide) ⟨(Nat.le_of_ble_eq_true rfl), (Nat.le_of_ble_eq_true rfl)⟩ dX9_init_12 (fun q1 => ?_)
  refine I_put C 0 tyX9 gX9 tyX9_ok nmX9 rfl (by decide) fl_X9_15 rfl rfl rfl dX9_init_14 ?_
  refine I_aload_n C 0 dX9_init_17 rfl ?_
  refine I_sipush C (320) dX9_init_18 (by decide) ?_
  refine I_newI C 320 (by decide) (by decide) (by decide) ⟨(Nat.le_of_ble_eq_true rfl), (Nat.le_of_ble_eq_true rfl)⟩ dX9_init_21 (fun q2 => ?_)
  refine I_put C 6 tyX9 gX9 tyX9_ok nmX9 rfl (by decide) fl_X9_19 rfl rfl rfl dX9_init_23 ?_
  refine I_aload_n C 0 dX9_init_26 rfl ?_
  refine I_bipush C (16) dX9_init_27 (by decide) ?_
  refine I_newI C 16 (by decide) (by decide) (by decide) ⟨(Nat.le_of_ble_eq_true rfl), (Nat.le_of_ble_eq_true rfl)⟩ dX9_init_29 (fun q3 => ?_)
  refine I_put C 4 tyX9 gX9 tyX9_ok nmX9 rfl (by decide) fl_X9_23 rfl rfl rfl dX9_init_31 ?_
  refine I_aload_n C 0 dX9_init_34 rfl ?_
  refine I_sipush C (256) dX9_init_35 (by decide) ?_
  refine I_newI C 256 (by decide) (by decide) (by decide) ⟨(Nat.le_of_ble_eq_true rfl), (Nat.le_of_ble_eq_true rfl)⟩ dX9_init_38 (fun q4 => ?_)
  refine I_put C 7 tyX9 gX9 tyX9_ok nmX9 rfl (by decide) fl_X9_26 rfl rfl rfl dX9_init_40 ?_
  refine I_aload_n C 0 dX9_init_43 rfl ?_
  refine I_bipush C (16) dX9_init_44 (by decide) ?_
  refine I_newI C 16 (by decide) (by decide) (by decide) ⟨(Nat.le_of_ble_eq_true rfl), (Nat.le_of_ble_eq_true rfl)⟩ dX9_init_46 (fun q5 => ?_)
  refine I_put C 2 tyX9 gX9 tyX9_ok nmX9 rfl (by decide) fl_X9_29 rfl rfl rfl dX9_init_48 ?_
  refine I_aload_n C 0 dX9_init_51 rfl ?_
  refine I_bipush C (16) dX9_init_52 (by decide) ?_
  refine I_newI C 16 (by decide) (by decide) (by decide) ⟨(Nat.le_of_ble_eq_true rfl), (Nat.le_of_ble_eq_true rfl)⟩ dX9_init_54 (fun q6 => ?_)
  refine I_put C 3 tyX9 gX9 tyX9_ok nmX9 rfl (by decide) fl_X9_32 rfl rfl rfl dX9_init_56 ?_
  refine I_aload_n C 0 dX9_init_59 rfl ?_
  refine I_bipush C (16) dX9_init_60 (by decide) ?_
  refine I_newI C 16 (by decide) (by decide) (by decide) ⟨(Nat.le_of_ble_eq_true rfl), (Nat.le_of_ble_eq_true rfl)⟩ dX9_init_62 (fun q7 => ?_)
  refine I_put C 8 tyX9 gX9 tyX9_ok nmX9 rfl (by decide) fl_X9_35 rfl rfl rfl dX9_init_64 ?_
  refine I_aload_n C 0 dX9_init_67 rfl ?_
  refine I_bipush C (21) dX9_init_68 (by decide) ?_
  refine I_newI C 21 (by decide) (by decide) (by decide) ⟨(Nat.le_of_ble_eq_true rfl), (Nat.le_of_ble_eq_true rfl)⟩ dX9_init_70 (fun q8 => ?_)
  refine I_put C 9 tyX9 gX9 tyX9_ok nmX9 rfl (by decide) fl_X9_38 rfl rfl rfl dX9_init_72 ?_
  exact I_vret C ⟨q1, q2, q3, q4, q5, q6, q7, q8, rfl⟩ rfl rfl dX9_init_75
theorem ic_X9 {B : ZB} {l : Launch} {h0 t : Nat} (sz : Nat) : IC B l yX9_init cX9_init 2 1 12 8 677 8 (fls 10 (fun j => defaultValue (tyX9 j))) h0 sz [.ref h0, .ref t] (cr_X9 B h0 t) :=
  IC_of (by decide) rfl (Nat.le_of_ble_eq_true rfl) (fun x hx C => wi_X9 C) sz
def cr_X0 (B : ZB) (h0 : Nat) (u : va_W) : Prop := ∃ q1 q2 q3 q4 q5 q6, u = [(h0, .inr (0, [.ref q1, .ref q2, .int 0, .ref q3, .ref q4, .ref q5, .ref q6, .int 0])), (q6, .inl (bJ B, 8, .inr (.inl (fun _ => 0)))), (q5, .inl (bI B, 8, .inl (fun _ => 0))), (q4, .inl (bI B, 8, .inl (fun _ => 0))), (q3, .inl (bI B, 8, .inl (fun _ => 0))), (q2, .inl (bI B, 8, .inl (fun _ => 0))), (q1, .inl (bI B, 8, .inl (fun _ => 0)))]
set_option maxRecDepth 20000 in
theorem wi_X0 {x : MX} {B : ZB} {h0 : Nat} (C : IOk x B RX0 cX0_init 1 h0 1 12 6 48) : ISim x B 1 h0 6 48 (cr_X0 B h0) 0 0 0 [(0, .ref h0)] [] (.inr (0, fls 8 (fun j => defaultValue (tyX0 j)))) [] := by
  refine I_aload_n C 0 dX0_init_0 rfl ?_
  refine I_obj C oi_X0 dX0_init_1 ⟨by decide, (Nat.le_of_ble_eq_true rfl)⟩ ?_
  refine I_aload_n C 0 dX0_init_4 rfl ?_
  refine I_bipush C (8) dX0_init_5 (by decide) ?_
  refine I_newI C 8 (by decide) (by decide) (by decide) ⟨(Nat.le_of_ble_eq_true rfl), (Nat.le_of_ble_eq_true rfl)⟩ dX0_init_7 (fun q1 => ?_)
  refine I_put C 0 tyX0 gX0 tyX0_ok nmX0 rfl (by decide) fl_X0_11 rfl rfl rfl dX0_init_9 ?_
  refine I_aload_n C 0 dX0_init_12 rfl ?_
  refine I_bipush C (8) dX0_init_13 (by decide) ?_
  refine I_newI C 8 (by decide) (by decide) (by decide) ⟨(Nat.le_of_ble_eq_true rfl), (Nat.le_of_ble_eq_true rfl)⟩ dX0_init_15 (fun q2 => ?_)
  refine I_put C 1 tyX0 gX0 tyX0_ok nmX0 rfl (by decide) fl_X0_15 rfl rfl rfl dX0_init_17 ?_
  refine I_aload_n C 0 dX0_init_20 rfl ?_
  refine I_bipush C (8) dX0_init_21 (by decide) ?_
  refine I_newI C 8 (by decide) (by decide) (by decide) ⟨(Nat.le_of_ble_eq_true rfl), (Nat.le_of_ble_eq_true rfl)⟩ dX0_init_23 (fun q3 => ?_)
  refine I_put C 3 tyX0 gX0 tyX0_ok nmX0 rfl (by decide) fl_X0_18 rfl rfl rfl dX0_init_25 ?_
  refine I_aload_n C 0 dX0_init_28 rfl ?_
  refine I_bipush C (8) dX0_init_29 (by decide) ?_
  refine I_newI C 8 (by decide) (by decide) (by decide) ⟨(Nat.le_of_ble_eq_true rfl), (Nat.le_of_ble_eq_true rfl)⟩ dX0_init_31 (fun q4 => ?_)
  refine I_put C 4 tyX0 gX0 tyX0_ok nmX0 rfl (by decide) fl_X0_21 rfl rfl rfl dX0_init_33 ?_
  refine I_aload_n C 0 dX0_init_36 rfl ?_
  refine I_bipush C (8) dX0_init_37 (by decide) ?_
  refine I_newI C 8 (by decide) (by decide) (by decide) ⟨(Nat.le_of_ble_eq_true rfl), (Nat.le_of_ble_eq_true rfl)⟩ dX0_init_39 (fun q5 => ?_)
  refine I_put C 5 tyX0 gX0 tyX0_ok nmX0 rfl (by decide) fl_X0_24 rfl rfl rfl dX0_init_41 ?_
  refine I_aload_n C 0 dX0_init_44 rfl ?_
  refine I_bipush C (8) dX0_init_45 (by decide) ?_
  refine I_newJ C 8 (by decide) (by decide) (by decide) ⟨(Nat.le_of_ble_eq_true rfl), (Nat.le_of_ble_eq_true rfl)⟩ dX0_init_47 (fun q6 => ?_)
  refine I_put C 6 tyX0 gX0 tyX0_ok nmX0 rfl (by decide) fl_X0_27 rfl rfl rfl dX0_init_49 ?_
  exact I_vret C ⟨q1, q2, q3, q4, q5, q6, rfl⟩ rfl rfl dX0_init_52
theorem ic_X0 {B : ZB} {l : Launch} {h0 : Nat} (sz : Nat) : IC B l yX0_init cX0_init 1 1 12 6 48 0 (fls 8 (fun j => defaultValue (tyX0 j))) h0 sz [.ref h0] (cr_X0 B h0) :=
  IC_of (by decide) rfl (Nat.le_of_ble_eq_true rfl) (fun x hx C => wi_X0 C) sz
def cr_X3 (B : ZB) (h0 t1 t2 : Nat) (u : va_W) : Prop := ∃ q1 q2 q3 q4 q5 q6 q7 q8 q9 q10 q11, u = [(h0, .inr (2, [.ref t1, .ref t2, .ref q1, .ref q2, .ref q3, .ref q4, .ref q5, .ref q6, .ref q7, .ref q8, .int 0, .ref q9, .ref q10, .ref q11, .int 0])), (q11, .inl (bI B, 60, .inl (fun _ => 0))), (q10, .inl (bI B, 60, .inl (fun _ => 0))), (q9, .inl (bI B, 60, .inl (fun _ => 0))), (q8, .inl (bI B, 40, .inl (fun _ => 0))), (q7, .inl (bI B, 40, .inl (fun _ => 0))), (q6, .inl (bI B, 40, .inl (fun _ => 0))), (q5, .inl (bI B, 40, .inl (fun _ => 0))), (q4, .inl (bI B, 40, .inl (fun _ => 0))), (q3, .inl (bI B, 40, .inl (fun _ => 0))), (q2, .inl (bI B, 40, .inl (fun _ => 0))), (q1, .inl (bI B, 40, .inl (fun _ => 0)))]
set_option maxRecDepth 20000 in
theorem wi_X3 {x : MX} {B : ZB} {h0 t1 t2 : Nat} (C : IOk x B RX3 cX3_init 3 h0 1 12 11 500) : ISim x B 3 h0 11 500 (cr_X3 B h0 t1 t2) 0 0 0 [(0, .ref h0), (1, .ref t1), (2, .ref t2)] [] (.inr (2, fls 15 (fun j => defaultValue (tyX3 j)))) [] := by
  refine I_aload_n C 0 dX3_init_0 rfl ?_
  refine I_obj C oi_X3 dX3_init_1 ⟨by decide, (Nat.le_of_ble_eq_true rfl)⟩ ?_
  refine I_aload_n C 0 dX3_init_4 rfl ?_
  refine I_aload_n C 1 dX3_init_5 rfl ?_
  refine I_put C 0 tyX3 gX3 tyX3_ok nmX3 rfl (by decide) fl_X3_9 rfl rfl rfl dX3_init_6 ?_
  refine I_aload_n C 0 dX3_init_9 rfl ?_
  refine I_aload_n C 2 dX3_init_10 rfl ?_
  refine I_put C 1 tyX3 gX3 tyX3_ok nmX3 rfl (by decide) fl_X3_15 rfl rfl rfl dX3_init_11 ?_
  refine I_aload_n C 0 dX3_init_14 rfl ?_
  refine I_bipush C (40) dX3_init_15 (by decide) ?_
  refine I_newI C 40 (by decide) (by decide) (by decide) ⟨(Nat.le_of_ble_eq_true rfl), (Nat.le_of_ble_eq_true rfl)⟩ dX3_init_17 (fun q1 => ?_)
  refine I_put C 2 tyX3 gX3 tyX3_ok nmX3 rfl (by decide) fl_X3_19 rfl rfl rfl dX3_init_19 ?_
  refine I_aload_n C 0 dX3_init_22 rfl ?_
  refine I_bipush C (40) dX3_init_23 (by decide) ?_
  refine I_newI C 40 (by decide) (by decide) (by decide) ⟨(Nat.le_of_ble_eq_true rfl), (Nat.le_of_ble_eq_true rfl)⟩ dX3_init_25 (fun q2 => ?_)
  refine I_put C 3 tyX3 gX3 tyX3_ok nmX3 rfl (by decide) fl_X3_23 rfl rfl rfl dX3_init_27 ?_
  refine I_aload_n C 0 dX3_init_30 rfl ?_
  refine I_bipush C (40) dX3_init_31 (by decide) ?_
  refine I_newI C 40 (by decide) (by decide) (by decide) ⟨(Nat.le_of_ble_eq_true rfl), (Nat.le_of_ble_eq_true rfl)⟩ dX3_init_33 (fun q3 => ?_)
  refine I_put C 4 tyX3 gX3 tyX3_ok nmX3 rfl (by decide) fl_X3_26 rfl rfl rfl dX3_init_35 ?_
  refine I_aload_n C 0 dX3_init_38 rfl ?_
  refine I_bipush C (40) dX3_init_39 (by decide) ?_
  refine I_newI C 40 (by decide) (by decide) (by decide) ⟨(Nat.le_of_ble_eq_true rfl), (Nat.le_of_ble_eq_true rfl)⟩ dX3_init_41 (fun q4 => ?_)
  refine I_put C 5 tyX3 gX3 tyX3_ok nmX3 rfl (by decide) fl_X3_29 rfl rfl rfl dX3_init_43 ?_
  refine I_aload_n C 0 dX3_init_46 rfl ?_
  refine I_bipush C (40) dX3_init_47 (by decide) ?_
  refine I_newI C 40 (by decide) (by decide) (by decide) ⟨(Nat.le_of_ble_eq_true rfl), (Nat.le_of_ble_eq_true rfl)⟩ dX3_init_49 (fun q5 => ?_)
  refine I_put C 6 tyX3 gX3 tyX3_ok nmX3 rfl (by decide) fl_X3_32 rfl rfl rfl dX3_init_51 ?_
  refine I_aload_n C 0 dX3_init_54 rfl ?_
  refine I_bipush C (40) dX3_init_55 (by decide) ?_
  refine I_newI C 40 (by decide) (by decide) (by decide) ⟨(Nat.le_of_ble_eq_true rfl), (Nat.le_of_ble_eq_true rfl)⟩ dX3_init_57 (fun q6 => ?_)
  refine I_put C 7 tyX3 gX3 tyX3_ok nmX3 rfl (by decide) fl_X3_35 rfl rfl rfl dX3_init_59 ?_
  refine I_aload_n C 0 dX3_init_62 rfl ?_
  refine I_bipush C (40) dX3_init_63 (by decide) ?_
  refine I_newI C 40 (by decide) (by decide) (by decide) ⟨(Nat.le_of_ble_eq_true rfl), (Nat.le_of_ble_eq_true rfl)⟩ dX3_init_65 (fun q7 => ?_)
  refine I_put C 8 tyX3 gX3 tyX3_ok nmX3 rfl (by decide) fl_X3_38 rfl rfl rfl dX3_init_67 ?_
  refine I_aload_n C 0 dX3_init_70 rfl ?_
  refine I_bipush C (40) dX3_init_71 (by decide) ?_
  refine I_newI C 40 (by decide) (by decide) (by decide) ⟨(Nat.le_of_ble_eq_true rfl), (Nat.le_of_ble_eq_true rfl)⟩ dX3_init_73 (fun q8 => ?_)
  refine I_put C 9 tyX3 gX3 tyX3_ok nmX3 rfl (by decide) fl_X3_41 rfl rfl rfl dX3_init_75 ?_
  refine I_aload_n C 0 dX3_init_78 rfl ?_
  refine I_bipush C (60) dX3_init_79 (by decide) ?_
  refine I_newI C 60 (by decide) (by decide) (by decide) ⟨(Nat.le_of_ble_eq_true rfl), (Nat.le_of_ble_eq_true rfl)⟩ dX3_init_81 (fun q9 => ?_)
  refine I_put C 11 tyX3 gX3 tyX3_ok nmX3 rfl (by decide) fl_X3_44 rfl rfl rfl dX3_init_83 ?_
  refine I_aload_n C 0 dX3_init_86 rfl ?_
  refine I_bipush C (60) dX3_init_87 (by decide) ?_
  refine I_newI C 60 (by decide) (by decide) (by decide) ⟨(Nat.le_of_ble_eq_true rfl), (Nat.le_of_ble_eq_true rfl)⟩ dX3_init_89 (fun q10 => ?_)
  refine I_put C 12 tyX3 gX3 tyX3_ok nmX3 rfl (by decide) fl_X3_47 rfl rfl rfl dX3_init_91 ?_
  refine I_aload_n C 0 dX3_init_94 rfl ?_
  refine I_bipush C (60) dX3_init_95 (by decide) ?_
  refine I_newI C 60 (by decide) (by decide) (by decide) ⟨(Nat.le_of_ble_eq_true rfl), (Nat.le_of_ble_eq_true rfl)⟩ dX3_init_97 (fun q11 => ?_)
  refine I_put C 13 tyX3 gX3 tyX3_ok nmX3 rfl (by decide) fl_X3_50 rfl rfl rfl dX3_init_99 ?_
  exact I_vret C ⟨q1, q2, q3, q4, q5, q6, q7, q8, q9, q10, q11, rfl⟩ rfl rfl dX3_init_102
theorem ic_X3 {B : ZB} {l : Launch} {h0 t1 t2 : Nat} (sz : Nat) : IC B l yX3_init cX3_init 3 1 12 11 500 2 (fls 15 (fun j => defaultValue (tyX3 j))) h0 sz [.ref h0, .ref t1, .ref t2] (cr_X3 B h0 t1 t2) :=
  IC_of (by decide) rfl (Nat.le_of_ble_eq_true rfl) (fun x hx C => wi_X3 C) sz
def cr_X4 (B : ZB) (h0 t1 t2 : Nat) (u : va_W) : Prop := ∃ q1 q2, u = [(h0, .inr (3, [.ref t1, .ref t2, .ref q1, .ref q2, .int 0, .int 0, .int 0])), (q2, .inl (bI B, 8, .inl (fun _ => 0))), (q1, .inl (bI B, 8, .inl (fun _ => 0)))]
set_option maxRecDepth 20000 in
theorem wi_X4 {x : MX} {B : ZB} {h0 t1 t2 : Nat} (C : IOk x B RX4 cX4_init 3 h0 1 12 2 16) : ISim x B 3 h0 2 16 (cr_X4 B h0 t1 t2) 0 0 0 [(0, .ref h0), (1, .ref t1), (2, .ref t2)] [] (.inr (3, fls 7 (fun j => defaultValue (tyX4 j)))) [] := by
  refine I_aload_n C 0 dX4_init_0 rfl ?_
  refine I_obj C oi_X4 dX4_init_1 ⟨by decide, (Nat.le_of_ble_eq_true rfl)⟩ ?_
  refine I_aload_n C 0 dX4_init_4 rfl ?_
  refine I_aload_n C 1 dX4_init_5 rfl ?_
  refine I_put C 0 tyX4 gX4 tyX4_ok nmX4 rfl (by decide) fl_X4_9 rfl rfl rfl dX4_init_6 ?_
  refine I_aload_n C 0 dX4_init_9 rfl ?_
  refine I_aload_n C 2 dX4_init_10 rfl ?_
  refine I_put C 1 tyX4 gX4 tyX4_ok nmX4 rfl (by decide) fl_X4_15 rfl rfl rfl dX4_init_11 ?_
  refine I_aload_n C 0 dX4_init_14 rfl ?_
  refine I_bipush C (8) dX4_init_15 (by decide) ?_
  refine I_newI C 8 (by decide) (by decide) (by decide) ⟨(Nat.le_of_ble_eq_true rfl), (Nat.le_of_ble_eq_true rfl)⟩ dX4_init_17 (fun q1 => ?_)
  refine I_put C 2 tyX4 gX4 tyX4_ok nmX4 rfl (by decide) fl_X4_21 rfl rfl rfl dX4_init_19 ?_
  refine I_aload_n C 0 dX4_init_22 rfl ?_
  refine I_bipush C (8) dX4_init_23 (by decide) ?_
  refine I_newI C 8 (by decide) (by decide) (by decide) ⟨(Nat.le_of_ble_eq_true rfl), (Nat.le_of_ble_eq_true rfl)⟩ dX4_init_25 (fun q2 => ?_)
  refine I_put C 3 tyX4 gX4 tyX4_ok nmX4 rfl (by decide) fl_X4_25 rfl rfl rfl dX4_init_27 ?_
  exact I_vret C ⟨q1, q2, rfl⟩ rfl rfl dX4_init_30
theorem ic_X4 {B : ZB} {l : Launch} {h0 t1 t2 : Nat} (sz : Nat) : IC B l yX4_init cX4_init 3 1 12 2 16 3 (fls 7 (fun j => defaultValue (tyX4 j))) h0 sz [.ref h0, .ref t1, .ref t2] (cr_X4 B h0 t1 t2) :=
  IC_of (by decide) rfl (Nat.le_of_ble_eq_true rfl) (fun x hx C => wi_X4 C) sz
def cr_X2 (B : ZB) (h0 : Nat) (u : va_W) : Prop := u = [(h0, .inr (1, [.long 0, .long 0]))]
set_option maxRecDepth 20000 in
theorem wi_X2 {x : MX} {B : ZB} {h0 : Nat} (C : IOk x B RX2 cX2_init 1 h0 1 12 0 0) : ISim x B 1 h0 0 0 (cr_X2 B h0) 0 0 0 [(0, .ref h0)] [] (.inr (1, fls 2 (fun j => defaultValue (tyX2 j)))) [] := by
  refine I_aload_n C 0 dX2_init_0 rfl ?_
  refine I_obj C oi_X2 dX2_init_1 ⟨by decide, (Nat.le_of_ble_eq_true rfl)⟩ ?_
  exact I_vret C rfl rfl rfl dX2_init_4
theorem ic_X2 {B : ZB} {l : Launch} {h0 : Nat} (sz : Nat) : IC B l yX2_init cX2_init 1 1 12 0 0 1 (fls 2 (fun j => defaultValue (tyX2 j))) h0 sz [.ref h0] (cr_X2 B h0) :=
  IC_of (by decide) rfl (Nat.le_of_ble_eq_true rfl) (fun x hx C => wi_X2 C) sz
def cr_X6 (B : ZB) (h0 : Nat) (u : va_W) : Prop := ∃ q1, u = [(h0, .inr (5, [.ref q1, .int 0, .int (-4)])), (q1, .inl (bI B, 64, .inl (fun _ => 0)))]
set_option maxRecDepth 20000 in
theorem wi_X6 {x : MX} {B : ZB} {h0 : Nat} (C : IOk x B RX6 cX6_init 1 h0 1 12 1 64) : ISim x B 1 h0 1 64 (cr_X6 B h0) 0 0 0 [(0, .ref h0)] [] (.inr (5, fls 3 (fun j => defaultValue (tyX6 j)))) [] := by
  refine I_aload_n C 0 dX6_init_0 rfl ?_
  refine I_obj C oi_X6 dX6_init_1 ⟨by decide, (Nat.le_of_ble_eq_true rfl)⟩ ?_
  refine I_aload_n C 0 dX6_init_4 rfl ?_
  refine I_bipush C (64) dX6_init_5 (by decide) ?_
  refine I_newI C 64 (by decide) (by decide) (by decide) ⟨(Nat.le_of_ble_eq_true rfl), (Nat.le_of_ble_eq_true rfl)⟩ dX6_init_7 (fun q1 => ?_)
  refine I_put C 0 tyX6 gX6 tyX6_ok nmX6 rfl (by decide) fl_X6_11 rfl rfl rfl dX6_init_9 ?_
  refine I_aload_n C 0 dX6_init_12 rfl ?_
  refine I_bipush C (-4) dX6_init_13 (by decide) ?_
  refine I_put C 2 tyX6 gX6 tyX6_ok nmX6 rfl (by decide) fl_X6_15 rfl rfl rfl dX6_init_15 ?_
  exact I_vret C ⟨q1, rfl⟩ rfl rfl dX6_init_18
theorem ic_X6 {B : ZB} {l : Launch} {h0 : Nat} (sz : Nat) : IC B l yX6_init cX6_init 1 1 12 1 64 5 (fls 3 (fun j => defaultValue (tyX6 j))) h0 sz [.ref h0] (cr_X6 B h0) :=
  IC_of (by decide) rfl (Nat.le_of_ble_eq_true rfl) (fun x hx C => wi_X6 C) sz
def cr_X5 (B : ZB) (h0 : Nat) (u : va_W) : Prop := ∃ q1 q2 q3 q4 q5 q6, u = [(h0, .inr (4, [.ref q1, .ref q2, .ref q3, .ref q4, .ref q5, .ref q6, .int 0, .int 0])), (q6, .inl (bI B, 729, .inl (s0I 16))), (q5, .inl (bI B, 12, .inl (fun _ => 0))), (q4, .inl (bI B, 12, .inl (fun _ => 0))), (q3, .inl (bI B, 12, .inl (fun _ => 0))), (q2, .inl (bI B, 12, .inl (fun _ => 0))), (q1, .inl (bI B, 8, .inl (s0I 6)))]
set_option maxRecDepth 20000 in
theorem wi_X5 {x : MX} {B : ZB} {h0 : Nat} (C : IOk x B RX5 cX5_init 1 h0 2 99 6 785) : ISim x B 1 h0 6 785 (cr_X5 B h0) 0 0 0 [(0, .ref h0)] [] (.inr (4, fls 8 (fun j => defaultValue (tyX5 j)))) [] := by
  refine I_aload_n C 0 dX5_init_0 rfl ?_
  refine I_obj C oi_X5 dX5_init_1 ⟨by decide, (Nat.le_of_ble_eq_true rfl)⟩ ?_
  refine I_aload_n C 0 dX5_init_4 rfl ?_
  refine I_bipush C (8) dX5_init_5 (by decide) ?_
  refine I_newI C 8 (by decide) (by decide) (by decide) ⟨(Nat.le_of_ble_eq_true rfl), (Nat.le_of_ble_eq_true rfl)⟩ dX5_init_7 (fun q1 => ?_)
  refine I_put C 0 tyX5 gX5 tyX5_ok nmX5 rfl (by decide) fl_X5_11 rfl rfl rfl dX5_init_9 ?_
  refine I_aload_n C 0 dX5_init_12 rfl ?_
  refine I_bipush C (12) dX5_init_13 (by decide) ?_
  refine I_newI C 12 (by decide) (by decide) (by decide) ⟨(Nat.le_of_ble_eq_true rfl), (Nat.le_of_ble_eq_true rfl)⟩ dX5_init_15 (fun q2 => ?_)
  refine I_put C 1 tyX5 gX5 tyX5_ok nmX5 rfl (by decide) fl_X5_15 rfl rfl rfl dX5_init_17 ?_
  refine I_aload_n C 0 dX5_init_20 rfl ?_
  refine I_bipush C (12) dX5_init_21 (by decide) ?_
  refine I_newI C 12 (by decide) (by decide) (by decide) ⟨(Nat.le_of_ble_eq_true rfl), (Nat.le_of_ble_eq_true rfl)⟩ dX5_init_23 (fun q3 => ?_)
  refine I_put C 2 tyX5 gX5 tyX5_ok nmX5 rfl (by decide) fl_X5_18 rfl rfl rfl dX5_init_25 ?_
  refine I_aload_n C 0 dX5_init_28 rfl ?_
  refine I_bipush C (12) dX5_init_29 (by decide) ?_
  refine I_newI C 12 (by decide) (by decide) (by decide) ⟨(Nat.le_of_ble_eq_true rfl), (Nat.le_of_ble_eq_true rfl)⟩ dX5_init_31 (fun q4 => ?_)
  refine I_put C 3 tyX5 gX5 tyX5_ok nmX5 rfl (by decide) fl_X5_21 rfl rfl rfl dX5_init_33 ?_
  refine I_aload_n C 0 dX5_init_36 rfl ?_
  refine I_bipush C (12) dX5_init_37 (by decide) ?_
  refine I_newI C 12 (by decide) (by decide) (by decide) ⟨(Nat.le_of_ble_eq_true rfl), (Nat.le_of_ble_eq_true rfl)⟩ dX5_init_39 (fun q5 => ?_)
  refine I_put C 4 tyX5 gX5 tyX5_ok nmX5 rfl (by decide) fl_X5_24 rfl rfl rfl dX5_init_41 ?_
  refine I_aload_n C 0 dX5_init_44 rfl ?_
  refine I_sipush C (729) dX5_init_45 (by decide) ?_
  refine I_newI C 729 (by decide) (by decide) (by decide) ⟨(Nat.le_of_ble_eq_true rfl), (Nat.le_of_ble_eq_true rfl)⟩ dX5_init_48 (fun q6 => ?_)
  refine I_put C 5 tyX5 gX5 tyX5_ok nmX5 rfl (by decide) fl_X5_27 rfl rfl rfl dX5_init_50 ?_
  refine I_aload_n C 0 dX5_init_53 rfl ?_
  refine I_forget (q1 := q1) (q2 := q2) (q3 := q3) (q4 := q4) (q5 := q5) (q6 := q6) C (by decide) (Nat.le_of_ble_eq_true rfl) (Nat.le_of_ble_eq_true rfl) (Nat.le_of_ble_eq_true rfl) dX5_init_54 ?_
  exact I_vret C ⟨q1, q2, q3, q4, q5, q6, rfl⟩ rfl rfl dX5_init_57
theorem ic_X5 {B : ZB} {l : Launch} {h0 : Nat} (sz : Nat) : IC B l yX5_init cX5_init 1 2 99 6 785 4 (fls 8 (fun j => defaultValue (tyX5 j))) h0 sz [.ref h0] (cr_X5 B h0) :=
  IC_of (by decide) rfl (Nat.le_of_ble_eq_true rfl) (fun x hx C => wi_X5 C) sz
