set_option maxRecDepth 10000 in
theorem WT_X0_areYears {x : MX} {z : ZT} (C : Cok x (wxC z) RX0 cX0_areYears 2 (some .boolean) 0 0) (x0 : Int32) (x1 : Int32) (σ : St) : Sim x (wxC z) 2 (jI σ) (X0_areYears x0 x1 σ) 0 [(0, .int x0), (1, .int x1)] [] σ := by
  rw [X0_areYears]
  refine S_iload_n C 0 dX0_areYears_0 rfl ?_
  refine S_sipush C (1500) dX0_areYears_1 (by decide) ?_
  refine S_icmp_lt C 23 dX0_areYears_4 (by decide) ?_ ?_
  · refine S_iconst C (0) dX0_areYears_23 (by decide) ?_
    exact S_zret C rfl rfl dX0_areYears_24
  · refine S_iload_n C 0 dX0_areYears_7 rfl ?_
    refine S_iload_n C 1 dX0_areYears_8 rfl ?_
    refine S_icmp_gt C 23 dX0_areYears_9 (by decide) ?_ ?_
    · refine S_iconst C (0) dX0_areYears_23 (by decide) ?_
      exact S_zret C rfl rfl dX0_areYears_24
    · refine S_iload_n C 1 dX0_areYears_12 rfl ?_
      refine S_sipush C (1899) dX0_areYears_13 (by decide) ?_
      refine S_icmp_gt C 23 dX0_areYears_16 (by decide) ?_ ?_
      · refine S_iconst C (0) dX0_areYears_23 (by decide) ?_
        exact S_zret C rfl rfl dX0_areYears_24
      · refine S_iconst C (1) dX0_areYears_19 (by decide) ?_
        refine S_goto C 24 dX0_areYears_20 (by decide) ?_
        exact S_zret C rfl rfl dX0_areYears_24
set_option maxRecDepth 10000 in
theorem con_X0_areYears (z : ZT) (l : Launch) (x0 : Int32) (x1 : Int32) (σ : St) : ∀ ro, X0_areYears x0 x1 σ = some ro → Con (wxC z) l yX0_areYears cX0_areYears 2 (some .boolean) 0 0 [.int x0, .int x1] σ ((jI σ) ro) :=
  fun ro hk => Con_of hk (by decide) (Nat.le_of_ble_eq_true rfl) (fun x hx C => WT_X0_areYears C x0 x1 σ)
set_option maxRecDepth 10000 in
theorem K_X0_areYears {x : MX} {z : ZT} {own : String} {cc : ByteArray} {nL : Nat} {ret : Option FieldType} {fr lo : Nat} {ρ : Type} {inj : ρ → Option Value × St} {pc : Nat} {lv : List (Nat × Value)} {st : List Value} {σ : St} (C : Cok x (wxC z) own cc nL ret fr lo) {x0 : Int32} {x1 : Int32} {index : Nat} (hl : Cond.methodLink own index yX0_areYears ∈ gtb) (hR : 0 + 1 ≤ fr ∧ 8 + (2 + 11) + 0 ≤ lo) (hW : (st.map fun v => v.category).sum ≤ 8) (hd : decode cc pc = .ok (.invokestatic index, 3)) {K : Int32 → Option ρ} (h : ∀ v, Sim x (wxC z) nL inj (K v) (pc + 3) lv (.int v :: st) σ) : Sim x (wxC z) nL inj ((X0_areYears x0 x1 σ).bind K) pc lv (.int x1 :: .int x0 :: st) σ :=
  S_callS C (As := [.int x0, .int x1]) (inj1 := (jI σ)) mw_X0_areYears ms_X0_areYears hl (fun ro hro => con_X0_areYears z (mL x) x0 x1 σ ro hro) hR rfl rfl hW hd h
set_option maxRecDepth 10000 in
theorem WT_X0_hasPlace {x : MX} {z : ZT} (C : Cok x (wxC z) RX0 cX0_hasPlace 2 (some .boolean) 0 0) (x1 : Int32) (σ : St) : Sim x (wxC z) 2 (jI σ) (X0_hasPlace x1 σ) 0 [(0, .ref (aC z 27)), (1, .int x1)] [] σ := by
  rw [X0_hasPlace]
  refine S_iload_n C 1 dX0_hasPlace_0 rfl ?_
  refine S_if_lt C 16 dX0_hasPlace_1 (by decide) ?_ ?_
  · refine S_iconst C (0) dX0_hasPlace_16 (by decide) ?_
    exact S_zret C rfl rfl dX0_hasPlace_17
  · refine S_iload_n C 1 dX0_hasPlace_4 rfl ?_
    refine S_aload_n C 0 dX0_hasPlace_5 rfl ?_
    refine G_X0_places C fl_X0_31 dX0_hasPlace_6 ?_
    refine S_icmp_ge C 16 dX0_hasPlace_9 (by decide) ?_ ?_
    · refine S_iconst C (0) dX0_hasPlace_16 (by decide) ?_
      exact S_zret C rfl rfl dX0_hasPlace_17
    · refine S_iconst C (1) dX0_hasPlace_12 (by decide) ?_
      refine S_goto C 17 dX0_hasPlace_13 (by decide) ?_
      exact S_zret C rfl rfl dX0_hasPlace_17
set_option maxRecDepth 10000 in
theorem con_X0_hasPlace (z : ZT) (l : Launch) (x1 : Int32) (σ : St) : ∀ ro, X0_hasPlace x1 σ = some ro → Con (wxC z) l yX0_hasPlace cX0_hasPlace 2 (some .boolean) 0 0 [.ref (aC z 27), .int x1] σ ((jI σ) ro) :=
  fun ro hk => Con_of hk (by decide) (Nat.le_of_ble_eq_true rfl) (fun x hx C => WT_X0_hasPlace C x1 σ)
set_option maxRecDepth 10000 in
theorem K_X0_hasPlace {x : MX} {z : ZT} {own : String} {cc : ByteArray} {nL : Nat} {ret : Option FieldType} {fr lo : Nat} {ρ : Type} {inj : ρ → Option Value × St} {pc : Nat} {lv : List (Nat × Value)} {st : List Value} {σ : St} (C : Cok x (wxC z) own cc nL ret fr lo) {x1 : Int32} {index : Nat} (hl : Cond.methodLink own index yX0_hasPlace ∈ gtb) (hR : 0 + 1 ≤ fr ∧ 8 + (2 + 11) + 0 ≤ lo) (hW : (st.map fun v => v.category).sum ≤ 8) (hd : decode cc pc = .ok (.invokevirtual index, 3)) {K : Int32 → Option ρ} (h : ∀ v, Sim x (wxC z) nL inj (K v) (pc + 3) lv (.int v :: st) σ) : Sim x (wxC z) nL inj ((X0_hasPlace x1 σ).bind K) pc lv (.int x1 :: .ref (aC z 27) :: st) σ :=
  S_callV C (As := [.int x1]) (q := 27) (inj1 := (jI σ)) mw_X0_hasPlace mv_X0_hasPlace hl (fun ro hro => con_X0_hasPlace z (mL x) x1 σ ro hro) hR rfl (show 27 < 59 by decide) rfl (ce_X0 z σ) rfl rfl hW hd h
set_option maxRecDepth 10000 in
theorem WT_X0_has {x : MX} {z : ZT} (C : Cok x (wxC z) RX0 cX0_has 2 (some .boolean) 0 0) (x1 : Int32) (σ : St) : Sim x (wxC z) 2 (jI σ) (X0_has x1 σ) 0 [(0, .ref (aC z 27)), (1, .int x1)] [] σ := by
  rw [X0_has]
  refine S_iload_n C 1 dX0_has_0 rfl ?_
  refine S_if_lt C 16 dX0_has_1 (by decide) ?_ ?_
  · refine S_iconst C (0) dX0_has_16 (by decide) ?_
    exact S_zret C rfl rfl dX0_has_17
  · refine S_iload_n C 1 dX0_has_4 rfl ?_
    refine S_aload_n C 0 dX0_has_5 rfl ?_
    refine G_X0_size C fl_X0_35 dX0_has_6 ?_
    refine S_icmp_ge C 16 dX0_has_9 (by decide) ?_ ?_
    · refine S_iconst C (0) dX0_has_16 (by decide) ?_
      exact S_zret C rfl rfl dX0_has_17
    · refine S_iconst C (1) dX0_has_12 (by decide) ?_
      refine S_goto C 17 dX0_has_13 (by decide) ?_
      exact S_zret C rfl rfl dX0_has_17
set_option maxRecDepth 10000 in
theorem con_X0_has (z : ZT) (l : Launch) (x1 : Int32) (σ : St) : ∀ ro, X0_has x1 σ = some ro → Con (wxC z) l yX0_has cX0_has 2 (some .boolean) 0 0 [.ref (aC z 27), .int x1] σ ((jI σ) ro) :=
  fun ro hk => Con_of hk (by decide) (Nat.le_of_ble_eq_true rfl) (fun x hx C => WT_X0_has C x1 σ)
set_option maxRecDepth 10000 in
theorem K_X0_has {x : MX} {z : ZT} {own : String} {cc : ByteArray} {nL : Nat} {ret : Option FieldType} {fr lo : Nat} {ρ : Type} {inj : ρ → Option Value × St} {pc : Nat} {lv : List (Nat × Value)} {st : List Value} {σ : St} (C : Cok x (wxC z) own cc nL ret fr lo) {x1 : Int32} {index : Nat} (hl : Cond.methodLink own index yX0_has ∈ gtb) (hR : 0 + 1 ≤ fr ∧ 8 + (2 + 11) + 0 ≤ lo) (hW : (st.map fun v => v.category).sum ≤ 8) (hd : decode cc pc = .ok (.invokevirtual index, 3)) {K : Int32 → Option ρ} (h : ∀ v, Sim x (wxC z) nL inj (K v) (pc + 3) lv (.int v :: st) σ) : Sim x (wxC z) nL inj ((X0_has x1 σ).bind K) pc lv (.int x1 :: .ref (aC z 27) :: st) σ :=
  S_callV C (As := [.int x1]) (q := 27) (inj1 := (jI σ)) mw_X0_has mv_X0_has hl (fun ro hro => con_X0_has z (mL x) x1 σ ro hro) hR rfl (show 27 < 59 by decide) rfl (ce_X0 z σ) rfl rfl hW hd h
set_option maxRecDepth 10000 in
theorem WT_X0_appendPlace {x : MX} {z : ZT} (C : Cok x (wxC z) RX0 cX0_appendPlace 3 (some .int) 0 0) (x1 : Int32) (x2 : Int32) (σ : St) : Sim x (wxC z) 3 jIS (X0_appendPlace x1 x2 σ) 0 [(0, .ref (aC z 27)), (1, .int x1), (2, .int x2)] [] σ := by
  rw [X0_appendPlace]
  refine S_aload_n C 0 dX0_appendPlace_0 rfl ?_
  refine G_X0_places C fl_X0_31 dX0_appendPlace_1 ?_
  refine S_bipush C (8) dX0_appendPlace_4 (by decide) ?_
  refine S_icmp_lt C 12 dX0_appendPlace_6 (by decide) ?_ ?_
  · refine S_aload_n C 0 dX0_appendPlace_12 rfl ?_
    refine G_X0_x C fl_X0_11 dX0_appendPlace_13 ?_
    refine S_aload_n C 0 dX0_appendPlace_16 rfl ?_
    refine G_X0_places C fl_X0_31 dX0_appendPlace_17 ?_
    refine S_iload_n C 1 dX0_appendPlace_20 rfl ?_
    refine T_X0_x C dX0_appendPlace_21 (fun _ => ?_)
    refine S_bndS (fun σ1 _ => ?_)
    refine S_aload_n C 0 dX0_appendPlace_22 rfl ?_
    refine G_X0_y C fl_X0_15 dX0_appendPlace_23 ?_
    refine S_aload_n C 0 dX0_appendPlace_26 rfl ?_
    refine G_X0_places C fl_X0_31 dX0_appendPlace_27 ?_
    refine S_iload_n C 2 dX0_appendPlace_30 rfl ?_
    refine T_X0_y C dX0_appendPlace_31 (fun _ => ?_)
    refine S_bndS (fun σ2 _ => ?_)
    refine S_aload_n C 0 dX0_appendPlace_32 rfl ?_
    refine S_dup C dX0_appendPlace_33 rfl ?_
    refine G_X0_places C fl_X0_31 dX0_appendPlace_34 ?_
    refine S_iconst C (1) dX0_appendPlace_37 (by decide) ?_
    refine S_iadd C dX0_appendPlace_38 ?_
    refine P_X0_places C fl_X0_31 dX0_appendPlace_39 ?_
    refine S_bndS (fun σ3 _ => ?_)
    refine S_aload_n C 0 dX0_appendPlace_42 rfl ?_
    refine G_X0_places C fl_X0_31 dX0_appendPlace_43 ?_
    refine S_iconst C (1) dX0_appendPlace_46 (by decide) ?_
    refine S_isub C dX0_appendPlace_47 ?_
    exact S_iret C rfl dX0_appendPlace_48
  · refine S_bipush C (-3) dX0_appendPlace_9 (by decide) ?_
    exact S_iret C rfl dX0_appendPlace_11
set_option maxRecDepth 10000 in
theorem con_X0_appendPlace (z : ZT) (l : Launch) (x1 : Int32) (x2 : Int32) (σ : St) : ∀ ro, X0_appendPlace x1 x2 σ = some ro → Con (wxC z) l yX0_appendPlace cX0_appendPlace 3 (some .int) 0 0 [.ref (aC z 27), .int x1, .int x2] σ (jIS ro) :=
  fun ro hk => Con_of hk (by decide) (Nat.le_of_ble_eq_true rfl) (fun x hx C => WT_X0_appendPlace C x1 x2 σ)
set_option maxRecDepth 10000 in
theorem K_X0_appendPlace {x : MX} {z : ZT} {own : String} {cc : ByteArray} {nL : Nat} {ret : Option FieldType} {fr lo : Nat} {ρ : Type} {inj : ρ → Option Value × St} {pc : Nat} {lv : List (Nat × Value)} {st : List Value} {σ : St} (C : Cok x (wxC z) own cc nL ret fr lo) {x1 : Int32} {x2 : Int32} {index : Nat} (hl : Cond.methodLink own index yX0_appendPlace ∈ gtb) (hR : 0 + 1 ≤ fr ∧ 8 + (3 + 11) + 0 ≤ lo) (hW : (st.map fun v => v.category).sum ≤ 8) (hd : decode cc pc = .ok (.invokevirtual index, 3)) {K : (Int32 × St) → Option ρ} (h : ∀ v, Sim x (wxC z) nL inj (K v) (pc + 3) lv (.int v.1 :: st) v.2) : Sim x (wxC z) nL inj ((X0_appendPlace x1 x2 σ).bind K) pc lv (.int x2 :: .int x1 :: .ref (aC z 27) :: st) σ :=
  S_callV C (As := [.int x1, .int x2]) (q := 27) (inj1 := jIS) mw_X0_appendPlace mv_X0_appendPlace hl (fun ro hro => con_X0_appendPlace z (mL x) x1 x2 σ ro hro) hR rfl (show 27 < 59 by decide) rfl (ce_X0 z σ) rfl rfl hW hd h
set_option maxRecDepth 10000 in
theorem WT_X0_append {x : MX} {z : ZT} (C : Cok x (wxC z) RX0 cX0_append 4 (some .int) 0 0) (x1 : Int32) (x2 : Int32) (x3 : Int32) (σ : St) : Sim x (wxC z) 4 jIS (X0_append x1 x2 x3 σ) 0 [(0, .ref (aC z 27)), (1, .int x1), (2, .int x2), (3, .int x3)] [] σ := by
  rw [X0_append]
  refine S_aload_n C 0 dX0_append_0 rfl ?_
  refine G_X0_size C fl_X0_35 dX0_append_1 ?_
  refine S_bipush C (8) dX0_append_4 (by decide) ?_
  refine S_icmp_lt C 12 dX0_append_6 (by decide) ?_ ?_
  · refine S_aload_n C 0 dX0_append_12 rfl ?_
    refine G_X0_place C fl_X0_18 dX0_append_13 ?_
    refine S_aload_n C 0 dX0_append_16 rfl ?_
    refine G_X0_size C fl_X0_35 dX0_append_17 ?_
    refine S_iload_n C 1 dX0_append_20 rfl ?_
    refine T_X0_place C dX0_append_21 (fun _ => ?_)
    refine S_bndS (fun σ1 _ => ?_)
    refine S_aload_n C 0 dX0_append_22 rfl ?_
    refine G_X0_from C fl_X0_21 dX0_append_23 ?_
    refine S_aload_n C 0 dX0_append_26 rfl ?_
    refine G_X0_size C fl_X0_35 dX0_append_27 ?_
    refine S_iload_n C 2 dX0_append_30 rfl ?_
    refine T_X0_from C dX0_append_31 (fun _ => ?_)
    refine S_bndS (fun σ2 _ => ?_)
    refine S_aload_n C 0 dX0_append_32 rfl ?_
    refine G_X0_to C fl_X0_24 dX0_append_33 ?_
    refine S_aload_n C 0 dX0_append_36 rfl ?_
    refine G_X0_size C fl_X0_35 dX0_append_37 ?_
    refine S_iload_n C 3 dX0_append_40 rfl ?_
    refine T_X0_to C dX0_append_41 (fun _ => ?_)
    refine S_bndS (fun σ3 _ => ?_)
    refine S_aload_n C 0 dX0_append_42 rfl ?_
    refine S_dup C dX0_append_43 rfl ?_
    refine G_X0_size C fl_X0_35 dX0_append_44 ?_
    refine S_iconst C (1) dX0_append_47 (by decide) ?_
    refine S_iadd C dX0_append_48 ?_
    refine P_X0_size C fl_X0_35 dX0_append_49 ?_
    refine S_bndS (fun σ4 _ => ?_)
    refine S_aload_n C 0 dX0_append_52 rfl ?_
    refine G_X0_size C fl_X0_35 dX0_append_53 ?_
    refine S_iconst C (1) dX0_append_56 (by decide) ?_
    refine S_isub C dX0_append_57 ?_
    exact S_iret C rfl dX0_append_58
  · refine S_bipush C (-3) dX0_append_9 (by decide) ?_
    exact S_iret C rfl dX0_append_11
set_option maxRecDepth 10000 in
theorem con_X0_append (z : ZT) (l : Launch) (x1 : Int32) (x2 : Int32) (x3 : Int32) (σ : St) : ∀ ro, X0_append x1 x2 x3 σ = some ro → Con (wxC z) l yX0_append cX0_append 4 (some .int) 0 0 [.ref (aC z 27), .int x1, .int x2, .int x3] σ (jIS ro) :=
  fun ro hk => Con_of hk (by decide) (Nat.le_of_ble_eq_true rfl) (fun x hx C => WT_X0_append C x1 x2 x3 σ)
set_option maxRecDepth 10000 in
theorem K_X0_append {x : MX} {z : ZT} {own : String} {cc : ByteArray} {nL : Nat} {ret : Option FieldType} {fr lo : Nat} {ρ : Type} {inj : ρ → Option Value × St} {pc : Nat} {lv : List (Nat × Value)} {st : List Value} {σ : St} (C : Cok x (wxC z) own cc nL ret fr lo) {x1 : Int32} {x2 : Int32} {x3 : Int32} {index : Nat} (hl : Cond.methodLink own index yX0_append ∈ gtb) (hR : 0 + 1 ≤ fr ∧ 8 + (4 + 11) + 0 ≤ lo) (hW : (st.map fun v => v.category).sum ≤ 8) (hd : decode cc pc = .ok (.invokevirtual index, 3)) {K : (Int32 × St) → Option ρ} (h : ∀ v, Sim x (wxC z) nL inj (K v) (pc + 3) lv (.int v.1 :: st) v.2) : Sim x (wxC z) nL inj ((X0_append x1 x2 x3 σ).bind K) pc lv (.int x3 :: .int x2 :: .int x1 :: .ref (aC z 27) :: st) σ :=
  S_callV C (As := [.int x1, .int x2, .int x3]) (q := 27) (inj1 := jIS) mw_X0_append mv_X0_append hl (fun ro hro => con_X0_append z (mL x) x1 x2 x3 σ ro hro) hR rfl (show 27 < 59 by decide) rfl (ce_X0 z σ) rfl rfl hW hd h
set_option maxRecDepth 10000 in
theorem WT_X0_howFar {x : MX} {z : ZT} (C : Cok x (wxC z) RX0 cX0_howFar 3 (some .int) 1 21) (x1 : Int32) (x2 : Int32) (σ : St) : Sim x (wxC z) 3 (jI σ) (X0_howFar x1 x2 σ) 0 [(0, .ref (aC z 27)), (1, .int x1), (2, .int x2)] [] σ := by
  rw [X0_howFar]
  refine S_aload_n C 0 dX0_howFar_0 rfl ?_
  refine G_X0_x C fl_X0_11 dX0_howFar_1 ?_
  refine S_iload_n C 1 dX0_howFar_4 rfl ?_
  refine L_X0_x C dX0_howFar_5 (fun _ => ?_)
  refine S_aload_n C 0 dX0_howFar_6 rfl ?_
  refine G_X0_x C fl_X0_11 dX0_howFar_7 ?_
  refine S_iload_n C 2 dX0_howFar_10 rfl ?_
  refine L_X0_x C dX0_howFar_11 (fun _ => ?_)
  refine S_isub C dX0_howFar_12 ?_
  refine K_J9_abs_0f7a4 C ml_X0_38 (by decide) (Nat.le_of_ble_eq_true rfl) dX0_howFar_13 (fun v1 => ?_)
  refine S_aload_n C 0 dX0_howFar_16 rfl ?_
  refine G_X0_y C fl_X0_15 dX0_howFar_17 ?_
  refine S_iload_n C 1 dX0_howFar_20 rfl ?_
  refine L_X0_y C dX0_howFar_21 (fun _ => ?_)
  refine S_aload_n C 0 dX0_howFar_22 rfl ?_
  refine G_X0_y C fl_X0_15 dX0_howFar_23 ?_
  refine S_iload_n C 2 dX0_howFar_26 rfl ?_
  refine L_X0_y C dX0_howFar_27 (fun _ => ?_)
  refine S_isub C dX0_howFar_28 ?_
  refine K_J9_abs_0f7a4 C ml_X0_38 (by decide) (Nat.le_of_ble_eq_true rfl) dX0_howFar_29 (fun v2 => ?_)
  refine S_iadd C dX0_howFar_32 ?_
  exact S_iret C rfl dX0_howFar_33
set_option maxRecDepth 10000 in
theorem con_X0_howFar (z : ZT) (l : Launch) (x1 : Int32) (x2 : Int32) (σ : St) : ∀ ro, X0_howFar x1 x2 σ = some ro → Con (wxC z) l yX0_howFar cX0_howFar 3 (some .int) 1 21 [.ref (aC z 27), .int x1, .int x2] σ ((jI σ) ro) :=
  fun ro hk => Con_of hk (by decide) (Nat.le_of_ble_eq_true rfl) (fun x hx C => WT_X0_howFar C x1 x2 σ)
set_option maxRecDepth 10000 in
theorem K_X0_howFar {x : MX} {z : ZT} {own : String} {cc : ByteArray} {nL : Nat} {ret : Option FieldType} {fr lo : Nat} {ρ : Type} {inj : ρ → Option Value × St} {pc : Nat} {lv : List (Nat × Value)} {st : List Value} {σ : St} (C : Cok x (wxC z) own cc nL ret fr lo) {x1 : Int32} {x2 : Int32} {index : Nat} (hl : Cond.methodLink own index yX0_howFar ∈ gtb) (hR : 1 + 1 ≤ fr ∧ 8 + (3 + 11) + 21 ≤ lo) (hW : (st.map fun v => v.category).sum ≤ 8) (hd : decode cc pc = .ok (.invokevirtual index, 3)) {K : Int32 → Option ρ} (h : ∀ v, Sim x (wxC z) nL inj (K v) (pc + 3) lv (.int v :: st) σ) : Sim x (wxC z) nL inj ((X0_howFar x1 x2 σ).bind K) pc lv (.int x2 :: .int x1 :: .ref (aC z 27) :: st) σ :=
  S_callV C (As := [.int x1, .int x2]) (q := 27) (inj1 := (jI σ)) mw_X0_howFar mv_X0_howFar hl (fun ro hro => con_X0_howFar z (mL x) x1 x2 σ ro hro) hR rfl (show 27 < 59 by decide) rfl (ce_X0 z σ) rfl rfl hW hd h
set_option maxRecDepth 10000 in
theorem WT_X0_yearsOf {x : MX} {z : ZT} (C : Cok x (wxC z) RX0 cX0_yearsOf 2 (some .int) 0 0) (x1 : Int32) (σ : St) : Sim x (wxC z) 2 (jI σ) (X0_yearsOf x1 σ) 0 [(0, .ref (aC z 27)), (1, .int x1)] [] σ := by
  rw [X0_yearsOf]
  refine S_aload_n C 0 dX0_yearsOf_0 rfl ?_
  refine G_X0_to C fl_X0_24 dX0_yearsOf_1 ?_
  refine S_iload_n C 1 dX0_yearsOf_4 rfl ?_
  refine L_X0_to C dX0_yearsOf_5 (fun _ => ?_)
  refine S_aload_n C 0 dX0_yearsOf_6 rfl ?_
  refine G_X0_from C fl_X0_21 dX0_yearsOf_7 ?_
  refine S_iload_n C 1 dX0_yearsOf_10 rfl ?_
  refine L_X0_from C dX0_yearsOf_11 (fun _ => ?_)
  refine S_isub C dX0_yearsOf_12 ?_
  refine S_iconst C (1) dX0_yearsOf_13 (by decide) ?_
  refine S_iadd C dX0_yearsOf_14 ?_
  exact S_iret C rfl dX0_yearsOf_15
set_option maxRecDepth 10000 in
theorem con_X0_yearsOf (z : ZT) (l : Launch) (x1 : Int32) (σ : St) : ∀ ro, X0_yearsOf x1 σ = some ro → Con (wxC z) l yX0_yearsOf cX0_yearsOf 2 (some .int) 0 0 [.ref (aC z 27), .int x1] σ ((jI σ) ro) :=
  fun ro hk => Con_of hk (by decide) (Nat.le_of_ble_eq_true rfl) (fun x hx C => WT_X0_yearsOf C x1 σ)
set_option maxRecDepth 10000 in
theorem K_X0_yearsOf {x : MX} {z : ZT} {own : String} {cc : ByteArray} {nL : Nat} {ret : Option FieldType} {fr lo : Nat} {ρ : Type} {inj : ρ → Option Value × St} {pc : Nat} {lv : List (Nat × Value)} {st : List Value} {σ : St} (C : Cok x (wxC z) own cc nL ret fr lo) {x1 : Int32} {index : Nat} (hl : Cond.methodLink own index yX0_yearsOf ∈ gtb) (hR : 0 + 1 ≤ fr ∧ 8 + (2 + 11) + 0 ≤ lo) (hW : (st.map fun v => v.category).sum ≤ 8) (hd : decode cc pc = .ok (.invokevirtual index, 3)) {K : Int32 → Option ρ} (h : ∀ v, Sim x (wxC z) nL inj (K v) (pc + 3) lv (.int v :: st) σ) : Sim x (wxC z) nL inj ((X0_yearsOf x1 σ).bind K) pc lv (.int x1 :: .ref (aC z 27) :: st) σ :=
  S_callV C (As := [.int x1]) (q := 27) (inj1 := (jI σ)) mw_X0_yearsOf mv_X0_yearsOf hl (fun ro hro => con_X0_yearsOf z (mL x) x1 σ ro hro) hR rfl (show 27 < 59 by decide) rfl (ce_X0 z σ) rfl rfl hW hd h
set_option maxRecDepth 10000 in
theorem WT_X0_hasYear {x : MX} {z : ZT} (C : Cok x (wxC z) RX0 cX0_hasYear 3 (some .boolean) 0 0) (x1 : Int32) (x2 : Int32) (σ : St) : Sim x (wxC z) 3 (jI σ) (X0_hasYear x1 x2 σ) 0 [(0, .ref (aC z 27)), (1, .int x1), (2, .int x2)] [] σ := by
  rw [X0_hasYear]
  refine S_iload_n C 2 dX0_hasYear_0 rfl ?_
  refine S_aload_n C 0 dX0_hasYear_1 rfl ?_
  refine G_X0_from C fl_X0_21 dX0_hasYear_2 ?_
  refine S_iload_n C 1 dX0_hasYear_5 rfl ?_
  refine L_X0_from C dX0_hasYear_6 (fun _ => ?_)
  refine S_icmp_lt C 24 dX0_hasYear_7 (by decide) ?_ ?_
  · refine S_iconst C (0) dX0_hasYear_24 (by decide) ?_
    exact S_zret C rfl rfl dX0_hasYear_25
  · refine S_iload_n C 2 dX0_hasYear_10 rfl ?_
    refine S_aload_n C 0 dX0_hasYear_11 rfl ?_
    refine G_X0_to C fl_X0_24 dX0_hasYear_12 ?_
    refine S_iload_n C 1 dX0_hasYear_15 rfl ?_
    refine L_X0_to C dX0_hasYear_16 (fun _ => ?_)
    refine S_icmp_gt C 24 dX0_hasYear_17 (by decide) ?_ ?_
    · refine S_iconst C (0) dX0_hasYear_24 (by decide) ?_
      exact S_zret C rfl rfl dX0_hasYear_25
    · refine S_iconst C (1) dX0_hasYear_20 (by decide) ?_
      refine S_goto C 25 dX0_hasYear_21 (by decide) ?_
      exact S_zret C rfl rfl dX0_hasYear_25
set_option maxRecDepth 10000 in
theorem con_X0_hasYear (z : ZT) (l : Launch) (x1 : Int32) (x2 : Int32) (σ : St) : ∀ ro, X0_hasYear x1 x2 σ = some ro → Con (wxC z) l yX0_hasYear cX0_hasYear 3 (some .boolean) 0 0 [.ref (aC z 27), .int x1, .int x2] σ ((jI σ) ro) :=
  fun ro hk => Con_of hk (by decide) (Nat.le_of_ble_eq_true rfl) (fun x hx C => WT_X0_hasYear C x1 x2 σ)
set_option maxRecDepth 10000 in
theorem K_X0_hasYear {x : MX} {z : ZT} {own : String} {cc : ByteArray} {nL : Nat} {ret : Option FieldType} {fr lo : Nat} {ρ : Type} {inj : ρ → Option Value × St} {pc : Nat} {lv : List (Nat × Value)} {st : List Value} {σ : St} (C : Cok x (wxC z) own cc nL ret fr lo) {x1 : Int32} {x2 : Int32} {index : Nat} (hl : Cond.methodLink own index yX0_hasYear ∈ gtb) (hR : 0 + 1 ≤ fr ∧ 8 + (3 + 11) + 0 ≤ lo) (hW : (st.map fun v => v.category).sum ≤ 8) (hd : decode cc pc = .ok (.invokevirtual index, 3)) {K : Int32 → Option ρ} (h : ∀ v, Sim x (wxC z) nL inj (K v) (pc + 3) lv (.int v :: st) σ) : Sim x (wxC z) nL inj ((X0_hasYear x1 x2 σ).bind K) pc lv (.int x2 :: .int x1 :: .ref (aC z 27) :: st) σ :=
  S_callV C (As := [.int x1, .int x2]) (q := 27) (inj1 := (jI σ)) mw_X0_hasYear mv_X0_hasYear hl (fun ro hro => con_X0_hasYear z (mL x) x1 x2 σ ro hro) hR rfl (show 27 < 59 by decide) rfl (ce_X0 z σ) rfl rfl hW hd h
set_option maxRecDepth 10000 in
theorem WT_X0_isHole {x : MX} {z : ZT} (C : Cok x (wxC z) RX0 cX0_isHole 3 (some .boolean) 0 0) (x1 : Int32) (x2 : Int32) (σ : St) : Sim x (wxC z) 3 (jI σ) (X0_isHole x1 x2 σ) 0 [(0, .ref (aC z 27)), (1, .int x1), (2, .int x2)] [] σ := by
  rw [X0_isHole]
  refine S_aload_n C 0 dX0_isHole_0 rfl ?_
  refine G_X0_holes C fl_X0_27 dX0_isHole_1 ?_
  refine S_iload_n C 1 dX0_isHole_4 rfl ?_
  refine L_X0_holes C dX0_isHole_5 (fun _ => ?_)
  refine S_iload_n C 2 dX0_isHole_6 rfl ?_
  refine S_aload_n C 0 dX0_isHole_7 rfl ?_
  refine G_X0_from C fl_X0_21 dX0_isHole_8 ?_
  refine S_iload_n C 1 dX0_isHole_11 rfl ?_
  refine L_X0_from C dX0_isHole_12 (fun _ => ?_)
  refine S_isub C dX0_isHole_13 ?_
  refine S_lshr C dX0_isHole_14 ?_
  refine S_lconst C (1) dX0_isHole_15 (by decide) ?_
  refine S_land C dX0_isHole_16 ?_
  refine S_lconst C (1) dX0_isHole_17 (by decide) ?_
  refine S_lc_ne C 26 dX0_isHole_18 dX0_isHole_19 (by decide) ?_ ?_
  · refine S_iconst C (0) dX0_isHole_26 (by decide) ?_
    exact S_zret C rfl rfl dX0_isHole_27
  · refine S_iconst C (1) dX0_isHole_22 (by decide) ?_
    refine S_goto C 27 dX0_isHole_23 (by decide) ?_
    exact S_zret C rfl rfl dX0_isHole_27
set_option maxRecDepth 10000 in
theorem con_X0_isHole (z : ZT) (l : Launch) (x1 : Int32) (x2 : Int32) (σ : St) : ∀ ro, X0_isHole x1 x2 σ = some ro → Con (wxC z) l yX0_isHole cX0_isHole 3 (some .boolean) 0 0 [.ref (aC z 27), .int x1, .int x2] σ ((jI σ) ro) :=
  fun ro hk => Con_of hk (by decide) (Nat.le_of_ble_eq_true rfl) (fun x hx C => WT_X0_isHole C x1 x2 σ)
set_option maxRecDepth 10000 in
theorem K_X0_isHole {x : MX} {z : ZT} {own : String} {cc : ByteArray} {nL : Nat} {ret : Option FieldType} {fr lo : Nat} {ρ : Type} {inj : ρ → Option Value × St} {pc : Nat} {lv : List (Nat × Value)} {st : List Value} {σ : St} (C : Cok x (wxC z) own cc nL ret fr lo) {x1 : Int32} {x2 : Int32} {index : Nat} (hl : Cond.methodLink own index yX0_isHole ∈ gtb) (hR : 0 + 1 ≤ fr ∧ 8 + (3 + 11) + 0 ≤ lo) (hW : (st.map fun v => v.category).sum ≤ 8) (hd : decode cc pc = .ok (.invokevirtual index, 3)) {K : Int32 → Option ρ} (h : ∀ v, Sim x (wxC z) nL inj (K v) (pc + 3) lv (.int v :: st) σ) : Sim x (wxC z) nL inj ((X0_isHole x1 x2 σ).bind K) pc lv (.int x2 :: .int x1 :: .ref (aC z 27) :: st) σ :=
  S_callV C (As := [.int x1, .int x2]) (q := 27) (inj1 := (jI σ)) mw_X0_isHole mv_X0_isHole hl (fun ro hro => con_X0_isHole z (mL x) x1 x2 σ ro hro) hR rfl (show 27 < 59 by decide) rfl (ce_X0 z σ) rfl rfl hW hd h
set_option maxRecDepth 10000 in
theorem WT_X0_setHole {x : MX} {z : ZT} (C : Cok x (wxC z) RX0 cX0_setHole 6 none 0 0) (x1 : Int32) (x2 : Int32) (x3 : Int32) (σ : St) : Sim x (wxC z) 6 jV (X0_setHole x1 x2 x3 σ) 0 [(0, .ref (aC z 27)), (1, .int x1), (2, .int x2), (3, .int x3)] [] σ := by
  rw [X0_setHole]
  refine S_lconst C (1) dX0_setHole_0 (by decide) ?_
  refine S_iload_n C 2 dX0_setHole_1 rfl ?_
  refine S_aload_n C 0 dX0_setHole_2 rfl ?_
  refine G_X0_from C fl_X0_21 dX0_setHole_3 ?_
  refine S_iload_n C 1 dX0_setHole_6 rfl ?_
  refine L_X0_from C dX0_setHole_7 (fun _ => ?_)
  refine S_isub C dX0_setHole_8 ?_
  refine S_lshl C dX0_setHole_9 ?_
  refine S_bndTL (fun x4_1 _ => ?_)
  refine S_lstore C [(4, .long x4_1), (0, .ref (aC z 27)), (1, .int x1), (2, .int x2), (3, .int x3)] dX0_setHole_10 (by decide) rfl ?_
  refine S_aload_n C 1 dX0_setHole_12 rfl ?_
  refine G_X0_holes C fl_X0_27 dX0_setHole_13 ?_
  refine S_iload_n C 2 dX0_setHole_16 rfl ?_
  refine S_iload_n C 4 dX0_setHole_17 rfl ?_
  refine S_if_eq C 33 dX0_setHole_18 (by decide) ?_ ?_
  · refine S_aload_n C 1 dX0_setHole_33 rfl ?_
    refine G_X0_holes C fl_X0_27 dX0_setHole_34 ?_
    refine S_iload_n C 2 dX0_setHole_37 rfl ?_
    refine L_X0_holes C dX0_setHole_38 (fun _ => ?_)
    refine S_lload C 0 dX0_setHole_39 rfl ?_
    refine S_ldc2 C (-1) kl_X0_44 dX0_setHole_41 ?_
    refine S_lxor C dX0_setHole_44 ?_
    refine S_land C dX0_setHole_45 ?_
    refine T_X0_holes C dX0_setHole_46 (fun _ => ?_)
    refine S_bndS (fun σ2 _ => ?_)
    exact S_vret C rfl dX0_setHole_47
  · refine S_aload_n C 1 dX0_setHole_21 rfl ?_
    refine G_X0_holes C fl_X0_27 dX0_setHole_22 ?_
    refine S_iload_n C 2 dX0_setHole_25 rfl ?_
    refine L_X0_holes C dX0_setHole_26 (fun _ => ?_)
    refine S_lload C 0 dX0_setHole_27 rfl ?_
    refine S_lor C dX0_setHole_29 ?_
    refine S_goto C 46 dX0_setHole_30 (by decide) ?_
    refine T_X0_holes C dX0_setHole_46 (fun _ => ?_)
    refine S_bndS (fun σ3 _ => ?_)
    exact S_vret C rfl dX0_setHole_47
set_option maxRecDepth 10000 in
theorem con_X0_setHole (z : ZT) (l : Launch) (x1 : Int32) (x2 : Int32) (x3 : Int32) (σ : St) : ∀ ro, X0_setHole x1 x2 x3 σ = some ro → Con (wxC z) l yX0_setHole cX0_setHole 6 none 0 0 [.ref (aC z 27), .int x1, .int x2, .int x3] σ (jV ro) :=
  fun ro hk => Con_of hk (by decide) (Nat.le_of_ble_eq_true rfl) (fun x hx C => WT_X0_setHole C x1 x2 x3 σ)
set_option maxRecDepth 10000 in
theorem K_X0_setHole {x : MX} {z : ZT} {own : String} {cc : ByteArray} {nL : Nat} {ret : Option FieldType} {fr lo : Nat} {ρ : Type} {inj : ρ → Option Value × St} {pc : Nat} {lv : List (Nat × Value)} {st : List Value} {σ : St} (C : Cok x (wxC z) own cc nL ret fr lo) {x1 : Int32} {x2 : Int32} {x3 : Int32} {index : Nat} (hl : Cond.methodLink own index yX0_setHole ∈ gtb) (hR : 0 + 1 ≤ fr ∧ 8 + (6 + 11) + 0 ≤ lo) (hW : (st.map fun v => v.category).sum ≤ 8) (hd : decode cc pc = .ok (.invokevirtual index, 3)) {K : St → Option ρ} (h : ∀ v, Sim x (wxC z) nL inj (K v) (pc + 3) lv (st) v) : Sim x (wxC z) nL inj ((X0_setHole x1 x2 x3 σ).bind K) pc lv (.int x3 :: .int x2 :: .int x1 :: .ref (aC z 27) :: st) σ :=
  S_callV C (As := [.int x1, .int x2, .int x3]) (q := 27) (inj1 := jV) mw_X0_setHole mv_X0_setHole hl (fun ro hro => con_X0_setHole z (mL x) x1 x2 x3 σ ro hro) hR rfl (show 27 < 59 by decide) rfl (ce_X0 z σ) rfl rfl hW hd h
set_option maxRecDepth 10000 in
theorem WT_X0_latestReadable_L7 {x : MX} {z : ZT} (C : Cok x (wxC z) RX0 cX0_latestReadable 3 (some .int) 1 22) (σ : St) : ∀ (n : Nat) (x1 : Int32) (x2 : Int32), Sim x (wxC z) 3 (jI σ) (X0_latestReadable_L7 σ n x1 x2) 7 [(0, .ref (aC z 27)), (1, .int x1), (2, .int x2)] [] σ := by
  intro n
  induction n with
  | zero =>
    intros
    exact S_none
  | succ n ih =>
    intro x1 x2
    rw [X0_latestReadable_L7]
    refine S_iload_n C 2 dX0_latestReadable_7 rfl ?_
    refine S_aload_n C 0 dX0_latestReadable_8 rfl ?_
    refine G_X0_from C fl_X0_21 dX0_latestReadable_9 ?_
    refine S_iload_n C 1 dX0_latestReadable_12 rfl ?_
    refine L_X0_from C dX0_latestReadable_13 (fun _ => ?_)
    refine S_icmp_lt C 34 dX0_latestReadable_14 (by decide) ?_ ?_
    · refine S_bipush C (-4) dX0_latestReadable_34 (by decide) ?_
      exact S_iret C rfl dX0_latestReadable_36
    · refine S_aload_n C 0 dX0_latestReadable_17 rfl ?_
      refine S_iload_n C 1 dX0_latestReadable_18 rfl ?_
      refine S_iload_n C 2 dX0_latestReadable_19 rfl ?_
      refine K_X0_isHole C ml_X0_46 (by decide) (Nat.le_of_ble_eq_true rfl) dX0_latestReadable_20 (fun v2 => ?_)
      refine S_if_ne C 28 dX0_latestReadable_23 (by decide) ?_ ?_
      · refine S_iinc C 2 [(2, .int (x2 + (-1))), (0, .ref (aC z 27)), (1, .int x1)] (x2 + (-1)) dX0_latestReadable_28 rfl rfl (by decide) rfl ?_
        refine S_goto C 7 dX0_latestReadable_31 (by decide) ?_
        exact S_sub [1, 2, 0] rfl (ih x1 (x2 + (-1)))
      · refine S_iload_n C 2 dX0_latestReadable_26 rfl ?_
        exact S_iret C rfl dX0_latestReadable_27
set_option maxRecDepth 10000 in
theorem WT_X0_latestReadable {x : MX} {z : ZT} (C : Cok x (wxC z) RX0 cX0_latestReadable 3 (some .int) 1 22) (x1 : Int32) (σ : St) : Sim x (wxC z) 3 (jI σ) (X0_latestReadable x1 σ) 0 [(0, .ref (aC z 27)), (1, .int x1)] [] σ := by
  rw [X0_latestReadable]
  refine S_aload_n C 0 dX0_latestReadable_0 rfl ?_
  refine G_X0_to C fl_X0_24 dX0_latestReadable_1 ?_
  refine S_iload_n C 1 dX0_latestReadable_4 rfl ?_
  refine L_X0_to C dX0_latestReadable_5 (fun _ => ?_)
  refine S_bndT (fun x2_1 _ => ?_)
  refine S_istore_n C [(2, .int x2_1), (0, .ref (aC z 27)), (1, .int x1)] (i := 2) dX0_latestReadable_6 rfl (by decide) rfl ?_
  exact S_sub [1, 2, 0] rfl (WT_X0_latestReadable_L7 C σ FU x1 x2_1)
set_option maxRecDepth 10000 in
theorem con_X0_latestReadable (z : ZT) (l : Launch) (x1 : Int32) (σ : St) : ∀ ro, X0_latestReadable x1 σ = some ro → Con (wxC z) l yX0_latestReadable cX0_latestReadable 3 (some .int) 1 22 [.ref (aC z 27), .int x1] σ ((jI σ) ro) :=
  fun ro hk => Con_of hk (by decide) (Nat.le_of_ble_eq_true rfl) (fun x hx C => WT_X0_latestReadable C x1 σ)
set_option maxRecDepth 10000 in
theorem K_X0_latestReadable {x : MX} {z : ZT} {own : String} {cc : ByteArray} {nL : Nat} {ret : Option FieldType} {fr lo : Nat} {ρ : Type} {inj : ρ → Option Value × St} {pc : Nat} {lv : List (Nat × Value)} {st : List Value} {σ : St} (C : Cok x (wxC z) own cc nL ret fr lo) {x1 : Int32} {index : Nat} (hl : Cond.methodLink own index yX0_latestReadable ∈ gtb) (hR : 1 + 1 ≤ fr ∧ 8 + (3 + 11) + 22 ≤ lo) (hW : (st.map fun v => v.category).sum ≤ 8) (hd : decode cc pc = .ok (.invokevirtual index, 3)) {K : Int32 → Option ρ} (h : ∀ v, Sim x (wxC z) nL inj (K v) (pc + 3) lv (.int v :: st) σ) : Sim x (wxC z) nL inj ((X0_latestReadable x1 σ).bind K) pc lv (.int x1 :: .ref (aC z 27) :: st) σ :=
  S_callV C (As := [.int x1]) (q := 27) (inj1 := (jI σ)) mw_X0_latestReadable mv_X0_latestReadable hl (fun ro hro => con_X0_latestReadable z (mL x) x1 σ ro hro) hR rfl (show 27 < 59 by decide) rfl (ce_X0 z σ) rfl rfl hW hd h
set_option maxRecDepth 10000 in
theorem WT_X0_readableYearsOf_L27 {x : MX} {z : ZT} (C : Cok x (wxC z) RX0 cX0_readableYearsOf 7 (some .int) 1 22) (σ : St) : ∀ (n : Nat) (x1 : Int32) (x4 : Int32) (x5 : Int32) (x6 : Int32), Sim x (wxC z) 7 (jI σ) (X0_readableYearsOf_L27 σ n x1 x4 x5 x6) 27 [(0, .ref (aC z 27)), (1, .int x1), (4, .int x4), (5, .int x5), (6, .int x6)] [] σ := by
  intro n
  induction n with
  | zero =>
    intros
    exact S_none
  | succ n ih =>
    intro x1 x4 x5 x6
    rw [X0_readableYearsOf_L27]
    refine S_iload C 4 dX0_readableYearsOf_27 rfl ?_
    refine S_iload C 3 dX0_readableYearsOf_29 rfl ?_
    refine S_icmp_gt C 53 dX0_readableYearsOf_31 (by decide) ?_ ?_
    · refine S_iload C 2 dX0_readableYearsOf_53 rfl ?_
      exact S_iret C rfl dX0_readableYearsOf_55
    · refine S_aload_n C 0 dX0_readableYearsOf_34 rfl ?_
      refine S_iload_n C 1 dX0_readableYearsOf_35 rfl ?_
      refine S_iload C 4 dX0_readableYearsOf_36 rfl ?_
      refine K_X0_isHole C ml_X0_46 (by decide) (Nat.le_of_ble_eq_true rfl) dX0_readableYearsOf_38 (fun v3 => ?_)
      refine S_if_ne C 47 dX0_readableYearsOf_41 (by decide) ?_ ?_
      · refine S_iinc C 4 [(6, .int (x6 + 1)), (0, .ref (aC z 27)), (1, .int x1), (4, .int x4), (5, .int x5)] (x6 + 1) dX0_readableYearsOf_47 rfl rfl (by decide) rfl ?_
        refine S_goto C 27 dX0_readableYearsOf_50 (by decide) ?_
        exact S_sub [1, 2, 3, 4, 0] rfl (ih x1 x4 x5 (x6 + 1))
      · refine S_iinc C 2 [(4, .int (x4 + 1)), (0, .ref (aC z 27)), (1, .int x1), (5, .int x5), (6, .int x6)] (x4 + 1) dX0_readableYearsOf_44 rfl rfl (by decide) rfl ?_
        refine S_iinc C 4 [(6, .int (x6 + 1)), (4, .int (x4 + 1)), (0, .ref (aC z 27)), (1, .int x1), (5, .int x5)] (x6 + 1) dX0_readableYearsOf_47 rfl rfl (by decide) rfl ?_
        refine S_goto C 27 dX0_readableYearsOf_50 (by decide) ?_
        exact S_sub [2, 3, 1, 4, 0] rfl (ih x1 (x4 + 1) x5 (x6 + 1))
set_option maxRecDepth 10000 in
theorem WT_X0_readableYearsOf {x : MX} {z : ZT} (C : Cok x (wxC z) RX0 cX0_readableYearsOf 7 (some .int) 1 22) (x1 : Int32) (x2 : Int32) (x3 : Int32) (σ : St) : Sim x (wxC z) 7 (jI σ) (X0_readableYearsOf x1 x2 x3 σ) 0 [(0, .ref (aC z 27)), (1, .int x1), (2, .int x2), (3, .int x3)] [] σ := by
  rw [X0_readableYearsOf]
  refine S_iconst C (0) dX0_readableYearsOf_0 (by decide) ?_
  refine S_istore C [(4, .int 0), (0, .ref (aC z 27)), (1, .int x1), (2, .int x2), (3, .int x3)] dX0_readableYearsOf_1 (by decide) rfl ?_
  refine S_iload_n C 4 dX0_readableYearsOf_3 rfl ?_
  refine S_aload_n C 1 dX0_readableYearsOf_4 rfl ?_
  refine G_X0_to C fl_X0_24 dX0_readableYearsOf_5 ?_
  refine S_iload_n C 2 dX0_readableYearsOf_8 rfl ?_
  refine L_X0_to C dX0_readableYearsOf_9 (fun _ => ?_)
  refine K_J9_min_7cf53 C ml_X0_54 (by decide) (Nat.le_of_ble_eq_true rfl) dX0_readableYearsOf_10 (fun v1 => ?_)
  refine S_istore C [(5, .int v1), (4, .int 0), (0, .ref (aC z 27)), (1, .int x1), (2, .int x2), (3, .int x3)] dX0_readableYearsOf_13 (by decide) rfl ?_
  refine S_iload_n C 4 dX0_readableYearsOf_15 rfl ?_
  refine S_aload_n C 2 dX0_readableYearsOf_16 rfl ?_
  refine G_X0_from C fl_X0_21 dX0_readableYearsOf_17 ?_
  refine S_iload_n C 3 dX0_readableYearsOf_20 rfl ?_
  refine L_X0_from C dX0_readableYearsOf_21 (fun _ => ?_)
  refine K_J9_max_7cf53 C ml_X0_58 (by decide) (Nat.le_of_ble_eq_true rfl) dX0_readableYearsOf_22 (fun v2 => ?_)
  refine S_istore C [(6, .int v2), (5, .int v1), (4, .int 0), (0, .ref (aC z 27)), (1, .int x1), (2, .int x2), (3, .int x3)] dX0_readableYearsOf_25 (by decide) rfl ?_
  exact S_sub [3, 4, 2, 1, 0] rfl (WT_X0_readableYearsOf_L27 C σ FU x1 (0 : Int32) v1 v2)
set_option maxRecDepth 10000 in
theorem con_X0_readableYearsOf (z : ZT) (l : Launch) (x1 : Int32) (x2 : Int32) (x3 : Int32) (σ : St) : ∀ ro, X0_readableYearsOf x1 x2 x3 σ = some ro → Con (wxC z) l yX0_readableYearsOf cX0_readableYearsOf 7 (some .int) 1 22 [.ref (aC z 27), .int x1, .int x2, .int x3] σ ((jI σ) ro) :=
  fun ro hk => Con_of hk (by decide) (Nat.le_of_ble_eq_true rfl) (fun x hx C => WT_X0_readableYearsOf C x1 x2 x3 σ)
set_option maxRecDepth 10000 in
theorem K_X0_readableYearsOf {x : MX} {z : ZT} {own : String} {cc : ByteArray} {nL : Nat} {ret : Option FieldType} {fr lo : Nat} {ρ : Type} {inj : ρ → Option Value × St} {pc : Nat} {lv : List (Nat × Value)} {st : List Value} {σ : St} (C : Cok x (wxC z) own cc nL ret fr lo) {x1 : Int32} {x2 : Int32} {x3 : Int32} {index : Nat} (hl : Cond.methodLink own index yX0_readableYearsOf ∈ gtb) (hR : 1 + 1 ≤ fr ∧ 8 + (7 + 11) + 22 ≤ lo) (hW : (st.map fun v => v.category).sum ≤ 8) (hd : decode cc pc = .ok (.invokevirtual index, 3)) {K : Int32 → Option ρ} (h : ∀ v, Sim x (wxC z) nL inj (K v) (pc + 3) lv (.int v :: st) σ) : Sim x (wxC z) nL inj ((X0_readableYearsOf x1 x2 x3 σ).bind K) pc lv (.int x3 :: .int x2 :: .int x1 :: .ref (aC z 27) :: st) σ :=
  S_callV C (As := [.int x1, .int x2, .int x3]) (q := 27) (inj1 := (jI σ)) mw_X0_readableYearsOf mv_X0_readableYearsOf hl (fun ro hro => con_X0_readableYearsOf z (mL x) x1 x2 x3 σ ro hro) hR rfl (show 27 < 59 by decide) rfl (ce_X0 z σ) rfl rfl hW hd h
set_option maxRecDepth 10000 in
theorem WT_X0_readableYears_L6 {x : MX} {z : ZT} (C : Cok x (wxC z) RX0 cX0_readableYears 6 (some .int) 2 48) (σ : St) : ∀ (n : Nat) (x1 : Int32) (x2 : Int32) (x3 : Int32) (x4 : Int32) (x5 : Int32), Sim x (wxC z) 6 (jI σ) (X0_readableYears_L6 σ n x1 x2 x3 x4 x5) 6 [(0, .ref (aC z 27)), (1, .int x1), (2, .int x2), (3, .int x3), (4, .int x4), (5, .int x5)] [] σ := by
  intro n
  induction n with
  | zero =>
    intros
    exact S_none
  | succ n ih =>
    intro x1 x2 x3 x4 x5
    rw [X0_readableYears_L6]
    refine S_iload C 5 dX0_readableYears_6 rfl ?_
    refine S_aload_n C 0 dX0_readableYears_8 rfl ?_
    refine G_X0_size C fl_X0_35 dX0_readableYears_9 ?_
    refine S_icmp_ge C 45 dX0_readableYears_12 (by decide) ?_ ?_
    · refine S_iload C 4 dX0_readableYears_45 rfl ?_
      exact S_iret C rfl dX0_readableYears_47
    · refine S_aload_n C 0 dX0_readableYears_15 rfl ?_
      refine G_X0_place C fl_X0_18 dX0_readableYears_16 ?_
      refine S_iload C 5 dX0_readableYears_19 rfl ?_
      refine L_X0_place C dX0_readableYears_21 (fun _ => ?_)
      refine S_iload_n C 1 dX0_readableYears_22 rfl ?_
      refine S_icmp_ne C 39 dX0_readableYears_23 (by decide) ?_ ?_
      · refine S_iinc C 5 [(5, .int (x5 + 1)), (0, .ref (aC z 27)), (1, .int x1), (2, .int x2), (3, .int x3), (4, .int x4)] (x5 + 1) dX0_readableYears_39 rfl rfl (by decide) rfl ?_
        refine S_goto C 6 dX0_readableYears_42 (by decide) ?_
        exact S_sub [1, 2, 3, 4, 5, 0] rfl (ih x1 x2 x3 x4 (x5 + 1))
      · refine S_iload C 4 dX0_readableYears_26 rfl ?_
        refine S_aload_n C 0 dX0_readableYears_28 rfl ?_
        refine S_iload C 5 dX0_readableYears_29 rfl ?_
        refine S_iload_n C 2 dX0_readableYears_31 rfl ?_
        refine S_iload_n C 3 dX0_readableYears_32 rfl ?_
        refine K_X0_readableYearsOf C ml_X0_50 (by decide) (Nat.le_of_ble_eq_true rfl) dX0_readableYears_33 (fun v1 => ?_)
        refine S_iadd C dX0_readableYears_36 ?_
        refine S_bndT (fun x4_2 _ => ?_)
        refine S_istore C [(4, .int x4_2), (0, .ref (aC z 27)), (1, .int x1), (2, .int x2), (3, .int x3), (5, .int x5)] dX0_readableYears_37 (by decide) rfl ?_
        refine S_iinc C 5 [(5, .int (x5 + 1)), (4, .int x4_2), (0, .ref (aC z 27)), (1, .int x1), (2, .int x2), (3, .int x3)] (x5 + 1) dX0_readableYears_39 rfl rfl (by decide) rfl ?_
        refine S_goto C 6 dX0_readableYears_42 (by decide) ?_
        exact S_sub [2, 3, 4, 5, 1, 0] rfl (ih x1 x2 x3 x4_2 (x5 + 1))
set_option maxRecDepth 10000 in
theorem WT_X0_readableYears {x : MX} {z : ZT} (C : Cok x (wxC z) RX0 cX0_readableYears 6 (some .int) 2 48) (x1 : Int32) (x2 : Int32) (x3 : Int32) (σ : St) : Sim x (wxC z) 6 (jI σ) (X0_readableYears x1 x2 x3 σ) 0 [(0, .ref (aC z 27)), (1, .int x1), (2, .int x2), (3, .int x3)] [] σ := by
  rw [X0_readableYears]
  refine S_iconst C (0) dX0_readableYears_0 (by decide) ?_
  refine S_istore C [(4, .int 0), (0, .ref (aC z 27)), (1, .int x1), (2, .int x2), (3, .int x3)] dX0_readableYears_1 (by decide) rfl ?_
  refine S_iconst C (0) dX0_readableYears_3 (by decide) ?_
  refine S_istore C [(5, .int 0), (4, .int 0), (0, .ref (aC z 27)), (1, .int x1), (2, .int x2), (3, .int x3)] dX0_readableYears_4 (by decide) rfl ?_
  exact S_sub [2, 3, 4, 5, 1, 0] rfl (WT_X0_readableYears_L6 C σ FU x1 x2 x3 (0 : Int32) (0 : Int32))
set_option maxRecDepth 10000 in
theorem con_X0_readableYears (z : ZT) (l : Launch) (x1 : Int32) (x2 : Int32) (x3 : Int32) (σ : St) : ∀ ro, X0_readableYears x1 x2 x3 σ = some ro → Con (wxC z) l yX0_readableYears cX0_readableYears 6 (some .int) 2 48 [.ref (aC z 27), .int x1, .int x2, .int x3] σ ((jI σ) ro) :=
  fun ro hk => Con_of hk (by decide) (Nat.le_of_ble_eq_true rfl) (fun x hx C => WT_X0_readableYears C x1 x2 x3 σ)
set_option maxRecDepth 10000 in
theorem K_X0_readableYears {x : MX} {z : ZT} {own : String} {cc : ByteArray} {nL : Nat} {ret : Option FieldType} {fr lo : Nat} {ρ : Type} {inj : ρ → Option Value × St} {pc : Nat} {lv : List (Nat × Value)} {st : List Value} {σ : St} (C : Cok x (wxC z) own cc nL ret fr lo) {x1 : Int32} {x2 : Int32} {x3 : Int32} {index : Nat} (hl : Cond.methodLink own index yX0_readableYears ∈ gtb) (hR : 2 + 1 ≤ fr ∧ 8 + (6 + 11) + 48 ≤ lo) (hW : (st.map fun v => v.category).sum ≤ 8) (hd : decode cc pc = .ok (.invokevirtual index, 3)) {K : Int32 → Option ρ} (h : ∀ v, Sim x (wxC z) nL inj (K v) (pc + 3) lv (.int v :: st) σ) : Sim x (wxC z) nL inj ((X0_readableYears x1 x2 x3 σ).bind K) pc lv (.int x3 :: .int x2 :: .int x1 :: .ref (aC z 27) :: st) σ :=
  S_callV C (As := [.int x1, .int x2, .int x3]) (q := 27) (inj1 := (jI σ)) mw_X0_readableYears mv_X0_readableYears hl (fun ro hro => con_X0_readableYears z (mL x) x1 x2 x3 σ ro hro) hR rfl (show 27 < 59 by decide) rfl (ce_X0 z σ) rfl rfl hW hd h
set_option maxRecDepth 10000 in
theorem WT_X5_forget {x : MX} {z : ZT} (C : Cok x (wxC z) RX5 cX5_forget 1 none 1 79) (r : Nat) (σ : St) (hr : r < 2) : Sim x (wxC z) 1 jV (X5_forget r σ) 0 [(0, .ref (aC z (4 + r)))] [] σ := by
  rw [X5_forget]
  refine S_gets_FIRST C dX5_forget_0 ?_
  refine S_iconst C (0) dX5_forget_3 (by decide) ?_
  refine S_aload_n C 0 dX5_forget_4 rfl ?_
  refine G_X5_numbers C hr fl_X5_11 dX5_forget_5 ?_
  refine S_iconst C (0) dX5_forget_8 (by decide) ?_
  refine S_bipush C (8) dX5_forget_9 (by decide) ?_
  refine S_cpyF C hr (by decide) (Nat.le_of_ble_eq_true rfl) dX5_forget_11 ?_
  refine S_bndS (fun σ1 _ => ?_)
  refine S_aload_n C 0 dX5_forget_14 rfl ?_
  refine G_X5_likeCosts C hr fl_X5_27 dX5_forget_15 ?_
  refine S_iconst C (-1) dX5_forget_18 (by decide) ?_
  refine K_J7_fill_53178 C (by omega) (ca_X5_likeCosts z hr) ml_X5_42 (by decide) (Nat.le_of_ble_eq_true rfl) dX5_forget_19 (fun σ2 => ?_)
  refine S_aload_n C 0 dX5_forget_22 rfl ?_
  refine S_iconst C (0) dX5_forget_23 (by decide) ?_
  refine P_X5_changes C hr fl_X5_48 dX5_forget_24 ?_
  refine S_bndS (fun σ3 _ => ?_)
  refine S_aload_n C 0 dX5_forget_27 rfl ?_
  refine S_iconst C (0) dX5_forget_28 (by decide) ?_
  refine P_X5_likes C hr fl_X5_52 dX5_forget_29 ?_
  refine S_bndS (fun σ4 _ => ?_)
  exact S_vret C rfl dX5_forget_32
set_option maxRecDepth 10000 in
theorem con_X5_forget (z : ZT) (l : Launch) (r : Nat) (σ : St) (hr : r < 2) : ∀ ro, X5_forget r σ = some ro → Con (wxC z) l yX5_forget cX5_forget 1 none 1 79 [.ref (aC z (4 + r))] σ (jV ro) :=
  fun ro hk => Con_of hk (by decide) (Nat.le_of_ble_eq_true rfl) (fun x hx C => WT_X5_forget C r σ hr)
set_option maxRecDepth 10000 in
theorem K_X5_forget {x : MX} {z : ZT} {own : String} {cc : ByteArray} {nL : Nat} {ret : Option FieldType} {fr lo : Nat} {ρ : Type} {inj : ρ → Option Value × St} {pc : Nat} {lv : List (Nat × Value)} {st : List Value} {σ : St} (C : Cok x (wxC z) own cc nL ret fr lo) {r : Nat} (hr : r < 2) {index : Nat} (hl : Cond.methodLink own index yX5_forget ∈ gtb) (hR : 1 + 1 ≤ fr ∧ 8 + (1 + 11) + 79 ≤ lo) (hW : (st.map fun v => v.category).sum ≤ 8) (hd : decode cc pc = .ok (.invokevirtual index, 3)) {K : St → Option ρ} (h : ∀ v, Sim x (wxC z) nL inj (K v) (pc + 3) lv (st) v) : Sim x (wxC z) nL inj ((X5_forget r σ).bind K) pc lv (.ref (aC z (4 + r)) :: st) σ :=
  S_callV C (As := []) (q := (4 + r)) (inj1 := jV) mw_X5_forget mv_X5_forget hl (fun ro hro => con_X5_forget z (mL x) r σ hr ro hro) hR rfl (show (4 + r) < 59 by omega) rfl (ce_X5 z σ hr) rfl rfl hW hd h
set_option maxRecDepth 10000 in
theorem WT_X5_isChanged_L2 {x : MX} {z : ZT} (C : Cok x (wxC z) RX5 cX5_isChanged 3 (some .boolean) 0 0) (r : Nat) (σ : St) (hr : r < 2) : ∀ (n : Nat) (x1 : Int32) (x2 : Int32), Sim x (wxC z) 3 (jI σ) (X5_isChanged_L2 r σ n x1 x2) 2 [(0, .ref (aC z (4 + r))), (1, .int x1), (2, .int x2)] [] σ := by
  intro n
  induction n with
  | zero =>
    intros
    exact S_none
  | succ n ih =>
    intro x1 x2
    rw [X5_isChanged_L2]
    refine S_iload_n C 2 dX5_isChanged_2 rfl ?_
    refine S_aload_n C 0 dX5_isChanged_3 rfl ?_
    refine G_X5_changes C hr fl_X5_48 dX5_isChanged_4 ?_
    refine S_icmp_ge C 28 dX5_isChanged_7 (by decide) ?_ ?_
    · refine S_iconst C (0) dX5_isChanged_28 (by decide) ?_
      exact S_zret C rfl rfl dX5_isChanged_29
    · refine S_aload_n C 0 dX5_isChanged_10 rfl ?_
      refine G_X5_froms C hr fl_X5_15 dX5_isChanged_11 ?_
      refine S_iload_n C 2 dX5_isChanged_14 rfl ?_
      refine L_X5_froms C hr dX5_isChanged_15 (fun _ => ?_)
      refine S_iload_n C 1 dX5_isChanged_16 rfl ?_
      refine S_icmp_ne C 22 dX5_isChanged_17 (by decide) ?_ ?_
      · refine S_iinc C 2 [(2, .int (x2 + 1)), (0, .ref (aC z (4 + r))), (1, .int x1)] (x2 + 1) dX5_isChanged_22 rfl rfl (by decide) rfl ?_
        refine S_goto C 2 dX5_isChanged_25 (by decide) ?_
        exact S_sub [1, 2, 0] rfl (ih x1 (x2 + 1))
      · refine S_iconst C (1) dX5_isChanged_20 (by decide) ?_
        exact S_zret C rfl rfl dX5_isChanged_21
set_option maxRecDepth 10000 in
theorem WT_X5_isChanged {x : MX} {z : ZT} (C : Cok x (wxC z) RX5 cX5_isChanged 3 (some .boolean) 0 0) (r : Nat) (x1 : Int32) (σ : St) (hr : r < 2) : Sim x (wxC z) 3 (jI σ) (X5_isChanged r x1 σ) 0 [(0, .ref (aC z (4 + r))), (1, .int x1)] [] σ := by
  rw [X5_isChanged]
  refine S_iconst C (0) dX5_isChanged_0 (by decide) ?_
  refine S_istore_n C [(2, .int 0), (0, .ref (aC z (4 + r))), (1, .int x1)] (i := 2) dX5_isChanged_1 rfl (by decide) rfl ?_
  exact S_sub [1, 2, 0] rfl (WT_X5_isChanged_L2 C r σ hr FU x1 (0 : Int32))
set_option maxRecDepth 10000 in
theorem con_X5_isChanged (z : ZT) (l : Launch) (r : Nat) (x1 : Int32) (σ : St) (hr : r < 2) : ∀ ro, X5_isChanged r x1 σ = some ro → Con (wxC z) l yX5_isChanged cX5_isChanged 3 (some .boolean) 0 0 [.ref (aC z (4 + r)), .int x1] σ ((jI σ) ro) :=
  fun ro hk => Con_of hk (by decide) (Nat.le_of_ble_eq_true rfl) (fun x hx C => WT_X5_isChanged C r x1 σ hr)
set_option maxRecDepth 10000 in
theorem K_X5_isChanged {x : MX} {z : ZT} {own : String} {cc : ByteArray} {nL : Nat} {ret : Option FieldType} {fr lo : Nat} {ρ : Type} {inj : ρ → Option Value × St} {pc : Nat} {lv : List (Nat × Value)} {st : List Value} {σ : St} (C : Cok x (wxC z) own cc nL ret fr lo) {r : Nat} {x1 : Int32} (hr : r < 2) {index : Nat} (hl : Cond.methodLink own index yX5_isChanged ∈ gtb) (hR : 0 + 1 ≤ fr ∧ 8 + (3 + 11) + 0 ≤ lo) (hW : (st.map fun v => v.category).sum ≤ 8) (hd : decode cc pc = .ok (.invokevirtual index, 3)) {K : Int32 → Option ρ} (h : ∀ v, Sim x (wxC z) nL inj (K v) (pc + 3) lv (.int v :: st) σ) : Sim x (wxC z) nL inj ((X5_isChanged r x1 σ).bind K) pc lv (.int x1 :: .ref (aC z (4 + r)) :: st) σ :=
  S_callV C (As := [.int x1]) (q := (4 + r)) (inj1 := (jI σ)) mw_X5_isChanged mv_X5_isChanged hl (fun ro hro => con_X5_isChanged z (mL x) r x1 σ hr ro hro) hR rfl (show (4 + r) < 59 by omega) rfl (ce_X5 z σ hr) rfl rfl hW hd h
set_option maxRecDepth 10000 in
theorem WT_X5_appendChange {x : MX} {z : ZT} (C : Cok x (wxC z) RX5 cX5_appendChange 5 none 0 0) (r : Nat) (x1 : Int32) (x2 : Int32) (x3 : Int32) (x4 : Int32) (σ : St) (hr : r < 2) : Sim x (wxC z) 5 jV (X5_appendChange r x1 x2 x3 x4 σ) 0 [(0, .ref (aC z (4 + r))), (1, .int x1), (2, .int x2), (3, .int x3), (4, .int x4)] [] σ := by
  rw [X5_appendChange]
  refine S_aload_n C 0 dX5_appendChange_0 rfl ?_
  refine G_X5_changes C hr fl_X5_48 dX5_appendChange_1 ?_
  refine S_bipush C (12) dX5_appendChange_4 (by decide) ?_
  refine S_icmp_ge C 60 dX5_appendChange_6 (by decide) ?_ ?_
  · exact S_vret C rfl dX5_appendChange_60
  · refine S_aload_n C 0 dX5_appendChange_9 rfl ?_
    refine G_X5_froms C hr fl_X5_15 dX5_appendChange_10 ?_
    refine S_aload_n C 0 dX5_appendChange_13 rfl ?_
    refine G_X5_changes C hr fl_X5_48 dX5_appendChange_14 ?_
    refine S_iload_n C 1 dX5_appendChange_17 rfl ?_
    refine T_X5_froms C hr dX5_appendChange_18 (fun _ => ?_)
    refine S_bndS (fun σ1 _ => ?_)
    refine S_aload_n C 0 dX5_appendChange_19 rfl ?_
    refine G_X5_fromLengths C hr fl_X5_18 dX5_appendChange_20 ?_
    refine S_aload_n C 0 dX5_appendChange_23 rfl ?_
    refine G_X5_changes C hr fl_X5_48 dX5_appendChange_24 ?_
    refine S_iload_n C 2 dX5_appendChange_27 rfl ?_
    refine T_X5_fromLengths C hr dX5_appendChange_28 (fun _ => ?_)
    refine S_bndS (fun σ2 _ => ?_)
    refine S_aload_n C 0 dX5_appendChange_29 rfl ?_
    refine G_X5_intos C hr fl_X5_21 dX5_appendChange_30 ?_
    refine S_aload_n C 0 dX5_appendChange_33 rfl ?_
    refine G_X5_changes C hr fl_X5_48 dX5_appendChange_34 ?_
    refine S_iload_n C 3 dX5_appendChange_37 rfl ?_
    refine T_X5_intos C hr dX5_appendChange_38 (fun _ => ?_)
    refine S_bndS (fun σ3 _ => ?_)
    refine S_aload_n C 0 dX5_appendChange_39 rfl ?_
    refine G_X5_intoLengths C hr fl_X5_24 dX5_appendChange_40 ?_
    refine S_aload_n C 0 dX5_appendChange_43 rfl ?_
    refine G_X5_changes C hr fl_X5_48 dX5_appendChange_44 ?_
    refine S_iload C 4 dX5_appendChange_47 rfl ?_
    refine T_X5_intoLengths C hr dX5_appendChange_49 (fun _ => ?_)
    refine S_bndS (fun σ4 _ => ?_)
    refine S_aload_n C 0 dX5_appendChange_50 rfl ?_
    refine S_dup C dX5_appendChange_51 rfl ?_
    refine G_X5_changes C hr fl_X5_48 dX5_appendChange_52 ?_
    refine S_iconst C (1) dX5_appendChange_55 (by decide) ?_
    refine S_iadd C dX5_appendChange_56 ?_
    refine P_X5_changes C hr fl_X5_48 dX5_appendChange_57 ?_
    refine S_bndS (fun σ5 _ => ?_)
    exact S_vret C rfl dX5_appendChange_60
set_option maxRecDepth 10000 in
theorem con_X5_appendChange (z : ZT) (l : Launch) (r : Nat) (x1 : Int32) (x2 : Int32) (x3 : Int32) (x4 : Int32) (σ : St) (hr : r < 2) : ∀ ro, X5_appendChange r x1 x2 x3 x4 σ = some ro → Con (wxC z) l yX5_appendChange cX5_appendChange 5 none 0 0 [.ref (aC z (4 + r)), .int x1, .int x2, .int x3, .int x4] σ (jV ro) :=
  fun ro hk => Con_of hk (by decide) (Nat.le_of_ble_eq_true rfl) (fun x hx C => WT_X5_appendChange C r x1 x2 x3 x4 σ hr)
set_option maxRecDepth 10000 in
theorem K_X5_appendChange {x : MX} {z : ZT} {own : String} {cc : ByteArray} {nL : Nat} {ret : Option FieldType} {fr lo : Nat} {ρ : Type} {inj : ρ → Option Value × St} {pc : Nat} {lv : List (Nat × Value)} {st : List Value} {σ : St} (C : Cok x (wxC z) own cc nL ret fr lo) {r : Nat} {x1 : Int32} {x2 : Int32} {x3 : Int32} {x4 : Int32} (hr : r < 2) {index : Nat} (hl : Cond.methodLink own index yX5_appendChange ∈ gtb) (hR : 0 + 1 ≤ fr ∧ 8 + (5 + 11) + 0 ≤ lo) (hW : (st.map fun v => v.category).sum ≤ 8) (hd : decode cc pc = .ok (.invokevirtual index, 3)) {K : St → Option ρ} (h : ∀ v, Sim x (wxC z) nL inj (K v) (pc + 3) lv (st) v) : Sim x (wxC z) nL inj ((X5_appendChange r x1 x2 x3 x4 σ).bind K) pc lv (.int x4 :: .int x3 :: .int x2 :: .int x1 :: .ref (aC z (4 + r)) :: st) σ :=
  S_callV C (As := [.int x1, .int x2, .int x3, .int x4]) (q := (4 + r)) (inj1 := jV) mw_X5_appendChange mv_X5_appendChange hl (fun ro hro => con_X5_appendChange z (mL x) r x1 x2 x3 x4 σ hr ro hro) hR rfl (show (4 + r) < 59 by omega) rfl (ce_X5 z σ hr) rfl rfl hW hd h
set_option maxRecDepth 10000 in
theorem WT_X5_isLike {x : MX} {z : ZT} (C : Cok x (wxC z) RX5 cX5_isLike 3 (some .boolean) 0 0) (r : Nat) (x1 : Int32) (x2 : Int32) (σ : St) (hr : r < 2) : Sim x (wxC z) 3 (jI σ) (X5_isLike r x1 x2 σ) 0 [(0, .ref (aC z (4 + r))), (1, .int x1), (2, .int x2)] [] σ := by
  rw [X5_isLike]
  refine S_aload_n C 0 dX5_isLike_0 rfl ?_
  refine G_X5_likeCosts C hr fl_X5_27 dX5_isLike_1 ?_
  refine S_iload_n C 1 dX5_isLike_4 rfl ?_
  refine S_bipush C (27) dX5_isLike_5 (by decide) ?_
  refine S_imul C dX5_isLike_7 ?_
  refine S_iload_n C 2 dX5_isLike_8 rfl ?_
  refine S_iadd C dX5_isLike_9 ?_
  refine L_X5_likeCosts C hr dX5_isLike_10 (fun _ => ?_)
  refine S_iconst C (-1) dX5_isLike_11 (by decide) ?_
  refine S_icmp_eq C 19 dX5_isLike_12 (by decide) ?_ ?_
  · refine S_iconst C (0) dX5_isLike_19 (by decide) ?_
    exact S_zret C rfl rfl dX5_isLike_20
  · refine S_iconst C (1) dX5_isLike_15 (by decide) ?_
    refine S_goto C 20 dX5_isLike_16 (by decide) ?_
    exact S_zret C rfl rfl dX5_isLike_20
set_option maxRecDepth 10000 in
theorem con_X5_isLike (z : ZT) (l : Launch) (r : Nat) (x1 : Int32) (x2 : Int32) (σ : St) (hr : r < 2) : ∀ ro, X5_isLike r x1 x2 σ = some ro → Con (wxC z) l yX5_isLike cX5_isLike 3 (some .boolean) 0 0 [.ref (aC z (4 + r)), .int x1, .int x2] σ ((jI σ) ro) :=
  fun ro hk => Con_of hk (by decide) (Nat.le_of_ble_eq_true rfl) (fun x hx C => WT_X5_isLike C r x1 x2 σ hr)
set_option maxRecDepth 10000 in
theorem K_X5_isLike {x : MX} {z : ZT} {own : String} {cc : ByteArray} {nL : Nat} {ret : Option FieldType} {fr lo : Nat} {ρ : Type} {inj : ρ → Option Value × St} {pc : Nat} {lv : List (Nat × Value)} {st : List Value} {σ : St} (C : Cok x (wxC z) own cc nL ret fr lo) {r : Nat} {x1 : Int32} {x2 : Int32} (hr : r < 2) {index : Nat} (hl : Cond.methodLink own index yX5_isLike ∈ gtb) (hR : 0 + 1 ≤ fr ∧ 8 + (3 + 11) + 0 ≤ lo) (hW : (st.map fun v => v.category).sum ≤ 8) (hd : decode cc pc = .ok (.invokevirtual index, 3)) {K : Int32 → Option ρ} (h : ∀ v, Sim x (wxC z) nL inj (K v) (pc + 3) lv (.int v :: st) σ) : Sim x (wxC z) nL inj ((X5_isLike r x1 x2 σ).bind K) pc lv (.int x2 :: .int x1 :: .ref (aC z (4 + r)) :: st) σ :=
  S_callV C (As := [.int x1, .int x2]) (q := (4 + r)) (inj1 := (jI σ)) mw_X5_isLike mv_X5_isLike hl (fun ro hro => con_X5_isLike z (mL x) r x1 x2 σ hr ro hro) hR rfl (show (4 + r) < 59 by omega) rfl (ce_X5 z σ hr) rfl rfl hW hd h
set_option maxRecDepth 10000 in
theorem WT_X5_appendLike {x : MX} {z : ZT} (C : Cok x (wxC z) RX5 cX5_appendLike 4 none 0 0) (r : Nat) (x1 : Int32) (x2 : Int32) (x3 : Int32) (σ : St) (hr : r < 2) : Sim x (wxC z) 4 jV (X5_appendLike r x1 x2 x3 σ) 0 [(0, .ref (aC z (4 + r))), (1, .int x1), (2, .int x2), (3, .int x3)] [] σ := by
  rw [X5_appendLike]
  refine S_aload_n C 0 dX5_appendLike_0 rfl ?_
  refine G_X5_likeCosts C hr fl_X5_27 dX5_appendLike_1 ?_
  refine S_iload_n C 1 dX5_appendLike_4 rfl ?_
  refine S_bipush C (27) dX5_appendLike_5 (by decide) ?_
  refine S_imul C dX5_appendLike_7 ?_
  refine S_iload_n C 2 dX5_appendLike_8 rfl ?_
  refine S_iadd C dX5_appendLike_9 ?_
  refine S_iload_n C 3 dX5_appendLike_10 rfl ?_
  refine T_X5_likeCosts C hr dX5_appendLike_11 (fun _ => ?_)
  refine S_bndS (fun σ1 _ => ?_)
  refine S_aload_n C 0 dX5_appendLike_12 rfl ?_
  refine G_X5_likeCosts C hr fl_X5_27 dX5_appendLike_13 ?_
  refine S_iload_n C 2 dX5_appendLike_16 rfl ?_
  refine S_bipush C (27) dX5_appendLike_17 (by decide) ?_
  refine S_imul C dX5_appendLike_19 ?_
  refine S_iload_n C 1 dX5_appendLike_20 rfl ?_
  refine S_iadd C dX5_appendLike_21 ?_
  refine S_iload_n C 3 dX5_appendLike_22 rfl ?_
  refine T_X5_likeCosts C hr dX5_appendLike_23 (fun _ => ?_)
  refine S_bndS (fun σ2 _ => ?_)
  refine S_aload_n C 0 dX5_appendLike_24 rfl ?_
  refine S_dup C dX5_appendLike_25 rfl ?_
  refine G_X5_likes C hr fl_X5_52 dX5_appendLike_26 ?_
  refine S_iconst C (1) dX5_appendLike_29 (by decide) ?_
  refine S_iadd C dX5_appendLike_30 ?_
  refine P_X5_likes C hr fl_X5_52 dX5_appendLike_31 ?_
  refine S_bndS (fun σ3 _ => ?_)
  exact S_vret C rfl dX5_appendLike_34
set_option maxRecDepth 10000 in
theorem con_X5_appendLike (z : ZT) (l : Launch) (r : Nat) (x1 : Int32) (x2 : Int32) (x3 : Int32) (σ : St) (hr : r < 2) : ∀ ro, X5_appendLike r x1 x2 x3 σ = some ro → Con (wxC z) l yX5_appendLike cX5_appendLike 4 none 0 0 [.ref (aC z (4 + r)), .int x1, .int x2, .int x3] σ (jV ro) :=
  fun ro hk => Con_of hk (by decide) (Nat.le_of_ble_eq_true rfl) (fun x hx C => WT_X5_appendLike C r x1 x2 x3 σ hr)
set_option maxRecDepth 10000 in
theorem K_X5_appendLike {x : MX} {z : ZT} {own : String} {cc : ByteArray} {nL : Nat} {ret : Option FieldType} {fr lo : Nat} {ρ : Type} {inj : ρ → Option Value × St} {pc : Nat} {lv : List (Nat × Value)} {st : List Value} {σ : St} (C : Cok x (wxC z) own cc nL ret fr lo) {r : Nat} {x1 : Int32} {x2 : Int32} {x3 : Int32} (hr : r < 2) {index : Nat} (hl : Cond.methodLink own index yX5_appendLike ∈ gtb) (hR : 0 + 1 ≤ fr ∧ 8 + (4 + 11) + 0 ≤ lo) (hW : (st.map fun v => v.category).sum ≤ 8) (hd : decode cc pc = .ok (.invokevirtual index, 3)) {K : St → Option ρ} (h : ∀ v, Sim x (wxC z) nL inj (K v) (pc + 3) lv (st) v) : Sim x (wxC z) nL inj ((X5_appendLike r x1 x2 x3 σ).bind K) pc lv (.int x3 :: .int x2 :: .int x1 :: .ref (aC z (4 + r)) :: st) σ :=
  S_callV C (As := [.int x1, .int x2, .int x3]) (q := (4 + r)) (inj1 := jV) mw_X5_appendLike mv_X5_appendLike hl (fun ro hro => con_X5_appendLike z (mL x) r x1 x2 x3 σ hr ro hro) hR rfl (show (4 + r) < 59 by omega) rfl (ce_X5 z σ hr) rfl rfl hW hd h
set_option maxRecDepth 10000 in
theorem WT_X5_swapCost {x : MX} {z : ZT} (C : Cok x (wxC z) RX5 cX5_swapCost 3 (some .int) 1 22) (r : Nat) (x1 : Int32) (x2 : Int32) (σ : St) (hr : r < 2) : Sim x (wxC z) 3 (jI σ) (X5_swapCost r x1 x2 σ) 0 [(0, .ref (aC z (4 + r))), (1, .int x1), (2, .int x2)] [] σ := by
  rw [X5_swapCost]
  refine S_iload_n C 1 dX5_swapCost_0 rfl ?_
  refine S_iload_n C 2 dX5_swapCost_1 rfl ?_
  refine S_icmp_ne C 7 dX5_swapCost_2 (by decide) ?_ ?_
  · refine S_aload_n C 0 dX5_swapCost_7 rfl ?_
    refine S_iload_n C 1 dX5_swapCost_8 rfl ?_
    refine S_iload_n C 2 dX5_swapCost_9 rfl ?_
    refine K_X5_isLike C hr ml_X5_55 (by decide) (Nat.le_of_ble_eq_true rfl) dX5_swapCost_10 (fun v1 => ?_)
    refine S_if_eq C 30 dX5_swapCost_13 (by decide) ?_ ?_
    · refine S_aload_n C 0 dX5_swapCost_30 rfl ?_
      refine G_X5_numbers C hr fl_X5_11 dX5_swapCost_31 ?_
      refine S_iconst C (1) dX5_swapCost_34 (by decide) ?_
      refine Lk_X5_numbers C hr 1 (by decide) dX5_swapCost_35 ?_
      exact S_iret C rfl dX5_swapCost_36
    · refine S_aload_n C 0 dX5_swapCost_16 rfl ?_
      refine G_X5_likeCosts C hr fl_X5_27 dX5_swapCost_17 ?_
      refine S_iload_n C 1 dX5_swapCost_20 rfl ?_
      refine S_bipush C (27) dX5_swapCost_21 (by decide) ?_
      refine S_imul C dX5_swapCost_23 ?_
      refine S_iload_n C 2 dX5_swapCost_24 rfl ?_
      refine S_iadd C dX5_swapCost_25 ?_
      refine L_X5_likeCosts C hr dX5_swapCost_26 (fun _ => ?_)
      refine S_goto C 36 dX5_swapCost_27 (by decide) ?_
      exact S_iret C rfl dX5_swapCost_36
  · refine S_iconst C (0) dX5_swapCost_5 (by decide) ?_
    exact S_iret C rfl dX5_swapCost_6
set_option maxRecDepth 10000 in
theorem con_X5_swapCost (z : ZT) (l : Launch) (r : Nat) (x1 : Int32) (x2 : Int32) (σ : St) (hr : r < 2) : ∀ ro, X5_swapCost r x1 x2 σ = some ro → Con (wxC z) l yX5_swapCost cX5_swapCost 3 (some .int) 1 22 [.ref (aC z (4 + r)), .int x1, .int x2] σ ((jI σ) ro) :=
  fun ro hk => Con_of hk (by decide) (Nat.le_of_ble_eq_true rfl) (fun x hx C => WT_X5_swapCost C r x1 x2 σ hr)
set_option maxRecDepth 10000 in
theorem K_X5_swapCost {x : MX} {z : ZT} {own : String} {cc : ByteArray} {nL : Nat} {ret : Option FieldType} {fr lo : Nat} {ρ : Type} {inj : ρ → Option Value × St} {pc : Nat} {lv : List (Nat × Value)} {st : List Value} {σ : St} (C : Cok x (wxC z) own cc nL ret fr lo) {r : Nat} {x1 : Int32} {x2 : Int32} (hr : r < 2) {index : Nat} (hl : Cond.methodLink own index yX5_swapCost ∈ gtb) (hR : 1 + 1 ≤ fr ∧ 8 + (3 + 11) + 22 ≤ lo) (hW : (st.map fun v => v.category).sum ≤ 8) (hd : decode cc pc = .ok (.invokevirtual index, 3)) {K : Int32 → Option ρ} (h : ∀ v, Sim x (wxC z) nL inj (K v) (pc + 3) lv (.int v :: st) σ) : Sim x (wxC z) nL inj ((X5_swapCost r x1 x2 σ).bind K) pc lv (.int x2 :: .int x1 :: .ref (aC z (4 + r)) :: st) σ :=
  S_callV C (As := [.int x1, .int x2]) (q := (4 + r)) (inj1 := (jI σ)) mw_X5_swapCost mv_X5_swapCost hl (fun ro hro => con_X5_swapCost z (mL x) r x1 x2 σ hr ro hro) hR rfl (show (4 + r) < 59 by omega) rfl (ce_X5 z σ hr) rfl rfl hW hd h
set_option maxRecDepth 10000 in
theorem WT_X5_standsAt {x : MX} {z : ZT} (C : Cok x (wxC z) RX5 cX5_standsAt 7 (some .boolean) 0 0) (r : Nat) (x1 : Int32) (x2 : Int64) (x4 : Int32) (σ : St) (hr : r < 2) : Sim x (wxC z) 7 (jI σ) (X5_standsAt r x1 x2 x4 σ) 0 [(0, .ref (aC z (4 + r))), (1, .int x1), (2, .long x2), (4, .int x4)] [] σ := by
  rw [X5_standsAt]
  refine S_lconst C (1) dX5_standsAt_0 (by decide) ?_
  refine S_iconst C (5) dX5_standsAt_1 (by decide) ?_
  refine S_aload_n C 0 dX5_standsAt_2 rfl ?_
  refine G_X5_fromLengths C hr fl_X5_18 dX5_standsAt_3 ?_
  refine S_iload_n C 1 dX5_standsAt_6 rfl ?_
  refine L_X5_fromLengths C hr dX5_standsAt_7 (fun _ => ?_)
  refine S_imul C dX5_standsAt_8 ?_
  refine S_lshl C dX5_standsAt_9 ?_
  refine S_lconst C (1) dX5_standsAt_10 (by decide) ?_
  refine S_lsub C dX5_standsAt_11 ?_
  refine S_bndTL (fun x5_1 _ => ?_)
  refine S_lstore C [(5, .long x5_1), (0, .ref (aC z (4 + r))), (1, .int x1), (2, .long x2), (4, .int x4)] dX5_standsAt_12 (by decide) rfl ?_
  refine S_lload_n C 3 dX5_standsAt_14 rfl ?_
  refine S_iconst C (5) dX5_standsAt_15 (by decide) ?_
  refine S_iload C 4 dX5_standsAt_16 rfl ?_
  refine S_aload_n C 1 dX5_standsAt_18 rfl ?_
  refine G_X5_fromLengths C hr fl_X5_18 dX5_standsAt_19 ?_
  refine S_iload_n C 2 dX5_standsAt_22 rfl ?_
  refine L_X5_fromLengths C hr dX5_standsAt_23 (fun _ => ?_)
  refine S_isub C dX5_standsAt_24 ?_
  refine S_imul C dX5_standsAt_25 ?_
  refine S_lshr C dX5_standsAt_26 ?_
  refine S_lload C 0 dX5_standsAt_27 rfl ?_
  refine S_land C dX5_standsAt_29 ?_
  refine S_aload_n C 1 dX5_standsAt_30 rfl ?_
  refine G_X5_froms C hr fl_X5_15 dX5_standsAt_31 ?_
  refine S_iload_n C 2 dX5_standsAt_34 rfl ?_
  refine L_X5_froms C hr dX5_standsAt_35 (fun _ => ?_)
  refine S_i2l C dX5_standsAt_36 ?_
  refine S_lc_ne C 45 dX5_standsAt_37 dX5_standsAt_38 (by decide) ?_ ?_
  · refine S_iconst C (0) dX5_standsAt_45 (by decide) ?_
    exact S_zret C rfl rfl dX5_standsAt_46
  · refine S_iconst C (1) dX5_standsAt_41 (by decide) ?_
    refine S_goto C 46 dX5_standsAt_42 (by decide) ?_
    exact S_zret C rfl rfl dX5_standsAt_46
set_option maxRecDepth 10000 in
theorem con_X5_standsAt (z : ZT) (l : Launch) (r : Nat) (x1 : Int32) (x2 : Int64) (x4 : Int32) (σ : St) (hr : r < 2) : ∀ ro, X5_standsAt r x1 x2 x4 σ = some ro → Con (wxC z) l yX5_standsAt cX5_standsAt 7 (some .boolean) 0 0 [.ref (aC z (4 + r)), .int x1, .long x2, .int x4] σ ((jI σ) ro) :=
  fun ro hk => Con_of hk (by decide) (Nat.le_of_ble_eq_true rfl) (fun x hx C => WT_X5_standsAt C r x1 x2 x4 σ hr)
set_option maxRecDepth 10000 in
theorem K_X5_standsAt {x : MX} {z : ZT} {own : String} {cc : ByteArray} {nL : Nat} {ret : Option FieldType} {fr lo : Nat} {ρ : Type} {inj : ρ → Option Value × St} {pc : Nat} {lv : List (Nat × Value)} {st : List Value} {σ : St} (C : Cok x (wxC z) own cc nL ret fr lo) {r : Nat} {x1 : Int32} {x2 : Int64} {x4 : Int32} (hr : r < 2) {index : Nat} (hl : Cond.methodLink own index yX5_standsAt ∈ gtb) (hR : 0 + 1 ≤ fr ∧ 8 + (7 + 11) + 0 ≤ lo) (hW : (st.map fun v => v.category).sum ≤ 8) (hd : decode cc pc = .ok (.invokevirtual index, 3)) {K : Int32 → Option ρ} (h : ∀ v, Sim x (wxC z) nL inj (K v) (pc + 3) lv (.int v :: st) σ) : Sim x (wxC z) nL inj ((X5_standsAt r x1 x2 x4 σ).bind K) pc lv (.int x4 :: .long x2 :: .int x1 :: .ref (aC z (4 + r)) :: st) σ :=
  S_callV C (As := [.int x1, .long x2, .int x4]) (q := (4 + r)) (inj1 := (jI σ)) mw_X5_standsAt mv_X5_standsAt hl (fun ro hro => con_X5_standsAt z (mL x) r x1 x2 x4 σ hr ro hro) hR rfl (show (4 + r) < 59 by omega) rfl (ce_X5 z σ hr) rfl rfl hW hd h
set_option maxRecDepth 10000 in
theorem WT_X5_changeAt_B45 {x : MX} {z : ZT} (C : Cok x (wxC z) RX5 cX5_changeAt 7 (some .int) 1 26) (r : Nat) (σ : St) (hr : r < 2) (kq7 : Int64 → Int32 → Int32 → Int32 → Option Int32) (hk7 : ∀ (x1 : Int64) (x3 : Int32) (x4 : Int32) (x5 : Int32), Sim x (wxC z) 7 (jI σ) (kq7 x1 x3 x4 x5) 7 [(0, .ref (aC z (4 + r))), (1, .long x1), (3, .int x3), (4, .int x4), (5, .int x5)] [] σ) (x1 : Int64) (x3 : Int32) (x4 : Int32) (x5 : Int32) (s0 : Int32) : Sim x (wxC z) 7 (jI σ) (X5_changeAt_B45 kq7 r σ x1 x3 x4 x5 s0) 45 [(0, .ref (aC z (4 + r))), (1, .long x1), (3, .int x3), (4, .int x4), (5, .int x5)] [.int s0] σ := by
  rw [X5_changeAt_B45]
  refine S_istore C [(6, .int s0), (0, .ref (aC z (4 + r))), (1, .long x1), (3, .int x3), (4, .int x4), (5, .int x5)] dX5_changeAt_45 (by decide) rfl ?_
  refine S_iload C 0 dX5_changeAt_47 rfl ?_
  refine S_if_eq C 78 dX5_changeAt_49 (by decide) ?_ ?_
  · refine S_iinc C 5 [(5, .int (x5 + 1)), (6, .int s0), (0, .ref (aC z (4 + r))), (1, .long x1), (3, .int x3), (4, .int x4)] (x5 + 1) dX5_changeAt_78 rfl rfl (by decide) rfl ?_
    refine S_goto C 7 dX5_changeAt_81 (by decide) ?_
    exact S_sub [2, 3, 4, 5, 0] rfl (hk7 x1 x3 x4 (x5 + 1))
  · refine S_aload_n C 1 dX5_changeAt_52 rfl ?_
    refine G_X5_fromLengths C hr fl_X5_18 dX5_changeAt_53 ?_
    refine S_iload C 5 dX5_changeAt_56 rfl ?_
    refine L_X5_fromLengths C hr dX5_changeAt_58 (fun _ => ?_)
    refine S_iload_n C 3 dX5_changeAt_59 rfl ?_
    refine S_icmp_gt C 78 dX5_changeAt_60 (by decide) ?_ ?_
    · refine S_iinc C 5 [(5, .int (x5 + 1)), (6, .int s0), (0, .ref (aC z (4 + r))), (1, .long x1), (3, .int x3), (4, .int x4)] (x5 + 1) dX5_changeAt_78 rfl rfl (by decide) rfl ?_
      refine S_goto C 7 dX5_changeAt_81 (by decide) ?_
      exact S_sub [2, 3, 4, 5, 0] rfl (hk7 x1 x3 x4 (x5 + 1))
    · refine S_aload_n C 1 dX5_changeAt_63 rfl ?_
      refine S_iload C 5 dX5_changeAt_64 rfl ?_
      refine S_lload_n C 2 dX5_changeAt_66 rfl ?_
      refine S_iload_n C 3 dX5_changeAt_67 rfl ?_
      refine K_X5_standsAt C hr ml_X5_59 (by decide) (Nat.le_of_ble_eq_true rfl) dX5_changeAt_68 (fun v1 => ?_)
      refine S_if_eq C 78 dX5_changeAt_71 (by decide) ?_ ?_
      · refine S_iinc C 5 [(5, .int (x5 + 1)), (6, .int s0), (0, .ref (aC z (4 + r))), (1, .long x1), (3, .int x3), (4, .int x4)] (x5 + 1) dX5_changeAt_78 rfl rfl (by decide) rfl ?_
        refine S_goto C 7 dX5_changeAt_81 (by decide) ?_
        exact S_sub [2, 3, 4, 5, 0] rfl (hk7 x1 x3 x4 (x5 + 1))
      · refine S_iload C 5 dX5_changeAt_74 rfl ?_
        refine S_istore C [(4, .int x5), (6, .int s0), (0, .ref (aC z (4 + r))), (1, .long x1), (3, .int x3), (5, .int x5)] dX5_changeAt_76 (by decide) rfl ?_
        refine S_iinc C 5 [(5, .int (x5 + 1)), (4, .int x5), (6, .int s0), (0, .ref (aC z (4 + r))), (1, .long x1), (3, .int x3)] (x5 + 1) dX5_changeAt_78 rfl rfl (by decide) rfl ?_
        refine S_goto C 7 dX5_changeAt_81 (by decide) ?_
        exact S_sub [3, 4, 5, 1, 0] rfl (hk7 x1 x3 x5 (x5 + 1))
set_option maxRecDepth 10000 in
theorem WT_X5_changeAt_L7 {x : MX} {z : ZT} (C : Cok x (wxC z) RX5 cX5_changeAt 7 (some .int) 1 26) (r : Nat) (σ : St) (hr : r < 2) : ∀ (n : Nat) (x1 : Int64) (x3 : Int32) (x4 : Int32) (x5 : Int32), Sim x (wxC z) 7 (jI σ) (X5_changeAt_L7 r σ n x1 x3 x4 x5) 7 [(0, .ref (aC z (4 + r))), (1, .long x1), (3, .int x3), (4, .int x4), (5, .int x5)] [] σ := by
  intro n
  induction n with
  | zero =>
    intros
    exact S_none
  | succ n ih =>
    intro x1 x3 x4 x5
    rw [X5_changeAt_L7]
    refine S_iload C 4 dX5_changeAt_7 rfl ?_
    refine S_aload_n C 0 dX5_changeAt_9 rfl ?_
    refine G_X5_changes C hr fl_X5_48 dX5_changeAt_10 ?_
    refine S_icmp_ge C 84 dX5_changeAt_13 (by decide) ?_ ?_
    · refine S_iload C 3 dX5_changeAt_84 rfl ?_
      exact S_iret C rfl dX5_changeAt_86
    · refine S_iload C 3 dX5_changeAt_16 rfl ?_
      refine S_bipush C (-4) dX5_changeAt_18 (by decide) ?_
      refine S_icmp_eq C 40 dX5_changeAt_20 (by decide) ?_ ?_
      · refine S_iconst C (1) dX5_changeAt_40 (by decide) ?_
        refine S_goto C 45 dX5_changeAt_41 (by decide) ?_
        exact S_sub [0, 1, 2, 3, 4] rfl (WT_X5_changeAt_B45 C r σ hr _ ih x1 x3 x4 x5 (1 : Int32))
      · refine S_aload_n C 0 dX5_changeAt_23 rfl ?_
        refine G_X5_fromLengths C hr fl_X5_18 dX5_changeAt_24 ?_
        refine S_iload C 4 dX5_changeAt_27 rfl ?_
        refine L_X5_fromLengths C hr dX5_changeAt_29 (fun _ => ?_)
        refine S_aload_n C 0 dX5_changeAt_30 rfl ?_
        refine G_X5_fromLengths C hr fl_X5_18 dX5_changeAt_31 ?_
        refine S_iload C 3 dX5_changeAt_34 rfl ?_
        refine L_X5_fromLengths C hr dX5_changeAt_36 (fun _ => ?_)
        refine S_icmp_le C 44 dX5_changeAt_37 (by decide) ?_ ?_
        · refine S_iconst C (0) dX5_changeAt_44 (by decide) ?_
          exact S_sub [0, 1, 2, 3, 4] rfl (WT_X5_changeAt_B45 C r σ hr _ ih x1 x3 x4 x5 (0 : Int32))
        · refine S_iconst C (1) dX5_changeAt_40 (by decide) ?_
          refine S_goto C 45 dX5_changeAt_41 (by decide) ?_
          exact S_sub [0, 1, 2, 3, 4] rfl (WT_X5_changeAt_B45 C r σ hr _ ih x1 x3 x4 x5 (1 : Int32))
set_option maxRecDepth 10000 in
theorem WT_X5_changeAt {x : MX} {z : ZT} (C : Cok x (wxC z) RX5 cX5_changeAt 7 (some .int) 1 26) (r : Nat) (x1 : Int64) (x3 : Int32) (σ : St) (hr : r < 2) : Sim x (wxC z) 7 (jI σ) (X5_changeAt r x1 x3 σ) 0 [(0, .ref (aC z (4 + r))), (1, .long x1), (3, .int x3)] [] σ := by
  rw [X5_changeAt]
  refine S_bipush C (-4) dX5_changeAt_0 (by decide) ?_
  refine S_istore C [(4, .int (-4)), (0, .ref (aC z (4 + r))), (1, .long x1), (3, .int x3)] dX5_changeAt_2 (by decide) rfl ?_
  refine S_iconst C (0) dX5_changeAt_4 (by decide) ?_
  refine S_istore C [(5, .int 0), (4, .int (-4)), (0, .ref (aC z (4 + r))), (1, .long x1), (3, .int x3)] dX5_changeAt_5 (by decide) rfl ?_
  exact S_sub [2, 3, 4, 1, 0] rfl (WT_X5_changeAt_L7 C r σ hr FU x1 x3 (-4 : Int32) (0 : Int32))
set_option maxRecDepth 10000 in
theorem con_X5_changeAt (z : ZT) (l : Launch) (r : Nat) (x1 : Int64) (x3 : Int32) (σ : St) (hr : r < 2) : ∀ ro, X5_changeAt r x1 x3 σ = some ro → Con (wxC z) l yX5_changeAt cX5_changeAt 7 (some .int) 1 26 [.ref (aC z (4 + r)), .long x1, .int x3] σ ((jI σ) ro) :=
  fun ro hk => Con_of hk (by decide) (Nat.le_of_ble_eq_true rfl) (fun x hx C => WT_X5_changeAt C r x1 x3 σ hr)
set_option maxRecDepth 10000 in
theorem K_X5_changeAt {x : MX} {z : ZT} {own : String} {cc : ByteArray} {nL : Nat} {ret : Option FieldType} {fr lo : Nat} {ρ : Type} {inj : ρ → Option Value × St} {pc : Nat} {lv : List (Nat × Value)} {st : List Value} {σ : St} (C : Cok x (wxC z) own cc nL ret fr lo) {r : Nat} {x1 : Int64} {x3 : Int32} (hr : r < 2) {index : Nat} (hl : Cond.methodLink own index yX5_changeAt ∈ gtb) (hR : 1 + 1 ≤ fr ∧ 8 + (7 + 11) + 26 ≤ lo) (hW : (st.map fun v => v.category).sum ≤ 8) (hd : decode cc pc = .ok (.invokevirtual index, 3)) {K : Int32 → Option ρ} (h : ∀ v, Sim x (wxC z) nL inj (K v) (pc + 3) lv (.int v :: st) σ) : Sim x (wxC z) nL inj ((X5_changeAt r x1 x3 σ).bind K) pc lv (.int x3 :: .long x1 :: .ref (aC z (4 + r)) :: st) σ :=
  S_callV C (As := [.long x1, .int x3]) (q := (4 + r)) (inj1 := (jI σ)) mw_X5_changeAt mv_X5_changeAt hl (fun ro hro => con_X5_changeAt z (mL x) r x1 x3 σ hr ro hro) hR rfl (show (4 + r) < 59 by omega) rfl (ce_X5 z σ hr) rfl rfl hW hd h
set_option maxRecDepth 10000 in
theorem WT_X7_append_L18 {x : MX} {z : ZT} (C : Cok x (wxC z) RX7 cX7_append 4 (some .boolean) 0 0) : ∀ (n : Nat) (x1 : Int64) (x3 : Int32) (σ : St), Sim x (wxC z) 4 jIS (X7_append_L18 n x1 x3 σ) 18 [(0, .ref (aC z 1)), (1, .long x1), (3, .int x3)] [] σ := by
  intro n
  induction n with
  | zero =>
    intros
    exact S_none
  | succ n ih =>
    intro x1 x3 σ
    rw [X7_append_L18]
    refine S_iload_n C 2 dX7_append_18 rfl ?_
    refine S_if_lt C 52 dX7_append_19 (by decide) ?_ ?_
    · refine S_iconst C (1) dX7_append_52 (by decide) ?_
      exact S_zret C rfl rfl dX7_append_53
    · refine S_aload_n C 0 dX7_append_22 rfl ?_
      refine G_X7_bytes C fl_X7_9 dX7_append_23 ?_
      refine S_aload_n C 0 dX7_append_26 rfl ?_
      refine G_X7_length C fl_X7_13 dX7_append_27 ?_
      refine S_lload_n C 1 dX7_append_30 rfl ?_
      refine S_iload_n C 2 dX7_append_31 rfl ?_
      refine S_lshr C dX7_append_32 ?_
      refine S_l2i C dX7_append_33 ?_
      refine S_i2b C dX7_append_34 ?_
      refine T_X7_bytes C dX7_append_35 (fun _ => ?_)
      refine S_bndS (fun σ1 _ => ?_)
      refine S_aload_n C 0 dX7_append_36 rfl ?_
      refine S_dup C dX7_append_37 rfl ?_
      refine G_X7_length C fl_X7_13 dX7_append_38 ?_
      refine S_iconst C (1) dX7_append_41 (by decide) ?_
      refine S_iadd C dX7_append_42 ?_
      refine P_X7_length C fl_X7_13 dX7_append_43 ?_
      refine S_bndS (fun σ2 _ => ?_)
      refine S_iinc C 2 [(3, .int (x3 + (-8))), (0, .ref (aC z 1)), (1, .long x1)] (x3 + (-8)) dX7_append_46 rfl rfl (by decide) rfl ?_
      refine S_goto C 18 dX7_append_49 (by decide) ?_
      exact S_sub [1, 2, 0] rfl (ih x1 (x3 + (-8)) σ2)
set_option maxRecDepth 10000 in
theorem WT_X7_append {x : MX} {z : ZT} (C : Cok x (wxC z) RX7 cX7_append 4 (some .boolean) 0 0) (x1 : Int64) (σ : St) : Sim x (wxC z) 4 jIS (X7_append x1 σ) 0 [(0, .ref (aC z 1)), (1, .long x1)] [] σ := by
  rw [X7_append]
  refine S_aload_n C 0 dX7_append_0 rfl ?_
  refine G_X7_length C fl_X7_13 dX7_append_1 ?_
  refine S_bipush C (8) dX7_append_4 (by decide) ?_
  refine S_iadd C dX7_append_6 ?_
  refine S_sipush C (200) dX7_append_7 (by decide) ?_
  refine S_icmp_le C 15 dX7_append_10 (by decide) ?_ ?_
  · refine S_bipush C (56) dX7_append_15 (by decide) ?_
    refine S_istore_n C [(3, .int 56), (0, .ref (aC z 1)), (1, .long x1)] (i := 3) dX7_append_17 rfl (by decide) rfl ?_
    exact S_sub [1, 2, 0] rfl (WT_X7_append_L18 C FU x1 (56 : Int32) σ)
  · refine S_iconst C (0) dX7_append_13 (by decide) ?_
    exact S_zret C rfl rfl dX7_append_14
set_option maxRecDepth 10000 in
theorem con_X7_append (z : ZT) (l : Launch) (x1 : Int64) (σ : St) : ∀ ro, X7_append x1 σ = some ro → Con (wxC z) l yX7_append cX7_append 4 (some .boolean) 0 0 [.ref (aC z 1), .long x1] σ (jIS ro) :=
  fun ro hk => Con_of hk (by decide) (Nat.le_of_ble_eq_true rfl) (fun x hx C => WT_X7_append C x1 σ)
set_option maxRecDepth 10000 in
theorem K_X7_append {x : MX} {z : ZT} {own : String} {cc : ByteArray} {nL : Nat} {ret : Option FieldType} {fr lo : Nat} {ρ : Type} {inj : ρ → Option Value × St} {pc : Nat} {lv : List (Nat × Value)} {st : List Value} {σ : St} (C : Cok x (wxC z) own cc nL ret fr lo) {x1 : Int64} {index : Nat} (hl : Cond.methodLink own index yX7_append ∈ gtb) (hR : 0 + 1 ≤ fr ∧ 8 + (4 + 11) + 0 ≤ lo) (hW : (st.map fun v => v.category).sum ≤ 8) (hd : decode cc pc = .ok (.invokevirtual index, 3)) {K : (Int32 × St) → Option ρ} (h : ∀ v, Sim x (wxC z) nL inj (K v) (pc + 3) lv (.int v.1 :: st) v.2) : Sim x (wxC z) nL inj ((X7_append x1 σ).bind K) pc lv (.long x1 :: .ref (aC z 1) :: st) σ :=
  S_callV C (As := [.long x1]) (q := 1) (inj1 := jIS) mw_X7_append mv_X7_append hl (fun ro hro => con_X7_append z (mL x) x1 σ ro hro) hR rfl (show 1 < 59 by decide) rfl (ce_X7 z σ) rfl rfl hW hd h
set_option maxRecDepth 10000 in
theorem WT_X7_byteAt {x : MX} {z : ZT} (C : Cok x (wxC z) RX7 cX7_byteAt 2 (some .int) 0 0) (x1 : Int32) (σ : St) : Sim x (wxC z) 2 (jI σ) (X7_byteAt x1 σ) 0 [(0, .ref (aC z 1)), (1, .int x1)] [] σ := by
  rw [X7_byteAt]
  refine S_iload_n C 1 dX7_byteAt_0 rfl ?_
  refine S_if_lt C 12 dX7_byteAt_1 (by decide) ?_ ?_
  · refine S_iconst C (0) dX7_byteAt_12 (by decide) ?_
    refine S_goto C 22 dX7_byteAt_13 (by decide) ?_
    exact S_iret C rfl dX7_byteAt_22
  · refine S_iload_n C 1 dX7_byteAt_4 rfl ?_
    refine S_aload_n C 0 dX7_byteAt_5 rfl ?_
    refine G_X7_length C fl_X7_13 dX7_byteAt_6 ?_
    refine S_icmp_lt C 16 dX7_byteAt_9 (by decide) ?_ ?_
    · refine S_aload_n C 0 dX7_byteAt_16 rfl ?_
      refine G_X7_bytes C fl_X7_9 dX7_byteAt_17 ?_
      refine S_iload_n C 1 dX7_byteAt_20 rfl ?_
      refine L_X7_bytes C dX7_byteAt_21 (fun _ => ?_)
      exact S_iret C rfl dX7_byteAt_22
    · refine S_iconst C (0) dX7_byteAt_12 (by decide) ?_
      refine S_goto C 22 dX7_byteAt_13 (by decide) ?_
      exact S_iret C rfl dX7_byteAt_22
set_option maxRecDepth 10000 in
theorem con_X7_byteAt (z : ZT) (l : Launch) (x1 : Int32) (σ : St) : ∀ ro, X7_byteAt x1 σ = some ro → Con (wxC z) l yX7_byteAt cX7_byteAt 2 (some .int) 0 0 [.ref (aC z 1), .int x1] σ ((jI σ) ro) :=
  fun ro hk => Con_of hk (by decide) (Nat.le_of_ble_eq_true rfl) (fun x hx C => WT_X7_byteAt C x1 σ)
set_option maxRecDepth 10000 in
theorem K_X7_byteAt {x : MX} {z : ZT} {own : String} {cc : ByteArray} {nL : Nat} {ret : Option FieldType} {fr lo : Nat} {ρ : Type} {inj : ρ → Option Value × St} {pc : Nat} {lv : List (Nat × Value)} {st : List Value} {σ : St} (C : Cok x (wxC z) own cc nL ret fr lo) {x1 : Int32} {index : Nat} (hl : Cond.methodLink own index yX7_byteAt ∈ gtb) (hR : 0 + 1 ≤ fr ∧ 8 + (2 + 11) + 0 ≤ lo) (hW : (st.map fun v => v.category).sum ≤ 8) (hd : decode cc pc = .ok (.invokevirtual index, 3)) {K : Int32 → Option ρ} (h : ∀ v, Sim x (wxC z) nL inj (K v) (pc + 3) lv (.int v :: st) σ) : Sim x (wxC z) nL inj ((X7_byteAt x1 σ).bind K) pc lv (.int x1 :: .ref (aC z 1) :: st) σ :=
  S_callV C (As := [.int x1]) (q := 1) (inj1 := (jI σ)) mw_X7_byteAt mv_X7_byteAt hl (fun ro hro => con_X7_byteAt z (mL x) x1 σ ro hro) hR rfl (show 1 < 59 by decide) rfl (ce_X7 z σ) rfl rfl hW hd h
set_option maxRecDepth 10000 in
theorem WT_X6_isLane {x : MX} {z : ZT} (C : Cok x (wxC z) RX6 cX6_isLane 1 (some .boolean) 0 0) (x0 : Int32) (σ : St) : Sim x (wxC z) 1 (jI σ) (X6_isLane x0 σ) 0 [(0, .int x0)] [] σ := by
  rw [X6_isLane]
  refine S_iload_n C 0 dX6_isLane_0 rfl ?_
  refine S_if_lt C 13 dX6_isLane_1 (by decide) ?_ ?_
  · refine S_iconst C (0) dX6_isLane_13 (by decide) ?_
    exact S_zret C rfl rfl dX6_isLane_14
  · refine S_iload_n C 0 dX6_isLane_4 rfl ?_
    refine S_iconst C (2) dX6_isLane_5 (by decide) ?_
    refine S_icmp_gt C 13 dX6_isLane_6 (by decide) ?_ ?_
    · refine S_iconst C (0) dX6_isLane_13 (by decide) ?_
      exact S_zret C rfl rfl dX6_isLane_14
    · refine S_iconst C (1) dX6_isLane_9 (by decide) ?_
      refine S_goto C 14 dX6_isLane_10 (by decide) ?_
      exact S_zret C rfl rfl dX6_isLane_14
set_option maxRecDepth 10000 in
theorem con_X6_isLane (z : ZT) (l : Launch) (x0 : Int32) (σ : St) : ∀ ro, X6_isLane x0 σ = some ro → Con (wxC z) l yX6_isLane cX6_isLane 1 (some .boolean) 0 0 [.int x0] σ ((jI σ) ro) :=
  fun ro hk => Con_of hk (by decide) (Nat.le_of_ble_eq_true rfl) (fun x hx C => WT_X6_isLane C x0 σ)
set_option maxRecDepth 10000 in
theorem K_X6_isLane {x : MX} {z : ZT} {own : String} {cc : ByteArray} {nL : Nat} {ret : Option FieldType} {fr lo : Nat} {ρ : Type} {inj : ρ → Option Value × St} {pc : Nat} {lv : List (Nat × Value)} {st : List Value} {σ : St} (C : Cok x (wxC z) own cc nL ret fr lo) {x0 : Int32} {index : Nat} (hl : Cond.methodLink own index yX6_isLane ∈ gtb) (hR : 0 + 1 ≤ fr ∧ 8 + (1 + 11) + 0 ≤ lo) (hW : (st.map fun v => v.category).sum ≤ 8) (hd : decode cc pc = .ok (.invokestatic index, 3)) {K : Int32 → Option ρ} (h : ∀ v, Sim x (wxC z) nL inj (K v) (pc + 3) lv (.int v :: st) σ) : Sim x (wxC z) nL inj ((X6_isLane x0 σ).bind K) pc lv (.int x0 :: st) σ :=
  S_callS C (As := [.int x0]) (inj1 := (jI σ)) mw_X6_isLane ms_X6_isLane hl (fun ro hro => con_X6_isLane z (mL x) x0 σ ro hro) hR rfl rfl hW hd h
set_option maxRecDepth 10000 in
theorem WT_X6_renew {x : MX} {z : ZT} (C : Cok x (wxC z) RX6 cX6_renew 3 none 1 23) (r : Nat) (x1 : Int32) (x2 : Int32) (σ : St) (hr : r < 4) : Sim x (wxC z) 3 jV (X6_renew r x1 x2 σ) 0 [(0, .ref (aC z (51 + r))), (1, .int x1), (2, .int x2)] [] σ := by
  rw [X6_renew]
  refine S_aload_n C 0 dX6_renew_0 rfl ?_
  refine G_X6_values C hr fl_X6_11 dX6_renew_1 ?_
  refine S_iconst C (0) dX6_renew_4 (by decide) ?_
  refine K_J7_fill_53178 C (by omega) (ca_X6_values z hr) ml_X6_19 (by decide) (Nat.le_of_ble_eq_true rfl) dX6_renew_5 (fun σ1 => ?_)
  refine S_aload_n C 0 dX6_renew_8 rfl ?_
  refine S_iload_n C 1 dX6_renew_9 rfl ?_
  refine P_X6_lane C hr fl_X6_25 dX6_renew_10 ?_
  refine S_bndS (fun σ2 _ => ?_)
  refine S_aload_n C 0 dX6_renew_13 rfl ?_
  refine S_iload_n C 2 dX6_renew_14 rfl ?_
  refine P_X6_cells C hr fl_X6_15 dX6_renew_15 ?_
  refine S_bndS (fun σ3 _ => ?_)
  exact S_vret C rfl dX6_renew_18
set_option maxRecDepth 10000 in
theorem con_X6_renew (z : ZT) (l : Launch) (r : Nat) (x1 : Int32) (x2 : Int32) (σ : St) (hr : r < 4) : ∀ ro, X6_renew r x1 x2 σ = some ro → Con (wxC z) l yX6_renew cX6_renew 3 none 1 23 [.ref (aC z (51 + r)), .int x1, .int x2] σ (jV ro) :=
  fun ro hk => Con_of hk (by decide) (Nat.le_of_ble_eq_true rfl) (fun x hx C => WT_X6_renew C r x1 x2 σ hr)
set_option maxRecDepth 10000 in
theorem K_X6_renew {x : MX} {z : ZT} {own : String} {cc : ByteArray} {nL : Nat} {ret : Option FieldType} {fr lo : Nat} {ρ : Type} {inj : ρ → Option Value × St} {pc : Nat} {lv : List (Nat × Value)} {st : List Value} {σ : St} (C : Cok x (wxC z) own cc nL ret fr lo) {r : Nat} {x1 : Int32} {x2 : Int32} (hr : r < 4) {index : Nat} (hl : Cond.methodLink own index yX6_renew ∈ gtb) (hR : 1 + 1 ≤ fr ∧ 8 + (3 + 11) + 23 ≤ lo) (hW : (st.map fun v => v.category).sum ≤ 8) (hd : decode cc pc = .ok (.invokevirtual index, 3)) {K : St → Option ρ} (h : ∀ v, Sim x (wxC z) nL inj (K v) (pc + 3) lv (st) v) : Sim x (wxC z) nL inj ((X6_renew r x1 x2 σ).bind K) pc lv (.int x2 :: .int x1 :: .ref (aC z (51 + r)) :: st) σ :=
  S_callV C (As := [.int x1, .int x2]) (q := (51 + r)) (inj1 := jV) mw_X6_renew mv_X6_renew hl (fun ro hro => con_X6_renew z (mL x) r x1 x2 σ hr ro hro) hR rfl (show (51 + r) < 59 by omega) rfl (ce_X6 z σ hr) rfl rfl hW hd h
set_option maxRecDepth 10000 in
theorem WT_X6_faultAt {x : MX} {z : ZT} (C : Cok x (wxC z) RX6 cX6_faultAt 3 (some .int) 0 0) (r : Nat) (x1 : Int32) (x2 : Int32) (σ : St) (hr : r < 4) : Sim x (wxC z) 3 (jI σ) (X6_faultAt r x1 x2 σ) 0 [(0, .ref (aC z (51 + r))), (1, .int x1), (2, .int x2)] [] σ := by
  rw [X6_faultAt]
  refine S_aload_n C 0 dX6_faultAt_0 rfl ?_
  refine G_X6_cells C hr fl_X6_15 dX6_faultAt_1 ?_
  refine S_bipush C (-4) dX6_faultAt_4 (by decide) ?_
  refine S_icmp_ne C 11 dX6_faultAt_6 (by decide) ?_ ?_
  · refine S_iload_n C 1 dX6_faultAt_11 rfl ?_
    refine S_aload_n C 0 dX6_faultAt_12 rfl ?_
    refine G_X6_lane C hr fl_X6_25 dX6_faultAt_13 ?_
    refine S_icmp_eq C 21 dX6_faultAt_16 (by decide) ?_ ?_
    · refine S_iload_n C 2 dX6_faultAt_21 rfl ?_
      refine S_if_lt C 33 dX6_faultAt_22 (by decide) ?_ ?_
      · refine S_iconst C (2) dX6_faultAt_33 (by decide) ?_
        refine S_goto C 38 dX6_faultAt_34 (by decide) ?_
        exact S_iret C rfl dX6_faultAt_38
      · refine S_iload_n C 2 dX6_faultAt_25 rfl ?_
        refine S_aload_n C 0 dX6_faultAt_26 rfl ?_
        refine G_X6_cells C hr fl_X6_15 dX6_faultAt_27 ?_
        refine S_icmp_lt C 37 dX6_faultAt_30 (by decide) ?_ ?_
        · refine S_iconst C (0) dX6_faultAt_37 (by decide) ?_
          exact S_iret C rfl dX6_faultAt_38
        · refine S_iconst C (2) dX6_faultAt_33 (by decide) ?_
          refine S_goto C 38 dX6_faultAt_34 (by decide) ?_
          exact S_iret C rfl dX6_faultAt_38
    · refine S_iconst C (3) dX6_faultAt_19 (by decide) ?_
      exact S_iret C rfl dX6_faultAt_20
  · refine S_iconst C (1) dX6_faultAt_9 (by decide) ?_
    exact S_iret C rfl dX6_faultAt_10
set_option maxRecDepth 10000 in
theorem con_X6_faultAt (z : ZT) (l : Launch) (r : Nat) (x1 : Int32) (x2 : Int32) (σ : St) (hr : r < 4) : ∀ ro, X6_faultAt r x1 x2 σ = some ro → Con (wxC z) l yX6_faultAt cX6_faultAt 3 (some .int) 0 0 [.ref (aC z (51 + r)), .int x1, .int x2] σ ((jI σ) ro) :=
  fun ro hk => Con_of hk (by decide) (Nat.le_of_ble_eq_true rfl) (fun x hx C => WT_X6_faultAt C r x1 x2 σ hr)
set_option maxRecDepth 10000 in
theorem K_X6_faultAt {x : MX} {z : ZT} {own : String} {cc : ByteArray} {nL : Nat} {ret : Option FieldType} {fr lo : Nat} {ρ : Type} {inj : ρ → Option Value × St} {pc : Nat} {lv : List (Nat × Value)} {st : List Value} {σ : St} (C : Cok x (wxC z) own cc nL ret fr lo) {r : Nat} {x1 : Int32} {x2 : Int32} (hr : r < 4) {index : Nat} (hl : Cond.methodLink own index yX6_faultAt ∈ gtb) (hR : 0 + 1 ≤ fr ∧ 8 + (3 + 11) + 0 ≤ lo) (hW : (st.map fun v => v.category).sum ≤ 8) (hd : decode cc pc = .ok (.invokevirtual index, 3)) {K : Int32 → Option ρ} (h : ∀ v, Sim x (wxC z) nL inj (K v) (pc + 3) lv (.int v :: st) σ) : Sim x (wxC z) nL inj ((X6_faultAt r x1 x2 σ).bind K) pc lv (.int x2 :: .int x1 :: .ref (aC z (51 + r)) :: st) σ :=
  S_callV C (As := [.int x1, .int x2]) (q := (51 + r)) (inj1 := (jI σ)) mw_X6_faultAt mv_X6_faultAt hl (fun ro hro => con_X6_faultAt z (mL x) r x1 x2 σ hr ro hro) hR rfl (show (51 + r) < 59 by omega) rfl (ce_X6 z σ hr) rfl rfl hW hd h
set_option maxRecDepth 10000 in
theorem WT_X6_put {x : MX} {z : ZT} (C : Cok x (wxC z) RX6 cX6_put 3 none 0 0) (r : Nat) (x1 : Int32) (x2 : Int32) (σ : St) (hr : r < 4) : Sim x (wxC z) 3 jV (X6_put r x1 x2 σ) 0 [(0, .ref (aC z (51 + r))), (1, .int x1), (2, .int x2)] [] σ := by
  rw [X6_put]
  refine S_iload_n C 1 dX6_put_0 rfl ?_
  refine S_if_lt C 44 dX6_put_1 (by decide) ?_ ?_
  · exact S_vret C rfl dX6_put_44
  · refine S_iload_n C 1 dX6_put_4 rfl ?_
    refine S_aload_n C 0 dX6_put_5 rfl ?_
    refine G_X6_cells C hr fl_X6_15 dX6_put_6 ?_
    refine S_icmp_ge C 44 dX6_put_9 (by decide) ?_ ?_
    · exact S_vret C rfl dX6_put_44
    · refine S_aload_n C 0 dX6_put_12 rfl ?_
      refine G_X6_values C hr fl_X6_11 dX6_put_13 ?_
      refine S_iload_n C 1 dX6_put_16 rfl ?_
      refine S_aload_n C 0 dX6_put_17 rfl ?_
      refine G_X6_lane C hr fl_X6_25 dX6_put_18 ?_
      refine S_if_ne C 29 dX6_put_21 (by decide) ?_ ?_
      · refine S_aload_n C 0 dX6_put_29 rfl ?_
        refine G_X6_lane C hr fl_X6_25 dX6_put_30 ?_
        refine S_iconst C (1) dX6_put_33 (by decide) ?_
        refine S_icmp_ne C 42 dX6_put_34 (by decide) ?_ ?_
        · refine S_iload_n C 2 dX6_put_42 rfl ?_
          refine T_X6_values C hr dX6_put_43 (fun _ => ?_)
          refine S_bndS (fun σ1 _ => ?_)
          exact S_vret C rfl dX6_put_44
        · refine S_iload_n C 2 dX6_put_37 rfl ?_
          refine S_i2s C dX6_put_38 ?_
          refine S_goto C 43 dX6_put_39 (by decide) ?_
          refine T_X6_values C hr dX6_put_43 (fun _ => ?_)
          refine S_bndS (fun σ2 _ => ?_)
          exact S_vret C rfl dX6_put_44
      · refine S_iload_n C 2 dX6_put_24 rfl ?_
        refine S_i2b C dX6_put_25 ?_
        refine S_goto C 43 dX6_put_26 (by decide) ?_
        refine T_X6_values C hr dX6_put_43 (fun _ => ?_)
        refine S_bndS (fun σ3 _ => ?_)
        exact S_vret C rfl dX6_put_44
set_option maxRecDepth 10000 in
theorem con_X6_put (z : ZT) (l : Launch) (r : Nat) (x1 : Int32) (x2 : Int32) (σ : St) (hr : r < 4) : ∀ ro, X6_put r x1 x2 σ = some ro → Con (wxC z) l yX6_put cX6_put 3 none 0 0 [.ref (aC z (51 + r)), .int x1, .int x2] σ (jV ro) :=
  fun ro hk => Con_of hk (by decide) (Nat.le_of_ble_eq_true rfl) (fun x hx C => WT_X6_put C r x1 x2 σ hr)
set_option maxRecDepth 10000 in
theorem K_X6_put {x : MX} {z : ZT} {own : String} {cc : ByteArray} {nL : Nat} {ret : Option FieldType} {fr lo : Nat} {ρ : Type} {inj : ρ → Option Value × St} {pc : Nat} {lv : List (Nat × Value)} {st : List Value} {σ : St} (C : Cok x (wxC z) own cc nL ret fr lo) {r : Nat} {x1 : Int32} {x2 : Int32} (hr : r < 4) {index : Nat} (hl : Cond.methodLink own index yX6_put ∈ gtb) (hR : 0 + 1 ≤ fr ∧ 8 + (3 + 11) + 0 ≤ lo) (hW : (st.map fun v => v.category).sum ≤ 8) (hd : decode cc pc = .ok (.invokevirtual index, 3)) {K : St → Option ρ} (h : ∀ v, Sim x (wxC z) nL inj (K v) (pc + 3) lv (st) v) : Sim x (wxC z) nL inj ((X6_put r x1 x2 σ).bind K) pc lv (.int x2 :: .int x1 :: .ref (aC z (51 + r)) :: st) σ :=
  S_callV C (As := [.int x1, .int x2]) (q := (51 + r)) (inj1 := jV) mw_X6_put mv_X6_put hl (fun ro hro => con_X6_put z (mL x) r x1 x2 σ hr ro hro) hR rfl (show (51 + r) < 59 by omega) rfl (ce_X6 z σ hr) rfl rfl hW hd h
set_option maxRecDepth 10000 in
theorem WT_X6_cellAt {x : MX} {z : ZT} (C : Cok x (wxC z) RX6 cX6_cellAt 2 (some .int) 0 0) (r : Nat) (x1 : Int32) (σ : St) (hr : r < 4) : Sim x (wxC z) 2 (jI σ) (X6_cellAt r x1 σ) 0 [(0, .ref (aC z (51 + r))), (1, .int x1)] [] σ := by
  rw [X6_cellAt]
  refine S_iload_n C 1 dX6_cellAt_0 rfl ?_
  refine S_if_lt C 21 dX6_cellAt_1 (by decide) ?_ ?_
  · refine S_iconst C (-1) dX6_cellAt_21 (by decide) ?_
    exact S_iret C rfl dX6_cellAt_22
  · refine S_iload_n C 1 dX6_cellAt_4 rfl ?_
    refine S_aload_n C 0 dX6_cellAt_5 rfl ?_
    refine G_X6_cells C hr fl_X6_15 dX6_cellAt_6 ?_
    refine S_icmp_ge C 21 dX6_cellAt_9 (by decide) ?_ ?_
    · refine S_iconst C (-1) dX6_cellAt_21 (by decide) ?_
      exact S_iret C rfl dX6_cellAt_22
    · refine S_aload_n C 0 dX6_cellAt_12 rfl ?_
      refine G_X6_values C hr fl_X6_11 dX6_cellAt_13 ?_
      refine S_iload_n C 1 dX6_cellAt_16 rfl ?_
      refine L_X6_values C hr dX6_cellAt_17 (fun _ => ?_)
      refine S_goto C 22 dX6_cellAt_18 (by decide) ?_
      exact S_iret C rfl dX6_cellAt_22
set_option maxRecDepth 10000 in
theorem con_X6_cellAt (z : ZT) (l : Launch) (r : Nat) (x1 : Int32) (σ : St) (hr : r < 4) : ∀ ro, X6_cellAt r x1 σ = some ro → Con (wxC z) l yX6_cellAt cX6_cellAt 2 (some .int) 0 0 [.ref (aC z (51 + r)), .int x1] σ ((jI σ) ro) :=
  fun ro hk => Con_of hk (by decide) (Nat.le_of_ble_eq_true rfl) (fun x hx C => WT_X6_cellAt C r x1 σ hr)
set_option maxRecDepth 10000 in
theorem K_X6_cellAt {x : MX} {z : ZT} {own : String} {cc : ByteArray} {nL : Nat} {ret : Option FieldType} {fr lo : Nat} {ρ : Type} {inj : ρ → Option Value × St} {pc : Nat} {lv : List (Nat × Value)} {st : List Value} {σ : St} (C : Cok x (wxC z) own cc nL ret fr lo) {r : Nat} {x1 : Int32} (hr : r < 4) {index : Nat} (hl : Cond.methodLink own index yX6_cellAt ∈ gtb) (hR : 0 + 1 ≤ fr ∧ 8 + (2 + 11) + 0 ≤ lo) (hW : (st.map fun v => v.category).sum ≤ 8) (hd : decode cc pc = .ok (.invokevirtual index, 3)) {K : Int32 → Option ρ} (h : ∀ v, Sim x (wxC z) nL inj (K v) (pc + 3) lv (.int v :: st) σ) : Sim x (wxC z) nL inj ((X6_cellAt r x1 σ).bind K) pc lv (.int x1 :: .ref (aC z (51 + r)) :: st) σ :=
  S_callV C (As := [.int x1]) (q := (51 + r)) (inj1 := (jI σ)) mw_X6_cellAt mv_X6_cellAt hl (fun ro hro => con_X6_cellAt z (mL x) r x1 σ hr ro hro) hR rfl (show (51 + r) < 59 by omega) rfl (ce_X6 z σ hr) rfl rfl hW hd h
