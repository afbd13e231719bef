set_option maxRecDepth 10000 in
theorem WT_X10_divideUp {x : MX} {z : ZT} (C : Cok x (wxC z) RX10 cX10_divideUp 2 (some .int) 0 0) (x0 : Int32) (x1 : Int32) (σ : St) : Sim x (wxC z) 2 (jI σ) (X10_divideUp x0 x1 σ) 0 [(0, .int x0), (1, .int x1)] [] σ := by
  rw [X10_divideUp]
  refine S_iload_n C 1 dX10_divideUp_0 rfl ?_
  refine S_if_gt C 8 dX10_divideUp_1 (by decide) ?_ ?_
  · refine S_iload_n C 0 dX10_divideUp_8 rfl ?_
    refine S_iload_n C 1 dX10_divideUp_9 rfl ?_
    refine S_iadd C dX10_divideUp_10 ?_
    refine S_iconst C (1) dX10_divideUp_11 (by decide) ?_
    refine S_isub C dX10_divideUp_12 ?_
    refine S_iload_n C 1 dX10_divideUp_13 rfl ?_
    refine S_idiv C dX10_divideUp_14 ?_
    exact S_iret C rfl dX10_divideUp_15
  · refine S_iconst C (0) dX10_divideUp_4 (by decide) ?_
    refine S_goto C 15 dX10_divideUp_5 (by decide) ?_
    exact S_iret C rfl dX10_divideUp_15
set_option maxRecDepth 10000 in
theorem con_X10_divideUp (z : ZT) (l : Launch) (x0 : Int32) (x1 : Int32) (σ : St) : ∀ ro, X10_divideUp x0 x1 σ = some ro → Con (wxC z) l yX10_divideUp cX10_divideUp 2 (some .int) 0 0 [.int x0, .int x1] σ ((jI σ) ro) :=
  fun ro hk => Con_of hk (by decide) (Nat.le_of_ble_eq_true rfl) (fun x hx C => WT_X10_divideUp C x0 x1 σ)
set_option maxRecDepth 10000 in
theorem K_X10_divideUp {x : MX} {z : ZT} {own : String} {cc : ByteArray} {nL : Nat} {ret : Option FieldType} {fr lo : Nat} {ρ : Type} {inj : ρ → Option Value × St} {pc : Nat} {lv : List (Nat × Value)} {st : List Value} {σ : St} (C : Cok x (wxC z) own cc nL ret fr lo) {x0 : Int32} {x1 : Int32} {index : Nat} (hl : Cond.methodLink own index yX10_divideUp ∈ gtb) (hR : 0 + 1 ≤ fr ∧ 8 + (2 + 11) + 0 ≤ lo) (hW : (st.map fun v => v.category).sum ≤ 8) (hd : decode cc pc = .ok (.invokestatic index, 3)) {K : Int32 → Option ρ} (h : ∀ v, Sim x (wxC z) nL inj (K v) (pc + 3) lv (.int v :: st) σ) : Sim x (wxC z) nL inj ((X10_divideUp x0 x1 σ).bind K) pc lv (.int x1 :: .int x0 :: st) σ :=
  S_callS C (As := [.int x0, .int x1]) (inj1 := (jI σ)) mw_X10_divideUp ms_X10_divideUp hl (fun ro hro => con_X10_divideUp z (mL x) x0 x1 σ ro hro) hR rfl rfl hW hd h
set_option maxRecDepth 10000 in
theorem Kn_X10_divideUp {x : MX} {z : ZT} {cc : ByteArray} {nL : Nat} {ret : Option FieldType} {fr lo : Nat} {ρ : Type} {inj : ρ → Option Value × St} {pc : Nat} {lv : List (Nat × Value)} {st : List Value} {σ : St} (C : Cok x (wxC z) RX4 cc nL ret fr lo) {x0 : Int32} {x1 : Int32} (hR : 0 + 1 ≤ fr ∧ 8 + (2 + 11) + 0 ≤ lo) (hW : (st.map fun v => v.category).sum ≤ 8) (hd : decode cc pc = .ok (.invokestatic 51, 3)) {K : Int32 → Option ρ} (h : ∀ v, Sim x (wxC z) nL inj (K v) (pc + 3) lv (.int v :: st) σ) : Sim x (wxC z) nL inj ((X10_divideUp x0 x1 σ).bind K) pc lv (.int x1 :: .int x0 :: st) σ :=
  S_callN C (As := [.int x0, .int x1]) (inj1 := (jI σ)) mw_X10_divideUp ms_X10_divideUp (fun ro hro => con_X10_divideUp z (mL x) x0 x1 σ ro hro) hR rfl rfl hW hd h
set_option maxRecDepth 10000 in
theorem WT_X4_gather_L7 {x : MX} {z : ZT} (C : Cok x (wxC z) RX4 cX4_gather 3 none 3 69) : ∀ (n : Nat) (x1 : Int32) (x2 : Int32) (σ : St), Sim x (wxC z) 3 jV (X4_gather_L7 n x1 x2 σ) 7 [(0, .ref (aC z 46)), (1, .int x1), (2, .int x2)] [] σ := by
  intro n
  induction n with
  | zero =>
    intros
    exact S_none
  | succ n ih =>
    intro x1 x2 σ
    rw [X4_gather_L7]
    refine S_iload_n C 2 dX4_gather_7 rfl ?_
    refine S_aload_n C 0 dX4_gather_8 rfl ?_
    refine G_X4_books C fl_X4_15 dX4_gather_9 ?_
    refine G_X0_places C fl_X4_32 dX4_gather_12 ?_
    refine S_icmp_ge C 62 dX4_gather_15 (by decide) ?_ ?_
    · exact S_vret C rfl dX4_gather_62
    · refine S_aload_n C 0 dX4_gather_18 rfl ?_
      refine G_X4_firsts C fl_X4_21 dX4_gather_19 ?_
      refine S_iload_n C 2 dX4_gather_22 rfl ?_
      refine S_aload_n C 0 dX4_gather_23 rfl ?_
      refine G_X4_lines C fl_X4_9 dX4_gather_24 ?_
      refine S_iload_n C 1 dX4_gather_27 rfl ?_
      refine S_iload_n C 2 dX4_gather_28 rfl ?_
      refine K_X3_firstYear C ml_X4_35 (by decide) (Nat.le_of_ble_eq_true rfl) dX4_gather_29 (fun v2 => ?_)
      refine T_X4_firsts C dX4_gather_32 (fun _ => ?_)
      refine S_bndS (fun σ3 _ => ?_)
      refine S_aload_n C 0 dX4_gather_33 rfl ?_
      refine G_X4_firsts C fl_X4_21 dX4_gather_34 ?_
      refine S_iload_n C 2 dX4_gather_37 rfl ?_
      refine L_X4_firsts C dX4_gather_38 (fun _ => ?_)
      refine S_bipush C (-4) dX4_gather_39 (by decide) ?_
      refine S_icmp_eq C 56 dX4_gather_41 (by decide) ?_ ?_
      · refine S_iinc C 2 [(2, .int (x2 + 1)), (0, .ref (aC z 46)), (1, .int x1)] (x2 + 1) dX4_gather_56 rfl rfl (by decide) rfl ?_
        refine S_goto C 7 dX4_gather_59 (by decide) ?_
        exact S_sub [1, 2, 0] rfl (ih x1 (x2 + 1) σ3)
      · refine S_aload_n C 0 dX4_gather_44 rfl ?_
        refine S_dup C dX4_gather_45 rfl ?_
        refine G_X4_present C fl_X4_28 dX4_gather_46 ?_
        refine S_iconst C (1) dX4_gather_49 (by decide) ?_
        refine S_iload_n C 2 dX4_gather_50 rfl ?_
        refine S_ishl C dX4_gather_51 ?_
        refine S_ior C dX4_gather_52 ?_
        refine P_X4_present C fl_X4_28 dX4_gather_53 ?_
        refine S_bndS (fun σ4 _ => ?_)
        refine S_iinc C 2 [(2, .int (x2 + 1)), (0, .ref (aC z 46)), (1, .int x1)] (x2 + 1) dX4_gather_56 rfl rfl (by decide) rfl ?_
        refine S_goto C 7 dX4_gather_59 (by decide) ?_
        exact S_sub [1, 2, 0] rfl (ih x1 (x2 + 1) σ4)
set_option maxRecDepth 10000 in
theorem WT_X4_gather {x : MX} {z : ZT} (C : Cok x (wxC z) RX4 cX4_gather 3 none 3 69) (x1 : Int32) (σ : St) : Sim x (wxC z) 3 jV (X4_gather x1 σ) 0 [(0, .ref (aC z 46)), (1, .int x1)] [] σ := by
  rw [X4_gather]
  refine S_aload_n C 0 dX4_gather_0 rfl ?_
  refine S_iconst C (0) dX4_gather_1 (by decide) ?_
  refine P_X4_present C fl_X4_28 dX4_gather_2 ?_
  refine S_bndS (fun σ1 _ => ?_)
  refine S_iconst C (0) dX4_gather_5 (by decide) ?_
  refine S_istore_n C [(2, .int 0), (0, .ref (aC z 46)), (1, .int x1)] (i := 2) dX4_gather_6 rfl (by decide) rfl ?_
  exact S_sub [1, 2, 0] rfl (WT_X4_gather_L7 C FU x1 (0 : Int32) σ1)
set_option maxRecDepth 10000 in
theorem con_X4_gather (z : ZT) (l : Launch) (x1 : Int32) (σ : St) : ∀ ro, X4_gather x1 σ = some ro → Con (wxC z) l yX4_gather cX4_gather 3 none 3 69 [.ref (aC z 46), .int x1] σ (jV ro) :=
  fun ro hk => Con_of hk (by decide) (Nat.le_of_ble_eq_true rfl) (fun x hx C => WT_X4_gather C x1 σ)
set_option maxRecDepth 10000 in
theorem K_X4_gather {x : MX} {z : ZT} {own : String} {cc : ByteArray} {nL : Nat} {ret : Option FieldType} {fr lo : Nat} {ρ : Type} {inj : ρ → Option Value × St} {pc : Nat} {lv : List (Nat × Value)} {st : List Value} {σ : St} (C : Cok x (wxC z) own cc nL ret fr lo) {x1 : Int32} {index : Nat} (hl : Cond.methodLink own index yX4_gather ∈ gtb) (hR : 3 + 1 ≤ fr ∧ 8 + (3 + 11) + 69 ≤ lo) (hW : (st.map fun v => v.category).sum ≤ 8) (hd : decode cc pc = .ok (.invokevirtual index, 3)) {K : St → Option ρ} (h : ∀ v, Sim x (wxC z) nL inj (K v) (pc + 3) lv (st) v) : Sim x (wxC z) nL inj ((X4_gather x1 σ).bind K) pc lv (.int x1 :: .ref (aC z 46) :: st) σ :=
  S_callV C (As := [.int x1]) (q := 46) (inj1 := jV) mw_X4_gather mv_X4_gather hl (fun ro hro => con_X4_gather z (mL x) x1 σ ro hro) hR rfl (show 46 < 59 by decide) rfl (ce_X4 z σ) rfl rfl hW hd h
set_option maxRecDepth 10000 in
theorem WT_X4_isPresent {x : MX} {z : ZT} (C : Cok x (wxC z) RX4 cX4_isPresent 2 (some .boolean) 0 0) (x1 : Int32) (σ : St) : Sim x (wxC z) 2 (jI σ) (X4_isPresent x1 σ) 0 [(0, .ref (aC z 46)), (1, .int x1)] [] σ := by
  rw [X4_isPresent]
  refine S_aload_n C 0 dX4_isPresent_0 rfl ?_
  refine G_X4_present C fl_X4_28 dX4_isPresent_1 ?_
  refine S_iload_n C 1 dX4_isPresent_4 rfl ?_
  refine S_ishr C dX4_isPresent_5 ?_
  refine S_iconst C (1) dX4_isPresent_6 (by decide) ?_
  refine S_iand C dX4_isPresent_7 ?_
  refine S_iconst C (1) dX4_isPresent_8 (by decide) ?_
  refine S_icmp_ne C 16 dX4_isPresent_9 (by decide) ?_ ?_
  · refine S_iconst C (0) dX4_isPresent_16 (by decide) ?_
    exact S_zret C rfl rfl dX4_isPresent_17
  · refine S_iconst C (1) dX4_isPresent_12 (by decide) ?_
    refine S_goto C 17 dX4_isPresent_13 (by decide) ?_
    exact S_zret C rfl rfl dX4_isPresent_17
set_option maxRecDepth 10000 in
theorem con_X4_isPresent (z : ZT) (l : Launch) (x1 : Int32) (σ : St) : ∀ ro, X4_isPresent x1 σ = some ro → Con (wxC z) l yX4_isPresent cX4_isPresent 2 (some .boolean) 0 0 [.ref (aC z 46), .int x1] σ ((jI σ) ro) :=
  fun ro hk => Con_of hk (by decide) (Nat.le_of_ble_eq_true rfl) (fun x hx C => WT_X4_isPresent C x1 σ)
set_option maxRecDepth 10000 in
theorem K_X4_isPresent {x : MX} {z : ZT} {own : String} {cc : ByteArray} {nL : Nat} {ret : Option FieldType} {fr lo : Nat} {ρ : Type} {inj : ρ → Option Value × St} {pc : Nat} {lv : List (Nat × Value)} {st : List Value} {σ : St} (C : Cok x (wxC z) own cc nL ret fr lo) {x1 : Int32} {index : Nat} (hl : Cond.methodLink own index yX4_isPresent ∈ gtb) (hR : 0 + 1 ≤ fr ∧ 8 + (2 + 11) + 0 ≤ lo) (hW : (st.map fun v => v.category).sum ≤ 8) (hd : decode cc pc = .ok (.invokevirtual index, 3)) {K : Int32 → Option ρ} (h : ∀ v, Sim x (wxC z) nL inj (K v) (pc + 3) lv (.int v :: st) σ) : Sim x (wxC z) nL inj ((X4_isPresent x1 σ).bind K) pc lv (.int x1 :: .ref (aC z 46) :: st) σ :=
  S_callV C (As := [.int x1]) (q := 46) (inj1 := (jI σ)) mw_X4_isPresent mv_X4_isPresent hl (fun ro hro => con_X4_isPresent z (mL x) x1 σ ro hro) hR rfl (show 46 < 59 by decide) rfl (ce_X4 z σ) rfl rfl hW hd h
set_option maxRecDepth 10000 in
theorem WT_X4_reachOf_L7 {x : MX} {z : ZT} (C : Cok x (wxC z) RX4 cX4_reachOf 6 (some .int) 2 43) (σ : St) : ∀ (n : Nat) (x1 : Int32) (x2 : Int32) (x3 : Int32) (x4 : Int32), Sim x (wxC z) 6 (jI σ) (X4_reachOf_L7 σ n x1 x2 x3 x4) 7 [(0, .ref (aC z 46)), (1, .int x1), (2, .int x2), (3, .int x3), (4, .int x4)] [] σ := by
  intro n
  induction n with
  | zero =>
    intros
    exact S_none
  | succ n ih =>
    intro x1 x2 x3 x4
    rw [X4_reachOf_L7]
    refine S_iload C 4 dX4_reachOf_7 rfl ?_
    refine S_aload_n C 0 dX4_reachOf_9 rfl ?_
    refine G_X4_books C fl_X4_15 dX4_reachOf_10 ?_
    refine G_X0_places C fl_X4_32 dX4_reachOf_13 ?_
    refine S_icmp_ge C 79 dX4_reachOf_16 (by decide) ?_ ?_
    · refine S_iload_n C 3 dX4_reachOf_79 rfl ?_
      exact S_iret C rfl dX4_reachOf_80
    · refine S_aload_n C 0 dX4_reachOf_19 rfl ?_
      refine G_X4_books C fl_X4_15 dX4_reachOf_20 ?_
      refine S_iload_n C 1 dX4_reachOf_23 rfl ?_
      refine S_iload C 4 dX4_reachOf_24 rfl ?_
      refine K_X0_howFar C ml_X4_48 (by decide) (Nat.le_of_ble_eq_true rfl) dX4_reachOf_26 (fun v2 => ?_)
      refine S_bipush C (10) dX4_reachOf_29 (by decide) ?_
      refine S_imul C dX4_reachOf_31 ?_
      refine S_iload_n C 2 dX4_reachOf_32 rfl ?_
      refine Kn_X10_divideUp C (by decide) (Nat.le_of_ble_eq_true rfl) dX4_reachOf_33 (fun v3 => ?_)
      refine S_istore C [(5, .int v3), (0, .ref (aC z 46)), (1, .int x1), (2, .int x2), (3, .int x3), (4, .int x4)] dX4_reachOf_36 (by decide) rfl ?_
      refine S_aload_n C 1 dX4_reachOf_38 rfl ?_
      refine S_iload C 5 dX4_reachOf_39 rfl ?_
      refine K_X4_isPresent C ml_X4_41 (by decide) (Nat.le_of_ble_eq_true rfl) dX4_reachOf_41 (fun v4 => ?_)
      refine S_if_eq C 73 dX4_reachOf_44 (by decide) ?_ ?_
      · refine S_iinc C 5 [(4, .int (x4 + 1)), (5, .int v3), (0, .ref (aC z 46)), (1, .int x1), (2, .int x2), (3, .int x3)] (x4 + 1) dX4_reachOf_73 rfl rfl (by decide) rfl ?_
        refine S_goto C 7 dX4_reachOf_76 (by decide) ?_
        exact S_sub [2, 3, 4, 5, 0] rfl (ih x1 x2 x3 (x4 + 1))
      · refine S_aload_n C 1 dX4_reachOf_47 rfl ?_
        refine G_X4_firsts C fl_X4_21 dX4_reachOf_48 ?_
        refine S_iload_n C 2 dX4_reachOf_51 rfl ?_
        refine L_X4_firsts C dX4_reachOf_52 (fun _ => ?_)
        refine S_iload C 0 dX4_reachOf_53 rfl ?_
        refine S_iadd C dX4_reachOf_55 ?_
        refine S_aload_n C 1 dX4_reachOf_56 rfl ?_
        refine G_X4_firsts C fl_X4_21 dX4_reachOf_57 ?_
        refine S_iload C 5 dX4_reachOf_60 rfl ?_
        refine L_X4_firsts C dX4_reachOf_62 (fun _ => ?_)
        refine S_icmp_gt C 73 dX4_reachOf_63 (by decide) ?_ ?_
        · refine S_iinc C 5 [(4, .int (x4 + 1)), (5, .int v3), (0, .ref (aC z 46)), (1, .int x1), (2, .int x2), (3, .int x3)] (x4 + 1) dX4_reachOf_73 rfl rfl (by decide) rfl ?_
          refine S_goto C 7 dX4_reachOf_76 (by decide) ?_
          exact S_sub [2, 3, 4, 5, 0] rfl (ih x1 x2 x3 (x4 + 1))
        · refine S_iload_n C 4 dX4_reachOf_66 rfl ?_
          refine S_iconst C (1) dX4_reachOf_67 (by decide) ?_
          refine S_iload C 5 dX4_reachOf_68 rfl ?_
          refine S_ishl C dX4_reachOf_70 ?_
          refine S_ior C dX4_reachOf_71 ?_
          refine S_bndT (fun x3_5 _ => ?_)
          refine S_istore_n C [(3, .int x3_5), (5, .int v3), (0, .ref (aC z 46)), (1, .int x1), (2, .int x2), (4, .int x4)] (i := 3) dX4_reachOf_72 rfl (by decide) rfl ?_
          refine S_iinc C 5 [(4, .int (x4 + 1)), (3, .int x3_5), (5, .int v3), (0, .ref (aC z 46)), (1, .int x1), (2, .int x2)] (x4 + 1) dX4_reachOf_73 rfl rfl (by decide) rfl ?_
          refine S_goto C 7 dX4_reachOf_76 (by decide) ?_
          exact S_sub [3, 4, 5, 1, 0] rfl (ih x1 x2 x3_5 (x4 + 1))
set_option maxRecDepth 10000 in
theorem WT_X4_reachOf {x : MX} {z : ZT} (C : Cok x (wxC z) RX4 cX4_reachOf 6 (some .int) 2 43) (x1 : Int32) (x2 : Int32) (σ : St) : Sim x (wxC z) 6 (jI σ) (X4_reachOf x1 x2 σ) 0 [(0, .ref (aC z 46)), (1, .int x1), (2, .int x2)] [] σ := by
  rw [X4_reachOf]
  refine S_iconst C (1) dX4_reachOf_0 (by decide) ?_
  refine S_iload_n C 1 dX4_reachOf_1 rfl ?_
  refine S_ishl C dX4_reachOf_2 ?_
  refine S_bndT (fun x3_1 _ => ?_)
  refine S_istore_n C [(3, .int x3_1), (0, .ref (aC z 46)), (1, .int x1), (2, .int x2)] (i := 3) dX4_reachOf_3 rfl (by decide) rfl ?_
  refine S_iconst C (0) dX4_reachOf_4 (by decide) ?_
  refine S_istore C [(4, .int 0), (3, .int x3_1), (0, .ref (aC z 46)), (1, .int x1), (2, .int x2)] dX4_reachOf_5 (by decide) rfl ?_
  exact S_sub [2, 3, 4, 1, 0] rfl (WT_X4_reachOf_L7 C σ FU x1 x2 x3_1 (0 : Int32))
set_option maxRecDepth 10000 in
theorem con_X4_reachOf (z : ZT) (l : Launch) (x1 : Int32) (x2 : Int32) (σ : St) : ∀ ro, X4_reachOf x1 x2 σ = some ro → Con (wxC z) l yX4_reachOf cX4_reachOf 6 (some .int) 2 43 [.ref (aC z 46), .int x1, .int x2] σ ((jI σ) ro) :=
  fun ro hk => Con_of hk (by decide) (Nat.le_of_ble_eq_true rfl) (fun x hx C => WT_X4_reachOf C x1 x2 σ)
set_option maxRecDepth 10000 in
theorem K_X4_reachOf {x : MX} {z : ZT} {own : String} {cc : ByteArray} {nL : Nat} {ret : Option FieldType} {fr lo : Nat} {ρ : Type} {inj : ρ → Option Value × St} {pc : Nat} {lv : List (Nat × Value)} {st : List Value} {σ : St} (C : Cok x (wxC z) own cc nL ret fr lo) {x1 : Int32} {x2 : Int32} {index : Nat} (hl : Cond.methodLink own index yX4_reachOf ∈ gtb) (hR : 2 + 1 ≤ fr ∧ 8 + (6 + 11) + 43 ≤ lo) (hW : (st.map fun v => v.category).sum ≤ 8) (hd : decode cc pc = .ok (.invokevirtual index, 3)) {K : Int32 → Option ρ} (h : ∀ v, Sim x (wxC z) nL inj (K v) (pc + 3) lv (.int v :: st) σ) : Sim x (wxC z) nL inj ((X4_reachOf x1 x2 σ).bind K) pc lv (.int x2 :: .int x1 :: .ref (aC z 46) :: st) σ :=
  S_callV C (As := [.int x1, .int x2]) (q := 46) (inj1 := (jI σ)) mw_X4_reachOf mv_X4_reachOf hl (fun ro hro => con_X4_reachOf z (mL x) x1 x2 σ ro hro) hR rfl (show 46 < 59 by decide) rfl (ce_X4 z σ) rfl rfl hW hd h
set_option maxRecDepth 10000 in
theorem WT_X4_spread_L2 {x : MX} {z : ZT} (C : Cok x (wxC z) RX4 cX4_spread 3 none 3 68) : ∀ (n : Nat) (x1 : Int32) (x2 : Int32) (σ : St), Sim x (wxC z) 3 jV (X4_spread_L2 n x1 x2 σ) 2 [(0, .ref (aC z 46)), (1, .int x1), (2, .int x2)] [] σ := by
  intro n
  induction n with
  | zero =>
    intros
    exact S_none
  | succ n ih =>
    intro x1 x2 σ
    rw [X4_spread_L2]
    refine S_iload_n C 2 dX4_spread_2 rfl ?_
    refine S_aload_n C 0 dX4_spread_3 rfl ?_
    refine G_X4_books C fl_X4_15 dX4_spread_4 ?_
    refine G_X0_places C fl_X4_32 dX4_spread_7 ?_
    refine S_icmp_ge C 43 dX4_spread_10 (by decide) ?_ ?_
    · exact S_vret C rfl dX4_spread_43
    · refine S_aload_n C 0 dX4_spread_13 rfl ?_
      refine G_X4_reach C fl_X4_25 dX4_spread_14 ?_
      refine S_iload_n C 2 dX4_spread_17 rfl ?_
      refine S_aload_n C 0 dX4_spread_18 rfl ?_
      refine S_iload_n C 2 dX4_spread_19 rfl ?_
      refine K_X4_isPresent C ml_X4_41 (by decide) (Nat.le_of_ble_eq_true rfl) dX4_spread_20 (fun v1 => ?_)
      refine S_if_eq C 35 dX4_spread_23 (by decide) ?_ ?_
      · refine S_iconst C (0) dX4_spread_35 (by decide) ?_
        refine T_X4_reach C dX4_spread_36 (fun _ => ?_)
        refine S_bndS (fun σ2 _ => ?_)
        refine S_iinc C 2 [(2, .int (x2 + 1)), (0, .ref (aC z 46)), (1, .int x1)] (x2 + 1) dX4_spread_37 rfl rfl (by decide) rfl ?_
        refine S_goto C 2 dX4_spread_40 (by decide) ?_
        exact S_sub [1, 2, 0] rfl (ih x1 (x2 + 1) σ2)
      · refine S_aload_n C 0 dX4_spread_26 rfl ?_
        refine S_iload_n C 2 dX4_spread_27 rfl ?_
        refine S_iload_n C 1 dX4_spread_28 rfl ?_
        refine K_X4_reachOf C ml_X4_45 (by decide) (Nat.le_of_ble_eq_true rfl) dX4_spread_29 (fun v3 => ?_)
        refine S_goto C 36 dX4_spread_32 (by decide) ?_
        refine T_X4_reach C dX4_spread_36 (fun _ => ?_)
        refine S_bndS (fun σ4 _ => ?_)
        refine S_iinc C 2 [(2, .int (x2 + 1)), (0, .ref (aC z 46)), (1, .int x1)] (x2 + 1) dX4_spread_37 rfl rfl (by decide) rfl ?_
        refine S_goto C 2 dX4_spread_40 (by decide) ?_
        exact S_sub [1, 2, 0] rfl (ih x1 (x2 + 1) σ4)
set_option maxRecDepth 10000 in
theorem WT_X4_spread {x : MX} {z : ZT} (C : Cok x (wxC z) RX4 cX4_spread 3 none 3 68) (x1 : Int32) (σ : St) : Sim x (wxC z) 3 jV (X4_spread x1 σ) 0 [(0, .ref (aC z 46)), (1, .int x1)] [] σ := by
  rw [X4_spread]
  refine S_iconst C (0) dX4_spread_0 (by decide) ?_
  refine S_istore_n C [(2, .int 0), (0, .ref (aC z 46)), (1, .int x1)] (i := 2) dX4_spread_1 rfl (by decide) rfl ?_
  exact S_sub [1, 2, 0] rfl (WT_X4_spread_L2 C FU x1 (0 : Int32) σ)
set_option maxRecDepth 10000 in
theorem con_X4_spread (z : ZT) (l : Launch) (x1 : Int32) (σ : St) : ∀ ro, X4_spread x1 σ = some ro → Con (wxC z) l yX4_spread cX4_spread 3 none 3 68 [.ref (aC z 46), .int x1] σ (jV ro) :=
  fun ro hk => Con_of hk (by decide) (Nat.le_of_ble_eq_true rfl) (fun x hx C => WT_X4_spread C x1 σ)
set_option maxRecDepth 10000 in
theorem K_X4_spread {x : MX} {z : ZT} {own : String} {cc : ByteArray} {nL : Nat} {ret : Option FieldType} {fr lo : Nat} {ρ : Type} {inj : ρ → Option Value × St} {pc : Nat} {lv : List (Nat × Value)} {st : List Value} {σ : St} (C : Cok x (wxC z) own cc nL ret fr lo) {x1 : Int32} {index : Nat} (hl : Cond.methodLink own index yX4_spread ∈ gtb) (hR : 3 + 1 ≤ fr ∧ 8 + (3 + 11) + 68 ≤ lo) (hW : (st.map fun v => v.category).sum ≤ 8) (hd : decode cc pc = .ok (.invokevirtual index, 3)) {K : St → Option ρ} (h : ∀ v, Sim x (wxC z) nL inj (K v) (pc + 3) lv (st) v) : Sim x (wxC z) nL inj ((X4_spread x1 σ).bind K) pc lv (.int x1 :: .ref (aC z 46) :: st) σ :=
  S_callV C (As := [.int x1]) (q := 46) (inj1 := jV) mw_X4_spread mv_X4_spread hl (fun ro hro => con_X4_spread z (mL x) x1 σ ro hro) hR rfl (show 46 < 59 by decide) rfl (ce_X4 z σ) rfl rfl hW hd h
set_option maxRecDepth 10000 in
theorem WT_X4_letsAllCome_L4 {x : MX} {z : ZT} (C : Cok x (wxC z) RX4 cX4_letsAllCome 4 (some .boolean) 0 0) (σ : St) : ∀ (n : Nat) (x1 : Int32) (x2 : Int32) (x3 : Int32), Sim x (wxC z) 4 (jI σ) (X4_letsAllCome_L4 σ n x1 x2 x3) 4 [(0, .ref (aC z 46)), (1, .int x1), (2, .int x2), (3, .int x3)] [] σ := by
  intro n
  induction n with
  | zero =>
    intros
    exact S_none
  | succ n ih =>
    intro x1 x2 x3
    rw [X4_letsAllCome_L4]
    refine S_iload_n C 3 dX4_letsAllCome_4 rfl ?_
    refine S_aload_n C 0 dX4_letsAllCome_5 rfl ?_
    refine G_X4_books C fl_X4_15 dX4_letsAllCome_6 ?_
    refine G_X0_places C fl_X4_32 dX4_letsAllCome_9 ?_
    refine S_icmp_ge C 39 dX4_letsAllCome_12 (by decide) ?_ ?_
    · refine S_iload_n C 2 dX4_letsAllCome_39 rfl ?_
      refine S_aload_n C 0 dX4_letsAllCome_40 rfl ?_
      refine G_X4_present C fl_X4_28 dX4_letsAllCome_41 ?_
      refine S_icmp_ne C 51 dX4_letsAllCome_44 (by decide) ?_ ?_
      · refine S_iconst C (0) dX4_letsAllCome_51 (by decide) ?_
        exact S_zret C rfl rfl dX4_letsAllCome_52
      · refine S_iconst C (1) dX4_letsAllCome_47 (by decide) ?_
        refine S_goto C 52 dX4_letsAllCome_48 (by decide) ?_
        exact S_zret C rfl rfl dX4_letsAllCome_52
    · refine S_iload_n C 1 dX4_letsAllCome_15 rfl ?_
      refine S_iload_n C 3 dX4_letsAllCome_16 rfl ?_
      refine S_ishr C dX4_letsAllCome_17 ?_
      refine S_iconst C (1) dX4_letsAllCome_18 (by decide) ?_
      refine S_iand C dX4_letsAllCome_19 ?_
      refine S_iconst C (1) dX4_letsAllCome_20 (by decide) ?_
      refine S_icmp_ne C 33 dX4_letsAllCome_21 (by decide) ?_ ?_
      · refine S_iinc C 3 [(3, .int (x3 + 1)), (0, .ref (aC z 46)), (1, .int x1), (2, .int x2)] (x3 + 1) dX4_letsAllCome_33 rfl rfl (by decide) rfl ?_
        refine S_goto C 4 dX4_letsAllCome_36 (by decide) ?_
        exact S_sub [1, 2, 3, 0] rfl (ih x1 x2 (x3 + 1))
      · refine S_iload_n C 2 dX4_letsAllCome_24 rfl ?_
        refine S_aload_n C 0 dX4_letsAllCome_25 rfl ?_
        refine G_X4_reach C fl_X4_25 dX4_letsAllCome_26 ?_
        refine S_iload_n C 3 dX4_letsAllCome_29 rfl ?_
        refine L_X4_reach C dX4_letsAllCome_30 (fun _ => ?_)
        refine S_ior C dX4_letsAllCome_31 ?_
        refine S_bndT (fun x2_1 _ => ?_)
        refine S_istore_n C [(2, .int x2_1), (0, .ref (aC z 46)), (1, .int x1), (3, .int x3)] (i := 2) dX4_letsAllCome_32 rfl (by decide) rfl ?_
        refine S_iinc C 3 [(3, .int (x3 + 1)), (2, .int x2_1), (0, .ref (aC z 46)), (1, .int x1)] (x3 + 1) dX4_letsAllCome_33 rfl rfl (by decide) rfl ?_
        refine S_goto C 4 dX4_letsAllCome_36 (by decide) ?_
        exact S_sub [2, 3, 1, 0] rfl (ih x1 x2_1 (x3 + 1))
set_option maxRecDepth 10000 in
theorem WT_X4_letsAllCome {x : MX} {z : ZT} (C : Cok x (wxC z) RX4 cX4_letsAllCome 4 (some .boolean) 0 0) (x1 : Int32) (σ : St) : Sim x (wxC z) 4 (jI σ) (X4_letsAllCome x1 σ) 0 [(0, .ref (aC z 46)), (1, .int x1)] [] σ := by
  rw [X4_letsAllCome]
  refine S_iconst C (0) dX4_letsAllCome_0 (by decide) ?_
  refine S_istore_n C [(2, .int 0), (0, .ref (aC z 46)), (1, .int x1)] (i := 2) dX4_letsAllCome_1 rfl (by decide) rfl ?_
  refine S_iconst C (0) dX4_letsAllCome_2 (by decide) ?_
  refine S_istore_n C [(3, .int 0), (2, .int 0), (0, .ref (aC z 46)), (1, .int x1)] (i := 3) dX4_letsAllCome_3 rfl (by decide) rfl ?_
  exact S_sub [2, 3, 1, 0] rfl (WT_X4_letsAllCome_L4 C σ FU x1 (0 : Int32) (0 : Int32))
set_option maxRecDepth 10000 in
theorem con_X4_letsAllCome (z : ZT) (l : Launch) (x1 : Int32) (σ : St) : ∀ ro, X4_letsAllCome x1 σ = some ro → Con (wxC z) l yX4_letsAllCome cX4_letsAllCome 4 (some .boolean) 0 0 [.ref (aC z 46), .int x1] σ ((jI σ) ro) :=
  fun ro hk => Con_of hk (by decide) (Nat.le_of_ble_eq_true rfl) (fun x hx C => WT_X4_letsAllCome C x1 σ)
set_option maxRecDepth 10000 in
theorem K_X4_letsAllCome {x : MX} {z : ZT} {own : String} {cc : ByteArray} {nL : Nat} {ret : Option FieldType} {fr lo : Nat} {ρ : Type} {inj : ρ → Option Value × St} {pc : Nat} {lv : List (Nat × Value)} {st : List Value} {σ : St} (C : Cok x (wxC z) own cc nL ret fr lo) {x1 : Int32} {index : Nat} (hl : Cond.methodLink own index yX4_letsAllCome ∈ gtb) (hR : 0 + 1 ≤ fr ∧ 8 + (4 + 11) + 0 ≤ lo) (hW : (st.map fun v => v.category).sum ≤ 8) (hd : decode cc pc = .ok (.invokevirtual index, 3)) {K : Int32 → Option ρ} (h : ∀ v, Sim x (wxC z) nL inj (K v) (pc + 3) lv (.int v :: st) σ) : Sim x (wxC z) nL inj ((X4_letsAllCome x1 σ).bind K) pc lv (.int x1 :: .ref (aC z 46) :: st) σ :=
  S_callV C (As := [.int x1]) (q := 46) (inj1 := (jI σ)) mw_X4_letsAllCome mv_X4_letsAllCome hl (fun ro hro => con_X4_letsAllCome z (mL x) x1 σ ro hro) hR rfl (show 46 < 59 by decide) rfl (ce_X4 z σ) rfl rfl hW hd h
set_option maxRecDepth 10000 in
theorem WT_X4_hasSingleStart_L2 {x : MX} {z : ZT} (C : Cok x (wxC z) RX4 cX4_hasSingleStart 2 (some .boolean) 1 21) (σ : St) : ∀ (n : Nat) (x1 : Int32), Sim x (wxC z) 2 (jI σ) (X4_hasSingleStart_L2 σ n x1) 2 [(0, .ref (aC z 46)), (1, .int x1)] [] σ := by
  intro n
  induction n with
  | zero =>
    intros
    exact S_none
  | succ n ih =>
    intro x1
    rw [X4_hasSingleStart_L2]
    refine S_iload_n C 1 dX4_hasSingleStart_2 rfl ?_
    refine S_aload_n C 0 dX4_hasSingleStart_3 rfl ?_
    refine G_X4_books C fl_X4_15 dX4_hasSingleStart_4 ?_
    refine G_X0_places C fl_X4_32 dX4_hasSingleStart_7 ?_
    refine S_icmp_ge C 42 dX4_hasSingleStart_10 (by decide) ?_ ?_
    · refine S_iconst C (0) dX4_hasSingleStart_42 (by decide) ?_
      exact S_zret C rfl rfl dX4_hasSingleStart_43
    · refine S_aload_n C 0 dX4_hasSingleStart_13 rfl ?_
      refine S_iload_n C 1 dX4_hasSingleStart_14 rfl ?_
      refine K_X4_isPresent C ml_X4_41 (by decide) (Nat.le_of_ble_eq_true rfl) dX4_hasSingleStart_15 (fun v1 => ?_)
      refine S_if_eq C 36 dX4_hasSingleStart_18 (by decide) ?_ ?_
      · refine S_iinc C 1 [(1, .int (x1 + 1)), (0, .ref (aC z 46))] (x1 + 1) dX4_hasSingleStart_36 rfl rfl (by decide) rfl ?_
        refine S_goto C 2 dX4_hasSingleStart_39 (by decide) ?_
        exact S_sub [1, 0] rfl (ih (x1 + 1))
      · refine S_aload_n C 0 dX4_hasSingleStart_21 rfl ?_
        refine G_X4_reach C fl_X4_25 dX4_hasSingleStart_22 ?_
        refine S_iload_n C 1 dX4_hasSingleStart_25 rfl ?_
        refine L_X4_reach C dX4_hasSingleStart_26 (fun _ => ?_)
        refine S_aload_n C 0 dX4_hasSingleStart_27 rfl ?_
        refine G_X4_present C fl_X4_28 dX4_hasSingleStart_28 ?_
        refine S_icmp_ne C 36 dX4_hasSingleStart_31 (by decide) ?_ ?_
        · refine S_iinc C 1 [(1, .int (x1 + 1)), (0, .ref (aC z 46))] (x1 + 1) dX4_hasSingleStart_36 rfl rfl (by decide) rfl ?_
          refine S_goto C 2 dX4_hasSingleStart_39 (by decide) ?_
          exact S_sub [1, 0] rfl (ih (x1 + 1))
        · refine S_iconst C (1) dX4_hasSingleStart_34 (by decide) ?_
          exact S_zret C rfl rfl dX4_hasSingleStart_35
set_option maxRecDepth 10000 in
theorem WT_X4_hasSingleStart {x : MX} {z : ZT} (C : Cok x (wxC z) RX4 cX4_hasSingleStart 2 (some .boolean) 1 21)  (σ : St) : Sim x (wxC z) 2 (jI σ) (X4_hasSingleStart σ) 0 [(0, .ref (aC z 46))] [] σ := by
  rw [X4_hasSingleStart]
  refine S_iconst C (0) dX4_hasSingleStart_0 (by decide) ?_
  refine S_istore_n C [(1, .int 0), (0, .ref (aC z 46))] (i := 1) dX4_hasSingleStart_1 rfl (by decide) rfl ?_
  exact S_sub [1, 0] rfl (WT_X4_hasSingleStart_L2 C σ FU (0 : Int32))
set_option maxRecDepth 10000 in
theorem con_X4_hasSingleStart (z : ZT) (l : Launch)  (σ : St) : ∀ ro, X4_hasSingleStart σ = some ro → Con (wxC z) l yX4_hasSingleStart cX4_hasSingleStart 2 (some .boolean) 1 21 [.ref (aC z 46)] σ ((jI σ) ro) :=
  fun ro hk => Con_of hk (by decide) (Nat.le_of_ble_eq_true rfl) (fun x hx C => WT_X4_hasSingleStart C σ)
set_option maxRecDepth 10000 in
theorem K_X4_hasSingleStart {x : MX} {z : ZT} {own : String} {cc : ByteArray} {nL : Nat} {ret : Option FieldType} {fr lo : Nat} {ρ : Type} {inj : ρ → Option Value × St} {pc : Nat} {lv : List (Nat × Value)} {st : List Value} {σ : St} (C : Cok x (wxC z) own cc nL ret fr lo)  {index : Nat} (hl : Cond.methodLink own index yX4_hasSingleStart ∈ gtb) (hR : 1 + 1 ≤ fr ∧ 8 + (2 + 11) + 21 ≤ lo) (hW : (st.map fun v => v.category).sum ≤ 8) (hd : decode cc pc = .ok (.invokevirtual index, 3)) {K : Int32 → Option ρ} (h : ∀ v, Sim x (wxC z) nL inj (K v) (pc + 3) lv (.int v :: st) σ) : Sim x (wxC z) nL inj ((X4_hasSingleStart σ).bind K) pc lv (.ref (aC z 46) :: st) σ :=
  S_callV C (As := []) (q := 46) (inj1 := (jI σ)) mw_X4_hasSingleStart mv_X4_hasSingleStart hl (fun ro hro => con_X4_hasSingleStart z (mL x) σ ro hro) hR rfl (show 46 < 59 by decide) rfl (ce_X4 z σ) rfl rfl hW hd h
set_option maxRecDepth 10000 in
theorem WT_X4_search_B81 {x : MX} {z : ZT} (C : Cok x (wxC z) RX4 cX4_search 4 none 1 23) (kq28 : Int32 → Int32 → St → Option St) (hk28 : ∀ (x1 : Int32) (x2 : Int32) (σ : St), Sim x (wxC z) 4 jV (kq28 x1 x2 σ) 28 [(0, .ref (aC z 46)), (1, .int x1), (2, .int x2)] [] σ) (x1 : Int32) (x2 : Int32) (x3 : Int32) (s0 : Int32) (σ : St) : Sim x (wxC z) 4 jV (X4_search_B81 kq28 x1 x2 x3 s0 σ) 81 [(0, .ref (aC z 46)), (1, .int x1), (2, .int x2), (3, .int x3)] [.int s0, .ref (aC z 46)] σ := by
  rw [X4_search_B81]
  refine P_X4_inAll C fl_X4_57 dX4_search_81 ?_
  refine S_bndS (fun σ7 _ => ?_)
  refine S_aload_n C 0 dX4_search_84 rfl ?_
  refine S_iload_n C 3 dX4_search_85 rfl ?_
  refine S_iload_n C 1 dX4_search_86 rfl ?_
  refine S_icmp_ge C 94 dX4_search_87 (by decide) ?_ ?_
  · refine S_aload_n C 0 dX4_search_94 rfl ?_
    refine G_X4_fewest C fl_X4_54 dX4_search_95 ?_
    refine P_X4_fewest C fl_X4_54 dX4_search_98 ?_
    refine S_bndS (fun σ8 _ => ?_)
    refine S_iload_n C 3 dX4_search_101 rfl ?_
    refine S_istore_n C [(1, .int x3), (0, .ref (aC z 46)), (2, .int x2), (3, .int x3)] (i := 1) dX4_search_102 rfl (by decide) rfl ?_
    refine S_iinc C 2 [(2, .int (x2 + 1)), (1, .int x3), (0, .ref (aC z 46)), (3, .int x3)] (x2 + 1) dX4_search_103 rfl rfl (by decide) rfl ?_
    refine S_goto C 28 dX4_search_106 (by decide) ?_
    exact S_sub [2, 1, 0] rfl (hk28 x3 (x2 + 1) σ8)
  · refine S_iload_n C 2 dX4_search_90 rfl ?_
    refine S_goto C 98 dX4_search_91 (by decide) ?_
    refine P_X4_fewest C fl_X4_54 dX4_search_98 ?_
    refine S_bndS (fun σ9 _ => ?_)
    refine S_iload_n C 3 dX4_search_101 rfl ?_
    refine S_istore_n C [(1, .int x3), (0, .ref (aC z 46)), (2, .int x2), (3, .int x3)] (i := 1) dX4_search_102 rfl (by decide) rfl ?_
    refine S_iinc C 2 [(2, .int (x2 + 1)), (1, .int x3), (0, .ref (aC z 46)), (3, .int x3)] (x2 + 1) dX4_search_103 rfl rfl (by decide) rfl ?_
    refine S_goto C 28 dX4_search_106 (by decide) ?_
    exact S_sub [2, 1, 0] rfl (hk28 x3 (x2 + 1) σ9)
set_option maxRecDepth 10000 in
theorem WT_X4_search_L28 {x : MX} {z : ZT} (C : Cok x (wxC z) RX4 cX4_search 4 none 1 23) : ∀ (n : Nat) (x1 : Int32) (x2 : Int32) (σ : St), Sim x (wxC z) 4 jV (X4_search_L28 n x1 x2 σ) 28 [(0, .ref (aC z 46)), (1, .int x1), (2, .int x2)] [] σ := by
  intro n
  induction n with
  | zero =>
    intros
    exact S_none
  | succ n ih =>
    intro x1 x2 σ
    rw [X4_search_L28]
    refine S_iload_n C 2 dX4_search_28 rfl ?_
    refine S_aload_n C 0 dX4_search_29 rfl ?_
    refine G_X4_present C fl_X4_28 dX4_search_30 ?_
    refine S_icmp_gt C 109 dX4_search_33 (by decide) ?_ ?_
    · exact S_vret C rfl dX4_search_109
    · refine S_iload_n C 2 dX4_search_36 rfl ?_
      refine K_J6_bitCount_0f7a4 C ml_X4_60 (by decide) (Nat.le_of_ble_eq_true rfl) dX4_search_37 (fun v5 => ?_)
      refine S_istore_n C [(3, .int v5), (0, .ref (aC z 46)), (1, .int x1), (2, .int x2)] (i := 3) dX4_search_40 rfl (by decide) rfl ?_
      refine S_iload_n C 3 dX4_search_41 rfl ?_
      refine S_aload_n C 1 dX4_search_42 rfl ?_
      refine G_X4_present C fl_X4_28 dX4_search_43 ?_
      refine S_iconst C (-1) dX4_search_46 (by decide) ?_
      refine S_ixor C dX4_search_47 ?_
      refine S_iand C dX4_search_48 ?_
      refine S_if_ne C 103 dX4_search_49 (by decide) ?_ ?_
      · refine S_iinc C 3 [(2, .int (x2 + 1)), (3, .int v5), (0, .ref (aC z 46)), (1, .int x1)] (x2 + 1) dX4_search_103 rfl rfl (by decide) rfl ?_
        refine S_goto C 28 dX4_search_106 (by decide) ?_
        exact S_sub [2, 3, 0] rfl (ih x1 (x2 + 1) σ)
      · refine S_iload_n C 0 dX4_search_52 rfl ?_
        refine S_iload_n C 2 dX4_search_53 rfl ?_
        refine S_icmp_gt C 103 dX4_search_54 (by decide) ?_ ?_
        · refine S_iinc C 3 [(2, .int (x2 + 1)), (3, .int v5), (0, .ref (aC z 46)), (1, .int x1)] (x2 + 1) dX4_search_103 rfl rfl (by decide) rfl ?_
          refine S_goto C 28 dX4_search_106 (by decide) ?_
          exact S_sub [2, 3, 0] rfl (ih x1 (x2 + 1) σ)
        · refine S_aload_n C 1 dX4_search_57 rfl ?_
          refine S_iload_n C 3 dX4_search_58 rfl ?_
          refine K_X4_letsAllCome C ml_X4_66 (by decide) (Nat.le_of_ble_eq_true rfl) dX4_search_59 (fun v6 => ?_)
          refine S_if_eq C 103 dX4_search_62 (by decide) ?_ ?_
          · refine S_iinc C 3 [(2, .int (x2 + 1)), (3, .int v5), (0, .ref (aC z 46)), (1, .int x1)] (x2 + 1) dX4_search_103 rfl rfl (by decide) rfl ?_
            refine S_goto C 28 dX4_search_106 (by decide) ?_
            exact S_sub [2, 3, 0] rfl (ih x1 (x2 + 1) σ)
          · refine S_aload_n C 1 dX4_search_65 rfl ?_
            refine S_iload_n C 0 dX4_search_66 rfl ?_
            refine S_iload_n C 2 dX4_search_67 rfl ?_
            refine S_icmp_ge C 75 dX4_search_68 (by decide) ?_ ?_
            · refine S_aload_n C 1 dX4_search_75 rfl ?_
              refine G_X4_inAll C fl_X4_57 dX4_search_76 ?_
              refine S_iload_n C 3 dX4_search_79 rfl ?_
              refine S_iand C dX4_search_80 ?_
              exact S_sub [1, 2, 3, 0] rfl (WT_X4_search_B81 C _ ih x1 x2 v5 ((gI σ 46 6) &&& x2) σ)
            · refine S_iload_n C 3 dX4_search_71 rfl ?_
              refine S_goto C 81 dX4_search_72 (by decide) ?_
              exact S_sub [1, 2, 3, 0] rfl (WT_X4_search_B81 C _ ih x1 x2 v5 x2 σ)
set_option maxRecDepth 10000 in
theorem WT_X4_search {x : MX} {z : ZT} (C : Cok x (wxC z) RX4 cX4_search 4 none 1 23)  (σ : St) : Sim x (wxC z) 4 jV (X4_search σ) 0 [(0, .ref (aC z 46))] [] σ := by
  rw [X4_search]
  refine S_aload_n C 0 dX4_search_0 rfl ?_
  refine S_aload_n C 0 dX4_search_1 rfl ?_
  refine G_X4_present C fl_X4_28 dX4_search_2 ?_
  refine P_X4_fewest C fl_X4_54 dX4_search_5 ?_
  refine S_bndS (fun σ1 _ => ?_)
  refine S_aload_n C 0 dX4_search_8 rfl ?_
  refine S_aload_n C 0 dX4_search_9 rfl ?_
  refine G_X4_present C fl_X4_28 dX4_search_10 ?_
  refine P_X4_inAll C fl_X4_57 dX4_search_13 ?_
  refine S_bndS (fun σ2 _ => ?_)
  refine S_aload_n C 0 dX4_search_16 rfl ?_
  refine G_X4_present C fl_X4_28 dX4_search_17 ?_
  refine K_J6_bitCount_0f7a4 C ml_X4_60 (by decide) (Nat.le_of_ble_eq_true rfl) dX4_search_20 (fun v3 => ?_)
  refine S_iconst C (1) dX4_search_23 (by decide) ?_
  refine S_iadd C dX4_search_24 ?_
  refine S_bndT (fun x1_4 _ => ?_)
  refine S_istore_n C [(1, .int x1_4), (0, .ref (aC z 46))] (i := 1) dX4_search_25 rfl (by decide) rfl ?_
  refine S_iconst C (0) dX4_search_26 (by decide) ?_
  refine S_istore_n C [(2, .int 0), (1, .int x1_4), (0, .ref (aC z 46))] (i := 2) dX4_search_27 rfl (by decide) rfl ?_
  exact S_sub [2, 1, 0] rfl (WT_X4_search_L28 C FU x1_4 (0 : Int32) σ2)
set_option maxRecDepth 10000 in
theorem con_X4_search (z : ZT) (l : Launch)  (σ : St) : ∀ ro, X4_search σ = some ro → Con (wxC z) l yX4_search cX4_search 4 none 1 23 [.ref (aC z 46)] σ (jV ro) :=
  fun ro hk => Con_of hk (by decide) (Nat.le_of_ble_eq_true rfl) (fun x hx C => WT_X4_search C σ)
set_option maxRecDepth 10000 in
theorem K_X4_search {x : MX} {z : ZT} {own : String} {cc : ByteArray} {nL : Nat} {ret : Option FieldType} {fr lo : Nat} {ρ : Type} {inj : ρ → Option Value × St} {pc : Nat} {lv : List (Nat × Value)} {st : List Value} {σ : St} (C : Cok x (wxC z) own cc nL ret fr lo)  {index : Nat} (hl : Cond.methodLink own index yX4_search ∈ gtb) (hR : 1 + 1 ≤ fr ∧ 8 + (4 + 11) + 23 ≤ lo) (hW : (st.map fun v => v.category).sum ≤ 8) (hd : decode cc pc = .ok (.invokevirtual index, 3)) {K : St → Option ρ} (h : ∀ v, Sim x (wxC z) nL inj (K v) (pc + 3) lv (st) v) : Sim x (wxC z) nL inj ((X4_search σ).bind K) pc lv (.ref (aC z 46) :: st) σ :=
  S_callV C (As := []) (q := 46) (inj1 := jV) mw_X4_search mv_X4_search hl (fun ro hro => con_X4_search z (mL x) σ ro hro) hR rfl (show 46 < 59 by decide) rfl (ce_X4 z σ) rfl rfl hW hd h
set_option maxRecDepth 10000 in
theorem WT_X10_spelling {x : MX} {z : ZT} (C : Cok x (wxC z) RX10 cX10_spelling 3 (some .int) 5 121) (x1 : Int64) (σ : St) : Sim x (wxC z) 3 jIS (X10_spelling x1 σ) 0 [(0, .ref (aC z 0)), (1, .long x1)] [] σ := by
  rw [X10_spelling]
  refine S_lload_n C 1 dX10_spelling_0 rfl ?_
  refine K_X9_isWord C ml_X10_83 (by decide) (Nat.le_of_ble_eq_true rfl) dX10_spelling_1 (fun v1 => ?_)
  refine S_if_eq C 18 dX10_spelling_4 (by decide) ?_ ?_
  · refine S_iconst C (-1) dX10_spelling_18 (by decide) ?_
    exact S_iret C rfl dX10_spelling_19
  · refine S_aload_n C 0 dX10_spelling_7 rfl ?_
    refine G_X10_words C fl_X10_40 dX10_spelling_8 ?_
    refine S_lload_n C 1 dX10_spelling_11 rfl ?_
    refine K_X9_holds C ml_X10_87 (by decide) (Nat.le_of_ble_eq_true rfl) dX10_spelling_12 (fun v2 => ?_)
    refine S_if_eq C 20 dX10_spelling_15 (by decide) ?_ ?_
    · refine S_aload_n C 0 dX10_spelling_20 rfl ?_
      refine G_X10_words C fl_X10_40 dX10_spelling_21 ?_
      refine S_lload_n C 1 dX10_spelling_24 rfl ?_
      refine K_X9_append C ml_X10_90 (by decide) (Nat.le_of_ble_eq_true rfl) dX10_spelling_25 (fun r3 => ?_)
      exact S_iret C rfl dX10_spelling_28
    · refine S_iconst C (-1) dX10_spelling_18 (by decide) ?_
      exact S_iret C rfl dX10_spelling_19
set_option maxRecDepth 10000 in
theorem con_X10_spelling (z : ZT) (l : Launch) (x1 : Int64) (σ : St) : ∀ ro, X10_spelling x1 σ = some ro → Con (wxC z) l yX10_spelling cX10_spelling 3 (some .int) 5 121 [.ref (aC z 0), .long x1] σ (jIS ro) :=
  fun ro hk => Con_of hk (by decide) (Nat.le_of_ble_eq_true rfl) (fun x hx C => WT_X10_spelling C x1 σ)
set_option maxRecDepth 10000 in
theorem K_X10_spelling {x : MX} {z : ZT} {own : String} {cc : ByteArray} {nL : Nat} {ret : Option FieldType} {fr lo : Nat} {ρ : Type} {inj : ρ → Option Value × St} {pc : Nat} {lv : List (Nat × Value)} {st : List Value} {σ : St} (C : Cok x (wxC z) own cc nL ret fr lo) {x1 : Int64} {index : Nat} (hl : Cond.methodLink own index yX10_spelling ∈ gtb) (hR : 5 + 1 ≤ fr ∧ 8 + (3 + 11) + 121 ≤ lo) (hW : (st.map fun v => v.category).sum ≤ 8) (hd : decode cc pc = .ok (.invokevirtual index, 3)) {K : (Int32 × St) → Option ρ} (h : ∀ v, Sim x (wxC z) nL inj (K v) (pc + 3) lv (.int v.1 :: st) v.2) : Sim x (wxC z) nL inj ((X10_spelling x1 σ).bind K) pc lv (.long x1 :: .ref (aC z 0) :: st) σ :=
  S_callV C (As := [.long x1]) (q := 0) (inj1 := jIS) mw_X10_spelling mv_X10_spelling hl (fun ro hro => con_X10_spelling z (mL x) x1 σ ro hro) hR rfl (show 0 < 59 by decide) rfl (ce_X10 z σ) rfl rfl hW hd h
set_option maxRecDepth 10000 in
theorem WT_X10_letters {x : MX} {z : ZT} (C : Cok x (wxC z) RX10 cX10_letters 2 (some .long) 1 21) (x1 : Int32) (σ : St) : Sim x (wxC z) 2 (jL σ) (X10_letters x1 σ) 0 [(0, .ref (aC z 0)), (1, .int x1)] [] σ := by
  rw [X10_letters]
  refine S_aload_n C 0 dX10_letters_0 rfl ?_
  refine G_X10_words C fl_X10_40 dX10_letters_1 ?_
  refine S_iload_n C 1 dX10_letters_4 rfl ?_
  refine K_X9_has C ml_X10_94 (by decide) (Nat.le_of_ble_eq_true rfl) dX10_letters_5 (fun v1 => ?_)
  refine S_if_eq C 23 dX10_letters_8 (by decide) ?_ ?_
  · refine S_ldc2 C (-1) kl_X10_102 dX10_letters_23 ?_
    exact S_lret C rfl dX10_letters_26
  · refine S_aload_n C 0 dX10_letters_11 rfl ?_
    refine G_X10_words C fl_X10_40 dX10_letters_12 ?_
    refine G_X9_letters C fl_X10_98 dX10_letters_15 ?_
    refine S_iload_n C 1 dX10_letters_18 rfl ?_
    refine L_X9_letters C dX10_letters_19 (fun _ => ?_)
    refine S_goto C 26 dX10_letters_20 (by decide) ?_
    exact S_lret C rfl dX10_letters_26
set_option maxRecDepth 10000 in
theorem con_X10_letters (z : ZT) (l : Launch) (x1 : Int32) (σ : St) : ∀ ro, X10_letters x1 σ = some ro → Con (wxC z) l yX10_letters cX10_letters 2 (some .long) 1 21 [.ref (aC z 0), .int x1] σ ((jL σ) ro) :=
  fun ro hk => Con_of hk (by decide) (Nat.le_of_ble_eq_true rfl) (fun x hx C => WT_X10_letters C x1 σ)
set_option maxRecDepth 10000 in
theorem K_X10_letters {x : MX} {z : ZT} {own : String} {cc : ByteArray} {nL : Nat} {ret : Option FieldType} {fr lo : Nat} {ρ : Type} {inj : ρ → Option Value × St} {pc : Nat} {lv : List (Nat × Value)} {st : List Value} {σ : St} (C : Cok x (wxC z) own cc nL ret fr lo) {x1 : Int32} {index : Nat} (hl : Cond.methodLink own index yX10_letters ∈ gtb) (hR : 1 + 1 ≤ fr ∧ 8 + (2 + 11) + 21 ≤ lo) (hW : (st.map fun v => v.category).sum ≤ 8) (hd : decode cc pc = .ok (.invokevirtual index, 3)) {K : Int64 → Option ρ} (h : ∀ v, Sim x (wxC z) nL inj (K v) (pc + 3) lv (.long v :: st) σ) : Sim x (wxC z) nL inj ((X10_letters x1 σ).bind K) pc lv (.int x1 :: .ref (aC z 0) :: st) σ :=
  S_callV C (As := [.int x1]) (q := 0) (inj1 := (jL σ)) mw_X10_letters mv_X10_letters hl (fun ro hro => con_X10_letters z (mL x) x1 σ ro hro) hR rfl (show 0 < 59 by decide) rfl (ce_X10 z σ) rfl rfl hW hd h
set_option maxRecDepth 10000 in
theorem WT_X10_feed {x : MX} {z : ZT} (C : Cok x (wxC z) RX10 cX10_feed 3 (some .int) 1 23) (x1 : Int64) (σ : St) : Sim x (wxC z) 3 jIS (X10_feed x1 σ) 0 [(0, .ref (aC z 0)), (1, .long x1)] [] σ := by
  rw [X10_feed]
  refine S_aload_n C 0 dX10_feed_0 rfl ?_
  refine G_X10_tape C fl_X10_10 dX10_feed_1 ?_
  refine S_lload_n C 1 dX10_feed_4 rfl ?_
  refine K_X7_append C ml_X10_104 (by decide) (Nat.le_of_ble_eq_true rfl) dX10_feed_5 (fun r1 => ?_)
  refine S_if_eq C 21 dX10_feed_8 (by decide) ?_ ?_
  · refine S_bipush C (-3) dX10_feed_21 (by decide) ?_
    exact S_iret C rfl dX10_feed_23
  · refine S_aload_n C 0 dX10_feed_11 rfl ?_
    refine G_X10_tape C fl_X10_10 dX10_feed_12 ?_
    refine G_X7_length C fl_X10_106 dX10_feed_15 ?_
    refine S_goto C 23 dX10_feed_18 (by decide) ?_
    exact S_iret C rfl dX10_feed_23
set_option maxRecDepth 10000 in
theorem con_X10_feed (z : ZT) (l : Launch) (x1 : Int64) (σ : St) : ∀ ro, X10_feed x1 σ = some ro → Con (wxC z) l yX10_feed cX10_feed 3 (some .int) 1 23 [.ref (aC z 0), .long x1] σ (jIS ro) :=
  fun ro hk => Con_of hk (by decide) (Nat.le_of_ble_eq_true rfl) (fun x hx C => WT_X10_feed C x1 σ)
set_option maxRecDepth 10000 in
theorem K_X10_feed {x : MX} {z : ZT} {own : String} {cc : ByteArray} {nL : Nat} {ret : Option FieldType} {fr lo : Nat} {ρ : Type} {inj : ρ → Option Value × St} {pc : Nat} {lv : List (Nat × Value)} {st : List Value} {σ : St} (C : Cok x (wxC z) own cc nL ret fr lo) {x1 : Int64} {index : Nat} (hl : Cond.methodLink own index yX10_feed ∈ gtb) (hR : 1 + 1 ≤ fr ∧ 8 + (3 + 11) + 23 ≤ lo) (hW : (st.map fun v => v.category).sum ≤ 8) (hd : decode cc pc = .ok (.invokevirtual index, 3)) {K : (Int32 × St) → Option ρ} (h : ∀ v, Sim x (wxC z) nL inj (K v) (pc + 3) lv (.int v.1 :: st) v.2) : Sim x (wxC z) nL inj ((X10_feed x1 σ).bind K) pc lv (.long x1 :: .ref (aC z 0) :: st) σ :=
  S_callV C (As := [.long x1]) (q := 0) (inj1 := jIS) mw_X10_feed mv_X10_feed hl (fun ro hro => con_X10_feed z (mL x) x1 σ ro hro) hR rfl (show 0 < 59 by decide) rfl (ce_X10 z σ) rfl rfl hW hd h
set_option maxRecDepth 10000 in
theorem WT_X10_end {x : MX} {z : ZT} (C : Cok x (wxC z) RX10 cX10_end 3 (some .int) 0 0) (x1 : Int32) (σ : St) : Sim x (wxC z) 3 jIS (X10_end x1 σ) 0 [(0, .ref (aC z 0)), (1, .int x1)] [] σ := by
  rw [X10_end]
  refine S_iload_n C 1 dX10_end_0 rfl ?_
  refine S_if_lt C 15 dX10_end_1 (by decide) ?_ ?_
  · refine S_iconst C (-1) dX10_end_15 (by decide) ?_
    exact S_iret C rfl dX10_end_16
  · refine S_iload_n C 1 dX10_end_4 rfl ?_
    refine S_aload_n C 0 dX10_end_5 rfl ?_
    refine G_X10_tape C fl_X10_10 dX10_end_6 ?_
    refine G_X7_length C fl_X10_106 dX10_end_9 ?_
    refine S_icmp_le C 17 dX10_end_12 (by decide) ?_ ?_
    · refine S_aload_n C 0 dX10_end_17 rfl ?_
      refine G_X10_tape C fl_X10_10 dX10_end_18 ?_
      refine G_X7_length C fl_X10_106 dX10_end_21 ?_
      refine S_bndT (fun x2_1 _ => ?_)
      refine S_istore_n C [(2, .int x2_1), (0, .ref (aC z 0)), (1, .int x1)] (i := 2) dX10_end_24 rfl (by decide) rfl ?_
      refine S_aload_n C 1 dX10_end_25 rfl ?_
      refine G_X10_tape C fl_X10_10 dX10_end_26 ?_
      refine S_iload_n C 2 dX10_end_29 rfl ?_
      refine P_X7_length C fl_X10_106 dX10_end_30 ?_
      refine S_bndS (fun σ2 _ => ?_)
      refine S_iload_n C 0 dX10_end_33 rfl ?_
      exact S_iret C rfl dX10_end_34
    · refine S_iconst C (-1) dX10_end_15 (by decide) ?_
      exact S_iret C rfl dX10_end_16
set_option maxRecDepth 10000 in
theorem con_X10_end (z : ZT) (l : Launch) (x1 : Int32) (σ : St) : ∀ ro, X10_end x1 σ = some ro → Con (wxC z) l yX10_end cX10_end 3 (some .int) 0 0 [.ref (aC z 0), .int x1] σ (jIS ro) :=
  fun ro hk => Con_of hk (by decide) (Nat.le_of_ble_eq_true rfl) (fun x hx C => WT_X10_end C x1 σ)
set_option maxRecDepth 10000 in
theorem K_X10_end {x : MX} {z : ZT} {own : String} {cc : ByteArray} {nL : Nat} {ret : Option FieldType} {fr lo : Nat} {ρ : Type} {inj : ρ → Option Value × St} {pc : Nat} {lv : List (Nat × Value)} {st : List Value} {σ : St} (C : Cok x (wxC z) own cc nL ret fr lo) {x1 : Int32} {index : Nat} (hl : Cond.methodLink own index yX10_end ∈ gtb) (hR : 0 + 1 ≤ fr ∧ 8 + (3 + 11) + 0 ≤ lo) (hW : (st.map fun v => v.category).sum ≤ 8) (hd : decode cc pc = .ok (.invokevirtual index, 3)) {K : (Int32 × St) → Option ρ} (h : ∀ v, Sim x (wxC z) nL inj (K v) (pc + 3) lv (.int v.1 :: st) v.2) : Sim x (wxC z) nL inj ((X10_end x1 σ).bind K) pc lv (.int x1 :: .ref (aC z 0) :: st) σ :=
  S_callV C (As := [.int x1]) (q := 0) (inj1 := jIS) mw_X10_end mv_X10_end hl (fun ro hro => con_X10_end z (mL x) x1 σ ro hro) hR rfl (show 0 < 59 by decide) rfl (ce_X10 z σ) rfl rfl hW hd h
set_option maxRecDepth 10000 in
theorem WT_X10_rules {x : MX} {z : ZT} (C : Cok x (wxC z) RX10 cX10_rules 3 (some .int) 7 153)  (σ : St) : Sim x (wxC z) 3 jIS (X10_rules σ) 0 [(0, .ref (aC z 0))] [] σ := by
  rw [X10_rules]
  refine S_aload_n C 0 dX10_rules_0 rfl ?_
  refine G_X10_textReader C fl_X10_21 dX10_rules_1 ?_
  refine S_aload_n C 0 dX10_rules_4 rfl ?_
  refine G_X10_spare C fl_X10_32 dX10_rules_5 (fun h1 => ?_)
  refine K_X8_readInto C h1 ml_X10_110 (by decide) (Nat.le_of_ble_eq_true rfl) dX10_rules_8 (fun r2 => ?_)
  refine S_istore_n C [(1, .int r2.1), (0, .ref (aC z 0))] (i := 1) dX10_rules_11 rfl (by decide) rfl ?_
  refine S_aload_n C 1 dX10_rules_12 rfl ?_
  refine G_X10_tape C fl_X10_10 dX10_rules_13 ?_
  refine S_iconst C (0) dX10_rules_16 (by decide) ?_
  refine P_X7_length C fl_X10_106 dX10_rules_17 ?_
  refine S_bndS (fun σ3 _ => ?_)
  refine S_aload_n C 1 dX10_rules_20 rfl ?_
  refine S_aload_n C 1 dX10_rules_21 rfl ?_
  refine G_X10_textReader C fl_X10_21 dX10_rules_22 ?_
  refine G_X8_faultKind C fl_X10_114 dX10_rules_25 ?_
  refine P_X10_textFault C fl_X10_117 dX10_rules_28 ?_
  refine S_bndS (fun σ4 _ => ?_)
  refine S_aload_n C 1 dX10_rules_31 rfl ?_
  refine G_X10_textFault C fl_X10_117 dX10_rules_32 ?_
  refine S_if_eq C 49 dX10_rules_35 (by decide) ?_ ?_
  · refine S_aload_n C 1 dX10_rules_49 rfl ?_
    refine G_X10_told C fl_X10_28 dX10_rules_50 (fun h5 => ?_)
    refine S_astore_n C [(2, .ref (aC z (4 + gR σ4 0 8))), (1, .int r2.1), (0, .ref (aC z 0))] (i := 2) dX10_rules_53 rfl (by decide) rfl ?_
    refine S_aload_n C 2 dX10_rules_54 rfl ?_
    refine S_aload_n C 2 dX10_rules_55 rfl ?_
    refine G_X10_spare C fl_X10_32 dX10_rules_56 (fun h6 => ?_)
    refine P_X10_told C h6 fl_X10_28 dX10_rules_59 ?_
    refine S_bndS (fun σ7 _ => ?_)
    refine S_aload_n C 2 dX10_rules_62 rfl ?_
    refine S_aload_n C 0 dX10_rules_63 rfl ?_
    refine P_X10_spare C h5 fl_X10_32 dX10_rules_64 ?_
    refine S_bndS (fun σ8 _ => ?_)
    refine S_aload_n C 2 dX10_rules_67 rfl ?_
    refine G_X10_words C fl_X10_40 dX10_rules_68 ?_
    refine S_aload_n C 2 dX10_rules_71 rfl ?_
    refine G_X10_told C fl_X10_28 dX10_rules_72 (fun h9 => ?_)
    refine K_X9_follow C h9 ml_X10_123 (by decide) (Nat.le_of_ble_eq_true rfl) dX10_rules_75 (fun σ10 => ?_)
    refine S_iload_n C 1 dX10_rules_78 rfl ?_
    exact S_iret C rfl dX10_rules_79
  · refine S_bipush C (-10) dX10_rules_38 (by decide) ?_
    refine S_aload_n C 1 dX10_rules_40 rfl ?_
    refine G_X10_textReader C fl_X10_21 dX10_rules_41 ?_
    refine G_X8_faultPlace C fl_X10_120 dX10_rules_44 ?_
    refine S_isub C dX10_rules_47 ?_
    exact S_iret C rfl dX10_rules_48
set_option maxRecDepth 10000 in
theorem con_X10_rules (z : ZT) (l : Launch)  (σ : St) : ∀ ro, X10_rules σ = some ro → Con (wxC z) l yX10_rules cX10_rules 3 (some .int) 7 153 [.ref (aC z 0)] σ (jIS ro) :=
  fun ro hk => Con_of hk (by decide) (Nat.le_of_ble_eq_true rfl) (fun x hx C => WT_X10_rules C σ)
set_option maxRecDepth 10000 in
theorem K_X10_rules {x : MX} {z : ZT} {own : String} {cc : ByteArray} {nL : Nat} {ret : Option FieldType} {fr lo : Nat} {ρ : Type} {inj : ρ → Option Value × St} {pc : Nat} {lv : List (Nat × Value)} {st : List Value} {σ : St} (C : Cok x (wxC z) own cc nL ret fr lo)  {index : Nat} (hl : Cond.methodLink own index yX10_rules ∈ gtb) (hR : 7 + 1 ≤ fr ∧ 8 + (3 + 11) + 153 ≤ lo) (hW : (st.map fun v => v.category).sum ≤ 8) (hd : decode cc pc = .ok (.invokevirtual index, 3)) {K : (Int32 × St) → Option ρ} (h : ∀ v, Sim x (wxC z) nL inj (K v) (pc + 3) lv (.int v.1 :: st) v.2) : Sim x (wxC z) nL inj ((X10_rules σ).bind K) pc lv (.ref (aC z 0) :: st) σ :=
  S_callV C (As := []) (q := 0) (inj1 := jIS) mw_X10_rules mv_X10_rules hl (fun ro hro => con_X10_rules z (mL x) σ ro hro) hR rfl (show 0 < 59 by decide) rfl (ce_X10 z σ) rfl rfl hW hd h
set_option maxRecDepth 10000 in
theorem WT_X10_fault {x : MX} {z : ZT} (C : Cok x (wxC z) RX10 cX10_fault 1 (some .int) 0 0)  (σ : St) : Sim x (wxC z) 1 (jI σ) (X10_fault σ) 0 [(0, .ref (aC z 0))] [] σ := by
  rw [X10_fault]
  refine S_aload_n C 0 dX10_fault_0 rfl ?_
  refine G_X10_textFault C fl_X10_117 dX10_fault_1 ?_
  exact S_iret C rfl dX10_fault_4
set_option maxRecDepth 10000 in
theorem con_X10_fault (z : ZT) (l : Launch)  (σ : St) : ∀ ro, X10_fault σ = some ro → Con (wxC z) l yX10_fault cX10_fault 1 (some .int) 0 0 [.ref (aC z 0)] σ ((jI σ) ro) :=
  fun ro hk => Con_of hk (by decide) (Nat.le_of_ble_eq_true rfl) (fun x hx C => WT_X10_fault C σ)
set_option maxRecDepth 10000 in
theorem K_X10_fault {x : MX} {z : ZT} {own : String} {cc : ByteArray} {nL : Nat} {ret : Option FieldType} {fr lo : Nat} {ρ : Type} {inj : ρ → Option Value × St} {pc : Nat} {lv : List (Nat × Value)} {st : List Value} {σ : St} (C : Cok x (wxC z) own cc nL ret fr lo)  {index : Nat} (hl : Cond.methodLink own index yX10_fault ∈ gtb) (hR : 0 + 1 ≤ fr ∧ 8 + (1 + 11) + 0 ≤ lo) (hW : (st.map fun v => v.category).sum ≤ 8) (hd : decode cc pc = .ok (.invokevirtual index, 3)) {K : Int32 → Option ρ} (h : ∀ v, Sim x (wxC z) nL inj (K v) (pc + 3) lv (.int v :: st) σ) : Sim x (wxC z) nL inj ((X10_fault σ).bind K) pc lv (.ref (aC z 0) :: st) σ :=
  S_callV C (As := []) (q := 0) (inj1 := (jI σ)) mw_X10_fault mv_X10_fault hl (fun ro hro => con_X10_fault z (mL x) σ ro hro) hR rfl (show 0 < 59 by decide) rfl (ce_X10 z σ) rfl rfl hW hd h
set_option maxRecDepth 10000 in
theorem WT_X10_rule {x : MX} {z : ZT} (C : Cok x (wxC z) RX10 cX10_rule 2 (some .int) 0 0) (x1 : Int32) (σ : St) : Sim x (wxC z) 2 (jI σ) (X10_rule x1 σ) 0 [(0, .ref (aC z 0)), (1, .int x1)] [] σ := by
  rw [X10_rule]
  refine S_iload_n C 1 dX10_rule_0 rfl ?_
  refine S_if_lt C 10 dX10_rule_1 (by decide) ?_ ?_
  · refine S_iconst C (-1) dX10_rule_10 (by decide) ?_
    exact S_iret C rfl dX10_rule_11
  · refine S_iload_n C 1 dX10_rule_4 rfl ?_
    refine S_bipush C (9) dX10_rule_5 (by decide) ?_
    refine S_icmp_le C 12 dX10_rule_7 (by decide) ?_ ?_
    · refine S_iload_n C 1 dX10_rule_12 rfl ?_
      refine S_bipush C (8) dX10_rule_13 (by decide) ?_
      refine S_icmp_ge C 28 dX10_rule_15 (by decide) ?_ ?_
      · refine S_iload_n C 1 dX10_rule_28 rfl ?_
        refine S_bipush C (8) dX10_rule_29 (by decide) ?_
        refine S_icmp_ne C 44 dX10_rule_31 (by decide) ?_ ?_
        · refine S_aload_n C 0 dX10_rule_44 rfl ?_
          refine G_X10_told C fl_X10_28 dX10_rule_45 (fun h1 => ?_)
          refine G_X5_likes C h1 fl_X10_133 dX10_rule_48 ?_
          exact S_iret C rfl dX10_rule_51
        · refine S_aload_n C 0 dX10_rule_34 rfl ?_
          refine G_X10_told C fl_X10_28 dX10_rule_35 (fun h2 => ?_)
          refine G_X5_changes C h2 fl_X10_130 dX10_rule_38 ?_
          refine S_goto C 51 dX10_rule_41 (by decide) ?_
          exact S_iret C rfl dX10_rule_51
      · refine S_aload_n C 0 dX10_rule_18 rfl ?_
        refine G_X10_told C fl_X10_28 dX10_rule_19 (fun h3 => ?_)
        refine G_X5_numbers C h3 fl_X10_126 dX10_rule_22 ?_
        refine S_iload_n C 1 dX10_rule_25 rfl ?_
        refine L_X5_numbers C h3 dX10_rule_26 (fun _ => ?_)
        exact S_iret C rfl dX10_rule_27
    · refine S_iconst C (-1) dX10_rule_10 (by decide) ?_
      exact S_iret C rfl dX10_rule_11
set_option maxRecDepth 10000 in
theorem con_X10_rule (z : ZT) (l : Launch) (x1 : Int32) (σ : St) : ∀ ro, X10_rule x1 σ = some ro → Con (wxC z) l yX10_rule cX10_rule 2 (some .int) 0 0 [.ref (aC z 0), .int x1] σ ((jI σ) ro) :=
  fun ro hk => Con_of hk (by decide) (Nat.le_of_ble_eq_true rfl) (fun x hx C => WT_X10_rule C x1 σ)
set_option maxRecDepth 10000 in
theorem K_X10_rule {x : MX} {z : ZT} {own : String} {cc : ByteArray} {nL : Nat} {ret : Option FieldType} {fr lo : Nat} {ρ : Type} {inj : ρ → Option Value × St} {pc : Nat} {lv : List (Nat × Value)} {st : List Value} {σ : St} (C : Cok x (wxC z) own cc nL ret fr lo) {x1 : Int32} {index : Nat} (hl : Cond.methodLink own index yX10_rule ∈ gtb) (hR : 0 + 1 ≤ fr ∧ 8 + (2 + 11) + 0 ≤ lo) (hW : (st.map fun v => v.category).sum ≤ 8) (hd : decode cc pc = .ok (.invokevirtual index, 3)) {K : Int32 → Option ρ} (h : ∀ v, Sim x (wxC z) nL inj (K v) (pc + 3) lv (.int v :: st) σ) : Sim x (wxC z) nL inj ((X10_rule x1 σ).bind K) pc lv (.int x1 :: .ref (aC z 0) :: st) σ :=
  S_callV C (As := [.int x1]) (q := 0) (inj1 := (jI σ)) mw_X10_rule mv_X10_rule hl (fun ro hro => con_X10_rule z (mL x) x1 σ ro hro) hR rfl (show 0 < 59 by decide) rfl (ce_X10 z σ) rfl rfl hW hd h
set_option maxRecDepth 10000 in
theorem WT_X10_sound {x : MX} {z : ZT} (C : Cok x (wxC z) RX10 cX10_sound 2 (some .long) 1 24) (x1 : Int32) (σ : St) : Sim x (wxC z) 2 (jL σ) (X10_sound x1 σ) 0 [(0, .ref (aC z 0)), (1, .int x1)] [] σ := by
  rw [X10_sound]
  refine S_aload_n C 0 dX10_sound_0 rfl ?_
  refine G_X10_words C fl_X10_40 dX10_sound_1 ?_
  refine S_iload_n C 1 dX10_sound_4 rfl ?_
  refine K_X9_has C ml_X10_94 (by decide) (Nat.le_of_ble_eq_true rfl) dX10_sound_5 (fun v1 => ?_)
  refine S_if_eq C 22 dX10_sound_8 (by decide) ?_ ?_
  · refine S_ldc2 C (-1) kl_X10_102 dX10_sound_22 ?_
    exact S_lret C rfl dX10_sound_25
  · refine S_aload_n C 0 dX10_sound_11 rfl ?_
    refine G_X10_words C fl_X10_40 dX10_sound_12 ?_
    refine S_iload_n C 1 dX10_sound_15 rfl ?_
    refine K_X9_soundOf C ml_X10_136 (by decide) (Nat.le_of_ble_eq_true rfl) dX10_sound_16 (fun v2 => ?_)
    refine S_goto C 25 dX10_sound_19 (by decide) ?_
    exact S_lret C rfl dX10_sound_25
set_option maxRecDepth 10000 in
theorem con_X10_sound (z : ZT) (l : Launch) (x1 : Int32) (σ : St) : ∀ ro, X10_sound x1 σ = some ro → Con (wxC z) l yX10_sound cX10_sound 2 (some .long) 1 24 [.ref (aC z 0), .int x1] σ ((jL σ) ro) :=
  fun ro hk => Con_of hk (by decide) (Nat.le_of_ble_eq_true rfl) (fun x hx C => WT_X10_sound C x1 σ)
set_option maxRecDepth 10000 in
theorem K_X10_sound {x : MX} {z : ZT} {own : String} {cc : ByteArray} {nL : Nat} {ret : Option FieldType} {fr lo : Nat} {ρ : Type} {inj : ρ → Option Value × St} {pc : Nat} {lv : List (Nat × Value)} {st : List Value} {σ : St} (C : Cok x (wxC z) own cc nL ret fr lo) {x1 : Int32} {index : Nat} (hl : Cond.methodLink own index yX10_sound ∈ gtb) (hR : 1 + 1 ≤ fr ∧ 8 + (2 + 11) + 24 ≤ lo) (hW : (st.map fun v => v.category).sum ≤ 8) (hd : decode cc pc = .ok (.invokevirtual index, 3)) {K : Int64 → Option ρ} (h : ∀ v, Sim x (wxC z) nL inj (K v) (pc + 3) lv (.long v :: st) σ) : Sim x (wxC z) nL inj ((X10_sound x1 σ).bind K) pc lv (.int x1 :: .ref (aC z 0) :: st) σ :=
  S_callV C (As := [.int x1]) (q := 0) (inj1 := (jL σ)) mw_X10_sound mv_X10_sound hl (fun ro hro => con_X10_sound z (mL x) x1 σ ro hro) hR rfl (show 0 < 59 by decide) rfl (ce_X10 z σ) rfl rfl hW hd h
set_option maxRecDepth 10000 in
theorem WT_X10_sounds {x : MX} {z : ZT} (C : Cok x (wxC z) RX10 cX10_sounds 2 (some .int) 1 21) (x1 : Int32) (σ : St) : Sim x (wxC z) 2 (jI σ) (X10_sounds x1 σ) 0 [(0, .ref (aC z 0)), (1, .int x1)] [] σ := by
  rw [X10_sounds]
  refine S_aload_n C 0 dX10_sounds_0 rfl ?_
  refine G_X10_words C fl_X10_40 dX10_sounds_1 ?_
  refine S_iload_n C 1 dX10_sounds_4 rfl ?_
  refine K_X9_has C ml_X10_94 (by decide) (Nat.le_of_ble_eq_true rfl) dX10_sounds_5 (fun v1 => ?_)
  refine S_if_eq C 23 dX10_sounds_8 (by decide) ?_ ?_
  · refine S_iconst C (-1) dX10_sounds_23 (by decide) ?_
    exact S_iret C rfl dX10_sounds_24
  · refine S_aload_n C 0 dX10_sounds_11 rfl ?_
    refine G_X10_words C fl_X10_40 dX10_sounds_12 ?_
    refine G_X9_soundCounts C fl_X10_140 dX10_sounds_15 ?_
    refine S_iload_n C 1 dX10_sounds_18 rfl ?_
    refine L_X9_soundCounts C dX10_sounds_19 (fun _ => ?_)
    refine S_goto C 24 dX10_sounds_20 (by decide) ?_
    exact S_iret C rfl dX10_sounds_24
set_option maxRecDepth 10000 in
theorem con_X10_sounds (z : ZT) (l : Launch) (x1 : Int32) (σ : St) : ∀ ro, X10_sounds x1 σ = some ro → Con (wxC z) l yX10_sounds cX10_sounds 2 (some .int) 1 21 [.ref (aC z 0), .int x1] σ ((jI σ) ro) :=
  fun ro hk => Con_of hk (by decide) (Nat.le_of_ble_eq_true rfl) (fun x hx C => WT_X10_sounds C x1 σ)
set_option maxRecDepth 10000 in
theorem K_X10_sounds {x : MX} {z : ZT} {own : String} {cc : ByteArray} {nL : Nat} {ret : Option FieldType} {fr lo : Nat} {ρ : Type} {inj : ρ → Option Value × St} {pc : Nat} {lv : List (Nat × Value)} {st : List Value} {σ : St} (C : Cok x (wxC z) own cc nL ret fr lo) {x1 : Int32} {index : Nat} (hl : Cond.methodLink own index yX10_sounds ∈ gtb) (hR : 1 + 1 ≤ fr ∧ 8 + (2 + 11) + 21 ≤ lo) (hW : (st.map fun v => v.category).sum ≤ 8) (hd : decode cc pc = .ok (.invokevirtual index, 3)) {K : Int32 → Option ρ} (h : ∀ v, Sim x (wxC z) nL inj (K v) (pc + 3) lv (.int v :: st) σ) : Sim x (wxC z) nL inj ((X10_sounds x1 σ).bind K) pc lv (.int x1 :: .ref (aC z 0) :: st) σ :=
  S_callV C (As := [.int x1]) (q := 0) (inj1 := (jI σ)) mw_X10_sounds mv_X10_sounds hl (fun ro hro => con_X10_sounds z (mL x) x1 σ ro hro) hR rfl (show 0 < 59 by decide) rfl (ce_X10 z σ) rfl rfl hW hd h
set_option maxRecDepth 10000 in
theorem WT_X10_apart {x : MX} {z : ZT} (C : Cok x (wxC z) RX10 cX10_apart 3 (some .int) 1 22) (x1 : Int32) (x2 : Int32) (σ : St) : Sim x (wxC z) 3 (jI σ) (X10_apart x1 x2 σ) 0 [(0, .ref (aC z 0)), (1, .int x1), (2, .int x2)] [] σ := by
  rw [X10_apart]
  refine S_aload_n C 0 dX10_apart_0 rfl ?_
  refine G_X10_words C fl_X10_40 dX10_apart_1 ?_
  refine S_iload_n C 1 dX10_apart_4 rfl ?_
  refine K_X9_has C ml_X10_94 (by decide) (Nat.le_of_ble_eq_true rfl) dX10_apart_5 (fun v1 => ?_)
  refine S_if_eq C 34 dX10_apart_8 (by decide) ?_ ?_
  · refine S_iconst C (-1) dX10_apart_34 (by decide) ?_
    exact S_iret C rfl dX10_apart_35
  · refine S_aload_n C 0 dX10_apart_11 rfl ?_
    refine G_X10_words C fl_X10_40 dX10_apart_12 ?_
    refine S_iload_n C 2 dX10_apart_15 rfl ?_
    refine K_X9_has C ml_X10_94 (by decide) (Nat.le_of_ble_eq_true rfl) dX10_apart_16 (fun v2 => ?_)
    refine S_if_eq C 34 dX10_apart_19 (by decide) ?_ ?_
    · refine S_iconst C (-1) dX10_apart_34 (by decide) ?_
      exact S_iret C rfl dX10_apart_35
    · refine S_aload_n C 0 dX10_apart_22 rfl ?_
      refine G_X10_words C fl_X10_40 dX10_apart_23 ?_
      refine S_iload_n C 1 dX10_apart_26 rfl ?_
      refine S_iload_n C 2 dX10_apart_27 rfl ?_
      refine K_X9_apartOf C ml_X10_143 (by decide) (Nat.le_of_ble_eq_true rfl) dX10_apart_28 (fun v3 => ?_)
      refine S_goto C 35 dX10_apart_31 (by decide) ?_
      exact S_iret C rfl dX10_apart_35
set_option maxRecDepth 10000 in
theorem con_X10_apart (z : ZT) (l : Launch) (x1 : Int32) (x2 : Int32) (σ : St) : ∀ ro, X10_apart x1 x2 σ = some ro → Con (wxC z) l yX10_apart cX10_apart 3 (some .int) 1 22 [.ref (aC z 0), .int x1, .int x2] σ ((jI σ) ro) :=
  fun ro hk => Con_of hk (by decide) (Nat.le_of_ble_eq_true rfl) (fun x hx C => WT_X10_apart C x1 x2 σ)
set_option maxRecDepth 10000 in
theorem K_X10_apart {x : MX} {z : ZT} {own : String} {cc : ByteArray} {nL : Nat} {ret : Option FieldType} {fr lo : Nat} {ρ : Type} {inj : ρ → Option Value × St} {pc : Nat} {lv : List (Nat × Value)} {st : List Value} {σ : St} (C : Cok x (wxC z) own cc nL ret fr lo) {x1 : Int32} {x2 : Int32} {index : Nat} (hl : Cond.methodLink own index yX10_apart ∈ gtb) (hR : 1 + 1 ≤ fr ∧ 8 + (3 + 11) + 22 ≤ lo) (hW : (st.map fun v => v.category).sum ≤ 8) (hd : decode cc pc = .ok (.invokevirtual index, 3)) {K : Int32 → Option ρ} (h : ∀ v, Sim x (wxC z) nL inj (K v) (pc + 3) lv (.int v :: st) σ) : Sim x (wxC z) nL inj ((X10_apart x1 x2 σ).bind K) pc lv (.int x2 :: .int x1 :: .ref (aC z 0) :: st) σ :=
  S_callV C (As := [.int x1, .int x2]) (q := 0) (inj1 := (jI σ)) mw_X10_apart mv_X10_apart hl (fun ro hro => con_X10_apart z (mL x) x1 x2 σ ro hro) hR rfl (show 0 < 59 by decide) rfl (ce_X10 z σ) rfl rfl hW hd h
set_option maxRecDepth 10000 in
theorem WT_X10_name {x : MX} {z : ZT} (C : Cok x (wxC z) RX10 cX10_name 2 (some .int) 1 21) (x1 : Int32) (σ : St) : Sim x (wxC z) 2 (jI σ) (X10_name x1 σ) 0 [(0, .ref (aC z 0)), (1, .int x1)] [] σ := by
  rw [X10_name]
  refine S_aload_n C 0 dX10_name_0 rfl ?_
  refine G_X10_words C fl_X10_40 dX10_name_1 ?_
  refine S_iload_n C 1 dX10_name_4 rfl ?_
  refine K_X9_has C ml_X10_94 (by decide) (Nat.le_of_ble_eq_true rfl) dX10_name_5 (fun v1 => ?_)
  refine S_if_eq C 23 dX10_name_8 (by decide) ?_ ?_
  · refine S_iconst C (-1) dX10_name_23 (by decide) ?_
    exact S_iret C rfl dX10_name_24
  · refine S_aload_n C 0 dX10_name_11 rfl ?_
    refine G_X10_words C fl_X10_40 dX10_name_12 ?_
    refine G_X9_names C fl_X10_147 dX10_name_15 ?_
    refine S_iload_n C 1 dX10_name_18 rfl ?_
    refine L_X9_names C dX10_name_19 (fun _ => ?_)
    refine S_goto C 24 dX10_name_20 (by decide) ?_
    exact S_iret C rfl dX10_name_24
set_option maxRecDepth 10000 in
theorem con_X10_name (z : ZT) (l : Launch) (x1 : Int32) (σ : St) : ∀ ro, X10_name x1 σ = some ro → Con (wxC z) l yX10_name cX10_name 2 (some .int) 1 21 [.ref (aC z 0), .int x1] σ ((jI σ) ro) :=
  fun ro hk => Con_of hk (by decide) (Nat.le_of_ble_eq_true rfl) (fun x hx C => WT_X10_name C x1 σ)
set_option maxRecDepth 10000 in
theorem K_X10_name {x : MX} {z : ZT} {own : String} {cc : ByteArray} {nL : Nat} {ret : Option FieldType} {fr lo : Nat} {ρ : Type} {inj : ρ → Option Value × St} {pc : Nat} {lv : List (Nat × Value)} {st : List Value} {σ : St} (C : Cok x (wxC z) own cc nL ret fr lo) {x1 : Int32} {index : Nat} (hl : Cond.methodLink own index yX10_name ∈ gtb) (hR : 1 + 1 ≤ fr ∧ 8 + (2 + 11) + 21 ≤ lo) (hW : (st.map fun v => v.category).sum ≤ 8) (hd : decode cc pc = .ok (.invokevirtual index, 3)) {K : Int32 → Option ρ} (h : ∀ v, Sim x (wxC z) nL inj (K v) (pc + 3) lv (.int v :: st) σ) : Sim x (wxC z) nL inj ((X10_name x1 σ).bind K) pc lv (.int x1 :: .ref (aC z 0) :: st) σ :=
  S_callV C (As := [.int x1]) (q := 0) (inj1 := (jI σ)) mw_X10_name mv_X10_name hl (fun ro hro => con_X10_name z (mL x) x1 σ ro hro) hR rfl (show 0 < 59 by decide) rfl (ce_X10 z σ) rfl rfl hW hd h
set_option maxRecDepth 10000 in
theorem WT_X10_chain_B57 {x : MX} {z : ZT} (C : Cok x (wxC z) RX10 cX10_chain 5 (some .int) 3 70) (x1 : Int32) (x2 : Int32) (x3 : Int32) (x4 : Int32) (σ : St) : Sim x (wxC z) 5 jIS (X10_chain_B57 x1 x2 x3 x4 σ) 57 [(0, .ref (aC z 0)), (1, .int x1), (2, .int x2), (3, .int x3), (4, .int x4)] [] σ := by
  rw [X10_chain_B57]
  refine S_aload_n C 0 dX10_chain_57 rfl ?_
  refine G_X10_words C fl_X10_40 dX10_chain_58 ?_
  refine G_X9_names C fl_X10_147 dX10_chain_61 ?_
  refine S_iload_n C 1 dX10_chain_64 rfl ?_
  refine L_X9_names C dX10_chain_65 (fun _ => ?_)
  refine S_aload_n C 0 dX10_chain_66 rfl ?_
  refine G_X10_words C fl_X10_40 dX10_chain_67 ?_
  refine G_X9_names C fl_X10_147 dX10_chain_70 ?_
  refine S_iload_n C 2 dX10_chain_73 rfl ?_
  refine L_X9_names C dX10_chain_74 (fun _ => ?_)
  refine S_icmp_eq C 81 dX10_chain_75 (by decide) ?_ ?_
  · refine S_aload_n C 0 dX10_chain_81 rfl ?_
    refine G_X10_words C fl_X10_40 dX10_chain_82 ?_
    refine S_iload_n C 2 dX10_chain_85 rfl ?_
    refine K_X9_walkTo C ml_X10_150 (by decide) (Nat.le_of_ble_eq_true rfl) dX10_chain_86 (fun σ3 => ?_)
    refine S_iload C 4 dX10_chain_89 rfl ?_
    refine S_if_eq C 107 dX10_chain_91 (by decide) ?_ ?_
    · refine S_iload_n C 3 dX10_chain_107 rfl ?_
      refine S_if_ne C 122 dX10_chain_108 (by decide) ?_ ?_
      · refine S_aload_n C 0 dX10_chain_122 rfl ?_
        refine G_X10_words C fl_X10_40 dX10_chain_123 ?_
        refine S_iload_n C 1 dX10_chain_126 rfl ?_
        refine K_X9_chainSum C ml_X10_161 (by decide) (Nat.le_of_ble_eq_true rfl) dX10_chain_127 (fun v4 => ?_)
        exact S_iret C rfl dX10_chain_130
      · refine S_aload_n C 0 dX10_chain_111 rfl ?_
        refine G_X10_words C fl_X10_40 dX10_chain_112 ?_
        refine S_iload_n C 1 dX10_chain_115 rfl ?_
        refine K_X9_chainLength C ml_X10_157 (by decide) (Nat.le_of_ble_eq_true rfl) dX10_chain_116 (fun v5 => ?_)
        refine S_goto C 130 dX10_chain_119 (by decide) ?_
        exact S_iret C rfl dX10_chain_130
    · refine S_aload_n C 0 dX10_chain_94 rfl ?_
      refine G_X10_words C fl_X10_40 dX10_chain_95 ?_
      refine S_iload_n C 1 dX10_chain_98 rfl ?_
      refine S_iload_n C 3 dX10_chain_99 rfl ?_
      refine S_bipush C (10) dX10_chain_100 (by decide) ?_
      refine S_isub C dX10_chain_102 ?_
      refine K_X9_chainMember C ml_X10_154 (by decide) (Nat.le_of_ble_eq_true rfl) dX10_chain_103 (fun v6 => ?_)
      exact S_iret C rfl dX10_chain_106
  · refine S_bipush C (-4) dX10_chain_78 (by decide) ?_
    exact S_iret C rfl dX10_chain_80
set_option maxRecDepth 10000 in
theorem WT_X10_chain_B17 {x : MX} {z : ZT} (C : Cok x (wxC z) RX10 cX10_chain 5 (some .int) 3 70) (x1 : Int32) (x2 : Int32) (x3 : Int32) (s0 : Int32) (σ : St) : Sim x (wxC z) 5 jIS (X10_chain_B17 x1 x2 x3 s0 σ) 17 [(0, .ref (aC z 0)), (1, .int x1), (2, .int x2), (3, .int x3)] [.int s0] σ := by
  rw [X10_chain_B17]
  refine S_istore C [(4, .int s0), (0, .ref (aC z 0)), (1, .int x1), (2, .int x2), (3, .int x3)] dX10_chain_17 (by decide) rfl ?_
  refine S_aload_n C 1 dX10_chain_19 rfl ?_
  refine G_X10_words C fl_X10_40 dX10_chain_20 ?_
  refine S_iload_n C 2 dX10_chain_23 rfl ?_
  refine K_X9_has C ml_X10_94 (by decide) (Nat.le_of_ble_eq_true rfl) dX10_chain_24 (fun v1 => ?_)
  refine S_if_eq C 55 dX10_chain_27 (by decide) ?_ ?_
  · refine S_iconst C (-1) dX10_chain_55 (by decide) ?_
    exact S_iret C rfl dX10_chain_56
  · refine S_aload_n C 1 dX10_chain_30 rfl ?_
    refine G_X10_words C fl_X10_40 dX10_chain_31 ?_
    refine S_iload_n C 3 dX10_chain_34 rfl ?_
    refine K_X9_has C ml_X10_94 (by decide) (Nat.le_of_ble_eq_true rfl) dX10_chain_35 (fun v2 => ?_)
    refine S_if_eq C 55 dX10_chain_38 (by decide) ?_ ?_
    · refine S_iconst C (-1) dX10_chain_55 (by decide) ?_
      exact S_iret C rfl dX10_chain_56
    · refine S_iload_n C 4 dX10_chain_41 rfl ?_
      refine S_if_eq C 57 dX10_chain_42 (by decide) ?_ ?_
      · exact S_sub [1, 2, 3, 4, 0] rfl (WT_X10_chain_B57 C x1 x2 x3 s0 σ)
      · refine S_iload_n C 4 dX10_chain_45 rfl ?_
        refine S_iconst C (1) dX10_chain_46 (by decide) ?_
        refine S_icmp_eq C 57 dX10_chain_47 (by decide) ?_ ?_
        · exact S_sub [1, 2, 3, 4, 0] rfl (WT_X10_chain_B57 C x1 x2 x3 s0 σ)
        · refine S_iload C 0 dX10_chain_50 rfl ?_
          refine S_if_ne C 57 dX10_chain_52 (by decide) ?_ ?_
          · exact S_sub [1, 2, 3, 4, 0] rfl (WT_X10_chain_B57 C x1 x2 x3 s0 σ)
          · refine S_iconst C (-1) dX10_chain_55 (by decide) ?_
            exact S_iret C rfl dX10_chain_56
set_option maxRecDepth 10000 in
theorem WT_X10_chain {x : MX} {z : ZT} (C : Cok x (wxC z) RX10 cX10_chain 5 (some .int) 3 70) (x1 : Int32) (x2 : Int32) (x3 : Int32) (σ : St) : Sim x (wxC z) 5 jIS (X10_chain x1 x2 x3 σ) 0 [(0, .ref (aC z 0)), (1, .int x1), (2, .int x2), (3, .int x3)] [] σ := by
  rw [X10_chain]
  refine S_iload_n C 3 dX10_chain_0 rfl ?_
  refine S_bipush C (10) dX10_chain_1 (by decide) ?_
  refine S_icmp_lt C 16 dX10_chain_3 (by decide) ?_ ?_
  · refine S_iconst C (0) dX10_chain_16 (by decide) ?_
    exact S_sub [0, 1, 2, 3] rfl (WT_X10_chain_B17 C x1 x2 x3 (0 : Int32) σ)
  · refine S_iload_n C 3 dX10_chain_6 rfl ?_
    refine S_bipush C (26) dX10_chain_7 (by decide) ?_
    refine S_icmp_ge C 16 dX10_chain_9 (by decide) ?_ ?_
    · refine S_iconst C (0) dX10_chain_16 (by decide) ?_
      exact S_sub [0, 1, 2, 3] rfl (WT_X10_chain_B17 C x1 x2 x3 (0 : Int32) σ)
    · refine S_iconst C (1) dX10_chain_12 (by decide) ?_
      refine S_goto C 17 dX10_chain_13 (by decide) ?_
      exact S_sub [0, 1, 2, 3] rfl (WT_X10_chain_B17 C x1 x2 x3 (1 : Int32) σ)
set_option maxRecDepth 10000 in
theorem con_X10_chain (z : ZT) (l : Launch) (x1 : Int32) (x2 : Int32) (x3 : Int32) (σ : St) : ∀ ro, X10_chain x1 x2 x3 σ = some ro → Con (wxC z) l yX10_chain cX10_chain 5 (some .int) 3 70 [.ref (aC z 0), .int x1, .int x2, .int x3] σ (jIS ro) :=
  fun ro hk => Con_of hk (by decide) (Nat.le_of_ble_eq_true rfl) (fun x hx C => WT_X10_chain C x1 x2 x3 σ)
set_option maxRecDepth 10000 in
theorem K_X10_chain {x : MX} {z : ZT} {own : String} {cc : ByteArray} {nL : Nat} {ret : Option FieldType} {fr lo : Nat} {ρ : Type} {inj : ρ → Option Value × St} {pc : Nat} {lv : List (Nat × Value)} {st : List Value} {σ : St} (C : Cok x (wxC z) own cc nL ret fr lo) {x1 : Int32} {x2 : Int32} {x3 : Int32} {index : Nat} (hl : Cond.methodLink own index yX10_chain ∈ gtb) (hR : 3 + 1 ≤ fr ∧ 8 + (5 + 11) + 70 ≤ lo) (hW : (st.map fun v => v.category).sum ≤ 8) (hd : decode cc pc = .ok (.invokevirtual index, 3)) {K : (Int32 × St) → Option ρ} (h : ∀ v, Sim x (wxC z) nL inj (K v) (pc + 3) lv (.int v.1 :: st) v.2) : Sim x (wxC z) nL inj ((X10_chain x1 x2 x3 σ).bind K) pc lv (.int x3 :: .int x2 :: .int x1 :: .ref (aC z 0) :: st) σ :=
  S_callV C (As := [.int x1, .int x2, .int x3]) (q := 0) (inj1 := jIS) mw_X10_chain mv_X10_chain hl (fun ro hro => con_X10_chain z (mL x) x1 x2 x3 σ ro hro) hR rfl (show 0 < 59 by decide) rfl (ce_X10 z σ) rfl rfl hW hd h
set_option maxRecDepth 10000 in
theorem WT_X10_standing {x : MX} {z : ZT} (C : Cok x (wxC z) RX10 cX10_standing 3 (some .int) 42 2451) (x1 : Int32) (σ : St) : Sim x (wxC z) 3 (jI σ) (X10_standing x1 σ) 0 [(0, .ref (aC z 0)), (1, .int x1)] [] σ := by
  rw [X10_standing]
  refine S_iload_n C 1 dX10_standing_0 rfl ?_
  refine S_if_lt C 9 dX10_standing_1 (by decide) ?_ ?_
  · refine S_iconst C (-1) dX10_standing_9 (by decide) ?_
    exact S_iret C rfl dX10_standing_10
  · refine S_iload_n C 1 dX10_standing_4 rfl ?_
    refine S_iconst C (2) dX10_standing_5 (by decide) ?_
    refine S_icmp_le C 11 dX10_standing_6 (by decide) ?_ ?_
    · refine S_iload_n C 1 dX10_standing_11 rfl ?_
      refine S_iconst C (2) dX10_standing_12 (by decide) ?_
      refine S_icmp_ne C 24 dX10_standing_13 (by decide) ?_ ?_
      · refine S_aload_n C 0 dX10_standing_24 rfl ?_
        refine G_X10_words C fl_X10_40 dX10_standing_25 ?_
        refine G_X9_joined C fl_X10_168 dX10_standing_28 ?_
        refine S_aload_n C 0 dX10_standing_31 rfl ?_
        refine G_X10_words C fl_X10_40 dX10_standing_32 ?_
        refine G_X9_size C fl_X10_171 dX10_standing_35 ?_
        refine K_X1_fewest C ml_X10_174 (by decide) (Nat.le_of_ble_eq_true rfl) dX10_standing_38 (fun v1 => ?_)
        refine S_istore_n C [(2, .int v1), (0, .ref (aC z 0)), (1, .int x1)] (i := 2) dX10_standing_41 rfl (by decide) rfl ?_
        refine S_iload_n C 2 dX10_standing_42 rfl ?_
        refine S_if_ne C 53 dX10_standing_43 (by decide) ?_ ?_
        · refine S_iload_n C 0 dX10_standing_53 rfl ?_
          exact S_iret C rfl dX10_standing_54
        · refine S_iload_n C 0 dX10_standing_46 rfl ?_
          refine K_J6_bitCount_0f7a4 C ml_X10_180 (by decide) (Nat.le_of_ble_eq_true rfl) dX10_standing_47 (fun v2 => ?_)
          refine S_goto C 54 dX10_standing_50 (by decide) ?_
          exact S_iret C rfl dX10_standing_54
      · refine S_aload_n C 0 dX10_standing_16 rfl ?_
        refine G_X10_words C fl_X10_40 dX10_standing_17 ?_
        refine K_X9_howManyNames C ml_X10_164 (by decide) (Nat.le_of_ble_eq_true rfl) dX10_standing_20 (fun v3 => ?_)
        exact S_iret C rfl dX10_standing_23
    · refine S_iconst C (-1) dX10_standing_9 (by decide) ?_
      exact S_iret C rfl dX10_standing_10
set_option maxRecDepth 10000 in
theorem con_X10_standing (z : ZT) (l : Launch) (x1 : Int32) (σ : St) : ∀ ro, X10_standing x1 σ = some ro → Con (wxC z) l yX10_standing cX10_standing 3 (some .int) 42 2451 [.ref (aC z 0), .int x1] σ ((jI σ) ro) :=
  fun ro hk => Con_of hk (by decide) (Nat.le_of_ble_eq_true rfl) (fun x hx C => WT_X10_standing C x1 σ)
set_option maxRecDepth 10000 in
theorem K_X10_standing {x : MX} {z : ZT} {own : String} {cc : ByteArray} {nL : Nat} {ret : Option FieldType} {fr lo : Nat} {ρ : Type} {inj : ρ → Option Value × St} {pc : Nat} {lv : List (Nat × Value)} {st : List Value} {σ : St} (C : Cok x (wxC z) own cc nL ret fr lo) {x1 : Int32} {index : Nat} (hl : Cond.methodLink own index yX10_standing ∈ gtb) (hR : 42 + 1 ≤ fr ∧ 8 + (3 + 11) + 2451 ≤ lo) (hW : (st.map fun v => v.category).sum ≤ 8) (hd : decode cc pc = .ok (.invokevirtual index, 3)) {K : Int32 → Option ρ} (h : ∀ v, Sim x (wxC z) nL inj (K v) (pc + 3) lv (.int v :: st) σ) : Sim x (wxC z) nL inj ((X10_standing x1 σ).bind K) pc lv (.int x1 :: .ref (aC z 0) :: st) σ :=
  S_callV C (As := [.int x1]) (q := 0) (inj1 := (jI σ)) mw_X10_standing mv_X10_standing hl (fun ro hro => con_X10_standing z (mL x) x1 σ ro hro) hR rfl (show 0 < 59 by decide) rfl (ce_X10 z σ) rfl rfl hW hd h
set_option maxRecDepth 10000 in
theorem WT_X10_place {x : MX} {z : ZT} (C : Cok x (wxC z) RX10 cX10_place 3 (some .int) 1 22) (x1 : Int32) (x2 : Int32) (σ : St) : Sim x (wxC z) 3 jIS (X10_place x1 x2 σ) 0 [(0, .ref (aC z 0)), (1, .int x1), (2, .int x2)] [] σ := by
  rw [X10_place]
  refine S_iload_n C 1 dX10_place_0 rfl ?_
  refine S_if_lt C 20 dX10_place_1 (by decide) ?_ ?_
  · refine S_iconst C (-1) dX10_place_20 (by decide) ?_
    exact S_iret C rfl dX10_place_21
  · refine S_iload_n C 1 dX10_place_4 rfl ?_
    refine S_bipush C (99) dX10_place_5 (by decide) ?_
    refine S_icmp_gt C 20 dX10_place_7 (by decide) ?_ ?_
    · refine S_iconst C (-1) dX10_place_20 (by decide) ?_
      exact S_iret C rfl dX10_place_21
    · refine S_iload_n C 2 dX10_place_10 rfl ?_
      refine S_if_lt C 20 dX10_place_11 (by decide) ?_ ?_
      · refine S_iconst C (-1) dX10_place_20 (by decide) ?_
        exact S_iret C rfl dX10_place_21
      · refine S_iload_n C 2 dX10_place_14 rfl ?_
        refine S_bipush C (99) dX10_place_15 (by decide) ?_
        refine S_icmp_le C 22 dX10_place_17 (by decide) ?_ ?_
        · refine S_aload_n C 0 dX10_place_22 rfl ?_
          refine G_X10_books C fl_X10_47 dX10_place_23 ?_
          refine S_iload_n C 1 dX10_place_26 rfl ?_
          refine S_iload_n C 2 dX10_place_27 rfl ?_
          refine K_X0_appendPlace C ml_X10_185 (by decide) (Nat.le_of_ble_eq_true rfl) dX10_place_28 (fun r1 => ?_)
          exact S_iret C rfl dX10_place_31
        · refine S_iconst C (-1) dX10_place_20 (by decide) ?_
          exact S_iret C rfl dX10_place_21
set_option maxRecDepth 10000 in
theorem con_X10_place (z : ZT) (l : Launch) (x1 : Int32) (x2 : Int32) (σ : St) : ∀ ro, X10_place x1 x2 σ = some ro → Con (wxC z) l yX10_place cX10_place 3 (some .int) 1 22 [.ref (aC z 0), .int x1, .int x2] σ (jIS ro) :=
  fun ro hk => Con_of hk (by decide) (Nat.le_of_ble_eq_true rfl) (fun x hx C => WT_X10_place C x1 x2 σ)
set_option maxRecDepth 10000 in
theorem K_X10_place {x : MX} {z : ZT} {own : String} {cc : ByteArray} {nL : Nat} {ret : Option FieldType} {fr lo : Nat} {ρ : Type} {inj : ρ → Option Value × St} {pc : Nat} {lv : List (Nat × Value)} {st : List Value} {σ : St} (C : Cok x (wxC z) own cc nL ret fr lo) {x1 : Int32} {x2 : Int32} {index : Nat} (hl : Cond.methodLink own index yX10_place ∈ gtb) (hR : 1 + 1 ≤ fr ∧ 8 + (3 + 11) + 22 ≤ lo) (hW : (st.map fun v => v.category).sum ≤ 8) (hd : decode cc pc = .ok (.invokevirtual index, 3)) {K : (Int32 × St) → Option ρ} (h : ∀ v, Sim x (wxC z) nL inj (K v) (pc + 3) lv (.int v.1 :: st) v.2) : Sim x (wxC z) nL inj ((X10_place x1 x2 σ).bind K) pc lv (.int x2 :: .int x1 :: .ref (aC z 0) :: st) σ :=
  S_callV C (As := [.int x1, .int x2]) (q := 0) (inj1 := jIS) mw_X10_place mv_X10_place hl (fun ro hro => con_X10_place z (mL x) x1 x2 σ ro hro) hR rfl (show 0 < 59 by decide) rfl (ce_X10 z σ) rfl rfl hW hd h
set_option maxRecDepth 10000 in
theorem WT_X10_book {x : MX} {z : ZT} (C : Cok x (wxC z) RX10 cX10_book 4 (some .int) 1 23) (x1 : Int32) (x2 : Int32) (x3 : Int32) (σ : St) : Sim x (wxC z) 4 jIS (X10_book x1 x2 x3 σ) 0 [(0, .ref (aC z 0)), (1, .int x1), (2, .int x2), (3, .int x3)] [] σ := by
  rw [X10_book]
  refine S_aload_n C 0 dX10_book_0 rfl ?_
  refine G_X10_books C fl_X10_47 dX10_book_1 ?_
  refine S_iload_n C 1 dX10_book_4 rfl ?_
  refine K_X0_hasPlace C ml_X10_188 (by decide) (Nat.le_of_ble_eq_true rfl) dX10_book_5 (fun v1 => ?_)
  refine S_if_eq C 27 dX10_book_8 (by decide) ?_ ?_
  · refine S_iconst C (-1) dX10_book_27 (by decide) ?_
    exact S_iret C rfl dX10_book_28
  · refine S_iload_n C 2 dX10_book_11 rfl ?_
    refine S_iload_n C 3 dX10_book_12 rfl ?_
    refine K_X0_areYears C ml_X10_191 (by decide) (Nat.le_of_ble_eq_true rfl) dX10_book_13 (fun v2 => ?_)
    refine S_if_eq C 27 dX10_book_16 (by decide) ?_ ?_
    · refine S_iconst C (-1) dX10_book_27 (by decide) ?_
      exact S_iret C rfl dX10_book_28
    · refine S_iload_n C 3 dX10_book_19 rfl ?_
      refine S_iload_n C 2 dX10_book_20 rfl ?_
      refine S_isub C dX10_book_21 ?_
      refine S_bipush C (64) dX10_book_22 (by decide) ?_
      refine S_icmp_lt C 29 dX10_book_24 (by decide) ?_ ?_
      · refine S_aload_n C 0 dX10_book_29 rfl ?_
        refine G_X10_books C fl_X10_47 dX10_book_30 ?_
        refine S_iload_n C 1 dX10_book_33 rfl ?_
        refine S_iload_n C 2 dX10_book_34 rfl ?_
        refine S_iload_n C 3 dX10_book_35 rfl ?_
        refine K_X0_append C ml_X10_195 (by decide) (Nat.le_of_ble_eq_true rfl) dX10_book_36 (fun r3 => ?_)
        exact S_iret C rfl dX10_book_39
      · refine S_iconst C (-1) dX10_book_27 (by decide) ?_
        exact S_iret C rfl dX10_book_28
set_option maxRecDepth 10000 in
theorem con_X10_book (z : ZT) (l : Launch) (x1 : Int32) (x2 : Int32) (x3 : Int32) (σ : St) : ∀ ro, X10_book x1 x2 x3 σ = some ro → Con (wxC z) l yX10_book cX10_book 4 (some .int) 1 23 [.ref (aC z 0), .int x1, .int x2, .int x3] σ (jIS ro) :=
  fun ro hk => Con_of hk (by decide) (Nat.le_of_ble_eq_true rfl) (fun x hx C => WT_X10_book C x1 x2 x3 σ)
set_option maxRecDepth 10000 in
theorem K_X10_book {x : MX} {z : ZT} {own : String} {cc : ByteArray} {nL : Nat} {ret : Option FieldType} {fr lo : Nat} {ρ : Type} {inj : ρ → Option Value × St} {pc : Nat} {lv : List (Nat × Value)} {st : List Value} {σ : St} (C : Cok x (wxC z) own cc nL ret fr lo) {x1 : Int32} {x2 : Int32} {x3 : Int32} {index : Nat} (hl : Cond.methodLink own index yX10_book ∈ gtb) (hR : 1 + 1 ≤ fr ∧ 8 + (4 + 11) + 23 ≤ lo) (hW : (st.map fun v => v.category).sum ≤ 8) (hd : decode cc pc = .ok (.invokevirtual index, 3)) {K : (Int32 × St) → Option ρ} (h : ∀ v, Sim x (wxC z) nL inj (K v) (pc + 3) lv (.int v.1 :: st) v.2) : Sim x (wxC z) nL inj ((X10_book x1 x2 x3 σ).bind K) pc lv (.int x3 :: .int x2 :: .int x1 :: .ref (aC z 0) :: st) σ :=
  S_callV C (As := [.int x1, .int x2, .int x3]) (q := 0) (inj1 := jIS) mw_X10_book mv_X10_book hl (fun ro hro => con_X10_book z (mL x) x1 x2 x3 σ ro hro) hR rfl (show 0 < 59 by decide) rfl (ce_X10 z σ) rfl rfl hW hd h
set_option maxRecDepth 10000 in
theorem WT_X10_hole {x : MX} {z : ZT} (C : Cok x (wxC z) RX10 cX10_hole 5 (some .int) 1 25) (x1 : Int32) (x2 : Int32) (x3 : Int32) (σ : St) : Sim x (wxC z) 5 jIS (X10_hole x1 x2 x3 σ) 0 [(0, .ref (aC z 0)), (1, .int x1), (2, .int x2), (3, .int x3)] [] σ := by
  rw [X10_hole]
  refine S_aload_n C 0 dX10_hole_0 rfl ?_
  refine G_X10_books C fl_X10_47 dX10_hole_1 ?_
  refine S_iload_n C 1 dX10_hole_4 rfl ?_
  refine K_X0_has C ml_X10_198 (by decide) (Nat.le_of_ble_eq_true rfl) dX10_hole_5 (fun v1 => ?_)
  refine S_if_eq C 23 dX10_hole_8 (by decide) ?_ ?_
  · refine S_iconst C (-1) dX10_hole_23 (by decide) ?_
    exact S_iret C rfl dX10_hole_24
  · refine S_aload_n C 0 dX10_hole_11 rfl ?_
    refine G_X10_books C fl_X10_47 dX10_hole_12 ?_
    refine S_iload_n C 1 dX10_hole_15 rfl ?_
    refine S_iload_n C 2 dX10_hole_16 rfl ?_
    refine K_X0_hasYear C ml_X10_199 (by decide) (Nat.le_of_ble_eq_true rfl) dX10_hole_17 (fun v2 => ?_)
    refine S_if_ne C 25 dX10_hole_20 (by decide) ?_ ?_
    · refine S_aload_n C 0 dX10_hole_25 rfl ?_
      refine G_X10_lines C fl_X10_56 dX10_hole_26 ?_
      refine S_iload_n C 1 dX10_hole_29 rfl ?_
      refine S_iload_n C 2 dX10_hole_30 rfl ?_
      refine K_X3_areIn C ml_X10_202 (by decide) (Nat.le_of_ble_eq_true rfl) dX10_hole_31 (fun v3 => ?_)
      refine S_if_eq C 40 dX10_hole_34 (by decide) ?_ ?_
      · refine S_aload_n C 0 dX10_hole_40 rfl ?_
        refine G_X10_books C fl_X10_47 dX10_hole_41 ?_
        refine S_iload_n C 1 dX10_hole_44 rfl ?_
        refine S_iload_n C 2 dX10_hole_45 rfl ?_
        refine K_X0_isHole C ml_X10_205 (by decide) (Nat.le_of_ble_eq_true rfl) dX10_hole_46 (fun v4 => ?_)
        refine S_istore C [(4, .int v4), (0, .ref (aC z 0)), (1, .int x1), (2, .int x2), (3, .int x3)] dX10_hole_49 (by decide) rfl ?_
        refine S_aload_n C 1 dX10_hole_51 rfl ?_
        refine G_X10_books C fl_X10_47 dX10_hole_52 ?_
        refine S_iload_n C 2 dX10_hole_55 rfl ?_
        refine S_iload_n C 3 dX10_hole_56 rfl ?_
        refine S_iload_n C 4 dX10_hole_57 rfl ?_
        refine K_X0_setHole C ml_X10_208 (by decide) (Nat.le_of_ble_eq_true rfl) dX10_hole_58 (fun σ5 => ?_)
        refine S_iload C 0 dX10_hole_61 rfl ?_
        refine S_if_eq C 70 dX10_hole_63 (by decide) ?_ ?_
        · refine S_iconst C (0) dX10_hole_70 (by decide) ?_
          exact S_iret C rfl dX10_hole_71
        · refine S_iconst C (1) dX10_hole_66 (by decide) ?_
          refine S_goto C 71 dX10_hole_67 (by decide) ?_
          exact S_iret C rfl dX10_hole_71
      · refine S_bipush C (-2) dX10_hole_37 (by decide) ?_
        exact S_iret C rfl dX10_hole_39
    · refine S_iconst C (-1) dX10_hole_23 (by decide) ?_
      exact S_iret C rfl dX10_hole_24
set_option maxRecDepth 10000 in
theorem con_X10_hole (z : ZT) (l : Launch) (x1 : Int32) (x2 : Int32) (x3 : Int32) (σ : St) : ∀ ro, X10_hole x1 x2 x3 σ = some ro → Con (wxC z) l yX10_hole cX10_hole 5 (some .int) 1 25 [.ref (aC z 0), .int x1, .int x2, .int x3] σ (jIS ro) :=
  fun ro hk => Con_of hk (by decide) (Nat.le_of_ble_eq_true rfl) (fun x hx C => WT_X10_hole C x1 x2 x3 σ)
set_option maxRecDepth 10000 in
theorem K_X10_hole {x : MX} {z : ZT} {own : String} {cc : ByteArray} {nL : Nat} {ret : Option FieldType} {fr lo : Nat} {ρ : Type} {inj : ρ → Option Value × St} {pc : Nat} {lv : List (Nat × Value)} {st : List Value} {σ : St} (C : Cok x (wxC z) own cc nL ret fr lo) {x1 : Int32} {x2 : Int32} {x3 : Int32} {index : Nat} (hl : Cond.methodLink own index yX10_hole ∈ gtb) (hR : 1 + 1 ≤ fr ∧ 8 + (5 + 11) + 25 ≤ lo) (hW : (st.map fun v => v.category).sum ≤ 8) (hd : decode cc pc = .ok (.invokevirtual index, 3)) {K : (Int32 × St) → Option ρ} (h : ∀ v, Sim x (wxC z) nL inj (K v) (pc + 3) lv (.int v.1 :: st) v.2) : Sim x (wxC z) nL inj ((X10_hole x1 x2 x3 σ).bind K) pc lv (.int x3 :: .int x2 :: .int x1 :: .ref (aC z 0) :: st) σ :=
  S_callV C (As := [.int x1, .int x2, .int x3]) (q := 0) (inj1 := jIS) mw_X10_hole mv_X10_hole hl (fun ro hro => con_X10_hole z (mL x) x1 x2 x3 σ ro hro) hR rfl (show 0 < 59 by decide) rfl (ce_X10 z σ) rfl rfl hW hd h
set_option maxRecDepth 10000 in
theorem WT_X10_bookOf {x : MX} {z : ZT} (C : Cok x (wxC z) RX10 cX10_bookOf 3 (some .int) 2 44) (x1 : Int32) (x2 : Int32) (σ : St) : Sim x (wxC z) 3 (jI σ) (X10_bookOf x1 x2 σ) 0 [(0, .ref (aC z 0)), (1, .int x1), (2, .int x2)] [] σ := by
  rw [X10_bookOf]
  refine S_aload_n C 0 dX10_bookOf_0 rfl ?_
  refine G_X10_books C fl_X10_47 dX10_bookOf_1 ?_
  refine S_iload_n C 1 dX10_bookOf_4 rfl ?_
  refine K_X0_has C ml_X10_198 (by decide) (Nat.le_of_ble_eq_true rfl) dX10_bookOf_5 (fun v1 => ?_)
  refine S_if_ne C 13 dX10_bookOf_8 (by decide) ?_ ?_
  · refine S_iload_n C 2 dX10_bookOf_13 rfl ?_
    refine S_tsw C _ [52, 62, 72, 82, 95, 104] 113 dX10_bookOf_14 rfl (Nat.le_of_ble_eq_true rfl) (by decide) (by decide) (Sims_cons ?_ (Sims_cons ?_ (Sims_cons ?_ (Sims_cons ?_ (Sims_cons ?_ (Sims_cons ?_ Sims_nil)))))) ?_
    · refine S_aload_n C 0 dX10_bookOf_52 rfl ?_
      refine G_X10_books C fl_X10_47 dX10_bookOf_53 ?_
      refine G_X0_place C fl_X10_212 dX10_bookOf_56 ?_
      refine S_iload_n C 1 dX10_bookOf_59 rfl ?_
      refine L_X0_place C dX10_bookOf_60 (fun _ => ?_)
      exact S_iret C rfl dX10_bookOf_61
    · refine S_aload_n C 0 dX10_bookOf_62 rfl ?_
      refine G_X10_books C fl_X10_47 dX10_bookOf_63 ?_
      refine G_X0_from C fl_X10_215 dX10_bookOf_66 ?_
      refine S_iload_n C 1 dX10_bookOf_69 rfl ?_
      refine L_X0_from C dX10_bookOf_70 (fun _ => ?_)
      exact S_iret C rfl dX10_bookOf_71
    · refine S_aload_n C 0 dX10_bookOf_72 rfl ?_
      refine G_X10_books C fl_X10_47 dX10_bookOf_73 ?_
      refine G_X0_to C fl_X10_218 dX10_bookOf_76 ?_
      refine S_iload_n C 1 dX10_bookOf_79 rfl ?_
      refine L_X0_to C dX10_bookOf_80 (fun _ => ?_)
      exact S_iret C rfl dX10_bookOf_81
    · refine S_aload_n C 0 dX10_bookOf_82 rfl ?_
      refine G_X10_books C fl_X10_47 dX10_bookOf_83 ?_
      refine G_X0_holes C fl_X10_221 dX10_bookOf_86 ?_
      refine S_iload_n C 1 dX10_bookOf_89 rfl ?_
      refine L_X0_holes C dX10_bookOf_90 (fun _ => ?_)
      refine K_J13_bitCount_95d88 C ml_X10_224 (by decide) (Nat.le_of_ble_eq_true rfl) dX10_bookOf_91 (fun v2 => ?_)
      exact S_iret C rfl dX10_bookOf_94
    · refine S_aload_n C 0 dX10_bookOf_95 rfl ?_
      refine G_X10_lines C fl_X10_56 dX10_bookOf_96 ?_
      refine S_iload_n C 1 dX10_bookOf_99 rfl ?_
      refine K_X3_howManyIn C ml_X10_228 (by decide) (Nat.le_of_ble_eq_true rfl) dX10_bookOf_100 (fun v3 => ?_)
      exact S_iret C rfl dX10_bookOf_103
    · refine S_aload_n C 0 dX10_bookOf_104 rfl ?_
      refine G_X10_books C fl_X10_47 dX10_bookOf_105 ?_
      refine S_iload_n C 1 dX10_bookOf_108 rfl ?_
      refine K_X0_latestReadable C ml_X10_231 (by decide) (Nat.le_of_ble_eq_true rfl) dX10_bookOf_109 (fun v4 => ?_)
      exact S_iret C rfl dX10_bookOf_112
    · refine S_iconst C (-1) dX10_bookOf_113 (by decide) ?_
      exact S_iret C rfl dX10_bookOf_114
  · refine S_iconst C (-1) dX10_bookOf_11 (by decide) ?_
    exact S_iret C rfl dX10_bookOf_12
set_option maxRecDepth 10000 in
theorem con_X10_bookOf (z : ZT) (l : Launch) (x1 : Int32) (x2 : Int32) (σ : St) : ∀ ro, X10_bookOf x1 x2 σ = some ro → Con (wxC z) l yX10_bookOf cX10_bookOf 3 (some .int) 2 44 [.ref (aC z 0), .int x1, .int x2] σ ((jI σ) ro) :=
  fun ro hk => Con_of hk (by decide) (Nat.le_of_ble_eq_true rfl) (fun x hx C => WT_X10_bookOf C x1 x2 σ)
set_option maxRecDepth 10000 in
theorem K_X10_bookOf {x : MX} {z : ZT} {own : String} {cc : ByteArray} {nL : Nat} {ret : Option FieldType} {fr lo : Nat} {ρ : Type} {inj : ρ → Option Value × St} {pc : Nat} {lv : List (Nat × Value)} {st : List Value} {σ : St} (C : Cok x (wxC z) own cc nL ret fr lo) {x1 : Int32} {x2 : Int32} {index : Nat} (hl : Cond.methodLink own index yX10_bookOf ∈ gtb) (hR : 2 + 1 ≤ fr ∧ 8 + (3 + 11) + 44 ≤ lo) (hW : (st.map fun v => v.category).sum ≤ 8) (hd : decode cc pc = .ok (.invokevirtual index, 3)) {K : Int32 → Option ρ} (h : ∀ v, Sim x (wxC z) nL inj (K v) (pc + 3) lv (.int v :: st) σ) : Sim x (wxC z) nL inj ((X10_bookOf x1 x2 σ).bind K) pc lv (.int x2 :: .int x1 :: .ref (aC z 0) :: st) σ :=
  S_callV C (As := [.int x1, .int x2]) (q := 0) (inj1 := (jI σ)) mw_X10_bookOf mv_X10_bookOf hl (fun ro hro => con_X10_bookOf z (mL x) x1 x2 σ ro hro) hR rfl (show 0 < 59 by decide) rfl (ce_X10 z σ) rfl rfl hW hd h
set_option maxRecDepth 10000 in
theorem WT_X10_line {x : MX} {z : ZT} (C : Cok x (wxC z) RX10 cX10_line 5 (some .int) 1 25) (x1 : Int32) (x2 : Int32) (x3 : Int32) (x4 : Int32) (σ : St) : Sim x (wxC z) 5 jIS (X10_line x1 x2 x3 x4 σ) 0 [(0, .ref (aC z 0)), (1, .int x1), (2, .int x2), (3, .int x3), (4, .int x4)] [] σ := by
  rw [X10_line]
  refine S_aload_n C 0 dX10_line_0 rfl ?_
  refine G_X10_books C fl_X10_47 dX10_line_1 ?_
  refine S_iload_n C 1 dX10_line_4 rfl ?_
  refine K_X0_has C ml_X10_198 (by decide) (Nat.le_of_ble_eq_true rfl) dX10_line_5 (fun v1 => ?_)
  refine S_if_eq C 42 dX10_line_8 (by decide) ?_ ?_
  · refine S_iconst C (-1) dX10_line_42 (by decide) ?_
    exact S_iret C rfl dX10_line_43
  · refine S_aload_n C 0 dX10_line_11 rfl ?_
    refine G_X10_books C fl_X10_47 dX10_line_12 ?_
    refine S_iload_n C 1 dX10_line_15 rfl ?_
    refine S_iload_n C 2 dX10_line_16 rfl ?_
    refine K_X0_hasYear C ml_X10_199 (by decide) (Nat.le_of_ble_eq_true rfl) dX10_line_17 (fun v2 => ?_)
    refine S_if_eq C 42 dX10_line_20 (by decide) ?_ ?_
    · refine S_iconst C (-1) dX10_line_42 (by decide) ?_
      exact S_iret C rfl dX10_line_43
    · refine S_aload_n C 0 dX10_line_23 rfl ?_
      refine G_X10_words C fl_X10_40 dX10_line_24 ?_
      refine S_iload_n C 3 dX10_line_27 rfl ?_
      refine K_X9_has C ml_X10_94 (by decide) (Nat.le_of_ble_eq_true rfl) dX10_line_28 (fun v3 => ?_)
      refine S_if_eq C 42 dX10_line_31 (by decide) ?_ ?_
      · refine S_iconst C (-1) dX10_line_42 (by decide) ?_
        exact S_iret C rfl dX10_line_43
      · refine S_iload C 4 dX10_line_34 rfl ?_
        refine K_X3_isKind C ml_X10_234 (by decide) (Nat.le_of_ble_eq_true rfl) dX10_line_36 (fun v4 => ?_)
        refine S_if_ne C 44 dX10_line_39 (by decide) ?_ ?_
        · refine S_aload_n C 0 dX10_line_44 rfl ?_
          refine G_X10_books C fl_X10_47 dX10_line_45 ?_
          refine S_iload_n C 1 dX10_line_48 rfl ?_
          refine S_iload_n C 2 dX10_line_49 rfl ?_
          refine K_X0_isHole C ml_X10_205 (by decide) (Nat.le_of_ble_eq_true rfl) dX10_line_50 (fun v5 => ?_)
          refine S_if_eq C 59 dX10_line_53 (by decide) ?_ ?_
          · refine S_aload_n C 0 dX10_line_59 rfl ?_
            refine G_X10_lines C fl_X10_56 dX10_line_60 ?_
            refine S_iload_n C 1 dX10_line_63 rfl ?_
            refine S_iload_n C 2 dX10_line_64 rfl ?_
            refine S_iload_n C 3 dX10_line_65 rfl ?_
            refine S_iload C 4 dX10_line_66 rfl ?_
            refine S_aload_n C 0 dX10_line_68 rfl ?_
            refine G_X10_today C fl_X10_237 dX10_line_69 ?_
            refine K_X3_append C ml_X10_240 (by decide) (Nat.le_of_ble_eq_true rfl) dX10_line_72 (fun r6 => ?_)
            exact S_iret C rfl dX10_line_75
          · refine S_bipush C (-2) dX10_line_56 (by decide) ?_
            exact S_iret C rfl dX10_line_58
        · refine S_iconst C (-1) dX10_line_42 (by decide) ?_
          exact S_iret C rfl dX10_line_43
set_option maxRecDepth 10000 in
theorem con_X10_line (z : ZT) (l : Launch) (x1 : Int32) (x2 : Int32) (x3 : Int32) (x4 : Int32) (σ : St) : ∀ ro, X10_line x1 x2 x3 x4 σ = some ro → Con (wxC z) l yX10_line cX10_line 5 (some .int) 1 25 [.ref (aC z 0), .int x1, .int x2, .int x3, .int x4] σ (jIS ro) :=
  fun ro hk => Con_of hk (by decide) (Nat.le_of_ble_eq_true rfl) (fun x hx C => WT_X10_line C x1 x2 x3 x4 σ)
set_option maxRecDepth 10000 in
theorem K_X10_line {x : MX} {z : ZT} {own : String} {cc : ByteArray} {nL : Nat} {ret : Option FieldType} {fr lo : Nat} {ρ : Type} {inj : ρ → Option Value × St} {pc : Nat} {lv : List (Nat × Value)} {st : List Value} {σ : St} (C : Cok x (wxC z) own cc nL ret fr lo) {x1 : Int32} {x2 : Int32} {x3 : Int32} {x4 : Int32} {index : Nat} (hl : Cond.methodLink own index yX10_line ∈ gtb) (hR : 1 + 1 ≤ fr ∧ 8 + (5 + 11) + 25 ≤ lo) (hW : (st.map fun v => v.category).sum ≤ 8) (hd : decode cc pc = .ok (.invokevirtual index, 3)) {K : (Int32 × St) → Option ρ} (h : ∀ v, Sim x (wxC z) nL inj (K v) (pc + 3) lv (.int v.1 :: st) v.2) : Sim x (wxC z) nL inj ((X10_line x1 x2 x3 x4 σ).bind K) pc lv (.int x4 :: .int x3 :: .int x2 :: .int x1 :: .ref (aC z 0) :: st) σ :=
  S_callV C (As := [.int x1, .int x2, .int x3, .int x4]) (q := 0) (inj1 := jIS) mw_X10_line mv_X10_line hl (fun ro hro => con_X10_line z (mL x) x1 x2 x3 x4 σ ro hro) hR rfl (show 0 < 59 by decide) rfl (ce_X10 z σ) rfl rfl hW hd h
set_option maxRecDepth 10000 in
theorem WT_X10_day {x : MX} {z : ZT} (C : Cok x (wxC z) RX10 cX10_day 3 (some .int) 0 0) (x1 : Int32) (σ : St) : Sim x (wxC z) 3 jIS (X10_day x1 σ) 0 [(0, .ref (aC z 0)), (1, .int x1)] [] σ := by
  rw [X10_day]
  refine S_iload_n C 1 dX10_day_0 rfl ?_
  refine S_aload_n C 0 dX10_day_1 rfl ?_
  refine G_X10_today C fl_X10_237 dX10_day_2 ?_
  refine S_icmp_lt C 15 dX10_day_5 (by decide) ?_ ?_
  · refine S_iconst C (-1) dX10_day_15 (by decide) ?_
    exact S_iret C rfl dX10_day_16
  · refine S_iload_n C 1 dX10_day_8 rfl ?_
    refine S_sipush C (999) dX10_day_9 (by decide) ?_
    refine S_icmp_le C 17 dX10_day_12 (by decide) ?_ ?_
    · refine S_aload_n C 0 dX10_day_17 rfl ?_
      refine G_X10_today C fl_X10_237 dX10_day_18 ?_
      refine S_bndT (fun x2_1 _ => ?_)
      refine S_istore_n C [(2, .int x2_1), (0, .ref (aC z 0)), (1, .int x1)] (i := 2) dX10_day_21 rfl (by decide) rfl ?_
      refine S_aload_n C 1 dX10_day_22 rfl ?_
      refine S_iload_n C 2 dX10_day_23 rfl ?_
      refine P_X10_today C fl_X10_237 dX10_day_24 ?_
      refine S_bndS (fun σ2 _ => ?_)
      refine S_iload_n C 0 dX10_day_27 rfl ?_
      exact S_iret C rfl dX10_day_28
    · refine S_iconst C (-1) dX10_day_15 (by decide) ?_
      exact S_iret C rfl dX10_day_16
set_option maxRecDepth 10000 in
theorem con_X10_day (z : ZT) (l : Launch) (x1 : Int32) (σ : St) : ∀ ro, X10_day x1 σ = some ro → Con (wxC z) l yX10_day cX10_day 3 (some .int) 0 0 [.ref (aC z 0), .int x1] σ (jIS ro) :=
  fun ro hk => Con_of hk (by decide) (Nat.le_of_ble_eq_true rfl) (fun x hx C => WT_X10_day C x1 σ)
set_option maxRecDepth 10000 in
theorem K_X10_day {x : MX} {z : ZT} {own : String} {cc : ByteArray} {nL : Nat} {ret : Option FieldType} {fr lo : Nat} {ρ : Type} {inj : ρ → Option Value × St} {pc : Nat} {lv : List (Nat × Value)} {st : List Value} {σ : St} (C : Cok x (wxC z) own cc nL ret fr lo) {x1 : Int32} {index : Nat} (hl : Cond.methodLink own index yX10_day ∈ gtb) (hR : 0 + 1 ≤ fr ∧ 8 + (3 + 11) + 0 ≤ lo) (hW : (st.map fun v => v.category).sum ≤ 8) (hd : decode cc pc = .ok (.invokevirtual index, 3)) {K : (Int32 × St) → Option ρ} (h : ∀ v, Sim x (wxC z) nL inj (K v) (pc + 3) lv (.int v.1 :: st) v.2) : Sim x (wxC z) nL inj ((X10_day x1 σ).bind K) pc lv (.int x1 :: .ref (aC z 0) :: st) σ :=
  S_callV C (As := [.int x1]) (q := 0) (inj1 := jIS) mw_X10_day mv_X10_day hl (fun ro hro => con_X10_day z (mL x) x1 σ ro hro) hR rfl (show 0 < 59 by decide) rfl (ce_X10 z σ) rfl rfl hW hd h
set_option maxRecDepth 10000 in
theorem WT_X10_again {x : MX} {z : ZT} (C : Cok x (wxC z) RX10 cX10_again 3 (some .int) 1 23) (x1 : Int32) (x2 : Int32) (σ : St) : Sim x (wxC z) 3 jIS (X10_again x1 x2 σ) 0 [(0, .ref (aC z 0)), (1, .int x1), (2, .int x2)] [] σ := by
  rw [X10_again]
  refine S_aload_n C 0 dX10_again_0 rfl ?_
  refine G_X10_lines C fl_X10_56 dX10_again_1 ?_
  refine S_iload_n C 1 dX10_again_4 rfl ?_
  refine K_X3_has C ml_X10_243 (by decide) (Nat.le_of_ble_eq_true rfl) dX10_again_5 (fun v1 => ?_)
  refine S_if_eq C 22 dX10_again_8 (by decide) ?_ ?_
  · refine S_iconst C (-1) dX10_again_22 (by decide) ?_
    exact S_iret C rfl dX10_again_23
  · refine S_aload_n C 0 dX10_again_11 rfl ?_
    refine G_X10_words C fl_X10_40 dX10_again_12 ?_
    refine S_iload_n C 2 dX10_again_15 rfl ?_
    refine K_X9_has C ml_X10_94 (by decide) (Nat.le_of_ble_eq_true rfl) dX10_again_16 (fun v2 => ?_)
    refine S_if_ne C 24 dX10_again_19 (by decide) ?_ ?_
    · refine S_aload_n C 0 dX10_again_24 rfl ?_
      refine G_X10_lines C fl_X10_56 dX10_again_25 ?_
      refine G_X3_latest C fl_X10_244 dX10_again_28 ?_
      refine S_iload_n C 1 dX10_again_31 rfl ?_
      refine L_X3_latest C dX10_again_32 (fun _ => ?_)
      refine S_iload_n C 2 dX10_again_33 rfl ?_
      refine S_icmp_ne C 40 dX10_again_34 (by decide) ?_ ?_
      · refine S_aload_n C 0 dX10_again_40 rfl ?_
        refine G_X10_lines C fl_X10_56 dX10_again_41 ?_
        refine S_iload_n C 1 dX10_again_44 rfl ?_
        refine S_iload_n C 2 dX10_again_45 rfl ?_
        refine S_aload_n C 0 dX10_again_46 rfl ?_
        refine G_X10_today C fl_X10_237 dX10_again_47 ?_
        refine K_X3_reread C ml_X10_247 (by decide) (Nat.le_of_ble_eq_true rfl) dX10_again_50 (fun r3 => ?_)
        exact S_iret C rfl dX10_again_53
      · refine S_bipush C (-2) dX10_again_37 (by decide) ?_
        exact S_iret C rfl dX10_again_39
    · refine S_iconst C (-1) dX10_again_22 (by decide) ?_
      exact S_iret C rfl dX10_again_23
set_option maxRecDepth 10000 in
theorem con_X10_again (z : ZT) (l : Launch) (x1 : Int32) (x2 : Int32) (σ : St) : ∀ ro, X10_again x1 x2 σ = some ro → Con (wxC z) l yX10_again cX10_again 3 (some .int) 1 23 [.ref (aC z 0), .int x1, .int x2] σ (jIS ro) :=
  fun ro hk => Con_of hk (by decide) (Nat.le_of_ble_eq_true rfl) (fun x hx C => WT_X10_again C x1 x2 σ)
set_option maxRecDepth 10000 in
theorem K_X10_again {x : MX} {z : ZT} {own : String} {cc : ByteArray} {nL : Nat} {ret : Option FieldType} {fr lo : Nat} {ρ : Type} {inj : ρ → Option Value × St} {pc : Nat} {lv : List (Nat × Value)} {st : List Value} {σ : St} (C : Cok x (wxC z) own cc nL ret fr lo) {x1 : Int32} {x2 : Int32} {index : Nat} (hl : Cond.methodLink own index yX10_again ∈ gtb) (hR : 1 + 1 ≤ fr ∧ 8 + (3 + 11) + 23 ≤ lo) (hW : (st.map fun v => v.category).sum ≤ 8) (hd : decode cc pc = .ok (.invokevirtual index, 3)) {K : (Int32 × St) → Option ρ} (h : ∀ v, Sim x (wxC z) nL inj (K v) (pc + 3) lv (.int v.1 :: st) v.2) : Sim x (wxC z) nL inj ((X10_again x1 x2 σ).bind K) pc lv (.int x2 :: .int x1 :: .ref (aC z 0) :: st) σ :=
  S_callV C (As := [.int x1, .int x2]) (q := 0) (inj1 := jIS) mw_X10_again mv_X10_again hl (fun ro hro => con_X10_again z (mL x) x1 x2 σ ro hro) hR rfl (show 0 < 59 by decide) rfl (ce_X10 z σ) rfl rfl hW hd h
set_option maxRecDepth 10000 in
theorem WT_X10_lineOf {x : MX} {z : ZT} (C : Cok x (wxC z) RX10 cX10_lineOf 3 (some .int) 1 21) (x1 : Int32) (x2 : Int32) (σ : St) : Sim x (wxC z) 3 (jI σ) (X10_lineOf x1 x2 σ) 0 [(0, .ref (aC z 0)), (1, .int x1), (2, .int x2)] [] σ := by
  rw [X10_lineOf]
  refine S_aload_n C 0 dX10_lineOf_0 rfl ?_
  refine G_X10_lines C fl_X10_56 dX10_lineOf_1 ?_
  refine S_iload_n C 1 dX10_lineOf_4 rfl ?_
  refine K_X3_has C ml_X10_243 (by decide) (Nat.le_of_ble_eq_true rfl) dX10_lineOf_5 (fun v1 => ?_)
  refine S_if_ne C 13 dX10_lineOf_8 (by decide) ?_ ?_
  · refine S_iload_n C 2 dX10_lineOf_13 rfl ?_
    refine S_tsw C _ [60, 70, 80, 90, 100, 109, 119, 129] 139 dX10_lineOf_14 rfl (Nat.le_of_ble_eq_true rfl) (by decide) (by decide) (Sims_cons ?_ (Sims_cons ?_ (Sims_cons ?_ (Sims_cons ?_ (Sims_cons ?_ (Sims_cons ?_ (Sims_cons ?_ (Sims_cons ?_ Sims_nil)))))))) ?_
    · refine S_aload_n C 0 dX10_lineOf_60 rfl ?_
      refine G_X10_lines C fl_X10_56 dX10_lineOf_61 ?_
      refine G_X3_book C fl_X10_250 dX10_lineOf_64 ?_
      refine S_iload_n C 1 dX10_lineOf_67 rfl ?_
      refine L_X3_book C dX10_lineOf_68 (fun _ => ?_)
      exact S_iret C rfl dX10_lineOf_69
    · refine S_aload_n C 0 dX10_lineOf_70 rfl ?_
      refine G_X10_lines C fl_X10_56 dX10_lineOf_71 ?_
      refine G_X3_year C fl_X10_253 dX10_lineOf_74 ?_
      refine S_iload_n C 1 dX10_lineOf_77 rfl ?_
      refine L_X3_year C dX10_lineOf_78 (fun _ => ?_)
      exact S_iret C rfl dX10_lineOf_79
    · refine S_aload_n C 0 dX10_lineOf_80 rfl ?_
      refine G_X10_lines C fl_X10_56 dX10_lineOf_81 ?_
      refine G_X3_latest C fl_X10_244 dX10_lineOf_84 ?_
      refine S_iload_n C 1 dX10_lineOf_87 rfl ?_
      refine L_X3_latest C dX10_lineOf_88 (fun _ => ?_)
      exact S_iret C rfl dX10_lineOf_89
    · refine S_aload_n C 0 dX10_lineOf_90 rfl ?_
      refine G_X10_lines C fl_X10_56 dX10_lineOf_91 ?_
      refine G_X3_kind C fl_X10_256 dX10_lineOf_94 ?_
      refine S_iload_n C 1 dX10_lineOf_97 rfl ?_
      refine L_X3_kind C dX10_lineOf_98 (fun _ => ?_)
      exact S_iret C rfl dX10_lineOf_99
    · refine S_aload_n C 0 dX10_lineOf_100 rfl ?_
      refine G_X10_lines C fl_X10_56 dX10_lineOf_101 ?_
      refine S_iload_n C 1 dX10_lineOf_104 rfl ?_
      refine K_X3_nameOfLine C ml_X10_259 (by decide) (Nat.le_of_ble_eq_true rfl) dX10_lineOf_105 (fun v2 => ?_)
      exact S_iret C rfl dX10_lineOf_108
    · refine S_aload_n C 0 dX10_lineOf_109 rfl ?_
      refine G_X10_lines C fl_X10_56 dX10_lineOf_110 ?_
      refine G_X3_fathers C fl_X10_262 dX10_lineOf_113 ?_
      refine S_iload_n C 1 dX10_lineOf_116 rfl ?_
      refine L_X3_fathers C dX10_lineOf_117 (fun _ => ?_)
      exact S_iret C rfl dX10_lineOf_118
    · refine S_aload_n C 0 dX10_lineOf_119 rfl ?_
      refine G_X10_lines C fl_X10_56 dX10_lineOf_120 ?_
      refine G_X3_times C fl_X10_265 dX10_lineOf_123 ?_
      refine S_iload_n C 1 dX10_lineOf_126 rfl ?_
      refine L_X3_times C dX10_lineOf_127 (fun _ => ?_)
      exact S_iret C rfl dX10_lineOf_128
    · refine S_aload_n C 0 dX10_lineOf_129 rfl ?_
      refine G_X10_lines C fl_X10_56 dX10_lineOf_130 ?_
      refine G_X3_came C fl_X10_268 dX10_lineOf_133 ?_
      refine S_iload_n C 1 dX10_lineOf_136 rfl ?_
      refine L_X3_came C dX10_lineOf_137 (fun _ => ?_)
      exact S_iret C rfl dX10_lineOf_138
    · refine S_iconst C (-1) dX10_lineOf_139 (by decide) ?_
      exact S_iret C rfl dX10_lineOf_140
  · refine S_iconst C (-1) dX10_lineOf_11 (by decide) ?_
    exact S_iret C rfl dX10_lineOf_12
set_option maxRecDepth 10000 in
theorem con_X10_lineOf (z : ZT) (l : Launch) (x1 : Int32) (x2 : Int32) (σ : St) : ∀ ro, X10_lineOf x1 x2 σ = some ro → Con (wxC z) l yX10_lineOf cX10_lineOf 3 (some .int) 1 21 [.ref (aC z 0), .int x1, .int x2] σ ((jI σ) ro) :=
  fun ro hk => Con_of hk (by decide) (Nat.le_of_ble_eq_true rfl) (fun x hx C => WT_X10_lineOf C x1 x2 σ)
set_option maxRecDepth 10000 in
theorem K_X10_lineOf {x : MX} {z : ZT} {own : String} {cc : ByteArray} {nL : Nat} {ret : Option FieldType} {fr lo : Nat} {ρ : Type} {inj : ρ → Option Value × St} {pc : Nat} {lv : List (Nat × Value)} {st : List Value} {σ : St} (C : Cok x (wxC z) own cc nL ret fr lo) {x1 : Int32} {x2 : Int32} {index : Nat} (hl : Cond.methodLink own index yX10_lineOf ∈ gtb) (hR : 1 + 1 ≤ fr ∧ 8 + (3 + 11) + 21 ≤ lo) (hW : (st.map fun v => v.category).sum ≤ 8) (hd : decode cc pc = .ok (.invokevirtual index, 3)) {K : Int32 → Option ρ} (h : ∀ v, Sim x (wxC z) nL inj (K v) (pc + 3) lv (.int v :: st) σ) : Sim x (wxC z) nL inj ((X10_lineOf x1 x2 σ).bind K) pc lv (.int x2 :: .int x1 :: .ref (aC z 0) :: st) σ :=
  S_callV C (As := [.int x1, .int x2]) (q := 0) (inj1 := (jI σ)) mw_X10_lineOf mv_X10_lineOf hl (fun ro hro => con_X10_lineOf z (mL x) x1 x2 σ ro hro) hR rfl (show 0 < 59 by decide) rfl (ce_X10 z σ) rfl rfl hW hd h
set_option maxRecDepth 10000 in
theorem WT_X10_known {x : MX} {z : ZT} (C : Cok x (wxC z) RX10 cX10_known 3 (some .int) 1 24) (x1 : Int32) (x2 : Int32) (σ : St) : Sim x (wxC z) 3 (jI σ) (X10_known x1 x2 σ) 0 [(0, .ref (aC z 0)), (1, .int x1), (2, .int x2)] [] σ := by
  rw [X10_known]
  refine S_aload_n C 0 dX10_known_0 rfl ?_
  refine G_X10_lines C fl_X10_56 dX10_known_1 ?_
  refine S_iload_n C 1 dX10_known_4 rfl ?_
  refine K_X3_has C ml_X10_243 (by decide) (Nat.le_of_ble_eq_true rfl) dX10_known_5 (fun v1 => ?_)
  refine S_if_eq C 34 dX10_known_8 (by decide) ?_ ?_
  · refine S_iconst C (-1) dX10_known_34 (by decide) ?_
    exact S_iret C rfl dX10_known_35
  · refine S_iload_n C 2 dX10_known_11 rfl ?_
    refine S_if_lt C 34 dX10_known_12 (by decide) ?_ ?_
    · refine S_iconst C (-1) dX10_known_34 (by decide) ?_
      exact S_iret C rfl dX10_known_35
    · refine S_iload_n C 2 dX10_known_15 rfl ?_
      refine S_sipush C (999) dX10_known_16 (by decide) ?_
      refine S_icmp_gt C 34 dX10_known_19 (by decide) ?_ ?_
      · refine S_iconst C (-1) dX10_known_34 (by decide) ?_
        exact S_iret C rfl dX10_known_35
      · refine S_aload_n C 0 dX10_known_22 rfl ?_
        refine G_X10_lines C fl_X10_56 dX10_known_23 ?_
        refine S_iload_n C 1 dX10_known_26 rfl ?_
        refine S_iload_n C 2 dX10_known_27 rfl ?_
        refine K_X3_knownOn C ml_X10_271 (by decide) (Nat.le_of_ble_eq_true rfl) dX10_known_28 (fun v2 => ?_)
        refine S_goto C 35 dX10_known_31 (by decide) ?_
        exact S_iret C rfl dX10_known_35
set_option maxRecDepth 10000 in
theorem con_X10_known (z : ZT) (l : Launch) (x1 : Int32) (x2 : Int32) (σ : St) : ∀ ro, X10_known x1 x2 σ = some ro → Con (wxC z) l yX10_known cX10_known 3 (some .int) 1 24 [.ref (aC z 0), .int x1, .int x2] σ ((jI σ) ro) :=
  fun ro hk => Con_of hk (by decide) (Nat.le_of_ble_eq_true rfl) (fun x hx C => WT_X10_known C x1 x2 σ)
set_option maxRecDepth 10000 in
theorem K_X10_known {x : MX} {z : ZT} {own : String} {cc : ByteArray} {nL : Nat} {ret : Option FieldType} {fr lo : Nat} {ρ : Type} {inj : ρ → Option Value × St} {pc : Nat} {lv : List (Nat × Value)} {st : List Value} {σ : St} (C : Cok x (wxC z) own cc nL ret fr lo) {x1 : Int32} {x2 : Int32} {index : Nat} (hl : Cond.methodLink own index yX10_known ∈ gtb) (hR : 1 + 1 ≤ fr ∧ 8 + (3 + 11) + 24 ≤ lo) (hW : (st.map fun v => v.category).sum ≤ 8) (hd : decode cc pc = .ok (.invokevirtual index, 3)) {K : Int32 → Option ρ} (h : ∀ v, Sim x (wxC z) nL inj (K v) (pc + 3) lv (.int v :: st) σ) : Sim x (wxC z) nL inj ((X10_known x1 x2 σ).bind K) pc lv (.int x2 :: .int x1 :: .ref (aC z 0) :: st) σ :=
  S_callV C (As := [.int x1, .int x2]) (q := 0) (inj1 := (jI σ)) mw_X10_known mv_X10_known hl (fun ro hro => con_X10_known z (mL x) x1 x2 σ ro hro) hR rfl (show 0 < 59 by decide) rfl (ce_X10 z σ) rfl rfl hW hd h
set_option maxRecDepth 10000 in
theorem WT_X10_bearers_B16 {x : MX} {z : ZT} (C : Cok x (wxC z) RX10 cX10_bearers 10 (some .int) 3 73) (σ : St) (x1 : Int32) (x2 : Int32) (x3 : Int32) (x4 : Int32) (x5 : Int32) (s0 : Int32) : Sim x (wxC z) 10 (jI σ) (X10_bearers_B16 σ x1 x2 x3 x4 x5 s0) 16 [(0, .ref (aC z 0)), (1, .int x1), (2, .int x2), (3, .int x3), (4, .int x4), (5, .int x5)] [.int s0] σ := by
  rw [X10_bearers_B16]
  refine S_istore C [(6, .int s0), (0, .ref (aC z 0)), (1, .int x1), (2, .int x2), (3, .int x3), (4, .int x4), (5, .int x5)] dX10_bearers_16 (by decide) rfl ?_
  refine S_aload_n C 1 dX10_bearers_18 rfl ?_
  refine G_X10_words C fl_X10_40 dX10_bearers_19 ?_
  refine S_iload_n C 2 dX10_bearers_22 rfl ?_
  refine K_X9_has C ml_X10_94 (by decide) (Nat.le_of_ble_eq_true rfl) dX10_bearers_23 (fun v1 => ?_)
  refine S_if_eq C 54 dX10_bearers_26 (by decide) ?_ ?_
  · refine S_iconst C (-1) dX10_bearers_54 (by decide) ?_
    exact S_iret C rfl dX10_bearers_55
  · refine S_aload_n C 1 dX10_bearers_29 rfl ?_
    refine G_X10_books C fl_X10_47 dX10_bearers_30 ?_
    refine S_iload_n C 3 dX10_bearers_33 rfl ?_
    refine K_X0_hasPlace C ml_X10_188 (by decide) (Nat.le_of_ble_eq_true rfl) dX10_bearers_34 (fun v2 => ?_)
    refine S_if_eq C 54 dX10_bearers_37 (by decide) ?_ ?_
    · refine S_iconst C (-1) dX10_bearers_54 (by decide) ?_
      exact S_iret C rfl dX10_bearers_55
    · refine S_iload_n C 4 dX10_bearers_40 rfl ?_
      refine S_iload C 5 dX10_bearers_41 rfl ?_
      refine K_X0_areYears C ml_X10_191 (by decide) (Nat.le_of_ble_eq_true rfl) dX10_bearers_43 (fun v3 => ?_)
      refine S_if_eq C 54 dX10_bearers_46 (by decide) ?_ ?_
      · refine S_iconst C (-1) dX10_bearers_54 (by decide) ?_
        exact S_iret C rfl dX10_bearers_55
      · refine S_iload C 0 dX10_bearers_49 rfl ?_
        refine S_if_ne C 56 dX10_bearers_51 (by decide) ?_ ?_
        · refine S_aload_n C 1 dX10_bearers_56 rfl ?_
          refine G_X10_books C fl_X10_47 dX10_bearers_57 ?_
          refine S_iload_n C 3 dX10_bearers_60 rfl ?_
          refine S_iload_n C 4 dX10_bearers_61 rfl ?_
          refine S_iload C 5 dX10_bearers_62 rfl ?_
          refine K_X0_readableYears C ml_X10_274 (by decide) (Nat.le_of_ble_eq_true rfl) dX10_bearers_64 (fun v4 => ?_)
          refine S_istore C [(7, .int v4), (6, .int s0), (0, .ref (aC z 0)), (1, .int x1), (2, .int x2), (3, .int x3), (4, .int x4), (5, .int x5)] dX10_bearers_67 (by decide) rfl ?_
          refine S_iload C 7 dX10_bearers_69 rfl ?_
          refine S_iconst C (2) dX10_bearers_71 (by decide) ?_
          refine S_icmp_ne C 78 dX10_bearers_72 (by decide) ?_ ?_
          · refine S_aload_n C 2 dX10_bearers_78 rfl ?_
            refine G_X10_lines C fl_X10_56 dX10_bearers_79 ?_
            refine S_aload_n C 2 dX10_bearers_82 rfl ?_
            refine G_X10_words C fl_X10_40 dX10_bearers_83 ?_
            refine G_X9_names C fl_X10_147 dX10_bearers_86 ?_
            refine S_iload_n C 3 dX10_bearers_89 rfl ?_
            refine L_X9_names C dX10_bearers_90 (fun _ => ?_)
            refine S_iload_n C 4 dX10_bearers_91 rfl ?_
            refine S_iload_n C 5 dX10_bearers_92 rfl ?_
            refine S_iload C 6 dX10_bearers_93 rfl ?_
            refine K_X3_worth C ml_X10_277 (by decide) (Nat.le_of_ble_eq_true rfl) dX10_bearers_95 (fun v5 => ?_)
            refine S_istore C [(8, .int v5), (7, .int v4), (6, .int s0), (0, .ref (aC z 0)), (1, .int x1), (2, .int x2), (3, .int x3), (4, .int x4), (5, .int x5)] dX10_bearers_98 (by decide) rfl ?_
            refine S_iload C 8 dX10_bearers_100 rfl ?_
            refine S_if_ne C 110 dX10_bearers_102 (by decide) ?_ ?_
            · refine S_iload C 7 dX10_bearers_110 rfl ?_
              refine S_iload_n C 6 dX10_bearers_112 rfl ?_
              refine S_isub C dX10_bearers_113 ?_
              refine S_iconst C (1) dX10_bearers_114 (by decide) ?_
              refine S_iadd C dX10_bearers_115 ?_
              refine S_iload C 1 dX10_bearers_116 rfl ?_
              refine K_J9_max_7cf53 C ml_X10_281 (by decide) (Nat.le_of_ble_eq_true rfl) dX10_bearers_118 (fun v6 => ?_)
              refine S_istore C [(9, .int v6), (8, .int v5), (7, .int v4), (6, .int s0), (0, .ref (aC z 0)), (1, .int x1), (2, .int x2), (3, .int x3), (4, .int x4), (5, .int x5)] dX10_bearers_121 (by decide) rfl ?_
              refine S_iload C 2 dX10_bearers_123 rfl ?_
              refine S_if_ne C 133 dX10_bearers_125 (by decide) ?_ ?_
              · refine S_iload C 1 dX10_bearers_133 rfl ?_
                refine S_iload C 0 dX10_bearers_135 rfl ?_
                refine S_imul C dX10_bearers_137 ?_
                refine S_iconst C (2) dX10_bearers_138 (by decide) ?_
                refine S_iload C 2 dX10_bearers_139 rfl ?_
                refine S_imul C dX10_bearers_141 ?_
                refine K_X10_divideUp C ml_X10_286 (by decide) (Nat.le_of_ble_eq_true rfl) dX10_bearers_142 (fun v7 => ?_)
                exact S_iret C rfl dX10_bearers_145
              · refine S_bipush C (-4) dX10_bearers_128 (by decide) ?_
                refine S_goto C 145 dX10_bearers_130 (by decide) ?_
                exact S_iret C rfl dX10_bearers_145
            · refine S_iload C 0 dX10_bearers_105 rfl ?_
              refine S_iconst C (2) dX10_bearers_107 (by decide) ?_
              refine S_idiv_k C (by decide) dX10_bearers_108 ?_
              exact S_iret C rfl dX10_bearers_109
          · refine S_iload C 0 dX10_bearers_75 rfl ?_
            exact S_iret C rfl dX10_bearers_77
        · refine S_iconst C (-1) dX10_bearers_54 (by decide) ?_
          exact S_iret C rfl dX10_bearers_55
set_option maxRecDepth 10000 in
theorem WT_X10_bearers {x : MX} {z : ZT} (C : Cok x (wxC z) RX10 cX10_bearers 10 (some .int) 3 73) (x1 : Int32) (x2 : Int32) (x3 : Int32) (x4 : Int32) (x5 : Int32) (σ : St) : Sim x (wxC z) 10 (jI σ) (X10_bearers x1 x2 x3 x4 x5 σ) 0 [(0, .ref (aC z 0)), (1, .int x1), (2, .int x2), (3, .int x3), (4, .int x4), (5, .int x5)] [] σ := by
  rw [X10_bearers]
  refine S_iload C 5 dX10_bearers_0 rfl ?_
  refine S_if_lt C 15 dX10_bearers_2 (by decide) ?_ ?_
  · refine S_iconst C (0) dX10_bearers_15 (by decide) ?_
    exact S_sub [0, 1, 2, 3, 4, 5] rfl (WT_X10_bearers_B16 C σ x1 x2 x3 x4 x5 (0 : Int32))
  · refine S_iload C 5 dX10_bearers_5 rfl ?_
    refine S_iconst C (2) dX10_bearers_7 (by decide) ?_
    refine S_icmp_gt C 15 dX10_bearers_8 (by decide) ?_ ?_
    · refine S_iconst C (0) dX10_bearers_15 (by decide) ?_
      exact S_sub [0, 1, 2, 3, 4, 5] rfl (WT_X10_bearers_B16 C σ x1 x2 x3 x4 x5 (0 : Int32))
    · refine S_iconst C (1) dX10_bearers_11 (by decide) ?_
      refine S_goto C 16 dX10_bearers_12 (by decide) ?_
      exact S_sub [0, 1, 2, 3, 4, 5] rfl (WT_X10_bearers_B16 C σ x1 x2 x3 x4 x5 (1 : Int32))
set_option maxRecDepth 10000 in
theorem con_X10_bearers (z : ZT) (l : Launch) (x1 : Int32) (x2 : Int32) (x3 : Int32) (x4 : Int32) (x5 : Int32) (σ : St) : ∀ ro, X10_bearers x1 x2 x3 x4 x5 σ = some ro → Con (wxC z) l yX10_bearers cX10_bearers 10 (some .int) 3 73 [.ref (aC z 0), .int x1, .int x2, .int x3, .int x4, .int x5] σ ((jI σ) ro) :=
  fun ro hk => Con_of hk (by decide) (Nat.le_of_ble_eq_true rfl) (fun x hx C => WT_X10_bearers C x1 x2 x3 x4 x5 σ)
set_option maxRecDepth 10000 in
theorem K_X10_bearers {x : MX} {z : ZT} {own : String} {cc : ByteArray} {nL : Nat} {ret : Option FieldType} {fr lo : Nat} {ρ : Type} {inj : ρ → Option Value × St} {pc : Nat} {lv : List (Nat × Value)} {st : List Value} {σ : St} (C : Cok x (wxC z) own cc nL ret fr lo) {x1 : Int32} {x2 : Int32} {x3 : Int32} {x4 : Int32} {x5 : Int32} {index : Nat} (hl : Cond.methodLink own index yX10_bearers ∈ gtb) (hR : 3 + 1 ≤ fr ∧ 8 + (10 + 11) + 73 ≤ lo) (hW : (st.map fun v => v.category).sum ≤ 8) (hd : decode cc pc = .ok (.invokevirtual index, 3)) {K : Int32 → Option ρ} (h : ∀ v, Sim x (wxC z) nL inj (K v) (pc + 3) lv (.int v :: st) σ) : Sim x (wxC z) nL inj ((X10_bearers x1 x2 x3 x4 x5 σ).bind K) pc lv (.int x5 :: .int x4 :: .int x3 :: .int x2 :: .int x1 :: .ref (aC z 0) :: st) σ :=
  S_callV C (As := [.int x1, .int x2, .int x3, .int x4, .int x5]) (q := 0) (inj1 := (jI σ)) mw_X10_bearers mv_X10_bearers hl (fun ro hro => con_X10_bearers z (mL x) x1 x2 x3 x4 x5 σ ro hro) hR rfl (show 0 < 59 by decide) rfl (ce_X10 z σ) rfl rfl hW hd h
set_option maxRecDepth 10000 in
theorem WT_X10_first {x : MX} {z : ZT} (C : Cok x (wxC z) RX10 cX10_first 3 (some .int) 3 69) (x1 : Int32) (x2 : Int32) (σ : St) : Sim x (wxC z) 3 (jI σ) (X10_first x1 x2 σ) 0 [(0, .ref (aC z 0)), (1, .int x1), (2, .int x2)] [] σ := by
  rw [X10_first]
  refine S_aload_n C 0 dX10_first_0 rfl ?_
  refine G_X10_words C fl_X10_40 dX10_first_1 ?_
  refine S_iload_n C 1 dX10_first_4 rfl ?_
  refine K_X9_has C ml_X10_94 (by decide) (Nat.le_of_ble_eq_true rfl) dX10_first_5 (fun v1 => ?_)
  refine S_if_eq C 22 dX10_first_8 (by decide) ?_ ?_
  · refine S_iconst C (-1) dX10_first_22 (by decide) ?_
    exact S_iret C rfl dX10_first_23
  · refine S_aload_n C 0 dX10_first_11 rfl ?_
    refine G_X10_books C fl_X10_47 dX10_first_12 ?_
    refine S_iload_n C 2 dX10_first_15 rfl ?_
    refine K_X0_hasPlace C ml_X10_188 (by decide) (Nat.le_of_ble_eq_true rfl) dX10_first_16 (fun v2 => ?_)
    refine S_if_ne C 24 dX10_first_19 (by decide) ?_ ?_
    · refine S_aload_n C 0 dX10_first_24 rfl ?_
      refine G_X10_lines C fl_X10_56 dX10_first_25 ?_
      refine S_aload_n C 0 dX10_first_28 rfl ?_
      refine G_X10_words C fl_X10_40 dX10_first_29 ?_
      refine G_X9_names C fl_X10_147 dX10_first_32 ?_
      refine S_iload_n C 1 dX10_first_35 rfl ?_
      refine L_X9_names C dX10_first_36 (fun _ => ?_)
      refine S_iload_n C 2 dX10_first_37 rfl ?_
      refine K_X3_firstYear C ml_X10_289 (by decide) (Nat.le_of_ble_eq_true rfl) dX10_first_38 (fun v3 => ?_)
      exact S_iret C rfl dX10_first_41
    · refine S_iconst C (-1) dX10_first_22 (by decide) ?_
      exact S_iret C rfl dX10_first_23
set_option maxRecDepth 10000 in
theorem con_X10_first (z : ZT) (l : Launch) (x1 : Int32) (x2 : Int32) (σ : St) : ∀ ro, X10_first x1 x2 σ = some ro → Con (wxC z) l yX10_first cX10_first 3 (some .int) 3 69 [.ref (aC z 0), .int x1, .int x2] σ ((jI σ) ro) :=
  fun ro hk => Con_of hk (by decide) (Nat.le_of_ble_eq_true rfl) (fun x hx C => WT_X10_first C x1 x2 σ)
set_option maxRecDepth 10000 in
theorem K_X10_first {x : MX} {z : ZT} {own : String} {cc : ByteArray} {nL : Nat} {ret : Option FieldType} {fr lo : Nat} {ρ : Type} {inj : ρ → Option Value × St} {pc : Nat} {lv : List (Nat × Value)} {st : List Value} {σ : St} (C : Cok x (wxC z) own cc nL ret fr lo) {x1 : Int32} {x2 : Int32} {index : Nat} (hl : Cond.methodLink own index yX10_first ∈ gtb) (hR : 3 + 1 ≤ fr ∧ 8 + (3 + 11) + 69 ≤ lo) (hW : (st.map fun v => v.category).sum ≤ 8) (hd : decode cc pc = .ok (.invokevirtual index, 3)) {K : Int32 → Option ρ} (h : ∀ v, Sim x (wxC z) nL inj (K v) (pc + 3) lv (.int v :: st) σ) : Sim x (wxC z) nL inj ((X10_first x1 x2 σ).bind K) pc lv (.int x2 :: .int x1 :: .ref (aC z 0) :: st) σ :=
  S_callV C (As := [.int x1, .int x2]) (q := 0) (inj1 := (jI σ)) mw_X10_first mv_X10_first hl (fun ro hro => con_X10_first z (mL x) x1 x2 σ ro hro) hR rfl (show 0 < 59 by decide) rfl (ce_X10 z σ) rfl rfl hW hd h
set_option maxRecDepth 10000 in
theorem WT_X10_starts {x : MX} {z : ZT} (C : Cok x (wxC z) RX10 cX10_starts 3 (some .int) 4 91) (x1 : Int32) (x2 : Int32) (σ : St) : Sim x (wxC z) 3 jIS (X10_starts x1 x2 σ) 0 [(0, .ref (aC z 0)), (1, .int x1), (2, .int x2)] [] σ := by
  rw [X10_starts]
  refine S_aload_n C 0 dX10_starts_0 rfl ?_
  refine G_X10_words C fl_X10_40 dX10_starts_1 ?_
  refine S_iload_n C 1 dX10_starts_4 rfl ?_
  refine K_X9_has C ml_X10_94 (by decide) (Nat.le_of_ble_eq_true rfl) dX10_starts_5 (fun v1 => ?_)
  refine S_if_eq C 20 dX10_starts_8 (by decide) ?_ ?_
  · refine S_iconst C (-1) dX10_starts_20 (by decide) ?_
    exact S_iret C rfl dX10_starts_21
  · refine S_iload_n C 2 dX10_starts_11 rfl ?_
    refine S_if_lt C 20 dX10_starts_12 (by decide) ?_ ?_
    · refine S_iconst C (-1) dX10_starts_20 (by decide) ?_
      exact S_iret C rfl dX10_starts_21
    · refine S_iload_n C 2 dX10_starts_15 rfl ?_
      refine S_iconst C (3) dX10_starts_16 (by decide) ?_
      refine S_icmp_le C 22 dX10_starts_17 (by decide) ?_ ?_
      · refine S_aload_n C 0 dX10_starts_22 rfl ?_
        refine G_X10_origins C fl_X10_65 dX10_starts_23 ?_
        refine S_aload_n C 0 dX10_starts_26 rfl ?_
        refine G_X10_words C fl_X10_40 dX10_starts_27 ?_
        refine G_X9_names C fl_X10_147 dX10_starts_30 ?_
        refine S_iload_n C 1 dX10_starts_33 rfl ?_
        refine L_X9_names C dX10_starts_34 (fun _ => ?_)
        refine K_X4_gather C ml_X10_292 (by decide) (Nat.le_of_ble_eq_true rfl) dX10_starts_35 (fun σ2 => ?_)
        refine S_iload_n C 2 dX10_starts_38 rfl ?_
        refine S_iconst C (2) dX10_starts_39 (by decide) ?_
        refine S_icmp_ne C 51 dX10_starts_40 (by decide) ?_ ?_
        · refine S_aload_n C 0 dX10_starts_51 rfl ?_
          refine G_X10_origins C fl_X10_65 dX10_starts_52 ?_
          refine S_aload_n C 0 dX10_starts_55 rfl ?_
          refine G_X10_told C fl_X10_28 dX10_starts_56 (fun h3 => ?_)
          refine G_X5_numbers C h3 fl_X10_126 dX10_starts_59 ?_
          refine S_iconst C (3) dX10_starts_62 (by decide) ?_
          refine Lk_X5_numbers C h3 3 (by decide) dX10_starts_63 ?_
          refine K_X4_spread C ml_X10_298 (by decide) (Nat.le_of_ble_eq_true rfl) dX10_starts_64 (fun σ4 => ?_)
          refine S_aload_n C 0 dX10_starts_67 rfl ?_
          refine G_X10_origins C fl_X10_65 dX10_starts_68 ?_
          refine K_X4_search C ml_X10_301 (by decide) (Nat.le_of_ble_eq_true rfl) dX10_starts_71 (fun σ5 => ?_)
          refine S_iload_n C 2 dX10_starts_74 rfl ?_
          refine S_iconst C (3) dX10_starts_75 (by decide) ?_
          refine S_icmp_ne C 87 dX10_starts_76 (by decide) ?_ ?_
          · refine S_iload_n C 2 dX10_starts_87 rfl ?_
            refine S_if_ne C 104 dX10_starts_88 (by decide) ?_ ?_
            · refine S_aload_n C 0 dX10_starts_104 rfl ?_
              refine G_X10_origins C fl_X10_65 dX10_starts_105 ?_
              refine G_X4_fewest C fl_X10_307 dX10_starts_108 ?_
              exact S_iret C rfl dX10_starts_111
            · refine S_aload_n C 0 dX10_starts_91 rfl ?_
              refine G_X10_origins C fl_X10_65 dX10_starts_92 ?_
              refine G_X4_fewest C fl_X10_307 dX10_starts_95 ?_
              refine K_J6_bitCount_0f7a4 C ml_X10_180 (by decide) (Nat.le_of_ble_eq_true rfl) dX10_starts_98 (fun v6 => ?_)
              refine S_goto C 111 dX10_starts_101 (by decide) ?_
              exact S_iret C rfl dX10_starts_111
          · refine S_aload_n C 0 dX10_starts_79 rfl ?_
            refine G_X10_origins C fl_X10_65 dX10_starts_80 ?_
            refine G_X4_inAll C fl_X10_304 dX10_starts_83 ?_
            exact S_iret C rfl dX10_starts_86
        · refine S_aload_n C 0 dX10_starts_43 rfl ?_
          refine G_X10_origins C fl_X10_65 dX10_starts_44 ?_
          refine G_X4_present C fl_X10_295 dX10_starts_47 ?_
          exact S_iret C rfl dX10_starts_50
      · refine S_iconst C (-1) dX10_starts_20 (by decide) ?_
        exact S_iret C rfl dX10_starts_21
set_option maxRecDepth 10000 in
theorem con_X10_starts (z : ZT) (l : Launch) (x1 : Int32) (x2 : Int32) (σ : St) : ∀ ro, X10_starts x1 x2 σ = some ro → Con (wxC z) l yX10_starts cX10_starts 3 (some .int) 4 91 [.ref (aC z 0), .int x1, .int x2] σ (jIS ro) :=
  fun ro hk => Con_of hk (by decide) (Nat.le_of_ble_eq_true rfl) (fun x hx C => WT_X10_starts C x1 x2 σ)
set_option maxRecDepth 10000 in
theorem K_X10_starts {x : MX} {z : ZT} {own : String} {cc : ByteArray} {nL : Nat} {ret : Option FieldType} {fr lo : Nat} {ρ : Type} {inj : ρ → Option Value × St} {pc : Nat} {lv : List (Nat × Value)} {st : List Value} {σ : St} (C : Cok x (wxC z) own cc nL ret fr lo) {x1 : Int32} {x2 : Int32} {index : Nat} (hl : Cond.methodLink own index yX10_starts ∈ gtb) (hR : 4 + 1 ≤ fr ∧ 8 + (3 + 11) + 91 ≤ lo) (hW : (st.map fun v => v.category).sum ≤ 8) (hd : decode cc pc = .ok (.invokevirtual index, 3)) {K : (Int32 × St) → Option ρ} (h : ∀ v, Sim x (wxC z) nL inj (K v) (pc + 3) lv (.int v.1 :: st) v.2) : Sim x (wxC z) nL inj ((X10_starts x1 x2 σ).bind K) pc lv (.int x2 :: .int x1 :: .ref (aC z 0) :: st) σ :=
  S_callV C (As := [.int x1, .int x2]) (q := 0) (inj1 := jIS) mw_X10_starts mv_X10_starts hl (fun ro hro => con_X10_starts z (mL x) x1 x2 σ ro hro) hR rfl (show 0 < 59 by decide) rfl (ce_X10 z σ) rfl rfl hW hd h
set_option maxRecDepth 10000 in
theorem WT_X10_judge {x : MX} {z : ZT} (C : Cok x (wxC z) RX10 cX10_judge 3 (some .int) 4 91) (x1 : Int32) (x2 : Int32) (σ : St) : Sim x (wxC z) 3 jIS (X10_judge x1 x2 σ) 0 [(0, .ref (aC z 0)), (1, .int x1), (2, .int x2)] [] σ := by
  rw [X10_judge]
  refine S_aload_n C 0 dX10_judge_0 rfl ?_
  refine G_X10_words C fl_X10_40 dX10_judge_1 ?_
  refine S_iload_n C 1 dX10_judge_4 rfl ?_
  refine K_X9_has C ml_X10_94 (by decide) (Nat.le_of_ble_eq_true rfl) dX10_judge_5 (fun v1 => ?_)
  refine S_if_eq C 28 dX10_judge_8 (by decide) ?_ ?_
  · refine S_iconst C (-1) dX10_judge_28 (by decide) ?_
    exact S_iret C rfl dX10_judge_29
  · refine S_iload_n C 2 dX10_judge_11 rfl ?_
    refine S_if_lt C 28 dX10_judge_12 (by decide) ?_ ?_
    · refine S_iconst C (-1) dX10_judge_28 (by decide) ?_
      exact S_iret C rfl dX10_judge_29
    · refine S_iload_n C 2 dX10_judge_15 rfl ?_
      refine S_iconst C (1) dX10_judge_16 (by decide) ?_
      refine S_aload_n C 0 dX10_judge_17 rfl ?_
      refine G_X10_books C fl_X10_47 dX10_judge_18 ?_
      refine G_X0_places C fl_X10_309 dX10_judge_21 ?_
      refine S_ishl C dX10_judge_24 ?_
      refine S_icmp_lt C 30 dX10_judge_25 (by decide) ?_ ?_
      · refine S_aload_n C 0 dX10_judge_30 rfl ?_
        refine G_X10_origins C fl_X10_65 dX10_judge_31 ?_
        refine S_aload_n C 0 dX10_judge_34 rfl ?_
        refine G_X10_words C fl_X10_40 dX10_judge_35 ?_
        refine G_X9_names C fl_X10_147 dX10_judge_38 ?_
        refine S_iload_n C 1 dX10_judge_41 rfl ?_
        refine L_X9_names C dX10_judge_42 (fun _ => ?_)
        refine K_X4_gather C ml_X10_292 (by decide) (Nat.le_of_ble_eq_true rfl) dX10_judge_43 (fun σ2 => ?_)
        refine S_iload_n C 2 dX10_judge_46 rfl ?_
        refine S_aload_n C 0 dX10_judge_47 rfl ?_
        refine G_X10_origins C fl_X10_65 dX10_judge_48 ?_
        refine G_X4_present C fl_X10_295 dX10_judge_51 ?_
        refine S_iconst C (-1) dX10_judge_54 (by decide) ?_
        refine S_ixor C dX10_judge_55 ?_
        refine S_iand C dX10_judge_56 ?_
        refine S_if_eq C 63 dX10_judge_57 (by decide) ?_ ?_
        · refine S_aload_n C 0 dX10_judge_63 rfl ?_
          refine G_X10_origins C fl_X10_65 dX10_judge_64 ?_
          refine S_aload_n C 0 dX10_judge_67 rfl ?_
          refine G_X10_told C fl_X10_28 dX10_judge_68 (fun h3 => ?_)
          refine G_X5_numbers C h3 fl_X10_126 dX10_judge_71 ?_
          refine S_iconst C (3) dX10_judge_74 (by decide) ?_
          refine Lk_X5_numbers C h3 3 (by decide) dX10_judge_75 ?_
          refine K_X4_spread C ml_X10_298 (by decide) (Nat.le_of_ble_eq_true rfl) dX10_judge_76 (fun σ4 => ?_)
          refine S_aload_n C 0 dX10_judge_79 rfl ?_
          refine G_X10_origins C fl_X10_65 dX10_judge_80 ?_
          refine S_iload_n C 2 dX10_judge_83 rfl ?_
          refine K_X4_letsAllCome C ml_X10_312 (by decide) (Nat.le_of_ble_eq_true rfl) dX10_judge_84 (fun v5 => ?_)
          refine S_if_eq C 94 dX10_judge_87 (by decide) ?_ ?_
          · refine S_iconst C (0) dX10_judge_94 (by decide) ?_
            exact S_iret C rfl dX10_judge_95
          · refine S_iconst C (1) dX10_judge_90 (by decide) ?_
            refine S_goto C 95 dX10_judge_91 (by decide) ?_
            exact S_iret C rfl dX10_judge_95
        · refine S_bipush C (-2) dX10_judge_60 (by decide) ?_
          exact S_iret C rfl dX10_judge_62
      · refine S_iconst C (-1) dX10_judge_28 (by decide) ?_
        exact S_iret C rfl dX10_judge_29
set_option maxRecDepth 10000 in
theorem con_X10_judge (z : ZT) (l : Launch) (x1 : Int32) (x2 : Int32) (σ : St) : ∀ ro, X10_judge x1 x2 σ = some ro → Con (wxC z) l yX10_judge cX10_judge 3 (some .int) 4 91 [.ref (aC z 0), .int x1, .int x2] σ (jIS ro) :=
  fun ro hk => Con_of hk (by decide) (Nat.le_of_ble_eq_true rfl) (fun x hx C => WT_X10_judge C x1 x2 σ)
set_option maxRecDepth 10000 in
theorem K_X10_judge {x : MX} {z : ZT} {own : String} {cc : ByteArray} {nL : Nat} {ret : Option FieldType} {fr lo : Nat} {ρ : Type} {inj : ρ → Option Value × St} {pc : Nat} {lv : List (Nat × Value)} {st : List Value} {σ : St} (C : Cok x (wxC z) own cc nL ret fr lo) {x1 : Int32} {x2 : Int32} {index : Nat} (hl : Cond.methodLink own index yX10_judge ∈ gtb) (hR : 4 + 1 ≤ fr ∧ 8 + (3 + 11) + 91 ≤ lo) (hW : (st.map fun v => v.category).sum ≤ 8) (hd : decode cc pc = .ok (.invokevirtual index, 3)) {K : (Int32 × St) → Option ρ} (h : ∀ v, Sim x (wxC z) nL inj (K v) (pc + 3) lv (.int v.1 :: st) v.2) : Sim x (wxC z) nL inj ((X10_judge x1 x2 σ).bind K) pc lv (.int x2 :: .int x1 :: .ref (aC z 0) :: st) σ :=
  S_callV C (As := [.int x1, .int x2]) (q := 0) (inj1 := jIS) mw_X10_judge mv_X10_judge hl (fun ro hro => con_X10_judge z (mL x) x1 x2 σ ro hro) hR rfl (show 0 < 59 by decide) rfl (ce_X10 z σ) rfl rfl hW hd h
set_option maxRecDepth 10000 in
theorem WT_X10_pace_L31 {x : MX} {z : ZT} (C : Cok x (wxC z) RX10 cX10_pace 3 (some .int) 4 91) : ∀ (n : Nat) (x2 : Int32) (σ : St), Sim x (wxC z) 3 jIS (X10_pace_L31 n x2 σ) 31 [(0, .ref (aC z 0)), (2, .int x2)] [] σ := by
  intro n
  induction n with
  | zero =>
    intros
    exact S_none
  | succ n ih =>
    intro x2 σ
    rw [X10_pace_L31]
    refine S_iload_n C 1 dX10_pace_31 rfl ?_
    refine S_bipush C (20) dX10_pace_32 (by decide) ?_
    refine S_icmp_gt C 63 dX10_pace_34 (by decide) ?_ ?_
    · refine S_bipush C (-4) dX10_pace_63 (by decide) ?_
      exact S_iret C rfl dX10_pace_65
    · refine S_aload_n C 0 dX10_pace_37 rfl ?_
      refine G_X10_origins C fl_X10_65 dX10_pace_38 ?_
      refine S_iload_n C 1 dX10_pace_41 rfl ?_
      refine K_X4_spread C ml_X10_298 (by decide) (Nat.le_of_ble_eq_true rfl) dX10_pace_42 (fun σ3 => ?_)
      refine S_aload_n C 0 dX10_pace_45 rfl ?_
      refine G_X10_origins C fl_X10_65 dX10_pace_46 ?_
      refine K_X4_hasSingleStart C ml_X10_315 (by decide) (Nat.le_of_ble_eq_true rfl) dX10_pace_49 (fun v4 => ?_)
      refine S_if_eq C 57 dX10_pace_52 (by decide) ?_ ?_
      · refine S_iinc C 1 [(2, .int (x2 + 1)), (0, .ref (aC z 0))] (x2 + 1) dX10_pace_57 rfl rfl (by decide) rfl ?_
        refine S_goto C 31 dX10_pace_60 (by decide) ?_
        exact S_sub [1, 0] rfl (ih (x2 + 1) σ3)
      · refine S_iload_n C 1 dX10_pace_55 rfl ?_
        exact S_iret C rfl dX10_pace_56
set_option maxRecDepth 10000 in
theorem WT_X10_pace {x : MX} {z : ZT} (C : Cok x (wxC z) RX10 cX10_pace 3 (some .int) 4 91) (x1 : Int32) (σ : St) : Sim x (wxC z) 3 jIS (X10_pace x1 σ) 0 [(0, .ref (aC z 0)), (1, .int x1)] [] σ := by
  rw [X10_pace]
  refine S_aload_n C 0 dX10_pace_0 rfl ?_
  refine G_X10_words C fl_X10_40 dX10_pace_1 ?_
  refine S_iload_n C 1 dX10_pace_4 rfl ?_
  refine K_X9_has C ml_X10_94 (by decide) (Nat.le_of_ble_eq_true rfl) dX10_pace_5 (fun v1 => ?_)
  refine S_if_ne C 13 dX10_pace_8 (by decide) ?_ ?_
  · refine S_aload_n C 0 dX10_pace_13 rfl ?_
    refine G_X10_origins C fl_X10_65 dX10_pace_14 ?_
    refine S_aload_n C 0 dX10_pace_17 rfl ?_
    refine G_X10_words C fl_X10_40 dX10_pace_18 ?_
    refine G_X9_names C fl_X10_147 dX10_pace_21 ?_
    refine S_iload_n C 1 dX10_pace_24 rfl ?_
    refine L_X9_names C dX10_pace_25 (fun _ => ?_)
    refine K_X4_gather C ml_X10_292 (by decide) (Nat.le_of_ble_eq_true rfl) dX10_pace_26 (fun σ2 => ?_)
    refine S_iconst C (1) dX10_pace_29 (by decide) ?_
    refine S_istore_n C [(2, .int 1), (0, .ref (aC z 0)), (1, .int x1)] (i := 2) dX10_pace_30 rfl (by decide) rfl ?_
    exact S_sub [1, 0] rfl (WT_X10_pace_L31 C FU (1 : Int32) σ2)
  · refine S_iconst C (-1) dX10_pace_11 (by decide) ?_
    exact S_iret C rfl dX10_pace_12
set_option maxRecDepth 10000 in
theorem con_X10_pace (z : ZT) (l : Launch) (x1 : Int32) (σ : St) : ∀ ro, X10_pace x1 σ = some ro → Con (wxC z) l yX10_pace cX10_pace 3 (some .int) 4 91 [.ref (aC z 0), .int x1] σ (jIS ro) :=
  fun ro hk => Con_of hk (by decide) (Nat.le_of_ble_eq_true rfl) (fun x hx C => WT_X10_pace C x1 σ)
set_option maxRecDepth 10000 in
theorem K_X10_pace {x : MX} {z : ZT} {own : String} {cc : ByteArray} {nL : Nat} {ret : Option FieldType} {fr lo : Nat} {ρ : Type} {inj : ρ → Option Value × St} {pc : Nat} {lv : List (Nat × Value)} {st : List Value} {σ : St} (C : Cok x (wxC z) own cc nL ret fr lo) {x1 : Int32} {index : Nat} (hl : Cond.methodLink own index yX10_pace ∈ gtb) (hR : 4 + 1 ≤ fr ∧ 8 + (3 + 11) + 91 ≤ lo) (hW : (st.map fun v => v.category).sum ≤ 8) (hd : decode cc pc = .ok (.invokevirtual index, 3)) {K : (Int32 × St) → Option ρ} (h : ∀ v, Sim x (wxC z) nL inj (K v) (pc + 3) lv (.int v.1 :: st) v.2) : Sim x (wxC z) nL inj ((X10_pace x1 σ).bind K) pc lv (.int x1 :: .ref (aC z 0) :: st) σ :=
  S_callV C (As := [.int x1]) (q := 0) (inj1 := jIS) mw_X10_pace mv_X10_pace hl (fun ro hro => con_X10_pace z (mL x) x1 σ ro hro) hR rfl (show 0 < 59 by decide) rfl (ce_X10 z σ) rfl rfl hW hd h
set_option maxRecDepth 10000 in
theorem WT_X10_dies {x : MX} {z : ZT} (C : Cok x (wxC z) RX10 cX10_dies 3 (some .long) 3 82) (x1 : Int32) (x2 : Int32) (σ : St) : Sim x (wxC z) 3 jLS (X10_dies x1 x2 σ) 0 [(0, .ref (aC z 0)), (1, .int x1), (2, .int x2)] [] σ := by
  rw [X10_dies]
  refine S_iload_n C 1 dX10_dies_0 rfl ?_
  refine S_iconst C (1) dX10_dies_1 (by decide) ?_
  refine S_icmp_lt C 19 dX10_dies_2 (by decide) ?_ ?_
  · refine S_ldc2 C (-1) kl_X10_102 dX10_dies_19 ?_
    exact S_lret C rfl dX10_dies_22
  · refine S_iload_n C 1 dX10_dies_5 rfl ?_
    refine S_iconst C (3) dX10_dies_6 (by decide) ?_
    refine S_icmp_gt C 19 dX10_dies_7 (by decide) ?_ ?_
    · refine S_ldc2 C (-1) kl_X10_102 dX10_dies_19 ?_
      exact S_lret C rfl dX10_dies_22
    · refine S_iload_n C 2 dX10_dies_10 rfl ?_
      refine S_if_lt C 19 dX10_dies_11 (by decide) ?_ ?_
      · refine S_ldc2 C (-1) kl_X10_102 dX10_dies_19 ?_
        exact S_lret C rfl dX10_dies_22
      · refine S_iload_n C 2 dX10_dies_14 rfl ?_
        refine S_iconst C (1) dX10_dies_15 (by decide) ?_
        refine S_icmp_le C 23 dX10_dies_16 (by decide) ?_ ?_
        · refine S_aload_n C 0 dX10_dies_23 rfl ?_
          refine G_X10_extinction C fl_X10_72 dX10_dies_24 ?_
          refine S_aload_n C 0 dX10_dies_27 rfl ?_
          refine G_X10_told C fl_X10_28 dX10_dies_28 (fun h1 => ?_)
          refine S_iload_n C 1 dX10_dies_31 rfl ?_
          refine K_X2_follow C h1 ml_X10_319 (by decide) (Nat.le_of_ble_eq_true rfl) dX10_dies_32 (fun σ2 => ?_)
          refine S_iload_n C 2 dX10_dies_35 rfl ?_
          refine S_if_ne C 49 dX10_dies_36 (by decide) ?_ ?_
          · refine S_aload_n C 0 dX10_dies_49 rfl ?_
            refine G_X10_extinction C fl_X10_72 dX10_dies_50 ?_
            refine G_X2_denominator C fl_X10_326 dX10_dies_53 ?_
            exact S_lret C rfl dX10_dies_56
          · refine S_aload_n C 0 dX10_dies_39 rfl ?_
            refine G_X10_extinction C fl_X10_72 dX10_dies_40 ?_
            refine G_X2_numerator C fl_X10_322 dX10_dies_43 ?_
            refine S_goto C 56 dX10_dies_46 (by decide) ?_
            exact S_lret C rfl dX10_dies_56
        · refine S_ldc2 C (-1) kl_X10_102 dX10_dies_19 ?_
          exact S_lret C rfl dX10_dies_22
set_option maxRecDepth 10000 in
theorem con_X10_dies (z : ZT) (l : Launch) (x1 : Int32) (x2 : Int32) (σ : St) : ∀ ro, X10_dies x1 x2 σ = some ro → Con (wxC z) l yX10_dies cX10_dies 3 (some .long) 3 82 [.ref (aC z 0), .int x1, .int x2] σ (jLS ro) :=
  fun ro hk => Con_of hk (by decide) (Nat.le_of_ble_eq_true rfl) (fun x hx C => WT_X10_dies C x1 x2 σ)
set_option maxRecDepth 10000 in
theorem K_X10_dies {x : MX} {z : ZT} {own : String} {cc : ByteArray} {nL : Nat} {ret : Option FieldType} {fr lo : Nat} {ρ : Type} {inj : ρ → Option Value × St} {pc : Nat} {lv : List (Nat × Value)} {st : List Value} {σ : St} (C : Cok x (wxC z) own cc nL ret fr lo) {x1 : Int32} {x2 : Int32} {index : Nat} (hl : Cond.methodLink own index yX10_dies ∈ gtb) (hR : 3 + 1 ≤ fr ∧ 8 + (3 + 11) + 82 ≤ lo) (hW : (st.map fun v => v.category).sum ≤ 8) (hd : decode cc pc = .ok (.invokevirtual index, 3)) {K : (Int64 × St) → Option ρ} (h : ∀ v, Sim x (wxC z) nL inj (K v) (pc + 3) lv (.long v.1 :: st) v.2) : Sim x (wxC z) nL inj ((X10_dies x1 x2 σ).bind K) pc lv (.int x2 :: .int x1 :: .ref (aC z 0) :: st) σ :=
  S_callV C (As := [.int x1, .int x2]) (q := 0) (inj1 := jLS) mw_X10_dies mv_X10_dies hl (fun ro hro => con_X10_dies z (mL x) x1 x2 σ ro hro) hR rfl (show 0 < 59 by decide) rfl (ce_X10 z σ) rfl rfl hW hd h
set_option maxRecDepth 10000 in
theorem WT_X10_father_B52 {x : MX} {z : ZT} (C : Cok x (wxC z) RX10 cX10_father 4 (some .int) 1 22) (x1 : Int32) (x2 : Int32) (σ : St) : Sim x (wxC z) 4 jIS (X10_father_B52 x1 x2 σ) 52 [(0, .ref (aC z 0)), (1, .int x1), (2, .int x2)] [] σ := by
  rw [X10_father_B52]
  refine S_aload_n C 0 dX10_father_52 rfl ?_
  refine G_X10_lines C fl_X10_56 dX10_father_53 ?_
  refine G_X3_fathers C fl_X10_262 dX10_father_56 ?_
  refine S_iload_n C 1 dX10_father_59 rfl ?_
  refine L_X3_fathers C dX10_father_60 (fun _ => ?_)
  refine S_bndT (fun x3_2 _ => ?_)
  refine S_istore_n C [(3, .int x3_2), (0, .ref (aC z 0)), (1, .int x1), (2, .int x2)] (i := 3) dX10_father_61 rfl (by decide) rfl ?_
  refine S_aload_n C 1 dX10_father_62 rfl ?_
  refine G_X10_lines C fl_X10_56 dX10_father_63 ?_
  refine G_X3_fathers C fl_X10_262 dX10_father_66 ?_
  refine S_iload_n C 2 dX10_father_69 rfl ?_
  refine S_iload_n C 3 dX10_father_70 rfl ?_
  refine T_X3_fathers C dX10_father_71 (fun _ => ?_)
  refine S_bndS (fun σ3 _ => ?_)
  refine S_iload_n C 0 dX10_father_72 rfl ?_
  exact S_iret C rfl dX10_father_73
set_option maxRecDepth 10000 in
theorem WT_X10_father_B31 {x : MX} {z : ZT} (C : Cok x (wxC z) RX10 cX10_father 4 (some .int) 1 22) (x1 : Int32) (x2 : Int32) (σ : St) : Sim x (wxC z) 4 jIS (X10_father_B31 x1 x2 σ) 31 [(0, .ref (aC z 0)), (1, .int x1), (2, .int x2)] [] σ := by
  rw [X10_father_B31]
  refine S_iload_n C 2 dX10_father_31 rfl ?_
  refine S_bipush C (-4) dX10_father_32 (by decide) ?_
  refine S_icmp_eq C 52 dX10_father_34 (by decide) ?_ ?_
  · exact S_sub [0, 1, 2] rfl (WT_X10_father_B52 C x1 x2 σ)
  · refine S_aload_n C 0 dX10_father_37 rfl ?_
    refine G_X10_lines C fl_X10_56 dX10_father_38 ?_
    refine S_iload_n C 1 dX10_father_41 rfl ?_
    refine S_iload_n C 2 dX10_father_42 rfl ?_
    refine K_X3_mayBeFather C ml_X10_329 (by decide) (Nat.le_of_ble_eq_true rfl) dX10_father_43 (fun v4 => ?_)
    refine S_if_ne C 52 dX10_father_46 (by decide) ?_ ?_
    · exact S_sub [0, 1, 2] rfl (WT_X10_father_B52 C x1 x2 σ)
    · refine S_bipush C (-6) dX10_father_49 (by decide) ?_
      exact S_iret C rfl dX10_father_51
set_option maxRecDepth 10000 in
theorem WT_X10_father {x : MX} {z : ZT} (C : Cok x (wxC z) RX10 cX10_father 4 (some .int) 1 22) (x1 : Int32) (x2 : Int32) (σ : St) : Sim x (wxC z) 4 jIS (X10_father x1 x2 σ) 0 [(0, .ref (aC z 0)), (1, .int x1), (2, .int x2)] [] σ := by
  rw [X10_father]
  refine S_aload_n C 0 dX10_father_0 rfl ?_
  refine G_X10_lines C fl_X10_56 dX10_father_1 ?_
  refine S_iload_n C 1 dX10_father_4 rfl ?_
  refine K_X3_has C ml_X10_243 (by decide) (Nat.le_of_ble_eq_true rfl) dX10_father_5 (fun v1 => ?_)
  refine S_if_eq C 28 dX10_father_8 (by decide) ?_ ?_
  · refine S_bipush C (-5) dX10_father_28 (by decide) ?_
    exact S_iret C rfl dX10_father_30
  · refine S_iload_n C 2 dX10_father_11 rfl ?_
    refine S_bipush C (-4) dX10_father_12 (by decide) ?_
    refine S_icmp_eq C 31 dX10_father_14 (by decide) ?_ ?_
    · exact S_sub [0, 1, 2] rfl (WT_X10_father_B31 C x1 x2 σ)
    · refine S_aload_n C 0 dX10_father_17 rfl ?_
      refine G_X10_lines C fl_X10_56 dX10_father_18 ?_
      refine S_iload_n C 2 dX10_father_21 rfl ?_
      refine K_X3_has C ml_X10_243 (by decide) (Nat.le_of_ble_eq_true rfl) dX10_father_22 (fun v5 => ?_)
      refine S_if_ne C 31 dX10_father_25 (by decide) ?_ ?_
      · exact S_sub [0, 1, 2] rfl (WT_X10_father_B31 C x1 x2 σ)
      · refine S_bipush C (-5) dX10_father_28 (by decide) ?_
        exact S_iret C rfl dX10_father_30
set_option maxRecDepth 10000 in
theorem con_X10_father (z : ZT) (l : Launch) (x1 : Int32) (x2 : Int32) (σ : St) : ∀ ro, X10_father x1 x2 σ = some ro → Con (wxC z) l yX10_father cX10_father 4 (some .int) 1 22 [.ref (aC z 0), .int x1, .int x2] σ (jIS ro) :=
  fun ro hk => Con_of hk (by decide) (Nat.le_of_ble_eq_true rfl) (fun x hx C => WT_X10_father C x1 x2 σ)
set_option maxRecDepth 10000 in
theorem K_X10_father {x : MX} {z : ZT} {own : String} {cc : ByteArray} {nL : Nat} {ret : Option FieldType} {fr lo : Nat} {ρ : Type} {inj : ρ → Option Value × St} {pc : Nat} {lv : List (Nat × Value)} {st : List Value} {σ : St} (C : Cok x (wxC z) own cc nL ret fr lo) {x1 : Int32} {x2 : Int32} {index : Nat} (hl : Cond.methodLink own index yX10_father ∈ gtb) (hR : 1 + 1 ≤ fr ∧ 8 + (4 + 11) + 22 ≤ lo) (hW : (st.map fun v => v.category).sum ≤ 8) (hd : decode cc pc = .ok (.invokevirtual index, 3)) {K : (Int32 × St) → Option ρ} (h : ∀ v, Sim x (wxC z) nL inj (K v) (pc + 3) lv (.int v.1 :: st) v.2) : Sim x (wxC z) nL inj ((X10_father x1 x2 σ).bind K) pc lv (.int x2 :: .int x1 :: .ref (aC z 0) :: st) σ :=
  S_callV C (As := [.int x1, .int x2]) (q := 0) (inj1 := jIS) mw_X10_father mv_X10_father hl (fun ro hro => con_X10_father z (mL x) x1 x2 σ ro hro) hR rfl (show 0 < 59 by decide) rfl (ce_X10 z σ) rfl rfl hW hd h
set_option maxRecDepth 10000 in
theorem WT_X10_kin {x : MX} {z : ZT} (C : Cok x (wxC z) RX10 cX10_kin 3 (some .int) 2 49) (x1 : Int32) (x2 : Int32) (σ : St) : Sim x (wxC z) 3 (jI σ) (X10_kin x1 x2 σ) 0 [(0, .ref (aC z 0)), (1, .int x1), (2, .int x2)] [] σ := by
  rw [X10_kin]
  refine S_aload_n C 0 dX10_kin_0 rfl ?_
  refine G_X10_lines C fl_X10_56 dX10_kin_1 ?_
  refine S_iload_n C 1 dX10_kin_4 rfl ?_
  refine K_X3_has C ml_X10_243 (by decide) (Nat.le_of_ble_eq_true rfl) dX10_kin_5 (fun v1 => ?_)
  refine S_if_eq C 34 dX10_kin_8 (by decide) ?_ ?_
  · refine S_iconst C (-1) dX10_kin_34 (by decide) ?_
    exact S_iret C rfl dX10_kin_35
  · refine S_aload_n C 0 dX10_kin_11 rfl ?_
    refine G_X10_lines C fl_X10_56 dX10_kin_12 ?_
    refine S_iload_n C 2 dX10_kin_15 rfl ?_
    refine K_X3_has C ml_X10_243 (by decide) (Nat.le_of_ble_eq_true rfl) dX10_kin_16 (fun v2 => ?_)
    refine S_if_eq C 34 dX10_kin_19 (by decide) ?_ ?_
    · refine S_iconst C (-1) dX10_kin_34 (by decide) ?_
      exact S_iret C rfl dX10_kin_35
    · refine S_aload_n C 0 dX10_kin_22 rfl ?_
      refine G_X10_lines C fl_X10_56 dX10_kin_23 ?_
      refine S_iload_n C 1 dX10_kin_26 rfl ?_
      refine S_iload_n C 2 dX10_kin_27 rfl ?_
      refine K_X3_stepsBetween C ml_X10_332 (by decide) (Nat.le_of_ble_eq_true rfl) dX10_kin_28 (fun v3 => ?_)
      refine S_goto C 35 dX10_kin_31 (by decide) ?_
      exact S_iret C rfl dX10_kin_35
set_option maxRecDepth 10000 in
theorem con_X10_kin (z : ZT) (l : Launch) (x1 : Int32) (x2 : Int32) (σ : St) : ∀ ro, X10_kin x1 x2 σ = some ro → Con (wxC z) l yX10_kin cX10_kin 3 (some .int) 2 49 [.ref (aC z 0), .int x1, .int x2] σ ((jI σ) ro) :=
  fun ro hk => Con_of hk (by decide) (Nat.le_of_ble_eq_true rfl) (fun x hx C => WT_X10_kin C x1 x2 σ)
set_option maxRecDepth 10000 in
theorem K_X10_kin {x : MX} {z : ZT} {own : String} {cc : ByteArray} {nL : Nat} {ret : Option FieldType} {fr lo : Nat} {ρ : Type} {inj : ρ → Option Value × St} {pc : Nat} {lv : List (Nat × Value)} {st : List Value} {σ : St} (C : Cok x (wxC z) own cc nL ret fr lo) {x1 : Int32} {x2 : Int32} {index : Nat} (hl : Cond.methodLink own index yX10_kin ∈ gtb) (hR : 2 + 1 ≤ fr ∧ 8 + (3 + 11) + 49 ≤ lo) (hW : (st.map fun v => v.category).sum ≤ 8) (hd : decode cc pc = .ok (.invokevirtual index, 3)) {K : Int32 → Option ρ} (h : ∀ v, Sim x (wxC z) nL inj (K v) (pc + 3) lv (.int v :: st) σ) : Sim x (wxC z) nL inj ((X10_kin x1 x2 σ).bind K) pc lv (.int x2 :: .int x1 :: .ref (aC z 0) :: st) σ :=
  S_callV C (As := [.int x1, .int x2]) (q := 0) (inj1 := (jI σ)) mw_X10_kin mv_X10_kin hl (fun ro hro => con_X10_kin z (mL x) x1 x2 σ ro hro) hR rfl (show 0 < 59 by decide) rfl (ce_X10 z σ) rfl rfl hW hd h
set_option maxRecDepth 10000 in
theorem WT_X10_related_B48 {x : MX} {z : ZT} (C : Cok x (wxC z) RX10 cX10_related 5 (some .int) 2 49) (σ : St) (x1 : Int32) (x2 : Int32) (s0 : Int32) : Sim x (wxC z) 5 (jI σ) (X10_related_B48 σ x1 x2 s0) 48 [(0, .ref (aC z 0)), (1, .int x1), (2, .int x2)] [.int s0] σ := by
  rw [X10_related_B48]
  refine S_istore_n C [(3, .int s0), (0, .ref (aC z 0)), (1, .int x1), (2, .int x2)] (i := 3) dX10_related_48 rfl (by decide) rfl ?_
  refine S_aload_n C 1 dX10_related_49 rfl ?_
  refine G_X10_lines C fl_X10_56 dX10_related_50 ?_
  refine S_iload_n C 2 dX10_related_53 rfl ?_
  refine S_iload_n C 3 dX10_related_54 rfl ?_
  refine K_X3_stepsBetween C ml_X10_332 (by decide) (Nat.le_of_ble_eq_true rfl) dX10_related_55 (fun v5 => ?_)
  refine S_bipush C (-4) dX10_related_58 (by decide) ?_
  refine S_icmp_eq C 67 dX10_related_60 (by decide) ?_ ?_
  · refine S_iconst C (0) dX10_related_67 (by decide) ?_
    refine S_istore C [(4, .int 0), (3, .int s0), (0, .ref (aC z 0)), (1, .int x1), (2, .int x2)] dX10_related_68 (by decide) rfl ?_
    refine S_iload_n C 1 dX10_related_70 rfl ?_
    refine S_iload C 0 dX10_related_71 rfl ?_
    refine S_iadd C dX10_related_73 ?_
    exact S_iret C rfl dX10_related_74
  · refine S_iconst C (2) dX10_related_63 (by decide) ?_
    refine S_goto C 68 dX10_related_64 (by decide) ?_
    refine S_istore C [(4, .int 2), (3, .int s0), (0, .ref (aC z 0)), (1, .int x1), (2, .int x2)] dX10_related_68 (by decide) rfl ?_
    refine S_iload_n C 1 dX10_related_70 rfl ?_
    refine S_iload C 0 dX10_related_71 rfl ?_
    refine S_iadd C dX10_related_73 ?_
    exact S_iret C rfl dX10_related_74
set_option maxRecDepth 10000 in
theorem WT_X10_related {x : MX} {z : ZT} (C : Cok x (wxC z) RX10 cX10_related 5 (some .int) 2 49) (x1 : Int32) (x2 : Int32) (σ : St) : Sim x (wxC z) 5 (jI σ) (X10_related x1 x2 σ) 0 [(0, .ref (aC z 0)), (1, .int x1), (2, .int x2)] [] σ := by
  rw [X10_related]
  refine S_aload_n C 0 dX10_related_0 rfl ?_
  refine G_X10_lines C fl_X10_56 dX10_related_1 ?_
  refine S_iload_n C 1 dX10_related_4 rfl ?_
  refine K_X3_has C ml_X10_243 (by decide) (Nat.le_of_ble_eq_true rfl) dX10_related_5 (fun v1 => ?_)
  refine S_if_eq C 22 dX10_related_8 (by decide) ?_ ?_
  · refine S_iconst C (-1) dX10_related_22 (by decide) ?_
    exact S_iret C rfl dX10_related_23
  · refine S_aload_n C 0 dX10_related_11 rfl ?_
    refine G_X10_lines C fl_X10_56 dX10_related_12 ?_
    refine S_iload_n C 2 dX10_related_15 rfl ?_
    refine K_X3_has C ml_X10_243 (by decide) (Nat.le_of_ble_eq_true rfl) dX10_related_16 (fun v2 => ?_)
    refine S_if_ne C 24 dX10_related_19 (by decide) ?_ ?_
    · refine S_aload_n C 0 dX10_related_24 rfl ?_
      refine G_X10_lines C fl_X10_56 dX10_related_25 ?_
      refine S_iload_n C 1 dX10_related_28 rfl ?_
      refine K_X3_nameOfLine C ml_X10_259 (by decide) (Nat.le_of_ble_eq_true rfl) dX10_related_29 (fun v3 => ?_)
      refine S_aload_n C 0 dX10_related_32 rfl ?_
      refine G_X10_lines C fl_X10_56 dX10_related_33 ?_
      refine S_iload_n C 2 dX10_related_36 rfl ?_
      refine K_X3_nameOfLine C ml_X10_259 (by decide) (Nat.le_of_ble_eq_true rfl) dX10_related_37 (fun v4 => ?_)
      refine S_icmp_ne C 47 dX10_related_40 (by decide) ?_ ?_
      · refine S_iconst C (0) dX10_related_47 (by decide) ?_
        exact S_sub [0, 1, 2] rfl (WT_X10_related_B48 C σ x1 x2 (0 : Int32))
      · refine S_iconst C (1) dX10_related_43 (by decide) ?_
        refine S_goto C 48 dX10_related_44 (by decide) ?_
        exact S_sub [0, 1, 2] rfl (WT_X10_related_B48 C σ x1 x2 (1 : Int32))
    · refine S_iconst C (-1) dX10_related_22 (by decide) ?_
      exact S_iret C rfl dX10_related_23
set_option maxRecDepth 10000 in
theorem con_X10_related (z : ZT) (l : Launch) (x1 : Int32) (x2 : Int32) (σ : St) : ∀ ro, X10_related x1 x2 σ = some ro → Con (wxC z) l yX10_related cX10_related 5 (some .int) 2 49 [.ref (aC z 0), .int x1, .int x2] σ ((jI σ) ro) :=
  fun ro hk => Con_of hk (by decide) (Nat.le_of_ble_eq_true rfl) (fun x hx C => WT_X10_related C x1 x2 σ)
set_option maxRecDepth 10000 in
theorem K_X10_related {x : MX} {z : ZT} {own : String} {cc : ByteArray} {nL : Nat} {ret : Option FieldType} {fr lo : Nat} {ρ : Type} {inj : ρ → Option Value × St} {pc : Nat} {lv : List (Nat × Value)} {st : List Value} {σ : St} (C : Cok x (wxC z) own cc nL ret fr lo) {x1 : Int32} {x2 : Int32} {index : Nat} (hl : Cond.methodLink own index yX10_related ∈ gtb) (hR : 2 + 1 ≤ fr ∧ 8 + (5 + 11) + 49 ≤ lo) (hW : (st.map fun v => v.category).sum ≤ 8) (hd : decode cc pc = .ok (.invokevirtual index, 3)) {K : Int32 → Option ρ} (h : ∀ v, Sim x (wxC z) nL inj (K v) (pc + 3) lv (.int v :: st) σ) : Sim x (wxC z) nL inj ((X10_related x1 x2 σ).bind K) pc lv (.int x2 :: .int x1 :: .ref (aC z 0) :: st) σ :=
  S_callV C (As := [.int x1, .int x2]) (q := 0) (inj1 := (jI σ)) mw_X10_related mv_X10_related hl (fun ro hro => con_X10_related z (mL x) x1 x2 σ ro hro) hR rfl (show 0 < 59 by decide) rfl (ce_X10 z σ) rfl rfl hW hd h
set_option maxRecDepth 10000 in
theorem WT_X10_issue {x : MX} {z : ZT} (C : Cok x (wxC z) RX10 cX10_issue 3 (some .int) 2 47) (x1 : Int32) (x2 : Int32) (σ : St) : Sim x (wxC z) 3 (jI σ) (X10_issue x1 x2 σ) 0 [(0, .ref (aC z 0)), (1, .int x1), (2, .int x2)] [] σ := by
  rw [X10_issue]
  refine S_aload_n C 0 dX10_issue_0 rfl ?_
  refine G_X10_lines C fl_X10_56 dX10_issue_1 ?_
  refine S_iload_n C 1 dX10_issue_4 rfl ?_
  refine K_X3_has C ml_X10_243 (by decide) (Nat.le_of_ble_eq_true rfl) dX10_issue_5 (fun v1 => ?_)
  refine S_if_ne C 13 dX10_issue_8 (by decide) ?_ ?_
  · refine S_iload_n C 2 dX10_issue_13 rfl ?_
    refine S_tsw C _ [40, 49, 58] 67 dX10_issue_14 rfl (Nat.le_of_ble_eq_true rfl) (by decide) (by decide) (Sims_cons ?_ (Sims_cons ?_ (Sims_cons ?_ Sims_nil))) ?_
    · refine S_aload_n C 0 dX10_issue_40 rfl ?_
      refine G_X10_lines C fl_X10_56 dX10_issue_41 ?_
      refine S_iload_n C 1 dX10_issue_44 rfl ?_
      refine K_X3_descendants C ml_X10_335 (by decide) (Nat.le_of_ble_eq_true rfl) dX10_issue_45 (fun v2 => ?_)
      exact S_iret C rfl dX10_issue_48
    · refine S_aload_n C 0 dX10_issue_49 rfl ?_
      refine G_X10_lines C fl_X10_56 dX10_issue_50 ?_
      refine S_iload_n C 1 dX10_issue_53 rfl ?_
      refine K_X3_renamedDescendants C ml_X10_338 (by decide) (Nat.le_of_ble_eq_true rfl) dX10_issue_54 (fun v3 => ?_)
      exact S_iret C rfl dX10_issue_57
    · refine S_aload_n C 0 dX10_issue_58 rfl ?_
      refine G_X10_lines C fl_X10_56 dX10_issue_59 ?_
      refine S_iload_n C 1 dX10_issue_62 rfl ?_
      refine K_X3_longestDescent C ml_X10_341 (by decide) (Nat.le_of_ble_eq_true rfl) dX10_issue_63 (fun v4 => ?_)
      exact S_iret C rfl dX10_issue_66
    · refine S_iconst C (-1) dX10_issue_67 (by decide) ?_
      exact S_iret C rfl dX10_issue_68
  · refine S_iconst C (-1) dX10_issue_11 (by decide) ?_
    exact S_iret C rfl dX10_issue_12
set_option maxRecDepth 10000 in
theorem con_X10_issue (z : ZT) (l : Launch) (x1 : Int32) (x2 : Int32) (σ : St) : ∀ ro, X10_issue x1 x2 σ = some ro → Con (wxC z) l yX10_issue cX10_issue 3 (some .int) 2 47 [.ref (aC z 0), .int x1, .int x2] σ ((jI σ) ro) :=
  fun ro hk => Con_of hk (by decide) (Nat.le_of_ble_eq_true rfl) (fun x hx C => WT_X10_issue C x1 x2 σ)
set_option maxRecDepth 10000 in
theorem K_X10_issue {x : MX} {z : ZT} {own : String} {cc : ByteArray} {nL : Nat} {ret : Option FieldType} {fr lo : Nat} {ρ : Type} {inj : ρ → Option Value × St} {pc : Nat} {lv : List (Nat × Value)} {st : List Value} {σ : St} (C : Cok x (wxC z) own cc nL ret fr lo) {x1 : Int32} {x2 : Int32} {index : Nat} (hl : Cond.methodLink own index yX10_issue ∈ gtb) (hR : 2 + 1 ≤ fr ∧ 8 + (3 + 11) + 47 ≤ lo) (hW : (st.map fun v => v.category).sum ≤ 8) (hd : decode cc pc = .ok (.invokevirtual index, 3)) {K : Int32 → Option ρ} (h : ∀ v, Sim x (wxC z) nL inj (K v) (pc + 3) lv (.int v :: st) σ) : Sim x (wxC z) nL inj ((X10_issue x1 x2 σ).bind K) pc lv (.int x2 :: .int x1 :: .ref (aC z 0) :: st) σ :=
  S_callV C (As := [.int x1, .int x2]) (q := 0) (inj1 := (jI σ)) mw_X10_issue mv_X10_issue hl (fun ro hro => con_X10_issue z (mL x) x1 x2 σ ro hro) hR rfl (show 0 < 59 by decide) rfl (ce_X10 z σ) rfl rfl hW hd h
set_option maxRecDepth 10000 in
theorem WT_X10_isSheet {x : MX} {z : ZT} (C : Cok x (wxC z) RX10 cX10_isSheet 1 (some .boolean) 0 0) (x0 : Int32) (σ : St) : Sim x (wxC z) 1 (jI σ) (X10_isSheet x0 σ) 0 [(0, .int x0)] [] σ := by
  rw [X10_isSheet]
  refine S_iload_n C 0 dX10_isSheet_0 rfl ?_
  refine S_if_lt C 13 dX10_isSheet_1 (by decide) ?_ ?_
  · refine S_iconst C (0) dX10_isSheet_13 (by decide) ?_
    exact S_zret C rfl rfl dX10_isSheet_14
  · refine S_iload_n C 0 dX10_isSheet_4 rfl ?_
    refine S_iconst C (4) dX10_isSheet_5 (by decide) ?_
    refine S_icmp_ge C 13 dX10_isSheet_6 (by decide) ?_ ?_
    · refine S_iconst C (0) dX10_isSheet_13 (by decide) ?_
      exact S_zret C rfl rfl dX10_isSheet_14
    · refine S_iconst C (1) dX10_isSheet_9 (by decide) ?_
      refine S_goto C 14 dX10_isSheet_10 (by decide) ?_
      exact S_zret C rfl rfl dX10_isSheet_14
set_option maxRecDepth 10000 in
theorem con_X10_isSheet (z : ZT) (l : Launch) (x0 : Int32) (σ : St) : ∀ ro, X10_isSheet x0 σ = some ro → Con (wxC z) l yX10_isSheet cX10_isSheet 1 (some .boolean) 0 0 [.int x0] σ ((jI σ) ro) :=
  fun ro hk => Con_of hk (by decide) (Nat.le_of_ble_eq_true rfl) (fun x hx C => WT_X10_isSheet C x0 σ)
set_option maxRecDepth 10000 in
theorem K_X10_isSheet {x : MX} {z : ZT} {own : String} {cc : ByteArray} {nL : Nat} {ret : Option FieldType} {fr lo : Nat} {ρ : Type} {inj : ρ → Option Value × St} {pc : Nat} {lv : List (Nat × Value)} {st : List Value} {σ : St} (C : Cok x (wxC z) own cc nL ret fr lo) {x0 : Int32} {index : Nat} (hl : Cond.methodLink own index yX10_isSheet ∈ gtb) (hR : 0 + 1 ≤ fr ∧ 8 + (1 + 11) + 0 ≤ lo) (hW : (st.map fun v => v.category).sum ≤ 8) (hd : decode cc pc = .ok (.invokestatic index, 3)) {K : Int32 → Option ρ} (h : ∀ v, Sim x (wxC z) nL inj (K v) (pc + 3) lv (.int v :: st) σ) : Sim x (wxC z) nL inj ((X10_isSheet x0 σ).bind K) pc lv (.int x0 :: st) σ :=
  S_callS C (As := [.int x0]) (inj1 := (jI σ)) mw_X10_isSheet ms_X10_isSheet hl (fun ro hro => con_X10_isSheet z (mL x) x0 σ ro hro) hR rfl rfl hW hd h
set_option maxRecDepth 10000 in
theorem WT_X10_sheet {x : MX} {z : ZT} (C : Cok x (wxC z) RX10 cX10_sheet 4 (some .int) 2 45) (x1 : Int32) (x2 : Int32) (x3 : Int32) (σ : St) : Sim x (wxC z) 4 jIS (X10_sheet x1 x2 x3 σ) 0 [(0, .ref (aC z 0)), (1, .int x1), (2, .int x2), (3, .int x3)] [] σ := by
  rw [X10_sheet]
  refine S_iload_n C 1 dX10_sheet_0 rfl ?_
  refine K_X10_isSheet C ml_X10_344 (by decide) (Nat.le_of_ble_eq_true rfl) dX10_sheet_1 (fun v1 => ?_)
  refine S_if_eq C 20 dX10_sheet_4 (by decide) ?_ ?_
  · refine S_iconst C (-1) dX10_sheet_20 (by decide) ?_
    exact S_iret C rfl dX10_sheet_21
  · refine S_iload_n C 2 dX10_sheet_7 rfl ?_
    refine K_X6_isLane C ml_X10_347 (by decide) (Nat.le_of_ble_eq_true rfl) dX10_sheet_8 (fun v2 => ?_)
    refine S_if_eq C 20 dX10_sheet_11 (by decide) ?_ ?_
    · refine S_iconst C (-1) dX10_sheet_20 (by decide) ?_
      exact S_iret C rfl dX10_sheet_21
    · refine S_iload_n C 3 dX10_sheet_14 rfl ?_
      refine S_bipush C (64) dX10_sheet_15 (by decide) ?_
      refine S_icmp_le C 22 dX10_sheet_17 (by decide) ?_ ?_
      · refine S_iload_n C 3 dX10_sheet_22 rfl ?_
        refine S_if_ge C 29 dX10_sheet_23 (by decide) ?_ ?_
        · refine S_aload_n C 0 dX10_sheet_29 rfl ?_
          refine G_X10_rows C fl_X10_78 dX10_sheet_30 ?_
          refine S_iload_n C 1 dX10_sheet_33 rfl ?_
          refine L_X10_rows C dX10_sheet_34 (fun h3 => ?_)
          refine S_iload_n C 2 dX10_sheet_35 rfl ?_
          refine S_iload_n C 3 dX10_sheet_36 rfl ?_
          refine K_X6_renew C h3 ml_X10_350 (by decide) (Nat.le_of_ble_eq_true rfl) dX10_sheet_37 (fun σ4 => ?_)
          refine S_iconst C (1) dX10_sheet_40 (by decide) ?_
          exact S_iret C rfl dX10_sheet_41
        · refine S_bipush C (-14) dX10_sheet_26 (by decide) ?_
          exact S_iret C rfl dX10_sheet_28
      · refine S_iconst C (-1) dX10_sheet_20 (by decide) ?_
        exact S_iret C rfl dX10_sheet_21
set_option maxRecDepth 10000 in
theorem con_X10_sheet (z : ZT) (l : Launch) (x1 : Int32) (x2 : Int32) (x3 : Int32) (σ : St) : ∀ ro, X10_sheet x1 x2 x3 σ = some ro → Con (wxC z) l yX10_sheet cX10_sheet 4 (some .int) 2 45 [.ref (aC z 0), .int x1, .int x2, .int x3] σ (jIS ro) :=
  fun ro hk => Con_of hk (by decide) (Nat.le_of_ble_eq_true rfl) (fun x hx C => WT_X10_sheet C x1 x2 x3 σ)
set_option maxRecDepth 10000 in
theorem K_X10_sheet {x : MX} {z : ZT} {own : String} {cc : ByteArray} {nL : Nat} {ret : Option FieldType} {fr lo : Nat} {ρ : Type} {inj : ρ → Option Value × St} {pc : Nat} {lv : List (Nat × Value)} {st : List Value} {σ : St} (C : Cok x (wxC z) own cc nL ret fr lo) {x1 : Int32} {x2 : Int32} {x3 : Int32} {index : Nat} (hl : Cond.methodLink own index yX10_sheet ∈ gtb) (hR : 2 + 1 ≤ fr ∧ 8 + (4 + 11) + 45 ≤ lo) (hW : (st.map fun v => v.category).sum ≤ 8) (hd : decode cc pc = .ok (.invokevirtual index, 3)) {K : (Int32 × St) → Option ρ} (h : ∀ v, Sim x (wxC z) nL inj (K v) (pc + 3) lv (.int v.1 :: st) v.2) : Sim x (wxC z) nL inj ((X10_sheet x1 x2 x3 σ).bind K) pc lv (.int x3 :: .int x2 :: .int x1 :: .ref (aC z 0) :: st) σ :=
  S_callV C (As := [.int x1, .int x2, .int x3]) (q := 0) (inj1 := jIS) mw_X10_sheet mv_X10_sheet hl (fun ro hro => con_X10_sheet z (mL x) x1 x2 x3 σ ro hro) hR rfl (show 0 < 59 by decide) rfl (ce_X10 z σ) rfl rfl hW hd h
set_option maxRecDepth 10000 in
theorem WT_X10_lay {x : MX} {z : ZT} (C : Cok x (wxC z) RX10 cX10_lay 5 (some .int) 1 22) (x1 : Int32) (x2 : Int32) (x3 : Int32) (σ : St) : Sim x (wxC z) 5 jIS (X10_lay x1 x2 x3 σ) 0 [(0, .ref (aC z 0)), (1, .int x1), (2, .int x2), (3, .int x3)] [] σ := by
  rw [X10_lay]
  refine S_iload_n C 1 dX10_lay_0 rfl ?_
  refine K_X10_isSheet C ml_X10_344 (by decide) (Nat.le_of_ble_eq_true rfl) dX10_lay_1 (fun v1 => ?_)
  refine S_if_ne C 9 dX10_lay_4 (by decide) ?_ ?_
  · refine S_aload_n C 0 dX10_lay_9 rfl ?_
    refine G_X10_rows C fl_X10_78 dX10_lay_10 ?_
    refine S_iload_n C 1 dX10_lay_13 rfl ?_
    refine L_X10_rows C dX10_lay_14 (fun h2 => ?_)
    refine S_aload_n C 0 dX10_lay_15 rfl ?_
    refine G_X10_rows C fl_X10_78 dX10_lay_16 ?_
    refine S_iload_n C 1 dX10_lay_19 rfl ?_
    refine L_X10_rows C dX10_lay_20 (fun h3 => ?_)
    refine G_X6_lane C h3 fl_X10_354 dX10_lay_21 ?_
    refine S_iload_n C 2 dX10_lay_24 rfl ?_
    refine K_X6_faultAt C h2 ml_X10_357 (by decide) (Nat.le_of_ble_eq_true rfl) dX10_lay_25 (fun v4 => ?_)
    refine S_istore C [(4, .int v4), (0, .ref (aC z 0)), (1, .int x1), (2, .int x2), (3, .int x3)] dX10_lay_28 (by decide) rfl ?_
    refine S_iload C 0 dX10_lay_30 rfl ?_
    refine S_if_eq C 41 dX10_lay_32 (by decide) ?_ ?_
    · refine S_aload_n C 1 dX10_lay_41 rfl ?_
      refine G_X10_rows C fl_X10_78 dX10_lay_42 ?_
      refine S_iload_n C 2 dX10_lay_45 rfl ?_
      refine L_X10_rows C dX10_lay_46 (fun h5 => ?_)
      refine S_iload_n C 3 dX10_lay_47 rfl ?_
      refine S_iload_n C 4 dX10_lay_48 rfl ?_
      refine K_X6_put C h5 ml_X10_360 (by decide) (Nat.le_of_ble_eq_true rfl) dX10_lay_49 (fun σ6 => ?_)
      refine S_iconst C (1) dX10_lay_52 (by decide) ?_
      exact S_iret C rfl dX10_lay_53
    · refine S_bipush C (-10) dX10_lay_35 (by decide) ?_
      refine S_iload C 0 dX10_lay_37 rfl ?_
      refine S_isub C dX10_lay_39 ?_
      exact S_iret C rfl dX10_lay_40
  · refine S_iconst C (-1) dX10_lay_7 (by decide) ?_
    exact S_iret C rfl dX10_lay_8
set_option maxRecDepth 10000 in
theorem con_X10_lay (z : ZT) (l : Launch) (x1 : Int32) (x2 : Int32) (x3 : Int32) (σ : St) : ∀ ro, X10_lay x1 x2 x3 σ = some ro → Con (wxC z) l yX10_lay cX10_lay 5 (some .int) 1 22 [.ref (aC z 0), .int x1, .int x2, .int x3] σ (jIS ro) :=
  fun ro hk => Con_of hk (by decide) (Nat.le_of_ble_eq_true rfl) (fun x hx C => WT_X10_lay C x1 x2 x3 σ)
set_option maxRecDepth 10000 in
theorem K_X10_lay {x : MX} {z : ZT} {own : String} {cc : ByteArray} {nL : Nat} {ret : Option FieldType} {fr lo : Nat} {ρ : Type} {inj : ρ → Option Value × St} {pc : Nat} {lv : List (Nat × Value)} {st : List Value} {σ : St} (C : Cok x (wxC z) own cc nL ret fr lo) {x1 : Int32} {x2 : Int32} {x3 : Int32} {index : Nat} (hl : Cond.methodLink own index yX10_lay ∈ gtb) (hR : 1 + 1 ≤ fr ∧ 8 + (5 + 11) + 22 ≤ lo) (hW : (st.map fun v => v.category).sum ≤ 8) (hd : decode cc pc = .ok (.invokevirtual index, 3)) {K : (Int32 × St) → Option ρ} (h : ∀ v, Sim x (wxC z) nL inj (K v) (pc + 3) lv (.int v.1 :: st) v.2) : Sim x (wxC z) nL inj ((X10_lay x1 x2 x3 σ).bind K) pc lv (.int x3 :: .int x2 :: .int x1 :: .ref (aC z 0) :: st) σ :=
  S_callV C (As := [.int x1, .int x2, .int x3]) (q := 0) (inj1 := jIS) mw_X10_lay mv_X10_lay hl (fun ro hro => con_X10_lay z (mL x) x1 x2 x3 σ ro hro) hR rfl (show 0 < 59 by decide) rfl (ce_X10 z σ) rfl rfl hW hd h
set_option maxRecDepth 10000 in
theorem WT_X10_isFilled {x : MX} {z : ZT} (C : Cok x (wxC z) RX10 cX10_isFilled 4 (some .boolean) 1 22) (x1 : Int32) (t2 : Nat) (x3 : Int32) (σ : St) (ht2 : t2 < 4) : Sim x (wxC z) 4 (jI σ) (X10_isFilled x1 t2 x3 σ) 0 [(0, .ref (aC z 0)), (1, .int x1), (2, .ref (aC z (51 + t2))), (3, .int x3)] [] σ := by
  rw [X10_isFilled]
  refine S_aload_n C 0 dX10_isFilled_0 rfl ?_
  refine G_X10_books C fl_X10_47 dX10_isFilled_1 ?_
  refine S_iload_n C 1 dX10_isFilled_4 rfl ?_
  refine S_aload_n C 0 dX10_isFilled_5 rfl ?_
  refine G_X10_books C fl_X10_47 dX10_isFilled_6 ?_
  refine G_X0_from C fl_X10_215 dX10_isFilled_9 ?_
  refine S_iload_n C 1 dX10_isFilled_12 rfl ?_
  refine L_X0_from C dX10_isFilled_13 (fun _ => ?_)
  refine S_iload_n C 3 dX10_isFilled_14 rfl ?_
  refine S_iadd C dX10_isFilled_15 ?_
  refine K_X0_isHole C ml_X10_205 (by decide) (Nat.le_of_ble_eq_true rfl) dX10_isFilled_16 (fun v1 => ?_)
  refine S_if_ne C 41 dX10_isFilled_19 (by decide) ?_ ?_
  · refine S_iconst C (0) dX10_isFilled_41 (by decide) ?_
    exact S_zret C rfl rfl dX10_isFilled_42
  · refine S_aload_n C 0 dX10_isFilled_22 rfl ?_
    refine G_X10_words C fl_X10_40 dX10_isFilled_23 ?_
    refine S_aload_n C 2 dX10_isFilled_26 rfl ?_
    refine S_iload_n C 3 dX10_isFilled_27 rfl ?_
    refine K_X6_cellAt C ht2 ml_X10_395 (by decide) (Nat.le_of_ble_eq_true rfl) dX10_isFilled_28 (fun v2 => ?_)
    refine K_X9_has C ml_X10_94 (by decide) (Nat.le_of_ble_eq_true rfl) dX10_isFilled_31 (fun v3 => ?_)
    refine S_if_eq C 41 dX10_isFilled_34 (by decide) ?_ ?_
    · refine S_iconst C (0) dX10_isFilled_41 (by decide) ?_
      exact S_zret C rfl rfl dX10_isFilled_42
    · refine S_iconst C (1) dX10_isFilled_37 (by decide) ?_
      refine S_goto C 42 dX10_isFilled_38 (by decide) ?_
      exact S_zret C rfl rfl dX10_isFilled_42
set_option maxRecDepth 10000 in
theorem con_X10_isFilled (z : ZT) (l : Launch) (x1 : Int32) (t2 : Nat) (x3 : Int32) (σ : St) (ht2 : t2 < 4) : ∀ ro, X10_isFilled x1 t2 x3 σ = some ro → Con (wxC z) l yX10_isFilled cX10_isFilled 4 (some .boolean) 1 22 [.ref (aC z 0), .int x1, .ref (aC z (51 + t2)), .int x3] σ ((jI σ) ro) :=
  fun ro hk => Con_of hk (by decide) (Nat.le_of_ble_eq_true rfl) (fun x hx C => WT_X10_isFilled C x1 t2 x3 σ ht2)
set_option maxRecDepth 10000 in
theorem K_X10_isFilled {x : MX} {z : ZT} {own : String} {cc : ByteArray} {nL : Nat} {ret : Option FieldType} {fr lo : Nat} {ρ : Type} {inj : ρ → Option Value × St} {pc : Nat} {lv : List (Nat × Value)} {st : List Value} {σ : St} (C : Cok x (wxC z) own cc nL ret fr lo) {x1 : Int32} {t2 : Nat} {x3 : Int32} (ht2 : t2 < 4) {index : Nat} (hl : Cond.methodLink own index yX10_isFilled ∈ gtb) (hR : 1 + 1 ≤ fr ∧ 8 + (4 + 11) + 22 ≤ lo) (hW : (st.map fun v => v.category).sum ≤ 8) (hd : decode cc pc = .ok (.invokevirtual index, 3)) {K : Int32 → Option ρ} (h : ∀ v, Sim x (wxC z) nL inj (K v) (pc + 3) lv (.int v :: st) σ) : Sim x (wxC z) nL inj ((X10_isFilled x1 t2 x3 σ).bind K) pc lv (.int x3 :: .ref (aC z (51 + t2)) :: .int x1 :: .ref (aC z 0) :: st) σ :=
  S_callV C (As := [.int x1, .ref (aC z (51 + t2)), .int x3]) (q := 0) (inj1 := (jI σ)) mw_X10_isFilled mv_X10_isFilled hl (fun ro hro => con_X10_isFilled z (mL x) x1 t2 x3 σ ht2 ro hro) hR rfl (show 0 < 59 by decide) rfl (ce_X10 z σ) rfl rfl hW hd h
set_option maxRecDepth 10000 in
theorem WT_X10_copyYears_L3 {x : MX} {z : ZT} (C : Cok x (wxC z) RX10 cX10_copyYears 5 none 2 45) (t2 : Nat) (ht2 : t2 < 4) : ∀ (n : Nat) (x1 : Int32) (x3 : Int32) (x4 : Int32) (σ : St), Sim x (wxC z) 5 jV (X10_copyYears_L3 t2 n x1 x3 x4 σ) 3 [(0, .ref (aC z 0)), (1, .int x1), (2, .ref (aC z (51 + t2))), (3, .int x3), (4, .int x4)] [] σ := by
  intro n
  induction n with
  | zero =>
    intros
    exact S_none
  | succ n ih =>
    intro x1 x3 x4 σ
    rw [X10_copyYears_L3]
    refine S_iload C 4 dX10_copyYears_3 rfl ?_
    refine S_iload_n C 3 dX10_copyYears_5 rfl ?_
    refine S_icmp_ge C 58 dX10_copyYears_6 (by decide) ?_ ?_
    · exact S_vret C rfl dX10_copyYears_58
    · refine S_aload_n C 0 dX10_copyYears_9 rfl ?_
      refine S_iload_n C 1 dX10_copyYears_10 rfl ?_
      refine S_aload_n C 2 dX10_copyYears_11 rfl ?_
      refine S_iload C 4 dX10_copyYears_12 rfl ?_
      refine K_X10_isFilled C ht2 ml_X10_398 (by decide) (Nat.le_of_ble_eq_true rfl) dX10_copyYears_14 (fun v1 => ?_)
      refine S_if_eq C 52 dX10_copyYears_17 (by decide) ?_ ?_
      · refine S_iinc C 4 [(4, .int (x4 + 1)), (0, .ref (aC z 0)), (1, .int x1), (2, .ref (aC z (51 + t2))), (3, .int x3)] (x4 + 1) dX10_copyYears_52 rfl rfl (by decide) rfl ?_
        refine S_goto C 3 dX10_copyYears_55 (by decide) ?_
        exact S_sub [1, 2, 3, 4, 0] rfl (ih x1 x3 (x4 + 1) σ)
      · refine S_aload_n C 0 dX10_copyYears_20 rfl ?_
        refine G_X10_lines C fl_X10_56 dX10_copyYears_21 ?_
        refine S_iload_n C 1 dX10_copyYears_24 rfl ?_
        refine S_aload_n C 0 dX10_copyYears_25 rfl ?_
        refine G_X10_books C fl_X10_47 dX10_copyYears_26 ?_
        refine G_X0_from C fl_X10_215 dX10_copyYears_29 ?_
        refine S_iload_n C 1 dX10_copyYears_32 rfl ?_
        refine L_X0_from C dX10_copyYears_33 (fun _ => ?_)
        refine S_iload C 4 dX10_copyYears_34 rfl ?_
        refine S_iadd C dX10_copyYears_36 ?_
        refine S_aload_n C 2 dX10_copyYears_37 rfl ?_
        refine S_iload C 4 dX10_copyYears_38 rfl ?_
        refine K_X6_cellAt C ht2 ml_X10_395 (by decide) (Nat.le_of_ble_eq_true rfl) dX10_copyYears_40 (fun v2 => ?_)
        refine S_iconst C (0) dX10_copyYears_43 (by decide) ?_
        refine S_aload_n C 0 dX10_copyYears_44 rfl ?_
        refine G_X10_today C fl_X10_237 dX10_copyYears_45 ?_
        refine K_X3_append C ml_X10_240 (by decide) (Nat.le_of_ble_eq_true rfl) dX10_copyYears_48 (fun r3 => ?_)
        refine S_pop C dX10_copyYears_51 rfl ?_
        refine S_iinc C 4 [(4, .int (x4 + 1)), (0, .ref (aC z 0)), (1, .int x1), (2, .ref (aC z (51 + t2))), (3, .int x3)] (x4 + 1) dX10_copyYears_52 rfl rfl (by decide) rfl ?_
        refine S_goto C 3 dX10_copyYears_55 (by decide) ?_
        exact S_sub [1, 2, 3, 4, 0] rfl (ih x1 x3 (x4 + 1) r3.2)
set_option maxRecDepth 10000 in
theorem WT_X10_copyYears {x : MX} {z : ZT} (C : Cok x (wxC z) RX10 cX10_copyYears 5 none 2 45) (x1 : Int32) (t2 : Nat) (x3 : Int32) (σ : St) (ht2 : t2 < 4) : Sim x (wxC z) 5 jV (X10_copyYears x1 t2 x3 σ) 0 [(0, .ref (aC z 0)), (1, .int x1), (2, .ref (aC z (51 + t2))), (3, .int x3)] [] σ := by
  rw [X10_copyYears]
  refine S_iconst C (0) dX10_copyYears_0 (by decide) ?_
  refine S_istore C [(4, .int 0), (0, .ref (aC z 0)), (1, .int x1), (2, .ref (aC z (51 + t2))), (3, .int x3)] dX10_copyYears_1 (by decide) rfl ?_
  exact S_sub [1, 2, 3, 4, 0] rfl (WT_X10_copyYears_L3 C t2 ht2 FU x1 x3 (0 : Int32) σ)
set_option maxRecDepth 10000 in
theorem con_X10_copyYears (z : ZT) (l : Launch) (x1 : Int32) (t2 : Nat) (x3 : Int32) (σ : St) (ht2 : t2 < 4) : ∀ ro, X10_copyYears x1 t2 x3 σ = some ro → Con (wxC z) l yX10_copyYears cX10_copyYears 5 none 2 45 [.ref (aC z 0), .int x1, .ref (aC z (51 + t2)), .int x3] σ (jV ro) :=
  fun ro hk => Con_of hk (by decide) (Nat.le_of_ble_eq_true rfl) (fun x hx C => WT_X10_copyYears C x1 t2 x3 σ ht2)
set_option maxRecDepth 10000 in
theorem K_X10_copyYears {x : MX} {z : ZT} {own : String} {cc : ByteArray} {nL : Nat} {ret : Option FieldType} {fr lo : Nat} {ρ : Type} {inj : ρ → Option Value × St} {pc : Nat} {lv : List (Nat × Value)} {st : List Value} {σ : St} (C : Cok x (wxC z) own cc nL ret fr lo) {x1 : Int32} {t2 : Nat} {x3 : Int32} (ht2 : t2 < 4) {index : Nat} (hl : Cond.methodLink own index yX10_copyYears ∈ gtb) (hR : 2 + 1 ≤ fr ∧ 8 + (5 + 11) + 45 ≤ lo) (hW : (st.map fun v => v.category).sum ≤ 8) (hd : decode cc pc = .ok (.invokevirtual index, 3)) {K : St → Option ρ} (h : ∀ v, Sim x (wxC z) nL inj (K v) (pc + 3) lv (st) v) : Sim x (wxC z) nL inj ((X10_copyYears x1 t2 x3 σ).bind K) pc lv (.int x3 :: .ref (aC z (51 + t2)) :: .int x1 :: .ref (aC z 0) :: st) σ :=
  S_callV C (As := [.int x1, .ref (aC z (51 + t2)), .int x3]) (q := 0) (inj1 := jV) mw_X10_copyYears mv_X10_copyYears hl (fun ro hro => con_X10_copyYears z (mL x) x1 t2 x3 σ ht2 ro hro) hR rfl (show 0 < 59 by decide) rfl (ce_X10 z σ) rfl rfl hW hd h
set_option maxRecDepth 10000 in
theorem WT_X10_filledYears_L6 {x : MX} {z : ZT} (C : Cok x (wxC z) RX10 cX10_filledYears 6 (some .int) 2 45) (t2 : Nat) (σ : St) (ht2 : t2 < 4) : ∀ (n : Nat) (x1 : Int32) (x3 : Int32) (x4 : Int32) (x5 : Int32), Sim x (wxC z) 6 (jI σ) (X10_filledYears_L6 t2 σ n x1 x3 x4 x5) 6 [(0, .ref (aC z 0)), (1, .int x1), (2, .ref (aC z (51 + t2))), (3, .int x3), (4, .int x4), (5, .int x5)] [] σ := by
  intro n
  induction n with
  | zero =>
    intros
    exact S_none
  | succ n ih =>
    intro x1 x3 x4 x5
    rw [X10_filledYears_L6]
    refine S_iload C 5 dX10_filledYears_6 rfl ?_
    refine S_iload_n C 3 dX10_filledYears_8 rfl ?_
    refine S_icmp_ge C 32 dX10_filledYears_9 (by decide) ?_ ?_
    · refine S_iload C 4 dX10_filledYears_32 rfl ?_
      exact S_iret C rfl dX10_filledYears_34
    · refine S_aload_n C 0 dX10_filledYears_12 rfl ?_
      refine S_iload_n C 1 dX10_filledYears_13 rfl ?_
      refine S_aload_n C 2 dX10_filledYears_14 rfl ?_
      refine S_iload C 5 dX10_filledYears_15 rfl ?_
      refine K_X10_isFilled C ht2 ml_X10_398 (by decide) (Nat.le_of_ble_eq_true rfl) dX10_filledYears_17 (fun v1 => ?_)
      refine S_if_eq C 26 dX10_filledYears_20 (by decide) ?_ ?_
      · refine S_iinc C 5 [(5, .int (x5 + 1)), (0, .ref (aC z 0)), (1, .int x1), (2, .ref (aC z (51 + t2))), (3, .int x3), (4, .int x4)] (x5 + 1) dX10_filledYears_26 rfl rfl (by decide) rfl ?_
        refine S_goto C 6 dX10_filledYears_29 (by decide) ?_
        exact S_sub [1, 2, 3, 4, 5, 0] rfl (ih x1 x3 x4 (x5 + 1))
      · refine S_iinc C 4 [(4, .int (x4 + 1)), (0, .ref (aC z 0)), (1, .int x1), (2, .ref (aC z (51 + t2))), (3, .int x3), (5, .int x5)] (x4 + 1) dX10_filledYears_23 rfl rfl (by decide) rfl ?_
        refine S_iinc C 5 [(5, .int (x5 + 1)), (4, .int (x4 + 1)), (0, .ref (aC z 0)), (1, .int x1), (2, .ref (aC z (51 + t2))), (3, .int x3)] (x5 + 1) dX10_filledYears_26 rfl rfl (by decide) rfl ?_
        refine S_goto C 6 dX10_filledYears_29 (by decide) ?_
        exact S_sub [2, 3, 4, 5, 1, 0] rfl (ih x1 x3 (x4 + 1) (x5 + 1))
set_option maxRecDepth 10000 in
theorem WT_X10_filledYears {x : MX} {z : ZT} (C : Cok x (wxC z) RX10 cX10_filledYears 6 (some .int) 2 45) (x1 : Int32) (t2 : Nat) (x3 : Int32) (σ : St) (ht2 : t2 < 4) : Sim x (wxC z) 6 (jI σ) (X10_filledYears x1 t2 x3 σ) 0 [(0, .ref (aC z 0)), (1, .int x1), (2, .ref (aC z (51 + t2))), (3, .int x3)] [] σ := by
  rw [X10_filledYears]
  refine S_iconst C (0) dX10_filledYears_0 (by decide) ?_
  refine S_istore C [(4, .int 0), (0, .ref (aC z 0)), (1, .int x1), (2, .ref (aC z (51 + t2))), (3, .int x3)] dX10_filledYears_1 (by decide) rfl ?_
  refine S_iconst C (0) dX10_filledYears_3 (by decide) ?_
  refine S_istore C [(5, .int 0), (4, .int 0), (0, .ref (aC z 0)), (1, .int x1), (2, .ref (aC z (51 + t2))), (3, .int x3)] dX10_filledYears_4 (by decide) rfl ?_
  exact S_sub [2, 3, 4, 5, 1, 0] rfl (WT_X10_filledYears_L6 C t2 σ ht2 FU x1 x3 (0 : Int32) (0 : Int32))
set_option maxRecDepth 10000 in
theorem con_X10_filledYears (z : ZT) (l : Launch) (x1 : Int32) (t2 : Nat) (x3 : Int32) (σ : St) (ht2 : t2 < 4) : ∀ ro, X10_filledYears x1 t2 x3 σ = some ro → Con (wxC z) l yX10_filledYears cX10_filledYears 6 (some .int) 2 45 [.ref (aC z 0), .int x1, .ref (aC z (51 + t2)), .int x3] σ ((jI σ) ro) :=
  fun ro hk => Con_of hk (by decide) (Nat.le_of_ble_eq_true rfl) (fun x hx C => WT_X10_filledYears C x1 t2 x3 σ ht2)
set_option maxRecDepth 10000 in
theorem K_X10_filledYears {x : MX} {z : ZT} {own : String} {cc : ByteArray} {nL : Nat} {ret : Option FieldType} {fr lo : Nat} {ρ : Type} {inj : ρ → Option Value × St} {pc : Nat} {lv : List (Nat × Value)} {st : List Value} {σ : St} (C : Cok x (wxC z) own cc nL ret fr lo) {x1 : Int32} {t2 : Nat} {x3 : Int32} (ht2 : t2 < 4) {index : Nat} (hl : Cond.methodLink own index yX10_filledYears ∈ gtb) (hR : 2 + 1 ≤ fr ∧ 8 + (6 + 11) + 45 ≤ lo) (hW : (st.map fun v => v.category).sum ≤ 8) (hd : decode cc pc = .ok (.invokevirtual index, 3)) {K : Int32 → Option ρ} (h : ∀ v, Sim x (wxC z) nL inj (K v) (pc + 3) lv (.int v :: st) σ) : Sim x (wxC z) nL inj ((X10_filledYears x1 t2 x3 σ).bind K) pc lv (.int x3 :: .ref (aC z (51 + t2)) :: .int x1 :: .ref (aC z 0) :: st) σ :=
  S_callV C (As := [.int x1, .ref (aC z (51 + t2)), .int x3]) (q := 0) (inj1 := (jI σ)) mw_X10_filledYears mv_X10_filledYears hl (fun ro hro => con_X10_filledYears z (mL x) x1 t2 x3 σ ht2 ro hro) hR rfl (show 0 < 59 by decide) rfl (ce_X10 z σ) rfl rfl hW hd h
set_option maxRecDepth 10000 in
theorem WT_X10_loseYears_L12 {x : MX} {z : ZT} (C : Cok x (wxC z) RX10 cX10_loseYears 4 none 1 25) : ∀ (n : Nat) (x1 : Int32) (x3 : Int32) (σ : St), Sim x (wxC z) 4 jV (X10_loseYears_L12 n x1 x3 σ) 12 [(0, .ref (aC z 0)), (1, .int x1), (3, .int x3)] [] σ := by
  intro n
  induction n with
  | zero =>
    intros
    exact S_none
  | succ n ih =>
    intro x1 x3 σ
    rw [X10_loseYears_L12]
    refine S_iload_n C 2 dX10_loseYears_12 rfl ?_
    refine S_aload_n C 0 dX10_loseYears_13 rfl ?_
    refine G_X10_books C fl_X10_47 dX10_loseYears_14 ?_
    refine G_X0_to C fl_X10_218 dX10_loseYears_17 ?_
    refine S_iload_n C 1 dX10_loseYears_20 rfl ?_
    refine L_X0_to C dX10_loseYears_21 (fun _ => ?_)
    refine S_icmp_gt C 53 dX10_loseYears_22 (by decide) ?_ ?_
    · exact S_vret C rfl dX10_loseYears_53
    · refine S_aload_n C 0 dX10_loseYears_25 rfl ?_
      refine G_X10_lines C fl_X10_56 dX10_loseYears_26 ?_
      refine S_iload_n C 1 dX10_loseYears_29 rfl ?_
      refine S_iload_n C 2 dX10_loseYears_30 rfl ?_
      refine K_X3_areIn C ml_X10_202 (by decide) (Nat.le_of_ble_eq_true rfl) dX10_loseYears_31 (fun v2 => ?_)
      refine S_if_ne C 47 dX10_loseYears_34 (by decide) ?_ ?_
      · refine S_iinc C 2 [(3, .int (x3 + 1)), (0, .ref (aC z 0)), (1, .int x1)] (x3 + 1) dX10_loseYears_47 rfl rfl (by decide) rfl ?_
        refine S_goto C 12 dX10_loseYears_50 (by decide) ?_
        exact S_sub [1, 2, 0] rfl (ih x1 (x3 + 1) σ)
      · refine S_aload_n C 0 dX10_loseYears_37 rfl ?_
        refine G_X10_books C fl_X10_47 dX10_loseYears_38 ?_
        refine S_iload_n C 1 dX10_loseYears_41 rfl ?_
        refine S_iload_n C 2 dX10_loseYears_42 rfl ?_
        refine S_iconst C (1) dX10_loseYears_43 (by decide) ?_
        refine K_X0_setHole C ml_X10_208 (by decide) (Nat.le_of_ble_eq_true rfl) dX10_loseYears_44 (fun σ3 => ?_)
        refine S_iinc C 2 [(3, .int (x3 + 1)), (0, .ref (aC z 0)), (1, .int x1)] (x3 + 1) dX10_loseYears_47 rfl rfl (by decide) rfl ?_
        refine S_goto C 12 dX10_loseYears_50 (by decide) ?_
        exact S_sub [1, 2, 0] rfl (ih x1 (x3 + 1) σ3)
set_option maxRecDepth 10000 in
theorem WT_X10_loseYears {x : MX} {z : ZT} (C : Cok x (wxC z) RX10 cX10_loseYears 4 none 1 25) (x1 : Int32) (x2 : Int32) (σ : St) : Sim x (wxC z) 4 jV (X10_loseYears x1 x2 σ) 0 [(0, .ref (aC z 0)), (1, .int x1), (2, .int x2)] [] σ := by
  rw [X10_loseYears]
  refine S_aload_n C 0 dX10_loseYears_0 rfl ?_
  refine G_X10_books C fl_X10_47 dX10_loseYears_1 ?_
  refine G_X0_from C fl_X10_215 dX10_loseYears_4 ?_
  refine S_iload_n C 1 dX10_loseYears_7 rfl ?_
  refine L_X0_from C dX10_loseYears_8 (fun _ => ?_)
  refine S_iload_n C 2 dX10_loseYears_9 rfl ?_
  refine S_iadd C dX10_loseYears_10 ?_
  refine S_bndT (fun x3_1 _ => ?_)
  refine S_istore_n C [(3, .int x3_1), (0, .ref (aC z 0)), (1, .int x1), (2, .int x2)] (i := 3) dX10_loseYears_11 rfl (by decide) rfl ?_
  exact S_sub [1, 2, 0] rfl (WT_X10_loseYears_L12 C FU x1 x3_1 σ)
set_option maxRecDepth 10000 in
theorem con_X10_loseYears (z : ZT) (l : Launch) (x1 : Int32) (x2 : Int32) (σ : St) : ∀ ro, X10_loseYears x1 x2 σ = some ro → Con (wxC z) l yX10_loseYears cX10_loseYears 4 none 1 25 [.ref (aC z 0), .int x1, .int x2] σ (jV ro) :=
  fun ro hk => Con_of hk (by decide) (Nat.le_of_ble_eq_true rfl) (fun x hx C => WT_X10_loseYears C x1 x2 σ)
set_option maxRecDepth 10000 in
theorem K_X10_loseYears {x : MX} {z : ZT} {own : String} {cc : ByteArray} {nL : Nat} {ret : Option FieldType} {fr lo : Nat} {ρ : Type} {inj : ρ → Option Value × St} {pc : Nat} {lv : List (Nat × Value)} {st : List Value} {σ : St} (C : Cok x (wxC z) own cc nL ret fr lo) {x1 : Int32} {x2 : Int32} {index : Nat} (hl : Cond.methodLink own index yX10_loseYears ∈ gtb) (hR : 1 + 1 ≤ fr ∧ 8 + (4 + 11) + 25 ≤ lo) (hW : (st.map fun v => v.category).sum ≤ 8) (hd : decode cc pc = .ok (.invokevirtual index, 3)) {K : St → Option ρ} (h : ∀ v, Sim x (wxC z) nL inj (K v) (pc + 3) lv (st) v) : Sim x (wxC z) nL inj ((X10_loseYears x1 x2 σ).bind K) pc lv (.int x2 :: .int x1 :: .ref (aC z 0) :: st) σ :=
  S_callV C (As := [.int x1, .int x2]) (q := 0) (inj1 := jV) mw_X10_loseYears mv_X10_loseYears hl (fun ro hro => con_X10_loseYears z (mL x) x1 x2 σ ro hro) hR rfl (show 0 < 59 by decide) rfl (ce_X10 z σ) rfl rfl hW hd h
set_option maxRecDepth 10000 in
theorem WT_X10_wholeYears_L13 {x : MX} {z : ZT} (C : Cok x (wxC z) RX10 cX10_wholeYears 6 (some .int) 1 22) (t2 : Nat) (σ : St) (ht2 : t2 < 4) : ∀ (n : Nat) (x1 : Int32) (x3 : Int32) (x4 : Int32) (x5 : Int32), Sim x (wxC z) 6 (jI σ) (X10_wholeYears_L13 t2 σ n x1 x3 x4 x5) 13 [(0, .ref (aC z 0)), (1, .int x1), (2, .ref (aC z (51 + t2))), (3, .int x3), (4, .int x4), (5, .int x5)] [] σ := by
  intro n
  induction n with
  | zero =>
    intros
    exact S_none
  | succ n ih =>
    intro x1 x3 x4 x5
    rw [X10_wholeYears_L13]
    refine S_iload C 5 dX10_wholeYears_13 rfl ?_
    refine S_iload C 4 dX10_wholeYears_15 rfl ?_
    refine S_icmp_ge C 62 dX10_wholeYears_17 (by decide) ?_ ?_
    · refine S_iload C 4 dX10_wholeYears_62 rfl ?_
      exact S_iret C rfl dX10_wholeYears_64
    · refine S_aload_n C 0 dX10_wholeYears_20 rfl ?_
      refine G_X10_books C fl_X10_47 dX10_wholeYears_21 ?_
      refine S_iload_n C 1 dX10_wholeYears_24 rfl ?_
      refine S_aload_n C 0 dX10_wholeYears_25 rfl ?_
      refine G_X10_books C fl_X10_47 dX10_wholeYears_26 ?_
      refine G_X0_from C fl_X10_215 dX10_wholeYears_29 ?_
      refine S_iload_n C 1 dX10_wholeYears_32 rfl ?_
      refine L_X0_from C dX10_wholeYears_33 (fun _ => ?_)
      refine S_iload C 5 dX10_wholeYears_34 rfl ?_
      refine S_iadd C dX10_wholeYears_36 ?_
      refine K_X0_isHole C ml_X10_205 (by decide) (Nat.le_of_ble_eq_true rfl) dX10_wholeYears_37 (fun v2 => ?_)
      refine S_if_ne C 56 dX10_wholeYears_40 (by decide) ?_ ?_
      · refine S_iinc C 5 [(5, .int (x5 + 1)), (0, .ref (aC z 0)), (1, .int x1), (2, .ref (aC z (51 + t2))), (3, .int x3), (4, .int x4)] (x5 + 1) dX10_wholeYears_56 rfl rfl (by decide) rfl ?_
        refine S_goto C 13 dX10_wholeYears_59 (by decide) ?_
        exact S_sub [1, 2, 3, 4, 5, 0] rfl (ih x1 x3 x4 (x5 + 1))
      · refine S_aload_n C 2 dX10_wholeYears_43 rfl ?_
        refine S_iload_n C 3 dX10_wholeYears_44 rfl ?_
        refine S_iload C 5 dX10_wholeYears_45 rfl ?_
        refine K_X6_faultAt C ht2 ml_X10_357 (by decide) (Nat.le_of_ble_eq_true rfl) dX10_wholeYears_47 (fun v3 => ?_)
        refine S_if_eq C 56 dX10_wholeYears_50 (by decide) ?_ ?_
        · refine S_iinc C 5 [(5, .int (x5 + 1)), (0, .ref (aC z 0)), (1, .int x1), (2, .ref (aC z (51 + t2))), (3, .int x3), (4, .int x4)] (x5 + 1) dX10_wholeYears_56 rfl rfl (by decide) rfl ?_
          refine S_goto C 13 dX10_wholeYears_59 (by decide) ?_
          exact S_sub [1, 2, 3, 4, 5, 0] rfl (ih x1 x3 x4 (x5 + 1))
        · refine S_iload C 5 dX10_wholeYears_53 rfl ?_
          exact S_iret C rfl dX10_wholeYears_55
set_option maxRecDepth 10000 in
theorem WT_X10_wholeYears {x : MX} {z : ZT} (C : Cok x (wxC z) RX10 cX10_wholeYears 6 (some .int) 1 22) (x1 : Int32) (t2 : Nat) (x3 : Int32) (σ : St) (ht2 : t2 < 4) : Sim x (wxC z) 6 (jI σ) (X10_wholeYears x1 t2 x3 σ) 0 [(0, .ref (aC z 0)), (1, .int x1), (2, .ref (aC z (51 + t2))), (3, .int x3)] [] σ := by
  rw [X10_wholeYears]
  refine S_aload_n C 0 dX10_wholeYears_0 rfl ?_
  refine G_X10_books C fl_X10_47 dX10_wholeYears_1 ?_
  refine S_iload_n C 1 dX10_wholeYears_4 rfl ?_
  refine K_X0_yearsOf C ml_X10_378 (by decide) (Nat.le_of_ble_eq_true rfl) dX10_wholeYears_5 (fun v1 => ?_)
  refine S_istore C [(4, .int v1), (0, .ref (aC z 0)), (1, .int x1), (2, .ref (aC z (51 + t2))), (3, .int x3)] dX10_wholeYears_8 (by decide) rfl ?_
  refine S_iconst C (0) dX10_wholeYears_10 (by decide) ?_
  refine S_istore C [(5, .int 0), (4, .int v1), (0, .ref (aC z 0)), (1, .int x1), (2, .ref (aC z (51 + t2))), (3, .int x3)] dX10_wholeYears_11 (by decide) rfl ?_
  exact S_sub [2, 3, 4, 5, 1, 0] rfl (WT_X10_wholeYears_L13 C t2 σ ht2 FU x1 x3 v1 (0 : Int32))
set_option maxRecDepth 10000 in
theorem con_X10_wholeYears (z : ZT) (l : Launch) (x1 : Int32) (t2 : Nat) (x3 : Int32) (σ : St) (ht2 : t2 < 4) : ∀ ro, X10_wholeYears x1 t2 x3 σ = some ro → Con (wxC z) l yX10_wholeYears cX10_wholeYears 6 (some .int) 1 22 [.ref (aC z 0), .int x1, .ref (aC z (51 + t2)), .int x3] σ ((jI σ) ro) :=
  fun ro hk => Con_of hk (by decide) (Nat.le_of_ble_eq_true rfl) (fun x hx C => WT_X10_wholeYears C x1 t2 x3 σ ht2)
set_option maxRecDepth 10000 in
theorem K_X10_wholeYears {x : MX} {z : ZT} {own : String} {cc : ByteArray} {nL : Nat} {ret : Option FieldType} {fr lo : Nat} {ρ : Type} {inj : ρ → Option Value × St} {pc : Nat} {lv : List (Nat × Value)} {st : List Value} {σ : St} (C : Cok x (wxC z) own cc nL ret fr lo) {x1 : Int32} {t2 : Nat} {x3 : Int32} (ht2 : t2 < 4) {index : Nat} (hl : Cond.methodLink own index yX10_wholeYears ∈ gtb) (hR : 1 + 1 ≤ fr ∧ 8 + (6 + 11) + 22 ≤ lo) (hW : (st.map fun v => v.category).sum ≤ 8) (hd : decode cc pc = .ok (.invokevirtual index, 3)) {K : Int32 → Option ρ} (h : ∀ v, Sim x (wxC z) nL inj (K v) (pc + 3) lv (.int v :: st) σ) : Sim x (wxC z) nL inj ((X10_wholeYears x1 t2 x3 σ).bind K) pc lv (.int x3 :: .ref (aC z (51 + t2)) :: .int x1 :: .ref (aC z 0) :: st) σ :=
  S_callV C (As := [.int x1, .ref (aC z (51 + t2)), .int x3]) (q := 0) (inj1 := (jI σ)) mw_X10_wholeYears mv_X10_wholeYears hl (fun ro hro => con_X10_wholeYears z (mL x) x1 t2 x3 σ ht2 ro hro) hR rfl (show 0 < 59 by decide) rfl (ce_X10 z σ) rfl rfl hW hd h
set_option maxRecDepth 10000 in
theorem WT_X10_wrongCell_B37 {x : MX} {z : ZT} (C : Cok x (wxC z) RX10 cX10_wrongCell 6 (some .int) 1 22) (t2 : Nat) (σ : St) (ht2 : t2 < 4) (kq3 : Int32 → Int32 → Int32 → Option Int32) (hk3 : ∀ (x1 : Int32) (x3 : Int32) (x4 : Int32), Sim x (wxC z) 6 (jI σ) (kq3 x1 x3 x4) 3 [(0, .ref (aC z 0)), (1, .int x1), (2, .ref (aC z (51 + t2))), (3, .int x3), (4, .int x4)] [] σ) (x1 : Int32) (x3 : Int32) (x4 : Int32) (s0 : Int32) : Sim x (wxC z) 6 (jI σ) (X10_wrongCell_B37 kq3 t2 σ x1 x3 x4 s0) 37 [(0, .ref (aC z 0)), (1, .int x1), (2, .ref (aC z (51 + t2))), (3, .int x3), (4, .int x4)] [.int s0] σ := by
  rw [X10_wrongCell_B37]
  refine S_istore C [(5, .int s0), (0, .ref (aC z 0)), (1, .int x1), (2, .ref (aC z (51 + t2))), (3, .int x3), (4, .int x4)] dX10_wrongCell_37 (by decide) rfl ?_
  refine S_iload C 0 dX10_wrongCell_39 rfl ?_
  refine S_if_eq C 73 dX10_wrongCell_41 (by decide) ?_ ?_
  · refine S_iinc C 5 [(4, .int (x4 + 1)), (5, .int s0), (0, .ref (aC z 0)), (1, .int x1), (2, .ref (aC z (51 + t2))), (3, .int x3)] (x4 + 1) dX10_wrongCell_73 rfl rfl (by decide) rfl ?_
    refine S_goto C 3 dX10_wrongCell_76 (by decide) ?_
    exact S_sub [2, 3, 4, 5, 0] rfl (hk3 x1 x3 (x4 + 1))
  · refine S_aload_n C 3 dX10_wrongCell_44 rfl ?_
    refine S_iload C 5 dX10_wrongCell_45 rfl ?_
    refine K_X6_cellAt C ht2 ml_X10_395 (by decide) (Nat.le_of_ble_eq_true rfl) dX10_wrongCell_47 (fun v2 => ?_)
    refine S_iconst C (-1) dX10_wrongCell_50 (by decide) ?_
    refine S_icmp_eq C 73 dX10_wrongCell_51 (by decide) ?_ ?_
    · refine S_iinc C 5 [(4, .int (x4 + 1)), (5, .int s0), (0, .ref (aC z 0)), (1, .int x1), (2, .ref (aC z (51 + t2))), (3, .int x3)] (x4 + 1) dX10_wrongCell_73 rfl rfl (by decide) rfl ?_
      refine S_goto C 3 dX10_wrongCell_76 (by decide) ?_
      exact S_sub [2, 3, 4, 5, 0] rfl (hk3 x1 x3 (x4 + 1))
    · refine S_aload_n C 1 dX10_wrongCell_54 rfl ?_
      refine G_X10_words C fl_X10_40 dX10_wrongCell_55 ?_
      refine S_aload_n C 3 dX10_wrongCell_58 rfl ?_
      refine S_iload C 5 dX10_wrongCell_59 rfl ?_
      refine K_X6_cellAt C ht2 ml_X10_395 (by decide) (Nat.le_of_ble_eq_true rfl) dX10_wrongCell_61 (fun v3 => ?_)
      refine K_X9_has C ml_X10_94 (by decide) (Nat.le_of_ble_eq_true rfl) dX10_wrongCell_64 (fun v4 => ?_)
      refine S_if_ne C 73 dX10_wrongCell_67 (by decide) ?_ ?_
      · refine S_iinc C 5 [(4, .int (x4 + 1)), (5, .int s0), (0, .ref (aC z 0)), (1, .int x1), (2, .ref (aC z (51 + t2))), (3, .int x3)] (x4 + 1) dX10_wrongCell_73 rfl rfl (by decide) rfl ?_
        refine S_goto C 3 dX10_wrongCell_76 (by decide) ?_
        exact S_sub [2, 3, 4, 5, 0] rfl (hk3 x1 x3 (x4 + 1))
      · refine S_iload C 5 dX10_wrongCell_70 rfl ?_
        exact S_iret C rfl dX10_wrongCell_72
set_option maxRecDepth 10000 in
theorem WT_X10_wrongCell_L3 {x : MX} {z : ZT} (C : Cok x (wxC z) RX10 cX10_wrongCell 6 (some .int) 1 22) (t2 : Nat) (σ : St) (ht2 : t2 < 4) : ∀ (n : Nat) (x1 : Int32) (x3 : Int32) (x4 : Int32), Sim x (wxC z) 6 (jI σ) (X10_wrongCell_L3 t2 σ n x1 x3 x4) 3 [(0, .ref (aC z 0)), (1, .int x1), (2, .ref (aC z (51 + t2))), (3, .int x3), (4, .int x4)] [] σ := by
  intro n
  induction n with
  | zero =>
    intros
    exact S_none
  | succ n ih =>
    intro x1 x3 x4
    rw [X10_wrongCell_L3]
    refine S_iload C 4 dX10_wrongCell_3 rfl ?_
    refine S_iload_n C 3 dX10_wrongCell_5 rfl ?_
    refine S_icmp_ge C 79 dX10_wrongCell_6 (by decide) ?_ ?_
    · refine S_bipush C (-4) dX10_wrongCell_79 (by decide) ?_
      exact S_iret C rfl dX10_wrongCell_81
    · refine S_aload_n C 0 dX10_wrongCell_9 rfl ?_
      refine G_X10_books C fl_X10_47 dX10_wrongCell_10 ?_
      refine S_iload_n C 1 dX10_wrongCell_13 rfl ?_
      refine S_aload_n C 0 dX10_wrongCell_14 rfl ?_
      refine G_X10_books C fl_X10_47 dX10_wrongCell_15 ?_
      refine G_X0_from C fl_X10_215 dX10_wrongCell_18 ?_
      refine S_iload_n C 1 dX10_wrongCell_21 rfl ?_
      refine L_X0_from C dX10_wrongCell_22 (fun _ => ?_)
      refine S_iload C 4 dX10_wrongCell_23 rfl ?_
      refine S_iadd C dX10_wrongCell_25 ?_
      refine K_X0_isHole C ml_X10_205 (by decide) (Nat.le_of_ble_eq_true rfl) dX10_wrongCell_26 (fun v1 => ?_)
      refine S_if_ne C 36 dX10_wrongCell_29 (by decide) ?_ ?_
      · refine S_iconst C (0) dX10_wrongCell_36 (by decide) ?_
        exact S_sub [0, 1, 2, 3, 4] rfl (WT_X10_wrongCell_B37 C t2 σ ht2 _ ih x1 x3 x4 (0 : Int32))
      · refine S_iconst C (1) dX10_wrongCell_32 (by decide) ?_
        refine S_goto C 37 dX10_wrongCell_33 (by decide) ?_
        exact S_sub [0, 1, 2, 3, 4] rfl (WT_X10_wrongCell_B37 C t2 σ ht2 _ ih x1 x3 x4 (1 : Int32))
set_option maxRecDepth 10000 in
theorem WT_X10_wrongCell {x : MX} {z : ZT} (C : Cok x (wxC z) RX10 cX10_wrongCell 6 (some .int) 1 22) (x1 : Int32) (t2 : Nat) (x3 : Int32) (σ : St) (ht2 : t2 < 4) : Sim x (wxC z) 6 (jI σ) (X10_wrongCell x1 t2 x3 σ) 0 [(0, .ref (aC z 0)), (1, .int x1), (2, .ref (aC z (51 + t2))), (3, .int x3)] [] σ := by
  rw [X10_wrongCell]
  refine S_iconst C (0) dX10_wrongCell_0 (by decide) ?_
  refine S_istore C [(4, .int 0), (0, .ref (aC z 0)), (1, .int x1), (2, .ref (aC z (51 + t2))), (3, .int x3)] dX10_wrongCell_1 (by decide) rfl ?_
  exact S_sub [1, 2, 3, 4, 0] rfl (WT_X10_wrongCell_L3 C t2 σ ht2 FU x1 x3 (0 : Int32))
set_option maxRecDepth 10000 in
theorem con_X10_wrongCell (z : ZT) (l : Launch) (x1 : Int32) (t2 : Nat) (x3 : Int32) (σ : St) (ht2 : t2 < 4) : ∀ ro, X10_wrongCell x1 t2 x3 σ = some ro → Con (wxC z) l yX10_wrongCell cX10_wrongCell 6 (some .int) 1 22 [.ref (aC z 0), .int x1, .ref (aC z (51 + t2)), .int x3] σ ((jI σ) ro) :=
  fun ro hk => Con_of hk (by decide) (Nat.le_of_ble_eq_true rfl) (fun x hx C => WT_X10_wrongCell C x1 t2 x3 σ ht2)
set_option maxRecDepth 10000 in
theorem K_X10_wrongCell {x : MX} {z : ZT} {own : String} {cc : ByteArray} {nL : Nat} {ret : Option FieldType} {fr lo : Nat} {ρ : Type} {inj : ρ → Option Value × St} {pc : Nat} {lv : List (Nat × Value)} {st : List Value} {σ : St} (C : Cok x (wxC z) own cc nL ret fr lo) {x1 : Int32} {t2 : Nat} {x3 : Int32} (ht2 : t2 < 4) {index : Nat} (hl : Cond.methodLink own index yX10_wrongCell ∈ gtb) (hR : 1 + 1 ≤ fr ∧ 8 + (6 + 11) + 22 ≤ lo) (hW : (st.map fun v => v.category).sum ≤ 8) (hd : decode cc pc = .ok (.invokevirtual index, 3)) {K : Int32 → Option ρ} (h : ∀ v, Sim x (wxC z) nL inj (K v) (pc + 3) lv (.int v :: st) σ) : Sim x (wxC z) nL inj ((X10_wrongCell x1 t2 x3 σ).bind K) pc lv (.int x3 :: .ref (aC z (51 + t2)) :: .int x1 :: .ref (aC z 0) :: st) σ :=
  S_callV C (As := [.int x1, .ref (aC z (51 + t2)), .int x3]) (q := 0) (inj1 := (jI σ)) mw_X10_wrongCell mv_X10_wrongCell hl (fun ro hro => con_X10_wrongCell z (mL x) x1 t2 x3 σ ht2 ro hro) hR rfl (show 0 < 59 by decide) rfl (ce_X10 z σ) rfl rfl hW hd h
set_option maxRecDepth 10000 in
theorem WT_X10_read_B133 {x : MX} {z : ZT} (C : Cok x (wxC z) RX10 cX10_read 8 (some .int) 3 70) (x1 : Int32) (x2 : Int32) (x3 : Int32) (x4 : Int32) (x6 : Int32) (s0 : Int32) (σ : St) : Sim x (wxC z) 8 jIS (X10_read_B133 x1 x2 x3 x4 x6 s0 σ) 133 [(0, .ref (aC z 0)), (1, .int x1), (2, .int x2), (3, .int x3), (4, .int x4), (6, .int x6)] [.int s0] σ := by
  rw [X10_read_B133]
  refine S_istore C [(7, .int s0), (0, .ref (aC z 0)), (1, .int x1), (2, .int x2), (3, .int x3), (4, .int x4), (6, .int x6)] dX10_read_133 (by decide) rfl ?_
  refine S_aload_n C 1 dX10_read_135 rfl ?_
  refine S_iload C 0 dX10_read_136 rfl ?_
  refine S_if_eq C 156 dX10_read_138 (by decide) ?_ ?_
  · refine S_iconst C (0) dX10_read_156 (by decide) ?_
    refine P_X10_sheetFault C fl_X10_381 dX10_read_157 ?_
    refine S_bndS (fun σ13 _ => ?_)
    refine S_aload_n C 1 dX10_read_160 rfl ?_
    refine S_iload_n C 2 dX10_read_161 rfl ?_
    refine S_iload C 5 dX10_read_162 rfl ?_
    refine K_X10_loseYears C ml_X10_384 (by decide) (Nat.le_of_ble_eq_true rfl) dX10_read_164 (fun σ14 => ?_)
    refine S_iload C 6 dX10_read_167 rfl ?_
    exact S_iret C rfl dX10_read_169
  · refine S_aload_n C 1 dX10_read_141 rfl ?_
    refine G_X10_rows C fl_X10_78 dX10_read_142 ?_
    refine S_iload_n C 3 dX10_read_145 rfl ?_
    refine L_X10_rows C dX10_read_146 (fun h15 => ?_)
    refine S_iload_n C 4 dX10_read_147 rfl ?_
    refine S_iload C 5 dX10_read_148 rfl ?_
    refine K_X6_faultAt C h15 ml_X10_357 (by decide) (Nat.le_of_ble_eq_true rfl) dX10_read_150 (fun v16 => ?_)
    refine S_goto C 157 dX10_read_153 (by decide) ?_
    refine P_X10_sheetFault C fl_X10_381 dX10_read_157 ?_
    refine S_bndS (fun σ17 _ => ?_)
    refine S_aload_n C 1 dX10_read_160 rfl ?_
    refine S_iload_n C 2 dX10_read_161 rfl ?_
    refine S_iload C 5 dX10_read_162 rfl ?_
    refine K_X10_loseYears C ml_X10_384 (by decide) (Nat.le_of_ble_eq_true rfl) dX10_read_164 (fun σ18 => ?_)
    refine S_iload C 6 dX10_read_167 rfl ?_
    exact S_iret C rfl dX10_read_169
set_option maxRecDepth 10000 in
theorem WT_X10_read {x : MX} {z : ZT} (C : Cok x (wxC z) RX10 cX10_read 8 (some .int) 3 70) (x1 : Int32) (x2 : Int32) (x3 : Int32) (σ : St) : Sim x (wxC z) 8 jIS (X10_read x1 x2 x3 σ) 0 [(0, .ref (aC z 0)), (1, .int x1), (2, .int x2), (3, .int x3)] [] σ := by
  rw [X10_read]
  refine S_aload_n C 0 dX10_read_0 rfl ?_
  refine G_X10_books C fl_X10_47 dX10_read_1 ?_
  refine S_iload_n C 1 dX10_read_4 rfl ?_
  refine K_X0_has C ml_X10_198 (by decide) (Nat.le_of_ble_eq_true rfl) dX10_read_5 (fun v1 => ?_)
  refine S_if_eq C 25 dX10_read_8 (by decide) ?_ ?_
  · refine S_iconst C (-1) dX10_read_25 (by decide) ?_
    exact S_iret C rfl dX10_read_26
  · refine S_iload_n C 2 dX10_read_11 rfl ?_
    refine K_X10_isSheet C ml_X10_344 (by decide) (Nat.le_of_ble_eq_true rfl) dX10_read_12 (fun v2 => ?_)
    refine S_if_eq C 25 dX10_read_15 (by decide) ?_ ?_
    · refine S_iconst C (-1) dX10_read_25 (by decide) ?_
      exact S_iret C rfl dX10_read_26
    · refine S_iload_n C 3 dX10_read_18 rfl ?_
      refine K_X6_isLane C ml_X10_347 (by decide) (Nat.le_of_ble_eq_true rfl) dX10_read_19 (fun v3 => ?_)
      refine S_if_ne C 27 dX10_read_22 (by decide) ?_ ?_
      · refine S_aload_n C 0 dX10_read_27 rfl ?_
        refine S_iload_n C 1 dX10_read_28 rfl ?_
        refine S_aload_n C 0 dX10_read_29 rfl ?_
        refine G_X10_rows C fl_X10_78 dX10_read_30 ?_
        refine S_iload_n C 2 dX10_read_33 rfl ?_
        refine L_X10_rows C dX10_read_34 (fun h4 => ?_)
        refine S_iload_n C 3 dX10_read_35 rfl ?_
        refine K_X10_wholeYears C h4 ml_X10_363 (by decide) (Nat.le_of_ble_eq_true rfl) dX10_read_36 (fun v5 => ?_)
        refine S_istore C [(4, .int v5), (0, .ref (aC z 0)), (1, .int x1), (2, .int x2), (3, .int x3)] dX10_read_39 (by decide) rfl ?_
        refine S_aload_n C 1 dX10_read_41 rfl ?_
        refine S_iload_n C 2 dX10_read_42 rfl ?_
        refine S_aload_n C 1 dX10_read_43 rfl ?_
        refine G_X10_rows C fl_X10_78 dX10_read_44 ?_
        refine S_iload_n C 3 dX10_read_47 rfl ?_
        refine L_X10_rows C dX10_read_48 (fun h6 => ?_)
        refine S_iload C 0 dX10_read_49 rfl ?_
        refine K_X10_wrongCell C h6 ml_X10_367 (by decide) (Nat.le_of_ble_eq_true rfl) dX10_read_51 (fun v7 => ?_)
        refine S_istore C [(5, .int v7), (4, .int v5), (0, .ref (aC z 0)), (1, .int x1), (2, .int x2), (3, .int x3)] dX10_read_54 (by decide) rfl ?_
        refine S_iload C 0 dX10_read_56 rfl ?_
        refine S_bipush C (-4) dX10_read_58 (by decide) ?_
        refine S_icmp_eq C 69 dX10_read_60 (by decide) ?_ ?_
        · refine S_aload_n C 2 dX10_read_69 rfl ?_
          refine S_iload_n C 3 dX10_read_70 rfl ?_
          refine S_aload_n C 2 dX10_read_71 rfl ?_
          refine G_X10_rows C fl_X10_78 dX10_read_72 ?_
          refine S_iload_n C 4 dX10_read_75 rfl ?_
          refine L_X10_rows C dX10_read_76 (fun h8 => ?_)
          refine S_iload C 1 dX10_read_77 rfl ?_
          refine K_X10_filledYears C h8 ml_X10_370 (by decide) (Nat.le_of_ble_eq_true rfl) dX10_read_79 (fun v9 => ?_)
          refine S_istore C [(6, .int v9), (5, .int v7), (4, .int v5), (0, .ref (aC z 0)), (1, .int x1), (2, .int x2), (3, .int x3)] dX10_read_82 (by decide) rfl ?_
          refine S_aload_n C 3 dX10_read_84 rfl ?_
          refine G_X10_lines C fl_X10_56 dX10_read_85 ?_
          refine G_X3_size C fl_X10_373 dX10_read_88 ?_
          refine S_iload C 0 dX10_read_91 rfl ?_
          refine S_iadd C dX10_read_93 ?_
          refine S_bipush C (40) dX10_read_94 (by decide) ?_
          refine S_icmp_le C 102 dX10_read_96 (by decide) ?_ ?_
          · refine S_aload_n C 3 dX10_read_102 rfl ?_
            refine S_iload_n C 4 dX10_read_103 rfl ?_
            refine S_aload_n C 3 dX10_read_104 rfl ?_
            refine G_X10_rows C fl_X10_78 dX10_read_105 ?_
            refine S_iload_n C 5 dX10_read_108 rfl ?_
            refine L_X10_rows C dX10_read_109 (fun h10 => ?_)
            refine S_iload C 2 dX10_read_110 rfl ?_
            refine K_X10_copyYears C h10 ml_X10_374 (by decide) (Nat.le_of_ble_eq_true rfl) dX10_read_112 (fun σ11 => ?_)
            refine S_iload C 2 dX10_read_115 rfl ?_
            refine S_aload_n C 3 dX10_read_117 rfl ?_
            refine G_X10_books C fl_X10_47 dX10_read_118 ?_
            refine S_iload_n C 4 dX10_read_121 rfl ?_
            refine K_X0_yearsOf C ml_X10_378 (by decide) (Nat.le_of_ble_eq_true rfl) dX10_read_122 (fun v12 => ?_)
            refine S_icmp_ge C 132 dX10_read_125 (by decide) ?_ ?_
            · refine S_iconst C (0) dX10_read_132 (by decide) ?_
              exact S_sub [3, 4, 5, 6, 2, 0] rfl (WT_X10_read_B133 C x1 x2 x3 v5 v9 (0 : Int32) σ11)
            · refine S_iconst C (1) dX10_read_128 (by decide) ?_
              refine S_goto C 133 dX10_read_129 (by decide) ?_
              exact S_sub [3, 4, 5, 6, 2, 0] rfl (WT_X10_read_B133 C x1 x2 x3 v5 v9 (1 : Int32) σ11)
          · refine S_bipush C (-3) dX10_read_99 (by decide) ?_
            exact S_iret C rfl dX10_read_101
        · refine S_bipush C (-20) dX10_read_63 (by decide) ?_
          refine S_iload C 0 dX10_read_65 rfl ?_
          refine S_isub C dX10_read_67 ?_
          exact S_iret C rfl dX10_read_68
      · refine S_iconst C (-1) dX10_read_25 (by decide) ?_
        exact S_iret C rfl dX10_read_26
set_option maxRecDepth 10000 in
theorem con_X10_read (z : ZT) (l : Launch) (x1 : Int32) (x2 : Int32) (x3 : Int32) (σ : St) : ∀ ro, X10_read x1 x2 x3 σ = some ro → Con (wxC z) l yX10_read cX10_read 8 (some .int) 3 70 [.ref (aC z 0), .int x1, .int x2, .int x3] σ (jIS ro) :=
  fun ro hk => Con_of hk (by decide) (Nat.le_of_ble_eq_true rfl) (fun x hx C => WT_X10_read C x1 x2 x3 σ)
set_option maxRecDepth 10000 in
theorem K_X10_read {x : MX} {z : ZT} {own : String} {cc : ByteArray} {nL : Nat} {ret : Option FieldType} {fr lo : Nat} {ρ : Type} {inj : ρ → Option Value × St} {pc : Nat} {lv : List (Nat × Value)} {st : List Value} {σ : St} (C : Cok x (wxC z) own cc nL ret fr lo) {x1 : Int32} {x2 : Int32} {x3 : Int32} {index : Nat} (hl : Cond.methodLink own index yX10_read ∈ gtb) (hR : 3 + 1 ≤ fr ∧ 8 + (8 + 11) + 70 ≤ lo) (hW : (st.map fun v => v.category).sum ≤ 8) (hd : decode cc pc = .ok (.invokevirtual index, 3)) {K : (Int32 × St) → Option ρ} (h : ∀ v, Sim x (wxC z) nL inj (K v) (pc + 3) lv (.int v.1 :: st) v.2) : Sim x (wxC z) nL inj ((X10_read x1 x2 x3 σ).bind K) pc lv (.int x3 :: .int x2 :: .int x1 :: .ref (aC z 0) :: st) σ :=
  S_callV C (As := [.int x1, .int x2, .int x3]) (q := 0) (inj1 := jIS) mw_X10_read mv_X10_read hl (fun ro hro => con_X10_read z (mL x) x1 x2 x3 σ ro hro) hR rfl (show 0 < 59 by decide) rfl (ce_X10 z σ) rfl rfl hW hd h
set_option maxRecDepth 10000 in
theorem WT_X10_torn {x : MX} {z : ZT} (C : Cok x (wxC z) RX10 cX10_torn 1 (some .int) 0 0)  (σ : St) : Sim x (wxC z) 1 (jI σ) (X10_torn σ) 0 [(0, .ref (aC z 0))] [] σ := by
  rw [X10_torn]
  refine S_aload_n C 0 dX10_torn_0 rfl ?_
  refine G_X10_sheetFault C fl_X10_381 dX10_torn_1 ?_
  exact S_iret C rfl dX10_torn_4
set_option maxRecDepth 10000 in
theorem con_X10_torn (z : ZT) (l : Launch)  (σ : St) : ∀ ro, X10_torn σ = some ro → Con (wxC z) l yX10_torn cX10_torn 1 (some .int) 0 0 [.ref (aC z 0)] σ ((jI σ) ro) :=
  fun ro hk => Con_of hk (by decide) (Nat.le_of_ble_eq_true rfl) (fun x hx C => WT_X10_torn C σ)
set_option maxRecDepth 10000 in
theorem K_X10_torn {x : MX} {z : ZT} {own : String} {cc : ByteArray} {nL : Nat} {ret : Option FieldType} {fr lo : Nat} {ρ : Type} {inj : ρ → Option Value × St} {pc : Nat} {lv : List (Nat × Value)} {st : List Value} {σ : St} (C : Cok x (wxC z) own cc nL ret fr lo)  {index : Nat} (hl : Cond.methodLink own index yX10_torn ∈ gtb) (hR : 0 + 1 ≤ fr ∧ 8 + (1 + 11) + 0 ≤ lo) (hW : (st.map fun v => v.category).sum ≤ 8) (hd : decode cc pc = .ok (.invokevirtual index, 3)) {K : Int32 → Option ρ} (h : ∀ v, Sim x (wxC z) nL inj (K v) (pc + 3) lv (.int v :: st) σ) : Sim x (wxC z) nL inj ((X10_torn σ).bind K) pc lv (.ref (aC z 0) :: st) σ :=
  S_callV C (As := []) (q := 0) (inj1 := (jI σ)) mw_X10_torn mv_X10_torn hl (fun ro hro => con_X10_torn z (mL x) σ ro hro) hR rfl (show 0 < 59 by decide) rfl (ce_X10 z σ) rfl rfl hW hd h
set_option maxRecDepth 10000 in
theorem WT_X10_count {x : MX} {z : ZT} (C : Cok x (wxC z) RX10 cX10_count 2 (some .int) 2 43) (x1 : Int32) (σ : St) : Sim x (wxC z) 2 (jI σ) (X10_count x1 σ) 0 [(0, .ref (aC z 0)), (1, .int x1)] [] σ := by
  rw [X10_count]
  refine S_iload_n C 1 dX10_count_0 rfl ?_
  refine S_tsw C _ [52, 60, 68, 76, 84, 92, 97, 105, 113] 123 dX10_count_1 rfl (Nat.le_of_ble_eq_true rfl) (by decide) (by decide) (Sims_cons ?_ (Sims_cons ?_ (Sims_cons ?_ (Sims_cons ?_ (Sims_cons ?_ (Sims_cons ?_ (Sims_cons ?_ (Sims_cons ?_ (Sims_cons ?_ Sims_nil))))))))) ?_
  · refine S_aload_n C 0 dX10_count_52 rfl ?_
    refine G_X10_words C fl_X10_40 dX10_count_53 ?_
    refine G_X9_size C fl_X10_171 dX10_count_56 ?_
    exact S_iret C rfl dX10_count_59
  · refine S_aload_n C 0 dX10_count_60 rfl ?_
    refine G_X10_books C fl_X10_47 dX10_count_61 ?_
    refine G_X0_places C fl_X10_309 dX10_count_64 ?_
    exact S_iret C rfl dX10_count_67
  · refine S_aload_n C 0 dX10_count_68 rfl ?_
    refine G_X10_books C fl_X10_47 dX10_count_69 ?_
    refine G_X0_size C fl_X10_387 dX10_count_72 ?_
    exact S_iret C rfl dX10_count_75
  · refine S_aload_n C 0 dX10_count_76 rfl ?_
    refine G_X10_lines C fl_X10_56 dX10_count_77 ?_
    refine G_X3_size C fl_X10_373 dX10_count_80 ?_
    exact S_iret C rfl dX10_count_83
  · refine S_aload_n C 0 dX10_count_84 rfl ?_
    refine G_X10_lines C fl_X10_56 dX10_count_85 ?_
    refine G_X3_readings C fl_X10_388 dX10_count_88 ?_
    exact S_iret C rfl dX10_count_91
  · refine S_aload_n C 0 dX10_count_92 rfl ?_
    refine G_X10_today C fl_X10_237 dX10_count_93 ?_
    exact S_iret C rfl dX10_count_96
  · refine S_aload_n C 0 dX10_count_97 rfl ?_
    refine G_X10_lines C fl_X10_56 dX10_count_98 ?_
    refine K_X3_howManyNames C ml_X10_391 (by decide) (Nat.le_of_ble_eq_true rfl) dX10_count_101 (fun v1 => ?_)
    exact S_iret C rfl dX10_count_104
  · refine S_aload_n C 0 dX10_count_105 rfl ?_
    refine G_X10_tape C fl_X10_10 dX10_count_106 ?_
    refine G_X7_length C fl_X10_106 dX10_count_109 ?_
    exact S_iret C rfl dX10_count_112
  · refine S_aload_n C 0 dX10_count_113 rfl ?_
    refine G_X10_rows C fl_X10_78 dX10_count_114 ?_
    refine S_iconst C (0) dX10_count_117 (by decide) ?_
    refine L_X10_rows C dX10_count_118 (fun h2 => ?_)
    refine G_X6_cells C h2 fl_X10_392 dX10_count_119 ?_
    exact S_iret C rfl dX10_count_122
  · refine S_iconst C (-1) dX10_count_123 (by decide) ?_
    exact S_iret C rfl dX10_count_124
set_option maxRecDepth 10000 in
theorem con_X10_count (z : ZT) (l : Launch) (x1 : Int32) (σ : St) : ∀ ro, X10_count x1 σ = some ro → Con (wxC z) l yX10_count cX10_count 2 (some .int) 2 43 [.ref (aC z 0), .int x1] σ ((jI σ) ro) :=
  fun ro hk => Con_of hk (by decide) (Nat.le_of_ble_eq_true rfl) (fun x hx C => WT_X10_count C x1 σ)
set_option maxRecDepth 10000 in
theorem K_X10_count {x : MX} {z : ZT} {own : String} {cc : ByteArray} {nL : Nat} {ret : Option FieldType} {fr lo : Nat} {ρ : Type} {inj : ρ → Option Value × St} {pc : Nat} {lv : List (Nat × Value)} {st : List Value} {σ : St} (C : Cok x (wxC z) own cc nL ret fr lo) {x1 : Int32} {index : Nat} (hl : Cond.methodLink own index yX10_count ∈ gtb) (hR : 2 + 1 ≤ fr ∧ 8 + (2 + 11) + 43 ≤ lo) (hW : (st.map fun v => v.category).sum ≤ 8) (hd : decode cc pc = .ok (.invokevirtual index, 3)) {K : Int32 → Option ρ} (h : ∀ v, Sim x (wxC z) nL inj (K v) (pc + 3) lv (.int v :: st) σ) : Sim x (wxC z) nL inj ((X10_count x1 σ).bind K) pc lv (.int x1 :: .ref (aC z 0) :: st) σ :=
  S_callV C (As := [.int x1]) (q := 0) (inj1 := (jI σ)) mw_X10_count mv_X10_count hl (fun ro hro => con_X10_count z (mL x) x1 σ ro hro) hR rfl (show 0 < 59 by decide) rfl (ce_X10 z σ) rfl rfl hW hd h
