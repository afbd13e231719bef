set_option maxRecDepth 10000 in
theorem WT_J6_numberOfTrailingZeros_0f7a4_B62 {x : MX} {z : ZT} (C : Cok x (wxC z) RJ6 cJ6_numberOfTrailingZeros_0f7a4 2 (some .int) 0 0) (σ : St) (x0 : Int32) (x1 : Int32) : Sim x (wxC z) 2 (jI σ) (J6_numberOfTrailingZeros_0f7a4_B62 σ x0 x1) 62 [(0, .int x0), (1, .int x1)] [] σ := by
  rw [J6_numberOfTrailingZeros_0f7a4_B62]
  refine S_iload_n C 0 dJ6_numberOfTrailingZeros_0f7a4_62 rfl ?_
  refine S_iconst C (4) dJ6_numberOfTrailingZeros_0f7a4_63 (by decide) ?_
  refine S_icmp_le C 74 dJ6_numberOfTrailingZeros_0f7a4_64 (by decide) ?_ ?_
  · refine S_iload_n C 1 dJ6_numberOfTrailingZeros_0f7a4_74 rfl ?_
    refine S_iload_n C 0 dJ6_numberOfTrailingZeros_0f7a4_75 rfl ?_
    refine S_iconst C (1) dJ6_numberOfTrailingZeros_0f7a4_76 (by decide) ?_
    refine S_iushr C dJ6_numberOfTrailingZeros_0f7a4_77 ?_
    refine S_iadd C dJ6_numberOfTrailingZeros_0f7a4_78 ?_
    exact S_iret C rfl dJ6_numberOfTrailingZeros_0f7a4_79
  · refine S_iinc C 1 [(1, .int (x1 + 2)), (0, .int x0)] (x1 + 2) dJ6_numberOfTrailingZeros_0f7a4_67 rfl rfl (by decide) rfl ?_
    refine S_iload_n C 1 dJ6_numberOfTrailingZeros_0f7a4_70 rfl ?_
    refine S_iconst C (2) dJ6_numberOfTrailingZeros_0f7a4_71 (by decide) ?_
    refine S_iushr C dJ6_numberOfTrailingZeros_0f7a4_72 ?_
    refine S_bndT (fun x0_2 _ => ?_)
    refine S_istore_n C [(0, .int x0_2), (1, .int (x1 + 2))] (i := 0) dJ6_numberOfTrailingZeros_0f7a4_73 rfl (by decide) rfl ?_
    refine S_iload_n C 1 dJ6_numberOfTrailingZeros_0f7a4_74 rfl ?_
    refine S_iload_n C 0 dJ6_numberOfTrailingZeros_0f7a4_75 rfl ?_
    refine S_iconst C (1) dJ6_numberOfTrailingZeros_0f7a4_76 (by decide) ?_
    refine S_iushr C dJ6_numberOfTrailingZeros_0f7a4_77 ?_
    refine S_iadd C dJ6_numberOfTrailingZeros_0f7a4_78 ?_
    exact S_iret C rfl dJ6_numberOfTrailingZeros_0f7a4_79
set_option maxRecDepth 10000 in
theorem WT_J6_numberOfTrailingZeros_0f7a4_B34 {x : MX} {z : ZT} (C : Cok x (wxC z) RJ6 cJ6_numberOfTrailingZeros_0f7a4 2 (some .int) 0 0) (σ : St) (x0 : Int32) (x1 : Int32) : Sim x (wxC z) 2 (jI σ) (J6_numberOfTrailingZeros_0f7a4_B34 σ x0 x1) 34 [(0, .int x0), (1, .int x1)] [] σ := by
  rw [J6_numberOfTrailingZeros_0f7a4_B34]
  refine S_iload_n C 0 dJ6_numberOfTrailingZeros_0f7a4_34 rfl ?_
  refine S_sipush C (256) dJ6_numberOfTrailingZeros_0f7a4_35 (by decide) ?_
  refine S_icmp_le C 49 dJ6_numberOfTrailingZeros_0f7a4_38 (by decide) ?_ ?_
  · refine S_iload_n C 0 dJ6_numberOfTrailingZeros_0f7a4_49 rfl ?_
    refine S_bipush C (16) dJ6_numberOfTrailingZeros_0f7a4_50 (by decide) ?_
    refine S_icmp_le C 62 dJ6_numberOfTrailingZeros_0f7a4_52 (by decide) ?_ ?_
    · exact S_sub [0, 1] rfl (WT_J6_numberOfTrailingZeros_0f7a4_B62 C σ x0 x1)
    · refine S_iinc C 1 [(1, .int (x1 + 4)), (0, .int x0)] (x1 + 4) dJ6_numberOfTrailingZeros_0f7a4_55 rfl rfl (by decide) rfl ?_
      refine S_iload_n C 1 dJ6_numberOfTrailingZeros_0f7a4_58 rfl ?_
      refine S_iconst C (4) dJ6_numberOfTrailingZeros_0f7a4_59 (by decide) ?_
      refine S_iushr C dJ6_numberOfTrailingZeros_0f7a4_60 ?_
      refine S_bndT (fun x0_3 _ => ?_)
      refine S_istore_n C [(0, .int x0_3), (1, .int (x1 + 4))] (i := 0) dJ6_numberOfTrailingZeros_0f7a4_61 rfl (by decide) rfl ?_
      exact S_sub [0, 1] rfl (WT_J6_numberOfTrailingZeros_0f7a4_B62 C σ x0_3 (x1 + 4))
  · refine S_iinc C 1 [(1, .int (x1 + 8)), (0, .int x0)] (x1 + 8) dJ6_numberOfTrailingZeros_0f7a4_41 rfl rfl (by decide) rfl ?_
    refine S_iload_n C 1 dJ6_numberOfTrailingZeros_0f7a4_44 rfl ?_
    refine S_bipush C (8) dJ6_numberOfTrailingZeros_0f7a4_45 (by decide) ?_
    refine S_iushr C dJ6_numberOfTrailingZeros_0f7a4_47 ?_
    refine S_bndT (fun x0_4 _ => ?_)
    refine S_istore_n C [(0, .int x0_4), (1, .int (x1 + 8))] (i := 0) dJ6_numberOfTrailingZeros_0f7a4_48 rfl (by decide) rfl ?_
    refine S_iload_n C 0 dJ6_numberOfTrailingZeros_0f7a4_49 rfl ?_
    refine S_bipush C (16) dJ6_numberOfTrailingZeros_0f7a4_50 (by decide) ?_
    refine S_icmp_le C 62 dJ6_numberOfTrailingZeros_0f7a4_52 (by decide) ?_ ?_
    · exact S_sub [0, 1] rfl (WT_J6_numberOfTrailingZeros_0f7a4_B62 C σ x0_4 (x1 + 8))
    · refine S_iinc C 1 [(1, .int ((x1 + 8) + 4)), (0, .int x0_4)] ((x1 + 8) + 4) dJ6_numberOfTrailingZeros_0f7a4_55 rfl rfl (by decide) rfl ?_
      refine S_iload_n C 1 dJ6_numberOfTrailingZeros_0f7a4_58 rfl ?_
      refine S_iconst C (4) dJ6_numberOfTrailingZeros_0f7a4_59 (by decide) ?_
      refine S_iushr C dJ6_numberOfTrailingZeros_0f7a4_60 ?_
      refine S_bndT (fun x0_5 _ => ?_)
      refine S_istore_n C [(0, .int x0_5), (1, .int ((x1 + 8) + 4))] (i := 0) dJ6_numberOfTrailingZeros_0f7a4_61 rfl (by decide) rfl ?_
      exact S_sub [0, 1] rfl (WT_J6_numberOfTrailingZeros_0f7a4_B62 C σ x0_5 ((x1 + 8) + 4))
set_option maxRecDepth 10000 in
theorem WT_J6_numberOfTrailingZeros_0f7a4 {x : MX} {z : ZT} (C : Cok x (wxC z) RJ6 cJ6_numberOfTrailingZeros_0f7a4 2 (some .int) 0 0) (x0 : Int32) (σ : St) : Sim x (wxC z) 2 (jI σ) (J6_numberOfTrailingZeros_0f7a4 x0 σ) 0 [(0, .int x0)] [] σ := by
  rw [J6_numberOfTrailingZeros_0f7a4]
  refine S_iload_n C 0 dJ6_numberOfTrailingZeros_0f7a4_0 rfl ?_
  refine S_iconst C (-1) dJ6_numberOfTrailingZeros_0f7a4_1 (by decide) ?_
  refine S_ixor C dJ6_numberOfTrailingZeros_0f7a4_2 ?_
  refine S_iload_n C 0 dJ6_numberOfTrailingZeros_0f7a4_3 rfl ?_
  refine S_iconst C (1) dJ6_numberOfTrailingZeros_0f7a4_4 (by decide) ?_
  refine S_isub C dJ6_numberOfTrailingZeros_0f7a4_5 ?_
  refine S_iand C dJ6_numberOfTrailingZeros_0f7a4_6 ?_
  refine S_bndT (fun x0_1 _ => ?_)
  refine S_istore_n C [(0, .int x0_1)] (i := 0) dJ6_numberOfTrailingZeros_0f7a4_7 rfl (by decide) rfl ?_
  refine S_iload_n C 0 dJ6_numberOfTrailingZeros_0f7a4_8 rfl ?_
  refine S_if_gt C 17 dJ6_numberOfTrailingZeros_0f7a4_9 (by decide) ?_ ?_
  · refine S_iconst C (1) dJ6_numberOfTrailingZeros_0f7a4_17 (by decide) ?_
    refine S_istore_n C [(1, .int 1), (0, .int x0_1)] (i := 1) dJ6_numberOfTrailingZeros_0f7a4_18 rfl (by decide) rfl ?_
    refine S_iload_n C 1 dJ6_numberOfTrailingZeros_0f7a4_19 rfl ?_
    refine S_ldcw C (65536) kc_J6_264 dJ6_numberOfTrailingZeros_0f7a4_20 ?_
    refine S_icmp_le C 34 dJ6_numberOfTrailingZeros_0f7a4_23 (by decide) ?_ ?_
    · exact S_sub [1, 0] rfl (WT_J6_numberOfTrailingZeros_0f7a4_B34 C σ x0_1 (1 : Int32))
    · refine S_iinc C 0 [(1, .int 17), (0, .int x0_1)] 17 dJ6_numberOfTrailingZeros_0f7a4_26 rfl rfl (by decide) rfl ?_
      refine S_iload_n C 1 dJ6_numberOfTrailingZeros_0f7a4_29 rfl ?_
      refine S_bipush C (16) dJ6_numberOfTrailingZeros_0f7a4_30 (by decide) ?_
      refine S_iushr C dJ6_numberOfTrailingZeros_0f7a4_32 ?_
      refine S_bndT (fun x0_6 _ => ?_)
      refine S_istore_n C [(0, .int x0_6), (1, .int 17)] (i := 0) dJ6_numberOfTrailingZeros_0f7a4_33 rfl (by decide) rfl ?_
      exact S_sub [0, 1] rfl (WT_J6_numberOfTrailingZeros_0f7a4_B34 C σ x0_6 (17 : Int32))
  · refine S_iload_n C 0 dJ6_numberOfTrailingZeros_0f7a4_12 rfl ?_
    refine S_bipush C (32) dJ6_numberOfTrailingZeros_0f7a4_13 (by decide) ?_
    refine S_iand C dJ6_numberOfTrailingZeros_0f7a4_15 ?_
    exact S_iret C rfl dJ6_numberOfTrailingZeros_0f7a4_16
set_option maxRecDepth 10000 in
theorem con_J6_numberOfTrailingZeros_0f7a4 (z : ZT) (l : Launch) (x0 : Int32) (σ : St) : ∀ ro, J6_numberOfTrailingZeros_0f7a4 x0 σ = some ro → Con (wxC z) l yJ6_numberOfTrailingZeros_0f7a4 cJ6_numberOfTrailingZeros_0f7a4 2 (some .int) 0 0 [.int x0] σ ((jI σ) ro) :=
  fun ro hk => Con_of hk (by decide) (Nat.le_of_ble_eq_true rfl) (fun x hx C => WT_J6_numberOfTrailingZeros_0f7a4 C x0 σ)
set_option maxRecDepth 10000 in
theorem K_J6_numberOfTrailingZeros_0f7a4 {x : MX} {z : ZT} {own : String} {cc : ByteArray} {nL : Nat} {ret : Option FieldType} {fr lo : Nat} {ρ : Type} {inj : ρ → Option Value × St} {pc : Nat} {lv : List (Nat × Value)} {st : List Value} {σ : St} (C : Cok x (wxC z) own cc nL ret fr lo) {x0 : Int32} {index : Nat} (hl : Cond.methodLink own index yJ6_numberOfTrailingZeros_0f7a4 ∈ gtb) (hR : 0 + 1 ≤ fr ∧ 8 + (2 + 11) + 0 ≤ lo) (hW : (st.map fun v => v.category).sum ≤ 8) (hd : decode cc pc = .ok (.invokestatic index, 3)) {K : Int32 → Option ρ} (h : ∀ v, Sim x (wxC z) nL inj (K v) (pc + 3) lv (.int v :: st) σ) : Sim x (wxC z) nL inj ((J6_numberOfTrailingZeros_0f7a4 x0 σ).bind K) pc lv (.int x0 :: st) σ :=
  S_callS C (As := [.int x0]) (inj1 := (jI σ)) mw_J6_numberOfTrailingZeros_0f7a4 ms_J6_numberOfTrailingZeros_0f7a4 hl (fun ro hro => con_J6_numberOfTrailingZeros_0f7a4 z (mL x) x0 σ ro hro) hR rfl rfl hW hd h
set_option maxRecDepth 10000 in
theorem WT_J6_bitCount_0f7a4 {x : MX} {z : ZT} (C : Cok x (wxC z) RJ6 cJ6_bitCount_0f7a4 1 (some .int) 0 0) (x0 : Int32) (σ : St) : Sim x (wxC z) 1 (jI σ) (J6_bitCount_0f7a4 x0 σ) 0 [(0, .int x0)] [] σ := by
  rw [J6_bitCount_0f7a4]
  refine S_iload_n C 0 dJ6_bitCount_0f7a4_0 rfl ?_
  refine S_iload_n C 0 dJ6_bitCount_0f7a4_1 rfl ?_
  refine S_iconst C (1) dJ6_bitCount_0f7a4_2 (by decide) ?_
  refine S_iushr C dJ6_bitCount_0f7a4_3 ?_
  refine S_ldcw C (1431655765) kc_J6_265 dJ6_bitCount_0f7a4_4 ?_
  refine S_iand C dJ6_bitCount_0f7a4_7 ?_
  refine S_isub C dJ6_bitCount_0f7a4_8 ?_
  refine S_bndT (fun x0_1 _ => ?_)
  refine S_istore_n C [(0, .int x0_1)] (i := 0) dJ6_bitCount_0f7a4_9 rfl (by decide) rfl ?_
  refine S_iload_n C 0 dJ6_bitCount_0f7a4_10 rfl ?_
  refine S_ldcw C (858993459) kc_J6_266 dJ6_bitCount_0f7a4_11 ?_
  refine S_iand C dJ6_bitCount_0f7a4_14 ?_
  refine S_iload_n C 0 dJ6_bitCount_0f7a4_15 rfl ?_
  refine S_iconst C (2) dJ6_bitCount_0f7a4_16 (by decide) ?_
  refine S_iushr C dJ6_bitCount_0f7a4_17 ?_
  refine S_ldcw C (858993459) kc_J6_266 dJ6_bitCount_0f7a4_18 ?_
  refine S_iand C dJ6_bitCount_0f7a4_21 ?_
  refine S_iadd C dJ6_bitCount_0f7a4_22 ?_
  refine S_bndT (fun x0_2 _ => ?_)
  refine S_istore_n C [(0, .int x0_2)] (i := 0) dJ6_bitCount_0f7a4_23 rfl (by decide) rfl ?_
  refine S_iload_n C 0 dJ6_bitCount_0f7a4_24 rfl ?_
  refine S_iload_n C 0 dJ6_bitCount_0f7a4_25 rfl ?_
  refine S_iconst C (4) dJ6_bitCount_0f7a4_26 (by decide) ?_
  refine S_iushr C dJ6_bitCount_0f7a4_27 ?_
  refine S_iadd C dJ6_bitCount_0f7a4_28 ?_
  refine S_ldcw C (252645135) kc_J6_267 dJ6_bitCount_0f7a4_29 ?_
  refine S_iand C dJ6_bitCount_0f7a4_32 ?_
  refine S_bndT (fun x0_3 _ => ?_)
  refine S_istore_n C [(0, .int x0_3)] (i := 0) dJ6_bitCount_0f7a4_33 rfl (by decide) rfl ?_
  refine S_iload_n C 0 dJ6_bitCount_0f7a4_34 rfl ?_
  refine S_iload_n C 0 dJ6_bitCount_0f7a4_35 rfl ?_
  refine S_bipush C (8) dJ6_bitCount_0f7a4_36 (by decide) ?_
  refine S_iushr C dJ6_bitCount_0f7a4_38 ?_
  refine S_iadd C dJ6_bitCount_0f7a4_39 ?_
  refine S_bndT (fun x0_4 _ => ?_)
  refine S_istore_n C [(0, .int x0_4)] (i := 0) dJ6_bitCount_0f7a4_40 rfl (by decide) rfl ?_
  refine S_iload_n C 0 dJ6_bitCount_0f7a4_41 rfl ?_
  refine S_iload_n C 0 dJ6_bitCount_0f7a4_42 rfl ?_
  refine S_bipush C (16) dJ6_bitCount_0f7a4_43 (by decide) ?_
  refine S_iushr C dJ6_bitCount_0f7a4_45 ?_
  refine S_iadd C dJ6_bitCount_0f7a4_46 ?_
  refine S_bndT (fun x0_5 _ => ?_)
  refine S_istore_n C [(0, .int x0_5)] (i := 0) dJ6_bitCount_0f7a4_47 rfl (by decide) rfl ?_
  refine S_iload_n C 0 dJ6_bitCount_0f7a4_48 rfl ?_
  refine S_bipush C (63) dJ6_bitCount_0f7a4_49 (by decide) ?_
  refine S_iand C dJ6_bitCount_0f7a4_51 ?_
  exact S_iret C rfl dJ6_bitCount_0f7a4_52
set_option maxRecDepth 10000 in
theorem con_J6_bitCount_0f7a4 (z : ZT) (l : Launch) (x0 : Int32) (σ : St) : ∀ ro, J6_bitCount_0f7a4 x0 σ = some ro → Con (wxC z) l yJ6_bitCount_0f7a4 cJ6_bitCount_0f7a4 1 (some .int) 0 0 [.int x0] σ ((jI σ) ro) :=
  fun ro hk => Con_of hk (by decide) (Nat.le_of_ble_eq_true rfl) (fun x hx C => WT_J6_bitCount_0f7a4 C x0 σ)
set_option maxRecDepth 10000 in
theorem K_J6_bitCount_0f7a4 {x : MX} {z : ZT} {own : String} {cc : ByteArray} {nL : Nat} {ret : Option FieldType} {fr lo : Nat} {ρ : Type} {inj : ρ → Option Value × St} {pc : Nat} {lv : List (Nat × Value)} {st : List Value} {σ : St} (C : Cok x (wxC z) own cc nL ret fr lo) {x0 : Int32} {index : Nat} (hl : Cond.methodLink own index yJ6_bitCount_0f7a4 ∈ gtb) (hR : 0 + 1 ≤ fr ∧ 8 + (1 + 11) + 0 ≤ lo) (hW : (st.map fun v => v.category).sum ≤ 8) (hd : decode cc pc = .ok (.invokestatic index, 3)) {K : Int32 → Option ρ} (h : ∀ v, Sim x (wxC z) nL inj (K v) (pc + 3) lv (.int v :: st) σ) : Sim x (wxC z) nL inj ((J6_bitCount_0f7a4 x0 σ).bind K) pc lv (.int x0 :: st) σ :=
  S_callS C (As := [.int x0]) (inj1 := (jI σ)) mw_J6_bitCount_0f7a4 ms_J6_bitCount_0f7a4 hl (fun ro hro => con_J6_bitCount_0f7a4 z (mL x) x0 σ ro hro) hR rfl rfl hW hd h
set_option maxRecDepth 10000 in
theorem WT_J7_fill_53178_L5 {x : MX} {z : ZT} (C : Cok x (wxC z) RJ7 cJ7_fill_53178 4 none 0 0) (q : Nat) (ln : Nat) (hq : q < 59) (hsh : ∀ τ : St, cellAt (wSh (wxC z)) τ q = .inl (z.2.1, ln, .inl (gI τ q))) : ∀ (n : Nat) (x1 : Int32) (x2 : Int32) (x3 : Int32) (σ : St), Sim x (wxC z) 4 jV (J7_fill_53178_L5 q ln n x1 x2 x3 σ) 5 [(0, .ref (aC z q)), (1, .int x1), (2, .int x2), (3, .int x3)] [] σ := by
  intro n
  induction n with
  | zero =>
    intros
    exact S_none
  | succ n ih =>
    intro x1 x2 x3 σ
    rw [J7_fill_53178_L5]
    refine S_iload_n C 2 dJ7_fill_53178_5 rfl ?_
    refine S_iload_n C 3 dJ7_fill_53178_6 rfl ?_
    refine S_icmp_ge C 20 dJ7_fill_53178_7 (by decide) ?_ ?_
    · exact S_vret C rfl dJ7_fill_53178_20
    · refine S_aload_n C 0 dJ7_fill_53178_10 rfl ?_
      refine S_iload_n C 2 dJ7_fill_53178_11 rfl ?_
      refine S_iload_n C 1 dJ7_fill_53178_12 rfl ?_
      refine S_iast C (t0 := 0) hq rfl hsh rfl dJ7_fill_53178_13 (fun _ => ?_)
      refine S_bndS (fun σ2 _ => ?_)
      refine S_iinc C 2 [(2, .int (x2 + 1)), (0, .ref (aC z q)), (1, .int x1), (3, .int x3)] (x2 + 1) dJ7_fill_53178_14 rfl rfl (by decide) rfl ?_
      refine S_goto C 5 dJ7_fill_53178_17 (by decide) ?_
      exact S_sub [1, 2, 0, 3] rfl (ih x1 (x2 + 1) x3 σ2)
set_option maxRecDepth 10000 in
theorem WT_J7_fill_53178 {x : MX} {z : ZT} (C : Cok x (wxC z) RJ7 cJ7_fill_53178 4 none 0 0) (q : Nat) (ln : Nat) (x1 : Int32) (σ : St) (hq : q < 59) (hsh : ∀ τ : St, cellAt (wSh (wxC z)) τ q = .inl (z.2.1, ln, .inl (gI τ q))) : Sim x (wxC z) 4 jV (J7_fill_53178 q ln x1 σ) 0 [(0, .ref (aC z q)), (1, .int x1)] [] σ := by
  rw [J7_fill_53178]
  refine S_iconst C (0) dJ7_fill_53178_0 (by decide) ?_
  refine S_istore_n C [(2, .int 0), (0, .ref (aC z q)), (1, .int x1)] (i := 2) dJ7_fill_53178_1 rfl (by decide) rfl ?_
  refine S_aload_n C 1 dJ7_fill_53178_2 rfl ?_
  refine S_alen C (t0 := 0) hq rfl (hsh σ) rfl rfl dJ7_fill_53178_3 ?_
  refine S_bndT (fun x3_1 _ => ?_)
  refine S_istore_n C [(3, .int x3_1), (2, .int 0), (0, .ref (aC z q)), (1, .int x1)] (i := 3) dJ7_fill_53178_4 rfl (by decide) rfl ?_
  exact S_sub [2, 3, 1, 0] rfl (WT_J7_fill_53178_L5 C q ln hq hsh FU x1 (0 : Int32) x3_1 σ)
set_option maxRecDepth 10000 in
theorem con_J7_fill_53178 (z : ZT) (l : Launch) (q : Nat) (ln : Nat) (x1 : Int32) (σ : St) (hq : q < 59) (hsh : ∀ τ : St, cellAt (wSh (wxC z)) τ q = .inl (z.2.1, ln, .inl (gI τ q))) : ∀ ro, J7_fill_53178 q ln x1 σ = some ro → Con (wxC z) l yJ7_fill_53178 cJ7_fill_53178 4 none 0 0 [.ref (aC z q), .int x1] σ (jV ro) :=
  fun ro hk => Con_of hk (by decide) (Nat.le_of_ble_eq_true rfl) (fun x hx C => WT_J7_fill_53178 C q ln x1 σ hq hsh)
set_option maxRecDepth 10000 in
theorem K_J7_fill_53178 {x : MX} {z : ZT} {own : String} {cc : ByteArray} {nL : Nat} {ret : Option FieldType} {fr lo : Nat} {ρ : Type} {inj : ρ → Option Value × St} {pc : Nat} {lv : List (Nat × Value)} {st : List Value} {σ : St} (C : Cok x (wxC z) own cc nL ret fr lo) {q : Nat} {ln : Nat} {x1 : Int32} (hq : q < 59) (hsh : ∀ τ : St, cellAt (wSh (wxC z)) τ q = .inl (z.2.1, ln, .inl (gI τ q))) {index : Nat} (hl : Cond.methodLink own index yJ7_fill_53178 ∈ gtb) (hR : 0 + 1 ≤ fr ∧ 8 + (4 + 11) + 0 ≤ lo) (hW : (st.map fun v => v.category).sum ≤ 8) (hd : decode cc pc = .ok (.invokestatic index, 3)) {K : St → Option ρ} (h : ∀ v, Sim x (wxC z) nL inj (K v) (pc + 3) lv (st) v) : Sim x (wxC z) nL inj ((J7_fill_53178 q ln x1 σ).bind K) pc lv (.int x1 :: .ref (aC z q) :: st) σ :=
  S_callS C (As := [.ref (aC z q), .int x1]) (inj1 := jV) mw_J7_fill_53178 ms_J7_fill_53178 hl (fun ro hro => con_J7_fill_53178 z (mL x) q ln x1 σ hq hsh ro hro) hR rfl rfl hW hd h
set_option maxRecDepth 10000 in
theorem WT_J13_bitCount_95d88 {x : MX} {z : ZT} (C : Cok x (wxC z) RJ13 cJ13_bitCount_95d88 2 (some .int) 0 0) (x0 : Int64) (σ : St) : Sim x (wxC z) 2 (jI σ) (J13_bitCount_95d88 x0 σ) 0 [(0, .long x0)] [] σ := by
  rw [J13_bitCount_95d88]
  refine S_lload_n C 0 dJ13_bitCount_95d88_0 rfl ?_
  refine S_lload_n C 0 dJ13_bitCount_95d88_1 rfl ?_
  refine S_iconst C (1) dJ13_bitCount_95d88_2 (by decide) ?_
  refine S_lushr C dJ13_bitCount_95d88_3 ?_
  refine S_ldc2 C (6148914691236517205) kl_J13_314 dJ13_bitCount_95d88_4 ?_
  refine S_land C dJ13_bitCount_95d88_7 ?_
  refine S_lsub C dJ13_bitCount_95d88_8 ?_
  refine S_bndTL (fun x0_1 _ => ?_)
  refine S_lstore_n C [(0, .long x0_1)] (i := 0) dJ13_bitCount_95d88_9 rfl (by decide) rfl ?_
  refine S_lload_n C 0 dJ13_bitCount_95d88_10 rfl ?_
  refine S_ldc2 C (3689348814741910323) kl_J13_316 dJ13_bitCount_95d88_11 ?_
  refine S_land C dJ13_bitCount_95d88_14 ?_
  refine S_lload_n C 0 dJ13_bitCount_95d88_15 rfl ?_
  refine S_iconst C (2) dJ13_bitCount_95d88_16 (by decide) ?_
  refine S_lushr C dJ13_bitCount_95d88_17 ?_
  refine S_ldc2 C (3689348814741910323) kl_J13_316 dJ13_bitCount_95d88_18 ?_
  refine S_land C dJ13_bitCount_95d88_21 ?_
  refine S_ladd C dJ13_bitCount_95d88_22 ?_
  refine S_bndTL (fun x0_2 _ => ?_)
  refine S_lstore_n C [(0, .long x0_2)] (i := 0) dJ13_bitCount_95d88_23 rfl (by decide) rfl ?_
  refine S_lload_n C 0 dJ13_bitCount_95d88_24 rfl ?_
  refine S_lload_n C 0 dJ13_bitCount_95d88_25 rfl ?_
  refine S_iconst C (4) dJ13_bitCount_95d88_26 (by decide) ?_
  refine S_lushr C dJ13_bitCount_95d88_27 ?_
  refine S_ladd C dJ13_bitCount_95d88_28 ?_
  refine S_ldc2 C (1085102592571150095) kl_J13_318 dJ13_bitCount_95d88_29 ?_
  refine S_land C dJ13_bitCount_95d88_32 ?_
  refine S_bndTL (fun x0_3 _ => ?_)
  refine S_lstore_n C [(0, .long x0_3)] (i := 0) dJ13_bitCount_95d88_33 rfl (by decide) rfl ?_
  refine S_lload_n C 0 dJ13_bitCount_95d88_34 rfl ?_
  refine S_lload_n C 0 dJ13_bitCount_95d88_35 rfl ?_
  refine S_bipush C (8) dJ13_bitCount_95d88_36 (by decide) ?_
  refine S_lushr C dJ13_bitCount_95d88_38 ?_
  refine S_ladd C dJ13_bitCount_95d88_39 ?_
  refine S_bndTL (fun x0_4 _ => ?_)
  refine S_lstore_n C [(0, .long x0_4)] (i := 0) dJ13_bitCount_95d88_40 rfl (by decide) rfl ?_
  refine S_lload_n C 0 dJ13_bitCount_95d88_41 rfl ?_
  refine S_lload_n C 0 dJ13_bitCount_95d88_42 rfl ?_
  refine S_bipush C (16) dJ13_bitCount_95d88_43 (by decide) ?_
  refine S_lushr C dJ13_bitCount_95d88_45 ?_
  refine S_ladd C dJ13_bitCount_95d88_46 ?_
  refine S_bndTL (fun x0_5 _ => ?_)
  refine S_lstore_n C [(0, .long x0_5)] (i := 0) dJ13_bitCount_95d88_47 rfl (by decide) rfl ?_
  refine S_lload_n C 0 dJ13_bitCount_95d88_48 rfl ?_
  refine S_lload_n C 0 dJ13_bitCount_95d88_49 rfl ?_
  refine S_bipush C (32) dJ13_bitCount_95d88_50 (by decide) ?_
  refine S_lushr C dJ13_bitCount_95d88_52 ?_
  refine S_ladd C dJ13_bitCount_95d88_53 ?_
  refine S_bndTL (fun x0_6 _ => ?_)
  refine S_lstore_n C [(0, .long x0_6)] (i := 0) dJ13_bitCount_95d88_54 rfl (by decide) rfl ?_
  refine S_lload_n C 0 dJ13_bitCount_95d88_55 rfl ?_
  refine S_l2i C dJ13_bitCount_95d88_56 ?_
  refine S_bipush C (127) dJ13_bitCount_95d88_57 (by decide) ?_
  refine S_iand C dJ13_bitCount_95d88_59 ?_
  exact S_iret C rfl dJ13_bitCount_95d88_60
set_option maxRecDepth 10000 in
theorem con_J13_bitCount_95d88 (z : ZT) (l : Launch) (x0 : Int64) (σ : St) : ∀ ro, J13_bitCount_95d88 x0 σ = some ro → Con (wxC z) l yJ13_bitCount_95d88 cJ13_bitCount_95d88 2 (some .int) 0 0 [.long x0] σ ((jI σ) ro) :=
  fun ro hk => Con_of hk (by decide) (Nat.le_of_ble_eq_true rfl) (fun x hx C => WT_J13_bitCount_95d88 C x0 σ)
set_option maxRecDepth 10000 in
theorem K_J13_bitCount_95d88 {x : MX} {z : ZT} {own : String} {cc : ByteArray} {nL : Nat} {ret : Option FieldType} {fr lo : Nat} {ρ : Type} {inj : ρ → Option Value × St} {pc : Nat} {lv : List (Nat × Value)} {st : List Value} {σ : St} (C : Cok x (wxC z) own cc nL ret fr lo) {x0 : Int64} {index : Nat} (hl : Cond.methodLink own index yJ13_bitCount_95d88 ∈ gtb) (hR : 0 + 1 ≤ fr ∧ 8 + (2 + 11) + 0 ≤ lo) (hW : (st.map fun v => v.category).sum ≤ 8) (hd : decode cc pc = .ok (.invokestatic index, 3)) {K : Int32 → Option ρ} (h : ∀ v, Sim x (wxC z) nL inj (K v) (pc + 3) lv (.int v :: st) σ) : Sim x (wxC z) nL inj ((J13_bitCount_95d88 x0 σ).bind K) pc lv (.long x0 :: st) σ :=
  S_callS C (As := [.long x0]) (inj1 := (jI σ)) mw_J13_bitCount_95d88 ms_J13_bitCount_95d88 hl (fun ro hro => con_J13_bitCount_95d88 z (mL x) x0 σ ro hro) hR rfl rfl hW hd h
