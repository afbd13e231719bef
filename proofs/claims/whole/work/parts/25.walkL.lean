set_option maxRecDepth 10000 in
theorem WT_X3_isKind {x : MX} {z : ZT} (C : Cok x (wxC z) RX3 cX3_isKind 1 (some .boolean) 0 0) (x0 : Int32) (σ : St) : Sim x (wxC z) 1 (jI σ) (X3_isKind x0 σ) 0 [(0, .int x0)] [] σ := by
  rw [X3_isKind]
  refine S_iload_n C 0 dX3_isKind_0 rfl ?_
  refine S_if_lt C 13 dX3_isKind_1 (by decide) ?_ ?_
  · refine S_iconst C (0) dX3_isKind_13 (by decide) ?_
    exact S_zret C rfl rfl dX3_isKind_14
  · refine S_iload_n C 0 dX3_isKind_4 rfl ?_
    refine S_iconst C (4) dX3_isKind_5 (by decide) ?_
    refine S_icmp_gt C 13 dX3_isKind_6 (by decide) ?_ ?_
    · refine S_iconst C (0) dX3_isKind_13 (by decide) ?_
      exact S_zret C rfl rfl dX3_isKind_14
    · refine S_iconst C (1) dX3_isKind_9 (by decide) ?_
      refine S_goto C 14 dX3_isKind_10 (by decide) ?_
      exact S_zret C rfl rfl dX3_isKind_14
set_option maxRecDepth 10000 in
theorem con_X3_isKind (z : ZT) (l : Launch) (x0 : Int32) (σ : St) : ∀ ro, X3_isKind x0 σ = some ro → Con (wxC z) l yX3_isKind cX3_isKind 1 (some .boolean) 0 0 [.int x0] σ ((jI σ) ro) :=
  fun ro hk => Con_of hk (by decide) (Nat.le_of_ble_eq_true rfl) (fun x hx C => WT_X3_isKind C x0 σ)
set_option maxRecDepth 10000 in
theorem K_X3_isKind {x : MX} {z : ZT} {own : String} {cc : ByteArray} {nL : Nat} {ret : Option FieldType} {fr lo : Nat} {ρ : Type} {inj : ρ → Option Value × St} {pc : Nat} {lv : List (Nat × Value)} {st : List Value} {σ : St} (C : Cok x (wxC z) own cc nL ret fr lo) {x0 : Int32} {index : Nat} (hl : Cond.methodLink own index yX3_isKind ∈ gtb) (hR : 0 + 1 ≤ fr ∧ 8 + (1 + 11) + 0 ≤ lo) (hW : (st.map fun v => v.category).sum ≤ 8) (hd : decode cc pc = .ok (.invokestatic index, 3)) {K : Int32 → Option ρ} (h : ∀ v, Sim x (wxC z) nL inj (K v) (pc + 3) lv (.int v :: st) σ) : Sim x (wxC z) nL inj ((X3_isKind x0 σ).bind K) pc lv (.int x0 :: st) σ :=
  S_callS C (As := [.int x0]) (inj1 := (jI σ)) mw_X3_isKind ms_X3_isKind hl (fun ro hro => con_X3_isKind z (mL x) x0 σ ro hro) hR rfl rfl hW hd h
set_option maxRecDepth 10000 in
theorem WT_X3_has {x : MX} {z : ZT} (C : Cok x (wxC z) RX3 cX3_has 2 (some .boolean) 0 0) (x1 : Int32) (σ : St) : Sim x (wxC z) 2 (jI σ) (X3_has x1 σ) 0 [(0, .ref (aC z 34)), (1, .int x1)] [] σ := by
  rw [X3_has]
  refine S_iload_n C 1 dX3_has_0 rfl ?_
  refine S_if_lt C 16 dX3_has_1 (by decide) ?_ ?_
  · refine S_iconst C (0) dX3_has_16 (by decide) ?_
    exact S_zret C rfl rfl dX3_has_17
  · refine S_iload_n C 1 dX3_has_4 rfl ?_
    refine S_aload_n C 0 dX3_has_5 rfl ?_
    refine G_X3_size C fl_X3_53 dX3_has_6 ?_
    refine S_icmp_ge C 16 dX3_has_9 (by decide) ?_ ?_
    · refine S_iconst C (0) dX3_has_16 (by decide) ?_
      exact S_zret C rfl rfl dX3_has_17
    · refine S_iconst C (1) dX3_has_12 (by decide) ?_
      refine S_goto C 17 dX3_has_13 (by decide) ?_
      exact S_zret C rfl rfl dX3_has_17
set_option maxRecDepth 10000 in
theorem con_X3_has (z : ZT) (l : Launch) (x1 : Int32) (σ : St) : ∀ ro, X3_has x1 σ = some ro → Con (wxC z) l yX3_has cX3_has 2 (some .boolean) 0 0 [.ref (aC z 34), .int x1] σ ((jI σ) ro) :=
  fun ro hk => Con_of hk (by decide) (Nat.le_of_ble_eq_true rfl) (fun x hx C => WT_X3_has C x1 σ)
set_option maxRecDepth 10000 in
theorem K_X3_has {x : MX} {z : ZT} {own : String} {cc : ByteArray} {nL : Nat} {ret : Option FieldType} {fr lo : Nat} {ρ : Type} {inj : ρ → Option Value × St} {pc : Nat} {lv : List (Nat × Value)} {st : List Value} {σ : St} (C : Cok x (wxC z) own cc nL ret fr lo) {x1 : Int32} {index : Nat} (hl : Cond.methodLink own index yX3_has ∈ gtb) (hR : 0 + 1 ≤ fr ∧ 8 + (2 + 11) + 0 ≤ lo) (hW : (st.map fun v => v.category).sum ≤ 8) (hd : decode cc pc = .ok (.invokevirtual index, 3)) {K : Int32 → Option ρ} (h : ∀ v, Sim x (wxC z) nL inj (K v) (pc + 3) lv (.int v :: st) σ) : Sim x (wxC z) nL inj ((X3_has x1 σ).bind K) pc lv (.int x1 :: .ref (aC z 34) :: st) σ :=
  S_callV C (As := [.int x1]) (q := 34) (inj1 := (jI σ)) mw_X3_has mv_X3_has hl (fun ro hro => con_X3_has z (mL x) x1 σ ro hro) hR rfl (show 34 < 59 by decide) rfl (ce_X3 z σ) rfl rfl hW hd h
set_option maxRecDepth 10000 in
theorem WT_X3_append {x : MX} {z : ZT} (C : Cok x (wxC z) RX3 cX3_append 6 (some .int) 0 0) (x1 : Int32) (x2 : Int32) (x3 : Int32) (x4 : Int32) (x5 : Int32) (σ : St) : Sim x (wxC z) 6 jIS (X3_append x1 x2 x3 x4 x5 σ) 0 [(0, .ref (aC z 34)), (1, .int x1), (2, .int x2), (3, .int x3), (4, .int x4), (5, .int x5)] [] σ := by
  rw [X3_append]
  refine S_aload_n C 0 dX3_append_0 rfl ?_
  refine G_X3_size C fl_X3_53 dX3_append_1 ?_
  refine S_bipush C (40) dX3_append_4 (by decide) ?_
  refine S_icmp_lt C 12 dX3_append_6 (by decide) ?_ ?_
  · refine S_aload_n C 0 dX3_append_12 rfl ?_
    refine G_X3_book C fl_X3_19 dX3_append_13 ?_
    refine S_aload_n C 0 dX3_append_16 rfl ?_
    refine G_X3_size C fl_X3_53 dX3_append_17 ?_
    refine S_iload_n C 1 dX3_append_20 rfl ?_
    refine T_X3_book C dX3_append_21 (fun _ => ?_)
    refine S_bndS (fun σ1 _ => ?_)
    refine S_aload_n C 0 dX3_append_22 rfl ?_
    refine G_X3_year C fl_X3_23 dX3_append_23 ?_
    refine S_aload_n C 0 dX3_append_26 rfl ?_
    refine G_X3_size C fl_X3_53 dX3_append_27 ?_
    refine S_iload_n C 2 dX3_append_30 rfl ?_
    refine T_X3_year C dX3_append_31 (fun _ => ?_)
    refine S_bndS (fun σ2 _ => ?_)
    refine S_aload_n C 0 dX3_append_32 rfl ?_
    refine G_X3_kind C fl_X3_26 dX3_append_33 ?_
    refine S_aload_n C 0 dX3_append_36 rfl ?_
    refine G_X3_size C fl_X3_53 dX3_append_37 ?_
    refine S_iload C 4 dX3_append_40 rfl ?_
    refine T_X3_kind C dX3_append_42 (fun _ => ?_)
    refine S_bndS (fun σ3 _ => ?_)
    refine S_aload_n C 0 dX3_append_43 rfl ?_
    refine G_X3_came C fl_X3_29 dX3_append_44 ?_
    refine S_aload_n C 0 dX3_append_47 rfl ?_
    refine G_X3_size C fl_X3_53 dX3_append_48 ?_
    refine S_iload C 5 dX3_append_51 rfl ?_
    refine T_X3_came C dX3_append_53 (fun _ => ?_)
    refine S_bndS (fun σ4 _ => ?_)
    refine S_aload_n C 0 dX3_append_54 rfl ?_
    refine G_X3_earliest C fl_X3_41 dX3_append_55 ?_
    refine S_aload_n C 0 dX3_append_58 rfl ?_
    refine G_X3_size C fl_X3_53 dX3_append_59 ?_
    refine S_iload_n C 3 dX3_append_62 rfl ?_
    refine T_X3_earliest C dX3_append_63 (fun _ => ?_)
    refine S_bndS (fun σ5 _ => ?_)
    refine S_aload_n C 0 dX3_append_64 rfl ?_
    refine G_X3_latest C fl_X3_32 dX3_append_65 ?_
    refine S_aload_n C 0 dX3_append_68 rfl ?_
    refine G_X3_size C fl_X3_53 dX3_append_69 ?_
    refine S_iload_n C 3 dX3_append_72 rfl ?_
    refine T_X3_latest C dX3_append_73 (fun _ => ?_)
    refine S_bndS (fun σ6 _ => ?_)
    refine S_aload_n C 0 dX3_append_74 rfl ?_
    refine G_X3_times C fl_X3_35 dX3_append_75 ?_
    refine S_aload_n C 0 dX3_append_78 rfl ?_
    refine G_X3_size C fl_X3_53 dX3_append_79 ?_
    refine S_iconst C (1) dX3_append_82 (by decide) ?_
    refine T_X3_times C dX3_append_83 (fun _ => ?_)
    refine S_bndS (fun σ7 _ => ?_)
    refine S_aload_n C 0 dX3_append_84 rfl ?_
    refine G_X3_fathers C fl_X3_38 dX3_append_85 ?_
    refine S_aload_n C 0 dX3_append_88 rfl ?_
    refine G_X3_size C fl_X3_53 dX3_append_89 ?_
    refine S_bipush C (-4) dX3_append_92 (by decide) ?_
    refine T_X3_fathers C dX3_append_94 (fun _ => ?_)
    refine S_bndS (fun σ8 _ => ?_)
    refine S_aload_n C 0 dX3_append_95 rfl ?_
    refine S_dup C dX3_append_96 rfl ?_
    refine G_X3_size C fl_X3_53 dX3_append_97 ?_
    refine S_iconst C (1) dX3_append_100 (by decide) ?_
    refine S_iadd C dX3_append_101 ?_
    refine P_X3_size C fl_X3_53 dX3_append_102 ?_
    refine S_bndS (fun σ9 _ => ?_)
    refine S_aload_n C 0 dX3_append_105 rfl ?_
    refine G_X3_size C fl_X3_53 dX3_append_106 ?_
    refine S_iconst C (1) dX3_append_109 (by decide) ?_
    refine S_isub C dX3_append_110 ?_
    exact S_iret C rfl dX3_append_111
  · refine S_bipush C (-3) dX3_append_9 (by decide) ?_
    exact S_iret C rfl dX3_append_11
set_option maxRecDepth 10000 in
theorem con_X3_append (z : ZT) (l : Launch) (x1 : Int32) (x2 : Int32) (x3 : Int32) (x4 : Int32) (x5 : Int32) (σ : St) : ∀ ro, X3_append x1 x2 x3 x4 x5 σ = some ro → Con (wxC z) l yX3_append cX3_append 6 (some .int) 0 0 [.ref (aC z 34), .int x1, .int x2, .int x3, .int x4, .int x5] σ (jIS ro) :=
  fun ro hk => Con_of hk (by decide) (Nat.le_of_ble_eq_true rfl) (fun x hx C => WT_X3_append C x1 x2 x3 x4 x5 σ)
set_option maxRecDepth 10000 in
theorem K_X3_append {x : MX} {z : ZT} {own : String} {cc : ByteArray} {nL : Nat} {ret : Option FieldType} {fr lo : Nat} {ρ : Type} {inj : ρ → Option Value × St} {pc : Nat} {lv : List (Nat × Value)} {st : List Value} {σ : St} (C : Cok x (wxC z) own cc nL ret fr lo) {x1 : Int32} {x2 : Int32} {x3 : Int32} {x4 : Int32} {x5 : Int32} {index : Nat} (hl : Cond.methodLink own index yX3_append ∈ gtb) (hR : 0 + 1 ≤ fr ∧ 8 + (6 + 11) + 0 ≤ lo) (hW : (st.map fun v => v.category).sum ≤ 8) (hd : decode cc pc = .ok (.invokevirtual index, 3)) {K : (Int32 × St) → Option ρ} (h : ∀ v, Sim x (wxC z) nL inj (K v) (pc + 3) lv (.int v.1 :: st) v.2) : Sim x (wxC z) nL inj ((X3_append x1 x2 x3 x4 x5 σ).bind K) pc lv (.int x5 :: .int x4 :: .int x3 :: .int x2 :: .int x1 :: .ref (aC z 34) :: st) σ :=
  S_callV C (As := [.int x1, .int x2, .int x3, .int x4, .int x5]) (q := 34) (inj1 := jIS) mw_X3_append mv_X3_append hl (fun ro hro => con_X3_append z (mL x) x1 x2 x3 x4 x5 σ ro hro) hR rfl (show 34 < 59 by decide) rfl (ce_X3 z σ) rfl rfl hW hd h
set_option maxRecDepth 10000 in
theorem WT_X3_reread {x : MX} {z : ZT} (C : Cok x (wxC z) RX3 cX3_reread 4 (some .int) 0 0) (x1 : Int32) (x2 : Int32) (x3 : Int32) (σ : St) : Sim x (wxC z) 4 jIS (X3_reread x1 x2 x3 σ) 0 [(0, .ref (aC z 34)), (1, .int x1), (2, .int x2), (3, .int x3)] [] σ := by
  rw [X3_reread]
  refine S_aload_n C 0 dX3_reread_0 rfl ?_
  refine G_X3_readings C fl_X3_57 dX3_reread_1 ?_
  refine S_bipush C (60) dX3_reread_4 (by decide) ?_
  refine S_icmp_lt C 12 dX3_reread_6 (by decide) ?_ ?_
  · refine S_aload_n C 0 dX3_reread_12 rfl ?_
    refine G_X3_readingLine C fl_X3_44 dX3_reread_13 ?_
    refine S_aload_n C 0 dX3_reread_16 rfl ?_
    refine G_X3_readings C fl_X3_57 dX3_reread_17 ?_
    refine S_iload_n C 1 dX3_reread_20 rfl ?_
    refine T_X3_readingLine C dX3_reread_21 (fun _ => ?_)
    refine S_bndS (fun σ1 _ => ?_)
    refine S_aload_n C 0 dX3_reread_22 rfl ?_
    refine G_X3_readingDay C fl_X3_47 dX3_reread_23 ?_
    refine S_aload_n C 0 dX3_reread_26 rfl ?_
    refine G_X3_readings C fl_X3_57 dX3_reread_27 ?_
    refine S_iload_n C 3 dX3_reread_30 rfl ?_
    refine T_X3_readingDay C dX3_reread_31 (fun _ => ?_)
    refine S_bndS (fun σ2 _ => ?_)
    refine S_aload_n C 0 dX3_reread_32 rfl ?_
    refine G_X3_readingWord C fl_X3_50 dX3_reread_33 ?_
    refine S_aload_n C 0 dX3_reread_36 rfl ?_
    refine G_X3_readings C fl_X3_57 dX3_reread_37 ?_
    refine S_iload_n C 2 dX3_reread_40 rfl ?_
    refine T_X3_readingWord C dX3_reread_41 (fun _ => ?_)
    refine S_bndS (fun σ3 _ => ?_)
    refine S_aload_n C 0 dX3_reread_42 rfl ?_
    refine S_dup C dX3_reread_43 rfl ?_
    refine G_X3_readings C fl_X3_57 dX3_reread_44 ?_
    refine S_iconst C (1) dX3_reread_47 (by decide) ?_
    refine S_iadd C dX3_reread_48 ?_
    refine P_X3_readings C fl_X3_57 dX3_reread_49 ?_
    refine S_bndS (fun σ4 _ => ?_)
    refine S_aload_n C 0 dX3_reread_52 rfl ?_
    refine G_X3_latest C fl_X3_32 dX3_reread_53 ?_
    refine S_iload_n C 1 dX3_reread_56 rfl ?_
    refine S_iload_n C 2 dX3_reread_57 rfl ?_
    refine T_X3_latest C dX3_reread_58 (fun _ => ?_)
    refine S_bndS (fun σ5 _ => ?_)
    refine S_aload_n C 0 dX3_reread_59 rfl ?_
    refine G_X3_times C fl_X3_35 dX3_reread_60 ?_
    refine S_iload_n C 1 dX3_reread_63 rfl ?_
    refine S_dup2 C dX3_reread_64 rfl rfl ?_
    refine L_X3_times C dX3_reread_65 (fun _ => ?_)
    refine S_iconst C (1) dX3_reread_66 (by decide) ?_
    refine S_iadd C dX3_reread_67 ?_
    refine T_X3_times C dX3_reread_68 (fun _ => ?_)
    refine S_bndS (fun σ6 _ => ?_)
    refine S_aload_n C 0 dX3_reread_69 rfl ?_
    refine G_X3_times C fl_X3_35 dX3_reread_70 ?_
    refine S_iload_n C 1 dX3_reread_73 rfl ?_
    refine L_X3_times C dX3_reread_74 (fun _ => ?_)
    exact S_iret C rfl dX3_reread_75
  · refine S_bipush C (-3) dX3_reread_9 (by decide) ?_
    exact S_iret C rfl dX3_reread_11
set_option maxRecDepth 10000 in
theorem con_X3_reread (z : ZT) (l : Launch) (x1 : Int32) (x2 : Int32) (x3 : Int32) (σ : St) : ∀ ro, X3_reread x1 x2 x3 σ = some ro → Con (wxC z) l yX3_reread cX3_reread 4 (some .int) 0 0 [.ref (aC z 34), .int x1, .int x2, .int x3] σ (jIS ro) :=
  fun ro hk => Con_of hk (by decide) (Nat.le_of_ble_eq_true rfl) (fun x hx C => WT_X3_reread C x1 x2 x3 σ)
set_option maxRecDepth 10000 in
theorem K_X3_reread {x : MX} {z : ZT} {own : String} {cc : ByteArray} {nL : Nat} {ret : Option FieldType} {fr lo : Nat} {ρ : Type} {inj : ρ → Option Value × St} {pc : Nat} {lv : List (Nat × Value)} {st : List Value} {σ : St} (C : Cok x (wxC z) own cc nL ret fr lo) {x1 : Int32} {x2 : Int32} {x3 : Int32} {index : Nat} (hl : Cond.methodLink own index yX3_reread ∈ gtb) (hR : 0 + 1 ≤ fr ∧ 8 + (4 + 11) + 0 ≤ lo) (hW : (st.map fun v => v.category).sum ≤ 8) (hd : decode cc pc = .ok (.invokevirtual index, 3)) {K : (Int32 × St) → Option ρ} (h : ∀ v, Sim x (wxC z) nL inj (K v) (pc + 3) lv (.int v.1 :: st) v.2) : Sim x (wxC z) nL inj ((X3_reread x1 x2 x3 σ).bind K) pc lv (.int x3 :: .int x2 :: .int x1 :: .ref (aC z 34) :: st) σ :=
  S_callV C (As := [.int x1, .int x2, .int x3]) (q := 34) (inj1 := jIS) mw_X3_reread mv_X3_reread hl (fun ro hro => con_X3_reread z (mL x) x1 x2 x3 σ ro hro) hR rfl (show 34 < 59 by decide) rfl (ce_X3 z σ) rfl rfl hW hd h
set_option maxRecDepth 10000 in
theorem WT_X3_knownOn_L23 {x : MX} {z : ZT} (C : Cok x (wxC z) RX3 cX3_knownOn 5 (some .int) 0 0) (σ : St) : ∀ (n : Nat) (x1 : Int32) (x2 : Int32) (x3 : Int32) (x4 : Int32), Sim x (wxC z) 5 (jI σ) (X3_knownOn_L23 σ n x1 x2 x3 x4) 23 [(0, .ref (aC z 34)), (1, .int x1), (2, .int x2), (3, .int x3), (4, .int x4)] [] σ := by
  intro n
  induction n with
  | zero =>
    intros
    exact S_none
  | succ n ih =>
    intro x1 x2 x3 x4
    rw [X3_knownOn_L23]
    refine S_iload C 4 dX3_knownOn_23 rfl ?_
    refine S_aload_n C 0 dX3_knownOn_25 rfl ?_
    refine G_X3_readings C fl_X3_57 dX3_knownOn_26 ?_
    refine S_icmp_ge C 68 dX3_knownOn_29 (by decide) ?_ ?_
    · refine S_iload_n C 3 dX3_knownOn_68 rfl ?_
      exact S_iret C rfl dX3_knownOn_69
    · refine S_aload_n C 0 dX3_knownOn_32 rfl ?_
      refine G_X3_readingLine C fl_X3_44 dX3_knownOn_33 ?_
      refine S_iload C 4 dX3_knownOn_36 rfl ?_
      refine L_X3_readingLine C dX3_knownOn_38 (fun _ => ?_)
      refine S_iload_n C 1 dX3_knownOn_39 rfl ?_
      refine S_icmp_ne C 62 dX3_knownOn_40 (by decide) ?_ ?_
      · refine S_iinc C 4 [(4, .int (x4 + 1)), (0, .ref (aC z 34)), (1, .int x1), (2, .int x2), (3, .int x3)] (x4 + 1) dX3_knownOn_62 rfl rfl (by decide) rfl ?_
        refine S_goto C 23 dX3_knownOn_65 (by decide) ?_
        exact S_sub [1, 2, 3, 4, 0] rfl (ih x1 x2 x3 (x4 + 1))
      · refine S_aload_n C 0 dX3_knownOn_43 rfl ?_
        refine G_X3_readingDay C fl_X3_47 dX3_knownOn_44 ?_
        refine S_iload C 4 dX3_knownOn_47 rfl ?_
        refine L_X3_readingDay C dX3_knownOn_49 (fun _ => ?_)
        refine S_iload_n C 2 dX3_knownOn_50 rfl ?_
        refine S_icmp_gt C 62 dX3_knownOn_51 (by decide) ?_ ?_
        · refine S_iinc C 4 [(4, .int (x4 + 1)), (0, .ref (aC z 34)), (1, .int x1), (2, .int x2), (3, .int x3)] (x4 + 1) dX3_knownOn_62 rfl rfl (by decide) rfl ?_
          refine S_goto C 23 dX3_knownOn_65 (by decide) ?_
          exact S_sub [1, 2, 3, 4, 0] rfl (ih x1 x2 x3 (x4 + 1))
        · refine S_aload_n C 0 dX3_knownOn_54 rfl ?_
          refine G_X3_readingWord C fl_X3_50 dX3_knownOn_55 ?_
          refine S_iload C 4 dX3_knownOn_58 rfl ?_
          refine L_X3_readingWord C dX3_knownOn_60 (fun _ => ?_)
          refine S_bndT (fun x3_2 _ => ?_)
          refine S_istore_n C [(3, .int x3_2), (0, .ref (aC z 34)), (1, .int x1), (2, .int x2), (4, .int x4)] (i := 3) dX3_knownOn_61 rfl (by decide) rfl ?_
          refine S_iinc C 4 [(4, .int (x4 + 1)), (3, .int x3_2), (0, .ref (aC z 34)), (1, .int x1), (2, .int x2)] (x4 + 1) dX3_knownOn_62 rfl rfl (by decide) rfl ?_
          refine S_goto C 23 dX3_knownOn_65 (by decide) ?_
          exact S_sub [2, 3, 4, 1, 0] rfl (ih x1 x2 x3_2 (x4 + 1))
set_option maxRecDepth 10000 in
theorem WT_X3_knownOn {x : MX} {z : ZT} (C : Cok x (wxC z) RX3 cX3_knownOn 5 (some .int) 0 0) (x1 : Int32) (x2 : Int32) (σ : St) : Sim x (wxC z) 5 (jI σ) (X3_knownOn x1 x2 σ) 0 [(0, .ref (aC z 34)), (1, .int x1), (2, .int x2)] [] σ := by
  rw [X3_knownOn]
  refine S_aload_n C 0 dX3_knownOn_0 rfl ?_
  refine G_X3_came C fl_X3_29 dX3_knownOn_1 ?_
  refine S_iload_n C 1 dX3_knownOn_4 rfl ?_
  refine L_X3_came C dX3_knownOn_5 (fun _ => ?_)
  refine S_iload_n C 2 dX3_knownOn_6 rfl ?_
  refine S_icmp_le C 13 dX3_knownOn_7 (by decide) ?_ ?_
  · refine S_aload_n C 0 dX3_knownOn_13 rfl ?_
    refine G_X3_earliest C fl_X3_41 dX3_knownOn_14 ?_
    refine S_iload_n C 1 dX3_knownOn_17 rfl ?_
    refine L_X3_earliest C dX3_knownOn_18 (fun _ => ?_)
    refine S_bndT (fun x3_1 _ => ?_)
    refine S_istore_n C [(3, .int x3_1), (0, .ref (aC z 34)), (1, .int x1), (2, .int x2)] (i := 3) dX3_knownOn_19 rfl (by decide) rfl ?_
    refine S_iconst C (0) dX3_knownOn_20 (by decide) ?_
    refine S_istore C [(4, .int 0), (3, .int x3_1), (0, .ref (aC z 34)), (1, .int x1), (2, .int x2)] dX3_knownOn_21 (by decide) rfl ?_
    exact S_sub [2, 3, 4, 1, 0] rfl (WT_X3_knownOn_L23 C σ FU x1 x2 x3_1 (0 : Int32))
  · refine S_bipush C (-4) dX3_knownOn_10 (by decide) ?_
    exact S_iret C rfl dX3_knownOn_12
set_option maxRecDepth 10000 in
theorem con_X3_knownOn (z : ZT) (l : Launch) (x1 : Int32) (x2 : Int32) (σ : St) : ∀ ro, X3_knownOn x1 x2 σ = some ro → Con (wxC z) l yX3_knownOn cX3_knownOn 5 (some .int) 0 0 [.ref (aC z 34), .int x1, .int x2] σ ((jI σ) ro) :=
  fun ro hk => Con_of hk (by decide) (Nat.le_of_ble_eq_true rfl) (fun x hx C => WT_X3_knownOn C x1 x2 σ)
set_option maxRecDepth 10000 in
theorem K_X3_knownOn {x : MX} {z : ZT} {own : String} {cc : ByteArray} {nL : Nat} {ret : Option FieldType} {fr lo : Nat} {ρ : Type} {inj : ρ → Option Value × St} {pc : Nat} {lv : List (Nat × Value)} {st : List Value} {σ : St} (C : Cok x (wxC z) own cc nL ret fr lo) {x1 : Int32} {x2 : Int32} {index : Nat} (hl : Cond.methodLink own index yX3_knownOn ∈ gtb) (hR : 0 + 1 ≤ fr ∧ 8 + (5 + 11) + 0 ≤ lo) (hW : (st.map fun v => v.category).sum ≤ 8) (hd : decode cc pc = .ok (.invokevirtual index, 3)) {K : Int32 → Option ρ} (h : ∀ v, Sim x (wxC z) nL inj (K v) (pc + 3) lv (.int v :: st) σ) : Sim x (wxC z) nL inj ((X3_knownOn x1 x2 σ).bind K) pc lv (.int x2 :: .int x1 :: .ref (aC z 34) :: st) σ :=
  S_callV C (As := [.int x1, .int x2]) (q := 34) (inj1 := (jI σ)) mw_X3_knownOn mv_X3_knownOn hl (fun ro hro => con_X3_knownOn z (mL x) x1 x2 σ ro hro) hR rfl (show 34 < 59 by decide) rfl (ce_X3 z σ) rfl rfl hW hd h
set_option maxRecDepth 10000 in
theorem WT_X3_areIn_L2 {x : MX} {z : ZT} (C : Cok x (wxC z) RX3 cX3_areIn 4 (some .boolean) 0 0) (σ : St) : ∀ (n : Nat) (x1 : Int32) (x2 : Int32) (x3 : Int32), Sim x (wxC z) 4 (jI σ) (X3_areIn_L2 σ n x1 x2 x3) 2 [(0, .ref (aC z 34)), (1, .int x1), (2, .int x2), (3, .int x3)] [] σ := by
  intro n
  induction n with
  | zero =>
    intros
    exact S_none
  | succ n ih =>
    intro x1 x2 x3
    rw [X3_areIn_L2]
    refine S_iload_n C 3 dX3_areIn_2 rfl ?_
    refine S_aload_n C 0 dX3_areIn_3 rfl ?_
    refine G_X3_size C fl_X3_53 dX3_areIn_4 ?_
    refine S_icmp_ge C 38 dX3_areIn_7 (by decide) ?_ ?_
    · refine S_iconst C (0) dX3_areIn_38 (by decide) ?_
      exact S_zret C rfl rfl dX3_areIn_39
    · refine S_aload_n C 0 dX3_areIn_10 rfl ?_
      refine G_X3_book C fl_X3_19 dX3_areIn_11 ?_
      refine S_iload_n C 3 dX3_areIn_14 rfl ?_
      refine L_X3_book C dX3_areIn_15 (fun _ => ?_)
      refine S_iload_n C 1 dX3_areIn_16 rfl ?_
      refine S_icmp_ne C 32 dX3_areIn_17 (by decide) ?_ ?_
      · refine S_iinc C 3 [(3, .int (x3 + 1)), (0, .ref (aC z 34)), (1, .int x1), (2, .int x2)] (x3 + 1) dX3_areIn_32 rfl rfl (by decide) rfl ?_
        refine S_goto C 2 dX3_areIn_35 (by decide) ?_
        exact S_sub [1, 2, 3, 0] rfl (ih x1 x2 (x3 + 1))
      · refine S_aload_n C 0 dX3_areIn_20 rfl ?_
        refine G_X3_year C fl_X3_23 dX3_areIn_21 ?_
        refine S_iload_n C 3 dX3_areIn_24 rfl ?_
        refine L_X3_year C dX3_areIn_25 (fun _ => ?_)
        refine S_iload_n C 2 dX3_areIn_26 rfl ?_
        refine S_icmp_ne C 32 dX3_areIn_27 (by decide) ?_ ?_
        · refine S_iinc C 3 [(3, .int (x3 + 1)), (0, .ref (aC z 34)), (1, .int x1), (2, .int x2)] (x3 + 1) dX3_areIn_32 rfl rfl (by decide) rfl ?_
          refine S_goto C 2 dX3_areIn_35 (by decide) ?_
          exact S_sub [1, 2, 3, 0] rfl (ih x1 x2 (x3 + 1))
        · refine S_iconst C (1) dX3_areIn_30 (by decide) ?_
          exact S_zret C rfl rfl dX3_areIn_31
set_option maxRecDepth 10000 in
theorem WT_X3_areIn {x : MX} {z : ZT} (C : Cok x (wxC z) RX3 cX3_areIn 4 (some .boolean) 0 0) (x1 : Int32) (x2 : Int32) (σ : St) : Sim x (wxC z) 4 (jI σ) (X3_areIn x1 x2 σ) 0 [(0, .ref (aC z 34)), (1, .int x1), (2, .int x2)] [] σ := by
  rw [X3_areIn]
  refine S_iconst C (0) dX3_areIn_0 (by decide) ?_
  refine S_istore_n C [(3, .int 0), (0, .ref (aC z 34)), (1, .int x1), (2, .int x2)] (i := 3) dX3_areIn_1 rfl (by decide) rfl ?_
  exact S_sub [1, 2, 3, 0] rfl (WT_X3_areIn_L2 C σ FU x1 x2 (0 : Int32))
set_option maxRecDepth 10000 in
theorem con_X3_areIn (z : ZT) (l : Launch) (x1 : Int32) (x2 : Int32) (σ : St) : ∀ ro, X3_areIn x1 x2 σ = some ro → Con (wxC z) l yX3_areIn cX3_areIn 4 (some .boolean) 0 0 [.ref (aC z 34), .int x1, .int x2] σ ((jI σ) ro) :=
  fun ro hk => Con_of hk (by decide) (Nat.le_of_ble_eq_true rfl) (fun x hx C => WT_X3_areIn C x1 x2 σ)
set_option maxRecDepth 10000 in
theorem K_X3_areIn {x : MX} {z : ZT} {own : String} {cc : ByteArray} {nL : Nat} {ret : Option FieldType} {fr lo : Nat} {ρ : Type} {inj : ρ → Option Value × St} {pc : Nat} {lv : List (Nat × Value)} {st : List Value} {σ : St} (C : Cok x (wxC z) own cc nL ret fr lo) {x1 : Int32} {x2 : Int32} {index : Nat} (hl : Cond.methodLink own index yX3_areIn ∈ gtb) (hR : 0 + 1 ≤ fr ∧ 8 + (4 + 11) + 0 ≤ lo) (hW : (st.map fun v => v.category).sum ≤ 8) (hd : decode cc pc = .ok (.invokevirtual index, 3)) {K : Int32 → Option ρ} (h : ∀ v, Sim x (wxC z) nL inj (K v) (pc + 3) lv (.int v :: st) σ) : Sim x (wxC z) nL inj ((X3_areIn x1 x2 σ).bind K) pc lv (.int x2 :: .int x1 :: .ref (aC z 34) :: st) σ :=
  S_callV C (As := [.int x1, .int x2]) (q := 34) (inj1 := (jI σ)) mw_X3_areIn mv_X3_areIn hl (fun ro hro => con_X3_areIn z (mL x) x1 x2 σ ro hro) hR rfl (show 34 < 59 by decide) rfl (ce_X3 z σ) rfl rfl hW hd h
set_option maxRecDepth 10000 in
theorem WT_X3_howManyIn_L4 {x : MX} {z : ZT} (C : Cok x (wxC z) RX3 cX3_howManyIn 4 (some .int) 0 0) (σ : St) : ∀ (n : Nat) (x1 : Int32) (x2 : Int32) (x3 : Int32), Sim x (wxC z) 4 (jI σ) (X3_howManyIn_L4 σ n x1 x2 x3) 4 [(0, .ref (aC z 34)), (1, .int x1), (2, .int x2), (3, .int x3)] [] σ := by
  intro n
  induction n with
  | zero =>
    intros
    exact S_none
  | succ n ih =>
    intro x1 x2 x3
    rw [X3_howManyIn_L4]
    refine S_iload_n C 3 dX3_howManyIn_4 rfl ?_
    refine S_aload_n C 0 dX3_howManyIn_5 rfl ?_
    refine G_X3_size C fl_X3_53 dX3_howManyIn_6 ?_
    refine S_icmp_ge C 31 dX3_howManyIn_9 (by decide) ?_ ?_
    · refine S_iload_n C 2 dX3_howManyIn_31 rfl ?_
      exact S_iret C rfl dX3_howManyIn_32
    · refine S_aload_n C 0 dX3_howManyIn_12 rfl ?_
      refine G_X3_book C fl_X3_19 dX3_howManyIn_13 ?_
      refine S_iload_n C 3 dX3_howManyIn_16 rfl ?_
      refine L_X3_book C dX3_howManyIn_17 (fun _ => ?_)
      refine S_iload_n C 1 dX3_howManyIn_18 rfl ?_
      refine S_icmp_ne C 25 dX3_howManyIn_19 (by decide) ?_ ?_
      · refine S_iinc C 3 [(3, .int (x3 + 1)), (0, .ref (aC z 34)), (1, .int x1), (2, .int x2)] (x3 + 1) dX3_howManyIn_25 rfl rfl (by decide) rfl ?_
        refine S_goto C 4 dX3_howManyIn_28 (by decide) ?_
        exact S_sub [1, 2, 3, 0] rfl (ih x1 x2 (x3 + 1))
      · refine S_iinc C 2 [(2, .int (x2 + 1)), (0, .ref (aC z 34)), (1, .int x1), (3, .int x3)] (x2 + 1) dX3_howManyIn_22 rfl rfl (by decide) rfl ?_
        refine S_iinc C 3 [(3, .int (x3 + 1)), (2, .int (x2 + 1)), (0, .ref (aC z 34)), (1, .int x1)] (x3 + 1) dX3_howManyIn_25 rfl rfl (by decide) rfl ?_
        refine S_goto C 4 dX3_howManyIn_28 (by decide) ?_
        exact S_sub [2, 3, 1, 0] rfl (ih x1 (x2 + 1) (x3 + 1))
set_option maxRecDepth 10000 in
theorem WT_X3_howManyIn {x : MX} {z : ZT} (C : Cok x (wxC z) RX3 cX3_howManyIn 4 (some .int) 0 0) (x1 : Int32) (σ : St) : Sim x (wxC z) 4 (jI σ) (X3_howManyIn x1 σ) 0 [(0, .ref (aC z 34)), (1, .int x1)] [] σ := by
  rw [X3_howManyIn]
  refine S_iconst C (0) dX3_howManyIn_0 (by decide) ?_
  refine S_istore_n C [(2, .int 0), (0, .ref (aC z 34)), (1, .int x1)] (i := 2) dX3_howManyIn_1 rfl (by decide) rfl ?_
  refine S_iconst C (0) dX3_howManyIn_2 (by decide) ?_
  refine S_istore_n C [(3, .int 0), (2, .int 0), (0, .ref (aC z 34)), (1, .int x1)] (i := 3) dX3_howManyIn_3 rfl (by decide) rfl ?_
  exact S_sub [2, 3, 1, 0] rfl (WT_X3_howManyIn_L4 C σ FU x1 (0 : Int32) (0 : Int32))
set_option maxRecDepth 10000 in
theorem con_X3_howManyIn (z : ZT) (l : Launch) (x1 : Int32) (σ : St) : ∀ ro, X3_howManyIn x1 σ = some ro → Con (wxC z) l yX3_howManyIn cX3_howManyIn 4 (some .int) 0 0 [.ref (aC z 34), .int x1] σ ((jI σ) ro) :=
  fun ro hk => Con_of hk (by decide) (Nat.le_of_ble_eq_true rfl) (fun x hx C => WT_X3_howManyIn C x1 σ)
set_option maxRecDepth 10000 in
theorem K_X3_howManyIn {x : MX} {z : ZT} {own : String} {cc : ByteArray} {nL : Nat} {ret : Option FieldType} {fr lo : Nat} {ρ : Type} {inj : ρ → Option Value × St} {pc : Nat} {lv : List (Nat × Value)} {st : List Value} {σ : St} (C : Cok x (wxC z) own cc nL ret fr lo) {x1 : Int32} {index : Nat} (hl : Cond.methodLink own index yX3_howManyIn ∈ gtb) (hR : 0 + 1 ≤ fr ∧ 8 + (4 + 11) + 0 ≤ lo) (hW : (st.map fun v => v.category).sum ≤ 8) (hd : decode cc pc = .ok (.invokevirtual index, 3)) {K : Int32 → Option ρ} (h : ∀ v, Sim x (wxC z) nL inj (K v) (pc + 3) lv (.int v :: st) σ) : Sim x (wxC z) nL inj ((X3_howManyIn x1 σ).bind K) pc lv (.int x1 :: .ref (aC z 34) :: st) σ :=
  S_callV C (As := [.int x1]) (q := 34) (inj1 := (jI σ)) mw_X3_howManyIn mv_X3_howManyIn hl (fun ro hro => con_X3_howManyIn z (mL x) x1 σ ro hro) hR rfl (show 34 < 59 by decide) rfl (ce_X3 z σ) rfl rfl hW hd h
set_option maxRecDepth 10000 in
theorem WT_X3_nameOfLine {x : MX} {z : ZT} (C : Cok x (wxC z) RX3 cX3_nameOfLine 2 (some .int) 0 0) (x1 : Int32) (σ : St) : Sim x (wxC z) 2 (jI σ) (X3_nameOfLine x1 σ) 0 [(0, .ref (aC z 34)), (1, .int x1)] [] σ := by
  rw [X3_nameOfLine]
  refine S_aload_n C 0 dX3_nameOfLine_0 rfl ?_
  refine G_X3_words C fl_X3_9 dX3_nameOfLine_1 ?_
  refine G_X9_names C fl_X3_60 dX3_nameOfLine_4 ?_
  refine S_aload_n C 0 dX3_nameOfLine_7 rfl ?_
  refine G_X3_latest C fl_X3_32 dX3_nameOfLine_8 ?_
  refine S_iload_n C 1 dX3_nameOfLine_11 rfl ?_
  refine L_X3_latest C dX3_nameOfLine_12 (fun _ => ?_)
  refine L_X9_names C dX3_nameOfLine_13 (fun _ => ?_)
  exact S_iret C rfl dX3_nameOfLine_14
set_option maxRecDepth 10000 in
theorem con_X3_nameOfLine (z : ZT) (l : Launch) (x1 : Int32) (σ : St) : ∀ ro, X3_nameOfLine x1 σ = some ro → Con (wxC z) l yX3_nameOfLine cX3_nameOfLine 2 (some .int) 0 0 [.ref (aC z 34), .int x1] σ ((jI σ) ro) :=
  fun ro hk => Con_of hk (by decide) (Nat.le_of_ble_eq_true rfl) (fun x hx C => WT_X3_nameOfLine C x1 σ)
set_option maxRecDepth 10000 in
theorem K_X3_nameOfLine {x : MX} {z : ZT} {own : String} {cc : ByteArray} {nL : Nat} {ret : Option FieldType} {fr lo : Nat} {ρ : Type} {inj : ρ → Option Value × St} {pc : Nat} {lv : List (Nat × Value)} {st : List Value} {σ : St} (C : Cok x (wxC z) own cc nL ret fr lo) {x1 : Int32} {index : Nat} (hl : Cond.methodLink own index yX3_nameOfLine ∈ gtb) (hR : 0 + 1 ≤ fr ∧ 8 + (2 + 11) + 0 ≤ lo) (hW : (st.map fun v => v.category).sum ≤ 8) (hd : decode cc pc = .ok (.invokevirtual index, 3)) {K : Int32 → Option ρ} (h : ∀ v, Sim x (wxC z) nL inj (K v) (pc + 3) lv (.int v :: st) σ) : Sim x (wxC z) nL inj ((X3_nameOfLine x1 σ).bind K) pc lv (.int x1 :: .ref (aC z 34) :: st) σ :=
  S_callV C (As := [.int x1]) (q := 34) (inj1 := (jI σ)) mw_X3_nameOfLine mv_X3_nameOfLine hl (fun ro hro => con_X3_nameOfLine z (mL x) x1 σ ro hro) hR rfl (show 34 < 59 by decide) rfl (ce_X3 z σ) rfl rfl hW hd h
set_option maxRecDepth 10000 in
theorem WT_X3_howManyNames_L4 {x : MX} {z : ZT} (C : Cok x (wxC z) RX3 cX3_howManyNames 3 (some .int) 1 21) (σ : St) : ∀ (n : Nat) (x1 : Int32) (x2 : Int32), Sim x (wxC z) 3 (jI σ) (X3_howManyNames_L4 σ n x1 x2) 4 [(0, .ref (aC z 34)), (1, .int x1), (2, .int x2)] [] σ := by
  intro n
  induction n with
  | zero =>
    intros
    exact S_none
  | succ n ih =>
    intro x1 x2
    rw [X3_howManyNames_L4]
    refine S_iload_n C 2 dX3_howManyNames_4 rfl ?_
    refine S_aload_n C 0 dX3_howManyNames_5 rfl ?_
    refine G_X3_size C fl_X3_53 dX3_howManyNames_6 ?_
    refine S_icmp_ge C 28 dX3_howManyNames_9 (by decide) ?_ ?_
    · refine S_iload_n C 1 dX3_howManyNames_28 rfl ?_
      refine K_J6_bitCount_0f7a4 C ml_X3_69 (by decide) (Nat.le_of_ble_eq_true rfl) dX3_howManyNames_29 (fun v1 => ?_)
      exact S_iret C rfl dX3_howManyNames_32
    · refine S_iload_n C 1 dX3_howManyNames_12 rfl ?_
      refine S_iconst C (1) dX3_howManyNames_13 (by decide) ?_
      refine S_aload_n C 0 dX3_howManyNames_14 rfl ?_
      refine S_iload_n C 2 dX3_howManyNames_15 rfl ?_
      refine K_X3_nameOfLine C ml_X3_65 (by decide) (Nat.le_of_ble_eq_true rfl) dX3_howManyNames_16 (fun v2 => ?_)
      refine S_ishl C dX3_howManyNames_19 ?_
      refine S_ior C dX3_howManyNames_20 ?_
      refine S_bndT (fun x1_3 _ => ?_)
      refine S_istore_n C [(1, .int x1_3), (0, .ref (aC z 34)), (2, .int x2)] (i := 1) dX3_howManyNames_21 rfl (by decide) rfl ?_
      refine S_iinc C 2 [(2, .int (x2 + 1)), (1, .int x1_3), (0, .ref (aC z 34))] (x2 + 1) dX3_howManyNames_22 rfl rfl (by decide) rfl ?_
      refine S_goto C 4 dX3_howManyNames_25 (by decide) ?_
      exact S_sub [2, 1, 0] rfl (ih x1_3 (x2 + 1))
set_option maxRecDepth 10000 in
theorem WT_X3_howManyNames {x : MX} {z : ZT} (C : Cok x (wxC z) RX3 cX3_howManyNames 3 (some .int) 1 21)  (σ : St) : Sim x (wxC z) 3 (jI σ) (X3_howManyNames σ) 0 [(0, .ref (aC z 34))] [] σ := by
  rw [X3_howManyNames]
  refine S_iconst C (0) dX3_howManyNames_0 (by decide) ?_
  refine S_istore_n C [(1, .int 0), (0, .ref (aC z 34))] (i := 1) dX3_howManyNames_1 rfl (by decide) rfl ?_
  refine S_iconst C (0) dX3_howManyNames_2 (by decide) ?_
  refine S_istore_n C [(2, .int 0), (1, .int 0), (0, .ref (aC z 34))] (i := 2) dX3_howManyNames_3 rfl (by decide) rfl ?_
  exact S_sub [2, 1, 0] rfl (WT_X3_howManyNames_L4 C σ FU (0 : Int32) (0 : Int32))
set_option maxRecDepth 10000 in
theorem con_X3_howManyNames (z : ZT) (l : Launch)  (σ : St) : ∀ ro, X3_howManyNames σ = some ro → Con (wxC z) l yX3_howManyNames cX3_howManyNames 3 (some .int) 1 21 [.ref (aC z 34)] σ ((jI σ) ro) :=
  fun ro hk => Con_of hk (by decide) (Nat.le_of_ble_eq_true rfl) (fun x hx C => WT_X3_howManyNames C σ)
set_option maxRecDepth 10000 in
theorem K_X3_howManyNames {x : MX} {z : ZT} {own : String} {cc : ByteArray} {nL : Nat} {ret : Option FieldType} {fr lo : Nat} {ρ : Type} {inj : ρ → Option Value × St} {pc : Nat} {lv : List (Nat × Value)} {st : List Value} {σ : St} (C : Cok x (wxC z) own cc nL ret fr lo)  {index : Nat} (hl : Cond.methodLink own index yX3_howManyNames ∈ gtb) (hR : 1 + 1 ≤ fr ∧ 8 + (3 + 11) + 21 ≤ lo) (hW : (st.map fun v => v.category).sum ≤ 8) (hd : decode cc pc = .ok (.invokevirtual index, 3)) {K : Int32 → Option ρ} (h : ∀ v, Sim x (wxC z) nL inj (K v) (pc + 3) lv (.int v :: st) σ) : Sim x (wxC z) nL inj ((X3_howManyNames σ).bind K) pc lv (.ref (aC z 34) :: st) σ :=
  S_callV C (As := []) (q := 34) (inj1 := (jI σ)) mw_X3_howManyNames mv_X3_howManyNames hl (fun ro hro => con_X3_howManyNames z (mL x) σ ro hro) hR rfl (show 34 < 59 by decide) rfl (ce_X3 z σ) rfl rfl hW hd h
set_option maxRecDepth 10000 in
theorem WT_X3_isAt {x : MX} {z : ZT} (C : Cok x (wxC z) RX3 cX3_isAt 4 (some .boolean) 1 21) (x1 : Int32) (x2 : Int32) (x3 : Int32) (σ : St) : Sim x (wxC z) 4 (jI σ) (X3_isAt x1 x2 x3 σ) 0 [(0, .ref (aC z 34)), (1, .int x1), (2, .int x2), (3, .int x3)] [] σ := by
  rw [X3_isAt]
  refine S_aload_n C 0 dX3_isAt_0 rfl ?_
  refine G_X3_books C fl_X3_15 dX3_isAt_1 ?_
  refine G_X0_place C fl_X3_74 dX3_isAt_4 ?_
  refine S_aload_n C 0 dX3_isAt_7 rfl ?_
  refine G_X3_book C fl_X3_19 dX3_isAt_8 ?_
  refine S_iload_n C 1 dX3_isAt_11 rfl ?_
  refine L_X3_book C dX3_isAt_12 (fun _ => ?_)
  refine L_X0_place C dX3_isAt_13 (fun _ => ?_)
  refine S_iload_n C 3 dX3_isAt_14 rfl ?_
  refine S_icmp_ne C 31 dX3_isAt_15 (by decide) ?_ ?_
  · refine S_iconst C (0) dX3_isAt_31 (by decide) ?_
    exact S_zret C rfl rfl dX3_isAt_32
  · refine S_aload_n C 0 dX3_isAt_18 rfl ?_
    refine S_iload_n C 1 dX3_isAt_19 rfl ?_
    refine K_X3_nameOfLine C ml_X3_65 (by decide) (Nat.le_of_ble_eq_true rfl) dX3_isAt_20 (fun v1 => ?_)
    refine S_iload_n C 2 dX3_isAt_23 rfl ?_
    refine S_icmp_ne C 31 dX3_isAt_24 (by decide) ?_ ?_
    · refine S_iconst C (0) dX3_isAt_31 (by decide) ?_
      exact S_zret C rfl rfl dX3_isAt_32
    · refine S_iconst C (1) dX3_isAt_27 (by decide) ?_
      refine S_goto C 32 dX3_isAt_28 (by decide) ?_
      exact S_zret C rfl rfl dX3_isAt_32
set_option maxRecDepth 10000 in
theorem con_X3_isAt (z : ZT) (l : Launch) (x1 : Int32) (x2 : Int32) (x3 : Int32) (σ : St) : ∀ ro, X3_isAt x1 x2 x3 σ = some ro → Con (wxC z) l yX3_isAt cX3_isAt 4 (some .boolean) 1 21 [.ref (aC z 34), .int x1, .int x2, .int x3] σ ((jI σ) ro) :=
  fun ro hk => Con_of hk (by decide) (Nat.le_of_ble_eq_true rfl) (fun x hx C => WT_X3_isAt C x1 x2 x3 σ)
set_option maxRecDepth 10000 in
theorem K_X3_isAt {x : MX} {z : ZT} {own : String} {cc : ByteArray} {nL : Nat} {ret : Option FieldType} {fr lo : Nat} {ρ : Type} {inj : ρ → Option Value × St} {pc : Nat} {lv : List (Nat × Value)} {st : List Value} {σ : St} (C : Cok x (wxC z) own cc nL ret fr lo) {x1 : Int32} {x2 : Int32} {x3 : Int32} {index : Nat} (hl : Cond.methodLink own index yX3_isAt ∈ gtb) (hR : 1 + 1 ≤ fr ∧ 8 + (4 + 11) + 21 ≤ lo) (hW : (st.map fun v => v.category).sum ≤ 8) (hd : decode cc pc = .ok (.invokevirtual index, 3)) {K : Int32 → Option ρ} (h : ∀ v, Sim x (wxC z) nL inj (K v) (pc + 3) lv (.int v :: st) σ) : Sim x (wxC z) nL inj ((X3_isAt x1 x2 x3 σ).bind K) pc lv (.int x3 :: .int x2 :: .int x1 :: .ref (aC z 34) :: st) σ :=
  S_callV C (As := [.int x1, .int x2, .int x3]) (q := 34) (inj1 := (jI σ)) mw_X3_isAt mv_X3_isAt hl (fun ro hro => con_X3_isAt z (mL x) x1 x2 x3 σ ro hro) hR rfl (show 34 < 59 by decide) rfl (ce_X3 z σ) rfl rfl hW hd h
set_option maxRecDepth 10000 in
theorem WT_X3_worth_L6 {x : MX} {z : ZT} (C : Cok x (wxC z) RX3 cX3_worth 7 (some .int) 2 44) (σ : St) : ∀ (n : Nat) (x1 : Int32) (x2 : Int32) (x3 : Int32) (x4 : Int32) (x5 : Int32) (x6 : Int32), Sim x (wxC z) 7 (jI σ) (X3_worth_L6 σ n x1 x2 x3 x4 x5 x6) 6 [(0, .ref (aC z 34)), (1, .int x1), (2, .int x2), (3, .int x3), (4, .int x4), (5, .int x5), (6, .int x6)] [] σ := by
  intro n
  induction n with
  | zero =>
    intros
    exact S_none
  | succ n ih =>
    intro x1 x2 x3 x4 x5 x6
    rw [X3_worth_L6]
    refine S_iload C 6 dX3_worth_6 rfl ?_
    refine S_aload_n C 0 dX3_worth_8 rfl ?_
    refine G_X3_size C fl_X3_53 dX3_worth_9 ?_
    refine S_icmp_ge C 71 dX3_worth_12 (by decide) ?_ ?_
    · refine S_iload C 5 dX3_worth_71 rfl ?_
      exact S_iret C rfl dX3_worth_73
    · refine S_aload_n C 0 dX3_worth_15 rfl ?_
      refine G_X3_year C fl_X3_23 dX3_worth_16 ?_
      refine S_iload C 6 dX3_worth_19 rfl ?_
      refine L_X3_year C dX3_worth_21 (fun _ => ?_)
      refine S_iload_n C 3 dX3_worth_22 rfl ?_
      refine S_icmp_lt C 65 dX3_worth_23 (by decide) ?_ ?_
      · refine S_iinc C 6 [(6, .int (x6 + 1)), (0, .ref (aC z 34)), (1, .int x1), (2, .int x2), (3, .int x3), (4, .int x4), (5, .int x5)] (x6 + 1) dX3_worth_65 rfl rfl (by decide) rfl ?_
        refine S_goto C 6 dX3_worth_68 (by decide) ?_
        exact S_sub [1, 2, 3, 4, 5, 6, 0] rfl (ih x1 x2 x3 x4 x5 (x6 + 1))
      · refine S_aload_n C 0 dX3_worth_26 rfl ?_
        refine G_X3_year C fl_X3_23 dX3_worth_27 ?_
        refine S_iload C 6 dX3_worth_30 rfl ?_
        refine L_X3_year C dX3_worth_32 (fun _ => ?_)
        refine S_iload C 4 dX3_worth_33 rfl ?_
        refine S_icmp_gt C 65 dX3_worth_35 (by decide) ?_ ?_
        · refine S_iinc C 6 [(6, .int (x6 + 1)), (0, .ref (aC z 34)), (1, .int x1), (2, .int x2), (3, .int x3), (4, .int x4), (5, .int x5)] (x6 + 1) dX3_worth_65 rfl rfl (by decide) rfl ?_
          refine S_goto C 6 dX3_worth_68 (by decide) ?_
          exact S_sub [1, 2, 3, 4, 5, 6, 0] rfl (ih x1 x2 x3 x4 x5 (x6 + 1))
        · refine S_aload_n C 0 dX3_worth_38 rfl ?_
          refine S_iload C 6 dX3_worth_39 rfl ?_
          refine S_iload_n C 1 dX3_worth_41 rfl ?_
          refine S_iload_n C 2 dX3_worth_42 rfl ?_
          refine K_X3_isAt C ml_X3_79 (by decide) (Nat.le_of_ble_eq_true rfl) dX3_worth_43 (fun v1 => ?_)
          refine S_if_eq C 65 dX3_worth_46 (by decide) ?_ ?_
          · refine S_iinc C 6 [(6, .int (x6 + 1)), (0, .ref (aC z 34)), (1, .int x1), (2, .int x2), (3, .int x3), (4, .int x4), (5, .int x5)] (x6 + 1) dX3_worth_65 rfl rfl (by decide) rfl ?_
            refine S_goto C 6 dX3_worth_68 (by decide) ?_
            exact S_sub [1, 2, 3, 4, 5, 6, 0] rfl (ih x1 x2 x3 x4 x5 (x6 + 1))
          · refine S_iload C 5 dX3_worth_49 rfl ?_
            refine S_gets_WORTH C dX3_worth_51 ?_
            refine S_aload_n C 0 dX3_worth_54 rfl ?_
            refine G_X3_kind C fl_X3_26 dX3_worth_55 ?_
            refine S_iload C 6 dX3_worth_58 rfl ?_
            refine L_X3_kind C dX3_worth_60 (fun _ => ?_)
            refine S_sald2 C dX3_worth_61 (fun _ => ?_)
            refine S_iadd C dX3_worth_62 ?_
            refine S_bndT (fun x5_2 _ => ?_)
            refine S_istore C [(5, .int x5_2), (0, .ref (aC z 34)), (1, .int x1), (2, .int x2), (3, .int x3), (4, .int x4), (6, .int x6)] dX3_worth_63 (by decide) rfl ?_
            refine S_iinc C 6 [(6, .int (x6 + 1)), (5, .int x5_2), (0, .ref (aC z 34)), (1, .int x1), (2, .int x2), (3, .int x3), (4, .int x4)] (x6 + 1) dX3_worth_65 rfl rfl (by decide) rfl ?_
            refine S_goto C 6 dX3_worth_68 (by decide) ?_
            exact S_sub [2, 3, 4, 5, 6, 1, 0] rfl (ih x1 x2 x3 x4 x5_2 (x6 + 1))
set_option maxRecDepth 10000 in
theorem WT_X3_worth {x : MX} {z : ZT} (C : Cok x (wxC z) RX3 cX3_worth 7 (some .int) 2 44) (x1 : Int32) (x2 : Int32) (x3 : Int32) (x4 : Int32) (σ : St) : Sim x (wxC z) 7 (jI σ) (X3_worth x1 x2 x3 x4 σ) 0 [(0, .ref (aC z 34)), (1, .int x1), (2, .int x2), (3, .int x3), (4, .int x4)] [] σ := by
  rw [X3_worth]
  refine S_iconst C (0) dX3_worth_0 (by decide) ?_
  refine S_istore C [(5, .int 0), (0, .ref (aC z 34)), (1, .int x1), (2, .int x2), (3, .int x3), (4, .int x4)] dX3_worth_1 (by decide) rfl ?_
  refine S_iconst C (0) dX3_worth_3 (by decide) ?_
  refine S_istore C [(6, .int 0), (5, .int 0), (0, .ref (aC z 34)), (1, .int x1), (2, .int x2), (3, .int x3), (4, .int x4)] dX3_worth_4 (by decide) rfl ?_
  exact S_sub [2, 3, 4, 5, 6, 1, 0] rfl (WT_X3_worth_L6 C σ FU x1 x2 x3 x4 (0 : Int32) (0 : Int32))
set_option maxRecDepth 10000 in
theorem con_X3_worth (z : ZT) (l : Launch) (x1 : Int32) (x2 : Int32) (x3 : Int32) (x4 : Int32) (σ : St) : ∀ ro, X3_worth x1 x2 x3 x4 σ = some ro → Con (wxC z) l yX3_worth cX3_worth 7 (some .int) 2 44 [.ref (aC z 34), .int x1, .int x2, .int x3, .int x4] σ ((jI σ) ro) :=
  fun ro hk => Con_of hk (by decide) (Nat.le_of_ble_eq_true rfl) (fun x hx C => WT_X3_worth C x1 x2 x3 x4 σ)
set_option maxRecDepth 10000 in
theorem K_X3_worth {x : MX} {z : ZT} {own : String} {cc : ByteArray} {nL : Nat} {ret : Option FieldType} {fr lo : Nat} {ρ : Type} {inj : ρ → Option Value × St} {pc : Nat} {lv : List (Nat × Value)} {st : List Value} {σ : St} (C : Cok x (wxC z) own cc nL ret fr lo) {x1 : Int32} {x2 : Int32} {x3 : Int32} {x4 : Int32} {index : Nat} (hl : Cond.methodLink own index yX3_worth ∈ gtb) (hR : 2 + 1 ≤ fr ∧ 8 + (7 + 11) + 44 ≤ lo) (hW : (st.map fun v => v.category).sum ≤ 8) (hd : decode cc pc = .ok (.invokevirtual index, 3)) {K : Int32 → Option ρ} (h : ∀ v, Sim x (wxC z) nL inj (K v) (pc + 3) lv (.int v :: st) σ) : Sim x (wxC z) nL inj ((X3_worth x1 x2 x3 x4 σ).bind K) pc lv (.int x4 :: .int x3 :: .int x2 :: .int x1 :: .ref (aC z 34) :: st) σ :=
  S_callV C (As := [.int x1, .int x2, .int x3, .int x4]) (q := 34) (inj1 := (jI σ)) mw_X3_worth mv_X3_worth hl (fun ro hro => con_X3_worth z (mL x) x1 x2 x3 x4 σ ro hro) hR rfl (show 34 < 59 by decide) rfl (ce_X3 z σ) rfl rfl hW hd h
set_option maxRecDepth 10000 in
theorem WT_X3_firstYear_B37 {x : MX} {z : ZT} (C : Cok x (wxC z) RX3 cX3_firstYear 6 (some .int) 2 44) (σ : St) (kq6 : Int32 → Int32 → Int32 → Int32 → Option Int32) (hk6 : ∀ (x1 : Int32) (x2 : Int32) (x3 : Int32) (x4 : Int32), Sim x (wxC z) 6 (jI σ) (kq6 x1 x2 x3 x4) 6 [(0, .ref (aC z 34)), (1, .int x1), (2, .int x2), (3, .int x3), (4, .int x4)] [] σ) (x1 : Int32) (x2 : Int32) (x3 : Int32) (x4 : Int32) (s0 : Int32) : Sim x (wxC z) 6 (jI σ) (X3_firstYear_B37 kq6 σ x1 x2 x3 x4 s0) 37 [(0, .ref (aC z 34)), (1, .int x1), (2, .int x2), (3, .int x3), (4, .int x4)] [.int s0] σ := by
  rw [X3_firstYear_B37]
  refine S_istore C [(5, .int s0), (0, .ref (aC z 34)), (1, .int x1), (2, .int x2), (3, .int x3), (4, .int x4)] dX3_firstYear_37 (by decide) rfl ?_
  refine S_iload C 0 dX3_firstYear_39 rfl ?_
  refine S_if_eq C 74 dX3_firstYear_41 (by decide) ?_ ?_
  · refine S_iinc C 5 [(4, .int (x4 + 1)), (5, .int s0), (0, .ref (aC z 34)), (1, .int x1), (2, .int x2), (3, .int x3)] (x4 + 1) dX3_firstYear_74 rfl rfl (by decide) rfl ?_
    refine S_goto C 6 dX3_firstYear_77 (by decide) ?_
    exact S_sub [2, 3, 4, 5, 0] rfl (hk6 x1 x2 x3 (x4 + 1))
  · refine S_aload_n C 1 dX3_firstYear_44 rfl ?_
    refine G_X3_kind C fl_X3_26 dX3_firstYear_45 ?_
    refine S_iload C 5 dX3_firstYear_48 rfl ?_
    refine L_X3_kind C dX3_firstYear_50 (fun _ => ?_)
    refine S_iconst C (3) dX3_firstYear_51 (by decide) ?_
    refine S_icmp_eq C 74 dX3_firstYear_52 (by decide) ?_ ?_
    · refine S_iinc C 5 [(4, .int (x4 + 1)), (5, .int s0), (0, .ref (aC z 34)), (1, .int x1), (2, .int x2), (3, .int x3)] (x4 + 1) dX3_firstYear_74 rfl rfl (by decide) rfl ?_
      refine S_goto C 6 dX3_firstYear_77 (by decide) ?_
      exact S_sub [2, 3, 4, 5, 0] rfl (hk6 x1 x2 x3 (x4 + 1))
    · refine S_aload_n C 1 dX3_firstYear_55 rfl ?_
      refine S_iload C 5 dX3_firstYear_56 rfl ?_
      refine S_iload_n C 2 dX3_firstYear_58 rfl ?_
      refine S_iload_n C 3 dX3_firstYear_59 rfl ?_
      refine K_X3_isAt C ml_X3_79 (by decide) (Nat.le_of_ble_eq_true rfl) dX3_firstYear_60 (fun v1 => ?_)
      refine S_if_eq C 74 dX3_firstYear_63 (by decide) ?_ ?_
      · refine S_iinc C 5 [(4, .int (x4 + 1)), (5, .int s0), (0, .ref (aC z 34)), (1, .int x1), (2, .int x2), (3, .int x3)] (x4 + 1) dX3_firstYear_74 rfl rfl (by decide) rfl ?_
        refine S_goto C 6 dX3_firstYear_77 (by decide) ?_
        exact S_sub [2, 3, 4, 5, 0] rfl (hk6 x1 x2 x3 (x4 + 1))
      · refine S_aload_n C 1 dX3_firstYear_66 rfl ?_
        refine G_X3_year C fl_X3_23 dX3_firstYear_67 ?_
        refine S_iload C 5 dX3_firstYear_70 rfl ?_
        refine L_X3_year C dX3_firstYear_72 (fun _ => ?_)
        refine S_bndT (fun x3_2 _ => ?_)
        refine S_istore_n C [(3, .int x3_2), (5, .int s0), (0, .ref (aC z 34)), (1, .int x1), (2, .int x2), (4, .int x4)] (i := 3) dX3_firstYear_73 rfl (by decide) rfl ?_
        refine S_iinc C 5 [(4, .int (x4 + 1)), (3, .int x3_2), (5, .int s0), (0, .ref (aC z 34)), (1, .int x1), (2, .int x2)] (x4 + 1) dX3_firstYear_74 rfl rfl (by decide) rfl ?_
        refine S_goto C 6 dX3_firstYear_77 (by decide) ?_
        exact S_sub [3, 4, 5, 1, 0] rfl (hk6 x1 x2 x3_2 (x4 + 1))
set_option maxRecDepth 10000 in
theorem WT_X3_firstYear_L6 {x : MX} {z : ZT} (C : Cok x (wxC z) RX3 cX3_firstYear 6 (some .int) 2 44) (σ : St) : ∀ (n : Nat) (x1 : Int32) (x2 : Int32) (x3 : Int32) (x4 : Int32), Sim x (wxC z) 6 (jI σ) (X3_firstYear_L6 σ n x1 x2 x3 x4) 6 [(0, .ref (aC z 34)), (1, .int x1), (2, .int x2), (3, .int x3), (4, .int x4)] [] σ := by
  intro n
  induction n with
  | zero =>
    intros
    exact S_none
  | succ n ih =>
    intro x1 x2 x3 x4
    rw [X3_firstYear_L6]
    refine S_iload C 4 dX3_firstYear_6 rfl ?_
    refine S_aload_n C 0 dX3_firstYear_8 rfl ?_
    refine G_X3_size C fl_X3_53 dX3_firstYear_9 ?_
    refine S_icmp_ge C 80 dX3_firstYear_12 (by decide) ?_ ?_
    · refine S_iload_n C 3 dX3_firstYear_80 rfl ?_
      exact S_iret C rfl dX3_firstYear_81
    · refine S_iload_n C 3 dX3_firstYear_15 rfl ?_
      refine S_bipush C (-4) dX3_firstYear_16 (by decide) ?_
      refine S_icmp_eq C 32 dX3_firstYear_18 (by decide) ?_ ?_
      · refine S_iconst C (1) dX3_firstYear_32 (by decide) ?_
        refine S_goto C 37 dX3_firstYear_33 (by decide) ?_
        exact S_sub [0, 1, 2, 3, 4] rfl (WT_X3_firstYear_B37 C σ _ ih x1 x2 x3 x4 (1 : Int32))
      · refine S_aload_n C 0 dX3_firstYear_21 rfl ?_
        refine G_X3_year C fl_X3_23 dX3_firstYear_22 ?_
        refine S_iload C 4 dX3_firstYear_25 rfl ?_
        refine L_X3_year C dX3_firstYear_27 (fun _ => ?_)
        refine S_iload_n C 3 dX3_firstYear_28 rfl ?_
        refine S_icmp_ge C 36 dX3_firstYear_29 (by decide) ?_ ?_
        · refine S_iconst C (0) dX3_firstYear_36 (by decide) ?_
          exact S_sub [0, 1, 2, 3, 4] rfl (WT_X3_firstYear_B37 C σ _ ih x1 x2 x3 x4 (0 : Int32))
        · refine S_iconst C (1) dX3_firstYear_32 (by decide) ?_
          refine S_goto C 37 dX3_firstYear_33 (by decide) ?_
          exact S_sub [0, 1, 2, 3, 4] rfl (WT_X3_firstYear_B37 C σ _ ih x1 x2 x3 x4 (1 : Int32))
set_option maxRecDepth 10000 in
theorem WT_X3_firstYear {x : MX} {z : ZT} (C : Cok x (wxC z) RX3 cX3_firstYear 6 (some .int) 2 44) (x1 : Int32) (x2 : Int32) (σ : St) : Sim x (wxC z) 6 (jI σ) (X3_firstYear x1 x2 σ) 0 [(0, .ref (aC z 34)), (1, .int x1), (2, .int x2)] [] σ := by
  rw [X3_firstYear]
  refine S_bipush C (-4) dX3_firstYear_0 (by decide) ?_
  refine S_istore_n C [(3, .int (-4)), (0, .ref (aC z 34)), (1, .int x1), (2, .int x2)] (i := 3) dX3_firstYear_2 rfl (by decide) rfl ?_
  refine S_iconst C (0) dX3_firstYear_3 (by decide) ?_
  refine S_istore C [(4, .int 0), (3, .int (-4)), (0, .ref (aC z 34)), (1, .int x1), (2, .int x2)] dX3_firstYear_4 (by decide) rfl ?_
  exact S_sub [2, 3, 4, 1, 0] rfl (WT_X3_firstYear_L6 C σ FU x1 x2 (-4 : Int32) (0 : Int32))
set_option maxRecDepth 10000 in
theorem con_X3_firstYear (z : ZT) (l : Launch) (x1 : Int32) (x2 : Int32) (σ : St) : ∀ ro, X3_firstYear x1 x2 σ = some ro → Con (wxC z) l yX3_firstYear cX3_firstYear 6 (some .int) 2 44 [.ref (aC z 34), .int x1, .int x2] σ ((jI σ) ro) :=
  fun ro hk => Con_of hk (by decide) (Nat.le_of_ble_eq_true rfl) (fun x hx C => WT_X3_firstYear C x1 x2 σ)
set_option maxRecDepth 10000 in
theorem K_X3_firstYear {x : MX} {z : ZT} {own : String} {cc : ByteArray} {nL : Nat} {ret : Option FieldType} {fr lo : Nat} {ρ : Type} {inj : ρ → Option Value × St} {pc : Nat} {lv : List (Nat × Value)} {st : List Value} {σ : St} (C : Cok x (wxC z) own cc nL ret fr lo) {x1 : Int32} {x2 : Int32} {index : Nat} (hl : Cond.methodLink own index yX3_firstYear ∈ gtb) (hR : 2 + 1 ≤ fr ∧ 8 + (6 + 11) + 44 ≤ lo) (hW : (st.map fun v => v.category).sum ≤ 8) (hd : decode cc pc = .ok (.invokevirtual index, 3)) {K : Int32 → Option ρ} (h : ∀ v, Sim x (wxC z) nL inj (K v) (pc + 3) lv (.int v :: st) σ) : Sim x (wxC z) nL inj ((X3_firstYear x1 x2 σ).bind K) pc lv (.int x2 :: .int x1 :: .ref (aC z 34) :: st) σ :=
  S_callV C (As := [.int x1, .int x2]) (q := 34) (inj1 := (jI σ)) mw_X3_firstYear mv_X3_firstYear hl (fun ro hro => con_X3_firstYear z (mL x) x1 x2 σ ro hro) hR rfl (show 34 < 59 by decide) rfl (ce_X3 z σ) rfl rfl hW hd h
set_option maxRecDepth 10000 in
theorem WT_X3_mayBeFather {x : MX} {z : ZT} (C : Cok x (wxC z) RX3 cX3_mayBeFather 3 (some .boolean) 0 0) (x1 : Int32) (x2 : Int32) (σ : St) : Sim x (wxC z) 3 (jI σ) (X3_mayBeFather x1 x2 σ) 0 [(0, .ref (aC z 34)), (1, .int x1), (2, .int x2)] [] σ := by
  rw [X3_mayBeFather]
  refine S_aload_n C 0 dX3_mayBeFather_0 rfl ?_
  refine G_X3_year C fl_X3_23 dX3_mayBeFather_1 ?_
  refine S_iload_n C 2 dX3_mayBeFather_4 rfl ?_
  refine L_X3_year C dX3_mayBeFather_5 (fun _ => ?_)
  refine S_aload_n C 0 dX3_mayBeFather_6 rfl ?_
  refine G_X3_year C fl_X3_23 dX3_mayBeFather_7 ?_
  refine S_iload_n C 1 dX3_mayBeFather_10 rfl ?_
  refine L_X3_year C dX3_mayBeFather_11 (fun _ => ?_)
  refine S_bipush C (15) dX3_mayBeFather_12 (by decide) ?_
  refine S_isub C dX3_mayBeFather_14 ?_
  refine S_icmp_gt C 22 dX3_mayBeFather_15 (by decide) ?_ ?_
  · refine S_iconst C (0) dX3_mayBeFather_22 (by decide) ?_
    exact S_zret C rfl rfl dX3_mayBeFather_23
  · refine S_iconst C (1) dX3_mayBeFather_18 (by decide) ?_
    refine S_goto C 23 dX3_mayBeFather_19 (by decide) ?_
    exact S_zret C rfl rfl dX3_mayBeFather_23
set_option maxRecDepth 10000 in
theorem con_X3_mayBeFather (z : ZT) (l : Launch) (x1 : Int32) (x2 : Int32) (σ : St) : ∀ ro, X3_mayBeFather x1 x2 σ = some ro → Con (wxC z) l yX3_mayBeFather cX3_mayBeFather 3 (some .boolean) 0 0 [.ref (aC z 34), .int x1, .int x2] σ ((jI σ) ro) :=
  fun ro hk => Con_of hk (by decide) (Nat.le_of_ble_eq_true rfl) (fun x hx C => WT_X3_mayBeFather C x1 x2 σ)
set_option maxRecDepth 10000 in
theorem K_X3_mayBeFather {x : MX} {z : ZT} {own : String} {cc : ByteArray} {nL : Nat} {ret : Option FieldType} {fr lo : Nat} {ρ : Type} {inj : ρ → Option Value × St} {pc : Nat} {lv : List (Nat × Value)} {st : List Value} {σ : St} (C : Cok x (wxC z) own cc nL ret fr lo) {x1 : Int32} {x2 : Int32} {index : Nat} (hl : Cond.methodLink own index yX3_mayBeFather ∈ gtb) (hR : 0 + 1 ≤ fr ∧ 8 + (3 + 11) + 0 ≤ lo) (hW : (st.map fun v => v.category).sum ≤ 8) (hd : decode cc pc = .ok (.invokevirtual index, 3)) {K : Int32 → Option ρ} (h : ∀ v, Sim x (wxC z) nL inj (K v) (pc + 3) lv (.int v :: st) σ) : Sim x (wxC z) nL inj ((X3_mayBeFather x1 x2 σ).bind K) pc lv (.int x2 :: .int x1 :: .ref (aC z 34) :: st) σ :=
  S_callV C (As := [.int x1, .int x2]) (q := 34) (inj1 := (jI σ)) mw_X3_mayBeFather mv_X3_mayBeFather hl (fun ro hro => con_X3_mayBeFather z (mL x) x1 x2 σ ro hro) hR rfl (show 34 < 59 by decide) rfl (ce_X3 z σ) rfl rfl hW hd h
set_option maxRecDepth 10000 in
theorem WT_X3_stepsUp_L5 {x : MX} {z : ZT} (C : Cok x (wxC z) RX3 cX3_stepsUp 5 (some .int) 0 0) (σ : St) : ∀ (n : Nat) (x2 : Int32) (x3 : Int32) (x4 : Int32), Sim x (wxC z) 5 (jI σ) (X3_stepsUp_L5 σ n x2 x3 x4) 5 [(0, .ref (aC z 34)), (2, .int x2), (3, .int x3), (4, .int x4)] [] σ := by
  intro n
  induction n with
  | zero =>
    intros
    exact S_none
  | succ n ih =>
    intro x2 x3 x4
    rw [X3_stepsUp_L5]
    refine S_iload C 3 dX3_stepsUp_5 rfl ?_
    refine S_bipush C (40) dX3_stepsUp_7 (by decide) ?_
    refine S_icmp_ge C 39 dX3_stepsUp_9 (by decide) ?_ ?_
    · refine S_bipush C (-4) dX3_stepsUp_39 (by decide) ?_
      exact S_iret C rfl dX3_stepsUp_41
    · refine S_iload_n C 2 dX3_stepsUp_12 rfl ?_
      refine S_bipush C (-4) dX3_stepsUp_13 (by decide) ?_
      refine S_icmp_eq C 39 dX3_stepsUp_15 (by decide) ?_ ?_
      · refine S_bipush C (-4) dX3_stepsUp_39 (by decide) ?_
        exact S_iret C rfl dX3_stepsUp_41
      · refine S_iload_n C 2 dX3_stepsUp_18 rfl ?_
        refine S_iload_n C 1 dX3_stepsUp_19 rfl ?_
        refine S_icmp_ne C 26 dX3_stepsUp_20 (by decide) ?_ ?_
        · refine S_aload_n C 0 dX3_stepsUp_26 rfl ?_
          refine G_X3_fathers C fl_X3_38 dX3_stepsUp_27 ?_
          refine S_iload_n C 2 dX3_stepsUp_30 rfl ?_
          refine L_X3_fathers C dX3_stepsUp_31 (fun _ => ?_)
          refine S_bndT (fun x3_1 _ => ?_)
          refine S_istore_n C [(3, .int x3_1), (0, .ref (aC z 34)), (2, .int x2), (4, .int x4)] (i := 3) dX3_stepsUp_32 rfl (by decide) rfl ?_
          refine S_iinc C 3 [(4, .int (x4 + 1)), (3, .int x3_1), (0, .ref (aC z 34)), (2, .int x2)] (x4 + 1) dX3_stepsUp_33 rfl rfl (by decide) rfl ?_
          refine S_goto C 5 dX3_stepsUp_36 (by decide) ?_
          exact S_sub [2, 3, 1, 0] rfl (ih x2 x3_1 (x4 + 1))
        · refine S_iload C 3 dX3_stepsUp_23 rfl ?_
          exact S_iret C rfl dX3_stepsUp_25
set_option maxRecDepth 10000 in
theorem WT_X3_stepsUp {x : MX} {z : ZT} (C : Cok x (wxC z) RX3 cX3_stepsUp 5 (some .int) 0 0) (x1 : Int32) (x2 : Int32) (σ : St) : Sim x (wxC z) 5 (jI σ) (X3_stepsUp x1 x2 σ) 0 [(0, .ref (aC z 34)), (1, .int x1), (2, .int x2)] [] σ := by
  rw [X3_stepsUp]
  refine S_iload_n C 1 dX3_stepsUp_0 rfl ?_
  refine S_istore_n C [(3, .int x1), (0, .ref (aC z 34)), (1, .int x1), (2, .int x2)] (i := 3) dX3_stepsUp_1 rfl (by decide) rfl ?_
  refine S_iconst C (0) dX3_stepsUp_2 (by decide) ?_
  refine S_istore C [(4, .int 0), (3, .int x1), (0, .ref (aC z 34)), (1, .int x1), (2, .int x2)] dX3_stepsUp_3 (by decide) rfl ?_
  exact S_sub [2, 4, 1, 0] rfl (WT_X3_stepsUp_L5 C σ FU x2 x1 (0 : Int32))
set_option maxRecDepth 10000 in
theorem con_X3_stepsUp (z : ZT) (l : Launch) (x1 : Int32) (x2 : Int32) (σ : St) : ∀ ro, X3_stepsUp x1 x2 σ = some ro → Con (wxC z) l yX3_stepsUp cX3_stepsUp 5 (some .int) 0 0 [.ref (aC z 34), .int x1, .int x2] σ ((jI σ) ro) :=
  fun ro hk => Con_of hk (by decide) (Nat.le_of_ble_eq_true rfl) (fun x hx C => WT_X3_stepsUp C x1 x2 σ)
set_option maxRecDepth 10000 in
theorem K_X3_stepsUp {x : MX} {z : ZT} {own : String} {cc : ByteArray} {nL : Nat} {ret : Option FieldType} {fr lo : Nat} {ρ : Type} {inj : ρ → Option Value × St} {pc : Nat} {lv : List (Nat × Value)} {st : List Value} {σ : St} (C : Cok x (wxC z) own cc nL ret fr lo) {x1 : Int32} {x2 : Int32} {index : Nat} (hl : Cond.methodLink own index yX3_stepsUp ∈ gtb) (hR : 0 + 1 ≤ fr ∧ 8 + (5 + 11) + 0 ≤ lo) (hW : (st.map fun v => v.category).sum ≤ 8) (hd : decode cc pc = .ok (.invokevirtual index, 3)) {K : Int32 → Option ρ} (h : ∀ v, Sim x (wxC z) nL inj (K v) (pc + 3) lv (.int v :: st) σ) : Sim x (wxC z) nL inj ((X3_stepsUp x1 x2 σ).bind K) pc lv (.int x2 :: .int x1 :: .ref (aC z 34) :: st) σ :=
  S_callV C (As := [.int x1, .int x2]) (q := 34) (inj1 := (jI σ)) mw_X3_stepsUp mv_X3_stepsUp hl (fun ro hro => con_X3_stepsUp z (mL x) x1 x2 σ ro hro) hR rfl (show 34 < 59 by decide) rfl (ce_X3 z σ) rfl rfl hW hd h
set_option maxRecDepth 10000 in
theorem WT_X3_stepsBetween_L5 {x : MX} {z : ZT} (C : Cok x (wxC z) RX3 cX3_stepsBetween 6 (some .int) 1 24) (σ : St) : ∀ (n : Nat) (x2 : Int32) (x3 : Int32) (x4 : Int32), Sim x (wxC z) 6 (jI σ) (X3_stepsBetween_L5 σ n x2 x3 x4) 5 [(0, .ref (aC z 34)), (2, .int x2), (3, .int x3), (4, .int x4)] [] σ := by
  intro n
  induction n with
  | zero =>
    intros
    exact S_none
  | succ n ih =>
    intro x2 x3 x4
    rw [X3_stepsBetween_L5]
    refine S_iload C 3 dX3_stepsBetween_5 rfl ?_
    refine S_bipush C (40) dX3_stepsBetween_7 (by decide) ?_
    refine S_icmp_ge C 52 dX3_stepsBetween_9 (by decide) ?_ ?_
    · refine S_bipush C (-4) dX3_stepsBetween_52 (by decide) ?_
      exact S_iret C rfl dX3_stepsBetween_54
    · refine S_iload_n C 2 dX3_stepsBetween_12 rfl ?_
      refine S_bipush C (-4) dX3_stepsBetween_13 (by decide) ?_
      refine S_icmp_eq C 52 dX3_stepsBetween_15 (by decide) ?_ ?_
      · refine S_bipush C (-4) dX3_stepsBetween_52 (by decide) ?_
        exact S_iret C rfl dX3_stepsBetween_54
      · refine S_aload_n C 0 dX3_stepsBetween_18 rfl ?_
        refine S_iload_n C 1 dX3_stepsBetween_19 rfl ?_
        refine S_iload_n C 2 dX3_stepsBetween_20 rfl ?_
        refine K_X3_stepsUp C ml_X3_86 (by decide) (Nat.le_of_ble_eq_true rfl) dX3_stepsBetween_21 (fun v1 => ?_)
        refine S_istore C [(5, .int v1), (0, .ref (aC z 34)), (2, .int x2), (3, .int x3), (4, .int x4)] dX3_stepsBetween_24 (by decide) rfl ?_
        refine S_iload C 0 dX3_stepsBetween_26 rfl ?_
        refine S_bipush C (-4) dX3_stepsBetween_28 (by decide) ?_
        refine S_icmp_eq C 39 dX3_stepsBetween_30 (by decide) ?_ ?_
        · refine S_aload_n C 1 dX3_stepsBetween_39 rfl ?_
          refine G_X3_fathers C fl_X3_38 dX3_stepsBetween_40 ?_
          refine S_iload_n C 3 dX3_stepsBetween_43 rfl ?_
          refine L_X3_fathers C dX3_stepsBetween_44 (fun _ => ?_)
          refine S_bndT (fun x3_2 _ => ?_)
          refine S_istore_n C [(3, .int x3_2), (5, .int v1), (0, .ref (aC z 34)), (2, .int x2), (4, .int x4)] (i := 3) dX3_stepsBetween_45 rfl (by decide) rfl ?_
          refine S_iinc C 4 [(4, .int (x4 + 1)), (3, .int x3_2), (5, .int v1), (0, .ref (aC z 34)), (2, .int x2)] (x4 + 1) dX3_stepsBetween_46 rfl rfl (by decide) rfl ?_
          refine S_goto C 5 dX3_stepsBetween_49 (by decide) ?_
          exact S_sub [3, 4, 1, 0] rfl (ih x2 x3_2 (x4 + 1))
        · refine S_iload C 4 dX3_stepsBetween_33 rfl ?_
          refine S_iload C 0 dX3_stepsBetween_35 rfl ?_
          refine S_iadd C dX3_stepsBetween_37 ?_
          exact S_iret C rfl dX3_stepsBetween_38
set_option maxRecDepth 10000 in
theorem WT_X3_stepsBetween {x : MX} {z : ZT} (C : Cok x (wxC z) RX3 cX3_stepsBetween 6 (some .int) 1 24) (x1 : Int32) (x2 : Int32) (σ : St) : Sim x (wxC z) 6 (jI σ) (X3_stepsBetween x1 x2 σ) 0 [(0, .ref (aC z 34)), (1, .int x1), (2, .int x2)] [] σ := by
  rw [X3_stepsBetween]
  refine S_iload_n C 1 dX3_stepsBetween_0 rfl ?_
  refine S_istore_n C [(3, .int x1), (0, .ref (aC z 34)), (1, .int x1), (2, .int x2)] (i := 3) dX3_stepsBetween_1 rfl (by decide) rfl ?_
  refine S_iconst C (0) dX3_stepsBetween_2 (by decide) ?_
  refine S_istore C [(4, .int 0), (3, .int x1), (0, .ref (aC z 34)), (1, .int x1), (2, .int x2)] dX3_stepsBetween_3 (by decide) rfl ?_
  exact S_sub [2, 4, 1, 0] rfl (WT_X3_stepsBetween_L5 C σ FU x2 x1 (0 : Int32))
set_option maxRecDepth 10000 in
theorem con_X3_stepsBetween (z : ZT) (l : Launch) (x1 : Int32) (x2 : Int32) (σ : St) : ∀ ro, X3_stepsBetween x1 x2 σ = some ro → Con (wxC z) l yX3_stepsBetween cX3_stepsBetween 6 (some .int) 1 24 [.ref (aC z 34), .int x1, .int x2] σ ((jI σ) ro) :=
  fun ro hk => Con_of hk (by decide) (Nat.le_of_ble_eq_true rfl) (fun x hx C => WT_X3_stepsBetween C x1 x2 σ)
set_option maxRecDepth 10000 in
theorem K_X3_stepsBetween {x : MX} {z : ZT} {own : String} {cc : ByteArray} {nL : Nat} {ret : Option FieldType} {fr lo : Nat} {ρ : Type} {inj : ρ → Option Value × St} {pc : Nat} {lv : List (Nat × Value)} {st : List Value} {σ : St} (C : Cok x (wxC z) own cc nL ret fr lo) {x1 : Int32} {x2 : Int32} {index : Nat} (hl : Cond.methodLink own index yX3_stepsBetween ∈ gtb) (hR : 1 + 1 ≤ fr ∧ 8 + (6 + 11) + 24 ≤ lo) (hW : (st.map fun v => v.category).sum ≤ 8) (hd : decode cc pc = .ok (.invokevirtual index, 3)) {K : Int32 → Option ρ} (h : ∀ v, Sim x (wxC z) nL inj (K v) (pc + 3) lv (.int v :: st) σ) : Sim x (wxC z) nL inj ((X3_stepsBetween x1 x2 σ).bind K) pc lv (.int x2 :: .int x1 :: .ref (aC z 34) :: st) σ :=
  S_callV C (As := [.int x1, .int x2]) (q := 34) (inj1 := (jI σ)) mw_X3_stepsBetween mv_X3_stepsBetween hl (fun ro hro => con_X3_stepsBetween z (mL x) x1 x2 σ ro hro) hR rfl (show 34 < 59 by decide) rfl (ce_X3 z σ) rfl rfl hW hd h
set_option maxRecDepth 10000 in
theorem WT_X3_descendants_L4 {x : MX} {z : ZT} (C : Cok x (wxC z) RX3 cX3_descendants 4 (some .int) 1 24) (σ : St) : ∀ (n : Nat) (x1 : Int32) (x2 : Int32) (x3 : Int32), Sim x (wxC z) 4 (jI σ) (X3_descendants_L4 σ n x1 x2 x3) 4 [(0, .ref (aC z 34)), (1, .int x1), (2, .int x2), (3, .int x3)] [] σ := by
  intro n
  induction n with
  | zero =>
    intros
    exact S_none
  | succ n ih =>
    intro x1 x2 x3
    rw [X3_descendants_L4]
    refine S_iload_n C 3 dX3_descendants_4 rfl ?_
    refine S_aload_n C 0 dX3_descendants_5 rfl ?_
    refine G_X3_size C fl_X3_53 dX3_descendants_6 ?_
    refine S_icmp_ge C 37 dX3_descendants_9 (by decide) ?_ ?_
    · refine S_iload_n C 2 dX3_descendants_37 rfl ?_
      exact S_iret C rfl dX3_descendants_38
    · refine S_iload_n C 3 dX3_descendants_12 rfl ?_
      refine S_iload_n C 1 dX3_descendants_13 rfl ?_
      refine S_icmp_eq C 31 dX3_descendants_14 (by decide) ?_ ?_
      · refine S_iinc C 3 [(3, .int (x3 + 1)), (0, .ref (aC z 34)), (1, .int x1), (2, .int x2)] (x3 + 1) dX3_descendants_31 rfl rfl (by decide) rfl ?_
        refine S_goto C 4 dX3_descendants_34 (by decide) ?_
        exact S_sub [1, 2, 3, 0] rfl (ih x1 x2 (x3 + 1))
      · refine S_aload_n C 0 dX3_descendants_17 rfl ?_
        refine S_iload_n C 3 dX3_descendants_18 rfl ?_
        refine S_iload_n C 1 dX3_descendants_19 rfl ?_
        refine K_X3_stepsUp C ml_X3_86 (by decide) (Nat.le_of_ble_eq_true rfl) dX3_descendants_20 (fun v1 => ?_)
        refine S_bipush C (-4) dX3_descendants_23 (by decide) ?_
        refine S_icmp_eq C 31 dX3_descendants_25 (by decide) ?_ ?_
        · refine S_iinc C 3 [(3, .int (x3 + 1)), (0, .ref (aC z 34)), (1, .int x1), (2, .int x2)] (x3 + 1) dX3_descendants_31 rfl rfl (by decide) rfl ?_
          refine S_goto C 4 dX3_descendants_34 (by decide) ?_
          exact S_sub [1, 2, 3, 0] rfl (ih x1 x2 (x3 + 1))
        · refine S_iinc C 2 [(2, .int (x2 + 1)), (0, .ref (aC z 34)), (1, .int x1), (3, .int x3)] (x2 + 1) dX3_descendants_28 rfl rfl (by decide) rfl ?_
          refine S_iinc C 3 [(3, .int (x3 + 1)), (2, .int (x2 + 1)), (0, .ref (aC z 34)), (1, .int x1)] (x3 + 1) dX3_descendants_31 rfl rfl (by decide) rfl ?_
          refine S_goto C 4 dX3_descendants_34 (by decide) ?_
          exact S_sub [2, 3, 1, 0] rfl (ih x1 (x2 + 1) (x3 + 1))
set_option maxRecDepth 10000 in
theorem WT_X3_descendants {x : MX} {z : ZT} (C : Cok x (wxC z) RX3 cX3_descendants 4 (some .int) 1 24) (x1 : Int32) (σ : St) : Sim x (wxC z) 4 (jI σ) (X3_descendants x1 σ) 0 [(0, .ref (aC z 34)), (1, .int x1)] [] σ := by
  rw [X3_descendants]
  refine S_iconst C (0) dX3_descendants_0 (by decide) ?_
  refine S_istore_n C [(2, .int 0), (0, .ref (aC z 34)), (1, .int x1)] (i := 2) dX3_descendants_1 rfl (by decide) rfl ?_
  refine S_iconst C (0) dX3_descendants_2 (by decide) ?_
  refine S_istore_n C [(3, .int 0), (2, .int 0), (0, .ref (aC z 34)), (1, .int x1)] (i := 3) dX3_descendants_3 rfl (by decide) rfl ?_
  exact S_sub [2, 3, 1, 0] rfl (WT_X3_descendants_L4 C σ FU x1 (0 : Int32) (0 : Int32))
set_option maxRecDepth 10000 in
theorem con_X3_descendants (z : ZT) (l : Launch) (x1 : Int32) (σ : St) : ∀ ro, X3_descendants x1 σ = some ro → Con (wxC z) l yX3_descendants cX3_descendants 4 (some .int) 1 24 [.ref (aC z 34), .int x1] σ ((jI σ) ro) :=
  fun ro hk => Con_of hk (by decide) (Nat.le_of_ble_eq_true rfl) (fun x hx C => WT_X3_descendants C x1 σ)
set_option maxRecDepth 10000 in
theorem K_X3_descendants {x : MX} {z : ZT} {own : String} {cc : ByteArray} {nL : Nat} {ret : Option FieldType} {fr lo : Nat} {ρ : Type} {inj : ρ → Option Value × St} {pc : Nat} {lv : List (Nat × Value)} {st : List Value} {σ : St} (C : Cok x (wxC z) own cc nL ret fr lo) {x1 : Int32} {index : Nat} (hl : Cond.methodLink own index yX3_descendants ∈ gtb) (hR : 1 + 1 ≤ fr ∧ 8 + (4 + 11) + 24 ≤ lo) (hW : (st.map fun v => v.category).sum ≤ 8) (hd : decode cc pc = .ok (.invokevirtual index, 3)) {K : Int32 → Option ρ} (h : ∀ v, Sim x (wxC z) nL inj (K v) (pc + 3) lv (.int v :: st) σ) : Sim x (wxC z) nL inj ((X3_descendants x1 σ).bind K) pc lv (.int x1 :: .ref (aC z 34) :: st) σ :=
  S_callV C (As := [.int x1]) (q := 34) (inj1 := (jI σ)) mw_X3_descendants mv_X3_descendants hl (fun ro hro => con_X3_descendants z (mL x) x1 σ ro hro) hR rfl (show 34 < 59 by decide) rfl (ce_X3 z σ) rfl rfl hW hd h
set_option maxRecDepth 10000 in
theorem WT_X3_renamedDescendants_L4 {x : MX} {z : ZT} (C : Cok x (wxC z) RX3 cX3_renamedDescendants 4 (some .int) 1 24) (σ : St) : ∀ (n : Nat) (x1 : Int32) (x2 : Int32) (x3 : Int32), Sim x (wxC z) 4 (jI σ) (X3_renamedDescendants_L4 σ n x1 x2 x3) 4 [(0, .ref (aC z 34)), (1, .int x1), (2, .int x2), (3, .int x3)] [] σ := by
  intro n
  induction n with
  | zero =>
    intros
    exact S_none
  | succ n ih =>
    intro x1 x2 x3
    rw [X3_renamedDescendants_L4]
    refine S_iload_n C 3 dX3_renamedDescendants_4 rfl ?_
    refine S_aload_n C 0 dX3_renamedDescendants_5 rfl ?_
    refine G_X3_size C fl_X3_53 dX3_renamedDescendants_6 ?_
    refine S_icmp_ge C 45 dX3_renamedDescendants_9 (by decide) ?_ ?_
    · refine S_iload_n C 2 dX3_renamedDescendants_45 rfl ?_
      exact S_iret C rfl dX3_renamedDescendants_46
    · refine S_aload_n C 0 dX3_renamedDescendants_12 rfl ?_
      refine S_iload_n C 3 dX3_renamedDescendants_13 rfl ?_
      refine K_X3_nameOfLine C ml_X3_65 (by decide) (Nat.le_of_ble_eq_true rfl) dX3_renamedDescendants_14 (fun v1 => ?_)
      refine S_aload_n C 0 dX3_renamedDescendants_17 rfl ?_
      refine S_iload_n C 1 dX3_renamedDescendants_18 rfl ?_
      refine K_X3_nameOfLine C ml_X3_65 (by decide) (Nat.le_of_ble_eq_true rfl) dX3_renamedDescendants_19 (fun v2 => ?_)
      refine S_icmp_eq C 39 dX3_renamedDescendants_22 (by decide) ?_ ?_
      · refine S_iinc C 3 [(3, .int (x3 + 1)), (0, .ref (aC z 34)), (1, .int x1), (2, .int x2)] (x3 + 1) dX3_renamedDescendants_39 rfl rfl (by decide) rfl ?_
        refine S_goto C 4 dX3_renamedDescendants_42 (by decide) ?_
        exact S_sub [1, 2, 3, 0] rfl (ih x1 x2 (x3 + 1))
      · refine S_aload_n C 0 dX3_renamedDescendants_25 rfl ?_
        refine S_iload_n C 3 dX3_renamedDescendants_26 rfl ?_
        refine S_iload_n C 1 dX3_renamedDescendants_27 rfl ?_
        refine K_X3_stepsUp C ml_X3_86 (by decide) (Nat.le_of_ble_eq_true rfl) dX3_renamedDescendants_28 (fun v3 => ?_)
        refine S_bipush C (-4) dX3_renamedDescendants_31 (by decide) ?_
        refine S_icmp_eq C 39 dX3_renamedDescendants_33 (by decide) ?_ ?_
        · refine S_iinc C 3 [(3, .int (x3 + 1)), (0, .ref (aC z 34)), (1, .int x1), (2, .int x2)] (x3 + 1) dX3_renamedDescendants_39 rfl rfl (by decide) rfl ?_
          refine S_goto C 4 dX3_renamedDescendants_42 (by decide) ?_
          exact S_sub [1, 2, 3, 0] rfl (ih x1 x2 (x3 + 1))
        · refine S_iinc C 2 [(2, .int (x2 + 1)), (0, .ref (aC z 34)), (1, .int x1), (3, .int x3)] (x2 + 1) dX3_renamedDescendants_36 rfl rfl (by decide) rfl ?_
          refine S_iinc C 3 [(3, .int (x3 + 1)), (2, .int (x2 + 1)), (0, .ref (aC z 34)), (1, .int x1)] (x3 + 1) dX3_renamedDescendants_39 rfl rfl (by decide) rfl ?_
          refine S_goto C 4 dX3_renamedDescendants_42 (by decide) ?_
          exact S_sub [2, 3, 1, 0] rfl (ih x1 (x2 + 1) (x3 + 1))
set_option maxRecDepth 10000 in
theorem WT_X3_renamedDescendants {x : MX} {z : ZT} (C : Cok x (wxC z) RX3 cX3_renamedDescendants 4 (some .int) 1 24) (x1 : Int32) (σ : St) : Sim x (wxC z) 4 (jI σ) (X3_renamedDescendants x1 σ) 0 [(0, .ref (aC z 34)), (1, .int x1)] [] σ := by
  rw [X3_renamedDescendants]
  refine S_iconst C (0) dX3_renamedDescendants_0 (by decide) ?_
  refine S_istore_n C [(2, .int 0), (0, .ref (aC z 34)), (1, .int x1)] (i := 2) dX3_renamedDescendants_1 rfl (by decide) rfl ?_
  refine S_iconst C (0) dX3_renamedDescendants_2 (by decide) ?_
  refine S_istore_n C [(3, .int 0), (2, .int 0), (0, .ref (aC z 34)), (1, .int x1)] (i := 3) dX3_renamedDescendants_3 rfl (by decide) rfl ?_
  exact S_sub [2, 3, 1, 0] rfl (WT_X3_renamedDescendants_L4 C σ FU x1 (0 : Int32) (0 : Int32))
set_option maxRecDepth 10000 in
theorem con_X3_renamedDescendants (z : ZT) (l : Launch) (x1 : Int32) (σ : St) : ∀ ro, X3_renamedDescendants x1 σ = some ro → Con (wxC z) l yX3_renamedDescendants cX3_renamedDescendants 4 (some .int) 1 24 [.ref (aC z 34), .int x1] σ ((jI σ) ro) :=
  fun ro hk => Con_of hk (by decide) (Nat.le_of_ble_eq_true rfl) (fun x hx C => WT_X3_renamedDescendants C x1 σ)
set_option maxRecDepth 10000 in
theorem K_X3_renamedDescendants {x : MX} {z : ZT} {own : String} {cc : ByteArray} {nL : Nat} {ret : Option FieldType} {fr lo : Nat} {ρ : Type} {inj : ρ → Option Value × St} {pc : Nat} {lv : List (Nat × Value)} {st : List Value} {σ : St} (C : Cok x (wxC z) own cc nL ret fr lo) {x1 : Int32} {index : Nat} (hl : Cond.methodLink own index yX3_renamedDescendants ∈ gtb) (hR : 1 + 1 ≤ fr ∧ 8 + (4 + 11) + 24 ≤ lo) (hW : (st.map fun v => v.category).sum ≤ 8) (hd : decode cc pc = .ok (.invokevirtual index, 3)) {K : Int32 → Option ρ} (h : ∀ v, Sim x (wxC z) nL inj (K v) (pc + 3) lv (.int v :: st) σ) : Sim x (wxC z) nL inj ((X3_renamedDescendants x1 σ).bind K) pc lv (.int x1 :: .ref (aC z 34) :: st) σ :=
  S_callV C (As := [.int x1]) (q := 34) (inj1 := (jI σ)) mw_X3_renamedDescendants mv_X3_renamedDescendants hl (fun ro hro => con_X3_renamedDescendants z (mL x) x1 σ ro hro) hR rfl (show 34 < 59 by decide) rfl (ce_X3 z σ) rfl rfl hW hd h
set_option maxRecDepth 10000 in
theorem WT_X3_longestDescent_L4 {x : MX} {z : ZT} (C : Cok x (wxC z) RX3 cX3_longestDescent 4 (some .int) 1 24) (σ : St) : ∀ (n : Nat) (x1 : Int32) (x2 : Int32) (x3 : Int32), Sim x (wxC z) 4 (jI σ) (X3_longestDescent_L4 σ n x1 x2 x3) 4 [(0, .ref (aC z 34)), (1, .int x1), (2, .int x2), (3, .int x3)] [] σ := by
  intro n
  induction n with
  | zero =>
    intros
    exact S_none
  | succ n ih =>
    intro x1 x2 x3
    rw [X3_longestDescent_L4]
    refine S_iload_n C 3 dX3_longestDescent_4 rfl ?_
    refine S_aload_n C 0 dX3_longestDescent_5 rfl ?_
    refine G_X3_size C fl_X3_53 dX3_longestDescent_6 ?_
    refine S_icmp_ge C 29 dX3_longestDescent_9 (by decide) ?_ ?_
    · refine S_iload_n C 2 dX3_longestDescent_29 rfl ?_
      exact S_iret C rfl dX3_longestDescent_30
    · refine S_iload_n C 2 dX3_longestDescent_12 rfl ?_
      refine S_aload_n C 0 dX3_longestDescent_13 rfl ?_
      refine S_iload_n C 3 dX3_longestDescent_14 rfl ?_
      refine S_iload_n C 1 dX3_longestDescent_15 rfl ?_
      refine K_X3_stepsUp C ml_X3_86 (by decide) (Nat.le_of_ble_eq_true rfl) dX3_longestDescent_16 (fun v1 => ?_)
      refine K_J9_max_7cf53 C ml_X3_90 (by decide) (Nat.le_of_ble_eq_true rfl) dX3_longestDescent_19 (fun v2 => ?_)
      refine S_istore_n C [(2, .int v2), (0, .ref (aC z 34)), (1, .int x1), (3, .int x3)] (i := 2) dX3_longestDescent_22 rfl (by decide) rfl ?_
      refine S_iinc C 3 [(3, .int (x3 + 1)), (2, .int v2), (0, .ref (aC z 34)), (1, .int x1)] (x3 + 1) dX3_longestDescent_23 rfl rfl (by decide) rfl ?_
      refine S_goto C 4 dX3_longestDescent_26 (by decide) ?_
      exact S_sub [2, 3, 1, 0] rfl (ih x1 v2 (x3 + 1))
set_option maxRecDepth 10000 in
theorem WT_X3_longestDescent {x : MX} {z : ZT} (C : Cok x (wxC z) RX3 cX3_longestDescent 4 (some .int) 1 24) (x1 : Int32) (σ : St) : Sim x (wxC z) 4 (jI σ) (X3_longestDescent x1 σ) 0 [(0, .ref (aC z 34)), (1, .int x1)] [] σ := by
  rw [X3_longestDescent]
  refine S_iconst C (0) dX3_longestDescent_0 (by decide) ?_
  refine S_istore_n C [(2, .int 0), (0, .ref (aC z 34)), (1, .int x1)] (i := 2) dX3_longestDescent_1 rfl (by decide) rfl ?_
  refine S_iconst C (0) dX3_longestDescent_2 (by decide) ?_
  refine S_istore_n C [(3, .int 0), (2, .int 0), (0, .ref (aC z 34)), (1, .int x1)] (i := 3) dX3_longestDescent_3 rfl (by decide) rfl ?_
  exact S_sub [2, 3, 1, 0] rfl (WT_X3_longestDescent_L4 C σ FU x1 (0 : Int32) (0 : Int32))
set_option maxRecDepth 10000 in
theorem con_X3_longestDescent (z : ZT) (l : Launch) (x1 : Int32) (σ : St) : ∀ ro, X3_longestDescent x1 σ = some ro → Con (wxC z) l yX3_longestDescent cX3_longestDescent 4 (some .int) 1 24 [.ref (aC z 34), .int x1] σ ((jI σ) ro) :=
  fun ro hk => Con_of hk (by decide) (Nat.le_of_ble_eq_true rfl) (fun x hx C => WT_X3_longestDescent C x1 σ)
set_option maxRecDepth 10000 in
theorem K_X3_longestDescent {x : MX} {z : ZT} {own : String} {cc : ByteArray} {nL : Nat} {ret : Option FieldType} {fr lo : Nat} {ρ : Type} {inj : ρ → Option Value × St} {pc : Nat} {lv : List (Nat × Value)} {st : List Value} {σ : St} (C : Cok x (wxC z) own cc nL ret fr lo) {x1 : Int32} {index : Nat} (hl : Cond.methodLink own index yX3_longestDescent ∈ gtb) (hR : 1 + 1 ≤ fr ∧ 8 + (4 + 11) + 24 ≤ lo) (hW : (st.map fun v => v.category).sum ≤ 8) (hd : decode cc pc = .ok (.invokevirtual index, 3)) {K : Int32 → Option ρ} (h : ∀ v, Sim x (wxC z) nL inj (K v) (pc + 3) lv (.int v :: st) σ) : Sim x (wxC z) nL inj ((X3_longestDescent x1 σ).bind K) pc lv (.int x1 :: .ref (aC z 34) :: st) σ :=
  S_callV C (As := [.int x1]) (q := 34) (inj1 := (jI σ)) mw_X3_longestDescent mv_X3_longestDescent hl (fun ro hro => con_X3_longestDescent z (mL x) x1 σ ro hro) hR rfl (show 34 < 59 by decide) rfl (ce_X3 z σ) rfl rfl hW hd h
set_option maxRecDepth 10000 in
theorem WT_X2_greatestDivisor_L9 {x : MX} {z : ZT} (C : Cok x (wxC z) RX2 cX2_greatestDivisor 11 (some .long) 0 0) (σ : St) : ∀ (n : Nat) (x4 : Int64) (x6 : Int64) (x8 : Int32), Sim x (wxC z) 11 (jL σ) (X2_greatestDivisor_L9 σ n x4 x6 x8) 9 [(4, .long x4), (6, .long x6), (8, .int x8)] [] σ := by
  intro n
  induction n with
  | zero =>
    intros
    exact S_none
  | succ n ih =>
    intro x4 x6 x8
    rw [X2_greatestDivisor_L9]
    refine S_iload C 2 dX2_greatestDivisor_9 rfl ?_
    refine S_bipush C (100) dX2_greatestDivisor_11 (by decide) ?_
    refine S_icmp_ge C 44 dX2_greatestDivisor_13 (by decide) ?_ ?_
    · refine S_lload C 0 dX2_greatestDivisor_44 rfl ?_
      exact S_lret C rfl dX2_greatestDivisor_46
    · refine S_lload C 1 dX2_greatestDivisor_16 rfl ?_
      refine S_lconst C (0) dX2_greatestDivisor_18 (by decide) ?_
      refine S_lc_eq C 44 dX2_greatestDivisor_19 dX2_greatestDivisor_20 (by decide) ?_ ?_
      · refine S_lload C 0 dX2_greatestDivisor_44 rfl ?_
        exact S_lret C rfl dX2_greatestDivisor_46
      · refine S_lload C 0 dX2_greatestDivisor_23 rfl ?_
        refine S_lload C 1 dX2_greatestDivisor_25 rfl ?_
        refine S_lrem C dX2_greatestDivisor_27 ?_
        refine S_bndTL (fun x9_1 _ => ?_)
        refine S_lstore C [(9, .long x9_1), (4, .long x4), (6, .long x6), (8, .int x8)] dX2_greatestDivisor_28 (by decide) rfl ?_
        refine S_lload C 2 dX2_greatestDivisor_30 rfl ?_
        refine S_lstore C [(4, .long x6), (9, .long x9_1), (6, .long x6), (8, .int x8)] dX2_greatestDivisor_32 (by decide) rfl ?_
        refine S_lload C 1 dX2_greatestDivisor_34 rfl ?_
        refine S_lstore C [(6, .long x9_1), (4, .long x6), (9, .long x9_1), (8, .int x8)] dX2_greatestDivisor_36 (by decide) rfl ?_
        refine S_iinc C 3 [(8, .int (x8 + 1)), (6, .long x9_1), (4, .long x6), (9, .long x9_1)] (x8 + 1) dX2_greatestDivisor_38 rfl rfl (by decide) rfl ?_
        refine S_goto C 9 dX2_greatestDivisor_41 (by decide) ?_
        exact S_sub [2, 1, 0] rfl (ih x6 x9_1 (x8 + 1))
set_option maxRecDepth 10000 in
theorem WT_X2_greatestDivisor {x : MX} {z : ZT} (C : Cok x (wxC z) RX2 cX2_greatestDivisor 11 (some .long) 0 0) (x0 : Int64) (x2 : Int64) (σ : St) : Sim x (wxC z) 11 (jL σ) (X2_greatestDivisor x0 x2 σ) 0 [(0, .long x0), (2, .long x2)] [] σ := by
  rw [X2_greatestDivisor]
  refine S_lload_n C 0 dX2_greatestDivisor_0 rfl ?_
  refine S_lstore C [(4, .long x0), (0, .long x0), (2, .long x2)] dX2_greatestDivisor_1 (by decide) rfl ?_
  refine S_lload_n C 2 dX2_greatestDivisor_3 rfl ?_
  refine S_lstore C [(6, .long x2), (4, .long x0), (0, .long x0), (2, .long x2)] dX2_greatestDivisor_4 (by decide) rfl ?_
  refine S_iconst C (0) dX2_greatestDivisor_6 (by decide) ?_
  refine S_istore C [(8, .int 0), (6, .long x2), (4, .long x0), (0, .long x0), (2, .long x2)] dX2_greatestDivisor_7 (by decide) rfl ?_
  exact S_sub [2, 1, 0] rfl (WT_X2_greatestDivisor_L9 C σ FU x0 x2 (0 : Int32))
set_option maxRecDepth 10000 in
theorem con_X2_greatestDivisor (z : ZT) (l : Launch) (x0 : Int64) (x2 : Int64) (σ : St) : ∀ ro, X2_greatestDivisor x0 x2 σ = some ro → Con (wxC z) l yX2_greatestDivisor cX2_greatestDivisor 11 (some .long) 0 0 [.long x0, .long x2] σ ((jL σ) ro) :=
  fun ro hk => Con_of hk (by decide) (Nat.le_of_ble_eq_true rfl) (fun x hx C => WT_X2_greatestDivisor C x0 x2 σ)
set_option maxRecDepth 10000 in
theorem K_X2_greatestDivisor {x : MX} {z : ZT} {own : String} {cc : ByteArray} {nL : Nat} {ret : Option FieldType} {fr lo : Nat} {ρ : Type} {inj : ρ → Option Value × St} {pc : Nat} {lv : List (Nat × Value)} {st : List Value} {σ : St} (C : Cok x (wxC z) own cc nL ret fr lo) {x0 : Int64} {x2 : Int64} {index : Nat} (hl : Cond.methodLink own index yX2_greatestDivisor ∈ gtb) (hR : 0 + 1 ≤ fr ∧ 8 + (11 + 11) + 0 ≤ lo) (hW : (st.map fun v => v.category).sum ≤ 8) (hd : decode cc pc = .ok (.invokestatic index, 3)) {K : Int64 → Option ρ} (h : ∀ v, Sim x (wxC z) nL inj (K v) (pc + 3) lv (.long v :: st) σ) : Sim x (wxC z) nL inj ((X2_greatestDivisor x0 x2 σ).bind K) pc lv (.long x2 :: .long x0 :: st) σ :=
  S_callS C (As := [.long x0, .long x2]) (inj1 := (jL σ)) mw_X2_greatestDivisor ms_X2_greatestDivisor hl (fun ro hro => con_X2_greatestDivisor z (mL x) x0 x2 σ ro hro) hR rfl rfl hW hd h
set_option maxRecDepth 10000 in
theorem WT_X2_power_L5 {x : MX} {z : ZT} (C : Cok x (wxC z) RX2 cX2_power 6 (some .long) 0 0) (σ : St) : ∀ (n : Nat) (x0 : Int64) (x2 : Int32) (x3 : Int64) (x5 : Int32), Sim x (wxC z) 6 (jL σ) (X2_power_L5 σ n x0 x2 x3 x5) 5 [(0, .long x0), (2, .int x2), (3, .long x3), (5, .int x5)] [] σ := by
  intro n
  induction n with
  | zero =>
    intros
    exact S_none
  | succ n ih =>
    intro x0 x2 x3 x5
    rw [X2_power_L5]
    refine S_iload C 3 dX2_power_5 rfl ?_
    refine S_iload_n C 1 dX2_power_7 rfl ?_
    refine S_icmp_ge C 21 dX2_power_8 (by decide) ?_ ?_
    · refine S_lload_n C 2 dX2_power_21 rfl ?_
      exact S_lret C rfl dX2_power_22
    · refine S_lload_n C 2 dX2_power_11 rfl ?_
      refine S_lload_n C 0 dX2_power_12 rfl ?_
      refine S_lmul C dX2_power_13 ?_
      refine S_bndTL (fun x3_1 _ => ?_)
      refine S_lstore_n C [(3, .long x3_1), (0, .long x0), (2, .int x2), (5, .int x5)] (i := 3) dX2_power_14 rfl (by decide) rfl ?_
      refine S_iinc C 3 [(5, .int (x5 + 1)), (3, .long x3_1), (0, .long x0), (2, .int x2)] (x5 + 1) dX2_power_15 rfl rfl (by decide) rfl ?_
      refine S_goto C 5 dX2_power_18 (by decide) ?_
      exact S_sub [2, 3, 1, 0] rfl (ih x0 x2 x3_1 (x5 + 1))
set_option maxRecDepth 10000 in
theorem WT_X2_power {x : MX} {z : ZT} (C : Cok x (wxC z) RX2 cX2_power 6 (some .long) 0 0) (x0 : Int64) (x2 : Int32) (σ : St) : Sim x (wxC z) 6 (jL σ) (X2_power x0 x2 σ) 0 [(0, .long x0), (2, .int x2)] [] σ := by
  rw [X2_power]
  refine S_lconst C (1) dX2_power_0 (by decide) ?_
  refine S_lstore_n C [(3, .long 1), (0, .long x0), (2, .int x2)] (i := 3) dX2_power_1 rfl (by decide) rfl ?_
  refine S_iconst C (0) dX2_power_2 (by decide) ?_
  refine S_istore C [(5, .int 0), (3, .long 1), (0, .long x0), (2, .int x2)] dX2_power_3 (by decide) rfl ?_
  exact S_sub [2, 3, 1, 0] rfl (WT_X2_power_L5 C σ FU x0 x2 (1 : Int64) (0 : Int32))
set_option maxRecDepth 10000 in
theorem con_X2_power (z : ZT) (l : Launch) (x0 : Int64) (x2 : Int32) (σ : St) : ∀ ro, X2_power x0 x2 σ = some ro → Con (wxC z) l yX2_power cX2_power 6 (some .long) 0 0 [.long x0, .int x2] σ ((jL σ) ro) :=
  fun ro hk => Con_of hk (by decide) (Nat.le_of_ble_eq_true rfl) (fun x hx C => WT_X2_power C x0 x2 σ)
set_option maxRecDepth 10000 in
theorem K_X2_power {x : MX} {z : ZT} {own : String} {cc : ByteArray} {nL : Nat} {ret : Option FieldType} {fr lo : Nat} {ρ : Type} {inj : ρ → Option Value × St} {pc : Nat} {lv : List (Nat × Value)} {st : List Value} {σ : St} (C : Cok x (wxC z) own cc nL ret fr lo) {x0 : Int64} {x2 : Int32} {index : Nat} (hl : Cond.methodLink own index yX2_power ∈ gtb) (hR : 0 + 1 ≤ fr ∧ 8 + (6 + 11) + 0 ≤ lo) (hW : (st.map fun v => v.category).sum ≤ 8) (hd : decode cc pc = .ok (.invokestatic index, 3)) {K : Int64 → Option ρ} (h : ∀ v, Sim x (wxC z) nL inj (K v) (pc + 3) lv (.long v :: st) σ) : Sim x (wxC z) nL inj ((X2_power x0 x2 σ).bind K) pc lv (.int x2 :: .long x0 :: st) σ :=
  S_callS C (As := [.long x0, .int x2]) (inj1 := (jL σ)) mw_X2_power ms_X2_power hl (fun ro hro => con_X2_power z (mL x) x0 x2 σ ro hro) hR rfl rfl hW hd h
set_option maxRecDepth 10000 in
theorem WT_X2_addGeneration_B105 {x : MX} {z : ZT} (C : Cok x (wxC z) RX2 cX2_addGeneration 10 none 1 30) (t1 : Nat) (ht1 : t1 < 2) (x6 : Int64) (x8 : Int64) (s0 : Int64) (σ : St) : Sim x (wxC z) 10 jV (X2_addGeneration_B105 t1 x6 x8 s0 σ) 105 [(0, .ref (aC z 49)), (6, .long x6), (8, .long x8)] [.long s0, .ref (aC z 49)] σ := by
  rw [X2_addGeneration_B105]
  refine P_X2_numerator C fl_X2_7 dX2_addGeneration_105 ?_
  refine S_bndS (fun σ4 _ => ?_)
  refine S_aload_n C 0 dX2_addGeneration_108 rfl ?_
  refine S_lload C 2 dX2_addGeneration_109 rfl ?_
  refine S_lconst C (0) dX2_addGeneration_111 (by decide) ?_
  refine S_lc_le C 124 dX2_addGeneration_112 dX2_addGeneration_113 (by decide) ?_ ?_
  · refine S_lconst C (1) dX2_addGeneration_124 (by decide) ?_
    refine P_X2_denominator C fl_X2_13 dX2_addGeneration_125 ?_
    refine S_bndS (fun σ5 _ => ?_)
    exact S_vret C rfl dX2_addGeneration_128
  · refine S_lload C 1 dX2_addGeneration_116 rfl ?_
    refine S_lload C 2 dX2_addGeneration_118 rfl ?_
    refine S_ldiv C dX2_addGeneration_120 ?_
    refine S_goto C 125 dX2_addGeneration_121 (by decide) ?_
    refine P_X2_denominator C fl_X2_13 dX2_addGeneration_125 ?_
    refine S_bndS (fun σ6 _ => ?_)
    exact S_vret C rfl dX2_addGeneration_128
set_option maxRecDepth 10000 in
theorem WT_X2_addGeneration_L8 {x : MX} {z : ZT} (C : Cok x (wxC z) RX2 cX2_addGeneration 10 none 1 30) (t1 : Nat) (ht1 : t1 < 2) : ∀ (n : Nat) (x2 : Int64) (x4 : Int64) (x6 : Int32) (σ : St), Sim x (wxC z) 10 jV (X2_addGeneration_L8 t1 n x2 x4 x6 σ) 8 [(0, .ref (aC z 49)), (1, .ref (aC z (4 + t1))), (2, .long x2), (4, .long x4), (6, .int x6)] [] σ := by
  intro n
  induction n with
  | zero =>
    intros
    exact S_none
  | succ n ih =>
    intro x2 x4 x6 σ
    rw [X2_addGeneration_L8]
    refine S_iload C 4 dX2_addGeneration_8 rfl ?_
    refine S_iconst C (4) dX2_addGeneration_10 (by decide) ?_
    refine S_icmp_ge C 67 dX2_addGeneration_11 (by decide) ?_ ?_
    · refine S_lload_n C 2 dX2_addGeneration_67 rfl ?_
      refine S_aload_n C 0 dX2_addGeneration_68 rfl ?_
      refine G_X2_denominator C fl_X2_13 dX2_addGeneration_69 ?_
      refine S_iconst C (3) dX2_addGeneration_72 (by decide) ?_
      refine K_X2_power C ml_X2_26 (by decide) (Nat.le_of_ble_eq_true rfl) dX2_addGeneration_73 (fun v1 => ?_)
      refine S_lmul C dX2_addGeneration_76 ?_
      refine S_bndTL (fun x6_2 _ => ?_)
      refine S_lstore C [(6, .long x6_2), (0, .ref (aC z 49)), (1, .ref (aC z (4 + t1))), (2, .long x2), (4, .long x4)] dX2_addGeneration_77 (by decide) rfl ?_
      refine S_lload C 4 dX2_addGeneration_79 rfl ?_
      refine S_lload C 0 dX2_addGeneration_81 rfl ?_
      refine K_X2_greatestDivisor C ml_X2_30 (by decide) (Nat.le_of_ble_eq_true rfl) dX2_addGeneration_83 (fun v3 => ?_)
      refine S_lstore C [(8, .long v3), (6, .long x6_2), (0, .ref (aC z 49)), (1, .ref (aC z (4 + t1))), (2, .long x2), (4, .long x4)] dX2_addGeneration_86 (by decide) rfl ?_
      refine S_aload_n C 2 dX2_addGeneration_88 rfl ?_
      refine S_lload C 0 dX2_addGeneration_89 rfl ?_
      refine S_lconst C (0) dX2_addGeneration_91 (by decide) ?_
      refine S_lc_le C 104 dX2_addGeneration_92 dX2_addGeneration_93 (by decide) ?_ ?_
      · refine S_lconst C (0) dX2_addGeneration_104 (by decide) ?_
        exact S_sub [2, 1, 0] rfl (WT_X2_addGeneration_B105 C t1 ht1 x6_2 v3 (0 : Int64) σ)
      · refine S_lload C 5 dX2_addGeneration_96 rfl ?_
        refine S_lload C 0 dX2_addGeneration_98 rfl ?_
        refine S_ldiv C dX2_addGeneration_100 ?_
        refine S_goto C 105 dX2_addGeneration_101 (by decide) ?_
        exact S_sub [2, 1, 0] rfl (WT_X2_addGeneration_B105 C t1 ht1 x6_2 v3 (x4 / v3) σ)
    · refine S_aload_n C 1 dX2_addGeneration_14 rfl ?_
      refine G_X5_numbers C ht1 fl_X2_22 dX2_addGeneration_15 ?_
      refine S_iconst C (4) dX2_addGeneration_18 (by decide) ?_
      refine S_iload C 4 dX2_addGeneration_19 rfl ?_
      refine S_iadd C dX2_addGeneration_21 ?_
      refine L_X5_numbers C ht1 dX2_addGeneration_22 (fun _ => ?_)
      refine S_bndT (fun x7_7 _ => ?_)
      refine S_istore C [(7, .int x7_7), (0, .ref (aC z 49)), (1, .ref (aC z (4 + t1))), (2, .long x2), (4, .long x4), (6, .int x6)] dX2_addGeneration_23 (by decide) rfl ?_
      refine S_lload_n C 3 dX2_addGeneration_25 rfl ?_
      refine S_iload C 0 dX2_addGeneration_26 rfl ?_
      refine S_i2l C dX2_addGeneration_28 ?_
      refine S_ladd C dX2_addGeneration_29 ?_
      refine S_bndTL (fun x2_8 _ => ?_)
      refine S_lstore_n C [(2, .long x2_8), (7, .int x7_7), (0, .ref (aC z 49)), (1, .ref (aC z (4 + t1))), (4, .long x4), (6, .int x6)] (i := 2) dX2_addGeneration_30 rfl (by decide) rfl ?_
      refine S_lload C 4 dX2_addGeneration_31 rfl ?_
      refine S_iload C 1 dX2_addGeneration_33 rfl ?_
      refine S_i2l C dX2_addGeneration_35 ?_
      refine S_aload_n C 2 dX2_addGeneration_36 rfl ?_
      refine G_X2_numerator C fl_X2_7 dX2_addGeneration_37 ?_
      refine S_iload C 5 dX2_addGeneration_40 rfl ?_
      refine K_X2_power C ml_X2_26 (by decide) (Nat.le_of_ble_eq_true rfl) dX2_addGeneration_42 (fun v9 => ?_)
      refine S_lmul C dX2_addGeneration_45 ?_
      refine S_aload_n C 2 dX2_addGeneration_46 rfl ?_
      refine G_X2_denominator C fl_X2_13 dX2_addGeneration_47 ?_
      refine S_iconst C (3) dX2_addGeneration_50 (by decide) ?_
      refine S_iload C 5 dX2_addGeneration_51 rfl ?_
      refine S_isub C dX2_addGeneration_53 ?_
      refine K_X2_power C ml_X2_26 (by decide) (Nat.le_of_ble_eq_true rfl) dX2_addGeneration_54 (fun v10 => ?_)
      refine S_lmul C dX2_addGeneration_57 ?_
      refine S_ladd C dX2_addGeneration_58 ?_
      refine S_bndTL (fun x4_11 _ => ?_)
      refine S_lstore C [(4, .long x4_11), (2, .long x2_8), (7, .int x7_7), (0, .ref (aC z 49)), (1, .ref (aC z (4 + t1))), (6, .int x6)] dX2_addGeneration_59 (by decide) rfl ?_
      refine S_iinc C 5 [(6, .int (x6 + 1)), (4, .long x4_11), (2, .long x2_8), (7, .int x7_7), (0, .ref (aC z 49)), (1, .ref (aC z (4 + t1)))] (x6 + 1) dX2_addGeneration_61 rfl rfl (by decide) rfl ?_
      refine S_goto C 8 dX2_addGeneration_64 (by decide) ?_
      exact S_sub [4, 5, 2, 1, 0] rfl (ih x2_8 x4_11 (x6 + 1) σ)
set_option maxRecDepth 10000 in
theorem WT_X2_addGeneration {x : MX} {z : ZT} (C : Cok x (wxC z) RX2 cX2_addGeneration 10 none 1 30) (t1 : Nat) (σ : St) (ht1 : t1 < 2) : Sim x (wxC z) 10 jV (X2_addGeneration t1 σ) 0 [(0, .ref (aC z 49)), (1, .ref (aC z (4 + t1)))] [] σ := by
  rw [X2_addGeneration]
  refine S_lconst C (0) dX2_addGeneration_0 (by decide) ?_
  refine S_lstore_n C [(2, .long 0), (0, .ref (aC z 49)), (1, .ref (aC z (4 + t1)))] (i := 2) dX2_addGeneration_1 rfl (by decide) rfl ?_
  refine S_lconst C (0) dX2_addGeneration_2 (by decide) ?_
  refine S_lstore C [(4, .long 0), (2, .long 0), (0, .ref (aC z 49)), (1, .ref (aC z (4 + t1)))] dX2_addGeneration_3 (by decide) rfl ?_
  refine S_iconst C (0) dX2_addGeneration_5 (by decide) ?_
  refine S_istore C [(6, .int 0), (4, .long 0), (2, .long 0), (0, .ref (aC z 49)), (1, .ref (aC z (4 + t1)))] dX2_addGeneration_6 (by decide) rfl ?_
  exact S_sub [3, 4, 2, 1, 0] rfl (WT_X2_addGeneration_L8 C t1 ht1 FU (0 : Int64) (0 : Int64) (0 : Int32) σ)
set_option maxRecDepth 10000 in
theorem con_X2_addGeneration (z : ZT) (l : Launch) (t1 : Nat) (σ : St) (ht1 : t1 < 2) : ∀ ro, X2_addGeneration t1 σ = some ro → Con (wxC z) l yX2_addGeneration cX2_addGeneration 10 none 1 30 [.ref (aC z 49), .ref (aC z (4 + t1))] σ (jV ro) :=
  fun ro hk => Con_of hk (by decide) (Nat.le_of_ble_eq_true rfl) (fun x hx C => WT_X2_addGeneration C t1 σ ht1)
set_option maxRecDepth 10000 in
theorem K_X2_addGeneration {x : MX} {z : ZT} {own : String} {cc : ByteArray} {nL : Nat} {ret : Option FieldType} {fr lo : Nat} {ρ : Type} {inj : ρ → Option Value × St} {pc : Nat} {lv : List (Nat × Value)} {st : List Value} {σ : St} (C : Cok x (wxC z) own cc nL ret fr lo) {t1 : Nat} (ht1 : t1 < 2) {index : Nat} (hl : Cond.methodLink own index yX2_addGeneration ∈ gtb) (hR : 1 + 1 ≤ fr ∧ 8 + (10 + 11) + 30 ≤ lo) (hW : (st.map fun v => v.category).sum ≤ 8) (hd : decode cc pc = .ok (.invokevirtual index, 3)) {K : St → Option ρ} (h : ∀ v, Sim x (wxC z) nL inj (K v) (pc + 3) lv (st) v) : Sim x (wxC z) nL inj ((X2_addGeneration t1 σ).bind K) pc lv (.ref (aC z (4 + t1)) :: .ref (aC z 49) :: st) σ :=
  S_callV C (As := [.ref (aC z (4 + t1))]) (q := 49) (inj1 := jV) mw_X2_addGeneration mv_X2_addGeneration hl (fun ro hro => con_X2_addGeneration z (mL x) t1 σ ht1 ro hro) hR rfl (show 49 < 59 by decide) rfl (ce_X2 z σ) rfl rfl hW hd h
set_option maxRecDepth 10000 in
theorem WT_X2_follow_L12 {x : MX} {z : ZT} (C : Cok x (wxC z) RX2 cX2_follow 4 none 2 59) (t1 : Nat) (ht1 : t1 < 2) : ∀ (n : Nat) (x2 : Int32) (x3 : Int32) (σ : St), Sim x (wxC z) 4 jV (X2_follow_L12 t1 n x2 x3 σ) 12 [(0, .ref (aC z 49)), (1, .ref (aC z (4 + t1))), (2, .int x2), (3, .int x3)] [] σ := by
  intro n
  induction n with
  | zero =>
    intros
    exact S_none
  | succ n ih =>
    intro x2 x3 σ
    rw [X2_follow_L12]
    refine S_iload_n C 3 dX2_follow_12 rfl ?_
    refine S_iload_n C 2 dX2_follow_13 rfl ?_
    refine S_icmp_ge C 28 dX2_follow_14 (by decide) ?_ ?_
    · exact S_vret C rfl dX2_follow_28
    · refine S_aload_n C 0 dX2_follow_17 rfl ?_
      refine S_aload_n C 1 dX2_follow_18 rfl ?_
      refine K_X2_addGeneration C ht1 ml_X2_16 (by decide) (Nat.le_of_ble_eq_true rfl) dX2_follow_19 (fun σ3 => ?_)
      refine S_iinc C 3 [(3, .int (x3 + 1)), (0, .ref (aC z 49)), (1, .ref (aC z (4 + t1))), (2, .int x2)] (x3 + 1) dX2_follow_22 rfl rfl (by decide) rfl ?_
      refine S_goto C 12 dX2_follow_25 (by decide) ?_
      exact S_sub [1, 2, 3, 0] rfl (ih x2 (x3 + 1) σ3)
set_option maxRecDepth 10000 in
theorem WT_X2_follow {x : MX} {z : ZT} (C : Cok x (wxC z) RX2 cX2_follow 4 none 2 59) (t1 : Nat) (x2 : Int32) (σ : St) (ht1 : t1 < 2) : Sim x (wxC z) 4 jV (X2_follow t1 x2 σ) 0 [(0, .ref (aC z 49)), (1, .ref (aC z (4 + t1))), (2, .int x2)] [] σ := by
  rw [X2_follow]
  refine S_aload_n C 0 dX2_follow_0 rfl ?_
  refine S_lconst C (0) dX2_follow_1 (by decide) ?_
  refine P_X2_numerator C fl_X2_7 dX2_follow_2 ?_
  refine S_bndS (fun σ1 _ => ?_)
  refine S_aload_n C 0 dX2_follow_5 rfl ?_
  refine S_lconst C (1) dX2_follow_6 (by decide) ?_
  refine P_X2_denominator C fl_X2_13 dX2_follow_7 ?_
  refine S_bndS (fun σ2 _ => ?_)
  refine S_iconst C (0) dX2_follow_10 (by decide) ?_
  refine S_istore_n C [(3, .int 0), (0, .ref (aC z 49)), (1, .ref (aC z (4 + t1))), (2, .int x2)] (i := 3) dX2_follow_11 rfl (by decide) rfl ?_
  exact S_sub [1, 2, 3, 0] rfl (WT_X2_follow_L12 C t1 ht1 FU x2 (0 : Int32) σ2)
set_option maxRecDepth 10000 in
theorem con_X2_follow (z : ZT) (l : Launch) (t1 : Nat) (x2 : Int32) (σ : St) (ht1 : t1 < 2) : ∀ ro, X2_follow t1 x2 σ = some ro → Con (wxC z) l yX2_follow cX2_follow 4 none 2 59 [.ref (aC z 49), .ref (aC z (4 + t1)), .int x2] σ (jV ro) :=
  fun ro hk => Con_of hk (by decide) (Nat.le_of_ble_eq_true rfl) (fun x hx C => WT_X2_follow C t1 x2 σ ht1)
set_option maxRecDepth 10000 in
theorem K_X2_follow {x : MX} {z : ZT} {own : String} {cc : ByteArray} {nL : Nat} {ret : Option FieldType} {fr lo : Nat} {ρ : Type} {inj : ρ → Option Value × St} {pc : Nat} {lv : List (Nat × Value)} {st : List Value} {σ : St} (C : Cok x (wxC z) own cc nL ret fr lo) {t1 : Nat} {x2 : Int32} (ht1 : t1 < 2) {index : Nat} (hl : Cond.methodLink own index yX2_follow ∈ gtb) (hR : 2 + 1 ≤ fr ∧ 8 + (4 + 11) + 59 ≤ lo) (hW : (st.map fun v => v.category).sum ≤ 8) (hd : decode cc pc = .ok (.invokevirtual index, 3)) {K : St → Option ρ} (h : ∀ v, Sim x (wxC z) nL inj (K v) (pc + 3) lv (st) v) : Sim x (wxC z) nL inj ((X2_follow t1 x2 σ).bind K) pc lv (.int x2 :: .ref (aC z (4 + t1)) :: .ref (aC z 49) :: st) σ :=
  S_callV C (As := [.ref (aC z (4 + t1)), .int x2]) (q := 49) (inj1 := jV) mw_X2_follow mv_X2_follow hl (fun ro hro => con_X2_follow z (mL x) t1 x2 σ ht1 ro hro) hR rfl (show 49 < 59 by decide) rfl (ce_X2 z σ) rfl rfl hW hd h
set_option maxRecDepth 10000 in
theorem WT_X1_suffices_B54 {x : MX} {z : ZT} {fr lo : Nat} (C : Cok x (wxC z) RX1 cX1_suffices 7 (some .boolean) fr lo) (rc : Int32 → Int32 → Int32 → Option Int32) (σ : St) {fr1 lo1 : Nat} (hrc : ∀ (x1 x2 x3 : Int32) (r : Int32), rc x1 x2 x3 = some r → Con (wxC z) (mL x) yX1_suffices cX1_suffices 7 (some .boolean) fr1 lo1 [.ref (aC z 20), .int x1, .int x2, .int x3] σ ((jI σ) r)) (hR : fr1 + 1 ≤ fr ∧ 8 + (7 + 11) + lo1 ≤ lo) (kq31 : Int32 → Int32 → Int32 → Int32 → Int32 → Option Int32) (hk31 : ∀ (x1 : Int32) (x2 : Int32) (x3 : Int32) (x4 : Int32) (x5 : Int32), Sim x (wxC z) 7 (jI σ) (kq31 x1 x2 x3 x4 x5) 31 [(0, .ref (aC z 20)), (1, .int x1), (2, .int x2), (3, .int x3), (4, .int x4), (5, .int x5)] [] σ) (x1 : Int32) (x2 : Int32) (x3 : Int32) (x4 : Int32) (x5 : Int32) (s0 : Int32) : Sim x (wxC z) 7 (jI σ) (X1_suffices_B54 kq31 rc σ x1 x2 x3 x4 x5 s0) 54 [(0, .ref (aC z 20)), (1, .int x1), (2, .int x2), (3, .int x3), (4, .int x4), (5, .int x5)] [.int s0] σ := by
  rw [X1_suffices_B54]
  refine S_istore C [(6, .int s0), (0, .ref (aC z 20)), (1, .int x1), (2, .int x2), (3, .int x3), (4, .int x4), (5, .int x5)] dX1_suffices_54 (by decide) rfl ?_
  refine S_iload C 0 dX1_suffices_56 rfl ?_
  refine S_if_eq C 82 dX1_suffices_58 (by decide) ?_ ?_
  · refine S_iinc C 6 [(5, .int (x5 + 1)), (6, .int s0), (0, .ref (aC z 20)), (1, .int x1), (2, .int x2), (3, .int x3), (4, .int x4)] (x5 + 1) dX1_suffices_82 rfl rfl (by decide) rfl ?_
    refine S_goto C 31 dX1_suffices_85 (by decide) ?_
    exact S_sub [2, 3, 4, 5, 6, 0] rfl (hk31 x1 x2 x3 x4 (x5 + 1))
  · refine S_aload_n C 1 dX1_suffices_61 rfl ?_
    refine S_iload_n C 2 dX1_suffices_62 rfl ?_
    refine S_iload_n C 3 dX1_suffices_63 rfl ?_
    refine S_aload_n C 1 dX1_suffices_64 rfl ?_
    refine S_iload C 6 dX1_suffices_65 rfl ?_
    refine L_X9_joined C dX1_suffices_67 (fun _ => ?_)
    refine S_iconst C (-1) dX1_suffices_68 (by decide) ?_
    refine S_ixor C dX1_suffices_69 ?_
    refine S_iand C dX1_suffices_70 ?_
    refine S_iload_n C 4 dX1_suffices_71 rfl ?_
    refine S_iconst C (1) dX1_suffices_72 (by decide) ?_
    refine S_isub C dX1_suffices_73 ?_
    refine K_rec_X1_suffices C hrc hR ml_X1_7 (Nat.le_of_ble_eq_true rfl) dX1_suffices_74 (fun v3 => ?_)
    refine S_if_eq C 82 dX1_suffices_77 (by decide) ?_ ?_
    · refine S_iinc C 6 [(5, .int (x5 + 1)), (6, .int s0), (0, .ref (aC z 20)), (1, .int x1), (2, .int x2), (3, .int x3), (4, .int x4)] (x5 + 1) dX1_suffices_82 rfl rfl (by decide) rfl ?_
      refine S_goto C 31 dX1_suffices_85 (by decide) ?_
      exact S_sub [2, 3, 4, 5, 6, 0] rfl (hk31 x1 x2 x3 x4 (x5 + 1))
    · refine S_iconst C (1) dX1_suffices_80 (by decide) ?_
      exact S_zret C rfl rfl dX1_suffices_81
set_option maxRecDepth 10000 in
theorem WT_X1_suffices_L31 {x : MX} {z : ZT} {fr lo : Nat} (C : Cok x (wxC z) RX1 cX1_suffices 7 (some .boolean) fr lo) (rc : Int32 → Int32 → Int32 → Option Int32) (σ : St) {fr1 lo1 : Nat} (hrc : ∀ (x1 x2 x3 : Int32) (r : Int32), rc x1 x2 x3 = some r → Con (wxC z) (mL x) yX1_suffices cX1_suffices 7 (some .boolean) fr1 lo1 [.ref (aC z 20), .int x1, .int x2, .int x3] σ ((jI σ) r)) (hR : fr1 + 1 ≤ fr ∧ 8 + (7 + 11) + lo1 ≤ lo) : ∀ (n : Nat) (x1 : Int32) (x2 : Int32) (x3 : Int32) (x4 : Int32) (x5 : Int32), Sim x (wxC z) 7 (jI σ) (X1_suffices_L31 rc σ n x1 x2 x3 x4 x5) 31 [(0, .ref (aC z 20)), (1, .int x1), (2, .int x2), (3, .int x3), (4, .int x4), (5, .int x5)] [] σ := by
  intro n
  induction n with
  | zero =>
    intros
    exact S_none
  | succ n ih =>
    intro x1 x2 x3 x4 x5
    rw [X1_suffices_L31]
    refine S_iload C 5 dX1_suffices_31 rfl ?_
    refine S_aload_n C 0 dX1_suffices_33 rfl ?_
    refine N_X9_joined C dX1_suffices_34 ?_
    refine S_icmp_ge C 88 dX1_suffices_35 (by decide) ?_ ?_
    · refine S_iconst C (0) dX1_suffices_88 (by decide) ?_
      exact S_zret C rfl rfl dX1_suffices_89
    · refine S_iload C 4 dX1_suffices_38 rfl ?_
      refine S_iload C 5 dX1_suffices_40 rfl ?_
      refine S_ishr C dX1_suffices_42 ?_
      refine S_iconst C (1) dX1_suffices_43 (by decide) ?_
      refine S_iand C dX1_suffices_44 ?_
      refine S_iconst C (1) dX1_suffices_45 (by decide) ?_
      refine S_icmp_ne C 53 dX1_suffices_46 (by decide) ?_ ?_
      · refine S_iconst C (0) dX1_suffices_53 (by decide) ?_
        exact S_sub [0, 1, 2, 3, 4, 5] rfl (WT_X1_suffices_B54 C rc σ hrc hR _ ih x1 x2 x3 x4 x5 (0 : Int32))
      · refine S_iconst C (1) dX1_suffices_49 (by decide) ?_
        refine S_goto C 54 dX1_suffices_50 (by decide) ?_
        exact S_sub [0, 1, 2, 3, 4, 5] rfl (WT_X1_suffices_B54 C rc σ hrc hR _ ih x1 x2 x3 x4 x5 (1 : Int32))
set_option maxRecDepth 10000 in
theorem WT_X1_suffices_E {x : MX} {z : ZT} {fr lo : Nat} (C : Cok x (wxC z) RX1 cX1_suffices 7 (some .boolean) fr lo) (x1 : Int32) (x2 : Int32) (x3 : Int32) (rc : Int32 → Int32 → Int32 → Option Int32) (σ : St) {fr1 lo1 : Nat} (hrc : ∀ (x1 x2 x3 : Int32) (r : Int32), rc x1 x2 x3 = some r → Con (wxC z) (mL x) yX1_suffices cX1_suffices 7 (some .boolean) fr1 lo1 [.ref (aC z 20), .int x1, .int x2, .int x3] σ ((jI σ) r)) (hR : fr1 + 1 ≤ fr ∧ 8 + (7 + 11) + lo1 ≤ lo) : Sim x (wxC z) 7 (jI σ) (X1_suffices_E rc σ x1 x2 x3) 0 [(0, .ref (aC z 20)), (1, .int x1), (2, .int x2), (3, .int x3)] [] σ := by
  rw [X1_suffices_E]
  refine S_iload_n C 2 dX1_suffices_0 rfl ?_
  refine S_if_eq C 8 dX1_suffices_1 (by decide) ?_ ?_
  · refine S_iload_n C 2 dX1_suffices_8 rfl ?_
    refine S_if_ne C 16 dX1_suffices_9 (by decide) ?_ ?_
    · refine S_iconst C (0) dX1_suffices_16 (by decide) ?_
      exact S_zret C rfl rfl dX1_suffices_17
    · refine S_iconst C (1) dX1_suffices_12 (by decide) ?_
      refine S_goto C 17 dX1_suffices_13 (by decide) ?_
      exact S_zret C rfl rfl dX1_suffices_17
  · refine S_iload_n C 3 dX1_suffices_4 rfl ?_
    refine S_if_gt C 18 dX1_suffices_5 (by decide) ?_ ?_
    · refine S_aload_n C 0 dX1_suffices_18 rfl ?_
      refine S_iload_n C 2 dX1_suffices_19 rfl ?_
      refine K_J6_numberOfTrailingZeros_0f7a4 C ml_X1_13 ⟨by omega, by omega⟩ (Nat.le_of_ble_eq_true rfl) dX1_suffices_20 (fun v1 => ?_)
      refine L_X9_joined C dX1_suffices_23 (fun _ => ?_)
      refine S_iload_n C 1 dX1_suffices_24 rfl ?_
      refine S_iand C dX1_suffices_25 ?_
      refine S_bndT (fun x4_2 _ => ?_)
      refine S_istore C [(4, .int x4_2), (0, .ref (aC z 20)), (1, .int x1), (2, .int x2), (3, .int x3)] dX1_suffices_26 (by decide) rfl ?_
      refine S_iconst C (0) dX1_suffices_28 (by decide) ?_
      refine S_istore C [(5, .int 0), (4, .int x4_2), (0, .ref (aC z 20)), (1, .int x1), (2, .int x2), (3, .int x3)] dX1_suffices_29 (by decide) rfl ?_
      exact S_sub [2, 3, 4, 5, 1, 0] rfl (WT_X1_suffices_L31 C rc σ hrc hR FU x1 x2 x3 x4_2 (0 : Int32))
    · refine S_iload_n C 2 dX1_suffices_8 rfl ?_
      refine S_if_ne C 16 dX1_suffices_9 (by decide) ?_ ?_
      · refine S_iconst C (0) dX1_suffices_16 (by decide) ?_
        exact S_zret C rfl rfl dX1_suffices_17
      · refine S_iconst C (1) dX1_suffices_12 (by decide) ?_
        refine S_goto C 17 dX1_suffices_13 (by decide) ?_
        exact S_zret C rfl rfl dX1_suffices_17
set_option maxRecDepth 10000 in
theorem con_X1_suffices_F (z : ZT) (l : Launch) (σ : St) : ∀ (n : Nat) (x1 x2 x3 : Int32) (r : Int32), X1_suffices_F σ n x1 x2 x3 = some r → Con (wxC z) l yX1_suffices cX1_suffices 7 (some .boolean) n (n * 60) [.ref (aC z 20), .int x1, .int x2, .int x3] σ (jI σ r) := by
  intro n
  induction n with
  | zero => intro x1 x2 x3 r h; cases h
  | succ n ih =>
    intro x1 x2 x3 r h
    refine Con_of (k := X1_suffices_E (X1_suffices_F σ n) σ x1 x2 x3) h (by decide) (Nat.le_of_ble_eq_true rfl) (fun x hx C => ?_)
    subst hx
    exact WT_X1_suffices_E C x1 x2 x3 (X1_suffices_F σ n) σ (fr1 := n) (lo1 := n * 60) (fun a b c r h => ih a b c r h) ⟨Nat.le_refl _, by omega⟩
set_option maxRecDepth 10000 in
theorem con_X1_suffices (z : ZT) (l : Launch) (x1 x2 x3 : Int32) (σ : St) : ∀ r, X1_suffices x1 x2 x3 σ = some r → Con (wxC z) l yX1_suffices cX1_suffices 7 (some .boolean) 40 2400 [.ref (aC z 20), .int x1, .int x2, .int x3] σ (jI σ r) := fun r h => con_X1_suffices_F z l σ 40 x1 x2 x3 r h
set_option maxRecDepth 10000 in
theorem K_X1_suffices {x : MX} {z : ZT} {own : String} {cc : ByteArray} {nL : Nat} {ret : Option FieldType} {fr lo : Nat} {ρ : Type} {inj : ρ → Option Value × St} {pc : Nat} {lv : List (Nat × Value)} {st : List Value} {σ : St} (C : Cok x (wxC z) own cc nL ret fr lo) {x1 : Int32} {x2 : Int32} {x3 : Int32} {index : Nat} (hl : Cond.methodLink own index yX1_suffices ∈ gtb) (hR : 40 + 1 ≤ fr ∧ 8 + (7 + 11) + 2400 ≤ lo) (hW : (st.map fun v => v.category).sum ≤ 8) (hd : decode cc pc = .ok (.invokestatic index, 3)) {K : Int32 → Option ρ} (h : ∀ v, Sim x (wxC z) nL inj (K v) (pc + 3) lv (.int v :: st) σ) : Sim x (wxC z) nL inj ((X1_suffices x1 x2 x3 σ).bind K) pc lv (.int x3 :: .int x2 :: .int x1 :: .ref (aC z 20) :: st) σ :=
  S_callS C (As := [.ref (aC z 20), .int x1, .int x2, .int x3]) (inj1 := (jI σ)) mw_X1_suffices ms_X1_suffices hl (fun ro hro => con_X1_suffices z (mL x) x1 x2 x3 σ ro hro) hR rfl rfl hW hd h
set_option maxRecDepth 10000 in
theorem WT_X1_fewest_L49 {x : MX} {z : ZT} (C : Cok x (wxC z) RX1 cX1_fewest 6 (some .int) 41 2426) (σ : St) : ∀ (n : Nat) (x2 : Int32) (x3 : Int32) (x4 : Int32) (x5 : Int32), Sim x (wxC z) 6 (jI σ) (X1_fewest_L49 σ n x2 x3 x4 x5) 49 [(0, .ref (aC z 20)), (2, .int x2), (3, .int x3), (4, .int x4), (5, .int x5)] [] σ := by
  intro n
  induction n with
  | zero =>
    intros
    exact S_none
  | succ n ih =>
    intro x2 x3 x4 x5
    rw [X1_fewest_L49]
    refine S_iload C 4 dX1_fewest_49 rfl ?_
    refine S_if_lt C 89 dX1_fewest_51 (by decide) ?_ ?_
    · refine S_iload C 3 dX1_fewest_89 rfl ?_
      exact S_iret C rfl dX1_fewest_91
    · refine S_aload_n C 0 dX1_fewest_54 rfl ?_
      refine S_iload C 3 dX1_fewest_55 rfl ?_
      refine S_iconst C (1) dX1_fewest_57 (by decide) ?_
      refine S_iload C 4 dX1_fewest_58 rfl ?_
      refine S_ishl C dX1_fewest_60 ?_
      refine S_iconst C (-1) dX1_fewest_61 (by decide) ?_
      refine S_ixor C dX1_fewest_62 ?_
      refine S_iand C dX1_fewest_63 ?_
      refine S_iload_n C 1 dX1_fewest_64 rfl ?_
      refine S_iload_n C 2 dX1_fewest_65 rfl ?_
      refine K_X1_suffices C ml_X1_7 (by decide) (Nat.le_of_ble_eq_true rfl) dX1_fewest_66 (fun v3 => ?_)
      refine S_if_eq C 83 dX1_fewest_69 (by decide) ?_ ?_
      · refine S_iinc C 4 [(5, .int (x5 + (-1))), (0, .ref (aC z 20)), (2, .int x2), (3, .int x3), (4, .int x4)] (x5 + (-1)) dX1_fewest_83 rfl rfl (by decide) rfl ?_
        refine S_goto C 49 dX1_fewest_86 (by decide) ?_
        exact S_sub [1, 2, 3, 4, 0] rfl (ih x2 x3 x4 (x5 + (-1)))
      · refine S_iload C 3 dX1_fewest_72 rfl ?_
        refine S_iconst C (1) dX1_fewest_74 (by decide) ?_
        refine S_iload C 4 dX1_fewest_75 rfl ?_
        refine S_ishl C dX1_fewest_77 ?_
        refine S_iconst C (-1) dX1_fewest_78 (by decide) ?_
        refine S_ixor C dX1_fewest_79 ?_
        refine S_iand C dX1_fewest_80 ?_
        refine S_bndT (fun x4_4 _ => ?_)
        refine S_istore C [(4, .int x4_4), (0, .ref (aC z 20)), (2, .int x2), (3, .int x3), (5, .int x5)] dX1_fewest_81 (by decide) rfl ?_
        refine S_iinc C 4 [(5, .int (x5 + (-1))), (4, .int x4_4), (0, .ref (aC z 20)), (2, .int x2), (3, .int x3)] (x5 + (-1)) dX1_fewest_83 rfl rfl (by decide) rfl ?_
        refine S_goto C 49 dX1_fewest_86 (by decide) ?_
        exact S_sub [2, 3, 4, 1, 0] rfl (ih x2 x3 x4_4 (x5 + (-1)))
set_option maxRecDepth 10000 in
theorem WT_X1_fewest_L20 {x : MX} {z : ZT} (C : Cok x (wxC z) RX1 cX1_fewest 6 (some .int) 41 2426) (σ : St) : ∀ (n : Nat) (x1 : Int32) (x2 : Int32) (x3 : Int32), Sim x (wxC z) 6 (jI σ) (X1_fewest_L20 σ n x1 x2 x3) 20 [(0, .ref (aC z 20)), (1, .int x1), (2, .int x2), (3, .int x3)] [] σ := by
  intro n
  induction n with
  | zero =>
    intros
    exact S_none
  | succ n ih =>
    intro x1 x2 x3
    rw [X1_fewest_L20]
    refine S_iload_n C 3 dX1_fewest_20 rfl ?_
    refine S_iload_n C 1 dX1_fewest_21 rfl ?_
    refine S_icmp_ge C 41 dX1_fewest_22 (by decide) ?_ ?_
    · refine S_iload_n C 2 dX1_fewest_41 rfl ?_
      refine S_istore C [(4, .int x2), (0, .ref (aC z 20)), (1, .int x1), (2, .int x2), (3, .int x3)] dX1_fewest_42 (by decide) rfl ?_
      refine S_iload_n C 2 dX1_fewest_44 rfl ?_
      refine S_iconst C (1) dX1_fewest_45 (by decide) ?_
      refine S_isub C dX1_fewest_46 ?_
      refine S_bndT (fun x5_2 _ => ?_)
      refine S_istore C [(5, .int x5_2), (4, .int x2), (0, .ref (aC z 20)), (1, .int x1), (2, .int x2), (3, .int x3)] dX1_fewest_47 (by decide) rfl ?_
      exact S_sub [2, 4, 5, 1, 0] rfl (WT_X1_fewest_L49 C σ FU x2 x3 x2 x5_2)
    · refine S_aload_n C 0 dX1_fewest_25 rfl ?_
      refine S_iload_n C 2 dX1_fewest_26 rfl ?_
      refine S_iload_n C 2 dX1_fewest_27 rfl ?_
      refine S_iload_n C 3 dX1_fewest_28 rfl ?_
      refine K_X1_suffices C ml_X1_7 (by decide) (Nat.le_of_ble_eq_true rfl) dX1_fewest_29 (fun v5 => ?_)
      refine S_if_ne C 41 dX1_fewest_32 (by decide) ?_ ?_
      · refine S_iload_n C 2 dX1_fewest_41 rfl ?_
        refine S_istore C [(4, .int x2), (0, .ref (aC z 20)), (1, .int x1), (2, .int x2), (3, .int x3)] dX1_fewest_42 (by decide) rfl ?_
        refine S_iload_n C 2 dX1_fewest_44 rfl ?_
        refine S_iconst C (1) dX1_fewest_45 (by decide) ?_
        refine S_isub C dX1_fewest_46 ?_
        refine S_bndT (fun x5_6 _ => ?_)
        refine S_istore C [(5, .int x5_6), (4, .int x2), (0, .ref (aC z 20)), (1, .int x1), (2, .int x2), (3, .int x3)] dX1_fewest_47 (by decide) rfl ?_
        exact S_sub [2, 4, 5, 1, 0] rfl (WT_X1_fewest_L49 C σ FU x2 x3 x2 x5_6)
      · refine S_iinc C 3 [(3, .int (x3 + 1)), (0, .ref (aC z 20)), (1, .int x1), (2, .int x2)] (x3 + 1) dX1_fewest_35 rfl rfl (by decide) rfl ?_
        refine S_goto C 20 dX1_fewest_38 (by decide) ?_
        exact S_sub [1, 2, 3, 0] rfl (ih x1 x2 (x3 + 1))
set_option maxRecDepth 10000 in
theorem WT_X1_fewest {x : MX} {z : ZT} (C : Cok x (wxC z) RX1 cX1_fewest 6 (some .int) 41 2426) (x1 : Int32) (σ : St) : Sim x (wxC z) 6 (jI σ) (X1_fewest x1 σ) 0 [(0, .ref (aC z 20)), (1, .int x1)] [] σ := by
  rw [X1_fewest]
  refine S_iload_n C 1 dX1_fewest_0 rfl ?_
  refine S_if_le C 10 dX1_fewest_1 (by decide) ?_ ?_
  · refine S_iconst C (0) dX1_fewest_10 (by decide) ?_
    exact S_iret C rfl dX1_fewest_11
  · refine S_iload_n C 1 dX1_fewest_4 rfl ?_
    refine S_aload_n C 0 dX1_fewest_5 rfl ?_
    refine N_X9_joined C dX1_fewest_6 ?_
    refine S_icmp_le C 12 dX1_fewest_7 (by decide) ?_ ?_
    · refine S_iconst C (1) dX1_fewest_12 (by decide) ?_
      refine S_iload_n C 1 dX1_fewest_13 rfl ?_
      refine S_ishl C dX1_fewest_14 ?_
      refine S_iconst C (1) dX1_fewest_15 (by decide) ?_
      refine S_isub C dX1_fewest_16 ?_
      refine S_bndT (fun x2_1 _ => ?_)
      refine S_istore_n C [(2, .int x2_1), (0, .ref (aC z 20)), (1, .int x1)] (i := 2) dX1_fewest_17 rfl (by decide) rfl ?_
      refine S_iconst C (1) dX1_fewest_18 (by decide) ?_
      refine S_istore_n C [(3, .int 1), (2, .int x2_1), (0, .ref (aC z 20)), (1, .int x1)] (i := 3) dX1_fewest_19 rfl (by decide) rfl ?_
      exact S_sub [2, 3, 1, 0] rfl (WT_X1_fewest_L20 C σ FU x1 x2_1 (1 : Int32))
    · refine S_iconst C (0) dX1_fewest_10 (by decide) ?_
      exact S_iret C rfl dX1_fewest_11
set_option maxRecDepth 10000 in
theorem con_X1_fewest (z : ZT) (l : Launch) (x1 : Int32) (σ : St) : ∀ ro, X1_fewest x1 σ = some ro → Con (wxC z) l yX1_fewest cX1_fewest 6 (some .int) 41 2426 [.ref (aC z 20), .int x1] σ ((jI σ) ro) :=
  fun ro hk => Con_of hk (by decide) (Nat.le_of_ble_eq_true rfl) (fun x hx C => WT_X1_fewest C x1 σ)
set_option maxRecDepth 10000 in
theorem K_X1_fewest {x : MX} {z : ZT} {own : String} {cc : ByteArray} {nL : Nat} {ret : Option FieldType} {fr lo : Nat} {ρ : Type} {inj : ρ → Option Value × St} {pc : Nat} {lv : List (Nat × Value)} {st : List Value} {σ : St} (C : Cok x (wxC z) own cc nL ret fr lo) {x1 : Int32} {index : Nat} (hl : Cond.methodLink own index yX1_fewest ∈ gtb) (hR : 41 + 1 ≤ fr ∧ 8 + (6 + 11) + 2426 ≤ lo) (hW : (st.map fun v => v.category).sum ≤ 8) (hd : decode cc pc = .ok (.invokestatic index, 3)) {K : Int32 → Option ρ} (h : ∀ v, Sim x (wxC z) nL inj (K v) (pc + 3) lv (.int v :: st) σ) : Sim x (wxC z) nL inj ((X1_fewest x1 σ).bind K) pc lv (.int x1 :: .ref (aC z 20) :: st) σ :=
  S_callS C (As := [.ref (aC z 20), .int x1]) (inj1 := (jI σ)) mw_X1_fewest ms_X1_fewest hl (fun ro hro => con_X1_fewest z (mL x) x1 σ ro hro) hR rfl rfl hW hd h
