set_option maxRecDepth 10000 in
theorem WT_X9_isWord_L21 {x : MX} {z : ZT} (C : Cok x (wxC z) RX9 cX9_isWord 7 (some .boolean) 0 0) (σ : St) : ∀ (n : Nat) (x2 : Int64) (x4 : Int32), Sim x (wxC z) 7 (jI σ) (X9_isWord_L21 σ n x2 x4) 21 [(2, .long x2), (4, .int x4)] [] σ := by
  intro n
  induction n with
  | zero =>
    intros
    exact S_none
  | succ n ih =>
    intro x2 x4
    rw [X9_isWord_L21]
    refine S_iload C 1 dX9_isWord_21 rfl ?_
    refine S_bipush C (10) dX9_isWord_23 (by decide) ?_
    refine S_icmp_ge C 69 dX9_isWord_25 (by decide) ?_ ?_
    · refine S_iconst C (1) dX9_isWord_69 (by decide) ?_
      exact S_zret C rfl rfl dX9_isWord_70
    · refine S_lload_n C 0 dX9_isWord_28 rfl ?_
      refine S_lconst C (0) dX9_isWord_29 (by decide) ?_
      refine S_lc_le C 69 dX9_isWord_30 dX9_isWord_31 (by decide) ?_ ?_
      · refine S_iconst C (1) dX9_isWord_69 (by decide) ?_
        exact S_zret C rfl rfl dX9_isWord_70
      · refine S_lload_n C 0 dX9_isWord_34 rfl ?_
        refine S_ldc2 C (31) kl_X9_43 dX9_isWord_35 ?_
        refine S_land C dX9_isWord_38 ?_
        refine S_bndTL (fun x5_1 _ => ?_)
        refine S_lstore C [(5, .long x5_1), (2, .long x2), (4, .int x4)] dX9_isWord_39 (by decide) rfl ?_
        refine S_lload C 0 dX9_isWord_41 rfl ?_
        refine S_lconst C (1) dX9_isWord_43 (by decide) ?_
        refine S_lc_lt C 57 dX9_isWord_44 dX9_isWord_45 (by decide) ?_ ?_
        · refine S_iconst C (0) dX9_isWord_57 (by decide) ?_
          exact S_zret C rfl rfl dX9_isWord_58
        · refine S_lload C 0 dX9_isWord_48 rfl ?_
          refine S_ldc2 C (26) kl_X9_45 dX9_isWord_50 ?_
          refine S_lc_le C 59 dX9_isWord_53 dX9_isWord_54 (by decide) ?_ ?_
          · refine S_lload_n C 1 dX9_isWord_59 rfl ?_
            refine S_iconst C (5) dX9_isWord_60 (by decide) ?_
            refine S_lshr C dX9_isWord_61 ?_
            refine S_bndTL (fun x2_2 _ => ?_)
            refine S_lstore_n C [(2, .long x2_2), (5, .long x5_1), (4, .int x4)] (i := 2) dX9_isWord_62 rfl (by decide) rfl ?_
            refine S_iinc C 2 [(4, .int (x4 + 1)), (2, .long x2_2), (5, .long x5_1)] (x4 + 1) dX9_isWord_63 rfl rfl (by decide) rfl ?_
            refine S_goto C 21 dX9_isWord_66 (by decide) ?_
            exact S_sub [1, 0] rfl (ih x2_2 (x4 + 1))
          · refine S_iconst C (0) dX9_isWord_57 (by decide) ?_
            exact S_zret C rfl rfl dX9_isWord_58
set_option maxRecDepth 10000 in
theorem WT_X9_isWord {x : MX} {z : ZT} (C : Cok x (wxC z) RX9 cX9_isWord 7 (some .boolean) 0 0) (x0 : Int64) (σ : St) : Sim x (wxC z) 7 (jI σ) (X9_isWord x0 σ) 0 [(0, .long x0)] [] σ := by
  rw [X9_isWord]
  refine S_lload_n C 0 dX9_isWord_0 rfl ?_
  refine S_lconst C (0) dX9_isWord_1 (by decide) ?_
  refine S_lc_le C 14 dX9_isWord_2 dX9_isWord_3 (by decide) ?_ ?_
  · refine S_iconst C (0) dX9_isWord_14 (by decide) ?_
    exact S_zret C rfl rfl dX9_isWord_15
  · refine S_lload_n C 0 dX9_isWord_6 rfl ?_
    refine S_ldc2 C (1125899906842624) kl_X9_41 dX9_isWord_7 ?_
    refine S_lc_lt C 16 dX9_isWord_10 dX9_isWord_11 (by decide) ?_ ?_
    · refine S_lload_n C 0 dX9_isWord_16 rfl ?_
      refine S_lstore_n C [(2, .long x0), (0, .long x0)] (i := 2) dX9_isWord_17 rfl (by decide) rfl ?_
      refine S_iconst C (0) dX9_isWord_18 (by decide) ?_
      refine S_istore C [(4, .int 0), (2, .long x0), (0, .long x0)] dX9_isWord_19 (by decide) rfl ?_
      exact S_sub [1, 0] rfl (WT_X9_isWord_L21 C σ FU x0 (0 : Int32))
    · refine S_iconst C (0) dX9_isWord_14 (by decide) ?_
      exact S_zret C rfl rfl dX9_isWord_15
set_option maxRecDepth 10000 in
theorem con_X9_isWord (z : ZT) (l : Launch) (x0 : Int64) (σ : St) : ∀ ro, X9_isWord x0 σ = some ro → Con (wxC z) l yX9_isWord cX9_isWord 7 (some .boolean) 0 0 [.long x0] σ ((jI σ) ro) :=
  fun ro hk => Con_of hk (by decide) (Nat.le_of_ble_eq_true rfl) (fun x hx C => WT_X9_isWord C x0 σ)
set_option maxRecDepth 10000 in
theorem K_X9_isWord {x : MX} {z : ZT} {own : String} {cc : ByteArray} {nL : Nat} {ret : Option FieldType} {fr lo : Nat} {ρ : Type} {inj : ρ → Option Value × St} {pc : Nat} {lv : List (Nat × Value)} {st : List Value} {σ : St} (C : Cok x (wxC z) own cc nL ret fr lo) {x0 : Int64} {index : Nat} (hl : Cond.methodLink own index yX9_isWord ∈ gtb) (hR : 0 + 1 ≤ fr ∧ 8 + (7 + 11) + 0 ≤ lo) (hW : (st.map fun v => v.category).sum ≤ 8) (hd : decode cc pc = .ok (.invokestatic index, 3)) {K : Int32 → Option ρ} (h : ∀ v, Sim x (wxC z) nL inj (K v) (pc + 3) lv (.int v :: st) σ) : Sim x (wxC z) nL inj ((X9_isWord x0 σ).bind K) pc lv (.long x0 :: st) σ :=
  S_callS C (As := [.long x0]) (inj1 := (jI σ)) mw_X9_isWord ms_X9_isWord hl (fun ro hro => con_X9_isWord z (mL x) x0 σ ro hro) hR rfl rfl hW hd h
set_option maxRecDepth 10000 in
theorem WT_X9_has {x : MX} {z : ZT} (C : Cok x (wxC z) RX9 cX9_has 2 (some .boolean) 0 0) (x1 : Int32) (σ : St) : Sim x (wxC z) 2 (jI σ) (X9_has x1 σ) 0 [(0, .ref (aC z 18)), (1, .int x1)] [] σ := by
  rw [X9_has]
  refine S_iload_n C 1 dX9_has_0 rfl ?_
  refine S_if_lt C 16 dX9_has_1 (by decide) ?_ ?_
  · refine S_iconst C (0) dX9_has_16 (by decide) ?_
    exact S_zret C rfl rfl dX9_has_17
  · refine S_iload_n C 1 dX9_has_4 rfl ?_
    refine S_aload_n C 0 dX9_has_5 rfl ?_
    refine G_X9_size C fl_X9_47 dX9_has_6 ?_
    refine S_icmp_ge C 16 dX9_has_9 (by decide) ?_ ?_
    · refine S_iconst C (0) dX9_has_16 (by decide) ?_
      exact S_zret C rfl rfl dX9_has_17
    · refine S_iconst C (1) dX9_has_12 (by decide) ?_
      refine S_goto C 17 dX9_has_13 (by decide) ?_
      exact S_zret C rfl rfl dX9_has_17
set_option maxRecDepth 10000 in
theorem con_X9_has (z : ZT) (l : Launch) (x1 : Int32) (σ : St) : ∀ ro, X9_has x1 σ = some ro → Con (wxC z) l yX9_has cX9_has 2 (some .boolean) 0 0 [.ref (aC z 18), .int x1] σ ((jI σ) ro) :=
  fun ro hk => Con_of hk (by decide) (Nat.le_of_ble_eq_true rfl) (fun x hx C => WT_X9_has C x1 σ)
set_option maxRecDepth 10000 in
theorem K_X9_has {x : MX} {z : ZT} {own : String} {cc : ByteArray} {nL : Nat} {ret : Option FieldType} {fr lo : Nat} {ρ : Type} {inj : ρ → Option Value × St} {pc : Nat} {lv : List (Nat × Value)} {st : List Value} {σ : St} (C : Cok x (wxC z) own cc nL ret fr lo) {x1 : Int32} {index : Nat} (hl : Cond.methodLink own index yX9_has ∈ gtb) (hR : 0 + 1 ≤ fr ∧ 8 + (2 + 11) + 0 ≤ lo) (hW : (st.map fun v => v.category).sum ≤ 8) (hd : decode cc pc = .ok (.invokevirtual index, 3)) {K : Int32 → Option ρ} (h : ∀ v, Sim x (wxC z) nL inj (K v) (pc + 3) lv (.int v :: st) σ) : Sim x (wxC z) nL inj ((X9_has x1 σ).bind K) pc lv (.int x1 :: .ref (aC z 18) :: st) σ :=
  S_callV C (As := [.int x1]) (q := 18) (inj1 := (jI σ)) mw_X9_has mv_X9_has hl (fun ro hro => con_X9_has z (mL x) x1 σ ro hro) hR rfl (show 18 < 59 by decide) rfl (ce_X9 z σ) rfl rfl hW hd h
set_option maxRecDepth 10000 in
theorem WT_X9_holds_L2 {x : MX} {z : ZT} (C : Cok x (wxC z) RX9 cX9_holds 4 (some .boolean) 0 0) (σ : St) : ∀ (n : Nat) (x1 : Int64) (x3 : Int32), Sim x (wxC z) 4 (jI σ) (X9_holds_L2 σ n x1 x3) 2 [(0, .ref (aC z 18)), (1, .long x1), (3, .int x3)] [] σ := by
  intro n
  induction n with
  | zero =>
    intros
    exact S_none
  | succ n ih =>
    intro x1 x3
    rw [X9_holds_L2]
    refine S_iload_n C 2 dX9_holds_2 rfl ?_
    refine S_aload_n C 0 dX9_holds_3 rfl ?_
    refine G_X9_size C fl_X9_47 dX9_holds_4 ?_
    refine S_icmp_ge C 29 dX9_holds_7 (by decide) ?_ ?_
    · refine S_iconst C (0) dX9_holds_29 (by decide) ?_
      exact S_zret C rfl rfl dX9_holds_30
    · refine S_aload_n C 0 dX9_holds_10 rfl ?_
      refine G_X9_letters C fl_X9_15 dX9_holds_11 ?_
      refine S_iload_n C 2 dX9_holds_14 rfl ?_
      refine L_X9_letters C dX9_holds_15 (fun _ => ?_)
      refine S_lload_n C 1 dX9_holds_16 rfl ?_
      refine S_lc_ne C 23 dX9_holds_17 dX9_holds_18 (by decide) ?_ ?_
      · refine S_iinc C 2 [(3, .int (x3 + 1)), (0, .ref (aC z 18)), (1, .long x1)] (x3 + 1) dX9_holds_23 rfl rfl (by decide) rfl ?_
        refine S_goto C 2 dX9_holds_26 (by decide) ?_
        exact S_sub [1, 2, 0] rfl (ih x1 (x3 + 1))
      · refine S_iconst C (1) dX9_holds_21 (by decide) ?_
        exact S_zret C rfl rfl dX9_holds_22
set_option maxRecDepth 10000 in
theorem WT_X9_holds {x : MX} {z : ZT} (C : Cok x (wxC z) RX9 cX9_holds 4 (some .boolean) 0 0) (x1 : Int64) (σ : St) : Sim x (wxC z) 4 (jI σ) (X9_holds x1 σ) 0 [(0, .ref (aC z 18)), (1, .long x1)] [] σ := by
  rw [X9_holds]
  refine S_iconst C (0) dX9_holds_0 (by decide) ?_
  refine S_istore_n C [(3, .int 0), (0, .ref (aC z 18)), (1, .long x1)] (i := 3) dX9_holds_1 rfl (by decide) rfl ?_
  exact S_sub [1, 2, 0] rfl (WT_X9_holds_L2 C σ FU x1 (0 : Int32))
set_option maxRecDepth 10000 in
theorem con_X9_holds (z : ZT) (l : Launch) (x1 : Int64) (σ : St) : ∀ ro, X9_holds x1 σ = some ro → Con (wxC z) l yX9_holds cX9_holds 4 (some .boolean) 0 0 [.ref (aC z 18), .long x1] σ ((jI σ) ro) :=
  fun ro hk => Con_of hk (by decide) (Nat.le_of_ble_eq_true rfl) (fun x hx C => WT_X9_holds C x1 σ)
set_option maxRecDepth 10000 in
theorem K_X9_holds {x : MX} {z : ZT} {own : String} {cc : ByteArray} {nL : Nat} {ret : Option FieldType} {fr lo : Nat} {ρ : Type} {inj : ρ → Option Value × St} {pc : Nat} {lv : List (Nat × Value)} {st : List Value} {σ : St} (C : Cok x (wxC z) own cc nL ret fr lo) {x1 : Int64} {index : Nat} (hl : Cond.methodLink own index yX9_holds ∈ gtb) (hR : 0 + 1 ≤ fr ∧ 8 + (4 + 11) + 0 ≤ lo) (hW : (st.map fun v => v.category).sum ≤ 8) (hd : decode cc pc = .ok (.invokevirtual index, 3)) {K : Int32 → Option ρ} (h : ∀ v, Sim x (wxC z) nL inj (K v) (pc + 3) lv (.int v :: st) σ) : Sim x (wxC z) nL inj ((X9_holds x1 σ).bind K) pc lv (.long x1 :: .ref (aC z 18) :: st) σ :=
  S_callV C (As := [.long x1]) (q := 18) (inj1 := (jI σ)) mw_X9_holds mv_X9_holds hl (fun ro hro => con_X9_holds z (mL x) x1 σ ro hro) hR rfl (show 18 < 59 by decide) rfl (ce_X9 z σ) rfl rfl hW hd h
set_option maxRecDepth 10000 in
theorem WT_X9_nameMembers_L2 {x : MX} {z : ZT} (C : Cok x (wxC z) RX9 cX9_nameMembers 4 none 0 0) : ∀ (n : Nat) (x1 : Int32) (x2 : Int32) (x3 : Int32) (σ : St), Sim x (wxC z) 4 jV (X9_nameMembers_L2 n x1 x2 x3 σ) 2 [(0, .ref (aC z 18)), (1, .int x1), (2, .int x2), (3, .int x3)] [] σ := by
  intro n
  induction n with
  | zero =>
    intros
    exact S_none
  | succ n ih =>
    intro x1 x2 x3 σ
    rw [X9_nameMembers_L2]
    refine S_iload_n C 3 dX9_nameMembers_2 rfl ?_
    refine S_aload_n C 0 dX9_nameMembers_3 rfl ?_
    refine G_X9_size C fl_X9_47 dX9_nameMembers_4 ?_
    refine S_icmp_ge C 32 dX9_nameMembers_7 (by decide) ?_ ?_
    · exact S_vret C rfl dX9_nameMembers_32
    · refine S_iload_n C 1 dX9_nameMembers_10 rfl ?_
      refine S_iload_n C 3 dX9_nameMembers_11 rfl ?_
      refine S_ishr C dX9_nameMembers_12 ?_
      refine S_iconst C (1) dX9_nameMembers_13 (by decide) ?_
      refine S_iand C dX9_nameMembers_14 ?_
      refine S_iconst C (1) dX9_nameMembers_15 (by decide) ?_
      refine S_icmp_ne C 26 dX9_nameMembers_16 (by decide) ?_ ?_
      · refine S_iinc C 3 [(3, .int (x3 + 1)), (0, .ref (aC z 18)), (1, .int x1), (2, .int x2)] (x3 + 1) dX9_nameMembers_26 rfl rfl (by decide) rfl ?_
        refine S_goto C 2 dX9_nameMembers_29 (by decide) ?_
        exact S_sub [1, 2, 3, 0] rfl (ih x1 x2 (x3 + 1) σ)
      · refine S_aload_n C 0 dX9_nameMembers_19 rfl ?_
        refine G_X9_names C fl_X9_32 dX9_nameMembers_20 ?_
        refine S_iload_n C 3 dX9_nameMembers_23 rfl ?_
        refine S_iload_n C 2 dX9_nameMembers_24 rfl ?_
        refine T_X9_names C dX9_nameMembers_25 (fun _ => ?_)
        refine S_bndS (fun σ1 _ => ?_)
        refine S_iinc C 3 [(3, .int (x3 + 1)), (0, .ref (aC z 18)), (1, .int x1), (2, .int x2)] (x3 + 1) dX9_nameMembers_26 rfl rfl (by decide) rfl ?_
        refine S_goto C 2 dX9_nameMembers_29 (by decide) ?_
        exact S_sub [1, 2, 3, 0] rfl (ih x1 x2 (x3 + 1) σ1)
set_option maxRecDepth 10000 in
theorem WT_X9_nameMembers {x : MX} {z : ZT} (C : Cok x (wxC z) RX9 cX9_nameMembers 4 none 0 0) (x1 : Int32) (x2 : Int32) (σ : St) : Sim x (wxC z) 4 jV (X9_nameMembers x1 x2 σ) 0 [(0, .ref (aC z 18)), (1, .int x1), (2, .int x2)] [] σ := by
  rw [X9_nameMembers]
  refine S_iconst C (0) dX9_nameMembers_0 (by decide) ?_
  refine S_istore_n C [(3, .int 0), (0, .ref (aC z 18)), (1, .int x1), (2, .int x2)] (i := 3) dX9_nameMembers_1 rfl (by decide) rfl ?_
  exact S_sub [1, 2, 3, 0] rfl (WT_X9_nameMembers_L2 C FU x1 x2 (0 : Int32) σ)
set_option maxRecDepth 10000 in
theorem con_X9_nameMembers (z : ZT) (l : Launch) (x1 : Int32) (x2 : Int32) (σ : St) : ∀ ro, X9_nameMembers x1 x2 σ = some ro → Con (wxC z) l yX9_nameMembers cX9_nameMembers 4 none 0 0 [.ref (aC z 18), .int x1, .int x2] σ (jV ro) :=
  fun ro hk => Con_of hk (by decide) (Nat.le_of_ble_eq_true rfl) (fun x hx C => WT_X9_nameMembers C x1 x2 σ)
set_option maxRecDepth 10000 in
theorem K_X9_nameMembers {x : MX} {z : ZT} {own : String} {cc : ByteArray} {nL : Nat} {ret : Option FieldType} {fr lo : Nat} {ρ : Type} {inj : ρ → Option Value × St} {pc : Nat} {lv : List (Nat × Value)} {st : List Value} {σ : St} (C : Cok x (wxC z) own cc nL ret fr lo) {x1 : Int32} {x2 : Int32} {index : Nat} (hl : Cond.methodLink own index yX9_nameMembers ∈ gtb) (hR : 0 + 1 ≤ fr ∧ 8 + (4 + 11) + 0 ≤ lo) (hW : (st.map fun v => v.category).sum ≤ 8) (hd : decode cc pc = .ok (.invokevirtual index, 3)) {K : St → Option ρ} (h : ∀ v, Sim x (wxC z) nL inj (K v) (pc + 3) lv (st) v) : Sim x (wxC z) nL inj ((X9_nameMembers x1 x2 σ).bind K) pc lv (.int x2 :: .int x1 :: .ref (aC z 18) :: st) σ :=
  S_callV C (As := [.int x1, .int x2]) (q := 18) (inj1 := jV) mw_X9_nameMembers mv_X9_nameMembers hl (fun ro hro => con_X9_nameMembers z (mL x) x1 x2 σ ro hro) hR rfl (show 18 < 59 by decide) rfl (ce_X9 z σ) rfl rfl hW hd h
set_option maxRecDepth 10000 in
theorem WT_X9_reachedFrom_L28 {x : MX} {z : ZT} (C : Cok x (wxC z) RX9 cX9_reachedFrom 6 (some .int) 0 0) (σ : St) (kq9 : Int32 → Int32 → Int32 → Option Int32) (hk9 : ∀ (x2 : Int32) (x3 : Int32) (x4 : Int32), Sim x (wxC z) 6 (jI σ) (kq9 x2 x3 x4) 9 [(0, .ref (aC z 18)), (2, .int x2), (3, .int x3), (4, .int x4)] [] σ) : ∀ (n : Nat) (x2 : Int32) (x3 : Int32) (x4 : Int32) (x5 : Int32), Sim x (wxC z) 6 (jI σ) (X9_reachedFrom_L28 kq9 σ n x2 x3 x4 x5) 28 [(0, .ref (aC z 18)), (2, .int x2), (3, .int x3), (4, .int x4), (5, .int x5)] [] σ := by
  intro n
  induction n with
  | zero =>
    intros
    exact S_none
  | succ n ih =>
    intro x2 x3 x4 x5
    rw [X9_reachedFrom_L28]
    refine S_iload C 4 dX9_reachedFrom_28 rfl ?_
    refine S_aload_n C 0 dX9_reachedFrom_30 rfl ?_
    refine G_X9_size C fl_X9_47 dX9_reachedFrom_31 ?_
    refine S_icmp_ge C 63 dX9_reachedFrom_34 (by decide) ?_ ?_
    · refine S_iinc C 3 [(4, .int (x4 + 1)), (0, .ref (aC z 18)), (2, .int x2), (3, .int x3), (5, .int x5)] (x4 + 1) dX9_reachedFrom_63 rfl rfl (by decide) rfl ?_
      refine S_goto C 9 dX9_reachedFrom_66 (by decide) ?_
      exact S_sub [1, 2, 3, 0] rfl (hk9 x2 x3 (x4 + 1))
    · refine S_iload_n C 1 dX9_reachedFrom_37 rfl ?_
      refine S_iload C 4 dX9_reachedFrom_38 rfl ?_
      refine S_ishr C dX9_reachedFrom_40 ?_
      refine S_iconst C (1) dX9_reachedFrom_41 (by decide) ?_
      refine S_iand C dX9_reachedFrom_42 ?_
      refine S_iconst C (1) dX9_reachedFrom_43 (by decide) ?_
      refine S_icmp_ne C 57 dX9_reachedFrom_44 (by decide) ?_ ?_
      · refine S_iinc C 4 [(5, .int (x5 + 1)), (0, .ref (aC z 18)), (2, .int x2), (3, .int x3), (4, .int x4)] (x5 + 1) dX9_reachedFrom_57 rfl rfl (by decide) rfl ?_
        refine S_goto C 28 dX9_reachedFrom_60 (by decide) ?_
        exact S_sub [1, 2, 3, 4, 0] rfl (ih x2 x3 x4 (x5 + 1))
      · refine S_iload_n C 1 dX9_reachedFrom_47 rfl ?_
        refine S_aload_n C 0 dX9_reachedFrom_48 rfl ?_
        refine G_X9_joined C fl_X9_29 dX9_reachedFrom_49 ?_
        refine S_iload C 4 dX9_reachedFrom_52 rfl ?_
        refine L_X9_joined C dX9_reachedFrom_54 (fun _ => ?_)
        refine S_ior C dX9_reachedFrom_55 ?_
        refine S_bndT (fun x2_2 _ => ?_)
        refine S_istore_n C [(2, .int x2_2), (0, .ref (aC z 18)), (3, .int x3), (4, .int x4), (5, .int x5)] (i := 2) dX9_reachedFrom_56 rfl (by decide) rfl ?_
        refine S_iinc C 4 [(5, .int (x5 + 1)), (2, .int x2_2), (0, .ref (aC z 18)), (3, .int x3), (4, .int x4)] (x5 + 1) dX9_reachedFrom_57 rfl rfl (by decide) rfl ?_
        refine S_goto C 28 dX9_reachedFrom_60 (by decide) ?_
        exact S_sub [2, 1, 3, 4, 0] rfl (ih x2_2 x3 x4 (x5 + 1))
set_option maxRecDepth 10000 in
theorem WT_X9_reachedFrom_L9 {x : MX} {z : ZT} (C : Cok x (wxC z) RX9 cX9_reachedFrom 6 (some .int) 0 0) (σ : St) : ∀ (n : Nat) (x2 : Int32) (x3 : Int32) (x4 : Int32), Sim x (wxC z) 6 (jI σ) (X9_reachedFrom_L9 σ n x2 x3 x4) 9 [(0, .ref (aC z 18)), (2, .int x2), (3, .int x3), (4, .int x4)] [] σ := by
  intro n
  induction n with
  | zero =>
    intros
    exact S_none
  | succ n ih =>
    intro x2 x3 x4
    rw [X9_reachedFrom_L9]
    refine S_iload C 3 dX9_reachedFrom_9 rfl ?_
    refine S_aload_n C 0 dX9_reachedFrom_11 rfl ?_
    refine G_X9_size C fl_X9_47 dX9_reachedFrom_12 ?_
    refine S_icmp_ge C 69 dX9_reachedFrom_15 (by decide) ?_ ?_
    · refine S_iload_n C 1 dX9_reachedFrom_69 rfl ?_
      exact S_iret C rfl dX9_reachedFrom_70
    · refine S_iload_n C 1 dX9_reachedFrom_18 rfl ?_
      refine S_iload_n C 2 dX9_reachedFrom_19 rfl ?_
      refine S_icmp_eq C 69 dX9_reachedFrom_20 (by decide) ?_ ?_
      · refine S_iload_n C 1 dX9_reachedFrom_69 rfl ?_
        exact S_iret C rfl dX9_reachedFrom_70
      · refine S_iload_n C 1 dX9_reachedFrom_23 rfl ?_
        refine S_istore_n C [(3, .int x2), (0, .ref (aC z 18)), (2, .int x2), (4, .int x4)] (i := 3) dX9_reachedFrom_24 rfl (by decide) rfl ?_
        refine S_iconst C (0) dX9_reachedFrom_25 (by decide) ?_
        refine S_istore C [(5, .int 0), (3, .int x2), (0, .ref (aC z 18)), (2, .int x2), (4, .int x4)] dX9_reachedFrom_26 (by decide) rfl ?_
        exact S_sub [2, 3, 1, 4, 0] rfl (WT_X9_reachedFrom_L28 C σ _ ih FU x2 x2 x4 (0 : Int32))
set_option maxRecDepth 10000 in
theorem WT_X9_reachedFrom {x : MX} {z : ZT} (C : Cok x (wxC z) RX9 cX9_reachedFrom 6 (some .int) 0 0) (x1 : Int32) (σ : St) : Sim x (wxC z) 6 (jI σ) (X9_reachedFrom x1 σ) 0 [(0, .ref (aC z 18)), (1, .int x1)] [] σ := by
  rw [X9_reachedFrom]
  refine S_iconst C (1) dX9_reachedFrom_0 (by decide) ?_
  refine S_iload_n C 1 dX9_reachedFrom_1 rfl ?_
  refine S_ishl C dX9_reachedFrom_2 ?_
  refine S_bndT (fun x2_1 _ => ?_)
  refine S_istore_n C [(2, .int x2_1), (0, .ref (aC z 18)), (1, .int x1)] (i := 2) dX9_reachedFrom_3 rfl (by decide) rfl ?_
  refine S_iconst C (0) dX9_reachedFrom_4 (by decide) ?_
  refine S_istore_n C [(3, .int 0), (2, .int x2_1), (0, .ref (aC z 18)), (1, .int x1)] (i := 3) dX9_reachedFrom_5 rfl (by decide) rfl ?_
  refine S_iconst C (0) dX9_reachedFrom_6 (by decide) ?_
  refine S_istore C [(4, .int 0), (3, .int 0), (2, .int x2_1), (0, .ref (aC z 18)), (1, .int x1)] dX9_reachedFrom_7 (by decide) rfl ?_
  exact S_sub [3, 2, 1, 0] rfl (WT_X9_reachedFrom_L9 C σ FU x2_1 (0 : Int32) (0 : Int32))
set_option maxRecDepth 10000 in
theorem con_X9_reachedFrom (z : ZT) (l : Launch) (x1 : Int32) (σ : St) : ∀ ro, X9_reachedFrom x1 σ = some ro → Con (wxC z) l yX9_reachedFrom cX9_reachedFrom 6 (some .int) 0 0 [.ref (aC z 18), .int x1] σ ((jI σ) ro) :=
  fun ro hk => Con_of hk (by decide) (Nat.le_of_ble_eq_true rfl) (fun x hx C => WT_X9_reachedFrom C x1 σ)
set_option maxRecDepth 10000 in
theorem K_X9_reachedFrom {x : MX} {z : ZT} {own : String} {cc : ByteArray} {nL : Nat} {ret : Option FieldType} {fr lo : Nat} {ρ : Type} {inj : ρ → Option Value × St} {pc : Nat} {lv : List (Nat × Value)} {st : List Value} {σ : St} (C : Cok x (wxC z) own cc nL ret fr lo) {x1 : Int32} {index : Nat} (hl : Cond.methodLink own index yX9_reachedFrom ∈ gtb) (hR : 0 + 1 ≤ fr ∧ 8 + (6 + 11) + 0 ≤ lo) (hW : (st.map fun v => v.category).sum ≤ 8) (hd : decode cc pc = .ok (.invokevirtual index, 3)) {K : Int32 → Option ρ} (h : ∀ v, Sim x (wxC z) nL inj (K v) (pc + 3) lv (.int v :: st) σ) : Sim x (wxC z) nL inj ((X9_reachedFrom x1 σ).bind K) pc lv (.int x1 :: .ref (aC z 18) :: st) σ :=
  S_callV C (As := [.int x1]) (q := 18) (inj1 := (jI σ)) mw_X9_reachedFrom mv_X9_reachedFrom hl (fun ro hro => con_X9_reachedFrom z (mL x) x1 σ ro hro) hR rfl (show 18 < 59 by decide) rfl (ce_X9 z σ) rfl rfl hW hd h
set_option maxRecDepth 10000 in
theorem WT_X9_nameAll_L4 {x : MX} {z : ZT} (C : Cok x (wxC z) RX9 cX9_nameAll 4 none 1 25) : ∀ (n : Nat) (x1 : Int32) (x2 : Int32) (σ : St), Sim x (wxC z) 4 jV (X9_nameAll_L4 n x1 x2 σ) 4 [(0, .ref (aC z 18)), (1, .int x1), (2, .int x2)] [] σ := by
  intro n
  induction n with
  | zero =>
    intros
    exact S_none
  | succ n ih =>
    intro x1 x2 σ
    rw [X9_nameAll_L4]
    refine S_iload_n C 2 dX9_nameAll_4 rfl ?_
    refine S_aload_n C 0 dX9_nameAll_5 rfl ?_
    refine G_X9_size C fl_X9_47 dX9_nameAll_6 ?_
    refine S_icmp_ge C 42 dX9_nameAll_9 (by decide) ?_ ?_
    · exact S_vret C rfl dX9_nameAll_42
    · refine S_iload_n C 1 dX9_nameAll_12 rfl ?_
      refine S_iload_n C 2 dX9_nameAll_13 rfl ?_
      refine S_ishr C dX9_nameAll_14 ?_
      refine S_iconst C (1) dX9_nameAll_15 (by decide) ?_
      refine S_iand C dX9_nameAll_16 ?_
      refine S_if_ne C 36 dX9_nameAll_17 (by decide) ?_ ?_
      · refine S_iinc C 2 [(2, .int (x2 + 1)), (0, .ref (aC z 18)), (1, .int x1)] (x2 + 1) dX9_nameAll_36 rfl rfl (by decide) rfl ?_
        refine S_goto C 4 dX9_nameAll_39 (by decide) ?_
        exact S_sub [1, 2, 0] rfl (ih x1 (x2 + 1) σ)
      · refine S_aload_n C 0 dX9_nameAll_20 rfl ?_
        refine S_iload_n C 2 dX9_nameAll_21 rfl ?_
        refine K_X9_reachedFrom C ml_X9_97 (by decide) (Nat.le_of_ble_eq_true rfl) dX9_nameAll_22 (fun v1 => ?_)
        refine S_istore_n C [(3, .int v1), (0, .ref (aC z 18)), (1, .int x1), (2, .int x2)] (i := 3) dX9_nameAll_25 rfl (by decide) rfl ?_
        refine S_iload_n C 2 dX9_nameAll_26 rfl ?_
        refine S_iload_n C 0 dX9_nameAll_27 rfl ?_
        refine S_ior C dX9_nameAll_28 ?_
        refine S_bndT (fun x1_2 _ => ?_)
        refine S_istore_n C [(1, .int x1_2), (3, .int v1), (0, .ref (aC z 18)), (2, .int x2)] (i := 1) dX9_nameAll_29 rfl (by decide) rfl ?_
        refine S_aload_n C 2 dX9_nameAll_30 rfl ?_
        refine S_iload_n C 1 dX9_nameAll_31 rfl ?_
        refine S_iload_n C 3 dX9_nameAll_32 rfl ?_
        refine K_X9_nameMembers C ml_X9_101 (by decide) (Nat.le_of_ble_eq_true rfl) dX9_nameAll_33 (fun σ3 => ?_)
        refine S_iinc C 3 [(2, .int (x2 + 1)), (1, .int x1_2), (3, .int v1), (0, .ref (aC z 18))] (x2 + 1) dX9_nameAll_36 rfl rfl (by decide) rfl ?_
        refine S_goto C 4 dX9_nameAll_39 (by decide) ?_
        exact S_sub [3, 1, 0] rfl (ih x1_2 (x2 + 1) σ3)
set_option maxRecDepth 10000 in
theorem WT_X9_nameAll {x : MX} {z : ZT} (C : Cok x (wxC z) RX9 cX9_nameAll 4 none 1 25)  (σ : St) : Sim x (wxC z) 4 jV (X9_nameAll σ) 0 [(0, .ref (aC z 18))] [] σ := by
  rw [X9_nameAll]
  refine S_iconst C (0) dX9_nameAll_0 (by decide) ?_
  refine S_istore_n C [(1, .int 0), (0, .ref (aC z 18))] (i := 1) dX9_nameAll_1 rfl (by decide) rfl ?_
  refine S_iconst C (0) dX9_nameAll_2 (by decide) ?_
  refine S_istore_n C [(2, .int 0), (1, .int 0), (0, .ref (aC z 18))] (i := 2) dX9_nameAll_3 rfl (by decide) rfl ?_
  exact S_sub [2, 1, 0] rfl (WT_X9_nameAll_L4 C FU (0 : Int32) (0 : Int32) σ)
set_option maxRecDepth 10000 in
theorem con_X9_nameAll (z : ZT) (l : Launch)  (σ : St) : ∀ ro, X9_nameAll σ = some ro → Con (wxC z) l yX9_nameAll cX9_nameAll 4 none 1 25 [.ref (aC z 18)] σ (jV ro) :=
  fun ro hk => Con_of hk (by decide) (Nat.le_of_ble_eq_true rfl) (fun x hx C => WT_X9_nameAll C σ)
set_option maxRecDepth 10000 in
theorem K_X9_nameAll {x : MX} {z : ZT} {own : String} {cc : ByteArray} {nL : Nat} {ret : Option FieldType} {fr lo : Nat} {ρ : Type} {inj : ρ → Option Value × St} {pc : Nat} {lv : List (Nat × Value)} {st : List Value} {σ : St} (C : Cok x (wxC z) own cc nL ret fr lo)  {index : Nat} (hl : Cond.methodLink own index yX9_nameAll ∈ gtb) (hR : 1 + 1 ≤ fr ∧ 8 + (4 + 11) + 25 ≤ lo) (hW : (st.map fun v => v.category).sum ≤ 8) (hd : decode cc pc = .ok (.invokevirtual index, 3)) {K : St → Option ρ} (h : ∀ v, Sim x (wxC z) nL inj (K v) (pc + 3) lv (st) v) : Sim x (wxC z) nL inj ((X9_nameAll σ).bind K) pc lv (.ref (aC z 18) :: st) σ :=
  S_callV C (As := []) (q := 18) (inj1 := jV) mw_X9_nameAll mv_X9_nameAll hl (fun ro hro => con_X9_nameAll z (mL x) σ ro hro) hR rfl (show 18 < 59 by decide) rfl (ce_X9 z σ) rfl rfl hW hd h
set_option maxRecDepth 10000 in
theorem WT_X9_appendSounds_L7 {x : MX} {z : ZT} (C : Cok x (wxC z) RX9 cX9_appendSounds 5 none 0 0) : ∀ (n : Nat) (x1 : Int32) (x2 : Int32) (x4 : Int32) (σ : St), Sim x (wxC z) 5 jV (X9_appendSounds_L7 n x1 x2 x4 σ) 7 [(0, .ref (aC z 18)), (1, .int x1), (2, .int x2), (4, .int x4)] [] σ := by
  intro n
  induction n with
  | zero =>
    intros
    exact S_none
  | succ n ih =>
    intro x1 x2 x4 σ
    rw [X9_appendSounds_L7]
    refine S_iload C 3 dX9_appendSounds_7 rfl ?_
    refine S_if_lt C 62 dX9_appendSounds_9 (by decide) ?_ ?_
    · exact S_vret C rfl dX9_appendSounds_62
    · refine S_aload_n C 0 dX9_appendSounds_12 rfl ?_
      refine G_X9_soundCounts C fl_X9_23 dX9_appendSounds_13 ?_
      refine S_iload_n C 1 dX9_appendSounds_16 rfl ?_
      refine L_X9_soundCounts C dX9_appendSounds_17 (fun _ => ?_)
      refine S_bipush C (20) dX9_appendSounds_18 (by decide) ?_
      refine S_icmp_ge C 56 dX9_appendSounds_20 (by decide) ?_ ?_
      · refine S_iinc C 3 [(4, .int (x4 + (-5))), (0, .ref (aC z 18)), (1, .int x1), (2, .int x2)] (x4 + (-5)) dX9_appendSounds_56 rfl rfl (by decide) rfl ?_
        refine S_goto C 7 dX9_appendSounds_59 (by decide) ?_
        exact S_sub [1, 2, 3, 0] rfl (ih x1 x2 (x4 + (-5)) σ)
      · refine S_aload_n C 0 dX9_appendSounds_23 rfl ?_
        refine G_X9_soundRows C fl_X9_19 dX9_appendSounds_24 ?_
        refine S_iload_n C 1 dX9_appendSounds_27 rfl ?_
        refine S_bipush C (20) dX9_appendSounds_28 (by decide) ?_
        refine S_imul C dX9_appendSounds_30 ?_
        refine S_aload_n C 0 dX9_appendSounds_31 rfl ?_
        refine G_X9_soundCounts C fl_X9_23 dX9_appendSounds_32 ?_
        refine S_iload_n C 1 dX9_appendSounds_35 rfl ?_
        refine L_X9_soundCounts C dX9_appendSounds_36 (fun _ => ?_)
        refine S_iadd C dX9_appendSounds_37 ?_
        refine S_iload_n C 2 dX9_appendSounds_38 rfl ?_
        refine S_iload C 3 dX9_appendSounds_39 rfl ?_
        refine S_ishr C dX9_appendSounds_41 ?_
        refine S_bipush C (31) dX9_appendSounds_42 (by decide) ?_
        refine S_iand C dX9_appendSounds_44 ?_
        refine T_X9_soundRows C dX9_appendSounds_45 (fun _ => ?_)
        refine S_bndS (fun σ2 _ => ?_)
        refine S_aload_n C 0 dX9_appendSounds_46 rfl ?_
        refine G_X9_soundCounts C fl_X9_23 dX9_appendSounds_47 ?_
        refine S_iload_n C 1 dX9_appendSounds_50 rfl ?_
        refine S_dup2 C dX9_appendSounds_51 rfl rfl ?_
        refine L_X9_soundCounts C dX9_appendSounds_52 (fun _ => ?_)
        refine S_iconst C (1) dX9_appendSounds_53 (by decide) ?_
        refine S_iadd C dX9_appendSounds_54 ?_
        refine T_X9_soundCounts C dX9_appendSounds_55 (fun _ => ?_)
        refine S_bndS (fun σ3 _ => ?_)
        refine S_iinc C 3 [(4, .int (x4 + (-5))), (0, .ref (aC z 18)), (1, .int x1), (2, .int x2)] (x4 + (-5)) dX9_appendSounds_56 rfl rfl (by decide) rfl ?_
        refine S_goto C 7 dX9_appendSounds_59 (by decide) ?_
        exact S_sub [1, 2, 3, 0] rfl (ih x1 x2 (x4 + (-5)) σ3)
set_option maxRecDepth 10000 in
theorem WT_X9_appendSounds {x : MX} {z : ZT} (C : Cok x (wxC z) RX9 cX9_appendSounds 5 none 0 0) (x1 : Int32) (x2 : Int32) (x3 : Int32) (σ : St) : Sim x (wxC z) 5 jV (X9_appendSounds x1 x2 x3 σ) 0 [(0, .ref (aC z 18)), (1, .int x1), (2, .int x2), (3, .int x3)] [] σ := by
  rw [X9_appendSounds]
  refine S_iconst C (5) dX9_appendSounds_0 (by decide) ?_
  refine S_iload_n C 3 dX9_appendSounds_1 rfl ?_
  refine S_iconst C (1) dX9_appendSounds_2 (by decide) ?_
  refine S_isub C dX9_appendSounds_3 ?_
  refine S_imul C dX9_appendSounds_4 ?_
  refine S_bndT (fun x4_1 _ => ?_)
  refine S_istore C [(4, .int x4_1), (0, .ref (aC z 18)), (1, .int x1), (2, .int x2), (3, .int x3)] dX9_appendSounds_5 (by decide) rfl ?_
  exact S_sub [1, 2, 3, 0] rfl (WT_X9_appendSounds_L7 C FU x1 x2 x4_1 σ)
set_option maxRecDepth 10000 in
theorem con_X9_appendSounds (z : ZT) (l : Launch) (x1 : Int32) (x2 : Int32) (x3 : Int32) (σ : St) : ∀ ro, X9_appendSounds x1 x2 x3 σ = some ro → Con (wxC z) l yX9_appendSounds cX9_appendSounds 5 none 0 0 [.ref (aC z 18), .int x1, .int x2, .int x3] σ (jV ro) :=
  fun ro hk => Con_of hk (by decide) (Nat.le_of_ble_eq_true rfl) (fun x hx C => WT_X9_appendSounds C x1 x2 x3 σ)
set_option maxRecDepth 10000 in
theorem K_X9_appendSounds {x : MX} {z : ZT} {own : String} {cc : ByteArray} {nL : Nat} {ret : Option FieldType} {fr lo : Nat} {ρ : Type} {inj : ρ → Option Value × St} {pc : Nat} {lv : List (Nat × Value)} {st : List Value} {σ : St} (C : Cok x (wxC z) own cc nL ret fr lo) {x1 : Int32} {x2 : Int32} {x3 : Int32} {index : Nat} (hl : Cond.methodLink own index yX9_appendSounds ∈ gtb) (hR : 0 + 1 ≤ fr ∧ 8 + (5 + 11) + 0 ≤ lo) (hW : (st.map fun v => v.category).sum ≤ 8) (hd : decode cc pc = .ok (.invokevirtual index, 3)) {K : St → Option ρ} (h : ∀ v, Sim x (wxC z) nL inj (K v) (pc + 3) lv (st) v) : Sim x (wxC z) nL inj ((X9_appendSounds x1 x2 x3 σ).bind K) pc lv (.int x3 :: .int x2 :: .int x1 :: .ref (aC z 18) :: st) σ :=
  S_callV C (As := [.int x1, .int x2, .int x3]) (q := 18) (inj1 := jV) mw_X9_appendSounds mv_X9_appendSounds hl (fun ro hro => con_X9_appendSounds z (mL x) x1 x2 x3 σ ro hro) hR rfl (show 18 < 59 by decide) rfl (ce_X9 z σ) rfl rfl hW hd h
set_option maxRecDepth 10000 in
theorem WT_X9_hear_L40 {x : MX} {z : ZT} (C : Cok x (wxC z) RX9 cX9_hear 5 none 2 52) : ∀ (n : Nat) (x1 : Int32) (x2 : Int32) (x3 : Int32) (σ : St), Sim x (wxC z) 5 jV (X9_hear_L40 n x1 x2 x3 σ) 40 [(0, .ref (aC z 18)), (1, .int x1), (2, .int x2), (3, .int x3)] [] σ := by
  intro n
  induction n with
  | zero =>
    intros
    exact S_none
  | succ n ih =>
    intro x1 x2 x3 σ
    rw [X9_hear_L40]
    refine S_iload_n C 3 dX9_hear_40 rfl ?_
    refine S_bipush C (10) dX9_hear_41 (by decide) ?_
    refine S_icmp_ge C 146 dX9_hear_43 (by decide) ?_ ?_
    · exact S_vret C rfl dX9_hear_146
    · refine S_iload_n C 2 dX9_hear_46 rfl ?_
      refine S_if_le C 146 dX9_hear_47 (by decide) ?_ ?_
      · exact S_vret C rfl dX9_hear_146
      · refine S_aload_n C 0 dX9_hear_50 rfl ?_
        refine G_X9_rules C fl_X9_11 dX9_hear_51 (fun h3 => ?_)
        refine S_aload_n C 0 dX9_hear_54 rfl ?_
        refine G_X9_letters C fl_X9_15 dX9_hear_55 ?_
        refine S_iload_n C 1 dX9_hear_58 rfl ?_
        refine L_X9_letters C dX9_hear_59 (fun _ => ?_)
        refine S_iload_n C 2 dX9_hear_60 rfl ?_
        refine K_X5_changeAt C h3 ml_X9_72 (by decide) (Nat.le_of_ble_eq_true rfl) dX9_hear_61 (fun v4 => ?_)
        refine S_istore C [(4, .int v4), (0, .ref (aC z 18)), (1, .int x1), (2, .int x2), (3, .int x3)] dX9_hear_64 (by decide) rfl ?_
        refine S_iload C 0 dX9_hear_66 rfl ?_
        refine S_bipush C (-4) dX9_hear_68 (by decide) ?_
        refine S_icmp_ne C 102 dX9_hear_70 (by decide) ?_ ?_
        · refine S_aload_n C 1 dX9_hear_102 rfl ?_
          refine S_iload_n C 2 dX9_hear_103 rfl ?_
          refine S_aload_n C 1 dX9_hear_104 rfl ?_
          refine G_X9_rules C fl_X9_11 dX9_hear_105 (fun h5 => ?_)
          refine G_X5_intos C h5 fl_X9_80 dX9_hear_108 ?_
          refine S_iload C 0 dX9_hear_111 rfl ?_
          refine L_X5_intos C h5 dX9_hear_113 (fun _ => ?_)
          refine S_aload_n C 1 dX9_hear_114 rfl ?_
          refine G_X9_rules C fl_X9_11 dX9_hear_115 (fun h6 => ?_)
          refine G_X5_intoLengths C h6 fl_X9_83 dX9_hear_118 ?_
          refine S_iload C 0 dX9_hear_121 rfl ?_
          refine L_X5_intoLengths C h6 dX9_hear_123 (fun _ => ?_)
          refine K_X9_appendSounds C ml_X9_76 (by decide) (Nat.le_of_ble_eq_true rfl) dX9_hear_124 (fun σ7 => ?_)
          refine S_iload_n C 3 dX9_hear_127 rfl ?_
          refine S_aload_n C 1 dX9_hear_128 rfl ?_
          refine G_X9_rules C fl_X9_11 dX9_hear_129 (fun h8 => ?_)
          refine G_X5_fromLengths C h8 fl_X9_86 dX9_hear_132 ?_
          refine S_iload C 0 dX9_hear_135 rfl ?_
          refine L_X5_fromLengths C h8 dX9_hear_137 (fun _ => ?_)
          refine S_isub C dX9_hear_138 ?_
          refine S_bndT (fun x2_9 _ => ?_)
          refine S_istore_n C [(2, .int x2_9), (4, .int v4), (0, .ref (aC z 18)), (1, .int x1), (3, .int x3)] (i := 2) dX9_hear_139 rfl (by decide) rfl ?_
          refine S_iinc C 4 [(3, .int (x3 + 1)), (2, .int x2_9), (4, .int v4), (0, .ref (aC z 18)), (1, .int x1)] (x3 + 1) dX9_hear_140 rfl rfl (by decide) rfl ?_
          refine S_goto C 40 dX9_hear_143 (by decide) ?_
          exact S_sub [3, 4, 1, 0] rfl (ih x1 x2_9 (x3 + 1) σ7)
        · refine S_aload_n C 1 dX9_hear_73 rfl ?_
          refine S_iload_n C 2 dX9_hear_74 rfl ?_
          refine S_aload_n C 1 dX9_hear_75 rfl ?_
          refine G_X9_letters C fl_X9_15 dX9_hear_76 ?_
          refine S_iload_n C 2 dX9_hear_79 rfl ?_
          refine L_X9_letters C dX9_hear_80 (fun _ => ?_)
          refine S_iconst C (5) dX9_hear_81 (by decide) ?_
          refine S_iload_n C 3 dX9_hear_82 rfl ?_
          refine S_iconst C (1) dX9_hear_83 (by decide) ?_
          refine S_isub C dX9_hear_84 ?_
          refine S_imul C dX9_hear_85 ?_
          refine S_lshr C dX9_hear_86 ?_
          refine S_ldc2 C (31) kl_X9_43 dX9_hear_87 ?_
          refine S_land C dX9_hear_90 ?_
          refine S_l2i C dX9_hear_91 ?_
          refine S_iconst C (1) dX9_hear_92 (by decide) ?_
          refine K_X9_appendSounds C ml_X9_76 (by decide) (Nat.le_of_ble_eq_true rfl) dX9_hear_93 (fun σ10 => ?_)
          refine S_iinc C 3 [(2, .int (x2 + (-1))), (4, .int v4), (0, .ref (aC z 18)), (1, .int x1), (3, .int x3)] (x2 + (-1)) dX9_hear_96 rfl rfl (by decide) rfl ?_
          refine S_goto C 140 dX9_hear_99 (by decide) ?_
          refine S_iinc C 4 [(3, .int (x3 + 1)), (2, .int (x2 + (-1))), (4, .int v4), (0, .ref (aC z 18)), (1, .int x1)] (x3 + 1) dX9_hear_140 rfl rfl (by decide) rfl ?_
          refine S_goto C 40 dX9_hear_143 (by decide) ?_
          exact S_sub [3, 4, 1, 0] rfl (ih x1 (x2 + (-1)) (x3 + 1) σ10)
set_option maxRecDepth 10000 in
theorem WT_X9_hear_L9 {x : MX} {z : ZT} (C : Cok x (wxC z) RX9 cX9_hear 5 none 2 52) : ∀ (n : Nat) (x1 : Int32) (x2 : Int32) (x3 : Int64) (σ : St), Sim x (wxC z) 5 jV (X9_hear_L9 n x1 x2 x3 σ) 9 [(0, .ref (aC z 18)), (1, .int x1), (2, .int x2), (3, .long x3)] [] σ := by
  intro n
  induction n with
  | zero =>
    intros
    exact S_none
  | succ n ih =>
    intro x1 x2 x3 σ
    rw [X9_hear_L9]
    refine S_lload_n C 3 dX9_hear_9 rfl ?_
    refine S_lconst C (0) dX9_hear_10 (by decide) ?_
    refine S_lc_le C 31 dX9_hear_11 dX9_hear_12 (by decide) ?_ ?_
    · refine S_aload_n C 0 dX9_hear_31 rfl ?_
      refine G_X9_soundCounts C fl_X9_23 dX9_hear_32 ?_
      refine S_iload_n C 1 dX9_hear_35 rfl ?_
      refine S_iconst C (0) dX9_hear_36 (by decide) ?_
      refine T_X9_soundCounts C dX9_hear_37 (fun _ => ?_)
      refine S_bndS (fun σ2 _ => ?_)
      refine S_iconst C (0) dX9_hear_38 (by decide) ?_
      refine S_istore_n C [(3, .int 0), (0, .ref (aC z 18)), (1, .int x1), (2, .int x2)] (i := 3) dX9_hear_39 rfl (by decide) rfl ?_
      exact S_sub [1, 2, 3, 0] rfl (WT_X9_hear_L40 C FU x1 x2 (0 : Int32) σ2)
    · refine S_iload_n C 2 dX9_hear_15 rfl ?_
      refine S_bipush C (10) dX9_hear_16 (by decide) ?_
      refine S_icmp_ge C 31 dX9_hear_18 (by decide) ?_ ?_
      · refine S_aload_n C 0 dX9_hear_31 rfl ?_
        refine G_X9_soundCounts C fl_X9_23 dX9_hear_32 ?_
        refine S_iload_n C 1 dX9_hear_35 rfl ?_
        refine S_iconst C (0) dX9_hear_36 (by decide) ?_
        refine T_X9_soundCounts C dX9_hear_37 (fun _ => ?_)
        refine S_bndS (fun σ11 _ => ?_)
        refine S_iconst C (0) dX9_hear_38 (by decide) ?_
        refine S_istore_n C [(3, .int 0), (0, .ref (aC z 18)), (1, .int x1), (2, .int x2)] (i := 3) dX9_hear_39 rfl (by decide) rfl ?_
        exact S_sub [1, 2, 3, 0] rfl (WT_X9_hear_L40 C FU x1 x2 (0 : Int32) σ11)
      · refine S_iinc C 2 [(2, .int (x2 + 1)), (0, .ref (aC z 18)), (1, .int x1), (3, .long x3)] (x2 + 1) dX9_hear_21 rfl rfl (by decide) rfl ?_
        refine S_lload_n C 3 dX9_hear_24 rfl ?_
        refine S_iconst C (5) dX9_hear_25 (by decide) ?_
        refine S_lshr C dX9_hear_26 ?_
        refine S_bndTL (fun x3_12 _ => ?_)
        refine S_lstore_n C [(3, .long x3_12), (2, .int (x2 + 1)), (0, .ref (aC z 18)), (1, .int x1)] (i := 3) dX9_hear_27 rfl (by decide) rfl ?_
        refine S_goto C 9 dX9_hear_28 (by decide) ?_
        exact S_sub [2, 3, 1, 0] rfl (ih x1 (x2 + 1) x3_12 σ)
set_option maxRecDepth 10000 in
theorem WT_X9_hear {x : MX} {z : ZT} (C : Cok x (wxC z) RX9 cX9_hear 5 none 2 52) (x1 : Int32) (σ : St) : Sim x (wxC z) 5 jV (X9_hear x1 σ) 0 [(0, .ref (aC z 18)), (1, .int x1)] [] σ := by
  rw [X9_hear]
  refine S_iconst C (0) dX9_hear_0 (by decide) ?_
  refine S_istore_n C [(2, .int 0), (0, .ref (aC z 18)), (1, .int x1)] (i := 2) dX9_hear_1 rfl (by decide) rfl ?_
  refine S_aload_n C 1 dX9_hear_2 rfl ?_
  refine G_X9_letters C fl_X9_15 dX9_hear_3 ?_
  refine S_iload_n C 2 dX9_hear_6 rfl ?_
  refine L_X9_letters C dX9_hear_7 (fun _ => ?_)
  refine S_bndTL (fun x3_1 _ => ?_)
  refine S_lstore_n C [(3, .long x3_1), (2, .int 0), (0, .ref (aC z 18)), (1, .int x1)] (i := 3) dX9_hear_8 rfl (by decide) rfl ?_
  exact S_sub [2, 3, 1, 0] rfl (WT_X9_hear_L9 C FU x1 (0 : Int32) x3_1 σ)
set_option maxRecDepth 10000 in
theorem con_X9_hear (z : ZT) (l : Launch) (x1 : Int32) (σ : St) : ∀ ro, X9_hear x1 σ = some ro → Con (wxC z) l yX9_hear cX9_hear 5 none 2 52 [.ref (aC z 18), .int x1] σ (jV ro) :=
  fun ro hk => Con_of hk (by decide) (Nat.le_of_ble_eq_true rfl) (fun x hx C => WT_X9_hear C x1 σ)
set_option maxRecDepth 10000 in
theorem K_X9_hear {x : MX} {z : ZT} {own : String} {cc : ByteArray} {nL : Nat} {ret : Option FieldType} {fr lo : Nat} {ρ : Type} {inj : ρ → Option Value × St} {pc : Nat} {lv : List (Nat × Value)} {st : List Value} {σ : St} (C : Cok x (wxC z) own cc nL ret fr lo) {x1 : Int32} {index : Nat} (hl : Cond.methodLink own index yX9_hear ∈ gtb) (hR : 2 + 1 ≤ fr ∧ 8 + (5 + 11) + 52 ≤ lo) (hW : (st.map fun v => v.category).sum ≤ 8) (hd : decode cc pc = .ok (.invokevirtual index, 3)) {K : St → Option ρ} (h : ∀ v, Sim x (wxC z) nL inj (K v) (pc + 3) lv (st) v) : Sim x (wxC z) nL inj ((X9_hear x1 σ).bind K) pc lv (.int x1 :: .ref (aC z 18) :: st) σ :=
  S_callV C (As := [.int x1]) (q := 18) (inj1 := jV) mw_X9_hear mv_X9_hear hl (fun ro hro => con_X9_hear z (mL x) x1 σ ro hro) hR rfl (show 18 < 59 by decide) rfl (ce_X9 z σ) rfl rfl hW hd h
set_option maxRecDepth 10000 in
theorem WT_X9_measure_L94 {x : MX} {z : ZT} (C : Cok x (wxC z) RX9 cX9_measure 10 (some .int) 2 44) (kq48 : Int32 → Int32 → Int32 → Int32 → Int32 → St → Option (Int32 × St)) (hk48 : ∀ (x1 : Int32) (x2 : Int32) (x3 : Int32) (x4 : Int32) (x5 : Int32) (σ : St), Sim x (wxC z) 10 jIS (kq48 x1 x2 x3 x4 x5 σ) 48 [(0, .ref (aC z 18)), (1, .int x1), (2, .int x2), (3, .int x3), (4, .int x4), (5, .int x5)] [] σ) : ∀ (n : Nat) (x1 : Int32) (x2 : Int32) (x3 : Int32) (x4 : Int32) (x5 : Int32) (x6 : Int32) (x7 : Int32) (x8 : Int32) (σ : St), Sim x (wxC z) 10 jIS (X9_measure_L94 kq48 n x1 x2 x3 x4 x5 x6 x7 x8 σ) 94 [(0, .ref (aC z 18)), (1, .int x1), (2, .int x2), (3, .int x3), (4, .int x4), (5, .int x5), (6, .int x6), (7, .int x7), (8, .int x8)] [] σ := by
  intro n
  induction n with
  | zero =>
    intros
    exact S_none
  | succ n ih =>
    intro x1 x2 x3 x4 x5 x6 x7 x8 σ
    rw [X9_measure_L94]
    refine S_iload C 8 dX9_measure_94 rfl ?_
    refine S_iload C 4 dX9_measure_96 rfl ?_
    refine S_icmp_ge C 172 dX9_measure_98 (by decide) ?_ ?_
    · refine S_iinc C 5 [(5, .int (x5 + 1)), (0, .ref (aC z 18)), (1, .int x1), (2, .int x2), (3, .int x3), (4, .int x4), (6, .int x6), (7, .int x7), (8, .int x8)] (x5 + 1) dX9_measure_172 rfl rfl (by decide) rfl ?_
      refine S_goto C 48 dX9_measure_175 (by decide) ?_
      exact S_sub [1, 2, 3, 4, 5, 0] rfl (hk48 x1 x2 x3 x4 (x5 + 1) σ)
    · refine S_iload C 6 dX9_measure_101 rfl ?_
      refine S_aload_n C 0 dX9_measure_103 rfl ?_
      refine G_X9_rules C fl_X9_11 dX9_measure_104 (fun h7 => ?_)
      refine S_iload C 7 dX9_measure_107 rfl ?_
      refine S_aload_n C 0 dX9_measure_109 rfl ?_
      refine G_X9_soundRows C fl_X9_19 dX9_measure_110 ?_
      refine S_iload_n C 2 dX9_measure_113 rfl ?_
      refine S_bipush C (20) dX9_measure_114 (by decide) ?_
      refine S_imul C dX9_measure_116 ?_
      refine S_iload C 8 dX9_measure_117 rfl ?_
      refine S_iadd C dX9_measure_119 ?_
      refine L_X9_soundRows C dX9_measure_120 (fun _ => ?_)
      refine K_X5_swapCost C h7 ml_X9_89 (by decide) (Nat.le_of_ble_eq_true rfl) dX9_measure_121 (fun v8 => ?_)
      refine S_iadd C dX9_measure_124 ?_
      refine S_bndT (fun x9_9 _ => ?_)
      refine S_istore C [(9, .int x9_9), (0, .ref (aC z 18)), (1, .int x1), (2, .int x2), (3, .int x3), (4, .int x4), (5, .int x5), (6, .int x6), (7, .int x7), (8, .int x8)] dX9_measure_125 (by decide) rfl ?_
      refine S_aload_n C 1 dX9_measure_127 rfl ?_
      refine G_X9_edits C fl_X9_38 dX9_measure_128 ?_
      refine S_iload C 9 dX9_measure_131 rfl ?_
      refine S_iconst C (1) dX9_measure_133 (by decide) ?_
      refine S_iadd C dX9_measure_134 ?_
      refine L_X9_edits C dX9_measure_135 (fun _ => ?_)
      refine S_bndT (fun x6_10 _ => ?_)
      refine S_istore C [(6, .int x6_10), (9, .int x9_9), (0, .ref (aC z 18)), (1, .int x1), (2, .int x2), (3, .int x3), (4, .int x4), (5, .int x5), (7, .int x7), (8, .int x8)] dX9_measure_136 (by decide) rfl ?_
      refine S_aload_n C 2 dX9_measure_138 rfl ?_
      refine G_X9_edits C fl_X9_38 dX9_measure_139 ?_
      refine S_iload C 9 dX9_measure_142 rfl ?_
      refine S_iconst C (1) dX9_measure_144 (by decide) ?_
      refine S_iadd C dX9_measure_145 ?_
      refine S_iload C 1 dX9_measure_146 rfl ?_
      refine S_iload C 0 dX9_measure_148 rfl ?_
      refine S_aload_n C 2 dX9_measure_150 rfl ?_
      refine G_X9_edits C fl_X9_38 dX9_measure_151 ?_
      refine S_iload C 9 dX9_measure_154 rfl ?_
      refine L_X9_edits C dX9_measure_156 (fun _ => ?_)
      refine K_J9_min_7cf53 C ml_X9_92 (by decide) (Nat.le_of_ble_eq_true rfl) dX9_measure_157 (fun v11 => ?_)
      refine S_iload_n C 5 dX9_measure_160 rfl ?_
      refine S_iadd C dX9_measure_161 ?_
      refine K_J9_min_7cf53 C ml_X9_92 (by decide) (Nat.le_of_ble_eq_true rfl) dX9_measure_162 (fun v12 => ?_)
      refine T_X9_edits C dX9_measure_165 (fun _ => ?_)
      refine S_bndS (fun σ13 _ => ?_)
      refine S_iinc C 9 [(8, .int (x8 + 1)), (6, .int x6_10), (9, .int x9_9), (0, .ref (aC z 18)), (1, .int x1), (2, .int x2), (3, .int x3), (4, .int x4), (5, .int x5), (7, .int x7)] (x8 + 1) dX9_measure_166 rfl rfl (by decide) rfl ?_
      refine S_goto C 94 dX9_measure_169 (by decide) ?_
      exact S_sub [3, 4, 5, 6, 7, 8, 1, 9, 0] rfl (ih x1 x2 x3 x4 x5 x6_10 x7 (x8 + 1) σ13)
set_option maxRecDepth 10000 in
theorem WT_X9_measure_L48 {x : MX} {z : ZT} (C : Cok x (wxC z) RX9 cX9_measure 10 (some .int) 2 44) : ∀ (n : Nat) (x1 : Int32) (x2 : Int32) (x3 : Int32) (x4 : Int32) (x5 : Int32) (σ : St), Sim x (wxC z) 10 jIS (X9_measure_L48 n x1 x2 x3 x4 x5 σ) 48 [(0, .ref (aC z 18)), (1, .int x1), (2, .int x2), (3, .int x3), (4, .int x4), (5, .int x5)] [] σ := by
  intro n
  induction n with
  | zero =>
    intros
    exact S_none
  | succ n ih =>
    intro x1 x2 x3 x4 x5 σ
    rw [X9_measure_L48]
    refine S_iload C 5 dX9_measure_48 rfl ?_
    refine S_aload_n C 0 dX9_measure_50 rfl ?_
    refine G_X9_soundCounts C fl_X9_23 dX9_measure_51 ?_
    refine S_iload_n C 1 dX9_measure_54 rfl ?_
    refine L_X9_soundCounts C dX9_measure_55 (fun _ => ?_)
    refine S_icmp_ge C 178 dX9_measure_56 (by decide) ?_ ?_
    · refine S_aload_n C 0 dX9_measure_178 rfl ?_
      refine G_X9_edits C fl_X9_38 dX9_measure_179 ?_
      refine S_iload C 4 dX9_measure_182 rfl ?_
      refine L_X9_edits C dX9_measure_184 (fun _ => ?_)
      exact S_iret C rfl dX9_measure_185
    · refine S_aload_n C 0 dX9_measure_59 rfl ?_
      refine G_X9_edits C fl_X9_38 dX9_measure_60 ?_
      refine S_iconst C (0) dX9_measure_63 (by decide) ?_
      refine Lk_X9_edits C 0 (by decide) dX9_measure_64 ?_
      refine S_bndT (fun x6_4 _ => ?_)
      refine S_istore C [(6, .int x6_4), (0, .ref (aC z 18)), (1, .int x1), (2, .int x2), (3, .int x3), (4, .int x4), (5, .int x5)] dX9_measure_65 (by decide) rfl ?_
      refine S_aload_n C 1 dX9_measure_67 rfl ?_
      refine G_X9_edits C fl_X9_38 dX9_measure_68 ?_
      refine S_iconst C (0) dX9_measure_71 (by decide) ?_
      refine S_dup2 C dX9_measure_72 rfl rfl ?_
      refine Lk_X9_edits C 0 (by decide) dX9_measure_73 ?_
      refine S_iload_n C 4 dX9_measure_74 rfl ?_
      refine S_iadd C dX9_measure_75 ?_
      refine Tk_X9_edits C 0 (by decide) dX9_measure_76 ?_
      refine S_bndS (fun σ5 _ => ?_)
      refine S_aload_n C 1 dX9_measure_77 rfl ?_
      refine G_X9_soundRows C fl_X9_19 dX9_measure_78 ?_
      refine S_iload_n C 2 dX9_measure_81 rfl ?_
      refine S_bipush C (20) dX9_measure_82 (by decide) ?_
      refine S_imul C dX9_measure_84 ?_
      refine S_iload C 6 dX9_measure_85 rfl ?_
      refine S_iadd C dX9_measure_87 ?_
      refine L_X9_soundRows C dX9_measure_88 (fun _ => ?_)
      refine S_bndT (fun x7_6 _ => ?_)
      refine S_istore C [(7, .int x7_6), (6, .int x6_4), (0, .ref (aC z 18)), (1, .int x1), (2, .int x2), (3, .int x3), (4, .int x4), (5, .int x5)] dX9_measure_89 (by decide) rfl ?_
      refine S_iconst C (0) dX9_measure_91 (by decide) ?_
      refine S_istore C [(8, .int 0), (7, .int x7_6), (6, .int x6_4), (0, .ref (aC z 18)), (1, .int x1), (2, .int x2), (3, .int x3), (4, .int x4), (5, .int x5)] dX9_measure_92 (by decide) rfl ?_
      exact S_sub [3, 4, 5, 6, 7, 8, 2, 1, 0] rfl (WT_X9_measure_L94 C _ ih FU x1 x2 x3 x4 x5 x6_4 x7_6 (0 : Int32) σ5)
set_option maxRecDepth 10000 in
theorem WT_X9_measure_L21 {x : MX} {z : ZT} (C : Cok x (wxC z) RX9 cX9_measure 10 (some .int) 2 44) : ∀ (n : Nat) (x1 : Int32) (x2 : Int32) (x3 : Int32) (x4 : Int32) (x5 : Int32) (σ : St), Sim x (wxC z) 10 jIS (X9_measure_L21 n x1 x2 x3 x4 x5 σ) 21 [(0, .ref (aC z 18)), (1, .int x1), (2, .int x2), (3, .int x3), (4, .int x4), (5, .int x5)] [] σ := by
  intro n
  induction n with
  | zero =>
    intros
    exact S_none
  | succ n ih =>
    intro x1 x2 x3 x4 x5 σ
    rw [X9_measure_L21]
    refine S_iload C 5 dX9_measure_21 rfl ?_
    refine S_iload C 4 dX9_measure_23 rfl ?_
    refine S_icmp_gt C 45 dX9_measure_25 (by decide) ?_ ?_
    · refine S_iconst C (0) dX9_measure_45 (by decide) ?_
      refine S_istore C [(5, .int 0), (0, .ref (aC z 18)), (1, .int x1), (2, .int x2), (3, .int x3), (4, .int x4)] dX9_measure_46 (by decide) rfl ?_
      exact S_sub [1, 2, 3, 4, 5, 0] rfl (WT_X9_measure_L48 C FU x1 x2 x3 x4 (0 : Int32) σ)
    · refine S_aload_n C 0 dX9_measure_28 rfl ?_
      refine G_X9_edits C fl_X9_38 dX9_measure_29 ?_
      refine S_iload C 5 dX9_measure_32 rfl ?_
      refine S_iload C 5 dX9_measure_34 rfl ?_
      refine S_iload_n C 3 dX9_measure_36 rfl ?_
      refine S_imul C dX9_measure_37 ?_
      refine T_X9_edits C dX9_measure_38 (fun _ => ?_)
      refine S_bndS (fun σ14 _ => ?_)
      refine S_iinc C 5 [(5, .int (x5 + 1)), (0, .ref (aC z 18)), (1, .int x1), (2, .int x2), (3, .int x3), (4, .int x4)] (x5 + 1) dX9_measure_39 rfl rfl (by decide) rfl ?_
      refine S_goto C 21 dX9_measure_42 (by decide) ?_
      exact S_sub [1, 2, 3, 4, 5, 0] rfl (ih x1 x2 x3 x4 (x5 + 1) σ14)
set_option maxRecDepth 10000 in
theorem WT_X9_measure {x : MX} {z : ZT} (C : Cok x (wxC z) RX9 cX9_measure 10 (some .int) 2 44) (x1 : Int32) (x2 : Int32) (σ : St) : Sim x (wxC z) 10 jIS (X9_measure x1 x2 σ) 0 [(0, .ref (aC z 18)), (1, .int x1), (2, .int x2)] [] σ := by
  rw [X9_measure]
  refine S_aload_n C 0 dX9_measure_0 rfl ?_
  refine G_X9_rules C fl_X9_11 dX9_measure_1 (fun h1 => ?_)
  refine G_X5_numbers C h1 fl_X9_65 dX9_measure_4 ?_
  refine S_iconst C (0) dX9_measure_7 (by decide) ?_
  refine Lk_X5_numbers C h1 0 (by decide) dX9_measure_8 ?_
  refine S_bndT (fun x3_2 _ => ?_)
  refine S_istore_n C [(3, .int x3_2), (0, .ref (aC z 18)), (1, .int x1), (2, .int x2)] (i := 3) dX9_measure_9 rfl (by decide) rfl ?_
  refine S_aload_n C 1 dX9_measure_10 rfl ?_
  refine G_X9_soundCounts C fl_X9_23 dX9_measure_11 ?_
  refine S_iload_n C 3 dX9_measure_14 rfl ?_
  refine L_X9_soundCounts C dX9_measure_15 (fun _ => ?_)
  refine S_bndT (fun x4_3 _ => ?_)
  refine S_istore C [(4, .int x4_3), (3, .int x3_2), (0, .ref (aC z 18)), (1, .int x1), (2, .int x2)] dX9_measure_16 (by decide) rfl ?_
  refine S_iconst C (0) dX9_measure_18 (by decide) ?_
  refine S_istore C [(5, .int 0), (4, .int x4_3), (3, .int x3_2), (0, .ref (aC z 18)), (1, .int x1), (2, .int x2)] dX9_measure_19 (by decide) rfl ?_
  exact S_sub [3, 4, 5, 2, 1, 0] rfl (WT_X9_measure_L21 C FU x1 x2 x3_2 x4_3 (0 : Int32) σ)
set_option maxRecDepth 10000 in
theorem con_X9_measure (z : ZT) (l : Launch) (x1 : Int32) (x2 : Int32) (σ : St) : ∀ ro, X9_measure x1 x2 σ = some ro → Con (wxC z) l yX9_measure cX9_measure 10 (some .int) 2 44 [.ref (aC z 18), .int x1, .int x2] σ (jIS ro) :=
  fun ro hk => Con_of hk (by decide) (Nat.le_of_ble_eq_true rfl) (fun x hx C => WT_X9_measure C x1 x2 σ)
set_option maxRecDepth 10000 in
theorem K_X9_measure {x : MX} {z : ZT} {own : String} {cc : ByteArray} {nL : Nat} {ret : Option FieldType} {fr lo : Nat} {ρ : Type} {inj : ρ → Option Value × St} {pc : Nat} {lv : List (Nat × Value)} {st : List Value} {σ : St} (C : Cok x (wxC z) own cc nL ret fr lo) {x1 : Int32} {x2 : Int32} {index : Nat} (hl : Cond.methodLink own index yX9_measure ∈ gtb) (hR : 2 + 1 ≤ fr ∧ 8 + (10 + 11) + 44 ≤ lo) (hW : (st.map fun v => v.category).sum ≤ 8) (hd : decode cc pc = .ok (.invokevirtual index, 3)) {K : (Int32 × St) → Option ρ} (h : ∀ v, Sim x (wxC z) nL inj (K v) (pc + 3) lv (.int v.1 :: st) v.2) : Sim x (wxC z) nL inj ((X9_measure x1 x2 σ).bind K) pc lv (.int x2 :: .int x1 :: .ref (aC z 18) :: st) σ :=
  S_callV C (As := [.int x1, .int x2]) (q := 18) (inj1 := jIS) mw_X9_measure mv_X9_measure hl (fun ro hro => con_X9_measure z (mL x) x1 x2 σ ro hro) hR rfl (show 18 < 59 by decide) rfl (ce_X9 z σ) rfl rfl hW hd h
set_option maxRecDepth 10000 in
theorem WT_X9_settle_L16 {x : MX} {z : ZT} (C : Cok x (wxC z) RX9 cX9_settle 4 none 3 76) : ∀ (n : Nat) (x1 : Int32) (x2 : Int32) (σ : St), Sim x (wxC z) 4 jV (X9_settle_L16 n x1 x2 σ) 16 [(0, .ref (aC z 18)), (1, .int x1), (2, .int x2)] [] σ := by
  intro n
  induction n with
  | zero =>
    intros
    exact S_none
  | succ n ih =>
    intro x1 x2 σ
    rw [X9_settle_L16]
    refine S_iload_n C 2 dX9_settle_16 rfl ?_
    refine S_iload_n C 1 dX9_settle_17 rfl ?_
    refine S_icmp_ge C 95 dX9_settle_18 (by decide) ?_ ?_
    · exact S_vret C rfl dX9_settle_95
    · refine S_aload_n C 0 dX9_settle_21 rfl ?_
      refine S_iload_n C 1 dX9_settle_22 rfl ?_
      refine S_iload_n C 2 dX9_settle_23 rfl ?_
      refine K_X9_measure C ml_X9_61 (by decide) (Nat.le_of_ble_eq_true rfl) dX9_settle_24 (fun r3 => ?_)
      refine S_istore_n C [(3, .int r3.1), (0, .ref (aC z 18)), (1, .int x1), (2, .int x2)] (i := 3) dX9_settle_27 rfl (by decide) rfl ?_
      refine S_aload_n C 1 dX9_settle_28 rfl ?_
      refine G_X9_aparts C fl_X9_26 dX9_settle_29 ?_
      refine S_iload_n C 2 dX9_settle_32 rfl ?_
      refine S_bipush C (16) dX9_settle_33 (by decide) ?_
      refine S_imul C dX9_settle_35 ?_
      refine S_iload_n C 3 dX9_settle_36 rfl ?_
      refine S_iadd C dX9_settle_37 ?_
      refine S_iload_n C 0 dX9_settle_38 rfl ?_
      refine T_X9_aparts C dX9_settle_39 (fun _ => ?_)
      refine S_bndS (fun σ4 _ => ?_)
      refine S_aload_n C 1 dX9_settle_40 rfl ?_
      refine G_X9_aparts C fl_X9_26 dX9_settle_41 ?_
      refine S_iload_n C 3 dX9_settle_44 rfl ?_
      refine S_bipush C (16) dX9_settle_45 (by decide) ?_
      refine S_imul C dX9_settle_47 ?_
      refine S_iload_n C 2 dX9_settle_48 rfl ?_
      refine S_iadd C dX9_settle_49 ?_
      refine S_iload_n C 0 dX9_settle_50 rfl ?_
      refine T_X9_aparts C dX9_settle_51 (fun _ => ?_)
      refine S_bndS (fun σ5 _ => ?_)
      refine S_iload_n C 0 dX9_settle_52 rfl ?_
      refine S_aload_n C 1 dX9_settle_53 rfl ?_
      refine G_X9_rules C fl_X9_11 dX9_settle_54 (fun h6 => ?_)
      refine G_X5_numbers C h6 fl_X9_65 dX9_settle_57 ?_
      refine S_iconst C (2) dX9_settle_60 (by decide) ?_
      refine Lk_X5_numbers C h6 2 (by decide) dX9_settle_61 ?_
      refine S_icmp_gt C 89 dX9_settle_62 (by decide) ?_ ?_
      · refine S_iinc C 3 [(2, .int (x2 + 1)), (3, .int r3.1), (0, .ref (aC z 18)), (1, .int x1)] (x2 + 1) dX9_settle_89 rfl rfl (by decide) rfl ?_
        refine S_goto C 16 dX9_settle_92 (by decide) ?_
        exact S_sub [2, 3, 0] rfl (ih x1 (x2 + 1) σ5)
      · refine S_aload_n C 1 dX9_settle_65 rfl ?_
        refine G_X9_joined C fl_X9_29 dX9_settle_66 ?_
        refine S_iload_n C 2 dX9_settle_69 rfl ?_
        refine S_dup2 C dX9_settle_70 rfl rfl ?_
        refine L_X9_joined C dX9_settle_71 (fun _ => ?_)
        refine S_iconst C (1) dX9_settle_72 (by decide) ?_
        refine S_iload_n C 3 dX9_settle_73 rfl ?_
        refine S_ishl C dX9_settle_74 ?_
        refine S_ior C dX9_settle_75 ?_
        refine T_X9_joined C dX9_settle_76 (fun _ => ?_)
        refine S_bndS (fun σ7 _ => ?_)
        refine S_aload_n C 1 dX9_settle_77 rfl ?_
        refine G_X9_joined C fl_X9_29 dX9_settle_78 ?_
        refine S_iload_n C 3 dX9_settle_81 rfl ?_
        refine S_dup2 C dX9_settle_82 rfl rfl ?_
        refine L_X9_joined C dX9_settle_83 (fun _ => ?_)
        refine S_iconst C (1) dX9_settle_84 (by decide) ?_
        refine S_iload_n C 2 dX9_settle_85 rfl ?_
        refine S_ishl C dX9_settle_86 ?_
        refine S_ior C dX9_settle_87 ?_
        refine T_X9_joined C dX9_settle_88 (fun _ => ?_)
        refine S_bndS (fun σ8 _ => ?_)
        refine S_iinc C 3 [(2, .int (x2 + 1)), (3, .int r3.1), (0, .ref (aC z 18)), (1, .int x1)] (x2 + 1) dX9_settle_89 rfl rfl (by decide) rfl ?_
        refine S_goto C 16 dX9_settle_92 (by decide) ?_
        exact S_sub [2, 3, 0] rfl (ih x1 (x2 + 1) σ8)
set_option maxRecDepth 10000 in
theorem WT_X9_settle {x : MX} {z : ZT} (C : Cok x (wxC z) RX9 cX9_settle 4 none 3 76) (x1 : Int32) (σ : St) : Sim x (wxC z) 4 jV (X9_settle x1 σ) 0 [(0, .ref (aC z 18)), (1, .int x1)] [] σ := by
  rw [X9_settle]
  refine S_aload_n C 0 dX9_settle_0 rfl ?_
  refine S_iload_n C 1 dX9_settle_1 rfl ?_
  refine K_X9_hear C ml_X9_58 (by decide) (Nat.le_of_ble_eq_true rfl) dX9_settle_2 (fun σ1 => ?_)
  refine S_aload_n C 0 dX9_settle_5 rfl ?_
  refine G_X9_joined C fl_X9_29 dX9_settle_6 ?_
  refine S_iload_n C 1 dX9_settle_9 rfl ?_
  refine S_iconst C (1) dX9_settle_10 (by decide) ?_
  refine S_iload_n C 1 dX9_settle_11 rfl ?_
  refine S_ishl C dX9_settle_12 ?_
  refine T_X9_joined C dX9_settle_13 (fun _ => ?_)
  refine S_bndS (fun σ2 _ => ?_)
  refine S_iconst C (0) dX9_settle_14 (by decide) ?_
  refine S_istore_n C [(2, .int 0), (0, .ref (aC z 18)), (1, .int x1)] (i := 2) dX9_settle_15 rfl (by decide) rfl ?_
  exact S_sub [1, 2, 0] rfl (WT_X9_settle_L16 C FU x1 (0 : Int32) σ2)
set_option maxRecDepth 10000 in
theorem con_X9_settle (z : ZT) (l : Launch) (x1 : Int32) (σ : St) : ∀ ro, X9_settle x1 σ = some ro → Con (wxC z) l yX9_settle cX9_settle 4 none 3 76 [.ref (aC z 18), .int x1] σ (jV ro) :=
  fun ro hk => Con_of hk (by decide) (Nat.le_of_ble_eq_true rfl) (fun x hx C => WT_X9_settle C x1 σ)
set_option maxRecDepth 10000 in
theorem K_X9_settle {x : MX} {z : ZT} {own : String} {cc : ByteArray} {nL : Nat} {ret : Option FieldType} {fr lo : Nat} {ρ : Type} {inj : ρ → Option Value × St} {pc : Nat} {lv : List (Nat × Value)} {st : List Value} {σ : St} (C : Cok x (wxC z) own cc nL ret fr lo) {x1 : Int32} {index : Nat} (hl : Cond.methodLink own index yX9_settle ∈ gtb) (hR : 3 + 1 ≤ fr ∧ 8 + (4 + 11) + 76 ≤ lo) (hW : (st.map fun v => v.category).sum ≤ 8) (hd : decode cc pc = .ok (.invokevirtual index, 3)) {K : St → Option ρ} (h : ∀ v, Sim x (wxC z) nL inj (K v) (pc + 3) lv (st) v) : Sim x (wxC z) nL inj ((X9_settle x1 σ).bind K) pc lv (.int x1 :: .ref (aC z 18) :: st) σ :=
  S_callV C (As := [.int x1]) (q := 18) (inj1 := jV) mw_X9_settle mv_X9_settle hl (fun ro hro => con_X9_settle z (mL x) x1 σ ro hro) hR rfl (show 18 < 59 by decide) rfl (ce_X9 z σ) rfl rfl hW hd h
set_option maxRecDepth 10000 in
theorem WT_X9_append {x : MX} {z : ZT} (C : Cok x (wxC z) RX9 cX9_append 3 (some .int) 4 99) (x1 : Int64) (σ : St) : Sim x (wxC z) 3 jIS (X9_append x1 σ) 0 [(0, .ref (aC z 18)), (1, .long x1)] [] σ := by
  rw [X9_append]
  refine S_aload_n C 0 dX9_append_0 rfl ?_
  refine G_X9_size C fl_X9_47 dX9_append_1 ?_
  refine S_bipush C (16) dX9_append_4 (by decide) ?_
  refine S_icmp_lt C 12 dX9_append_6 (by decide) ?_ ?_
  · refine S_aload_n C 0 dX9_append_12 rfl ?_
    refine G_X9_letters C fl_X9_15 dX9_append_13 ?_
    refine S_aload_n C 0 dX9_append_16 rfl ?_
    refine G_X9_size C fl_X9_47 dX9_append_17 ?_
    refine S_lload_n C 1 dX9_append_20 rfl ?_
    refine T_X9_letters C dX9_append_21 (fun _ => ?_)
    refine S_bndS (fun σ1 _ => ?_)
    refine S_aload_n C 0 dX9_append_22 rfl ?_
    refine S_dup C dX9_append_23 rfl ?_
    refine G_X9_size C fl_X9_47 dX9_append_24 ?_
    refine S_iconst C (1) dX9_append_27 (by decide) ?_
    refine S_iadd C dX9_append_28 ?_
    refine P_X9_size C fl_X9_47 dX9_append_29 ?_
    refine S_bndS (fun σ2 _ => ?_)
    refine S_aload_n C 0 dX9_append_32 rfl ?_
    refine S_aload_n C 0 dX9_append_33 rfl ?_
    refine G_X9_size C fl_X9_47 dX9_append_34 ?_
    refine S_iconst C (1) dX9_append_37 (by decide) ?_
    refine S_isub C dX9_append_38 ?_
    refine K_X9_settle C ml_X9_51 (by decide) (Nat.le_of_ble_eq_true rfl) dX9_append_39 (fun σ3 => ?_)
    refine S_aload_n C 0 dX9_append_42 rfl ?_
    refine K_X9_nameAll C ml_X9_55 (by decide) (Nat.le_of_ble_eq_true rfl) dX9_append_43 (fun σ4 => ?_)
    refine S_aload_n C 0 dX9_append_46 rfl ?_
    refine G_X9_size C fl_X9_47 dX9_append_47 ?_
    refine S_iconst C (1) dX9_append_50 (by decide) ?_
    refine S_isub C dX9_append_51 ?_
    exact S_iret C rfl dX9_append_52
  · refine S_bipush C (-3) dX9_append_9 (by decide) ?_
    exact S_iret C rfl dX9_append_11
set_option maxRecDepth 10000 in
theorem con_X9_append (z : ZT) (l : Launch) (x1 : Int64) (σ : St) : ∀ ro, X9_append x1 σ = some ro → Con (wxC z) l yX9_append cX9_append 3 (some .int) 4 99 [.ref (aC z 18), .long x1] σ (jIS ro) :=
  fun ro hk => Con_of hk (by decide) (Nat.le_of_ble_eq_true rfl) (fun x hx C => WT_X9_append C x1 σ)
set_option maxRecDepth 10000 in
theorem K_X9_append {x : MX} {z : ZT} {own : String} {cc : ByteArray} {nL : Nat} {ret : Option FieldType} {fr lo : Nat} {ρ : Type} {inj : ρ → Option Value × St} {pc : Nat} {lv : List (Nat × Value)} {st : List Value} {σ : St} (C : Cok x (wxC z) own cc nL ret fr lo) {x1 : Int64} {index : Nat} (hl : Cond.methodLink own index yX9_append ∈ gtb) (hR : 4 + 1 ≤ fr ∧ 8 + (3 + 11) + 99 ≤ lo) (hW : (st.map fun v => v.category).sum ≤ 8) (hd : decode cc pc = .ok (.invokevirtual index, 3)) {K : (Int32 × St) → Option ρ} (h : ∀ v, Sim x (wxC z) nL inj (K v) (pc + 3) lv (.int v.1 :: st) v.2) : Sim x (wxC z) nL inj ((X9_append x1 σ).bind K) pc lv (.long x1 :: .ref (aC z 18) :: st) σ :=
  S_callV C (As := [.long x1]) (q := 18) (inj1 := jIS) mw_X9_append mv_X9_append hl (fun ro hro => con_X9_append z (mL x) x1 σ ro hro) hR rfl (show 18 < 59 by decide) rfl (ce_X9 z σ) rfl rfl hW hd h
set_option maxRecDepth 10000 in
theorem WT_X9_follow_L7 {x : MX} {z : ZT} (C : Cok x (wxC z) RX9 cX9_follow 3 none 4 99) (t1 : Nat) (ht1 : t1 < 2) : ∀ (n : Nat) (x2 : Int32) (σ : St), Sim x (wxC z) 3 jV (X9_follow_L7 t1 n x2 σ) 7 [(0, .ref (aC z 18)), (2, .int x2)] [] σ := by
  intro n
  induction n with
  | zero =>
    intros
    exact S_none
  | succ n ih =>
    intro x2 σ
    rw [X9_follow_L7]
    refine S_iload_n C 1 dX9_follow_7 rfl ?_
    refine S_aload_n C 0 dX9_follow_8 rfl ?_
    refine G_X9_size C fl_X9_47 dX9_follow_9 ?_
    refine S_icmp_ge C 26 dX9_follow_12 (by decide) ?_ ?_
    · refine S_aload_n C 0 dX9_follow_26 rfl ?_
      refine K_X9_nameAll C ml_X9_55 (by decide) (Nat.le_of_ble_eq_true rfl) dX9_follow_27 (fun σ2 => ?_)
      exact S_vret C rfl dX9_follow_30
    · refine S_aload_n C 0 dX9_follow_15 rfl ?_
      refine S_iload_n C 1 dX9_follow_16 rfl ?_
      refine K_X9_settle C ml_X9_51 (by decide) (Nat.le_of_ble_eq_true rfl) dX9_follow_17 (fun σ3 => ?_)
      refine S_iinc C 1 [(2, .int (x2 + 1)), (0, .ref (aC z 18))] (x2 + 1) dX9_follow_20 rfl rfl (by decide) rfl ?_
      refine S_goto C 7 dX9_follow_23 (by decide) ?_
      exact S_sub [1, 0] rfl (ih (x2 + 1) σ3)
set_option maxRecDepth 10000 in
theorem WT_X9_follow {x : MX} {z : ZT} (C : Cok x (wxC z) RX9 cX9_follow 3 none 4 99) (t1 : Nat) (σ : St) (ht1 : t1 < 2) : Sim x (wxC z) 3 jV (X9_follow t1 σ) 0 [(0, .ref (aC z 18)), (1, .ref (aC z (4 + t1)))] [] σ := by
  rw [X9_follow]
  refine S_aload_n C 0 dX9_follow_0 rfl ?_
  refine S_aload_n C 1 dX9_follow_1 rfl ?_
  refine P_X9_rules C ht1 fl_X9_11 dX9_follow_2 ?_
  refine S_bndS (fun σ1 _ => ?_)
  refine S_iconst C (0) dX9_follow_5 (by decide) ?_
  refine S_istore_n C [(2, .int 0), (0, .ref (aC z 18)), (1, .ref (aC z (4 + t1)))] (i := 2) dX9_follow_6 rfl (by decide) rfl ?_
  exact S_sub [1, 0] rfl (WT_X9_follow_L7 C t1 ht1 FU (0 : Int32) σ1)
set_option maxRecDepth 10000 in
theorem con_X9_follow (z : ZT) (l : Launch) (t1 : Nat) (σ : St) (ht1 : t1 < 2) : ∀ ro, X9_follow t1 σ = some ro → Con (wxC z) l yX9_follow cX9_follow 3 none 4 99 [.ref (aC z 18), .ref (aC z (4 + t1))] σ (jV ro) :=
  fun ro hk => Con_of hk (by decide) (Nat.le_of_ble_eq_true rfl) (fun x hx C => WT_X9_follow C t1 σ ht1)
set_option maxRecDepth 10000 in
theorem K_X9_follow {x : MX} {z : ZT} {own : String} {cc : ByteArray} {nL : Nat} {ret : Option FieldType} {fr lo : Nat} {ρ : Type} {inj : ρ → Option Value × St} {pc : Nat} {lv : List (Nat × Value)} {st : List Value} {σ : St} (C : Cok x (wxC z) own cc nL ret fr lo) {t1 : Nat} (ht1 : t1 < 2) {index : Nat} (hl : Cond.methodLink own index yX9_follow ∈ gtb) (hR : 4 + 1 ≤ fr ∧ 8 + (3 + 11) + 99 ≤ lo) (hW : (st.map fun v => v.category).sum ≤ 8) (hd : decode cc pc = .ok (.invokevirtual index, 3)) {K : St → Option ρ} (h : ∀ v, Sim x (wxC z) nL inj (K v) (pc + 3) lv (st) v) : Sim x (wxC z) nL inj ((X9_follow t1 σ).bind K) pc lv (.ref (aC z (4 + t1)) :: .ref (aC z 18) :: st) σ :=
  S_callV C (As := [.ref (aC z (4 + t1))]) (q := 18) (inj1 := jV) mw_X9_follow mv_X9_follow hl (fun ro hro => con_X9_follow z (mL x) t1 σ ht1 ro hro) hR rfl (show 18 < 59 by decide) rfl (ce_X9 z σ) rfl rfl hW hd h
set_option maxRecDepth 10000 in
theorem WT_X9_soundOf_L5 {x : MX} {z : ZT} (C : Cok x (wxC z) RX9 cX9_soundOf 5 (some .long) 0 0) (σ : St) : ∀ (n : Nat) (x1 : Int32) (x2 : Int64) (x4 : Int32), Sim x (wxC z) 5 (jL σ) (X9_soundOf_L5 σ n x1 x2 x4) 5 [(0, .ref (aC z 18)), (1, .int x1), (2, .long x2), (4, .int x4)] [] σ := by
  intro n
  induction n with
  | zero =>
    intros
    exact S_none
  | succ n ih =>
    intro x1 x2 x4
    rw [X9_soundOf_L5]
    refine S_iload C 3 dX9_soundOf_5 rfl ?_
    refine S_aload_n C 0 dX9_soundOf_7 rfl ?_
    refine G_X9_soundCounts C fl_X9_23 dX9_soundOf_8 ?_
    refine S_iload_n C 1 dX9_soundOf_11 rfl ?_
    refine L_X9_soundCounts C dX9_soundOf_12 (fun _ => ?_)
    refine S_icmp_ge C 44 dX9_soundOf_13 (by decide) ?_ ?_
    · refine S_lload_n C 2 dX9_soundOf_44 rfl ?_
      exact S_lret C rfl dX9_soundOf_45
    · refine S_lload_n C 2 dX9_soundOf_16 rfl ?_
      refine S_iconst C (5) dX9_soundOf_17 (by decide) ?_
      refine S_lshl C dX9_soundOf_18 ?_
      refine S_aload_n C 0 dX9_soundOf_19 rfl ?_
      refine G_X9_soundRows C fl_X9_19 dX9_soundOf_20 ?_
      refine S_iload_n C 1 dX9_soundOf_23 rfl ?_
      refine S_bipush C (20) dX9_soundOf_24 (by decide) ?_
      refine S_imul C dX9_soundOf_26 ?_
      refine S_iload C 3 dX9_soundOf_27 rfl ?_
      refine S_iadd C dX9_soundOf_29 ?_
      refine L_X9_soundRows C dX9_soundOf_30 (fun _ => ?_)
      refine S_i2l C dX9_soundOf_31 ?_
      refine S_lor C dX9_soundOf_32 ?_
      refine S_ldc2 C (1152921504606846975) kl_X9_70 dX9_soundOf_33 ?_
      refine S_land C dX9_soundOf_36 ?_
      refine S_bndTL (fun x2_1 _ => ?_)
      refine S_lstore_n C [(2, .long x2_1), (0, .ref (aC z 18)), (1, .int x1), (4, .int x4)] (i := 2) dX9_soundOf_37 rfl (by decide) rfl ?_
      refine S_iinc C 3 [(4, .int (x4 + 1)), (2, .long x2_1), (0, .ref (aC z 18)), (1, .int x1)] (x4 + 1) dX9_soundOf_38 rfl rfl (by decide) rfl ?_
      refine S_goto C 5 dX9_soundOf_41 (by decide) ?_
      exact S_sub [2, 3, 1, 0] rfl (ih x1 x2_1 (x4 + 1))
set_option maxRecDepth 10000 in
theorem WT_X9_soundOf {x : MX} {z : ZT} (C : Cok x (wxC z) RX9 cX9_soundOf 5 (some .long) 0 0) (x1 : Int32) (σ : St) : Sim x (wxC z) 5 (jL σ) (X9_soundOf x1 σ) 0 [(0, .ref (aC z 18)), (1, .int x1)] [] σ := by
  rw [X9_soundOf]
  refine S_lconst C (0) dX9_soundOf_0 (by decide) ?_
  refine S_lstore_n C [(2, .long 0), (0, .ref (aC z 18)), (1, .int x1)] (i := 2) dX9_soundOf_1 rfl (by decide) rfl ?_
  refine S_iconst C (0) dX9_soundOf_2 (by decide) ?_
  refine S_istore C [(4, .int 0), (2, .long 0), (0, .ref (aC z 18)), (1, .int x1)] dX9_soundOf_3 (by decide) rfl ?_
  exact S_sub [2, 3, 1, 0] rfl (WT_X9_soundOf_L5 C σ FU x1 (0 : Int64) (0 : Int32))
set_option maxRecDepth 10000 in
theorem con_X9_soundOf (z : ZT) (l : Launch) (x1 : Int32) (σ : St) : ∀ ro, X9_soundOf x1 σ = some ro → Con (wxC z) l yX9_soundOf cX9_soundOf 5 (some .long) 0 0 [.ref (aC z 18), .int x1] σ ((jL σ) ro) :=
  fun ro hk => Con_of hk (by decide) (Nat.le_of_ble_eq_true rfl) (fun x hx C => WT_X9_soundOf C x1 σ)
set_option maxRecDepth 10000 in
theorem K_X9_soundOf {x : MX} {z : ZT} {own : String} {cc : ByteArray} {nL : Nat} {ret : Option FieldType} {fr lo : Nat} {ρ : Type} {inj : ρ → Option Value × St} {pc : Nat} {lv : List (Nat × Value)} {st : List Value} {σ : St} (C : Cok x (wxC z) own cc nL ret fr lo) {x1 : Int32} {index : Nat} (hl : Cond.methodLink own index yX9_soundOf ∈ gtb) (hR : 0 + 1 ≤ fr ∧ 8 + (5 + 11) + 0 ≤ lo) (hW : (st.map fun v => v.category).sum ≤ 8) (hd : decode cc pc = .ok (.invokevirtual index, 3)) {K : Int64 → Option ρ} (h : ∀ v, Sim x (wxC z) nL inj (K v) (pc + 3) lv (.long v :: st) σ) : Sim x (wxC z) nL inj ((X9_soundOf x1 σ).bind K) pc lv (.int x1 :: .ref (aC z 18) :: st) σ :=
  S_callV C (As := [.int x1]) (q := 18) (inj1 := (jL σ)) mw_X9_soundOf mv_X9_soundOf hl (fun ro hro => con_X9_soundOf z (mL x) x1 σ ro hro) hR rfl (show 18 < 59 by decide) rfl (ce_X9 z σ) rfl rfl hW hd h
set_option maxRecDepth 10000 in
theorem WT_X9_apartOf {x : MX} {z : ZT} (C : Cok x (wxC z) RX9 cX9_apartOf 3 (some .int) 0 0) (x1 : Int32) (x2 : Int32) (σ : St) : Sim x (wxC z) 3 (jI σ) (X9_apartOf x1 x2 σ) 0 [(0, .ref (aC z 18)), (1, .int x1), (2, .int x2)] [] σ := by
  rw [X9_apartOf]
  refine S_aload_n C 0 dX9_apartOf_0 rfl ?_
  refine G_X9_aparts C fl_X9_26 dX9_apartOf_1 ?_
  refine S_iload_n C 1 dX9_apartOf_4 rfl ?_
  refine S_bipush C (16) dX9_apartOf_5 (by decide) ?_
  refine S_imul C dX9_apartOf_7 ?_
  refine S_iload_n C 2 dX9_apartOf_8 rfl ?_
  refine S_iadd C dX9_apartOf_9 ?_
  refine L_X9_aparts C dX9_apartOf_10 (fun _ => ?_)
  exact S_iret C rfl dX9_apartOf_11
set_option maxRecDepth 10000 in
theorem con_X9_apartOf (z : ZT) (l : Launch) (x1 : Int32) (x2 : Int32) (σ : St) : ∀ ro, X9_apartOf x1 x2 σ = some ro → Con (wxC z) l yX9_apartOf cX9_apartOf 3 (some .int) 0 0 [.ref (aC z 18), .int x1, .int x2] σ ((jI σ) ro) :=
  fun ro hk => Con_of hk (by decide) (Nat.le_of_ble_eq_true rfl) (fun x hx C => WT_X9_apartOf C x1 x2 σ)
set_option maxRecDepth 10000 in
theorem K_X9_apartOf {x : MX} {z : ZT} {own : String} {cc : ByteArray} {nL : Nat} {ret : Option FieldType} {fr lo : Nat} {ρ : Type} {inj : ρ → Option Value × St} {pc : Nat} {lv : List (Nat × Value)} {st : List Value} {σ : St} (C : Cok x (wxC z) own cc nL ret fr lo) {x1 : Int32} {x2 : Int32} {index : Nat} (hl : Cond.methodLink own index yX9_apartOf ∈ gtb) (hR : 0 + 1 ≤ fr ∧ 8 + (3 + 11) + 0 ≤ lo) (hW : (st.map fun v => v.category).sum ≤ 8) (hd : decode cc pc = .ok (.invokevirtual index, 3)) {K : Int32 → Option ρ} (h : ∀ v, Sim x (wxC z) nL inj (K v) (pc + 3) lv (.int v :: st) σ) : Sim x (wxC z) nL inj ((X9_apartOf x1 x2 σ).bind K) pc lv (.int x2 :: .int x1 :: .ref (aC z 18) :: st) σ :=
  S_callV C (As := [.int x1, .int x2]) (q := 18) (inj1 := (jI σ)) mw_X9_apartOf mv_X9_apartOf hl (fun ro hro => con_X9_apartOf z (mL x) x1 x2 σ ro hro) hR rfl (show 18 < 59 by decide) rfl (ce_X9 z σ) rfl rfl hW hd h
set_option maxRecDepth 10000 in
theorem WT_X9_howManyNames_L4 {x : MX} {z : ZT} (C : Cok x (wxC z) RX9 cX9_howManyNames 3 (some .int) 0 0) (σ : St) : ∀ (n : Nat) (x1 : Int32) (x2 : Int32), Sim x (wxC z) 3 (jI σ) (X9_howManyNames_L4 σ n x1 x2) 4 [(0, .ref (aC z 18)), (1, .int x1), (2, .int x2)] [] σ := by
  intro n
  induction n with
  | zero =>
    intros
    exact S_none
  | succ n ih =>
    intro x1 x2
    rw [X9_howManyNames_L4]
    refine S_iload_n C 2 dX9_howManyNames_4 rfl ?_
    refine S_aload_n C 0 dX9_howManyNames_5 rfl ?_
    refine G_X9_size C fl_X9_47 dX9_howManyNames_6 ?_
    refine S_icmp_ge C 31 dX9_howManyNames_9 (by decide) ?_ ?_
    · refine S_iload_n C 1 dX9_howManyNames_31 rfl ?_
      exact S_iret C rfl dX9_howManyNames_32
    · refine S_aload_n C 0 dX9_howManyNames_12 rfl ?_
      refine G_X9_names C fl_X9_32 dX9_howManyNames_13 ?_
      refine S_iload_n C 2 dX9_howManyNames_16 rfl ?_
      refine L_X9_names C dX9_howManyNames_17 (fun _ => ?_)
      refine S_iload_n C 2 dX9_howManyNames_18 rfl ?_
      refine S_icmp_ne C 25 dX9_howManyNames_19 (by decide) ?_ ?_
      · refine S_iinc C 2 [(2, .int (x2 + 1)), (0, .ref (aC z 18)), (1, .int x1)] (x2 + 1) dX9_howManyNames_25 rfl rfl (by decide) rfl ?_
        refine S_goto C 4 dX9_howManyNames_28 (by decide) ?_
        exact S_sub [1, 2, 0] rfl (ih x1 (x2 + 1))
      · refine S_iinc C 1 [(1, .int (x1 + 1)), (0, .ref (aC z 18)), (2, .int x2)] (x1 + 1) dX9_howManyNames_22 rfl rfl (by decide) rfl ?_
        refine S_iinc C 2 [(2, .int (x2 + 1)), (1, .int (x1 + 1)), (0, .ref (aC z 18))] (x2 + 1) dX9_howManyNames_25 rfl rfl (by decide) rfl ?_
        refine S_goto C 4 dX9_howManyNames_28 (by decide) ?_
        exact S_sub [2, 1, 0] rfl (ih (x1 + 1) (x2 + 1))
set_option maxRecDepth 10000 in
theorem WT_X9_howManyNames {x : MX} {z : ZT} (C : Cok x (wxC z) RX9 cX9_howManyNames 3 (some .int) 0 0)  (σ : St) : Sim x (wxC z) 3 (jI σ) (X9_howManyNames σ) 0 [(0, .ref (aC z 18))] [] σ := by
  rw [X9_howManyNames]
  refine S_iconst C (0) dX9_howManyNames_0 (by decide) ?_
  refine S_istore_n C [(1, .int 0), (0, .ref (aC z 18))] (i := 1) dX9_howManyNames_1 rfl (by decide) rfl ?_
  refine S_iconst C (0) dX9_howManyNames_2 (by decide) ?_
  refine S_istore_n C [(2, .int 0), (1, .int 0), (0, .ref (aC z 18))] (i := 2) dX9_howManyNames_3 rfl (by decide) rfl ?_
  exact S_sub [2, 1, 0] rfl (WT_X9_howManyNames_L4 C σ FU (0 : Int32) (0 : Int32))
set_option maxRecDepth 10000 in
theorem con_X9_howManyNames (z : ZT) (l : Launch)  (σ : St) : ∀ ro, X9_howManyNames σ = some ro → Con (wxC z) l yX9_howManyNames cX9_howManyNames 3 (some .int) 0 0 [.ref (aC z 18)] σ ((jI σ) ro) :=
  fun ro hk => Con_of hk (by decide) (Nat.le_of_ble_eq_true rfl) (fun x hx C => WT_X9_howManyNames C σ)
set_option maxRecDepth 10000 in
theorem K_X9_howManyNames {x : MX} {z : ZT} {own : String} {cc : ByteArray} {nL : Nat} {ret : Option FieldType} {fr lo : Nat} {ρ : Type} {inj : ρ → Option Value × St} {pc : Nat} {lv : List (Nat × Value)} {st : List Value} {σ : St} (C : Cok x (wxC z) own cc nL ret fr lo)  {index : Nat} (hl : Cond.methodLink own index yX9_howManyNames ∈ gtb) (hR : 0 + 1 ≤ fr ∧ 8 + (3 + 11) + 0 ≤ lo) (hW : (st.map fun v => v.category).sum ≤ 8) (hd : decode cc pc = .ok (.invokevirtual index, 3)) {K : Int32 → Option ρ} (h : ∀ v, Sim x (wxC z) nL inj (K v) (pc + 3) lv (.int v :: st) σ) : Sim x (wxC z) nL inj ((X9_howManyNames σ).bind K) pc lv (.ref (aC z 18) :: st) σ :=
  S_callV C (As := []) (q := 18) (inj1 := (jI σ)) mw_X9_howManyNames mv_X9_howManyNames hl (fun ro hro => con_X9_howManyNames z (mL x) σ ro hro) hR rfl (show 18 < 59 by decide) rfl (ce_X9 z σ) rfl rfl hW hd h
set_option maxRecDepth 10000 in
theorem WT_X9_costOver {x : MX} {z : ZT} (C : Cok x (wxC z) RX9 cX9_costOver 3 (some .int) 0 0) (x1 : Int32) (x2 : Int32) (σ : St) : Sim x (wxC z) 3 (jI σ) (X9_costOver x1 x2 σ) 0 [(0, .ref (aC z 18)), (1, .int x1), (2, .int x2)] [] σ := by
  rw [X9_costOver]
  refine S_aload_n C 0 dX9_costOver_0 rfl ?_
  refine G_X9_costs C fl_X9_35 dX9_costOver_1 ?_
  refine S_iload_n C 2 dX9_costOver_4 rfl ?_
  refine L_X9_costs C dX9_costOver_5 (fun _ => ?_)
  refine S_aload_n C 0 dX9_costOver_6 rfl ?_
  refine G_X9_aparts C fl_X9_26 dX9_costOver_7 ?_
  refine S_iload_n C 1 dX9_costOver_10 rfl ?_
  refine S_bipush C (16) dX9_costOver_11 (by decide) ?_
  refine S_imul C dX9_costOver_13 ?_
  refine S_iload_n C 2 dX9_costOver_14 rfl ?_
  refine S_iadd C dX9_costOver_15 ?_
  refine L_X9_aparts C dX9_costOver_16 (fun _ => ?_)
  refine S_bipush C (32) dX9_costOver_17 (by decide) ?_
  refine S_imul C dX9_costOver_19 ?_
  refine S_iadd C dX9_costOver_20 ?_
  refine S_iconst C (1) dX9_costOver_21 (by decide) ?_
  refine S_iadd C dX9_costOver_22 ?_
  exact S_iret C rfl dX9_costOver_23
set_option maxRecDepth 10000 in
theorem con_X9_costOver (z : ZT) (l : Launch) (x1 : Int32) (x2 : Int32) (σ : St) : ∀ ro, X9_costOver x1 x2 σ = some ro → Con (wxC z) l yX9_costOver cX9_costOver 3 (some .int) 0 0 [.ref (aC z 18), .int x1, .int x2] σ ((jI σ) ro) :=
  fun ro hk => Con_of hk (by decide) (Nat.le_of_ble_eq_true rfl) (fun x hx C => WT_X9_costOver C x1 x2 σ)
set_option maxRecDepth 10000 in
theorem K_X9_costOver {x : MX} {z : ZT} {own : String} {cc : ByteArray} {nL : Nat} {ret : Option FieldType} {fr lo : Nat} {ρ : Type} {inj : ρ → Option Value × St} {pc : Nat} {lv : List (Nat × Value)} {st : List Value} {σ : St} (C : Cok x (wxC z) own cc nL ret fr lo) {x1 : Int32} {x2 : Int32} {index : Nat} (hl : Cond.methodLink own index yX9_costOver ∈ gtb) (hR : 0 + 1 ≤ fr ∧ 8 + (3 + 11) + 0 ≤ lo) (hW : (st.map fun v => v.category).sum ≤ 8) (hd : decode cc pc = .ok (.invokevirtual index, 3)) {K : Int32 → Option ρ} (h : ∀ v, Sim x (wxC z) nL inj (K v) (pc + 3) lv (.int v :: st) σ) : Sim x (wxC z) nL inj ((X9_costOver x1 x2 σ).bind K) pc lv (.int x2 :: .int x1 :: .ref (aC z 18) :: st) σ :=
  S_callV C (As := [.int x1, .int x2]) (q := 18) (inj1 := (jI σ)) mw_X9_costOver mv_X9_costOver hl (fun ro hro => con_X9_costOver z (mL x) x1 x2 σ ro hro) hR rfl (show 18 < 59 by decide) rfl (ce_X9 z σ) rfl rfl hW hd h
set_option maxRecDepth 10000 in
theorem WT_X9_cheapestStep_L5 {x : MX} {z : ZT} (C : Cok x (wxC z) RX9 cX9_cheapestStep 4 (some .int) 1 22) (σ : St) : ∀ (n : Nat) (x1 : Int32) (x2 : Int32) (x3 : Int32), Sim x (wxC z) 4 (jI σ) (X9_cheapestStep_L5 σ n x1 x2 x3) 5 [(0, .ref (aC z 18)), (1, .int x1), (2, .int x2), (3, .int x3)] [] σ := by
  intro n
  induction n with
  | zero =>
    intros
    exact S_none
  | succ n ih =>
    intro x1 x2 x3
    rw [X9_cheapestStep_L5]
    refine S_iload_n C 3 dX9_cheapestStep_5 rfl ?_
    refine S_aload_n C 0 dX9_cheapestStep_6 rfl ?_
    refine G_X9_size C fl_X9_47 dX9_cheapestStep_7 ?_
    refine S_icmp_ge C 49 dX9_cheapestStep_10 (by decide) ?_ ?_
    · refine S_iload_n C 2 dX9_cheapestStep_49 rfl ?_
      exact S_iret C rfl dX9_cheapestStep_50
    · refine S_iload_n C 3 dX9_cheapestStep_13 rfl ?_
      refine S_iload_n C 1 dX9_cheapestStep_14 rfl ?_
      refine S_icmp_eq C 43 dX9_cheapestStep_15 (by decide) ?_ ?_
      · refine S_iinc C 3 [(3, .int (x3 + 1)), (0, .ref (aC z 18)), (1, .int x1), (2, .int x2)] (x3 + 1) dX9_cheapestStep_43 rfl rfl (by decide) rfl ?_
        refine S_goto C 5 dX9_cheapestStep_46 (by decide) ?_
        exact S_sub [1, 2, 3, 0] rfl (ih x1 x2 (x3 + 1))
      · refine S_aload_n C 0 dX9_cheapestStep_18 rfl ?_
        refine G_X9_joined C fl_X9_29 dX9_cheapestStep_19 ?_
        refine S_iload_n C 1 dX9_cheapestStep_22 rfl ?_
        refine L_X9_joined C dX9_cheapestStep_23 (fun _ => ?_)
        refine S_iload_n C 3 dX9_cheapestStep_24 rfl ?_
        refine S_ishr C dX9_cheapestStep_25 ?_
        refine S_iconst C (1) dX9_cheapestStep_26 (by decide) ?_
        refine S_iand C dX9_cheapestStep_27 ?_
        refine S_iconst C (1) dX9_cheapestStep_28 (by decide) ?_
        refine S_icmp_ne C 43 dX9_cheapestStep_29 (by decide) ?_ ?_
        · refine S_iinc C 3 [(3, .int (x3 + 1)), (0, .ref (aC z 18)), (1, .int x1), (2, .int x2)] (x3 + 1) dX9_cheapestStep_43 rfl rfl (by decide) rfl ?_
          refine S_goto C 5 dX9_cheapestStep_46 (by decide) ?_
          exact S_sub [1, 2, 3, 0] rfl (ih x1 x2 (x3 + 1))
        · refine S_iload_n C 2 dX9_cheapestStep_32 rfl ?_
          refine S_aload_n C 0 dX9_cheapestStep_33 rfl ?_
          refine S_iload_n C 1 dX9_cheapestStep_34 rfl ?_
          refine S_iload_n C 3 dX9_cheapestStep_35 rfl ?_
          refine K_X9_costOver C ml_X9_115 (by decide) (Nat.le_of_ble_eq_true rfl) dX9_cheapestStep_36 (fun v1 => ?_)
          refine K_J9_min_7cf53 C ml_X9_92 (by decide) (Nat.le_of_ble_eq_true rfl) dX9_cheapestStep_39 (fun v2 => ?_)
          refine S_istore_n C [(2, .int v2), (0, .ref (aC z 18)), (1, .int x1), (3, .int x3)] (i := 2) dX9_cheapestStep_42 rfl (by decide) rfl ?_
          refine S_iinc C 3 [(3, .int (x3 + 1)), (2, .int v2), (0, .ref (aC z 18)), (1, .int x1)] (x3 + 1) dX9_cheapestStep_43 rfl rfl (by decide) rfl ?_
          refine S_goto C 5 dX9_cheapestStep_46 (by decide) ?_
          exact S_sub [2, 3, 1, 0] rfl (ih x1 v2 (x3 + 1))
set_option maxRecDepth 10000 in
theorem WT_X9_cheapestStep {x : MX} {z : ZT} (C : Cok x (wxC z) RX9 cX9_cheapestStep 4 (some .int) 1 22) (x1 : Int32) (σ : St) : Sim x (wxC z) 4 (jI σ) (X9_cheapestStep x1 σ) 0 [(0, .ref (aC z 18)), (1, .int x1)] [] σ := by
  rw [X9_cheapestStep]
  refine S_ldc C (1048576) kc_X9_105 dX9_cheapestStep_0 ?_
  refine S_istore_n C [(2, .int 1048576), (0, .ref (aC z 18)), (1, .int x1)] (i := 2) dX9_cheapestStep_2 rfl (by decide) rfl ?_
  refine S_iconst C (0) dX9_cheapestStep_3 (by decide) ?_
  refine S_istore_n C [(3, .int 0), (2, .int 1048576), (0, .ref (aC z 18)), (1, .int x1)] (i := 3) dX9_cheapestStep_4 rfl (by decide) rfl ?_
  exact S_sub [2, 3, 1, 0] rfl (WT_X9_cheapestStep_L5 C σ FU x1 (1048576 : Int32) (0 : Int32))
set_option maxRecDepth 10000 in
theorem con_X9_cheapestStep (z : ZT) (l : Launch) (x1 : Int32) (σ : St) : ∀ ro, X9_cheapestStep x1 σ = some ro → Con (wxC z) l yX9_cheapestStep cX9_cheapestStep 4 (some .int) 1 22 [.ref (aC z 18), .int x1] σ ((jI σ) ro) :=
  fun ro hk => Con_of hk (by decide) (Nat.le_of_ble_eq_true rfl) (fun x hx C => WT_X9_cheapestStep C x1 σ)
set_option maxRecDepth 10000 in
theorem K_X9_cheapestStep {x : MX} {z : ZT} {own : String} {cc : ByteArray} {nL : Nat} {ret : Option FieldType} {fr lo : Nat} {ρ : Type} {inj : ρ → Option Value × St} {pc : Nat} {lv : List (Nat × Value)} {st : List Value} {σ : St} (C : Cok x (wxC z) own cc nL ret fr lo) {x1 : Int32} {index : Nat} (hl : Cond.methodLink own index yX9_cheapestStep ∈ gtb) (hR : 1 + 1 ≤ fr ∧ 8 + (4 + 11) + 22 ≤ lo) (hW : (st.map fun v => v.category).sum ≤ 8) (hd : decode cc pc = .ok (.invokevirtual index, 3)) {K : Int32 → Option ρ} (h : ∀ v, Sim x (wxC z) nL inj (K v) (pc + 3) lv (.int v :: st) σ) : Sim x (wxC z) nL inj ((X9_cheapestStep x1 σ).bind K) pc lv (.int x1 :: .ref (aC z 18) :: st) σ :=
  S_callV C (As := [.int x1]) (q := 18) (inj1 := (jI σ)) mw_X9_cheapestStep mv_X9_cheapestStep hl (fun ro hro => con_X9_cheapestStep z (mL x) x1 σ ro hro) hR rfl (show 18 < 59 by decide) rfl (ce_X9 z σ) rfl rfl hW hd h
set_option maxRecDepth 10000 in
theorem WT_X9_walkTo_L35 {x : MX} {z : ZT} (C : Cok x (wxC z) RX9 cX9_walkTo 6 none 2 45) (kq20 : Int32 → Int32 → St → Option St) (hk20 : ∀ (x2 : Int32) (x3 : Int32) (σ : St), Sim x (wxC z) 6 jV (kq20 x2 x3 σ) 20 [(0, .ref (aC z 18)), (2, .int x2), (3, .int x3)] [] σ) : ∀ (n : Nat) (x2 : Int32) (x3 : Int32) (x4 : Int32) (σ : St), Sim x (wxC z) 6 jV (X9_walkTo_L35 kq20 n x2 x3 x4 σ) 35 [(0, .ref (aC z 18)), (2, .int x2), (3, .int x3), (4, .int x4)] [] σ := by
  intro n
  induction n with
  | zero =>
    intros
    exact S_none
  | succ n ih =>
    intro x2 x3 x4 σ
    rw [X9_walkTo_L35]
    refine S_iload C 3 dX9_walkTo_35 rfl ?_
    refine S_aload_n C 0 dX9_walkTo_37 rfl ?_
    refine G_X9_size C fl_X9_47 dX9_walkTo_38 ?_
    refine S_icmp_ge C 81 dX9_walkTo_41 (by decide) ?_ ?_
    · refine S_iinc C 2 [(3, .int (x3 + 1)), (0, .ref (aC z 18)), (2, .int x2), (4, .int x4)] (x3 + 1) dX9_walkTo_81 rfl rfl (by decide) rfl ?_
      refine S_goto C 20 dX9_walkTo_84 (by decide) ?_
      exact S_sub [1, 2, 0] rfl (hk20 x2 (x3 + 1) σ)
    · refine S_aload_n C 0 dX9_walkTo_44 rfl ?_
      refine S_iload C 3 dX9_walkTo_45 rfl ?_
      refine K_X9_cheapestStep C ml_X9_112 (by decide) (Nat.le_of_ble_eq_true rfl) dX9_walkTo_47 (fun v3 => ?_)
      refine S_istore C [(5, .int v3), (0, .ref (aC z 18)), (2, .int x2), (3, .int x3), (4, .int x4)] dX9_walkTo_50 (by decide) rfl ?_
      refine S_iload C 0 dX9_walkTo_52 rfl ?_
      refine S_aload_n C 1 dX9_walkTo_54 rfl ?_
      refine G_X9_costs C fl_X9_35 dX9_walkTo_55 ?_
      refine S_iload C 4 dX9_walkTo_58 rfl ?_
      refine L_X9_costs C dX9_walkTo_60 (fun _ => ?_)
      refine S_icmp_ge C 75 dX9_walkTo_61 (by decide) ?_ ?_
      · refine S_iinc C 4 [(4, .int (x4 + 1)), (5, .int v3), (0, .ref (aC z 18)), (2, .int x2), (3, .int x3)] (x4 + 1) dX9_walkTo_75 rfl rfl (by decide) rfl ?_
        refine S_goto C 35 dX9_walkTo_78 (by decide) ?_
        exact S_sub [2, 3, 4, 0] rfl (ih x2 x3 (x4 + 1) σ)
      · refine S_aload_n C 1 dX9_walkTo_64 rfl ?_
        refine G_X9_costs C fl_X9_35 dX9_walkTo_65 ?_
        refine S_iload C 4 dX9_walkTo_68 rfl ?_
        refine S_iload C 0 dX9_walkTo_70 rfl ?_
        refine T_X9_costs C dX9_walkTo_72 (fun _ => ?_)
        refine S_bndS (fun σ4 _ => ?_)
        refine S_iconst C (1) dX9_walkTo_73 (by decide) ?_
        refine S_istore_n C [(2, .int 1), (5, .int v3), (0, .ref (aC z 18)), (3, .int x3), (4, .int x4)] (i := 2) dX9_walkTo_74 rfl (by decide) rfl ?_
        refine S_iinc C 4 [(4, .int (x4 + 1)), (2, .int 1), (5, .int v3), (0, .ref (aC z 18)), (3, .int x3)] (x4 + 1) dX9_walkTo_75 rfl rfl (by decide) rfl ?_
        refine S_goto C 35 dX9_walkTo_78 (by decide) ?_
        exact S_sub [3, 1, 4, 0] rfl (ih (1 : Int32) x3 (x4 + 1) σ4)
set_option maxRecDepth 10000 in
theorem WT_X9_walkTo_L20 {x : MX} {z : ZT} (C : Cok x (wxC z) RX9 cX9_walkTo 6 none 2 45) : ∀ (n : Nat) (x2 : Int32) (x3 : Int32) (σ : St), Sim x (wxC z) 6 jV (X9_walkTo_L20 n x2 x3 σ) 20 [(0, .ref (aC z 18)), (2, .int x2), (3, .int x3)] [] σ := by
  intro n
  induction n with
  | zero =>
    intros
    exact S_none
  | succ n ih =>
    intro x2 x3 σ
    rw [X9_walkTo_L20]
    refine S_iload_n C 2 dX9_walkTo_20 rfl ?_
    refine S_bipush C (16) dX9_walkTo_21 (by decide) ?_
    refine S_icmp_ge C 87 dX9_walkTo_23 (by decide) ?_ ?_
    · exact S_vret C rfl dX9_walkTo_87
    · refine S_iload_n C 1 dX9_walkTo_26 rfl ?_
      refine S_if_eq C 87 dX9_walkTo_27 (by decide) ?_ ?_
      · exact S_vret C rfl dX9_walkTo_87
      · refine S_iconst C (0) dX9_walkTo_30 (by decide) ?_
        refine S_istore_n C [(2, .int 0), (0, .ref (aC z 18)), (3, .int x3)] (i := 2) dX9_walkTo_31 rfl (by decide) rfl ?_
        refine S_iconst C (0) dX9_walkTo_32 (by decide) ?_
        refine S_istore C [(4, .int 0), (2, .int 0), (0, .ref (aC z 18)), (3, .int x3)] dX9_walkTo_33 (by decide) rfl ?_
        exact S_sub [2, 1, 3, 0] rfl (WT_X9_walkTo_L35 C _ ih FU (0 : Int32) x3 (0 : Int32) σ)
set_option maxRecDepth 10000 in
theorem WT_X9_walkTo {x : MX} {z : ZT} (C : Cok x (wxC z) RX9 cX9_walkTo 6 none 2 45) (x1 : Int32) (σ : St) : Sim x (wxC z) 6 jV (X9_walkTo x1 σ) 0 [(0, .ref (aC z 18)), (1, .int x1)] [] σ := by
  rw [X9_walkTo]
  refine S_aload_n C 0 dX9_walkTo_0 rfl ?_
  refine G_X9_costs C fl_X9_35 dX9_walkTo_1 ?_
  refine S_ldc C (1048576) kc_X9_105 dX9_walkTo_4 ?_
  refine K_J7_fill_53178 C (by decide) (ca_X9_costs z) ml_X9_106 (by decide) (Nat.le_of_ble_eq_true rfl) dX9_walkTo_6 (fun σ1 => ?_)
  refine S_aload_n C 0 dX9_walkTo_9 rfl ?_
  refine G_X9_costs C fl_X9_35 dX9_walkTo_10 ?_
  refine S_iload_n C 1 dX9_walkTo_13 rfl ?_
  refine S_iconst C (0) dX9_walkTo_14 (by decide) ?_
  refine T_X9_costs C dX9_walkTo_15 (fun _ => ?_)
  refine S_bndS (fun σ2 _ => ?_)
  refine S_iconst C (1) dX9_walkTo_16 (by decide) ?_
  refine S_istore_n C [(2, .int 1), (0, .ref (aC z 18)), (1, .int x1)] (i := 2) dX9_walkTo_17 rfl (by decide) rfl ?_
  refine S_iconst C (0) dX9_walkTo_18 (by decide) ?_
  refine S_istore_n C [(3, .int 0), (2, .int 1), (0, .ref (aC z 18)), (1, .int x1)] (i := 3) dX9_walkTo_19 rfl (by decide) rfl ?_
  exact S_sub [2, 1, 0] rfl (WT_X9_walkTo_L20 C FU (1 : Int32) (0 : Int32) σ2)
set_option maxRecDepth 10000 in
theorem con_X9_walkTo (z : ZT) (l : Launch) (x1 : Int32) (σ : St) : ∀ ro, X9_walkTo x1 σ = some ro → Con (wxC z) l yX9_walkTo cX9_walkTo 6 none 2 45 [.ref (aC z 18), .int x1] σ (jV ro) :=
  fun ro hk => Con_of hk (by decide) (Nat.le_of_ble_eq_true rfl) (fun x hx C => WT_X9_walkTo C x1 σ)
set_option maxRecDepth 10000 in
theorem K_X9_walkTo {x : MX} {z : ZT} {own : String} {cc : ByteArray} {nL : Nat} {ret : Option FieldType} {fr lo : Nat} {ρ : Type} {inj : ρ → Option Value × St} {pc : Nat} {lv : List (Nat × Value)} {st : List Value} {σ : St} (C : Cok x (wxC z) own cc nL ret fr lo) {x1 : Int32} {index : Nat} (hl : Cond.methodLink own index yX9_walkTo ∈ gtb) (hR : 2 + 1 ≤ fr ∧ 8 + (6 + 11) + 45 ≤ lo) (hW : (st.map fun v => v.category).sum ≤ 8) (hd : decode cc pc = .ok (.invokevirtual index, 3)) {K : St → Option ρ} (h : ∀ v, Sim x (wxC z) nL inj (K v) (pc + 3) lv (st) v) : Sim x (wxC z) nL inj ((X9_walkTo x1 σ).bind K) pc lv (.int x1 :: .ref (aC z 18) :: st) σ :=
  S_callV C (As := [.int x1]) (q := 18) (inj1 := jV) mw_X9_walkTo mv_X9_walkTo hl (fun ro hro => con_X9_walkTo z (mL x) x1 σ ro hro) hR rfl (show 18 < 59 by decide) rfl (ce_X9 z σ) rfl rfl hW hd h
set_option maxRecDepth 10000 in
theorem WT_X9_chainLength {x : MX} {z : ZT} (C : Cok x (wxC z) RX9 cX9_chainLength 2 (some .int) 0 0) (x1 : Int32) (σ : St) : Sim x (wxC z) 2 (jI σ) (X9_chainLength x1 σ) 0 [(0, .ref (aC z 18)), (1, .int x1)] [] σ := by
  rw [X9_chainLength]
  refine S_aload_n C 0 dX9_chainLength_0 rfl ?_
  refine G_X9_costs C fl_X9_35 dX9_chainLength_1 ?_
  refine S_iload_n C 1 dX9_chainLength_4 rfl ?_
  refine L_X9_costs C dX9_chainLength_5 (fun _ => ?_)
  refine S_bipush C (32) dX9_chainLength_6 (by decide) ?_
  refine S_irem_k C (by decide) dX9_chainLength_8 ?_
  refine S_iconst C (1) dX9_chainLength_9 (by decide) ?_
  refine S_iadd C dX9_chainLength_10 ?_
  exact S_iret C rfl dX9_chainLength_11
set_option maxRecDepth 10000 in
theorem con_X9_chainLength (z : ZT) (l : Launch) (x1 : Int32) (σ : St) : ∀ ro, X9_chainLength x1 σ = some ro → Con (wxC z) l yX9_chainLength cX9_chainLength 2 (some .int) 0 0 [.ref (aC z 18), .int x1] σ ((jI σ) ro) :=
  fun ro hk => Con_of hk (by decide) (Nat.le_of_ble_eq_true rfl) (fun x hx C => WT_X9_chainLength C x1 σ)
set_option maxRecDepth 10000 in
theorem K_X9_chainLength {x : MX} {z : ZT} {own : String} {cc : ByteArray} {nL : Nat} {ret : Option FieldType} {fr lo : Nat} {ρ : Type} {inj : ρ → Option Value × St} {pc : Nat} {lv : List (Nat × Value)} {st : List Value} {σ : St} (C : Cok x (wxC z) own cc nL ret fr lo) {x1 : Int32} {index : Nat} (hl : Cond.methodLink own index yX9_chainLength ∈ gtb) (hR : 0 + 1 ≤ fr ∧ 8 + (2 + 11) + 0 ≤ lo) (hW : (st.map fun v => v.category).sum ≤ 8) (hd : decode cc pc = .ok (.invokevirtual index, 3)) {K : Int32 → Option ρ} (h : ∀ v, Sim x (wxC z) nL inj (K v) (pc + 3) lv (.int v :: st) σ) : Sim x (wxC z) nL inj ((X9_chainLength x1 σ).bind K) pc lv (.int x1 :: .ref (aC z 18) :: st) σ :=
  S_callV C (As := [.int x1]) (q := 18) (inj1 := (jI σ)) mw_X9_chainLength mv_X9_chainLength hl (fun ro hro => con_X9_chainLength z (mL x) x1 σ ro hro) hR rfl (show 18 < 59 by decide) rfl (ce_X9 z σ) rfl rfl hW hd h
set_option maxRecDepth 10000 in
theorem WT_X9_chainSum {x : MX} {z : ZT} (C : Cok x (wxC z) RX9 cX9_chainSum 2 (some .int) 0 0) (x1 : Int32) (σ : St) : Sim x (wxC z) 2 (jI σ) (X9_chainSum x1 σ) 0 [(0, .ref (aC z 18)), (1, .int x1)] [] σ := by
  rw [X9_chainSum]
  refine S_aload_n C 0 dX9_chainSum_0 rfl ?_
  refine G_X9_costs C fl_X9_35 dX9_chainSum_1 ?_
  refine S_iload_n C 1 dX9_chainSum_4 rfl ?_
  refine L_X9_costs C dX9_chainSum_5 (fun _ => ?_)
  refine S_bipush C (32) dX9_chainSum_6 (by decide) ?_
  refine S_idiv_k C (by decide) dX9_chainSum_8 ?_
  exact S_iret C rfl dX9_chainSum_9
set_option maxRecDepth 10000 in
theorem con_X9_chainSum (z : ZT) (l : Launch) (x1 : Int32) (σ : St) : ∀ ro, X9_chainSum x1 σ = some ro → Con (wxC z) l yX9_chainSum cX9_chainSum 2 (some .int) 0 0 [.ref (aC z 18), .int x1] σ ((jI σ) ro) :=
  fun ro hk => Con_of hk (by decide) (Nat.le_of_ble_eq_true rfl) (fun x hx C => WT_X9_chainSum C x1 σ)
set_option maxRecDepth 10000 in
theorem K_X9_chainSum {x : MX} {z : ZT} {own : String} {cc : ByteArray} {nL : Nat} {ret : Option FieldType} {fr lo : Nat} {ρ : Type} {inj : ρ → Option Value × St} {pc : Nat} {lv : List (Nat × Value)} {st : List Value} {σ : St} (C : Cok x (wxC z) own cc nL ret fr lo) {x1 : Int32} {index : Nat} (hl : Cond.methodLink own index yX9_chainSum ∈ gtb) (hR : 0 + 1 ≤ fr ∧ 8 + (2 + 11) + 0 ≤ lo) (hW : (st.map fun v => v.category).sum ≤ 8) (hd : decode cc pc = .ok (.invokevirtual index, 3)) {K : Int32 → Option ρ} (h : ∀ v, Sim x (wxC z) nL inj (K v) (pc + 3) lv (.int v :: st) σ) : Sim x (wxC z) nL inj ((X9_chainSum x1 σ).bind K) pc lv (.int x1 :: .ref (aC z 18) :: st) σ :=
  S_callV C (As := [.int x1]) (q := 18) (inj1 := (jI σ)) mw_X9_chainSum mv_X9_chainSum hl (fun ro hro => con_X9_chainSum z (mL x) x1 σ ro hro) hR rfl (show 18 < 59 by decide) rfl (ce_X9 z σ) rfl rfl hW hd h
set_option maxRecDepth 10000 in
theorem WT_X9_nextOnChain_L2 {x : MX} {z : ZT} (C : Cok x (wxC z) RX9 cX9_nextOnChain 3 (some .int) 1 22) (σ : St) : ∀ (n : Nat) (x1 : Int32) (x2 : Int32), Sim x (wxC z) 3 (jI σ) (X9_nextOnChain_L2 σ n x1 x2) 2 [(0, .ref (aC z 18)), (1, .int x1), (2, .int x2)] [] σ := by
  intro n
  induction n with
  | zero =>
    intros
    exact S_none
  | succ n ih =>
    intro x1 x2
    rw [X9_nextOnChain_L2]
    refine S_iload_n C 2 dX9_nextOnChain_2 rfl ?_
    refine S_aload_n C 0 dX9_nextOnChain_3 rfl ?_
    refine G_X9_size C fl_X9_47 dX9_nextOnChain_4 ?_
    refine S_icmp_ge C 52 dX9_nextOnChain_7 (by decide) ?_ ?_
    · refine S_iload_n C 1 dX9_nextOnChain_52 rfl ?_
      exact S_iret C rfl dX9_nextOnChain_53
    · refine S_iload_n C 2 dX9_nextOnChain_10 rfl ?_
      refine S_iload_n C 1 dX9_nextOnChain_11 rfl ?_
      refine S_icmp_eq C 46 dX9_nextOnChain_12 (by decide) ?_ ?_
      · refine S_iinc C 2 [(2, .int (x2 + 1)), (0, .ref (aC z 18)), (1, .int x1)] (x2 + 1) dX9_nextOnChain_46 rfl rfl (by decide) rfl ?_
        refine S_goto C 2 dX9_nextOnChain_49 (by decide) ?_
        exact S_sub [1, 2, 0] rfl (ih x1 (x2 + 1))
      · refine S_aload_n C 0 dX9_nextOnChain_15 rfl ?_
        refine G_X9_joined C fl_X9_29 dX9_nextOnChain_16 ?_
        refine S_iload_n C 1 dX9_nextOnChain_19 rfl ?_
        refine L_X9_joined C dX9_nextOnChain_20 (fun _ => ?_)
        refine S_iload_n C 2 dX9_nextOnChain_21 rfl ?_
        refine S_ishr C dX9_nextOnChain_22 ?_
        refine S_iconst C (1) dX9_nextOnChain_23 (by decide) ?_
        refine S_iand C dX9_nextOnChain_24 ?_
        refine S_iconst C (1) dX9_nextOnChain_25 (by decide) ?_
        refine S_icmp_ne C 46 dX9_nextOnChain_26 (by decide) ?_ ?_
        · refine S_iinc C 2 [(2, .int (x2 + 1)), (0, .ref (aC z 18)), (1, .int x1)] (x2 + 1) dX9_nextOnChain_46 rfl rfl (by decide) rfl ?_
          refine S_goto C 2 dX9_nextOnChain_49 (by decide) ?_
          exact S_sub [1, 2, 0] rfl (ih x1 (x2 + 1))
        · refine S_aload_n C 0 dX9_nextOnChain_29 rfl ?_
          refine S_iload_n C 1 dX9_nextOnChain_30 rfl ?_
          refine S_iload_n C 2 dX9_nextOnChain_31 rfl ?_
          refine K_X9_costOver C ml_X9_115 (by decide) (Nat.le_of_ble_eq_true rfl) dX9_nextOnChain_32 (fun v1 => ?_)
          refine S_aload_n C 0 dX9_nextOnChain_35 rfl ?_
          refine G_X9_costs C fl_X9_35 dX9_nextOnChain_36 ?_
          refine S_iload_n C 1 dX9_nextOnChain_39 rfl ?_
          refine L_X9_costs C dX9_nextOnChain_40 (fun _ => ?_)
          refine S_icmp_ne C 46 dX9_nextOnChain_41 (by decide) ?_ ?_
          · refine S_iinc C 2 [(2, .int (x2 + 1)), (0, .ref (aC z 18)), (1, .int x1)] (x2 + 1) dX9_nextOnChain_46 rfl rfl (by decide) rfl ?_
            refine S_goto C 2 dX9_nextOnChain_49 (by decide) ?_
            exact S_sub [1, 2, 0] rfl (ih x1 (x2 + 1))
          · refine S_iload_n C 2 dX9_nextOnChain_44 rfl ?_
            exact S_iret C rfl dX9_nextOnChain_45
set_option maxRecDepth 10000 in
theorem WT_X9_nextOnChain {x : MX} {z : ZT} (C : Cok x (wxC z) RX9 cX9_nextOnChain 3 (some .int) 1 22) (x1 : Int32) (σ : St) : Sim x (wxC z) 3 (jI σ) (X9_nextOnChain x1 σ) 0 [(0, .ref (aC z 18)), (1, .int x1)] [] σ := by
  rw [X9_nextOnChain]
  refine S_iconst C (0) dX9_nextOnChain_0 (by decide) ?_
  refine S_istore_n C [(2, .int 0), (0, .ref (aC z 18)), (1, .int x1)] (i := 2) dX9_nextOnChain_1 rfl (by decide) rfl ?_
  exact S_sub [1, 2, 0] rfl (WT_X9_nextOnChain_L2 C σ FU x1 (0 : Int32))
set_option maxRecDepth 10000 in
theorem con_X9_nextOnChain (z : ZT) (l : Launch) (x1 : Int32) (σ : St) : ∀ ro, X9_nextOnChain x1 σ = some ro → Con (wxC z) l yX9_nextOnChain cX9_nextOnChain 3 (some .int) 1 22 [.ref (aC z 18), .int x1] σ ((jI σ) ro) :=
  fun ro hk => Con_of hk (by decide) (Nat.le_of_ble_eq_true rfl) (fun x hx C => WT_X9_nextOnChain C x1 σ)
set_option maxRecDepth 10000 in
theorem K_X9_nextOnChain {x : MX} {z : ZT} {own : String} {cc : ByteArray} {nL : Nat} {ret : Option FieldType} {fr lo : Nat} {ρ : Type} {inj : ρ → Option Value × St} {pc : Nat} {lv : List (Nat × Value)} {st : List Value} {σ : St} (C : Cok x (wxC z) own cc nL ret fr lo) {x1 : Int32} {index : Nat} (hl : Cond.methodLink own index yX9_nextOnChain ∈ gtb) (hR : 1 + 1 ≤ fr ∧ 8 + (3 + 11) + 22 ≤ lo) (hW : (st.map fun v => v.category).sum ≤ 8) (hd : decode cc pc = .ok (.invokevirtual index, 3)) {K : Int32 → Option ρ} (h : ∀ v, Sim x (wxC z) nL inj (K v) (pc + 3) lv (.int v :: st) σ) : Sim x (wxC z) nL inj ((X9_nextOnChain x1 σ).bind K) pc lv (.int x1 :: .ref (aC z 18) :: st) σ :=
  S_callV C (As := [.int x1]) (q := 18) (inj1 := (jI σ)) mw_X9_nextOnChain mv_X9_nextOnChain hl (fun ro hro => con_X9_nextOnChain z (mL x) x1 σ ro hro) hR rfl (show 18 < 59 by decide) rfl (ce_X9 z σ) rfl rfl hW hd h
set_option maxRecDepth 10000 in
theorem WT_X9_chainMember_L17 {x : MX} {z : ZT} (C : Cok x (wxC z) RX9 cX9_chainMember 5 (some .int) 2 44) (σ : St) : ∀ (n : Nat) (x2 : Int32) (x3 : Int32) (x4 : Int32), Sim x (wxC z) 5 (jI σ) (X9_chainMember_L17 σ n x2 x3 x4) 17 [(0, .ref (aC z 18)), (2, .int x2), (3, .int x3), (4, .int x4)] [] σ := by
  intro n
  induction n with
  | zero =>
    intros
    exact S_none
  | succ n ih =>
    intro x2 x3 x4
    rw [X9_chainMember_L17]
    refine S_iload C 3 dX9_chainMember_17 rfl ?_
    refine S_iload_n C 1 dX9_chainMember_19 rfl ?_
    refine S_icmp_ge C 35 dX9_chainMember_20 (by decide) ?_ ?_
    · refine S_iload_n C 2 dX9_chainMember_35 rfl ?_
      exact S_iret C rfl dX9_chainMember_36
    · refine S_aload_n C 0 dX9_chainMember_23 rfl ?_
      refine S_iload_n C 2 dX9_chainMember_24 rfl ?_
      refine K_X9_nextOnChain C ml_X9_121 (by decide) (Nat.le_of_ble_eq_true rfl) dX9_chainMember_25 (fun v2 => ?_)
      refine S_istore_n C [(3, .int v2), (0, .ref (aC z 18)), (2, .int x2), (4, .int x4)] (i := 3) dX9_chainMember_28 rfl (by decide) rfl ?_
      refine S_iinc C 3 [(4, .int (x4 + 1)), (3, .int v2), (0, .ref (aC z 18)), (2, .int x2)] (x4 + 1) dX9_chainMember_29 rfl rfl (by decide) rfl ?_
      refine S_goto C 17 dX9_chainMember_32 (by decide) ?_
      exact S_sub [2, 3, 1, 0] rfl (ih x2 v2 (x4 + 1))
set_option maxRecDepth 10000 in
theorem WT_X9_chainMember {x : MX} {z : ZT} (C : Cok x (wxC z) RX9 cX9_chainMember 5 (some .int) 2 44) (x1 : Int32) (x2 : Int32) (σ : St) : Sim x (wxC z) 5 (jI σ) (X9_chainMember x1 x2 σ) 0 [(0, .ref (aC z 18)), (1, .int x1), (2, .int x2)] [] σ := by
  rw [X9_chainMember]
  refine S_iload_n C 2 dX9_chainMember_0 rfl ?_
  refine S_aload_n C 0 dX9_chainMember_1 rfl ?_
  refine S_iload_n C 1 dX9_chainMember_2 rfl ?_
  refine K_X9_chainLength C ml_X9_118 (by decide) (Nat.le_of_ble_eq_true rfl) dX9_chainMember_3 (fun v1 => ?_)
  refine S_icmp_lt C 12 dX9_chainMember_6 (by decide) ?_ ?_
  · refine S_iload_n C 1 dX9_chainMember_12 rfl ?_
    refine S_istore_n C [(3, .int x1), (0, .ref (aC z 18)), (1, .int x1), (2, .int x2)] (i := 3) dX9_chainMember_13 rfl (by decide) rfl ?_
    refine S_iconst C (0) dX9_chainMember_14 (by decide) ?_
    refine S_istore C [(4, .int 0), (3, .int x1), (0, .ref (aC z 18)), (1, .int x1), (2, .int x2)] dX9_chainMember_15 (by decide) rfl ?_
    exact S_sub [2, 4, 1, 0] rfl (WT_X9_chainMember_L17 C σ FU x2 x1 (0 : Int32))
  · refine S_bipush C (-4) dX9_chainMember_9 (by decide) ?_
    exact S_iret C rfl dX9_chainMember_11
set_option maxRecDepth 10000 in
theorem con_X9_chainMember (z : ZT) (l : Launch) (x1 : Int32) (x2 : Int32) (σ : St) : ∀ ro, X9_chainMember x1 x2 σ = some ro → Con (wxC z) l yX9_chainMember cX9_chainMember 5 (some .int) 2 44 [.ref (aC z 18), .int x1, .int x2] σ ((jI σ) ro) :=
  fun ro hk => Con_of hk (by decide) (Nat.le_of_ble_eq_true rfl) (fun x hx C => WT_X9_chainMember C x1 x2 σ)
set_option maxRecDepth 10000 in
theorem K_X9_chainMember {x : MX} {z : ZT} {own : String} {cc : ByteArray} {nL : Nat} {ret : Option FieldType} {fr lo : Nat} {ρ : Type} {inj : ρ → Option Value × St} {pc : Nat} {lv : List (Nat × Value)} {st : List Value} {σ : St} (C : Cok x (wxC z) own cc nL ret fr lo) {x1 : Int32} {x2 : Int32} {index : Nat} (hl : Cond.methodLink own index yX9_chainMember ∈ gtb) (hR : 2 + 1 ≤ fr ∧ 8 + (5 + 11) + 44 ≤ lo) (hW : (st.map fun v => v.category).sum ≤ 8) (hd : decode cc pc = .ok (.invokevirtual index, 3)) {K : Int32 → Option ρ} (h : ∀ v, Sim x (wxC z) nL inj (K v) (pc + 3) lv (.int v :: st) σ) : Sim x (wxC z) nL inj ((X9_chainMember x1 x2 σ).bind K) pc lv (.int x2 :: .int x1 :: .ref (aC z 18) :: st) σ :=
  S_callV C (As := [.int x1, .int x2]) (q := 18) (inj1 := (jI σ)) mw_X9_chainMember mv_X9_chainMember hl (fun ro hro => con_X9_chainMember z (mL x) x1 x2 σ ro hro) hR rfl (show 18 < 59 by decide) rfl (ce_X9 z σ) rfl rfl hW hd h
