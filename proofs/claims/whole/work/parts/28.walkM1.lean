set_option maxRecDepth 10000 in
theorem WT_X11_bearers_L177 {x : MX} {z : ZT} (C : Cok x (wxM z) RX11 cX11_bearers 10 (some .int) 3 77) : ∀ (n : Nat) (x2 : Int32) (x3 : Int32) (x4 : Int32) (x5 : Int32) (x6 : Int32) (x7 : Int32) (x8 : Int32) (σ : St), Sim x (wxM z) 10 jIS (X11_bearers_L177 n x2 x3 x4 x5 x6 x7 x8 σ) 177 [(0, .ref (aC z 0)), (2, .int x2), (3, .int x3), (4, .int x4), (5, .int x5), (6, .int x6), (7, .int x7), (8, .int x8)] [] σ := by
  intro n
  induction n with
  | zero =>
    intros
    exact S_none
  | succ n ih =>
    intro x2 x3 x4 x5 x6 x7 x8 σ
    rw [X11_bearers_L177]
    refine S_iload C 7 dX11_bearers_177 rfl ?_
    refine S_aload_n C 0 dX11_bearers_179 rfl ?_
    refine G_X11_books C fl_X11_305 dX11_bearers_180 ?_
    refine S_icmp_ge C 265 dX11_bearers_183 (by decide) ?_ ?_
    · refine S_iload C 3 dX11_bearers_265 rfl ?_
      refine S_iload_n C 2 dX11_bearers_267 rfl ?_
      refine S_isub C dX11_bearers_268 ?_
      refine S_iconst C (1) dX11_bearers_269 (by decide) ?_
      refine S_iadd C dX11_bearers_270 ?_
      refine S_iload C 6 dX11_bearers_271 rfl ?_
      refine S_icmp_le C 285 dX11_bearers_273 (by decide) ?_ ?_
      · refine S_iload C 6 dX11_bearers_285 rfl ?_
        exact S_sub [4, 5, 6] rfl (WT_X11_bearers_B287 C x5 x6 x7 x7 σ)
      · refine S_iload C 3 dX11_bearers_276 rfl ?_
        refine S_iload_n C 2 dX11_bearers_278 rfl ?_
        refine S_isub C dX11_bearers_279 ?_
        refine S_iconst C (1) dX11_bearers_280 (by decide) ?_
        refine S_iadd C dX11_bearers_281 ?_
        refine S_goto C 287 dX11_bearers_282 (by decide) ?_
        exact S_sub [4, 5, 6] rfl (WT_X11_bearers_B287 C x5 x6 x7 ((x4 - x3) + 1) σ)
    · refine S_aload_n C 0 dX11_bearers_186 rfl ?_
      refine G_X11_bookFrom C fl_X11_97 dX11_bearers_187 ?_
      refine S_iload C 7 dX11_bearers_190 rfl ?_
      refine L_X11_bookFrom C dX11_bearers_192 (fun _ => ?_)
      refine S_bndT (fun x9_7 _ => ?_)
      refine S_istore C [(9, .int x9_7), (0, .ref (aC z 0)), (2, .int x2), (3, .int x3), (4, .int x4), (5, .int x5), (6, .int x6), (7, .int x7), (8, .int x8)] dX11_bearers_193 (by decide) rfl ?_
      exact S_sub [1, 2, 3, 4, 5, 6, 7, 8, 0] rfl (WT_X11_bearers_L195 C _ ih FU x2 x3 x4 x5 x6 x7 x8 x9_7 σ)
set_option maxRecDepth 10000 in
theorem WT_X11_bearers_B142 {x : MX} {z : ZT} (C : Cok x (wxM z) RX11 cX11_bearers 10 (some .int) 3 77) (kq72 : Int32 → Int32 → Int32 → Int32 → Int32 → Int32 → Int32 → Int32 → St → Option (Int32 × St)) (hk72 : ∀ (x1 : Int32) (x2 : Int32) (x3 : Int32) (x4 : Int32) (x5 : Int32) (x6 : Int32) (x7 : Int32) (x8 : Int32) (σ : St), Sim x (wxM z) 10 jIS (kq72 x1 x2 x3 x4 x5 x6 x7 x8 σ) 72 [(0, .ref (aC z 0)), (1, .int x1), (2, .int x2), (3, .int x3), (4, .int x4), (5, .int x5), (6, .int x6), (7, .int x7), (8, .int x8)] [] σ) (x1 : Int32) (x2 : Int32) (x3 : Int32) (x4 : Int32) (x5 : Int32) (x6 : Int32) (x7 : Int32) (x8 : Int32) (s0 : Int32) (σ : St) : Sim x (wxM z) 10 jIS (X11_bearers_B142 kq72 x1 x2 x3 x4 x5 x6 x7 x8 s0 σ) 142 [(0, .ref (aC z 0)), (1, .int x1), (2, .int x2), (3, .int x3), (4, .int x4), (5, .int x5), (6, .int x6), (7, .int x7), (8, .int x8)] [.int s0] σ := by
  rw [X11_bearers_B142]
  refine S_istore C [(9, .int s0), (0, .ref (aC z 0)), (1, .int x1), (2, .int x2), (3, .int x3), (4, .int x4), (5, .int x5), (6, .int x6), (7, .int x7), (8, .int x8)] dX11_bearers_142 (by decide) rfl ?_
  refine S_iload C 7 dX11_bearers_144 rfl ?_
  refine S_iload C 0 dX11_bearers_146 rfl ?_
  refine S_if_eq C 164 dX11_bearers_148 (by decide) ?_ ?_
  · refine S_iconst C (0) dX11_bearers_164 (by decide) ?_
    refine S_iadd C dX11_bearers_165 ?_
    refine S_bndT (fun x6_14 _ => ?_)
    refine S_istore C [(6, .int x6_14), (9, .int s0), (0, .ref (aC z 0)), (1, .int x1), (2, .int x2), (3, .int x3), (4, .int x4), (5, .int x5), (7, .int x7), (8, .int x8)] dX11_bearers_166 (by decide) rfl ?_
    refine S_iinc C 9 [(8, .int (x8 + 1)), (6, .int x6_14), (9, .int s0), (0, .ref (aC z 0)), (1, .int x1), (2, .int x2), (3, .int x3), (4, .int x4), (5, .int x5), (7, .int x7)] (x8 + 1) dX11_bearers_168 rfl rfl (by decide) rfl ?_
    refine S_goto C 72 dX11_bearers_171 (by decide) ?_
    exact S_sub [3, 4, 5, 6, 7, 8, 1, 9, 0] rfl (hk72 x1 x2 x3 x4 x5 x6_14 x7 (x8 + 1) σ)
  · refine S_aload_n C 1 dX11_bearers_151 rfl ?_
    refine G_X11_lineKind C fl_X11_113 dX11_bearers_152 ?_
    refine S_iload C 9 dX11_bearers_155 rfl ?_
    refine L_X11_lineKind C dX11_bearers_157 (fun _ => ?_)
    refine K_X11_worthOf C ml_X11_352 (by decide) (Nat.le_of_ble_eq_true rfl) dX11_bearers_158 (fun v15 => ?_)
    refine S_goto C 165 dX11_bearers_161 (by decide) ?_
    refine S_iadd C dX11_bearers_165 ?_
    refine S_bndT (fun x6_16 _ => ?_)
    refine S_istore C [(6, .int x6_16), (9, .int s0), (0, .ref (aC z 0)), (1, .int x1), (2, .int x2), (3, .int x3), (4, .int x4), (5, .int x5), (7, .int x7), (8, .int x8)] dX11_bearers_166 (by decide) rfl ?_
    refine S_iinc C 9 [(8, .int (x8 + 1)), (6, .int x6_16), (9, .int s0), (0, .ref (aC z 0)), (1, .int x1), (2, .int x2), (3, .int x3), (4, .int x4), (5, .int x5), (7, .int x7)] (x8 + 1) dX11_bearers_168 rfl rfl (by decide) rfl ?_
    refine S_goto C 72 dX11_bearers_171 (by decide) ?_
    exact S_sub [3, 4, 5, 6, 7, 8, 1, 9, 0] rfl (hk72 x1 x2 x3 x4 x5 x6_16 x7 (x8 + 1) σ)
set_option maxRecDepth 10000 in
theorem WT_X11_bearers_L72 {x : MX} {z : ZT} (C : Cok x (wxM z) RX11 cX11_bearers 10 (some .int) 3 77) : ∀ (n : Nat) (x1 : Int32) (x2 : Int32) (x3 : Int32) (x4 : Int32) (x5 : Int32) (x6 : Int32) (x7 : Int32) (x8 : Int32) (σ : St), Sim x (wxM z) 10 jIS (X11_bearers_L72 n x1 x2 x3 x4 x5 x6 x7 x8 σ) 72 [(0, .ref (aC z 0)), (1, .int x1), (2, .int x2), (3, .int x3), (4, .int x4), (5, .int x5), (6, .int x6), (7, .int x7), (8, .int x8)] [] σ := by
  intro n
  induction n with
  | zero =>
    intros
    exact S_none
  | succ n ih =>
    intro x1 x2 x3 x4 x5 x6 x7 x8 σ
    rw [X11_bearers_L72]
    refine S_iload C 8 dX11_bearers_72 rfl ?_
    refine S_aload_n C 0 dX11_bearers_74 rfl ?_
    refine G_X11_lines C fl_X11_308 dX11_bearers_75 ?_
    refine S_icmp_ge C 174 dX11_bearers_78 (by decide) ?_ ?_
    · refine S_iconst C (0) dX11_bearers_174 (by decide) ?_
      refine S_istore C [(8, .int 0), (0, .ref (aC z 0)), (1, .int x1), (2, .int x2), (3, .int x3), (4, .int x4), (5, .int x5), (6, .int x6), (7, .int x7)] dX11_bearers_175 (by decide) rfl ?_
      exact S_sub [1, 3, 4, 5, 6, 7, 8, 0] rfl (WT_X11_bearers_L177 C FU x2 x3 x4 x5 x6 x7 (0 : Int32) σ)
    · refine S_aload_n C 0 dX11_bearers_81 rfl ?_
      refine G_X11_bookPlace C fl_X11_94 dX11_bearers_82 ?_
      refine S_aload_n C 0 dX11_bearers_85 rfl ?_
      refine G_X11_lineBook C fl_X11_107 dX11_bearers_86 ?_
      refine S_iload C 8 dX11_bearers_89 rfl ?_
      refine L_X11_lineBook C dX11_bearers_91 (fun _ => ?_)
      refine L_X11_bookPlace C dX11_bearers_92 (fun _ => ?_)
      refine S_iload_n C 2 dX11_bearers_93 rfl ?_
      refine S_icmp_ne C 141 dX11_bearers_94 (by decide) ?_ ?_
      · refine S_iconst C (0) dX11_bearers_141 (by decide) ?_
        exact S_sub [0, 1, 2, 3, 4, 5, 6, 7, 8] rfl (WT_X11_bearers_B142 C _ ih x1 x2 x3 x4 x5 x6 x7 x8 (0 : Int32) σ)
      · refine S_aload_n C 0 dX11_bearers_97 rfl ?_
        refine G_X11_lineYear C fl_X11_110 dX11_bearers_98 ?_
        refine S_iload C 8 dX11_bearers_101 rfl ?_
        refine L_X11_lineYear C dX11_bearers_103 (fun _ => ?_)
        refine S_i2l C dX11_bearers_104 ?_
        refine S_iload_n C 3 dX11_bearers_105 rfl ?_
        refine S_i2l C dX11_bearers_106 ?_
        refine S_iload C 4 dX11_bearers_107 rfl ?_
        refine S_i2l C dX11_bearers_109 ?_
        refine K_X11_in C ml_X11_156 (by decide) (Nat.le_of_ble_eq_true rfl) dX11_bearers_110 (fun v17 => ?_)
        refine S_if_eq C 141 dX11_bearers_113 (by decide) ?_ ?_
        · refine S_iconst C (0) dX11_bearers_141 (by decide) ?_
          exact S_sub [0, 1, 2, 3, 4, 5, 6, 7, 8] rfl (WT_X11_bearers_B142 C _ ih x1 x2 x3 x4 x5 x6 x7 x8 (0 : Int32) σ)
        · refine S_aload_n C 0 dX11_bearers_116 rfl ?_
          refine G_X11_nameOf C fl_X11_73 dX11_bearers_117 ?_
          refine S_aload_n C 0 dX11_bearers_120 rfl ?_
          refine G_X11_lineNow C fl_X11_119 dX11_bearers_121 ?_
          refine S_iload C 8 dX11_bearers_124 rfl ?_
          refine L_X11_lineNow C dX11_bearers_126 (fun _ => ?_)
          refine L_X11_nameOf C dX11_bearers_127 (fun _ => ?_)
          refine S_aload_n C 0 dX11_bearers_128 rfl ?_
          refine G_X11_nameOf C fl_X11_73 dX11_bearers_129 ?_
          refine S_iload_n C 1 dX11_bearers_132 rfl ?_
          refine L_X11_nameOf C dX11_bearers_133 (fun _ => ?_)
          refine S_icmp_ne C 141 dX11_bearers_134 (by decide) ?_ ?_
          · refine S_iconst C (0) dX11_bearers_141 (by decide) ?_
            exact S_sub [0, 1, 2, 3, 4, 5, 6, 7, 8] rfl (WT_X11_bearers_B142 C _ ih x1 x2 x3 x4 x5 x6 x7 x8 (0 : Int32) σ)
          · refine S_iconst C (1) dX11_bearers_137 (by decide) ?_
            refine S_goto C 142 dX11_bearers_138 (by decide) ?_
            exact S_sub [0, 1, 2, 3, 4, 5, 6, 7, 8] rfl (WT_X11_bearers_B142 C _ ih x1 x2 x3 x4 x5 x6 x7 x8 (1 : Int32) σ)
set_option maxRecDepth 10000 in
theorem WT_X11_bearers {x : MX} {z : ZT} (C : Cok x (wxM z) RX11 cX11_bearers 10 (some .int) 3 77) (x1 : Int32) (x2 : Int32) (x3 : Int32) (x4 : Int32) (x5 : Int32) (σ : St) : Sim x (wxM z) 10 jIS (X11_bearers x1 x2 x3 x4 x5 σ) 0 [(0, .ref (aC z 0)), (1, .int x1), (2, .int x2), (3, .int x3), (4, .int x4), (5, .int x5)] [] σ := by
  rw [X11_bearers]
  refine S_aload_n C 0 dX11_bearers_0 rfl ?_
  refine S_iload_n C 1 dX11_bearers_1 rfl ?_
  refine K_X11_isSpelling C ml_X11_166 (by decide) (Nat.le_of_ble_eq_true rfl) dX11_bearers_2 (fun v1 => ?_)
  refine S_if_eq C 57 dX11_bearers_5 (by decide) ?_ ?_
  · refine S_iconst C (-1) dX11_bearers_57 (by decide) ?_
    exact S_iret C rfl dX11_bearers_58
  · refine S_aload_n C 0 dX11_bearers_8 rfl ?_
    refine S_iload_n C 2 dX11_bearers_9 rfl ?_
    refine K_X11_isPlace C ml_X11_313 (by decide) (Nat.le_of_ble_eq_true rfl) dX11_bearers_10 (fun v2 => ?_)
    refine S_if_eq C 57 dX11_bearers_13 (by decide) ?_ ?_
    · refine S_iconst C (-1) dX11_bearers_57 (by decide) ?_
      exact S_iret C rfl dX11_bearers_58
    · refine S_iload_n C 3 dX11_bearers_16 rfl ?_
      refine S_i2l C dX11_bearers_17 ?_
      refine S_ldc2 C (1500) kl_X11_316 dX11_bearers_18 ?_
      refine S_ldc2 C (1899) kl_X11_318 dX11_bearers_21 ?_
      refine K_X11_in C ml_X11_156 (by decide) (Nat.le_of_ble_eq_true rfl) dX11_bearers_24 (fun v3 => ?_)
      refine S_if_eq C 57 dX11_bearers_27 (by decide) ?_ ?_
      · refine S_iconst C (-1) dX11_bearers_57 (by decide) ?_
        exact S_iret C rfl dX11_bearers_58
      · refine S_iload C 4 dX11_bearers_30 rfl ?_
        refine S_i2l C dX11_bearers_32 ?_
        refine S_iload_n C 3 dX11_bearers_33 rfl ?_
        refine S_i2l C dX11_bearers_34 ?_
        refine S_ldc2 C (1899) kl_X11_318 dX11_bearers_35 ?_
        refine K_X11_in C ml_X11_156 (by decide) (Nat.le_of_ble_eq_true rfl) dX11_bearers_38 (fun v4 => ?_)
        refine S_if_eq C 57 dX11_bearers_41 (by decide) ?_ ?_
        · refine S_iconst C (-1) dX11_bearers_57 (by decide) ?_
          exact S_iret C rfl dX11_bearers_58
        · refine S_iload C 5 dX11_bearers_44 rfl ?_
          refine S_i2l C dX11_bearers_46 ?_
          refine S_lconst C (0) dX11_bearers_47 (by decide) ?_
          refine S_ldc2 C (2) kl_X11_294 dX11_bearers_48 ?_
          refine K_X11_in C ml_X11_156 (by decide) (Nat.le_of_ble_eq_true rfl) dX11_bearers_51 (fun v5 => ?_)
          refine S_if_ne C 59 dX11_bearers_54 (by decide) ?_ ?_
          · refine S_aload_n C 0 dX11_bearers_59 rfl ?_
            refine K_X11_layNames C ml_X11_279 (by decide) (Nat.le_of_ble_eq_true rfl) dX11_bearers_60 (fun σ6 => ?_)
            refine S_iconst C (0) dX11_bearers_63 (by decide) ?_
            refine S_istore C [(6, .int 0), (0, .ref (aC z 0)), (1, .int x1), (2, .int x2), (3, .int x3), (4, .int x4), (5, .int x5)] dX11_bearers_64 (by decide) rfl ?_
            refine S_iconst C (0) dX11_bearers_66 (by decide) ?_
            refine S_istore C [(7, .int 0), (6, .int 0), (0, .ref (aC z 0)), (1, .int x1), (2, .int x2), (3, .int x3), (4, .int x4), (5, .int x5)] dX11_bearers_67 (by decide) rfl ?_
            refine S_iconst C (0) dX11_bearers_69 (by decide) ?_
            refine S_istore C [(8, .int 0), (7, .int 0), (6, .int 0), (0, .ref (aC z 0)), (1, .int x1), (2, .int x2), (3, .int x3), (4, .int x4), (5, .int x5)] dX11_bearers_70 (by decide) rfl ?_
            exact S_sub [3, 4, 5, 6, 7, 8, 2, 1, 0] rfl (WT_X11_bearers_L72 C FU x1 x2 x3 x4 x5 (0 : Int32) (0 : Int32) (0 : Int32) σ6)
          · refine S_iconst C (-1) dX11_bearers_57 (by decide) ?_
            exact S_iret C rfl dX11_bearers_58
set_option maxRecDepth 10000 in
theorem con_X11_bearers (z : ZT) (l : Launch) (x1 : Int32) (x2 : Int32) (x3 : Int32) (x4 : Int32) (x5 : Int32) (σ : St) : ∀ ro, X11_bearers x1 x2 x3 x4 x5 σ = some ro → Con (wxM z) l yX11_bearers cX11_bearers 10 (some .int) 3 77 [.ref (aC z 0), .int x1, .int x2, .int x3, .int x4, .int x5] σ (jIS ro) :=
  fun ro hk => Con_of hk (by decide) (Nat.le_of_ble_eq_true rfl) (fun x hx C => WT_X11_bearers C x1 x2 x3 x4 x5 σ)
set_option maxRecDepth 10000 in
theorem K_X11_bearers {x : MX} {z : ZT} {own : String} {cc : ByteArray} {nL : Nat} {ret : Option FieldType} {fr lo : Nat} {ρ : Type} {inj : ρ → Option Value × St} {pc : Nat} {lv : List (Nat × Value)} {st : List Value} {σ : St} (C : Cok x (wxM z) own cc nL ret fr lo) {x1 : Int32} {x2 : Int32} {x3 : Int32} {x4 : Int32} {x5 : Int32} {index : Nat} (hl : Cond.methodLink own index yX11_bearers ∈ gtb) (hR : 3 + 1 ≤ fr ∧ 8 + (10 + 11) + 77 ≤ lo) (hW : (st.map fun v => v.category).sum ≤ 8) (hd : decode cc pc = .ok (.invokevirtual index, 3)) {K : (Int32 × St) → Option ρ} (h : ∀ v, Sim x (wxM z) nL inj (K v) (pc + 3) lv (.int v.1 :: st) v.2) : Sim x (wxM z) nL inj ((X11_bearers x1 x2 x3 x4 x5 σ).bind K) pc lv (.int x5 :: .int x4 :: .int x3 :: .int x2 :: .int x1 :: .ref (aC z 0) :: st) σ :=
  S_callV C (As := [.int x1, .int x2, .int x3, .int x4, .int x5]) (q := 0) (inj1 := jIS) mw_X11_bearers mv_X11_bearers hl (fun ro hro => con_X11_bearers z (mL x) x1 x2 x3 x4 x5 σ ro hro) hR rfl (show 0 < 48 by decide) rfl (ce_X11 z σ) rfl rfl hW hd h
set_option maxRecDepth 10000 in
theorem WT_X11_layFirsts_L24 {x : MX} {z : ZT} (C : Cok x (wxM z) RX11 cX11_layFirsts 4 none 0 0) : ∀ (n : Nat) (x1 : Int32) (x2 : Int32) (σ : St), Sim x (wxM z) 4 jV (X11_layFirsts_L24 n x1 x2 σ) 24 [(0, .ref (aC z 0)), (1, .int x1), (2, .int x2)] [] σ := by
  intro n
  induction n with
  | zero =>
    intros
    exact S_none
  | succ n ih =>
    intro x1 x2 σ
    rw [X11_layFirsts_L24]
    refine S_iload_n C 2 dX11_layFirsts_24 rfl ?_
    refine S_aload_n C 0 dX11_layFirsts_25 rfl ?_
    refine G_X11_lines C fl_X11_308 dX11_layFirsts_26 ?_
    refine S_icmp_ge C 127 dX11_layFirsts_29 (by decide) ?_ ?_
    · exact S_vret C rfl dX11_layFirsts_127
    · refine S_aload_n C 0 dX11_layFirsts_32 rfl ?_
      refine G_X11_bookPlace C fl_X11_94 dX11_layFirsts_33 ?_
      refine S_aload_n C 0 dX11_layFirsts_36 rfl ?_
      refine G_X11_lineBook C fl_X11_107 dX11_layFirsts_37 ?_
      refine S_iload_n C 2 dX11_layFirsts_40 rfl ?_
      refine L_X11_lineBook C dX11_layFirsts_41 (fun _ => ?_)
      refine L_X11_bookPlace C dX11_layFirsts_42 (fun _ => ?_)
      refine S_bndT (fun x3_1 _ => ?_)
      refine S_istore_n C [(3, .int x3_1), (0, .ref (aC z 0)), (1, .int x1), (2, .int x2)] (i := 3) dX11_layFirsts_43 rfl (by decide) rfl ?_
      refine S_aload_n C 1 dX11_layFirsts_44 rfl ?_
      refine G_X11_lineKind C fl_X11_113 dX11_layFirsts_45 ?_
      refine S_iload_n C 3 dX11_layFirsts_48 rfl ?_
      refine L_X11_lineKind C dX11_layFirsts_49 (fun _ => ?_)
      refine S_iconst C (3) dX11_layFirsts_50 (by decide) ?_
      refine S_icmp_eq C 121 dX11_layFirsts_51 (by decide) ?_ ?_
      · refine S_iinc C 3 [(2, .int (x2 + 1)), (3, .int x3_1), (0, .ref (aC z 0)), (1, .int x1)] (x2 + 1) dX11_layFirsts_121 rfl rfl (by decide) rfl ?_
        refine S_goto C 24 dX11_layFirsts_124 (by decide) ?_
        exact S_sub [2, 3, 0] rfl (ih x1 (x2 + 1) σ)
      · refine S_aload_n C 1 dX11_layFirsts_54 rfl ?_
        refine G_X11_nameOf C fl_X11_73 dX11_layFirsts_55 ?_
        refine S_aload_n C 1 dX11_layFirsts_58 rfl ?_
        refine G_X11_lineNow C fl_X11_119 dX11_layFirsts_59 ?_
        refine S_iload_n C 3 dX11_layFirsts_62 rfl ?_
        refine L_X11_lineNow C dX11_layFirsts_63 (fun _ => ?_)
        refine L_X11_nameOf C dX11_layFirsts_64 (fun _ => ?_)
        refine S_aload_n C 1 dX11_layFirsts_65 rfl ?_
        refine G_X11_nameOf C fl_X11_73 dX11_layFirsts_66 ?_
        refine S_iload_n C 2 dX11_layFirsts_69 rfl ?_
        refine L_X11_nameOf C dX11_layFirsts_70 (fun _ => ?_)
        refine S_icmp_ne C 121 dX11_layFirsts_71 (by decide) ?_ ?_
        · refine S_iinc C 3 [(2, .int (x2 + 1)), (3, .int x3_1), (0, .ref (aC z 0)), (1, .int x1)] (x2 + 1) dX11_layFirsts_121 rfl rfl (by decide) rfl ?_
          refine S_goto C 24 dX11_layFirsts_124 (by decide) ?_
          exact S_sub [2, 3, 0] rfl (ih x1 (x2 + 1) σ)
        · refine S_aload_n C 1 dX11_layFirsts_74 rfl ?_
          refine G_X11_firsts C fl_X11_140 dX11_layFirsts_75 ?_
          refine S_iload_n C 0 dX11_layFirsts_78 rfl ?_
          refine S_aload_n C 1 dX11_layFirsts_79 rfl ?_
          refine G_X11_firsts C fl_X11_140 dX11_layFirsts_80 ?_
          refine S_iload_n C 0 dX11_layFirsts_83 rfl ?_
          refine L_X11_firsts C dX11_layFirsts_84 (fun _ => ?_)
          refine S_bipush C (-4) dX11_layFirsts_85 (by decide) ?_
          refine S_icmp_eq C 105 dX11_layFirsts_87 (by decide) ?_ ?_
          · refine S_aload_n C 1 dX11_layFirsts_105 rfl ?_
            refine G_X11_lineYear C fl_X11_110 dX11_layFirsts_106 ?_
            refine S_iload_n C 3 dX11_layFirsts_109 rfl ?_
            refine L_X11_lineYear C dX11_layFirsts_110 (fun _ => ?_)
            refine S_goto C 120 dX11_layFirsts_111 (by decide) ?_
            refine T_X11_firsts C dX11_layFirsts_120 (fun _ => ?_)
            refine S_bndS (fun σ2 _ => ?_)
            refine S_iinc C 3 [(2, .int (x2 + 1)), (3, .int x3_1), (0, .ref (aC z 0)), (1, .int x1)] (x2 + 1) dX11_layFirsts_121 rfl rfl (by decide) rfl ?_
            refine S_goto C 24 dX11_layFirsts_124 (by decide) ?_
            exact S_sub [2, 3, 0] rfl (ih x1 (x2 + 1) σ2)
          · refine S_aload_n C 1 dX11_layFirsts_90 rfl ?_
            refine G_X11_lineYear C fl_X11_110 dX11_layFirsts_91 ?_
            refine S_iload_n C 3 dX11_layFirsts_94 rfl ?_
            refine L_X11_lineYear C dX11_layFirsts_95 (fun _ => ?_)
            refine S_aload_n C 1 dX11_layFirsts_96 rfl ?_
            refine G_X11_firsts C fl_X11_140 dX11_layFirsts_97 ?_
            refine S_iload_n C 0 dX11_layFirsts_100 rfl ?_
            refine L_X11_firsts C dX11_layFirsts_101 (fun _ => ?_)
            refine S_icmp_ge C 114 dX11_layFirsts_102 (by decide) ?_ ?_
            · refine S_aload_n C 1 dX11_layFirsts_114 rfl ?_
              refine G_X11_firsts C fl_X11_140 dX11_layFirsts_115 ?_
              refine S_iload_n C 0 dX11_layFirsts_118 rfl ?_
              refine L_X11_firsts C dX11_layFirsts_119 (fun _ => ?_)
              refine T_X11_firsts C dX11_layFirsts_120 (fun _ => ?_)
              refine S_bndS (fun σ3 _ => ?_)
              refine S_iinc C 3 [(2, .int (x2 + 1)), (3, .int x3_1), (0, .ref (aC z 0)), (1, .int x1)] (x2 + 1) dX11_layFirsts_121 rfl rfl (by decide) rfl ?_
              refine S_goto C 24 dX11_layFirsts_124 (by decide) ?_
              exact S_sub [2, 3, 0] rfl (ih x1 (x2 + 1) σ3)
            · refine S_aload_n C 1 dX11_layFirsts_105 rfl ?_
              refine G_X11_lineYear C fl_X11_110 dX11_layFirsts_106 ?_
              refine S_iload_n C 3 dX11_layFirsts_109 rfl ?_
              refine L_X11_lineYear C dX11_layFirsts_110 (fun _ => ?_)
              refine S_goto C 120 dX11_layFirsts_111 (by decide) ?_
              refine T_X11_firsts C dX11_layFirsts_120 (fun _ => ?_)
              refine S_bndS (fun σ4 _ => ?_)
              refine S_iinc C 3 [(2, .int (x2 + 1)), (3, .int x3_1), (0, .ref (aC z 0)), (1, .int x1)] (x2 + 1) dX11_layFirsts_121 rfl rfl (by decide) rfl ?_
              refine S_goto C 24 dX11_layFirsts_124 (by decide) ?_
              exact S_sub [2, 3, 0] rfl (ih x1 (x2 + 1) σ4)
set_option maxRecDepth 10000 in
theorem WT_X11_layFirsts_L2 {x : MX} {z : ZT} (C : Cok x (wxM z) RX11 cX11_layFirsts 4 none 0 0) : ∀ (n : Nat) (x1 : Int32) (x2 : Int32) (σ : St), Sim x (wxM z) 4 jV (X11_layFirsts_L2 n x1 x2 σ) 2 [(0, .ref (aC z 0)), (1, .int x1), (2, .int x2)] [] σ := by
  intro n
  induction n with
  | zero =>
    intros
    exact S_none
  | succ n ih =>
    intro x1 x2 σ
    rw [X11_layFirsts_L2]
    refine S_iload_n C 2 dX11_layFirsts_2 rfl ?_
    refine S_bipush C (8) dX11_layFirsts_3 (by decide) ?_
    refine S_icmp_ge C 22 dX11_layFirsts_5 (by decide) ?_ ?_
    · refine S_iconst C (0) dX11_layFirsts_22 (by decide) ?_
      refine S_istore_n C [(2, .int 0), (0, .ref (aC z 0)), (1, .int x1)] (i := 2) dX11_layFirsts_23 rfl (by decide) rfl ?_
      exact S_sub [1, 2, 0] rfl (WT_X11_layFirsts_L24 C FU x1 (0 : Int32) σ)
    · refine S_aload_n C 0 dX11_layFirsts_8 rfl ?_
      refine G_X11_firsts C fl_X11_140 dX11_layFirsts_9 ?_
      refine S_iload_n C 2 dX11_layFirsts_12 rfl ?_
      refine S_bipush C (-4) dX11_layFirsts_13 (by decide) ?_
      refine T_X11_firsts C dX11_layFirsts_15 (fun _ => ?_)
      refine S_bndS (fun σ5 _ => ?_)
      refine S_iinc C 2 [(2, .int (x2 + 1)), (0, .ref (aC z 0)), (1, .int x1)] (x2 + 1) dX11_layFirsts_16 rfl rfl (by decide) rfl ?_
      refine S_goto C 2 dX11_layFirsts_19 (by decide) ?_
      exact S_sub [1, 2, 0] rfl (ih x1 (x2 + 1) σ5)
set_option maxRecDepth 10000 in
theorem WT_X11_layFirsts {x : MX} {z : ZT} (C : Cok x (wxM z) RX11 cX11_layFirsts 4 none 0 0) (x1 : Int32) (σ : St) : Sim x (wxM z) 4 jV (X11_layFirsts x1 σ) 0 [(0, .ref (aC z 0)), (1, .int x1)] [] σ := by
  rw [X11_layFirsts]
  refine S_iconst C (0) dX11_layFirsts_0 (by decide) ?_
  refine S_istore_n C [(2, .int 0), (0, .ref (aC z 0)), (1, .int x1)] (i := 2) dX11_layFirsts_1 rfl (by decide) rfl ?_
  exact S_sub [1, 2, 0] rfl (WT_X11_layFirsts_L2 C FU x1 (0 : Int32) σ)
set_option maxRecDepth 10000 in
theorem con_X11_layFirsts (z : ZT) (l : Launch) (x1 : Int32) (σ : St) : ∀ ro, X11_layFirsts x1 σ = some ro → Con (wxM z) l yX11_layFirsts cX11_layFirsts 4 none 0 0 [.ref (aC z 0), .int x1] σ (jV ro) :=
  fun ro hk => Con_of hk (by decide) (Nat.le_of_ble_eq_true rfl) (fun x hx C => WT_X11_layFirsts C x1 σ)
set_option maxRecDepth 10000 in
theorem K_X11_layFirsts {x : MX} {z : ZT} {own : String} {cc : ByteArray} {nL : Nat} {ret : Option FieldType} {fr lo : Nat} {ρ : Type} {inj : ρ → Option Value × St} {pc : Nat} {lv : List (Nat × Value)} {st : List Value} {σ : St} (C : Cok x (wxM z) own cc nL ret fr lo) {x1 : Int32} {index : Nat} (hl : Cond.methodLink own index yX11_layFirsts ∈ gtb) (hR : 0 + 1 ≤ fr ∧ 8 + (4 + 11) + 0 ≤ lo) (hW : (st.map fun v => v.category).sum ≤ 8) (hd : decode cc pc = .ok (.invokevirtual index, 3)) {K : St → Option ρ} (h : ∀ v, Sim x (wxM z) nL inj (K v) (pc + 3) lv (st) v) : Sim x (wxM z) nL inj ((X11_layFirsts x1 σ).bind K) pc lv (.int x1 :: .ref (aC z 0) :: st) σ :=
  S_callV C (As := [.int x1]) (q := 0) (inj1 := jV) mw_X11_layFirsts mv_X11_layFirsts hl (fun ro hro => con_X11_layFirsts z (mL x) x1 σ ro hro) hR rfl (show 0 < 48 by decide) rfl (ce_X11 z σ) rfl rfl hW hd h
set_option maxRecDepth 10000 in
theorem WT_X11_first {x : MX} {z : ZT} (C : Cok x (wxM z) RX11 cX11_first 3 (some .int) 3 77) (x1 : Int32) (x2 : Int32) (σ : St) : Sim x (wxM z) 3 jIS (X11_first x1 x2 σ) 0 [(0, .ref (aC z 0)), (1, .int x1), (2, .int x2)] [] σ := by
  rw [X11_first]
  refine S_aload_n C 0 dX11_first_0 rfl ?_
  refine S_iload_n C 1 dX11_first_1 rfl ?_
  refine K_X11_isSpelling C ml_X11_166 (by decide) (Nat.le_of_ble_eq_true rfl) dX11_first_2 (fun v1 => ?_)
  refine S_if_eq C 16 dX11_first_5 (by decide) ?_ ?_
  · refine S_iconst C (-1) dX11_first_16 (by decide) ?_
    exact S_iret C rfl dX11_first_17
  · refine S_aload_n C 0 dX11_first_8 rfl ?_
    refine S_iload_n C 2 dX11_first_9 rfl ?_
    refine K_X11_isPlace C ml_X11_313 (by decide) (Nat.le_of_ble_eq_true rfl) dX11_first_10 (fun v2 => ?_)
    refine S_if_ne C 18 dX11_first_13 (by decide) ?_ ?_
    · refine S_aload_n C 0 dX11_first_18 rfl ?_
      refine K_X11_layNames C ml_X11_279 (by decide) (Nat.le_of_ble_eq_true rfl) dX11_first_19 (fun σ3 => ?_)
      refine S_aload_n C 0 dX11_first_22 rfl ?_
      refine S_iload_n C 1 dX11_first_23 rfl ?_
      refine K_X11_layFirsts C ml_X11_355 (by decide) (Nat.le_of_ble_eq_true rfl) dX11_first_24 (fun σ4 => ?_)
      refine S_aload_n C 0 dX11_first_27 rfl ?_
      refine G_X11_firsts C fl_X11_140 dX11_first_28 ?_
      refine S_iload_n C 2 dX11_first_31 rfl ?_
      refine L_X11_firsts C dX11_first_32 (fun _ => ?_)
      exact S_iret C rfl dX11_first_33
    · refine S_iconst C (-1) dX11_first_16 (by decide) ?_
      exact S_iret C rfl dX11_first_17
set_option maxRecDepth 10000 in
theorem con_X11_first (z : ZT) (l : Launch) (x1 : Int32) (x2 : Int32) (σ : St) : ∀ ro, X11_first x1 x2 σ = some ro → Con (wxM z) l yX11_first cX11_first 3 (some .int) 3 77 [.ref (aC z 0), .int x1, .int x2] σ (jIS ro) :=
  fun ro hk => Con_of hk (by decide) (Nat.le_of_ble_eq_true rfl) (fun x hx C => WT_X11_first C x1 x2 σ)
set_option maxRecDepth 10000 in
theorem K_X11_first {x : MX} {z : ZT} {own : String} {cc : ByteArray} {nL : Nat} {ret : Option FieldType} {fr lo : Nat} {ρ : Type} {inj : ρ → Option Value × St} {pc : Nat} {lv : List (Nat × Value)} {st : List Value} {σ : St} (C : Cok x (wxM z) own cc nL ret fr lo) {x1 : Int32} {x2 : Int32} {index : Nat} (hl : Cond.methodLink own index yX11_first ∈ gtb) (hR : 3 + 1 ≤ fr ∧ 8 + (3 + 11) + 77 ≤ lo) (hW : (st.map fun v => v.category).sum ≤ 8) (hd : decode cc pc = .ok (.invokevirtual index, 3)) {K : (Int32 × St) → Option ρ} (h : ∀ v, Sim x (wxM z) nL inj (K v) (pc + 3) lv (.int v.1 :: st) v.2) : Sim x (wxM z) nL inj ((X11_first x1 x2 σ).bind K) pc lv (.int x2 :: .int x1 :: .ref (aC z 0) :: st) σ :=
  S_callV C (As := [.int x1, .int x2]) (q := 0) (inj1 := jIS) mw_X11_first mv_X11_first hl (fun ro hro => con_X11_first z (mL x) x1 x2 σ ro hro) hR rfl (show 0 < 48 by decide) rfl (ce_X11 z σ) rfl rfl hW hd h
set_option maxRecDepth 10000 in
theorem WT_X11_lets_B56 {x : MX} {z : ZT} (C : Cok x (wxM z) RX11 cX11_lets 7 (some .boolean) 0 0) (σ : St) (x1 : Int32) (x2 : Int32) (x3 : Int32) (s0 : Int32) (s1 : Int32) : Sim x (wxM z) 7 (jI σ) (X11_lets_B56 σ x1 x2 x3 s0 s1) 56 [(0, .ref (aC z 0)), (1, .int x1), (2, .int x2), (3, .int x3)] [.int s0, .int s1] σ := by
  rw [X11_lets_B56]
  refine S_iadd C dX11_lets_56 ?_
  refine S_bndT (fun x6_3 _ => ?_)
  refine S_istore C [(6, .int x6_3), (0, .ref (aC z 0)), (1, .int x1), (2, .int x2), (3, .int x3)] dX11_lets_57 (by decide) rfl ?_
  refine S_aload_n C 1 dX11_lets_59 rfl ?_
  refine G_X11_firsts C fl_X11_140 dX11_lets_60 ?_
  refine S_iload_n C 2 dX11_lets_63 rfl ?_
  refine L_X11_firsts C dX11_lets_64 (fun _ => ?_)
  refine S_bipush C (10) dX11_lets_65 (by decide) ?_
  refine S_iload C 0 dX11_lets_67 rfl ?_
  refine S_imul C dX11_lets_69 ?_
  refine S_iload_n C 4 dX11_lets_70 rfl ?_
  refine S_iadd C dX11_lets_71 ?_
  refine S_iconst C (1) dX11_lets_72 (by decide) ?_
  refine S_isub C dX11_lets_73 ?_
  refine S_iload_n C 4 dX11_lets_74 rfl ?_
  refine S_idiv C dX11_lets_75 ?_
  refine S_iadd C dX11_lets_76 ?_
  refine S_aload_n C 1 dX11_lets_77 rfl ?_
  refine G_X11_firsts C fl_X11_140 dX11_lets_78 ?_
  refine S_iload_n C 3 dX11_lets_81 rfl ?_
  refine L_X11_firsts C dX11_lets_82 (fun _ => ?_)
  refine S_icmp_gt C 90 dX11_lets_83 (by decide) ?_ ?_
  · refine S_iconst C (0) dX11_lets_90 (by decide) ?_
    exact S_zret C rfl rfl dX11_lets_91
  · refine S_iconst C (1) dX11_lets_86 (by decide) ?_
    refine S_goto C 91 dX11_lets_87 (by decide) ?_
    exact S_zret C rfl rfl dX11_lets_91
set_option maxRecDepth 10000 in
theorem WT_X11_lets {x : MX} {z : ZT} (C : Cok x (wxM z) RX11 cX11_lets 7 (some .boolean) 0 0) (x1 : Int32) (x2 : Int32) (x3 : Int32) (σ : St) : Sim x (wxM z) 7 (jI σ) (X11_lets x1 x2 x3 σ) 0 [(0, .ref (aC z 0)), (1, .int x1), (2, .int x2), (3, .int x3)] [] σ := by
  rw [X11_lets]
  refine S_aload_n C 0 dX11_lets_0 rfl ?_
  refine G_X11_xs C fl_X11_88 dX11_lets_1 ?_
  refine S_iload_n C 1 dX11_lets_4 rfl ?_
  refine L_X11_xs C dX11_lets_5 (fun _ => ?_)
  refine S_aload_n C 0 dX11_lets_6 rfl ?_
  refine G_X11_xs C fl_X11_88 dX11_lets_7 ?_
  refine S_iload_n C 2 dX11_lets_10 rfl ?_
  refine L_X11_xs C dX11_lets_11 (fun _ => ?_)
  refine S_isub C dX11_lets_12 ?_
  refine S_bndT (fun x4_1 _ => ?_)
  refine S_istore C [(4, .int x4_1), (0, .ref (aC z 0)), (1, .int x1), (2, .int x2), (3, .int x3)] dX11_lets_13 (by decide) rfl ?_
  refine S_aload_n C 1 dX11_lets_15 rfl ?_
  refine G_X11_ys C fl_X11_91 dX11_lets_16 ?_
  refine S_iload_n C 2 dX11_lets_19 rfl ?_
  refine L_X11_ys C dX11_lets_20 (fun _ => ?_)
  refine S_aload_n C 1 dX11_lets_21 rfl ?_
  refine G_X11_ys C fl_X11_91 dX11_lets_22 ?_
  refine S_iload_n C 3 dX11_lets_25 rfl ?_
  refine L_X11_ys C dX11_lets_26 (fun _ => ?_)
  refine S_isub C dX11_lets_27 ?_
  refine S_bndT (fun x5_2 _ => ?_)
  refine S_istore C [(5, .int x5_2), (4, .int x4_1), (0, .ref (aC z 0)), (1, .int x1), (2, .int x2), (3, .int x3)] dX11_lets_28 (by decide) rfl ?_
  refine S_iload C 1 dX11_lets_30 rfl ?_
  refine S_if_ge C 41 dX11_lets_32 (by decide) ?_ ?_
  · refine S_iload C 1 dX11_lets_41 rfl ?_
    refine S_iload C 0 dX11_lets_43 rfl ?_
    refine S_if_ge C 54 dX11_lets_45 (by decide) ?_ ?_
    · refine S_iload C 0 dX11_lets_54 rfl ?_
      exact S_sub [2, 3, 4, 5] rfl (WT_X11_lets_B56 C σ x1 x2 x3 x5_2 x4_1)
    · refine S_iload C 0 dX11_lets_48 rfl ?_
      refine S_ineg C dX11_lets_50 ?_
      refine S_goto C 56 dX11_lets_51 (by decide) ?_
      exact S_sub [2, 3, 4, 5] rfl (WT_X11_lets_B56 C σ x1 x2 x3 (-x5_2) x4_1)
  · refine S_iload C 1 dX11_lets_35 rfl ?_
    refine S_ineg C dX11_lets_37 ?_
    refine S_goto C 43 dX11_lets_38 (by decide) ?_
    refine S_iload C 0 dX11_lets_43 rfl ?_
    refine S_if_ge C 54 dX11_lets_45 (by decide) ?_ ?_
    · refine S_iload C 0 dX11_lets_54 rfl ?_
      exact S_sub [2, 3, 4, 5] rfl (WT_X11_lets_B56 C σ x1 x2 x3 x5_2 (-x4_1))
    · refine S_iload C 0 dX11_lets_48 rfl ?_
      refine S_ineg C dX11_lets_50 ?_
      refine S_goto C 56 dX11_lets_51 (by decide) ?_
      exact S_sub [2, 3, 4, 5] rfl (WT_X11_lets_B56 C σ x1 x2 x3 (-x5_2) (-x4_1))
set_option maxRecDepth 10000 in
theorem con_X11_lets (z : ZT) (l : Launch) (x1 : Int32) (x2 : Int32) (x3 : Int32) (σ : St) : ∀ ro, X11_lets x1 x2 x3 σ = some ro → Con (wxM z) l yX11_lets cX11_lets 7 (some .boolean) 0 0 [.ref (aC z 0), .int x1, .int x2, .int x3] σ ((jI σ) ro) :=
  fun ro hk => Con_of hk (by decide) (Nat.le_of_ble_eq_true rfl) (fun x hx C => WT_X11_lets C x1 x2 x3 σ)
set_option maxRecDepth 10000 in
theorem K_X11_lets {x : MX} {z : ZT} {own : String} {cc : ByteArray} {nL : Nat} {ret : Option FieldType} {fr lo : Nat} {ρ : Type} {inj : ρ → Option Value × St} {pc : Nat} {lv : List (Nat × Value)} {st : List Value} {σ : St} (C : Cok x (wxM z) own cc nL ret fr lo) {x1 : Int32} {x2 : Int32} {x3 : Int32} {index : Nat} (hl : Cond.methodLink own index yX11_lets ∈ gtb) (hR : 0 + 1 ≤ fr ∧ 8 + (7 + 11) + 0 ≤ lo) (hW : (st.map fun v => v.category).sum ≤ 8) (hd : decode cc pc = .ok (.invokevirtual index, 3)) {K : Int32 → Option ρ} (h : ∀ v, Sim x (wxM z) nL inj (K v) (pc + 3) lv (.int v :: st) σ) : Sim x (wxM z) nL inj ((X11_lets x1 x2 x3 σ).bind K) pc lv (.int x3 :: .int x2 :: .int x1 :: .ref (aC z 0) :: st) σ :=
  S_callV C (As := [.int x1, .int x2, .int x3]) (q := 0) (inj1 := (jI σ)) mw_X11_lets mv_X11_lets hl (fun ro hro => con_X11_lets z (mL x) x1 x2 x3 σ ro hro) hR rfl (show 0 < 48 by decide) rfl (ce_X11 z σ) rfl rfl hW hd h
set_option maxRecDepth 10000 in
theorem WT_X11_withFirst_L4 {x : MX} {z : ZT} (C : Cok x (wxM z) RX11 cX11_withFirst 3 (some .int) 0 0) (σ : St) : ∀ (n : Nat) (x1 : Int32) (x2 : Int32), Sim x (wxM z) 3 (jI σ) (X11_withFirst_L4 σ n x1 x2) 4 [(0, .ref (aC z 0)), (1, .int x1), (2, .int x2)] [] σ := by
  intro n
  induction n with
  | zero =>
    intros
    exact S_none
  | succ n ih =>
    intro x1 x2
    rw [X11_withFirst_L4]
    refine S_iload_n C 2 dX11_withFirst_4 rfl ?_
    refine S_aload_n C 0 dX11_withFirst_5 rfl ?_
    refine G_X11_places C fl_X11_302 dX11_withFirst_6 ?_
    refine S_icmp_ge C 39 dX11_withFirst_9 (by decide) ?_ ?_
    · refine S_iload_n C 1 dX11_withFirst_39 rfl ?_
      exact S_iret C rfl dX11_withFirst_40
    · refine S_iload_n C 1 dX11_withFirst_12 rfl ?_
      refine S_aload_n C 0 dX11_withFirst_13 rfl ?_
      refine G_X11_firsts C fl_X11_140 dX11_withFirst_14 ?_
      refine S_iload_n C 2 dX11_withFirst_17 rfl ?_
      refine L_X11_firsts C dX11_withFirst_18 (fun _ => ?_)
      refine S_bipush C (-4) dX11_withFirst_19 (by decide) ?_
      refine S_icmp_ne C 28 dX11_withFirst_21 (by decide) ?_ ?_
      · refine S_iconst C (1) dX11_withFirst_28 (by decide) ?_
        refine S_iload_n C 2 dX11_withFirst_29 rfl ?_
        refine S_ishl C dX11_withFirst_30 ?_
        refine S_ior C dX11_withFirst_31 ?_
        refine S_bndT (fun x1_1 _ => ?_)
        refine S_istore_n C [(1, .int x1_1), (0, .ref (aC z 0)), (2, .int x2)] (i := 1) dX11_withFirst_32 rfl (by decide) rfl ?_
        refine S_iinc C 2 [(2, .int (x2 + 1)), (1, .int x1_1), (0, .ref (aC z 0))] (x2 + 1) dX11_withFirst_33 rfl rfl (by decide) rfl ?_
        refine S_goto C 4 dX11_withFirst_36 (by decide) ?_
        exact S_sub [2, 1, 0] rfl (ih x1_1 (x2 + 1))
      · refine S_iconst C (0) dX11_withFirst_24 (by decide) ?_
        refine S_goto C 31 dX11_withFirst_25 (by decide) ?_
        refine S_ior C dX11_withFirst_31 ?_
        refine S_bndT (fun x1_2 _ => ?_)
        refine S_istore_n C [(1, .int x1_2), (0, .ref (aC z 0)), (2, .int x2)] (i := 1) dX11_withFirst_32 rfl (by decide) rfl ?_
        refine S_iinc C 2 [(2, .int (x2 + 1)), (1, .int x1_2), (0, .ref (aC z 0))] (x2 + 1) dX11_withFirst_33 rfl rfl (by decide) rfl ?_
        refine S_goto C 4 dX11_withFirst_36 (by decide) ?_
        exact S_sub [2, 1, 0] rfl (ih x1_2 (x2 + 1))
set_option maxRecDepth 10000 in
theorem WT_X11_withFirst {x : MX} {z : ZT} (C : Cok x (wxM z) RX11 cX11_withFirst 3 (some .int) 0 0)  (σ : St) : Sim x (wxM z) 3 (jI σ) (X11_withFirst σ) 0 [(0, .ref (aC z 0))] [] σ := by
  rw [X11_withFirst]
  refine S_iconst C (0) dX11_withFirst_0 (by decide) ?_
  refine S_istore_n C [(1, .int 0), (0, .ref (aC z 0))] (i := 1) dX11_withFirst_1 rfl (by decide) rfl ?_
  refine S_iconst C (0) dX11_withFirst_2 (by decide) ?_
  refine S_istore_n C [(2, .int 0), (1, .int 0), (0, .ref (aC z 0))] (i := 2) dX11_withFirst_3 rfl (by decide) rfl ?_
  exact S_sub [2, 1, 0] rfl (WT_X11_withFirst_L4 C σ FU (0 : Int32) (0 : Int32))
set_option maxRecDepth 10000 in
theorem con_X11_withFirst (z : ZT) (l : Launch)  (σ : St) : ∀ ro, X11_withFirst σ = some ro → Con (wxM z) l yX11_withFirst cX11_withFirst 3 (some .int) 0 0 [.ref (aC z 0)] σ ((jI σ) ro) :=
  fun ro hk => Con_of hk (by decide) (Nat.le_of_ble_eq_true rfl) (fun x hx C => WT_X11_withFirst C σ)
set_option maxRecDepth 10000 in
theorem K_X11_withFirst {x : MX} {z : ZT} {own : String} {cc : ByteArray} {nL : Nat} {ret : Option FieldType} {fr lo : Nat} {ρ : Type} {inj : ρ → Option Value × St} {pc : Nat} {lv : List (Nat × Value)} {st : List Value} {σ : St} (C : Cok x (wxM z) own cc nL ret fr lo)  {index : Nat} (hl : Cond.methodLink own index yX11_withFirst ∈ gtb) (hR : 0 + 1 ≤ fr ∧ 8 + (3 + 11) + 0 ≤ lo) (hW : (st.map fun v => v.category).sum ≤ 8) (hd : decode cc pc = .ok (.invokevirtual index, 3)) {K : Int32 → Option ρ} (h : ∀ v, Sim x (wxM z) nL inj (K v) (pc + 3) lv (.int v :: st) σ) : Sim x (wxM z) nL inj ((X11_withFirst σ).bind K) pc lv (.ref (aC z 0) :: st) σ :=
  S_callV C (As := []) (q := 0) (inj1 := (jI σ)) mw_X11_withFirst mv_X11_withFirst hl (fun ro hro => con_X11_withFirst z (mL x) σ ro hro) hR rfl (show 0 < 48 by decide) rfl (ce_X11 z σ) rfl rfl hW hd h
set_option maxRecDepth 10000 in
theorem WT_X11_doLet_B95 {x : MX} {z : ZT} (C : Cok x (wxM z) RX11 cX11_doLet 7 (some .boolean) 1 26) (σ : St) (kq5 : Int32 → Int32 → Int32 → Int32 → Option Int32) (hk5 : ∀ (x1 : Int32) (x2 : Int32) (x3 : Int32) (x4 : Int32), Sim x (wxM z) 7 (jI σ) (kq5 x1 x2 x3 x4) 5 [(0, .ref (aC z 0)), (1, .int x1), (2, .int x2), (3, .int x3), (4, .int x4)] [] σ) (x1 : Int32) (x2 : Int32) (x3 : Int32) (x4 : Int32) (x5 : Int32) : Sim x (wxM z) 7 (jI σ) (X11_doLet_B95 kq5 σ x1 x2 x3 x4 x5) 95 [(0, .ref (aC z 0)), (1, .int x1), (2, .int x2), (3, .int x3), (4, .int x4), (5, .int x5)] [] σ := by
  rw [X11_doLet_B95]
  refine S_iload_n C 3 dX11_doLet_95 rfl ?_
  refine S_if_eq C 108 dX11_doLet_96 (by decide) ?_ ?_
  · refine S_iconst C (0) dX11_doLet_108 (by decide) ?_
    refine S_istore_n C [(3, .int 0), (0, .ref (aC z 0)), (1, .int x1), (2, .int x2), (4, .int x4), (5, .int x5)] (i := 3) dX11_doLet_109 rfl (by decide) rfl ?_
    refine S_iinc C 4 [(4, .int (x4 + 1)), (3, .int 0), (0, .ref (aC z 0)), (1, .int x1), (2, .int x2), (5, .int x5)] (x4 + 1) dX11_doLet_110 rfl rfl (by decide) rfl ?_
    refine S_goto C 5 dX11_doLet_113 (by decide) ?_
    exact S_sub [2, 3, 4, 1, 0] rfl (hk5 x1 x2 (0 : Int32) (x4 + 1))
  · refine S_iload C 5 dX11_doLet_99 rfl ?_
    refine S_if_eq C 108 dX11_doLet_101 (by decide) ?_ ?_
    · refine S_iconst C (0) dX11_doLet_108 (by decide) ?_
      refine S_istore_n C [(3, .int 0), (0, .ref (aC z 0)), (1, .int x1), (2, .int x2), (4, .int x4), (5, .int x5)] (i := 3) dX11_doLet_109 rfl (by decide) rfl ?_
      refine S_iinc C 4 [(4, .int (x4 + 1)), (3, .int 0), (0, .ref (aC z 0)), (1, .int x1), (2, .int x2), (5, .int x5)] (x4 + 1) dX11_doLet_110 rfl rfl (by decide) rfl ?_
      refine S_goto C 5 dX11_doLet_113 (by decide) ?_
      exact S_sub [2, 3, 4, 1, 0] rfl (hk5 x1 x2 (0 : Int32) (x4 + 1))
    · refine S_iconst C (1) dX11_doLet_104 (by decide) ?_
      refine S_goto C 109 dX11_doLet_105 (by decide) ?_
      refine S_istore_n C [(3, .int 1), (0, .ref (aC z 0)), (1, .int x1), (2, .int x2), (4, .int x4), (5, .int x5)] (i := 3) dX11_doLet_109 rfl (by decide) rfl ?_
      refine S_iinc C 4 [(4, .int (x4 + 1)), (3, .int 1), (0, .ref (aC z 0)), (1, .int x1), (2, .int x2), (5, .int x5)] (x4 + 1) dX11_doLet_110 rfl rfl (by decide) rfl ?_
      refine S_goto C 5 dX11_doLet_113 (by decide) ?_
      exact S_sub [2, 3, 4, 1, 0] rfl (hk5 x1 x2 (1 : Int32) (x4 + 1))
set_option maxRecDepth 10000 in
theorem WT_X11_doLet_L46 {x : MX} {z : ZT} (C : Cok x (wxM z) RX11 cX11_doLet 7 (some .boolean) 1 26) (σ : St) (kq5 : Int32 → Int32 → Int32 → Int32 → Option Int32) (hk5 : ∀ (x1 : Int32) (x2 : Int32) (x3 : Int32) (x4 : Int32), Sim x (wxM z) 7 (jI σ) (kq5 x1 x2 x3 x4) 5 [(0, .ref (aC z 0)), (1, .int x1), (2, .int x2), (3, .int x3), (4, .int x4)] [] σ) : ∀ (n : Nat) (x1 : Int32) (x2 : Int32) (x3 : Int32) (x4 : Int32) (x5 : Int32) (x6 : Int32), Sim x (wxM z) 7 (jI σ) (X11_doLet_L46 kq5 σ n x1 x2 x3 x4 x5 x6) 46 [(0, .ref (aC z 0)), (1, .int x1), (2, .int x2), (3, .int x3), (4, .int x4), (5, .int x5), (6, .int x6)] [] σ := by
  intro n
  induction n with
  | zero =>
    intros
    exact S_none
  | succ n ih =>
    intro x1 x2 x3 x4 x5 x6
    rw [X11_doLet_L46]
    refine S_iload C 6 dX11_doLet_46 rfl ?_
    refine S_aload_n C 0 dX11_doLet_48 rfl ?_
    refine G_X11_places C fl_X11_302 dX11_doLet_49 ?_
    refine S_icmp_ge C 95 dX11_doLet_52 (by decide) ?_ ?_
    · exact S_sub [0, 1, 2, 3, 4, 5] rfl (WT_X11_doLet_B95 C σ _ hk5 x1 x2 x3 x4 x5)
    · refine S_iload C 5 dX11_doLet_55 rfl ?_
      refine S_if_ne C 95 dX11_doLet_57 (by decide) ?_ ?_
      · exact S_sub [0, 1, 2, 3, 4, 5] rfl (WT_X11_doLet_B95 C σ _ hk5 x1 x2 x3 x4 x5)
      · refine S_iload_n C 1 dX11_doLet_60 rfl ?_
        refine S_iload C 6 dX11_doLet_61 rfl ?_
        refine S_ishr C dX11_doLet_63 ?_
        refine S_iconst C (1) dX11_doLet_64 (by decide) ?_
        refine S_iand C dX11_doLet_65 ?_
        refine S_iconst C (1) dX11_doLet_66 (by decide) ?_
        refine S_icmp_ne C 86 dX11_doLet_67 (by decide) ?_ ?_
        · refine S_iconst C (0) dX11_doLet_86 (by decide) ?_
          refine S_istore C [(5, .int 0), (0, .ref (aC z 0)), (1, .int x1), (2, .int x2), (3, .int x3), (4, .int x4), (6, .int x6)] dX11_doLet_87 (by decide) rfl ?_
          refine S_iinc C 6 [(6, .int (x6 + 1)), (5, .int 0), (0, .ref (aC z 0)), (1, .int x1), (2, .int x2), (3, .int x3), (4, .int x4)] (x6 + 1) dX11_doLet_89 rfl rfl (by decide) rfl ?_
          refine S_goto C 46 dX11_doLet_92 (by decide) ?_
          exact S_sub [2, 3, 4, 5, 6, 1, 0] rfl (ih x1 x2 x3 x4 (0 : Int32) (x6 + 1))
        · refine S_aload_n C 0 dX11_doLet_70 rfl ?_
          refine S_iload C 6 dX11_doLet_71 rfl ?_
          refine S_iload C 4 dX11_doLet_73 rfl ?_
          refine S_iload_n C 2 dX11_doLet_75 rfl ?_
          refine K_X11_lets C ml_X11_358 (by decide) (Nat.le_of_ble_eq_true rfl) dX11_doLet_76 (fun v2 => ?_)
          refine S_if_eq C 86 dX11_doLet_79 (by decide) ?_ ?_
          · refine S_iconst C (0) dX11_doLet_86 (by decide) ?_
            refine S_istore C [(5, .int 0), (0, .ref (aC z 0)), (1, .int x1), (2, .int x2), (3, .int x3), (4, .int x4), (6, .int x6)] dX11_doLet_87 (by decide) rfl ?_
            refine S_iinc C 6 [(6, .int (x6 + 1)), (5, .int 0), (0, .ref (aC z 0)), (1, .int x1), (2, .int x2), (3, .int x3), (4, .int x4)] (x6 + 1) dX11_doLet_89 rfl rfl (by decide) rfl ?_
            refine S_goto C 46 dX11_doLet_92 (by decide) ?_
            exact S_sub [2, 3, 4, 5, 6, 1, 0] rfl (ih x1 x2 x3 x4 (0 : Int32) (x6 + 1))
          · refine S_iconst C (1) dX11_doLet_82 (by decide) ?_
            refine S_goto C 87 dX11_doLet_83 (by decide) ?_
            refine S_istore C [(5, .int 1), (0, .ref (aC z 0)), (1, .int x1), (2, .int x2), (3, .int x3), (4, .int x4), (6, .int x6)] dX11_doLet_87 (by decide) rfl ?_
            refine S_iinc C 6 [(6, .int (x6 + 1)), (5, .int 1), (0, .ref (aC z 0)), (1, .int x1), (2, .int x2), (3, .int x3), (4, .int x4)] (x6 + 1) dX11_doLet_89 rfl rfl (by decide) rfl ?_
            refine S_goto C 46 dX11_doLet_92 (by decide) ?_
            exact S_sub [2, 3, 4, 5, 6, 1, 0] rfl (ih x1 x2 x3 x4 (1 : Int32) (x6 + 1))
set_option maxRecDepth 10000 in
theorem WT_X11_doLet_L5 {x : MX} {z : ZT} (C : Cok x (wxM z) RX11 cX11_doLet 7 (some .boolean) 1 26) (σ : St) : ∀ (n : Nat) (x1 : Int32) (x2 : Int32) (x3 : Int32) (x4 : Int32), Sim x (wxM z) 7 (jI σ) (X11_doLet_L5 σ n x1 x2 x3 x4) 5 [(0, .ref (aC z 0)), (1, .int x1), (2, .int x2), (3, .int x3), (4, .int x4)] [] σ := by
  intro n
  induction n with
  | zero =>
    intros
    exact S_none
  | succ n ih =>
    intro x1 x2 x3 x4
    rw [X11_doLet_L5]
    refine S_iload C 4 dX11_doLet_5 rfl ?_
    refine S_aload_n C 0 dX11_doLet_7 rfl ?_
    refine G_X11_places C fl_X11_302 dX11_doLet_8 ?_
    refine S_icmp_ge C 116 dX11_doLet_11 (by decide) ?_ ?_
    · refine S_iload_n C 3 dX11_doLet_116 rfl ?_
      exact S_chkB (fun h1 => S_zret C (nb_01 h1) rfl dX11_doLet_117)
    · refine S_aload_n C 0 dX11_doLet_14 rfl ?_
      refine G_X11_firsts C fl_X11_140 dX11_doLet_15 ?_
      refine S_iload C 4 dX11_doLet_18 rfl ?_
      refine L_X11_firsts C dX11_doLet_20 (fun _ => ?_)
      refine S_bipush C (-4) dX11_doLet_21 (by decide) ?_
      refine S_icmp_eq C 36 dX11_doLet_23 (by decide) ?_ ?_
      · refine S_iconst C (1) dX11_doLet_36 (by decide) ?_
        refine S_goto C 41 dX11_doLet_37 (by decide) ?_
        refine S_istore C [(5, .int 1), (0, .ref (aC z 0)), (1, .int x1), (2, .int x2), (3, .int x3), (4, .int x4)] dX11_doLet_41 (by decide) rfl ?_
        refine S_iconst C (0) dX11_doLet_43 (by decide) ?_
        refine S_istore C [(6, .int 0), (5, .int 1), (0, .ref (aC z 0)), (1, .int x1), (2, .int x2), (3, .int x3), (4, .int x4)] dX11_doLet_44 (by decide) rfl ?_
        exact S_sub [2, 3, 4, 5, 6, 1, 0] rfl (WT_X11_doLet_L46 C σ _ ih FU x1 x2 x3 x4 (1 : Int32) (0 : Int32))
      · refine S_iload_n C 1 dX11_doLet_26 rfl ?_
        refine S_iload C 4 dX11_doLet_27 rfl ?_
        refine S_ishr C dX11_doLet_29 ?_
        refine S_iconst C (1) dX11_doLet_30 (by decide) ?_
        refine S_iand C dX11_doLet_31 ?_
        refine S_iconst C (1) dX11_doLet_32 (by decide) ?_
        refine S_icmp_ne C 40 dX11_doLet_33 (by decide) ?_ ?_
        · refine S_iconst C (0) dX11_doLet_40 (by decide) ?_
          refine S_istore C [(5, .int 0), (0, .ref (aC z 0)), (1, .int x1), (2, .int x2), (3, .int x3), (4, .int x4)] dX11_doLet_41 (by decide) rfl ?_
          refine S_iconst C (0) dX11_doLet_43 (by decide) ?_
          refine S_istore C [(6, .int 0), (5, .int 0), (0, .ref (aC z 0)), (1, .int x1), (2, .int x2), (3, .int x3), (4, .int x4)] dX11_doLet_44 (by decide) rfl ?_
          exact S_sub [2, 3, 4, 5, 6, 1, 0] rfl (WT_X11_doLet_L46 C σ _ ih FU x1 x2 x3 x4 (0 : Int32) (0 : Int32))
        · refine S_iconst C (1) dX11_doLet_36 (by decide) ?_
          refine S_goto C 41 dX11_doLet_37 (by decide) ?_
          refine S_istore C [(5, .int 1), (0, .ref (aC z 0)), (1, .int x1), (2, .int x2), (3, .int x3), (4, .int x4)] dX11_doLet_41 (by decide) rfl ?_
          refine S_iconst C (0) dX11_doLet_43 (by decide) ?_
          refine S_istore C [(6, .int 0), (5, .int 1), (0, .ref (aC z 0)), (1, .int x1), (2, .int x2), (3, .int x3), (4, .int x4)] dX11_doLet_44 (by decide) rfl ?_
          exact S_sub [2, 3, 4, 5, 6, 1, 0] rfl (WT_X11_doLet_L46 C σ _ ih FU x1 x2 x3 x4 (1 : Int32) (0 : Int32))
set_option maxRecDepth 10000 in
theorem WT_X11_doLet {x : MX} {z : ZT} (C : Cok x (wxM z) RX11 cX11_doLet 7 (some .boolean) 1 26) (x1 : Int32) (x2 : Int32) (σ : St) : Sim x (wxM z) 7 (jI σ) (X11_doLet x1 x2 σ) 0 [(0, .ref (aC z 0)), (1, .int x1), (2, .int x2)] [] σ := by
  rw [X11_doLet]
  refine S_iconst C (1) dX11_doLet_0 (by decide) ?_
  refine S_istore_n C [(3, .int 1), (0, .ref (aC z 0)), (1, .int x1), (2, .int x2)] (i := 3) dX11_doLet_1 rfl (by decide) rfl ?_
  refine S_iconst C (0) dX11_doLet_2 (by decide) ?_
  refine S_istore C [(4, .int 0), (3, .int 1), (0, .ref (aC z 0)), (1, .int x1), (2, .int x2)] dX11_doLet_3 (by decide) rfl ?_
  exact S_sub [2, 3, 4, 1, 0] rfl (WT_X11_doLet_L5 C σ FU x1 x2 (1 : Int32) (0 : Int32))
set_option maxRecDepth 10000 in
theorem con_X11_doLet (z : ZT) (l : Launch) (x1 : Int32) (x2 : Int32) (σ : St) : ∀ ro, X11_doLet x1 x2 σ = some ro → Con (wxM z) l yX11_doLet cX11_doLet 7 (some .boolean) 1 26 [.ref (aC z 0), .int x1, .int x2] σ ((jI σ) ro) :=
  fun ro hk => Con_of hk (by decide) (Nat.le_of_ble_eq_true rfl) (fun x hx C => WT_X11_doLet C x1 x2 σ)
set_option maxRecDepth 10000 in
theorem K_X11_doLet {x : MX} {z : ZT} {own : String} {cc : ByteArray} {nL : Nat} {ret : Option FieldType} {fr lo : Nat} {ρ : Type} {inj : ρ → Option Value × St} {pc : Nat} {lv : List (Nat × Value)} {st : List Value} {σ : St} (C : Cok x (wxM z) own cc nL ret fr lo) {x1 : Int32} {x2 : Int32} {index : Nat} (hl : Cond.methodLink own index yX11_doLet ∈ gtb) (hR : 1 + 1 ≤ fr ∧ 8 + (7 + 11) + 26 ≤ lo) (hW : (st.map fun v => v.category).sum ≤ 8) (hd : decode cc pc = .ok (.invokevirtual index, 3)) {K : Int32 → Option ρ} (h : ∀ v, Sim x (wxM z) nL inj (K v) (pc + 3) lv (.int v :: st) σ) : Sim x (wxM z) nL inj ((X11_doLet x1 x2 σ).bind K) pc lv (.int x2 :: .int x1 :: .ref (aC z 0) :: st) σ :=
  S_callV C (As := [.int x1, .int x2]) (q := 0) (inj1 := (jI σ)) mw_X11_doLet mv_X11_doLet hl (fun ro hro => con_X11_doLet z (mL x) x1 x2 σ ro hro) hR rfl (show 0 < 48 by decide) rfl (ce_X11 z σ) rfl rfl hW hd h
set_option maxRecDepth 10000 in
theorem WT_X11_starts_L60 {x : MX} {z : ZT} (C : Cok x (wxM z) RX11 cX11_starts 9 (some .int) 3 77) (kq45 : Int32 → Int32 → Int32 → Int32 → Int32 → St → Option (Int32 × St)) (hk45 : ∀ (x2 : Int32) (x3 : Int32) (x4 : Int32) (x5 : Int32) (x6 : Int32) (σ : St), Sim x (wxM z) 9 jIS (kq45 x2 x3 x4 x5 x6 σ) 45 [(0, .ref (aC z 0)), (2, .int x2), (3, .int x3), (4, .int x4), (5, .int x5), (6, .int x6)] [] σ) : ∀ (n : Nat) (x2 : Int32) (x3 : Int32) (x4 : Int32) (x5 : Int32) (x6 : Int32) (x7 : Int32) (x8 : Int32) (σ : St), Sim x (wxM z) 9 jIS (X11_starts_L60 kq45 n x2 x3 x4 x5 x6 x7 x8 σ) 60 [(0, .ref (aC z 0)), (2, .int x2), (3, .int x3), (4, .int x4), (5, .int x5), (6, .int x6), (7, .int x7), (8, .int x8)] [] σ := by
  intro n
  induction n with
  | zero =>
    intros
    exact S_none
  | succ n ih =>
    intro x2 x3 x4 x5 x6 x7 x8 σ
    rw [X11_starts_L60]
    refine S_iload C 7 dX11_starts_60 rfl ?_
    refine S_if_lt C 119 dX11_starts_62 (by decide) ?_ ?_
    · refine S_iload C 6 dX11_starts_119 rfl ?_
      refine S_if_le C 155 dX11_starts_121 (by decide) ?_ ?_
      · refine S_iinc C 5 [(6, .int (x6 + 1)), (0, .ref (aC z 0)), (2, .int x2), (3, .int x3), (4, .int x4), (5, .int x5), (7, .int x7), (8, .int x8)] (x6 + 1) dX11_starts_155 rfl rfl (by decide) rfl ?_
        refine S_goto C 45 dX11_starts_158 (by decide) ?_
        exact S_sub [1, 2, 3, 4, 5, 0] rfl (hk45 x2 x3 x4 x5 (x6 + 1) σ)
      · refine S_iload_n C 1 dX11_starts_124 rfl ?_
        refine S_if_ne C 133 dX11_starts_125 (by decide) ?_ ?_
        · refine S_iload_n C 1 dX11_starts_133 rfl ?_
          refine S_iconst C (1) dX11_starts_134 (by decide) ?_
          refine S_icmp_ne C 143 dX11_starts_135 (by decide) ?_ ?_
          · refine S_iload_n C 1 dX11_starts_143 rfl ?_
            refine S_iconst C (2) dX11_starts_144 (by decide) ?_
            refine S_icmp_ne C 152 dX11_starts_145 (by decide) ?_ ?_
            · refine S_iload C 4 dX11_starts_152 rfl ?_
              exact S_iret C rfl dX11_starts_154
            · refine S_iload_n C 2 dX11_starts_148 rfl ?_
              refine S_goto C 154 dX11_starts_149 (by decide) ?_
              exact S_iret C rfl dX11_starts_154
          · refine S_iload C 3 dX11_starts_138 rfl ?_
            refine S_goto C 154 dX11_starts_140 (by decide) ?_
            exact S_iret C rfl dX11_starts_154
        · refine S_iload C 5 dX11_starts_128 rfl ?_
          refine S_goto C 154 dX11_starts_130 (by decide) ?_
          exact S_iret C rfl dX11_starts_154
    · refine S_iload C 7 dX11_starts_65 rfl ?_
      refine S_iload_n C 2 dX11_starts_67 rfl ?_
      refine S_iconst C (-1) dX11_starts_68 (by decide) ?_
      refine S_ixor C dX11_starts_69 ?_
      refine S_iand C dX11_starts_70 ?_
      refine S_if_ne C 113 dX11_starts_71 (by decide) ?_ ?_
      · refine S_iinc C 7 [(8, .int (x8 + (-1))), (0, .ref (aC z 0)), (2, .int x2), (3, .int x3), (4, .int x4), (5, .int x5), (6, .int x6), (7, .int x7)] (x8 + (-1)) dX11_starts_113 rfl rfl (by decide) rfl ?_
        refine S_goto C 60 dX11_starts_116 (by decide) ?_
        exact S_sub [1, 2, 3, 4, 5, 6, 7, 0] rfl (ih x2 x3 x4 x5 x6 x7 (x8 + (-1)) σ)
      · refine S_iload C 7 dX11_starts_74 rfl ?_
        refine K_X11_sizeOf C ml_X11_296 (by decide) (Nat.le_of_ble_eq_true rfl) dX11_starts_76 (fun v7 => ?_)
        refine S_iload C 5 dX11_starts_79 rfl ?_
        refine S_icmp_ne C 113 dX11_starts_81 (by decide) ?_ ?_
        · refine S_iinc C 7 [(8, .int (x8 + (-1))), (0, .ref (aC z 0)), (2, .int x2), (3, .int x3), (4, .int x4), (5, .int x5), (6, .int x6), (7, .int x7)] (x8 + (-1)) dX11_starts_113 rfl rfl (by decide) rfl ?_
          refine S_goto C 60 dX11_starts_116 (by decide) ?_
          exact S_sub [1, 2, 3, 4, 5, 6, 7, 0] rfl (ih x2 x3 x4 x5 x6 x7 (x8 + (-1)) σ)
        · refine S_aload_n C 0 dX11_starts_84 rfl ?_
          refine S_iload C 7 dX11_starts_85 rfl ?_
          refine S_aload_n C 0 dX11_starts_87 rfl ?_
          refine G_X11_holds C fl_X11_28 dX11_starts_88 ?_
          refine S_iconst C (3) dX11_starts_91 (by decide) ?_
          refine Lk_X11_holds C 3 (by decide) dX11_starts_92 ?_
          refine K_X11_doLet C ml_X11_367 (by decide) (Nat.le_of_ble_eq_true rfl) dX11_starts_93 (fun v8 => ?_)
          refine S_if_eq C 113 dX11_starts_96 (by decide) ?_ ?_
          · refine S_iinc C 7 [(8, .int (x8 + (-1))), (0, .ref (aC z 0)), (2, .int x2), (3, .int x3), (4, .int x4), (5, .int x5), (6, .int x6), (7, .int x7)] (x8 + (-1)) dX11_starts_113 rfl rfl (by decide) rfl ?_
            refine S_goto C 60 dX11_starts_116 (by decide) ?_
            exact S_sub [1, 2, 3, 4, 5, 6, 7, 0] rfl (ih x2 x3 x4 x5 x6 x7 (x8 + (-1)) σ)
          · refine S_iload C 7 dX11_starts_99 rfl ?_
            refine S_istore C [(4, .int x8), (0, .ref (aC z 0)), (2, .int x2), (3, .int x3), (5, .int x5), (6, .int x6), (7, .int x7), (8, .int x8)] dX11_starts_101 (by decide) rfl ?_
            refine S_iload C 4 dX11_starts_103 rfl ?_
            refine S_iload C 7 dX11_starts_105 rfl ?_
            refine S_iand C dX11_starts_107 ?_
            refine S_bndT (fun x5_9 _ => ?_)
            refine S_istore C [(5, .int x5_9), (4, .int x8), (0, .ref (aC z 0)), (2, .int x2), (3, .int x3), (6, .int x6), (7, .int x7), (8, .int x8)] dX11_starts_108 (by decide) rfl ?_
            refine S_iinc C 6 [(7, .int (x7 + 1)), (5, .int x5_9), (4, .int x8), (0, .ref (aC z 0)), (2, .int x2), (3, .int x3), (6, .int x6), (8, .int x8)] (x7 + 1) dX11_starts_110 rfl rfl (by decide) rfl ?_
            refine S_iinc C 7 [(8, .int (x8 + (-1))), (7, .int (x7 + 1)), (5, .int x5_9), (4, .int x8), (0, .ref (aC z 0)), (2, .int x2), (3, .int x3), (6, .int x6)] (x8 + (-1)) dX11_starts_113 rfl rfl (by decide) rfl ?_
            refine S_goto C 60 dX11_starts_116 (by decide) ?_
            exact S_sub [4, 5, 6, 3, 2, 7, 1, 0] rfl (ih x2 x3 x8 x5_9 x6 (x7 + 1) (x8 + (-1)) σ)
set_option maxRecDepth 10000 in
theorem WT_X11_starts_L45 {x : MX} {z : ZT} (C : Cok x (wxM z) RX11 cX11_starts 9 (some .int) 3 77) : ∀ (n : Nat) (x2 : Int32) (x3 : Int32) (x4 : Int32) (x5 : Int32) (x6 : Int32) (σ : St), Sim x (wxM z) 9 jIS (X11_starts_L45 n x2 x3 x4 x5 x6 σ) 45 [(0, .ref (aC z 0)), (2, .int x2), (3, .int x3), (4, .int x4), (5, .int x5), (6, .int x6)] [] σ := by
  intro n
  induction n with
  | zero =>
    intros
    exact S_none
  | succ n ih =>
    intro x2 x3 x4 x5 x6 σ
    rw [X11_starts_L45]
    refine S_iload C 5 dX11_starts_45 rfl ?_
    refine S_iload_n C 2 dX11_starts_47 rfl ?_
    refine K_X11_sizeOf C ml_X11_296 (by decide) (Nat.le_of_ble_eq_true rfl) dX11_starts_48 (fun v6 => ?_)
    refine S_icmp_gt C 161 dX11_starts_51 (by decide) ?_ ?_
    · refine S_iconst C (-1) dX11_starts_161 (by decide) ?_
      exact S_iret C rfl dX11_starts_162
    · refine S_iconst C (0) dX11_starts_54 (by decide) ?_
      refine S_istore C [(7, .int 0), (0, .ref (aC z 0)), (2, .int x2), (3, .int x3), (4, .int x4), (5, .int x5), (6, .int x6)] dX11_starts_55 (by decide) rfl ?_
      refine S_iload_n C 3 dX11_starts_57 rfl ?_
      refine S_istore C [(8, .int x3), (7, .int 0), (0, .ref (aC z 0)), (2, .int x2), (3, .int x3), (4, .int x4), (5, .int x5), (6, .int x6)] dX11_starts_58 (by decide) rfl ?_
      exact S_sub [2, 3, 4, 5, 6, 7, 1, 0] rfl (WT_X11_starts_L60 C _ ih FU x2 x3 x4 x5 x6 (0 : Int32) x3 σ)
set_option maxRecDepth 10000 in
theorem WT_X11_starts {x : MX} {z : ZT} (C : Cok x (wxM z) RX11 cX11_starts 9 (some .int) 3 77) (x1 : Int32) (x2 : Int32) (σ : St) : Sim x (wxM z) 9 jIS (X11_starts x1 x2 σ) 0 [(0, .ref (aC z 0)), (1, .int x1), (2, .int x2)] [] σ := by
  rw [X11_starts]
  refine S_aload_n C 0 dX11_starts_0 rfl ?_
  refine S_iload_n C 1 dX11_starts_1 rfl ?_
  refine K_X11_isSpelling C ml_X11_166 (by decide) (Nat.le_of_ble_eq_true rfl) dX11_starts_2 (fun v1 => ?_)
  refine S_if_eq C 20 dX11_starts_5 (by decide) ?_ ?_
  · refine S_iconst C (-1) dX11_starts_20 (by decide) ?_
    exact S_iret C rfl dX11_starts_21
  · refine S_iload_n C 2 dX11_starts_8 rfl ?_
    refine S_i2l C dX11_starts_9 ?_
    refine S_lconst C (0) dX11_starts_10 (by decide) ?_
    refine S_ldc2 C (3) kl_X11_362 dX11_starts_11 ?_
    refine K_X11_in C ml_X11_156 (by decide) (Nat.le_of_ble_eq_true rfl) dX11_starts_14 (fun v2 => ?_)
    refine S_if_ne C 22 dX11_starts_17 (by decide) ?_ ?_
    · refine S_aload_n C 0 dX11_starts_22 rfl ?_
      refine K_X11_layNames C ml_X11_279 (by decide) (Nat.le_of_ble_eq_true rfl) dX11_starts_23 (fun σ3 => ?_)
      refine S_aload_n C 0 dX11_starts_26 rfl ?_
      refine S_iload_n C 1 dX11_starts_27 rfl ?_
      refine K_X11_layFirsts C ml_X11_355 (by decide) (Nat.le_of_ble_eq_true rfl) dX11_starts_28 (fun σ4 => ?_)
      refine S_aload_n C 0 dX11_starts_31 rfl ?_
      refine K_X11_withFirst C ml_X11_364 (by decide) (Nat.le_of_ble_eq_true rfl) dX11_starts_32 (fun v5 => ?_)
      refine S_istore_n C [(3, .int v5), (0, .ref (aC z 0)), (1, .int x1), (2, .int x2)] (i := 3) dX11_starts_35 rfl (by decide) rfl ?_
      refine S_iload_n C 0 dX11_starts_36 rfl ?_
      refine S_istore C [(4, .int v5), (3, .int v5), (0, .ref (aC z 0)), (1, .int x1), (2, .int x2)] dX11_starts_37 (by decide) rfl ?_
      refine S_iload_n C 1 dX11_starts_39 rfl ?_
      refine S_istore C [(5, .int v5), (4, .int v5), (3, .int v5), (0, .ref (aC z 0)), (1, .int x1), (2, .int x2)] dX11_starts_40 (by decide) rfl ?_
      refine S_iconst C (0) dX11_starts_42 (by decide) ?_
      refine S_istore C [(6, .int 0), (5, .int v5), (4, .int v5), (3, .int v5), (0, .ref (aC z 0)), (1, .int x1), (2, .int x2)] dX11_starts_43 (by decide) rfl ?_
      exact S_sub [4, 6, 3, 2, 1, 0] rfl (WT_X11_starts_L45 C FU x2 v5 v5 v5 (0 : Int32) σ4)
    · refine S_iconst C (-1) dX11_starts_20 (by decide) ?_
      exact S_iret C rfl dX11_starts_21
set_option maxRecDepth 10000 in
theorem con_X11_starts (z : ZT) (l : Launch) (x1 : Int32) (x2 : Int32) (σ : St) : ∀ ro, X11_starts x1 x2 σ = some ro → Con (wxM z) l yX11_starts cX11_starts 9 (some .int) 3 77 [.ref (aC z 0), .int x1, .int x2] σ (jIS ro) :=
  fun ro hk => Con_of hk (by decide) (Nat.le_of_ble_eq_true rfl) (fun x hx C => WT_X11_starts C x1 x2 σ)
set_option maxRecDepth 10000 in
theorem K_X11_starts {x : MX} {z : ZT} {own : String} {cc : ByteArray} {nL : Nat} {ret : Option FieldType} {fr lo : Nat} {ρ : Type} {inj : ρ → Option Value × St} {pc : Nat} {lv : List (Nat × Value)} {st : List Value} {σ : St} (C : Cok x (wxM z) own cc nL ret fr lo) {x1 : Int32} {x2 : Int32} {index : Nat} (hl : Cond.methodLink own index yX11_starts ∈ gtb) (hR : 3 + 1 ≤ fr ∧ 8 + (9 + 11) + 77 ≤ lo) (hW : (st.map fun v => v.category).sum ≤ 8) (hd : decode cc pc = .ok (.invokevirtual index, 3)) {K : (Int32 × St) → Option ρ} (h : ∀ v, Sim x (wxM z) nL inj (K v) (pc + 3) lv (.int v.1 :: st) v.2) : Sim x (wxM z) nL inj ((X11_starts x1 x2 σ).bind K) pc lv (.int x2 :: .int x1 :: .ref (aC z 0) :: st) σ :=
  S_callV C (As := [.int x1, .int x2]) (q := 0) (inj1 := jIS) mw_X11_starts mv_X11_starts hl (fun ro hro => con_X11_starts z (mL x) x1 x2 σ ro hro) hR rfl (show 0 < 48 by decide) rfl (ce_X11 z σ) rfl rfl hW hd h
set_option maxRecDepth 10000 in
theorem WT_X11_judge {x : MX} {z : ZT} (C : Cok x (wxM z) RX11 cX11_judge 3 (some .int) 3 77) (x1 : Int32) (x2 : Int32) (σ : St) : Sim x (wxM z) 3 jIS (X11_judge x1 x2 σ) 0 [(0, .ref (aC z 0)), (1, .int x1), (2, .int x2)] [] σ := by
  rw [X11_judge]
  refine S_aload_n C 0 dX11_judge_0 rfl ?_
  refine S_iload_n C 1 dX11_judge_1 rfl ?_
  refine K_X11_isSpelling C ml_X11_166 (by decide) (Nat.le_of_ble_eq_true rfl) dX11_judge_2 (fun v1 => ?_)
  refine S_if_eq C 26 dX11_judge_5 (by decide) ?_ ?_
  · refine S_iconst C (-1) dX11_judge_26 (by decide) ?_
    exact S_iret C rfl dX11_judge_27
  · refine S_iload_n C 2 dX11_judge_8 rfl ?_
    refine S_i2l C dX11_judge_9 ?_
    refine S_lconst C (0) dX11_judge_10 (by decide) ?_
    refine S_iconst C (1) dX11_judge_11 (by decide) ?_
    refine S_aload_n C 0 dX11_judge_12 rfl ?_
    refine G_X11_places C fl_X11_302 dX11_judge_13 ?_
    refine S_ishl C dX11_judge_16 ?_
    refine S_iconst C (1) dX11_judge_17 (by decide) ?_
    refine S_isub C dX11_judge_18 ?_
    refine S_i2l C dX11_judge_19 ?_
    refine K_X11_in C ml_X11_156 (by decide) (Nat.le_of_ble_eq_true rfl) dX11_judge_20 (fun v2 => ?_)
    refine S_if_ne C 28 dX11_judge_23 (by decide) ?_ ?_
    · refine S_aload_n C 0 dX11_judge_28 rfl ?_
      refine K_X11_layNames C ml_X11_279 (by decide) (Nat.le_of_ble_eq_true rfl) dX11_judge_29 (fun σ3 => ?_)
      refine S_aload_n C 0 dX11_judge_32 rfl ?_
      refine S_iload_n C 1 dX11_judge_33 rfl ?_
      refine K_X11_layFirsts C ml_X11_355 (by decide) (Nat.le_of_ble_eq_true rfl) dX11_judge_34 (fun σ4 => ?_)
      refine S_iload_n C 2 dX11_judge_37 rfl ?_
      refine S_aload_n C 0 dX11_judge_38 rfl ?_
      refine K_X11_withFirst C ml_X11_364 (by decide) (Nat.le_of_ble_eq_true rfl) dX11_judge_39 (fun v5 => ?_)
      refine S_iconst C (-1) dX11_judge_42 (by decide) ?_
      refine S_ixor C dX11_judge_43 ?_
      refine S_iand C dX11_judge_44 ?_
      refine S_if_eq C 51 dX11_judge_45 (by decide) ?_ ?_
      · refine S_aload_n C 0 dX11_judge_51 rfl ?_
        refine S_iload_n C 2 dX11_judge_52 rfl ?_
        refine S_aload_n C 0 dX11_judge_53 rfl ?_
        refine G_X11_holds C fl_X11_28 dX11_judge_54 ?_
        refine S_iconst C (3) dX11_judge_57 (by decide) ?_
        refine Lk_X11_holds C 3 (by decide) dX11_judge_58 ?_
        refine K_X11_doLet C ml_X11_367 (by decide) (Nat.le_of_ble_eq_true rfl) dX11_judge_59 (fun v6 => ?_)
        refine S_if_eq C 69 dX11_judge_62 (by decide) ?_ ?_
        · refine S_iconst C (0) dX11_judge_69 (by decide) ?_
          exact S_iret C rfl dX11_judge_70
        · refine S_iconst C (1) dX11_judge_65 (by decide) ?_
          refine S_goto C 70 dX11_judge_66 (by decide) ?_
          exact S_iret C rfl dX11_judge_70
      · refine S_bipush C (-2) dX11_judge_48 (by decide) ?_
        exact S_iret C rfl dX11_judge_50
    · refine S_iconst C (-1) dX11_judge_26 (by decide) ?_
      exact S_iret C rfl dX11_judge_27
set_option maxRecDepth 10000 in
theorem con_X11_judge (z : ZT) (l : Launch) (x1 : Int32) (x2 : Int32) (σ : St) : ∀ ro, X11_judge x1 x2 σ = some ro → Con (wxM z) l yX11_judge cX11_judge 3 (some .int) 3 77 [.ref (aC z 0), .int x1, .int x2] σ (jIS ro) :=
  fun ro hk => Con_of hk (by decide) (Nat.le_of_ble_eq_true rfl) (fun x hx C => WT_X11_judge C x1 x2 σ)
set_option maxRecDepth 10000 in
theorem K_X11_judge {x : MX} {z : ZT} {own : String} {cc : ByteArray} {nL : Nat} {ret : Option FieldType} {fr lo : Nat} {ρ : Type} {inj : ρ → Option Value × St} {pc : Nat} {lv : List (Nat × Value)} {st : List Value} {σ : St} (C : Cok x (wxM z) own cc nL ret fr lo) {x1 : Int32} {x2 : Int32} {index : Nat} (hl : Cond.methodLink own index yX11_judge ∈ gtb) (hR : 3 + 1 ≤ fr ∧ 8 + (3 + 11) + 77 ≤ lo) (hW : (st.map fun v => v.category).sum ≤ 8) (hd : decode cc pc = .ok (.invokevirtual index, 3)) {K : (Int32 × St) → Option ρ} (h : ∀ v, Sim x (wxM z) nL inj (K v) (pc + 3) lv (.int v.1 :: st) v.2) : Sim x (wxM z) nL inj ((X11_judge x1 x2 σ).bind K) pc lv (.int x2 :: .int x1 :: .ref (aC z 0) :: st) σ :=
  S_callV C (As := [.int x1, .int x2]) (q := 0) (inj1 := jIS) mw_X11_judge mv_X11_judge hl (fun ro hro => con_X11_judge z (mL x) x1 x2 σ ro hro) hR rfl (show 0 < 48 by decide) rfl (ce_X11 z σ) rfl rfl hW hd h
set_option maxRecDepth 10000 in
theorem WT_X11_pace_L29 {x : MX} {z : ZT} (C : Cok x (wxM z) RX11 cX11_pace 4 (some .int) 3 77) (kq21 : Int32 → St → Option (Int32 × St)) (hk21 : ∀ (x2 : Int32) (σ : St), Sim x (wxM z) 4 jIS (kq21 x2 σ) 21 [(0, .ref (aC z 0)), (2, .int x2)] [] σ) : ∀ (n : Nat) (x2 : Int32) (x3 : Int32) (σ : St), Sim x (wxM z) 4 jIS (X11_pace_L29 kq21 n x2 x3 σ) 29 [(0, .ref (aC z 0)), (2, .int x2), (3, .int x3)] [] σ := by
  intro n
  induction n with
  | zero =>
    intros
    exact S_none
  | succ n ih =>
    intro x2 x3 σ
    rw [X11_pace_L29]
    refine S_iload_n C 2 dX11_pace_29 rfl ?_
    refine S_aload_n C 0 dX11_pace_30 rfl ?_
    refine G_X11_places C fl_X11_302 dX11_pace_31 ?_
    refine S_icmp_ge C 67 dX11_pace_34 (by decide) ?_ ?_
    · refine S_iinc C 1 [(2, .int (x2 + 1)), (0, .ref (aC z 0)), (3, .int x3)] (x2 + 1) dX11_pace_67 rfl rfl (by decide) rfl ?_
      refine S_goto C 21 dX11_pace_70 (by decide) ?_
      exact S_sub [1, 0] rfl (hk21 (x2 + 1) σ)
    · refine S_aload_n C 0 dX11_pace_37 rfl ?_
      refine G_X11_firsts C fl_X11_140 dX11_pace_38 ?_
      refine S_iload_n C 2 dX11_pace_41 rfl ?_
      refine L_X11_firsts C dX11_pace_42 (fun _ => ?_)
      refine S_bipush C (-4) dX11_pace_43 (by decide) ?_
      refine S_icmp_eq C 61 dX11_pace_45 (by decide) ?_ ?_
      · refine S_iinc C 2 [(3, .int (x3 + 1)), (0, .ref (aC z 0)), (2, .int x2)] (x3 + 1) dX11_pace_61 rfl rfl (by decide) rfl ?_
        refine S_goto C 29 dX11_pace_64 (by decide) ?_
        exact S_sub [1, 2, 0] rfl (ih x2 (x3 + 1) σ)
      · refine S_aload_n C 0 dX11_pace_48 rfl ?_
        refine S_iconst C (1) dX11_pace_49 (by decide) ?_
        refine S_iload_n C 2 dX11_pace_50 rfl ?_
        refine S_ishl C dX11_pace_51 ?_
        refine S_iload_n C 1 dX11_pace_52 rfl ?_
        refine K_X11_doLet C ml_X11_367 (by decide) (Nat.le_of_ble_eq_true rfl) dX11_pace_53 (fun v4 => ?_)
        refine S_if_eq C 61 dX11_pace_56 (by decide) ?_ ?_
        · refine S_iinc C 2 [(3, .int (x3 + 1)), (0, .ref (aC z 0)), (2, .int x2)] (x3 + 1) dX11_pace_61 rfl rfl (by decide) rfl ?_
          refine S_goto C 29 dX11_pace_64 (by decide) ?_
          exact S_sub [1, 2, 0] rfl (ih x2 (x3 + 1) σ)
        · refine S_iload_n C 1 dX11_pace_59 rfl ?_
          exact S_iret C rfl dX11_pace_60
set_option maxRecDepth 10000 in
theorem WT_X11_pace_L21 {x : MX} {z : ZT} (C : Cok x (wxM z) RX11 cX11_pace 4 (some .int) 3 77) : ∀ (n : Nat) (x2 : Int32) (σ : St), Sim x (wxM z) 4 jIS (X11_pace_L21 n x2 σ) 21 [(0, .ref (aC z 0)), (2, .int x2)] [] σ := by
  intro n
  induction n with
  | zero =>
    intros
    exact S_none
  | succ n ih =>
    intro x2 σ
    rw [X11_pace_L21]
    refine S_iload_n C 1 dX11_pace_21 rfl ?_
    refine S_bipush C (20) dX11_pace_22 (by decide) ?_
    refine S_icmp_gt C 73 dX11_pace_24 (by decide) ?_ ?_
    · refine S_bipush C (-4) dX11_pace_73 (by decide) ?_
      exact S_iret C rfl dX11_pace_75
    · refine S_iconst C (0) dX11_pace_27 (by decide) ?_
      refine S_istore_n C [(3, .int 0), (0, .ref (aC z 0)), (2, .int x2)] (i := 3) dX11_pace_28 rfl (by decide) rfl ?_
      exact S_sub [1, 2, 0] rfl (WT_X11_pace_L29 C _ ih FU x2 (0 : Int32) σ)
set_option maxRecDepth 10000 in
theorem WT_X11_pace {x : MX} {z : ZT} (C : Cok x (wxM z) RX11 cX11_pace 4 (some .int) 3 77) (x1 : Int32) (σ : St) : Sim x (wxM z) 4 jIS (X11_pace x1 σ) 0 [(0, .ref (aC z 0)), (1, .int x1)] [] σ := by
  rw [X11_pace]
  refine S_aload_n C 0 dX11_pace_0 rfl ?_
  refine S_iload_n C 1 dX11_pace_1 rfl ?_
  refine K_X11_isSpelling C ml_X11_166 (by decide) (Nat.le_of_ble_eq_true rfl) dX11_pace_2 (fun v1 => ?_)
  refine S_if_ne C 10 dX11_pace_5 (by decide) ?_ ?_
  · refine S_aload_n C 0 dX11_pace_10 rfl ?_
    refine K_X11_layNames C ml_X11_279 (by decide) (Nat.le_of_ble_eq_true rfl) dX11_pace_11 (fun σ2 => ?_)
    refine S_aload_n C 0 dX11_pace_14 rfl ?_
    refine S_iload_n C 1 dX11_pace_15 rfl ?_
    refine K_X11_layFirsts C ml_X11_355 (by decide) (Nat.le_of_ble_eq_true rfl) dX11_pace_16 (fun σ3 => ?_)
    refine S_iconst C (1) dX11_pace_19 (by decide) ?_
    refine S_istore_n C [(2, .int 1), (0, .ref (aC z 0)), (1, .int x1)] (i := 2) dX11_pace_20 rfl (by decide) rfl ?_
    exact S_sub [1, 0] rfl (WT_X11_pace_L21 C FU (1 : Int32) σ3)
  · refine S_iconst C (-1) dX11_pace_8 (by decide) ?_
    exact S_iret C rfl dX11_pace_9
set_option maxRecDepth 10000 in
theorem con_X11_pace (z : ZT) (l : Launch) (x1 : Int32) (σ : St) : ∀ ro, X11_pace x1 σ = some ro → Con (wxM z) l yX11_pace cX11_pace 4 (some .int) 3 77 [.ref (aC z 0), .int x1] σ (jIS ro) :=
  fun ro hk => Con_of hk (by decide) (Nat.le_of_ble_eq_true rfl) (fun x hx C => WT_X11_pace C x1 σ)
set_option maxRecDepth 10000 in
theorem K_X11_pace {x : MX} {z : ZT} {own : String} {cc : ByteArray} {nL : Nat} {ret : Option FieldType} {fr lo : Nat} {ρ : Type} {inj : ρ → Option Value × St} {pc : Nat} {lv : List (Nat × Value)} {st : List Value} {σ : St} (C : Cok x (wxM z) own cc nL ret fr lo) {x1 : Int32} {index : Nat} (hl : Cond.methodLink own index yX11_pace ∈ gtb) (hR : 3 + 1 ≤ fr ∧ 8 + (4 + 11) + 77 ≤ lo) (hW : (st.map fun v => v.category).sum ≤ 8) (hd : decode cc pc = .ok (.invokevirtual index, 3)) {K : (Int32 × St) → Option ρ} (h : ∀ v, Sim x (wxM z) nL inj (K v) (pc + 3) lv (.int v.1 :: st) v.2) : Sim x (wxM z) nL inj ((X11_pace x1 σ).bind K) pc lv (.int x1 :: .ref (aC z 0) :: st) σ :=
  S_callV C (As := [.int x1]) (q := 0) (inj1 := jIS) mw_X11_pace mv_X11_pace hl (fun ro hro => con_X11_pace z (mL x) x1 σ ro hro) hR rfl (show 0 < 48 by decide) rfl (ce_X11 z σ) rfl rfl hW hd h
set_option maxRecDepth 10000 in
theorem WT_X11_dies_L179 {x : MX} {z : ZT} (C : Cok x (wxM z) RX11 cX11_dies 15 (some .long) 1 25) (σ : St) : ∀ (n : Nat) (x2 : Int32) (x5 : Int64) (x7 : Int64) (x9 : Int64) (x11 : Int64), Sim x (wxM z) 15 (jL σ) (X11_dies_L179 σ n x2 x5 x7 x9 x11) 179 [(2, .int x2), (5, .long x5), (7, .long x7), (9, .long x9), (11, .long x11)] [] σ := by
  intro n
  induction n with
  | zero =>
    intros
    exact S_none
  | succ n ih =>
    intro x2 x5 x7 x9 x11
    rw [X11_dies_L179]
    refine S_lload C 4 dX11_dies_179 rfl ?_
    refine S_lconst C (0) dX11_dies_181 (by decide) ?_
    refine S_lc_eq C 204 dX11_dies_182 dX11_dies_183 (by decide) ?_ ?_
    · refine S_iload_n C 0 dX11_dies_204 rfl ?_
      refine S_if_ne C 213 dX11_dies_205 (by decide) ?_ ?_
      · refine S_lload C 2 dX11_dies_213 rfl ?_
        refine S_lload C 3 dX11_dies_215 rfl ?_
        refine S_ldiv C dX11_dies_217 ?_
        exact S_lret C rfl dX11_dies_218
      · refine S_lload C 1 dX11_dies_208 rfl ?_
        refine S_goto C 215 dX11_dies_210 (by decide) ?_
        refine S_lload C 3 dX11_dies_215 rfl ?_
        refine S_ldiv C dX11_dies_217 ?_
        exact S_lret C rfl dX11_dies_218
    · refine S_lload C 3 dX11_dies_186 rfl ?_
      refine S_lload C 4 dX11_dies_188 rfl ?_
      refine S_lrem C dX11_dies_190 ?_
      refine S_bndTL (fun x13_5 _ => ?_)
      refine S_lstore C [(13, .long x13_5), (2, .int x2), (5, .long x5), (7, .long x7), (9, .long x9), (11, .long x11)] dX11_dies_191 (by decide) rfl ?_
      refine S_lload C 5 dX11_dies_193 rfl ?_
      refine S_lstore C [(9, .long x11), (13, .long x13_5), (2, .int x2), (5, .long x5), (7, .long x7), (11, .long x11)] dX11_dies_195 (by decide) rfl ?_
      refine S_lload C 1 dX11_dies_197 rfl ?_
      refine S_lstore C [(11, .long x13_5), (9, .long x11), (13, .long x13_5), (2, .int x2), (5, .long x5), (7, .long x7)] dX11_dies_199 (by decide) rfl ?_
      refine S_goto C 179 dX11_dies_201 (by decide) ?_
      exact S_sub [3, 4, 5, 1, 0] rfl (ih x2 x5 x7 x11 x13_5)
set_option maxRecDepth 10000 in
theorem WT_X11_dies_L72 {x : MX} {z : ZT} (C : Cok x (wxM z) RX11 cX11_dies 15 (some .long) 1 25) (σ : St) : ∀ (n : Nat) (x1 : Int32) (x2 : Int32) (x3 : Int64) (x5 : Int64) (x7 : Int64) (x9 : Int32), Sim x (wxM z) 15 (jL σ) (X11_dies_L72 σ n x1 x2 x3 x5 x7 x9) 72 [(0, .ref (aC z 0)), (1, .int x1), (2, .int x2), (3, .long x3), (5, .long x5), (7, .long x7), (9, .int x9)] [] σ := by
  intro n
  induction n with
  | zero =>
    intros
    exact S_none
  | succ n ih =>
    intro x1 x2 x3 x5 x7 x9
    rw [X11_dies_L72]
    refine S_iload C 6 dX11_dies_72 rfl ?_
    refine S_iload_n C 1 dX11_dies_74 rfl ?_
    refine S_icmp_ge C 171 dX11_dies_75 (by decide) ?_ ?_
    · refine S_lload C 4 dX11_dies_171 rfl ?_
      refine S_lstore C [(9, .long x5), (0, .ref (aC z 0)), (1, .int x1), (2, .int x2), (3, .long x3), (5, .long x5), (7, .long x7)] dX11_dies_173 (by decide) rfl ?_
      refine S_lload C 6 dX11_dies_175 rfl ?_
      refine S_lstore C [(11, .long x7), (9, .long x5), (0, .ref (aC z 0)), (1, .int x1), (2, .int x2), (3, .long x3), (5, .long x5), (7, .long x7)] dX11_dies_177 (by decide) rfl ?_
      exact S_sub [4, 6, 7, 1, 0] rfl (WT_X11_dies_L179 C σ FU x2 x5 x7 x5 x7)
    · refine S_aload_n C 0 dX11_dies_78 rfl ?_
      refine G_X11_holds C fl_X11_28 dX11_dies_79 ?_
      refine S_iconst C (4) dX11_dies_82 (by decide) ?_
      refine Lk_X11_holds C 4 (by decide) dX11_dies_83 ?_
      refine S_i2l C dX11_dies_84 ?_
      refine S_lload C 5 dX11_dies_85 rfl ?_
      refine S_lmul C dX11_dies_87 ?_
      refine S_lload C 5 dX11_dies_88 rfl ?_
      refine S_lmul C dX11_dies_90 ?_
      refine S_lload C 5 dX11_dies_91 rfl ?_
      refine S_lmul C dX11_dies_93 ?_
      refine S_aload_n C 0 dX11_dies_94 rfl ?_
      refine G_X11_holds C fl_X11_28 dX11_dies_95 ?_
      refine S_iconst C (5) dX11_dies_98 (by decide) ?_
      refine Lk_X11_holds C 5 (by decide) dX11_dies_99 ?_
      refine S_i2l C dX11_dies_100 ?_
      refine S_lload C 4 dX11_dies_101 rfl ?_
      refine S_lmul C dX11_dies_103 ?_
      refine S_lload C 5 dX11_dies_104 rfl ?_
      refine S_lmul C dX11_dies_106 ?_
      refine S_lload C 5 dX11_dies_107 rfl ?_
      refine S_lmul C dX11_dies_109 ?_
      refine S_ladd C dX11_dies_110 ?_
      refine S_aload_n C 0 dX11_dies_111 rfl ?_
      refine G_X11_holds C fl_X11_28 dX11_dies_112 ?_
      refine S_bipush C (6) dX11_dies_115 (by decide) ?_
      refine Lk_X11_holds C 6 (by decide) dX11_dies_117 ?_
      refine S_i2l C dX11_dies_118 ?_
      refine S_lload C 4 dX11_dies_119 rfl ?_
      refine S_lmul C dX11_dies_121 ?_
      refine S_lload C 4 dX11_dies_122 rfl ?_
      refine S_lmul C dX11_dies_124 ?_
      refine S_lload C 5 dX11_dies_125 rfl ?_
      refine S_lmul C dX11_dies_127 ?_
      refine S_ladd C dX11_dies_128 ?_
      refine S_aload_n C 0 dX11_dies_129 rfl ?_
      refine G_X11_holds C fl_X11_28 dX11_dies_130 ?_
      refine S_bipush C (7) dX11_dies_133 (by decide) ?_
      refine Lk_X11_holds C 7 (by decide) dX11_dies_135 ?_
      refine S_i2l C dX11_dies_136 ?_
      refine S_lload C 4 dX11_dies_137 rfl ?_
      refine S_lmul C dX11_dies_139 ?_
      refine S_lload C 4 dX11_dies_140 rfl ?_
      refine S_lmul C dX11_dies_142 ?_
      refine S_lload C 4 dX11_dies_143 rfl ?_
      refine S_lmul C dX11_dies_145 ?_
      refine S_ladd C dX11_dies_146 ?_
      refine S_bndTL (fun x10_6 _ => ?_)
      refine S_lstore C [(10, .long x10_6), (0, .ref (aC z 0)), (1, .int x1), (2, .int x2), (3, .long x3), (5, .long x5), (7, .long x7), (9, .int x9)] dX11_dies_147 (by decide) rfl ?_
      refine S_lload_n C 4 dX11_dies_149 rfl ?_
      refine S_lload C 6 dX11_dies_150 rfl ?_
      refine S_lmul C dX11_dies_152 ?_
      refine S_lload C 6 dX11_dies_153 rfl ?_
      refine S_lmul C dX11_dies_155 ?_
      refine S_lload C 6 dX11_dies_156 rfl ?_
      refine S_lmul C dX11_dies_158 ?_
      refine S_bndTL (fun x7_7 _ => ?_)
      refine S_lstore C [(7, .long x7_7), (10, .long x10_6), (0, .ref (aC z 0)), (1, .int x1), (2, .int x2), (3, .long x3), (5, .long x5), (9, .int x9)] dX11_dies_159 (by decide) rfl ?_
      refine S_lload C 1 dX11_dies_161 rfl ?_
      refine S_lstore C [(5, .long x10_6), (7, .long x7_7), (10, .long x10_6), (0, .ref (aC z 0)), (1, .int x1), (2, .int x2), (3, .long x3), (9, .int x9)] dX11_dies_163 (by decide) rfl ?_
      refine S_iinc C 7 [(9, .int (x9 + 1)), (5, .long x10_6), (7, .long x7_7), (10, .long x10_6), (0, .ref (aC z 0)), (1, .int x1), (2, .int x2), (3, .long x3)] (x9 + 1) dX11_dies_165 rfl rfl (by decide) rfl ?_
      refine S_goto C 72 dX11_dies_168 (by decide) ?_
      exact S_sub [4, 5, 6, 7, 1, 2, 0] rfl (ih x1 x2 x3 x10_6 x7_7 (x9 + 1))
set_option maxRecDepth 10000 in
theorem WT_X11_dies {x : MX} {z : ZT} (C : Cok x (wxM z) RX11 cX11_dies 15 (some .long) 1 25) (x1 : Int32) (x2 : Int32) (σ : St) : Sim x (wxM z) 15 (jL σ) (X11_dies x1 x2 σ) 0 [(0, .ref (aC z 0)), (1, .int x1), (2, .int x2)] [] σ := by
  rw [X11_dies]
  refine S_iload_n C 1 dX11_dies_0 rfl ?_
  refine S_i2l C dX11_dies_1 ?_
  refine S_lconst C (1) dX11_dies_2 (by decide) ?_
  refine S_ldc2 C (3) kl_X11_362 dX11_dies_3 ?_
  refine K_X11_in C ml_X11_156 (by decide) (Nat.le_of_ble_eq_true rfl) dX11_dies_6 (fun v1 => ?_)
  refine S_if_eq C 22 dX11_dies_9 (by decide) ?_ ?_
  · refine S_ldc2 C (-1) kl_X11_170 dX11_dies_22 ?_
    exact S_lret C rfl dX11_dies_25
  · refine S_iload_n C 2 dX11_dies_12 rfl ?_
    refine S_i2l C dX11_dies_13 ?_
    refine S_lconst C (0) dX11_dies_14 (by decide) ?_
    refine S_lconst C (1) dX11_dies_15 (by decide) ?_
    refine K_X11_in C ml_X11_156 (by decide) (Nat.le_of_ble_eq_true rfl) dX11_dies_16 (fun v2 => ?_)
    refine S_if_ne C 26 dX11_dies_19 (by decide) ?_ ?_
    · refine S_aload_n C 0 dX11_dies_26 rfl ?_
      refine G_X11_holds C fl_X11_28 dX11_dies_27 ?_
      refine S_iconst C (4) dX11_dies_30 (by decide) ?_
      refine Lk_X11_holds C 4 (by decide) dX11_dies_31 ?_
      refine S_aload_n C 0 dX11_dies_32 rfl ?_
      refine G_X11_holds C fl_X11_28 dX11_dies_33 ?_
      refine S_iconst C (5) dX11_dies_36 (by decide) ?_
      refine Lk_X11_holds C 5 (by decide) dX11_dies_37 ?_
      refine S_iadd C dX11_dies_38 ?_
      refine S_aload_n C 0 dX11_dies_39 rfl ?_
      refine G_X11_holds C fl_X11_28 dX11_dies_40 ?_
      refine S_bipush C (6) dX11_dies_43 (by decide) ?_
      refine Lk_X11_holds C 6 (by decide) dX11_dies_45 ?_
      refine S_iadd C dX11_dies_46 ?_
      refine S_aload_n C 0 dX11_dies_47 rfl ?_
      refine G_X11_holds C fl_X11_28 dX11_dies_48 ?_
      refine S_bipush C (7) dX11_dies_51 (by decide) ?_
      refine Lk_X11_holds C 7 (by decide) dX11_dies_53 ?_
      refine S_iadd C dX11_dies_54 ?_
      refine S_i2l C dX11_dies_55 ?_
      refine S_bndTL (fun x3_3 _ => ?_)
      refine S_lstore_n C [(3, .long x3_3), (0, .ref (aC z 0)), (1, .int x1), (2, .int x2)] (i := 3) dX11_dies_56 rfl (by decide) rfl ?_
      refine S_aload_n C 1 dX11_dies_57 rfl ?_
      refine G_X11_holds C fl_X11_28 dX11_dies_58 ?_
      refine S_iconst C (4) dX11_dies_61 (by decide) ?_
      refine Lk_X11_holds C 4 (by decide) dX11_dies_62 ?_
      refine S_i2l C dX11_dies_63 ?_
      refine S_bndTL (fun x5_4 _ => ?_)
      refine S_lstore C [(5, .long x5_4), (3, .long x3_3), (0, .ref (aC z 0)), (1, .int x1), (2, .int x2)] dX11_dies_64 (by decide) rfl ?_
      refine S_lload_n C 1 dX11_dies_66 rfl ?_
      refine S_lstore C [(7, .long x3_3), (5, .long x5_4), (3, .long x3_3), (0, .ref (aC z 0)), (1, .int x1), (2, .int x2)] dX11_dies_67 (by decide) rfl ?_
      refine S_iconst C (1) dX11_dies_69 (by decide) ?_
      refine S_istore C [(9, .int 1), (7, .long x3_3), (5, .long x5_4), (3, .long x3_3), (0, .ref (aC z 0)), (1, .int x1), (2, .int x2)] dX11_dies_70 (by decide) rfl ?_
      exact S_sub [4, 5, 6, 3, 2, 1, 0] rfl (WT_X11_dies_L72 C σ FU x1 x2 x3_3 x5_4 x3_3 (1 : Int32))
    · refine S_ldc2 C (-1) kl_X11_170 dX11_dies_22 ?_
      exact S_lret C rfl dX11_dies_25
set_option maxRecDepth 10000 in
theorem con_X11_dies (z : ZT) (l : Launch) (x1 : Int32) (x2 : Int32) (σ : St) : ∀ ro, X11_dies x1 x2 σ = some ro → Con (wxM z) l yX11_dies cX11_dies 15 (some .long) 1 25 [.ref (aC z 0), .int x1, .int x2] σ ((jL σ) ro) :=
  fun ro hk => Con_of hk (by decide) (Nat.le_of_ble_eq_true rfl) (fun x hx C => WT_X11_dies C x1 x2 σ)
set_option maxRecDepth 10000 in
theorem K_X11_dies {x : MX} {z : ZT} {own : String} {cc : ByteArray} {nL : Nat} {ret : Option FieldType} {fr lo : Nat} {ρ : Type} {inj : ρ → Option Value × St} {pc : Nat} {lv : List (Nat × Value)} {st : List Value} {σ : St} (C : Cok x (wxM z) own cc nL ret fr lo) {x1 : Int32} {x2 : Int32} {index : Nat} (hl : Cond.methodLink own index yX11_dies ∈ gtb) (hR : 1 + 1 ≤ fr ∧ 8 + (15 + 11) + 25 ≤ lo) (hW : (st.map fun v => v.category).sum ≤ 8) (hd : decode cc pc = .ok (.invokevirtual index, 3)) {K : Int64 → Option ρ} (h : ∀ v, Sim x (wxM z) nL inj (K v) (pc + 3) lv (.long v :: st) σ) : Sim x (wxM z) nL inj ((X11_dies x1 x2 σ).bind K) pc lv (.int x2 :: .int x1 :: .ref (aC z 0) :: st) σ :=
  S_callV C (As := [.int x1, .int x2]) (q := 0) (inj1 := (jL σ)) mw_X11_dies mv_X11_dies hl (fun ro hro => con_X11_dies z (mL x) x1 x2 σ ro hro) hR rfl (show 0 < 48 by decide) rfl (ce_X11 z σ) rfl rfl hW hd h
set_option maxRecDepth 10000 in
theorem WT_X11_father_B52 {x : MX} {z : ZT} (C : Cok x (wxM z) RX11 cX11_father 4 (some .int) 2 46) (x1 : Int32) (x2 : Int32) (σ : St) : Sim x (wxM z) 4 jIS (X11_father_B52 x1 x2 σ) 52 [(0, .ref (aC z 0)), (1, .int x1), (2, .int x2)] [] σ := by
  rw [X11_father_B52]
  refine S_aload_n C 0 dX11_father_52 rfl ?_
  refine G_X11_fathers C fl_X11_128 dX11_father_53 ?_
  refine S_iload_n C 1 dX11_father_56 rfl ?_
  refine L_X11_fathers C dX11_father_57 (fun _ => ?_)
  refine S_bndT (fun x3_3 _ => ?_)
  refine S_istore_n C [(3, .int x3_3), (0, .ref (aC z 0)), (1, .int x1), (2, .int x2)] (i := 3) dX11_father_58 rfl (by decide) rfl ?_
  refine S_aload_n C 1 dX11_father_59 rfl ?_
  refine G_X11_fathers C fl_X11_128 dX11_father_60 ?_
  refine S_iload_n C 2 dX11_father_63 rfl ?_
  refine S_iload_n C 3 dX11_father_64 rfl ?_
  refine T_X11_fathers C dX11_father_65 (fun _ => ?_)
  refine S_bndS (fun σ4 _ => ?_)
  refine S_iload_n C 0 dX11_father_66 rfl ?_
  exact S_iret C rfl dX11_father_67
set_option maxRecDepth 10000 in
theorem WT_X11_father_B25 {x : MX} {z : ZT} (C : Cok x (wxM z) RX11 cX11_father 4 (some .int) 2 46) (x1 : Int32) (x2 : Int32) (σ : St) : Sim x (wxM z) 4 jIS (X11_father_B25 x1 x2 σ) 25 [(0, .ref (aC z 0)), (1, .int x1), (2, .int x2)] [] σ := by
  rw [X11_father_B25]
  refine S_iload_n C 2 dX11_father_25 rfl ?_
  refine S_bipush C (-4) dX11_father_26 (by decide) ?_
  refine S_icmp_eq C 52 dX11_father_28 (by decide) ?_ ?_
  · exact S_sub [0, 1, 2] rfl (WT_X11_father_B52 C x1 x2 σ)
  · refine S_aload_n C 0 dX11_father_31 rfl ?_
    refine G_X11_lineYear C fl_X11_110 dX11_father_32 ?_
    refine S_iload_n C 2 dX11_father_35 rfl ?_
    refine L_X11_lineYear C dX11_father_36 (fun _ => ?_)
    refine S_bipush C (15) dX11_father_37 (by decide) ?_
    refine S_iadd C dX11_father_39 ?_
    refine S_aload_n C 0 dX11_father_40 rfl ?_
    refine G_X11_lineYear C fl_X11_110 dX11_father_41 ?_
    refine S_iload_n C 1 dX11_father_44 rfl ?_
    refine L_X11_lineYear C dX11_father_45 (fun _ => ?_)
    refine S_icmp_le C 52 dX11_father_46 (by decide) ?_ ?_
    · exact S_sub [0, 1, 2] rfl (WT_X11_father_B52 C x1 x2 σ)
    · refine S_bipush C (-6) dX11_father_49 (by decide) ?_
      exact S_iret C rfl dX11_father_51
set_option maxRecDepth 10000 in
theorem WT_X11_father {x : MX} {z : ZT} (C : Cok x (wxM z) RX11 cX11_father 4 (some .int) 2 46) (x1 : Int32) (x2 : Int32) (σ : St) : Sim x (wxM z) 4 jIS (X11_father x1 x2 σ) 0 [(0, .ref (aC z 0)), (1, .int x1), (2, .int x2)] [] σ := by
  rw [X11_father]
  refine S_aload_n C 0 dX11_father_0 rfl ?_
  refine S_iload_n C 1 dX11_father_1 rfl ?_
  refine K_X11_isLine C ml_X11_343 (by decide) (Nat.le_of_ble_eq_true rfl) dX11_father_2 (fun v1 => ?_)
  refine S_if_eq C 22 dX11_father_5 (by decide) ?_ ?_
  · refine S_bipush C (-5) dX11_father_22 (by decide) ?_
    exact S_iret C rfl dX11_father_24
  · refine S_aload_n C 0 dX11_father_8 rfl ?_
    refine S_iload_n C 2 dX11_father_9 rfl ?_
    refine K_X11_isLine C ml_X11_343 (by decide) (Nat.le_of_ble_eq_true rfl) dX11_father_10 (fun v2 => ?_)
    refine S_if_ne C 25 dX11_father_13 (by decide) ?_ ?_
    · exact S_sub [0, 1, 2] rfl (WT_X11_father_B25 C x1 x2 σ)
    · refine S_iload_n C 2 dX11_father_16 rfl ?_
      refine S_bipush C (-4) dX11_father_17 (by decide) ?_
      refine S_icmp_eq C 25 dX11_father_19 (by decide) ?_ ?_
      · exact S_sub [0, 1, 2] rfl (WT_X11_father_B25 C x1 x2 σ)
      · refine S_bipush C (-5) dX11_father_22 (by decide) ?_
        exact S_iret C rfl dX11_father_24
set_option maxRecDepth 10000 in
theorem con_X11_father (z : ZT) (l : Launch) (x1 : Int32) (x2 : Int32) (σ : St) : ∀ ro, X11_father x1 x2 σ = some ro → Con (wxM z) l yX11_father cX11_father 4 (some .int) 2 46 [.ref (aC z 0), .int x1, .int x2] σ (jIS ro) :=
  fun ro hk => Con_of hk (by decide) (Nat.le_of_ble_eq_true rfl) (fun x hx C => WT_X11_father C x1 x2 σ)
set_option maxRecDepth 10000 in
theorem K_X11_father {x : MX} {z : ZT} {own : String} {cc : ByteArray} {nL : Nat} {ret : Option FieldType} {fr lo : Nat} {ρ : Type} {inj : ρ → Option Value × St} {pc : Nat} {lv : List (Nat × Value)} {st : List Value} {σ : St} (C : Cok x (wxM z) own cc nL ret fr lo) {x1 : Int32} {x2 : Int32} {index : Nat} (hl : Cond.methodLink own index yX11_father ∈ gtb) (hR : 2 + 1 ≤ fr ∧ 8 + (4 + 11) + 46 ≤ lo) (hW : (st.map fun v => v.category).sum ≤ 8) (hd : decode cc pc = .ok (.invokevirtual index, 3)) {K : (Int32 × St) → Option ρ} (h : ∀ v, Sim x (wxM z) nL inj (K v) (pc + 3) lv (.int v.1 :: st) v.2) : Sim x (wxM z) nL inj ((X11_father x1 x2 σ).bind K) pc lv (.int x2 :: .int x1 :: .ref (aC z 0) :: st) σ :=
  S_callV C (As := [.int x1, .int x2]) (q := 0) (inj1 := jIS) mw_X11_father mv_X11_father hl (fun ro hro => con_X11_father z (mL x) x1 x2 σ ro hro) hR rfl (show 0 < 48 by decide) rfl (ce_X11 z σ) rfl rfl hW hd h
set_option maxRecDepth 10000 in
theorem WT_X11_stepsTo_L5 {x : MX} {z : ZT} (C : Cok x (wxM z) RX11 cX11_stepsTo 5 (some .int) 0 0) (σ : St) : ∀ (n : Nat) (x2 : Int32) (x3 : Int32) (x4 : Int32), Sim x (wxM z) 5 (jI σ) (X11_stepsTo_L5 σ n x2 x3 x4) 5 [(0, .ref (aC z 0)), (2, .int x2), (3, .int x3), (4, .int x4)] [] σ := by
  intro n
  induction n with
  | zero =>
    intros
    exact S_none
  | succ n ih =>
    intro x2 x3 x4
    rw [X11_stepsTo_L5]
    refine S_iload C 3 dX11_stepsTo_5 rfl ?_
    refine S_bipush C (-4) dX11_stepsTo_7 (by decide) ?_
    refine S_icmp_eq C 33 dX11_stepsTo_9 (by decide) ?_ ?_
    · refine S_iload C 3 dX11_stepsTo_33 rfl ?_
      refine S_bipush C (-4) dX11_stepsTo_35 (by decide) ?_
      refine S_icmp_ne C 45 dX11_stepsTo_37 (by decide) ?_ ?_
      · refine S_iload_n C 2 dX11_stepsTo_45 rfl ?_
        exact S_iret C rfl dX11_stepsTo_46
      · refine S_bipush C (-4) dX11_stepsTo_40 (by decide) ?_
        refine S_goto C 46 dX11_stepsTo_42 (by decide) ?_
        exact S_iret C rfl dX11_stepsTo_46
    · refine S_iload C 3 dX11_stepsTo_12 rfl ?_
      refine S_iload_n C 1 dX11_stepsTo_14 rfl ?_
      refine S_icmp_eq C 33 dX11_stepsTo_15 (by decide) ?_ ?_
      · refine S_iload C 3 dX11_stepsTo_33 rfl ?_
        refine S_bipush C (-4) dX11_stepsTo_35 (by decide) ?_
        refine S_icmp_ne C 45 dX11_stepsTo_37 (by decide) ?_ ?_
        · refine S_iload_n C 2 dX11_stepsTo_45 rfl ?_
          exact S_iret C rfl dX11_stepsTo_46
        · refine S_bipush C (-4) dX11_stepsTo_40 (by decide) ?_
          refine S_goto C 46 dX11_stepsTo_42 (by decide) ?_
          exact S_iret C rfl dX11_stepsTo_46
      · refine S_aload_n C 0 dX11_stepsTo_18 rfl ?_
        refine G_X11_fathers C fl_X11_128 dX11_stepsTo_19 ?_
        refine S_iload C 3 dX11_stepsTo_22 rfl ?_
        refine L_X11_fathers C dX11_stepsTo_24 (fun _ => ?_)
        refine S_bndT (fun x4_1 _ => ?_)
        refine S_istore C [(4, .int x4_1), (0, .ref (aC z 0)), (2, .int x2), (3, .int x3)] dX11_stepsTo_25 (by decide) rfl ?_
        refine S_iinc C 3 [(3, .int (x3 + 1)), (4, .int x4_1), (0, .ref (aC z 0)), (2, .int x2)] (x3 + 1) dX11_stepsTo_27 rfl rfl (by decide) rfl ?_
        refine S_goto C 5 dX11_stepsTo_30 (by decide) ?_
        exact S_sub [2, 3, 0, 1] rfl (ih x2 (x3 + 1) x4_1)
set_option maxRecDepth 10000 in
theorem WT_X11_stepsTo {x : MX} {z : ZT} (C : Cok x (wxM z) RX11 cX11_stepsTo 5 (some .int) 0 0) (x1 : Int32) (x2 : Int32) (σ : St) : Sim x (wxM z) 5 (jI σ) (X11_stepsTo x1 x2 σ) 0 [(0, .ref (aC z 0)), (1, .int x1), (2, .int x2)] [] σ := by
  rw [X11_stepsTo]
  refine S_iconst C (0) dX11_stepsTo_0 (by decide) ?_
  refine S_istore_n C [(3, .int 0), (0, .ref (aC z 0)), (1, .int x1), (2, .int x2)] (i := 3) dX11_stepsTo_1 rfl (by decide) rfl ?_
  refine S_iload_n C 2 dX11_stepsTo_2 rfl ?_
  refine S_istore C [(4, .int x1), (3, .int 0), (0, .ref (aC z 0)), (1, .int x1), (2, .int x2)] dX11_stepsTo_3 (by decide) rfl ?_
  exact S_sub [2, 4, 1, 0] rfl (WT_X11_stepsTo_L5 C σ FU x2 (0 : Int32) x1)
set_option maxRecDepth 10000 in
theorem con_X11_stepsTo (z : ZT) (l : Launch) (x1 : Int32) (x2 : Int32) (σ : St) : ∀ ro, X11_stepsTo x1 x2 σ = some ro → Con (wxM z) l yX11_stepsTo cX11_stepsTo 5 (some .int) 0 0 [.ref (aC z 0), .int x1, .int x2] σ ((jI σ) ro) :=
  fun ro hk => Con_of hk (by decide) (Nat.le_of_ble_eq_true rfl) (fun x hx C => WT_X11_stepsTo C x1 x2 σ)
set_option maxRecDepth 10000 in
theorem K_X11_stepsTo {x : MX} {z : ZT} {own : String} {cc : ByteArray} {nL : Nat} {ret : Option FieldType} {fr lo : Nat} {ρ : Type} {inj : ρ → Option Value × St} {pc : Nat} {lv : List (Nat × Value)} {st : List Value} {σ : St} (C : Cok x (wxM z) own cc nL ret fr lo) {x1 : Int32} {x2 : Int32} {index : Nat} (hl : Cond.methodLink own index yX11_stepsTo ∈ gtb) (hR : 0 + 1 ≤ fr ∧ 8 + (5 + 11) + 0 ≤ lo) (hW : (st.map fun v => v.category).sum ≤ 8) (hd : decode cc pc = .ok (.invokevirtual index, 3)) {K : Int32 → Option ρ} (h : ∀ v, Sim x (wxM z) nL inj (K v) (pc + 3) lv (.int v :: st) σ) : Sim x (wxM z) nL inj ((X11_stepsTo x1 x2 σ).bind K) pc lv (.int x2 :: .int x1 :: .ref (aC z 0) :: st) σ :=
  S_callV C (As := [.int x1, .int x2]) (q := 0) (inj1 := (jI σ)) mw_X11_stepsTo mv_X11_stepsTo hl (fun ro hro => con_X11_stepsTo z (mL x) x1 x2 σ ro hro) hR rfl (show 0 < 48 by decide) rfl (ce_X11 z σ) rfl rfl hW hd h
set_option maxRecDepth 10000 in
theorem WT_X11_kinOf_L6 {x : MX} {z : ZT} (C : Cok x (wxM z) RX11 cX11_kinOf 7 (some .int) 1 24) (σ : St) : ∀ (n : Nat) (x1 : Int32) (x2 : Int32) (x3 : Int32) (x4 : Int32), Sim x (wxM z) 7 (jI σ) (X11_kinOf_L6 σ n x1 x2 x3 x4) 6 [(0, .ref (aC z 0)), (1, .int x1), (2, .int x2), (3, .int x3), (4, .int x4)] [] σ := by
  intro n
  induction n with
  | zero =>
    intros
    exact S_none
  | succ n ih =>
    intro x1 x2 x3 x4
    rw [X11_kinOf_L6]
    refine S_iload C 4 dX11_kinOf_6 rfl ?_
    refine S_aload_n C 0 dX11_kinOf_8 rfl ?_
    refine G_X11_lines C fl_X11_308 dX11_kinOf_9 ?_
    refine S_icmp_ge C 74 dX11_kinOf_12 (by decide) ?_ ?_
    · refine S_iload_n C 3 dX11_kinOf_74 rfl ?_
      exact S_iret C rfl dX11_kinOf_75
    · refine S_aload_n C 0 dX11_kinOf_15 rfl ?_
      refine S_iload_n C 1 dX11_kinOf_16 rfl ?_
      refine S_iload C 4 dX11_kinOf_17 rfl ?_
      refine K_X11_stepsTo C ml_X11_370 (by decide) (Nat.le_of_ble_eq_true rfl) dX11_kinOf_19 (fun v1 => ?_)
      refine S_istore C [(5, .int v1), (0, .ref (aC z 0)), (1, .int x1), (2, .int x2), (3, .int x3), (4, .int x4)] dX11_kinOf_22 (by decide) rfl ?_
      refine S_aload_n C 1 dX11_kinOf_24 rfl ?_
      refine S_iload_n C 3 dX11_kinOf_25 rfl ?_
      refine S_iload C 5 dX11_kinOf_26 rfl ?_
      refine K_X11_stepsTo C ml_X11_370 (by decide) (Nat.le_of_ble_eq_true rfl) dX11_kinOf_28 (fun v2 => ?_)
      refine S_istore C [(6, .int v2), (5, .int v1), (0, .ref (aC z 0)), (1, .int x1), (2, .int x2), (3, .int x3), (4, .int x4)] dX11_kinOf_31 (by decide) rfl ?_
      refine S_iload C 1 dX11_kinOf_33 rfl ?_
      refine S_bipush C (-4) dX11_kinOf_35 (by decide) ?_
      refine S_icmp_eq C 68 dX11_kinOf_37 (by decide) ?_ ?_
      · refine S_iinc C 6 [(4, .int (x4 + 1)), (6, .int v2), (5, .int v1), (0, .ref (aC z 0)), (1, .int x1), (2, .int x2), (3, .int x3)] (x4 + 1) dX11_kinOf_68 rfl rfl (by decide) rfl ?_
        refine S_goto C 6 dX11_kinOf_71 (by decide) ?_
        exact S_sub [3, 4, 5, 6, 0] rfl (ih x1 x2 x3 (x4 + 1))
      · refine S_iload C 0 dX11_kinOf_40 rfl ?_
        refine S_bipush C (-4) dX11_kinOf_42 (by decide) ?_
        refine S_icmp_eq C 68 dX11_kinOf_44 (by decide) ?_ ?_
        · refine S_iinc C 6 [(4, .int (x4 + 1)), (6, .int v2), (5, .int v1), (0, .ref (aC z 0)), (1, .int x1), (2, .int x2), (3, .int x3)] (x4 + 1) dX11_kinOf_68 rfl rfl (by decide) rfl ?_
          refine S_goto C 6 dX11_kinOf_71 (by decide) ?_
          exact S_sub [3, 4, 5, 6, 0] rfl (ih x1 x2 x3 (x4 + 1))
        · refine S_iload_n C 5 dX11_kinOf_47 rfl ?_
          refine S_bipush C (-4) dX11_kinOf_48 (by decide) ?_
          refine S_icmp_eq C 62 dX11_kinOf_50 (by decide) ?_ ?_
          · refine S_iload C 1 dX11_kinOf_62 rfl ?_
            refine S_iload C 0 dX11_kinOf_64 rfl ?_
            refine S_iadd C dX11_kinOf_66 ?_
            refine S_bndT (fun x3_3 _ => ?_)
            refine S_istore_n C [(3, .int x3_3), (6, .int v2), (5, .int v1), (0, .ref (aC z 0)), (1, .int x1), (2, .int x2), (4, .int x4)] (i := 3) dX11_kinOf_67 rfl (by decide) rfl ?_
            refine S_iinc C 6 [(4, .int (x4 + 1)), (3, .int x3_3), (6, .int v2), (5, .int v1), (0, .ref (aC z 0)), (1, .int x1), (2, .int x2)] (x4 + 1) dX11_kinOf_68 rfl rfl (by decide) rfl ?_
            refine S_goto C 6 dX11_kinOf_71 (by decide) ?_
            exact S_sub [4, 5, 6, 1, 0] rfl (ih x1 x2 x3_3 (x4 + 1))
          · refine S_iload C 1 dX11_kinOf_53 rfl ?_
            refine S_iload C 0 dX11_kinOf_55 rfl ?_
            refine S_iadd C dX11_kinOf_57 ?_
            refine S_iload_n C 5 dX11_kinOf_58 rfl ?_
            refine S_icmp_ge C 68 dX11_kinOf_59 (by decide) ?_ ?_
            · refine S_iinc C 6 [(4, .int (x4 + 1)), (6, .int v2), (5, .int v1), (0, .ref (aC z 0)), (1, .int x1), (2, .int x2), (3, .int x3)] (x4 + 1) dX11_kinOf_68 rfl rfl (by decide) rfl ?_
              refine S_goto C 6 dX11_kinOf_71 (by decide) ?_
              exact S_sub [3, 4, 5, 6, 0] rfl (ih x1 x2 x3 (x4 + 1))
            · refine S_iload C 1 dX11_kinOf_62 rfl ?_
              refine S_iload C 0 dX11_kinOf_64 rfl ?_
              refine S_iadd C dX11_kinOf_66 ?_
              refine S_bndT (fun x3_4 _ => ?_)
              refine S_istore_n C [(3, .int x3_4), (6, .int v2), (5, .int v1), (0, .ref (aC z 0)), (1, .int x1), (2, .int x2), (4, .int x4)] (i := 3) dX11_kinOf_67 rfl (by decide) rfl ?_
              refine S_iinc C 6 [(4, .int (x4 + 1)), (3, .int x3_4), (6, .int v2), (5, .int v1), (0, .ref (aC z 0)), (1, .int x1), (2, .int x2)] (x4 + 1) dX11_kinOf_68 rfl rfl (by decide) rfl ?_
              refine S_goto C 6 dX11_kinOf_71 (by decide) ?_
              exact S_sub [4, 5, 6, 1, 0] rfl (ih x1 x2 x3_4 (x4 + 1))
set_option maxRecDepth 10000 in
theorem WT_X11_kinOf {x : MX} {z : ZT} (C : Cok x (wxM z) RX11 cX11_kinOf 7 (some .int) 1 24) (x1 : Int32) (x2 : Int32) (σ : St) : Sim x (wxM z) 7 (jI σ) (X11_kinOf x1 x2 σ) 0 [(0, .ref (aC z 0)), (1, .int x1), (2, .int x2)] [] σ := by
  rw [X11_kinOf]
  refine S_bipush C (-4) dX11_kinOf_0 (by decide) ?_
  refine S_istore_n C [(3, .int (-4)), (0, .ref (aC z 0)), (1, .int x1), (2, .int x2)] (i := 3) dX11_kinOf_2 rfl (by decide) rfl ?_
  refine S_iconst C (0) dX11_kinOf_3 (by decide) ?_
  refine S_istore C [(4, .int 0), (3, .int (-4)), (0, .ref (aC z 0)), (1, .int x1), (2, .int x2)] dX11_kinOf_4 (by decide) rfl ?_
  exact S_sub [2, 3, 4, 1, 0] rfl (WT_X11_kinOf_L6 C σ FU x1 x2 (-4 : Int32) (0 : Int32))
set_option maxRecDepth 10000 in
theorem con_X11_kinOf (z : ZT) (l : Launch) (x1 : Int32) (x2 : Int32) (σ : St) : ∀ ro, X11_kinOf x1 x2 σ = some ro → Con (wxM z) l yX11_kinOf cX11_kinOf 7 (some .int) 1 24 [.ref (aC z 0), .int x1, .int x2] σ ((jI σ) ro) :=
  fun ro hk => Con_of hk (by decide) (Nat.le_of_ble_eq_true rfl) (fun x hx C => WT_X11_kinOf C x1 x2 σ)
set_option maxRecDepth 10000 in
theorem K_X11_kinOf {x : MX} {z : ZT} {own : String} {cc : ByteArray} {nL : Nat} {ret : Option FieldType} {fr lo : Nat} {ρ : Type} {inj : ρ → Option Value × St} {pc : Nat} {lv : List (Nat × Value)} {st : List Value} {σ : St} (C : Cok x (wxM z) own cc nL ret fr lo) {x1 : Int32} {x2 : Int32} {index : Nat} (hl : Cond.methodLink own index yX11_kinOf ∈ gtb) (hR : 1 + 1 ≤ fr ∧ 8 + (7 + 11) + 24 ≤ lo) (hW : (st.map fun v => v.category).sum ≤ 8) (hd : decode cc pc = .ok (.invokevirtual index, 3)) {K : Int32 → Option ρ} (h : ∀ v, Sim x (wxM z) nL inj (K v) (pc + 3) lv (.int v :: st) σ) : Sim x (wxM z) nL inj ((X11_kinOf x1 x2 σ).bind K) pc lv (.int x2 :: .int x1 :: .ref (aC z 0) :: st) σ :=
  S_callV C (As := [.int x1, .int x2]) (q := 0) (inj1 := (jI σ)) mw_X11_kinOf mv_X11_kinOf hl (fun ro hro => con_X11_kinOf z (mL x) x1 x2 σ ro hro) hR rfl (show 0 < 48 by decide) rfl (ce_X11 z σ) rfl rfl hW hd h
set_option maxRecDepth 10000 in
theorem WT_X11_kin {x : MX} {z : ZT} (C : Cok x (wxM z) RX11 cX11_kin 3 (some .int) 2 50) (x1 : Int32) (x2 : Int32) (σ : St) : Sim x (wxM z) 3 (jI σ) (X11_kin x1 x2 σ) 0 [(0, .ref (aC z 0)), (1, .int x1), (2, .int x2)] [] σ := by
  rw [X11_kin]
  refine S_aload_n C 0 dX11_kin_0 rfl ?_
  refine S_iload_n C 1 dX11_kin_1 rfl ?_
  refine K_X11_isLine C ml_X11_343 (by decide) (Nat.le_of_ble_eq_true rfl) dX11_kin_2 (fun v1 => ?_)
  refine S_if_eq C 25 dX11_kin_5 (by decide) ?_ ?_
  · refine S_iconst C (-1) dX11_kin_25 (by decide) ?_
    exact S_iret C rfl dX11_kin_26
  · refine S_aload_n C 0 dX11_kin_8 rfl ?_
    refine S_iload_n C 2 dX11_kin_9 rfl ?_
    refine K_X11_isLine C ml_X11_343 (by decide) (Nat.le_of_ble_eq_true rfl) dX11_kin_10 (fun v2 => ?_)
    refine S_if_eq C 25 dX11_kin_13 (by decide) ?_ ?_
    · refine S_iconst C (-1) dX11_kin_25 (by decide) ?_
      exact S_iret C rfl dX11_kin_26
    · refine S_aload_n C 0 dX11_kin_16 rfl ?_
      refine S_iload_n C 1 dX11_kin_17 rfl ?_
      refine S_iload_n C 2 dX11_kin_18 rfl ?_
      refine K_X11_kinOf C ml_X11_373 (by decide) (Nat.le_of_ble_eq_true rfl) dX11_kin_19 (fun v3 => ?_)
      refine S_goto C 26 dX11_kin_22 (by decide) ?_
      exact S_iret C rfl dX11_kin_26
set_option maxRecDepth 10000 in
theorem con_X11_kin (z : ZT) (l : Launch) (x1 : Int32) (x2 : Int32) (σ : St) : ∀ ro, X11_kin x1 x2 σ = some ro → Con (wxM z) l yX11_kin cX11_kin 3 (some .int) 2 50 [.ref (aC z 0), .int x1, .int x2] σ ((jI σ) ro) :=
  fun ro hk => Con_of hk (by decide) (Nat.le_of_ble_eq_true rfl) (fun x hx C => WT_X11_kin C x1 x2 σ)
set_option maxRecDepth 10000 in
theorem K_X11_kin {x : MX} {z : ZT} {own : String} {cc : ByteArray} {nL : Nat} {ret : Option FieldType} {fr lo : Nat} {ρ : Type} {inj : ρ → Option Value × St} {pc : Nat} {lv : List (Nat × Value)} {st : List Value} {σ : St} (C : Cok x (wxM z) own cc nL ret fr lo) {x1 : Int32} {x2 : Int32} {index : Nat} (hl : Cond.methodLink own index yX11_kin ∈ gtb) (hR : 2 + 1 ≤ fr ∧ 8 + (3 + 11) + 50 ≤ lo) (hW : (st.map fun v => v.category).sum ≤ 8) (hd : decode cc pc = .ok (.invokevirtual index, 3)) {K : Int32 → Option ρ} (h : ∀ v, Sim x (wxM z) nL inj (K v) (pc + 3) lv (.int v :: st) σ) : Sim x (wxM z) nL inj ((X11_kin x1 x2 σ).bind K) pc lv (.int x2 :: .int x1 :: .ref (aC z 0) :: st) σ :=
  S_callV C (As := [.int x1, .int x2]) (q := 0) (inj1 := (jI σ)) mw_X11_kin mv_X11_kin hl (fun ro hro => con_X11_kin z (mL x) x1 x2 σ ro hro) hR rfl (show 0 < 48 by decide) rfl (ce_X11 z σ) rfl rfl hW hd h
set_option maxRecDepth 10000 in
theorem WT_X11_related_B52 {x : MX} {z : ZT} (C : Cok x (wxM z) RX11 cX11_related 3 (some .int) 3 77) (x1 : Int32) (x2 : Int32) (s0 : Int32) (σ : St) : Sim x (wxM z) 3 jIS (X11_related_B52 x1 x2 s0 σ) 52 [(0, .ref (aC z 0)), (1, .int x1), (2, .int x2)] [.int s0] σ := by
  rw [X11_related_B52]
  refine S_aload_n C 0 dX11_related_52 rfl ?_
  refine S_iload_n C 1 dX11_related_53 rfl ?_
  refine S_iload_n C 2 dX11_related_54 rfl ?_
  refine K_X11_kinOf C ml_X11_373 (by decide) (Nat.le_of_ble_eq_true rfl) dX11_related_55 (fun v4 => ?_)
  refine S_bipush C (-4) dX11_related_58 (by decide) ?_
  refine S_icmp_eq C 67 dX11_related_60 (by decide) ?_ ?_
  · refine S_iconst C (0) dX11_related_67 (by decide) ?_
    refine S_iadd C dX11_related_68 ?_
    exact S_iret C rfl dX11_related_69
  · refine S_iconst C (2) dX11_related_63 (by decide) ?_
    refine S_goto C 68 dX11_related_64 (by decide) ?_
    refine S_iadd C dX11_related_68 ?_
    exact S_iret C rfl dX11_related_69
set_option maxRecDepth 10000 in
theorem WT_X11_related {x : MX} {z : ZT} (C : Cok x (wxM z) RX11 cX11_related 3 (some .int) 3 77) (x1 : Int32) (x2 : Int32) (σ : St) : Sim x (wxM z) 3 jIS (X11_related x1 x2 σ) 0 [(0, .ref (aC z 0)), (1, .int x1), (2, .int x2)] [] σ := by
  rw [X11_related]
  refine S_aload_n C 0 dX11_related_0 rfl ?_
  refine S_iload_n C 1 dX11_related_1 rfl ?_
  refine K_X11_isLine C ml_X11_343 (by decide) (Nat.le_of_ble_eq_true rfl) dX11_related_2 (fun v1 => ?_)
  refine S_if_eq C 16 dX11_related_5 (by decide) ?_ ?_
  · refine S_iconst C (-1) dX11_related_16 (by decide) ?_
    exact S_iret C rfl dX11_related_17
  · refine S_aload_n C 0 dX11_related_8 rfl ?_
    refine S_iload_n C 2 dX11_related_9 rfl ?_
    refine K_X11_isLine C ml_X11_343 (by decide) (Nat.le_of_ble_eq_true rfl) dX11_related_10 (fun v2 => ?_)
    refine S_if_ne C 18 dX11_related_13 (by decide) ?_ ?_
    · refine S_aload_n C 0 dX11_related_18 rfl ?_
      refine K_X11_layNames C ml_X11_279 (by decide) (Nat.le_of_ble_eq_true rfl) dX11_related_19 (fun σ3 => ?_)
      refine S_aload_n C 0 dX11_related_22 rfl ?_
      refine G_X11_nameOf C fl_X11_73 dX11_related_23 ?_
      refine S_aload_n C 0 dX11_related_26 rfl ?_
      refine G_X11_lineNow C fl_X11_119 dX11_related_27 ?_
      refine S_iload_n C 1 dX11_related_30 rfl ?_
      refine L_X11_lineNow C dX11_related_31 (fun _ => ?_)
      refine L_X11_nameOf C dX11_related_32 (fun _ => ?_)
      refine S_aload_n C 0 dX11_related_33 rfl ?_
      refine G_X11_nameOf C fl_X11_73 dX11_related_34 ?_
      refine S_aload_n C 0 dX11_related_37 rfl ?_
      refine G_X11_lineNow C fl_X11_119 dX11_related_38 ?_
      refine S_iload_n C 2 dX11_related_41 rfl ?_
      refine L_X11_lineNow C dX11_related_42 (fun _ => ?_)
      refine L_X11_nameOf C dX11_related_43 (fun _ => ?_)
      refine S_icmp_ne C 51 dX11_related_44 (by decide) ?_ ?_
      · refine S_iconst C (0) dX11_related_51 (by decide) ?_
        exact S_sub [0, 1, 2] rfl (WT_X11_related_B52 C x1 x2 (0 : Int32) σ3)
      · refine S_iconst C (1) dX11_related_47 (by decide) ?_
        refine S_goto C 52 dX11_related_48 (by decide) ?_
        exact S_sub [0, 1, 2] rfl (WT_X11_related_B52 C x1 x2 (1 : Int32) σ3)
    · refine S_iconst C (-1) dX11_related_16 (by decide) ?_
      exact S_iret C rfl dX11_related_17
set_option maxRecDepth 10000 in
theorem con_X11_related (z : ZT) (l : Launch) (x1 : Int32) (x2 : Int32) (σ : St) : ∀ ro, X11_related x1 x2 σ = some ro → Con (wxM z) l yX11_related cX11_related 3 (some .int) 3 77 [.ref (aC z 0), .int x1, .int x2] σ (jIS ro) :=
  fun ro hk => Con_of hk (by decide) (Nat.le_of_ble_eq_true rfl) (fun x hx C => WT_X11_related C x1 x2 σ)
set_option maxRecDepth 10000 in
theorem K_X11_related {x : MX} {z : ZT} {own : String} {cc : ByteArray} {nL : Nat} {ret : Option FieldType} {fr lo : Nat} {ρ : Type} {inj : ρ → Option Value × St} {pc : Nat} {lv : List (Nat × Value)} {st : List Value} {σ : St} (C : Cok x (wxM z) own cc nL ret fr lo) {x1 : Int32} {x2 : Int32} {index : Nat} (hl : Cond.methodLink own index yX11_related ∈ gtb) (hR : 3 + 1 ≤ fr ∧ 8 + (3 + 11) + 77 ≤ lo) (hW : (st.map fun v => v.category).sum ≤ 8) (hd : decode cc pc = .ok (.invokevirtual index, 3)) {K : (Int32 × St) → Option ρ} (h : ∀ v, Sim x (wxM z) nL inj (K v) (pc + 3) lv (.int v.1 :: st) v.2) : Sim x (wxM z) nL inj ((X11_related x1 x2 σ).bind K) pc lv (.int x2 :: .int x1 :: .ref (aC z 0) :: st) σ :=
  S_callV C (As := [.int x1, .int x2]) (q := 0) (inj1 := jIS) mw_X11_related mv_X11_related hl (fun ro hro => con_X11_related z (mL x) x1 x2 σ ro hro) hR rfl (show 0 < 48 by decide) rfl (ce_X11 z σ) rfl rfl hW hd h
set_option maxRecDepth 10000 in
theorem WT_X11_issue_B109 {x : MX} {z : ZT} (C : Cok x (wxM z) RX11 cX11_issue 8 (some .int) 3 77) (kq37 : Int32 → Int32 → Int32 → Int32 → Int32 → Int32 → St → Option (Int32 × St)) (hk37 : ∀ (x1 : Int32) (x2 : Int32) (x3 : Int32) (x4 : Int32) (x5 : Int32) (x6 : Int32) (σ : St), Sim x (wxM z) 8 jIS (kq37 x1 x2 x3 x4 x5 x6 σ) 37 [(0, .ref (aC z 0)), (1, .int x1), (2, .int x2), (3, .int x3), (4, .int x4), (5, .int x5), (6, .int x6)] [] σ) (x1 : Int32) (x2 : Int32) (x3 : Int32) (x5 : Int32) (x6 : Int32) (x7 : Int32) (s0 : Int32) (s1 : Int32) (σ : St) : Sim x (wxM z) 8 jIS (X11_issue_B109 kq37 x1 x2 x3 x5 x6 x7 s0 s1 σ) 109 [(0, .ref (aC z 0)), (1, .int x1), (2, .int x2), (3, .int x3), (5, .int x5), (6, .int x6), (7, .int x7)] [.int s0, .int s1] σ := by
  rw [X11_issue_B109]
  refine S_iadd C dX11_issue_109 ?_
  refine S_bndT (fun x4_5 _ => ?_)
  refine S_istore C [(4, .int x4_5), (0, .ref (aC z 0)), (1, .int x1), (2, .int x2), (3, .int x3), (5, .int x5), (6, .int x6), (7, .int x7)] dX11_issue_110 (by decide) rfl ?_
  refine S_iload C 7 dX11_issue_112 rfl ?_
  refine S_iload C 5 dX11_issue_114 rfl ?_
  refine S_icmp_le C 124 dX11_issue_116 (by decide) ?_ ?_
  · refine S_iload C 5 dX11_issue_124 rfl ?_
    refine S_istore C [(5, .int x5), (4, .int x4_5), (0, .ref (aC z 0)), (1, .int x1), (2, .int x2), (3, .int x3), (6, .int x6), (7, .int x7)] dX11_issue_126 (by decide) rfl ?_
    refine S_iinc C 6 [(6, .int (x6 + 1)), (5, .int x5), (4, .int x4_5), (0, .ref (aC z 0)), (1, .int x1), (2, .int x2), (3, .int x3), (7, .int x7)] (x6 + 1) dX11_issue_128 rfl rfl (by decide) rfl ?_
    refine S_goto C 37 dX11_issue_131 (by decide) ?_
    exact S_sub [3, 4, 5, 6, 2, 1, 0] rfl (hk37 x1 x2 x3 x4_5 x5 (x6 + 1) σ)
  · refine S_iload C 7 dX11_issue_119 rfl ?_
    refine S_goto C 126 dX11_issue_121 (by decide) ?_
    refine S_istore C [(5, .int x7), (4, .int x4_5), (0, .ref (aC z 0)), (1, .int x1), (2, .int x2), (3, .int x3), (6, .int x6), (7, .int x7)] dX11_issue_126 (by decide) rfl ?_
    refine S_iinc C 6 [(6, .int (x6 + 1)), (5, .int x7), (4, .int x4_5), (0, .ref (aC z 0)), (1, .int x1), (2, .int x2), (3, .int x3), (7, .int x7)] (x6 + 1) dX11_issue_128 rfl rfl (by decide) rfl ?_
    refine S_goto C 37 dX11_issue_131 (by decide) ?_
    exact S_sub [3, 4, 5, 6, 2, 1, 0] rfl (hk37 x1 x2 x3 x4_5 x7 (x6 + 1) σ)
set_option maxRecDepth 10000 in
theorem WT_X11_issue_B64 {x : MX} {z : ZT} (C : Cok x (wxM z) RX11 cX11_issue 8 (some .int) 3 77) (kq37 : Int32 → Int32 → Int32 → Int32 → Int32 → Int32 → St → Option (Int32 × St)) (hk37 : ∀ (x1 : Int32) (x2 : Int32) (x3 : Int32) (x4 : Int32) (x5 : Int32) (x6 : Int32) (σ : St), Sim x (wxM z) 8 jIS (kq37 x1 x2 x3 x4 x5 x6 σ) 37 [(0, .ref (aC z 0)), (1, .int x1), (2, .int x2), (3, .int x3), (4, .int x4), (5, .int x5), (6, .int x6)] [] σ) (x1 : Int32) (x2 : Int32) (x3 : Int32) (x4 : Int32) (x5 : Int32) (x6 : Int32) (s0 : Int32) (σ : St) : Sim x (wxM z) 8 jIS (X11_issue_B64 kq37 x1 x2 x3 x4 x5 x6 s0 σ) 64 [(0, .ref (aC z 0)), (1, .int x1), (2, .int x2), (3, .int x3), (4, .int x4), (5, .int x5), (6, .int x6)] [.int s0] σ := by
  rw [X11_issue_B64]
  refine S_istore C [(7, .int s0), (0, .ref (aC z 0)), (1, .int x1), (2, .int x2), (3, .int x3), (4, .int x4), (5, .int x5), (6, .int x6)] dX11_issue_64 (by decide) rfl ?_
  refine S_iload C 0 dX11_issue_66 rfl ?_
  refine S_bipush C (-4) dX11_issue_68 (by decide) ?_
  refine S_icmp_eq C 128 dX11_issue_70 (by decide) ?_ ?_
  · refine S_iinc C 7 [(6, .int (x6 + 1)), (7, .int s0), (0, .ref (aC z 0)), (1, .int x1), (2, .int x2), (3, .int x3), (4, .int x4), (5, .int x5)] (x6 + 1) dX11_issue_128 rfl rfl (by decide) rfl ?_
    refine S_goto C 37 dX11_issue_131 (by decide) ?_
    exact S_sub [2, 3, 4, 5, 6, 7, 0] rfl (hk37 x1 x2 x3 x4 x5 (x6 + 1) σ)
  · refine S_iinc C 4 [(3, .int (x3 + 1)), (7, .int s0), (0, .ref (aC z 0)), (1, .int x1), (2, .int x2), (4, .int x4), (5, .int x5), (6, .int x6)] (x3 + 1) dX11_issue_73 rfl rfl (by decide) rfl ?_
    refine S_iload C 5 dX11_issue_76 rfl ?_
    refine S_aload_n C 2 dX11_issue_78 rfl ?_
    refine G_X11_nameOf C fl_X11_73 dX11_issue_79 ?_
    refine S_aload_n C 2 dX11_issue_82 rfl ?_
    refine G_X11_lineNow C fl_X11_119 dX11_issue_83 ?_
    refine S_iload C 7 dX11_issue_86 rfl ?_
    refine L_X11_lineNow C dX11_issue_88 (fun _ => ?_)
    refine L_X11_nameOf C dX11_issue_89 (fun _ => ?_)
    refine S_aload_n C 2 dX11_issue_90 rfl ?_
    refine G_X11_nameOf C fl_X11_73 dX11_issue_91 ?_
    refine S_aload_n C 2 dX11_issue_94 rfl ?_
    refine G_X11_lineNow C fl_X11_119 dX11_issue_95 ?_
    refine S_iload_n C 3 dX11_issue_98 rfl ?_
    refine L_X11_lineNow C dX11_issue_99 (fun _ => ?_)
    refine L_X11_nameOf C dX11_issue_100 (fun _ => ?_)
    refine S_icmp_eq C 108 dX11_issue_101 (by decide) ?_ ?_
    · refine S_iconst C (0) dX11_issue_108 (by decide) ?_
      exact S_sub [2, 3, 4, 0, 6, 7, 1] rfl (WT_X11_issue_B109 C _ hk37 x1 x2 (x3 + 1) x5 x6 s0 (0 : Int32) x4 σ)
    · refine S_iconst C (1) dX11_issue_104 (by decide) ?_
      refine S_goto C 109 dX11_issue_105 (by decide) ?_
      exact S_sub [2, 3, 4, 0, 6, 7, 1] rfl (WT_X11_issue_B109 C _ hk37 x1 x2 (x3 + 1) x5 x6 s0 (1 : Int32) x4 σ)
set_option maxRecDepth 10000 in
theorem WT_X11_issue_L37 {x : MX} {z : ZT} (C : Cok x (wxM z) RX11 cX11_issue 8 (some .int) 3 77) : ∀ (n : Nat) (x1 : Int32) (x2 : Int32) (x3 : Int32) (x4 : Int32) (x5 : Int32) (x6 : Int32) (σ : St), Sim x (wxM z) 8 jIS (X11_issue_L37 n x1 x2 x3 x4 x5 x6 σ) 37 [(0, .ref (aC z 0)), (1, .int x1), (2, .int x2), (3, .int x3), (4, .int x4), (5, .int x5), (6, .int x6)] [] σ := by
  intro n
  induction n with
  | zero =>
    intros
    exact S_none
  | succ n ih =>
    intro x1 x2 x3 x4 x5 x6 σ
    rw [X11_issue_L37]
    refine S_iload C 6 dX11_issue_37 rfl ?_
    refine S_aload_n C 0 dX11_issue_39 rfl ?_
    refine G_X11_lines C fl_X11_308 dX11_issue_40 ?_
    refine S_icmp_ge C 134 dX11_issue_43 (by decide) ?_ ?_
    · refine S_iload_n C 2 dX11_issue_134 rfl ?_
      refine S_if_ne C 142 dX11_issue_135 (by decide) ?_ ?_
      · refine S_iload_n C 2 dX11_issue_142 rfl ?_
        refine S_iconst C (1) dX11_issue_143 (by decide) ?_
        refine S_icmp_ne C 152 dX11_issue_144 (by decide) ?_ ?_
        · refine S_iload C 5 dX11_issue_152 rfl ?_
          exact S_iret C rfl dX11_issue_154
        · refine S_iload C 4 dX11_issue_147 rfl ?_
          refine S_goto C 154 dX11_issue_149 (by decide) ?_
          exact S_iret C rfl dX11_issue_154
      · refine S_iload_n C 3 dX11_issue_138 rfl ?_
        refine S_goto C 154 dX11_issue_139 (by decide) ?_
        exact S_iret C rfl dX11_issue_154
    · refine S_iload C 6 dX11_issue_46 rfl ?_
      refine S_iload_n C 1 dX11_issue_48 rfl ?_
      refine S_icmp_ne C 57 dX11_issue_49 (by decide) ?_ ?_
      · refine S_aload_n C 0 dX11_issue_57 rfl ?_
        refine S_iload C 6 dX11_issue_58 rfl ?_
        refine S_iload_n C 1 dX11_issue_60 rfl ?_
        refine K_X11_stepsTo C ml_X11_370 (by decide) (Nat.le_of_ble_eq_true rfl) dX11_issue_61 (fun v4 => ?_)
        exact S_sub [0, 1, 2, 3, 4, 5, 6] rfl (WT_X11_issue_B64 C _ ih x1 x2 x3 x4 x5 x6 v4 σ)
      · refine S_bipush C (-4) dX11_issue_52 (by decide) ?_
        refine S_goto C 64 dX11_issue_54 (by decide) ?_
        exact S_sub [0, 1, 2, 3, 4, 5, 6] rfl (WT_X11_issue_B64 C _ ih x1 x2 x3 x4 x5 x6 (-4 : Int32) σ)
set_option maxRecDepth 10000 in
theorem WT_X11_issue {x : MX} {z : ZT} (C : Cok x (wxM z) RX11 cX11_issue 8 (some .int) 3 77) (x1 : Int32) (x2 : Int32) (σ : St) : Sim x (wxM z) 8 jIS (X11_issue x1 x2 σ) 0 [(0, .ref (aC z 0)), (1, .int x1), (2, .int x2)] [] σ := by
  rw [X11_issue]
  refine S_aload_n C 0 dX11_issue_0 rfl ?_
  refine S_iload_n C 1 dX11_issue_1 rfl ?_
  refine K_X11_isLine C ml_X11_343 (by decide) (Nat.le_of_ble_eq_true rfl) dX11_issue_2 (fun v1 => ?_)
  refine S_if_eq C 20 dX11_issue_5 (by decide) ?_ ?_
  · refine S_iconst C (-1) dX11_issue_20 (by decide) ?_
    exact S_iret C rfl dX11_issue_21
  · refine S_iload_n C 2 dX11_issue_8 rfl ?_
    refine S_i2l C dX11_issue_9 ?_
    refine S_lconst C (0) dX11_issue_10 (by decide) ?_
    refine S_ldc2 C (2) kl_X11_294 dX11_issue_11 ?_
    refine K_X11_in C ml_X11_156 (by decide) (Nat.le_of_ble_eq_true rfl) dX11_issue_14 (fun v2 => ?_)
    refine S_if_ne C 22 dX11_issue_17 (by decide) ?_ ?_
    · refine S_aload_n C 0 dX11_issue_22 rfl ?_
      refine K_X11_layNames C ml_X11_279 (by decide) (Nat.le_of_ble_eq_true rfl) dX11_issue_23 (fun σ3 => ?_)
      refine S_iconst C (0) dX11_issue_26 (by decide) ?_
      refine S_istore_n C [(3, .int 0), (0, .ref (aC z 0)), (1, .int x1), (2, .int x2)] (i := 3) dX11_issue_27 rfl (by decide) rfl ?_
      refine S_iconst C (0) dX11_issue_28 (by decide) ?_
      refine S_istore C [(4, .int 0), (3, .int 0), (0, .ref (aC z 0)), (1, .int x1), (2, .int x2)] dX11_issue_29 (by decide) rfl ?_
      refine S_iconst C (0) dX11_issue_31 (by decide) ?_
      refine S_istore C [(5, .int 0), (4, .int 0), (3, .int 0), (0, .ref (aC z 0)), (1, .int x1), (2, .int x2)] dX11_issue_32 (by decide) rfl ?_
      refine S_iconst C (0) dX11_issue_34 (by decide) ?_
      refine S_istore C [(6, .int 0), (5, .int 0), (4, .int 0), (3, .int 0), (0, .ref (aC z 0)), (1, .int x1), (2, .int x2)] dX11_issue_35 (by decide) rfl ?_
      exact S_sub [4, 5, 6, 3, 2, 1, 0] rfl (WT_X11_issue_L37 C FU x1 x2 (0 : Int32) (0 : Int32) (0 : Int32) (0 : Int32) σ3)
    · refine S_iconst C (-1) dX11_issue_20 (by decide) ?_
      exact S_iret C rfl dX11_issue_21
set_option maxRecDepth 10000 in
theorem con_X11_issue (z : ZT) (l : Launch) (x1 : Int32) (x2 : Int32) (σ : St) : ∀ ro, X11_issue x1 x2 σ = some ro → Con (wxM z) l yX11_issue cX11_issue 8 (some .int) 3 77 [.ref (aC z 0), .int x1, .int x2] σ (jIS ro) :=
  fun ro hk => Con_of hk (by decide) (Nat.le_of_ble_eq_true rfl) (fun x hx C => WT_X11_issue C x1 x2 σ)
set_option maxRecDepth 10000 in
theorem K_X11_issue {x : MX} {z : ZT} {own : String} {cc : ByteArray} {nL : Nat} {ret : Option FieldType} {fr lo : Nat} {ρ : Type} {inj : ρ → Option Value × St} {pc : Nat} {lv : List (Nat × Value)} {st : List Value} {σ : St} (C : Cok x (wxM z) own cc nL ret fr lo) {x1 : Int32} {x2 : Int32} {index : Nat} (hl : Cond.methodLink own index yX11_issue ∈ gtb) (hR : 3 + 1 ≤ fr ∧ 8 + (8 + 11) + 77 ≤ lo) (hW : (st.map fun v => v.category).sum ≤ 8) (hd : decode cc pc = .ok (.invokevirtual index, 3)) {K : (Int32 × St) → Option ρ} (h : ∀ v, Sim x (wxM z) nL inj (K v) (pc + 3) lv (.int v.1 :: st) v.2) : Sim x (wxM z) nL inj ((X11_issue x1 x2 σ).bind K) pc lv (.int x2 :: .int x1 :: .ref (aC z 0) :: st) σ :=
  S_callV C (As := [.int x1, .int x2]) (q := 0) (inj1 := jIS) mw_X11_issue mv_X11_issue hl (fun ro hro => con_X11_issue z (mL x) x1 x2 σ ro hro) hR rfl (show 0 < 48 by decide) rfl (ce_X11 z σ) rfl rfl hW hd h
set_option maxRecDepth 10000 in
theorem WT_X11_sheet_L56 {x : MX} {z : ZT} (C : Cok x (wxM z) RX11 cX11_sheet 5 (some .int) 1 25) : ∀ (n : Nat) (x1 : Int32) (x4 : Int32) (σ : St), Sim x (wxM z) 5 jIS (X11_sheet_L56 n x1 x4 σ) 56 [(0, .ref (aC z 0)), (1, .int x1), (4, .int x4)] [] σ := by
  intro n
  induction n with
  | zero =>
    intros
    exact S_none
  | succ n ih =>
    intro x1 x4 σ
    rw [X11_sheet_L56]
    refine S_iload C 2 dX11_sheet_56 rfl ?_
    refine S_bipush C (64) dX11_sheet_58 (by decide) ?_
    refine S_icmp_ge C 82 dX11_sheet_60 (by decide) ?_ ?_
    · refine S_iconst C (1) dX11_sheet_82 (by decide) ?_
      exact S_iret C rfl dX11_sheet_83
    · refine S_aload_n C 0 dX11_sheet_63 rfl ?_
      refine G_X11_cells C fl_X11_149 dX11_sheet_64 ?_
      refine S_bipush C (64) dX11_sheet_67 (by decide) ?_
      refine S_iload_n C 1 dX11_sheet_69 rfl ?_
      refine S_imul C dX11_sheet_70 ?_
      refine S_iload C 2 dX11_sheet_71 rfl ?_
      refine S_iadd C dX11_sheet_73 ?_
      refine S_iconst C (0) dX11_sheet_74 (by decide) ?_
      refine T_X11_cells C dX11_sheet_75 (fun _ => ?_)
      refine S_bndS (fun σ5 _ => ?_)
      refine S_iinc C 2 [(4, .int (x4 + 1)), (0, .ref (aC z 0)), (1, .int x1)] (x4 + 1) dX11_sheet_76 rfl rfl (by decide) rfl ?_
      refine S_goto C 56 dX11_sheet_79 (by decide) ?_
      exact S_sub [1, 2, 0] rfl (ih x1 (x4 + 1) σ5)
set_option maxRecDepth 10000 in
theorem WT_X11_sheet {x : MX} {z : ZT} (C : Cok x (wxM z) RX11 cX11_sheet 5 (some .int) 1 25) (x1 : Int32) (x2 : Int32) (x3 : Int32) (σ : St) : Sim x (wxM z) 5 jIS (X11_sheet x1 x2 x3 σ) 0 [(0, .ref (aC z 0)), (1, .int x1), (2, .int x2), (3, .int x3)] [] σ := by
  rw [X11_sheet]
  refine S_iload_n C 1 dX11_sheet_0 rfl ?_
  refine S_i2l C dX11_sheet_1 ?_
  refine S_lconst C (0) dX11_sheet_2 (by decide) ?_
  refine S_ldc2 C (3) kl_X11_362 dX11_sheet_3 ?_
  refine K_X11_in C ml_X11_156 (by decide) (Nat.le_of_ble_eq_true rfl) dX11_sheet_6 (fun v1 => ?_)
  refine S_if_eq C 30 dX11_sheet_9 (by decide) ?_ ?_
  · refine S_iconst C (-1) dX11_sheet_30 (by decide) ?_
    exact S_iret C rfl dX11_sheet_31
  · refine S_iload_n C 2 dX11_sheet_12 rfl ?_
    refine S_i2l C dX11_sheet_13 ?_
    refine S_lconst C (0) dX11_sheet_14 (by decide) ?_
    refine S_ldc2 C (2) kl_X11_294 dX11_sheet_15 ?_
    refine K_X11_in C ml_X11_156 (by decide) (Nat.le_of_ble_eq_true rfl) dX11_sheet_18 (fun v2 => ?_)
    refine S_if_eq C 30 dX11_sheet_21 (by decide) ?_ ?_
    · refine S_iconst C (-1) dX11_sheet_30 (by decide) ?_
      exact S_iret C rfl dX11_sheet_31
    · refine S_iload_n C 3 dX11_sheet_24 rfl ?_
      refine S_bipush C (64) dX11_sheet_25 (by decide) ?_
      refine S_icmp_le C 32 dX11_sheet_27 (by decide) ?_ ?_
      · refine S_iload_n C 3 dX11_sheet_32 rfl ?_
        refine S_if_ge C 39 dX11_sheet_33 (by decide) ?_ ?_
        · refine S_aload_n C 0 dX11_sheet_39 rfl ?_
          refine G_X11_lanes C fl_X11_143 dX11_sheet_40 ?_
          refine S_iload_n C 1 dX11_sheet_43 rfl ?_
          refine S_iload_n C 2 dX11_sheet_44 rfl ?_
          refine T_X11_lanes C dX11_sheet_45 (fun _ => ?_)
          refine S_bndS (fun σ3 _ => ?_)
          refine S_aload_n C 0 dX11_sheet_46 rfl ?_
          refine G_X11_lengths C fl_X11_146 dX11_sheet_47 ?_
          refine S_iload_n C 1 dX11_sheet_50 rfl ?_
          refine S_iload_n C 3 dX11_sheet_51 rfl ?_
          refine T_X11_lengths C dX11_sheet_52 (fun _ => ?_)
          refine S_bndS (fun σ4 _ => ?_)
          refine S_iconst C (0) dX11_sheet_53 (by decide) ?_
          refine S_istore C [(4, .int 0), (0, .ref (aC z 0)), (1, .int x1), (2, .int x2), (3, .int x3)] dX11_sheet_54 (by decide) rfl ?_
          exact S_sub [1, 2, 0] rfl (WT_X11_sheet_L56 C FU x1 (0 : Int32) σ4)
        · refine S_bipush C (-14) dX11_sheet_36 (by decide) ?_
          exact S_iret C rfl dX11_sheet_38
      · refine S_iconst C (-1) dX11_sheet_30 (by decide) ?_
        exact S_iret C rfl dX11_sheet_31
set_option maxRecDepth 10000 in
theorem con_X11_sheet (z : ZT) (l : Launch) (x1 : Int32) (x2 : Int32) (x3 : Int32) (σ : St) : ∀ ro, X11_sheet x1 x2 x3 σ = some ro → Con (wxM z) l yX11_sheet cX11_sheet 5 (some .int) 1 25 [.ref (aC z 0), .int x1, .int x2, .int x3] σ (jIS ro) :=
  fun ro hk => Con_of hk (by decide) (Nat.le_of_ble_eq_true rfl) (fun x hx C => WT_X11_sheet C x1 x2 x3 σ)
set_option maxRecDepth 10000 in
theorem K_X11_sheet {x : MX} {z : ZT} {own : String} {cc : ByteArray} {nL : Nat} {ret : Option FieldType} {fr lo : Nat} {ρ : Type} {inj : ρ → Option Value × St} {pc : Nat} {lv : List (Nat × Value)} {st : List Value} {σ : St} (C : Cok x (wxM z) own cc nL ret fr lo) {x1 : Int32} {x2 : Int32} {x3 : Int32} {index : Nat} (hl : Cond.methodLink own index yX11_sheet ∈ gtb) (hR : 1 + 1 ≤ fr ∧ 8 + (5 + 11) + 25 ≤ lo) (hW : (st.map fun v => v.category).sum ≤ 8) (hd : decode cc pc = .ok (.invokevirtual index, 3)) {K : (Int32 × St) → Option ρ} (h : ∀ v, Sim x (wxM z) nL inj (K v) (pc + 3) lv (.int v.1 :: st) v.2) : Sim x (wxM z) nL inj ((X11_sheet x1 x2 x3 σ).bind K) pc lv (.int x3 :: .int x2 :: .int x1 :: .ref (aC z 0) :: st) σ :=
  S_callV C (As := [.int x1, .int x2, .int x3]) (q := 0) (inj1 := jIS) mw_X11_sheet mv_X11_sheet hl (fun ro hro => con_X11_sheet z (mL x) x1 x2 x3 σ ro hro) hR rfl (show 0 < 48 by decide) rfl (ce_X11 z σ) rfl rfl hW hd h
set_option maxRecDepth 10000 in
theorem WT_X11_lay {x : MX} {z : ZT} (C : Cok x (wxM z) RX11 cX11_lay 4 (some .int) 1 25) (x1 : Int32) (x2 : Int32) (x3 : Int32) (σ : St) : Sim x (wxM z) 4 jIS (X11_lay x1 x2 x3 σ) 0 [(0, .ref (aC z 0)), (1, .int x1), (2, .int x2), (3, .int x3)] [] σ := by
  rw [X11_lay]
  refine S_iload_n C 1 dX11_lay_0 rfl ?_
  refine S_i2l C dX11_lay_1 ?_
  refine S_lconst C (0) dX11_lay_2 (by decide) ?_
  refine S_ldc2 C (3) kl_X11_362 dX11_lay_3 ?_
  refine K_X11_in C ml_X11_156 (by decide) (Nat.le_of_ble_eq_true rfl) dX11_lay_6 (fun v1 => ?_)
  refine S_if_ne C 14 dX11_lay_9 (by decide) ?_ ?_
  · refine S_aload_n C 0 dX11_lay_14 rfl ?_
    refine G_X11_lanes C fl_X11_143 dX11_lay_15 ?_
    refine S_iload_n C 1 dX11_lay_18 rfl ?_
    refine L_X11_lanes C dX11_lay_19 (fun _ => ?_)
    refine S_bipush C (-4) dX11_lay_20 (by decide) ?_
    refine S_icmp_ne C 28 dX11_lay_22 (by decide) ?_ ?_
    · refine S_iload_n C 2 dX11_lay_28 rfl ?_
      refine S_i2l C dX11_lay_29 ?_
      refine S_lconst C (0) dX11_lay_30 (by decide) ?_
      refine S_aload_n C 0 dX11_lay_31 rfl ?_
      refine G_X11_lengths C fl_X11_146 dX11_lay_32 ?_
      refine S_iload_n C 1 dX11_lay_35 rfl ?_
      refine L_X11_lengths C dX11_lay_36 (fun _ => ?_)
      refine S_iconst C (1) dX11_lay_37 (by decide) ?_
      refine S_isub C dX11_lay_38 ?_
      refine S_i2l C dX11_lay_39 ?_
      refine K_X11_in C ml_X11_156 (by decide) (Nat.le_of_ble_eq_true rfl) dX11_lay_40 (fun v2 => ?_)
      refine S_if_ne C 49 dX11_lay_43 (by decide) ?_ ?_
      · refine S_aload_n C 0 dX11_lay_49 rfl ?_
        refine G_X11_cells C fl_X11_149 dX11_lay_50 ?_
        refine S_bipush C (64) dX11_lay_53 (by decide) ?_
        refine S_iload_n C 1 dX11_lay_55 rfl ?_
        refine S_imul C dX11_lay_56 ?_
        refine S_iload_n C 2 dX11_lay_57 rfl ?_
        refine S_iadd C dX11_lay_58 ?_
        refine S_aload_n C 0 dX11_lay_59 rfl ?_
        refine G_X11_lanes C fl_X11_143 dX11_lay_60 ?_
        refine S_iload_n C 1 dX11_lay_63 rfl ?_
        refine L_X11_lanes C dX11_lay_64 (fun _ => ?_)
        refine S_if_ne C 78 dX11_lay_65 (by decide) ?_ ?_
        · refine S_aload_n C 0 dX11_lay_78 rfl ?_
          refine G_X11_lanes C fl_X11_143 dX11_lay_79 ?_
          refine S_iload_n C 1 dX11_lay_82 rfl ?_
          refine L_X11_lanes C dX11_lay_83 (fun _ => ?_)
          refine S_iconst C (1) dX11_lay_84 (by decide) ?_
          refine S_icmp_ne C 98 dX11_lay_85 (by decide) ?_ ?_
          · refine S_iload_n C 3 dX11_lay_98 rfl ?_
            refine T_X11_cells C dX11_lay_99 (fun _ => ?_)
            refine S_bndS (fun σ3 _ => ?_)
            refine S_iconst C (1) dX11_lay_100 (by decide) ?_
            exact S_iret C rfl dX11_lay_101
          · refine S_iload_n C 3 dX11_lay_88 rfl ?_
            refine S_bipush C (16) dX11_lay_89 (by decide) ?_
            refine S_ishl C dX11_lay_91 ?_
            refine S_bipush C (16) dX11_lay_92 (by decide) ?_
            refine S_ishr C dX11_lay_94 ?_
            refine S_goto C 99 dX11_lay_95 (by decide) ?_
            refine T_X11_cells C dX11_lay_99 (fun _ => ?_)
            refine S_bndS (fun σ4 _ => ?_)
            refine S_iconst C (1) dX11_lay_100 (by decide) ?_
            exact S_iret C rfl dX11_lay_101
        · refine S_iload_n C 3 dX11_lay_68 rfl ?_
          refine S_bipush C (24) dX11_lay_69 (by decide) ?_
          refine S_ishl C dX11_lay_71 ?_
          refine S_bipush C (24) dX11_lay_72 (by decide) ?_
          refine S_ishr C dX11_lay_74 ?_
          refine S_goto C 99 dX11_lay_75 (by decide) ?_
          refine T_X11_cells C dX11_lay_99 (fun _ => ?_)
          refine S_bndS (fun σ5 _ => ?_)
          refine S_iconst C (1) dX11_lay_100 (by decide) ?_
          exact S_iret C rfl dX11_lay_101
      · refine S_bipush C (-12) dX11_lay_46 (by decide) ?_
        exact S_iret C rfl dX11_lay_48
    · refine S_bipush C (-11) dX11_lay_25 (by decide) ?_
      exact S_iret C rfl dX11_lay_27
  · refine S_iconst C (-1) dX11_lay_12 (by decide) ?_
    exact S_iret C rfl dX11_lay_13
set_option maxRecDepth 10000 in
theorem con_X11_lay (z : ZT) (l : Launch) (x1 : Int32) (x2 : Int32) (x3 : Int32) (σ : St) : ∀ ro, X11_lay x1 x2 x3 σ = some ro → Con (wxM z) l yX11_lay cX11_lay 4 (some .int) 1 25 [.ref (aC z 0), .int x1, .int x2, .int x3] σ (jIS ro) :=
  fun ro hk => Con_of hk (by decide) (Nat.le_of_ble_eq_true rfl) (fun x hx C => WT_X11_lay C x1 x2 x3 σ)
set_option maxRecDepth 10000 in
theorem K_X11_lay {x : MX} {z : ZT} {own : String} {cc : ByteArray} {nL : Nat} {ret : Option FieldType} {fr lo : Nat} {ρ : Type} {inj : ρ → Option Value × St} {pc : Nat} {lv : List (Nat × Value)} {st : List Value} {σ : St} (C : Cok x (wxM z) own cc nL ret fr lo) {x1 : Int32} {x2 : Int32} {x3 : Int32} {index : Nat} (hl : Cond.methodLink own index yX11_lay ∈ gtb) (hR : 1 + 1 ≤ fr ∧ 8 + (4 + 11) + 25 ≤ lo) (hW : (st.map fun v => v.category).sum ≤ 8) (hd : decode cc pc = .ok (.invokevirtual index, 3)) {K : (Int32 × St) → Option ρ} (h : ∀ v, Sim x (wxM z) nL inj (K v) (pc + 3) lv (.int v.1 :: st) v.2) : Sim x (wxM z) nL inj ((X11_lay x1 x2 x3 σ).bind K) pc lv (.int x3 :: .int x2 :: .int x1 :: .ref (aC z 0) :: st) σ :=
  S_callV C (As := [.int x1, .int x2, .int x3]) (q := 0) (inj1 := jIS) mw_X11_lay mv_X11_lay hl (fun ro hro => con_X11_lay z (mL x) x1 x2 x3 σ ro hro) hR rfl (show 0 < 48 by decide) rfl (ce_X11 z σ) rfl rfl hW hd h
set_option maxRecDepth 10000 in
theorem WT_X11_faultAt {x : MX} {z : ZT} (C : Cok x (wxM z) RX11 cX11_faultAt 4 (some .int) 0 0) (x1 : Int32) (x2 : Int32) (x3 : Int32) (σ : St) : Sim x (wxM z) 4 (jI σ) (X11_faultAt x1 x2 x3 σ) 0 [(0, .ref (aC z 0)), (1, .int x1), (2, .int x2), (3, .int x3)] [] σ := by
  rw [X11_faultAt]
  refine S_aload_n C 0 dX11_faultAt_0 rfl ?_
  refine G_X11_lanes C fl_X11_143 dX11_faultAt_1 ?_
  refine S_iload_n C 1 dX11_faultAt_4 rfl ?_
  refine L_X11_lanes C dX11_faultAt_5 (fun _ => ?_)
  refine S_bipush C (-4) dX11_faultAt_6 (by decide) ?_
  refine S_icmp_ne C 15 dX11_faultAt_8 (by decide) ?_ ?_
  · refine S_aload_n C 0 dX11_faultAt_15 rfl ?_
    refine G_X11_lanes C fl_X11_143 dX11_faultAt_16 ?_
    refine S_iload_n C 1 dX11_faultAt_19 rfl ?_
    refine L_X11_lanes C dX11_faultAt_20 (fun _ => ?_)
    refine S_iload_n C 2 dX11_faultAt_21 rfl ?_
    refine S_icmp_eq C 29 dX11_faultAt_22 (by decide) ?_ ?_
    · refine S_iload_n C 3 dX11_faultAt_29 rfl ?_
      refine S_aload_n C 0 dX11_faultAt_30 rfl ?_
      refine G_X11_lengths C fl_X11_146 dX11_faultAt_31 ?_
      refine S_iload_n C 1 dX11_faultAt_34 rfl ?_
      refine L_X11_lengths C dX11_faultAt_35 (fun _ => ?_)
      refine S_icmp_lt C 43 dX11_faultAt_36 (by decide) ?_ ?_
      · refine S_iconst C (0) dX11_faultAt_43 (by decide) ?_
        exact S_iret C rfl dX11_faultAt_44
      · refine S_iconst C (2) dX11_faultAt_39 (by decide) ?_
        refine S_goto C 44 dX11_faultAt_40 (by decide) ?_
        exact S_iret C rfl dX11_faultAt_44
    · refine S_iconst C (3) dX11_faultAt_25 (by decide) ?_
      refine S_goto C 44 dX11_faultAt_26 (by decide) ?_
      exact S_iret C rfl dX11_faultAt_44
  · refine S_iconst C (1) dX11_faultAt_11 (by decide) ?_
    refine S_goto C 44 dX11_faultAt_12 (by decide) ?_
    exact S_iret C rfl dX11_faultAt_44
set_option maxRecDepth 10000 in
theorem con_X11_faultAt (z : ZT) (l : Launch) (x1 : Int32) (x2 : Int32) (x3 : Int32) (σ : St) : ∀ ro, X11_faultAt x1 x2 x3 σ = some ro → Con (wxM z) l yX11_faultAt cX11_faultAt 4 (some .int) 0 0 [.ref (aC z 0), .int x1, .int x2, .int x3] σ ((jI σ) ro) :=
  fun ro hk => Con_of hk (by decide) (Nat.le_of_ble_eq_true rfl) (fun x hx C => WT_X11_faultAt C x1 x2 x3 σ)
set_option maxRecDepth 10000 in
theorem K_X11_faultAt {x : MX} {z : ZT} {own : String} {cc : ByteArray} {nL : Nat} {ret : Option FieldType} {fr lo : Nat} {ρ : Type} {inj : ρ → Option Value × St} {pc : Nat} {lv : List (Nat × Value)} {st : List Value} {σ : St} (C : Cok x (wxM z) own cc nL ret fr lo) {x1 : Int32} {x2 : Int32} {x3 : Int32} {index : Nat} (hl : Cond.methodLink own index yX11_faultAt ∈ gtb) (hR : 0 + 1 ≤ fr ∧ 8 + (4 + 11) + 0 ≤ lo) (hW : (st.map fun v => v.category).sum ≤ 8) (hd : decode cc pc = .ok (.invokevirtual index, 3)) {K : Int32 → Option ρ} (h : ∀ v, Sim x (wxM z) nL inj (K v) (pc + 3) lv (.int v :: st) σ) : Sim x (wxM z) nL inj ((X11_faultAt x1 x2 x3 σ).bind K) pc lv (.int x3 :: .int x2 :: .int x1 :: .ref (aC z 0) :: st) σ :=
  S_callV C (As := [.int x1, .int x2, .int x3]) (q := 0) (inj1 := (jI σ)) mw_X11_faultAt mv_X11_faultAt hl (fun ro hro => con_X11_faultAt z (mL x) x1 x2 x3 σ ro hro) hR rfl (show 0 < 48 by decide) rfl (ce_X11 z σ) rfl rfl hW hd h
set_option maxRecDepth 10000 in
theorem WT_X11_read_L260 {x : MX} {z : ZT} (C : Cok x (wxM z) RX11 cX11_read 9 (some .int) 2 46) : ∀ (n : Nat) (x1 : Int32) (x4 : Int32) (x6 : Int32) (x7 : Int32) (x8 : Int32) (σ : St), Sim x (wxM z) 9 jIS (X11_read_L260 n x1 x4 x6 x7 x8 σ) 260 [(0, .ref (aC z 0)), (1, .int x1), (4, .int x4), (6, .int x6), (7, .int x7), (8, .int x8)] [] σ := by
  intro n
  induction n with
  | zero =>
    intros
    exact S_none
  | succ n ih =>
    intro x1 x4 x6 x7 x8 σ
    rw [X11_read_L260]
    refine S_iload C 5 dX11_read_260 rfl ?_
    refine S_iload C 2 dX11_read_262 rfl ?_
    refine S_icmp_ge C 303 dX11_read_264 (by decide) ?_ ?_
    · refine S_aload_n C 0 dX11_read_303 rfl ?_
      refine S_iload C 3 dX11_read_304 rfl ?_
      refine P_X11_torn C fl_X11_380 dX11_read_306 ?_
      refine S_bndS (fun σ5 _ => ?_)
      refine S_iload C 4 dX11_read_309 rfl ?_
      exact S_iret C rfl dX11_read_311
    · refine S_aload_n C 0 dX11_read_267 rfl ?_
      refine S_iload_n C 1 dX11_read_268 rfl ?_
      refine S_aload_n C 0 dX11_read_269 rfl ?_
      refine G_X11_bookFrom C fl_X11_97 dX11_read_270 ?_
      refine S_iload_n C 1 dX11_read_273 rfl ?_
      refine L_X11_bookFrom C dX11_read_274 (fun _ => ?_)
      refine S_iload C 5 dX11_read_275 rfl ?_
      refine S_iadd C dX11_read_277 ?_
      refine K_X11_hasLine C ml_X11_323 (by decide) (Nat.le_of_ble_eq_true rfl) dX11_read_278 (fun v6 => ?_)
      refine S_if_ne C 297 dX11_read_281 (by decide) ?_ ?_
      · refine S_iinc C 5 [(8, .int (x8 + 1)), (0, .ref (aC z 0)), (1, .int x1), (4, .int x4), (6, .int x6), (7, .int x7)] (x8 + 1) dX11_read_297 rfl rfl (by decide) rfl ?_
        refine S_goto C 260 dX11_read_300 (by decide) ?_
        exact S_sub [1, 2, 3, 4, 5, 0] rfl (ih x1 x4 x6 x7 (x8 + 1) σ)
      · refine S_aload_n C 0 dX11_read_284 rfl ?_
        refine G_X11_bookHoles C fl_X11_103 dX11_read_285 ?_
        refine S_iload_n C 1 dX11_read_288 rfl ?_
        refine S_dup2 C dX11_read_289 rfl rfl ?_
        refine L_X11_bookHoles C dX11_read_290 (fun _ => ?_)
        refine S_lconst C (1) dX11_read_291 (by decide) ?_
        refine S_iload C 5 dX11_read_292 rfl ?_
        refine S_lshl C dX11_read_294 ?_
        refine S_lor C dX11_read_295 ?_
        refine T_X11_bookHoles C dX11_read_296 (fun _ => ?_)
        refine S_bndS (fun σ7 _ => ?_)
        refine S_iinc C 5 [(8, .int (x8 + 1)), (0, .ref (aC z 0)), (1, .int x1), (4, .int x4), (6, .int x6), (7, .int x7)] (x8 + 1) dX11_read_297 rfl rfl (by decide) rfl ?_
        refine S_goto C 260 dX11_read_300 (by decide) ?_
        exact S_sub [1, 2, 3, 4, 5, 0] rfl (ih x1 x4 x6 x7 (x8 + 1) σ7)
set_option maxRecDepth 10000 in
theorem WT_X11_read_L183 {x : MX} {z : ZT} (C : Cok x (wxM z) RX11 cX11_read 9 (some .int) 2 46) : ∀ (n : Nat) (x1 : Int32) (x2 : Int32) (x4 : Int32) (x5 : Int32) (x6 : Int32) (x7 : Int32) (x8 : Int32) (σ : St), Sim x (wxM z) 9 jIS (X11_read_L183 n x1 x2 x4 x5 x6 x7 x8 σ) 183 [(0, .ref (aC z 0)), (1, .int x1), (2, .int x2), (4, .int x4), (5, .int x5), (6, .int x6), (7, .int x7), (8, .int x8)] [] σ := by
  intro n
  induction n with
  | zero =>
    intros
    exact S_none
  | succ n ih =>
    intro x1 x2 x4 x5 x6 x7 x8 σ
    rw [X11_read_L183]
    refine S_iload C 7 dX11_read_183 rfl ?_
    refine S_iload C 4 dX11_read_185 rfl ?_
    refine S_icmp_ge C 256 dX11_read_187 (by decide) ?_ ?_
    · refine S_iload C 4 dX11_read_256 rfl ?_
      refine S_istore C [(8, .int x5), (0, .ref (aC z 0)), (1, .int x1), (2, .int x2), (4, .int x4), (5, .int x5), (6, .int x6), (7, .int x7)] dX11_read_258 (by decide) rfl ?_
      exact S_sub [1, 2, 4, 6, 7, 0] rfl (WT_X11_read_L260 C FU x1 x4 x6 x7 x5 σ)
    · refine S_aload_n C 0 dX11_read_190 rfl ?_
      refine S_iload_n C 1 dX11_read_191 rfl ?_
      refine S_aload_n C 0 dX11_read_192 rfl ?_
      refine G_X11_bookFrom C fl_X11_97 dX11_read_193 ?_
      refine S_iload_n C 1 dX11_read_196 rfl ?_
      refine L_X11_bookFrom C dX11_read_197 (fun _ => ?_)
      refine S_iload C 7 dX11_read_198 rfl ?_
      refine S_iadd C dX11_read_200 ?_
      refine K_X11_isHole C ml_X11_326 (by decide) (Nat.le_of_ble_eq_true rfl) dX11_read_201 (fun v8 => ?_)
      refine S_if_ne C 250 dX11_read_204 (by decide) ?_ ?_
      · refine S_iinc C 7 [(8, .int (x8 + 1)), (0, .ref (aC z 0)), (1, .int x1), (2, .int x2), (4, .int x4), (5, .int x5), (6, .int x6), (7, .int x7)] (x8 + 1) dX11_read_250 rfl rfl (by decide) rfl ?_
        refine S_goto C 183 dX11_read_253 (by decide) ?_
        exact S_sub [1, 2, 3, 4, 5, 6, 7, 0] rfl (ih x1 x2 x4 x5 x6 x7 (x8 + 1) σ)
      · refine S_aload_n C 0 dX11_read_207 rfl ?_
        refine G_X11_cells C fl_X11_149 dX11_read_208 ?_
        refine S_bipush C (64) dX11_read_211 (by decide) ?_
        refine S_iload_n C 2 dX11_read_213 rfl ?_
        refine S_imul C dX11_read_214 ?_
        refine S_iload C 7 dX11_read_215 rfl ?_
        refine S_iadd C dX11_read_217 ?_
        refine L_X11_cells C dX11_read_218 (fun _ => ?_)
        refine S_iconst C (-1) dX11_read_219 (by decide) ?_
        refine S_icmp_eq C 250 dX11_read_220 (by decide) ?_ ?_
        · refine S_iinc C 7 [(8, .int (x8 + 1)), (0, .ref (aC z 0)), (1, .int x1), (2, .int x2), (4, .int x4), (5, .int x5), (6, .int x6), (7, .int x7)] (x8 + 1) dX11_read_250 rfl rfl (by decide) rfl ?_
          refine S_goto C 183 dX11_read_253 (by decide) ?_
          exact S_sub [1, 2, 3, 4, 5, 6, 7, 0] rfl (ih x1 x2 x4 x5 x6 x7 (x8 + 1) σ)
        · refine S_aload_n C 0 dX11_read_223 rfl ?_
          refine S_iload_n C 1 dX11_read_224 rfl ?_
          refine S_aload_n C 0 dX11_read_225 rfl ?_
          refine G_X11_bookFrom C fl_X11_97 dX11_read_226 ?_
          refine S_iload_n C 1 dX11_read_229 rfl ?_
          refine L_X11_bookFrom C dX11_read_230 (fun _ => ?_)
          refine S_iload C 7 dX11_read_231 rfl ?_
          refine S_iadd C dX11_read_233 ?_
          refine S_aload_n C 0 dX11_read_234 rfl ?_
          refine G_X11_cells C fl_X11_149 dX11_read_235 ?_
          refine S_bipush C (64) dX11_read_238 (by decide) ?_
          refine S_iload_n C 2 dX11_read_240 rfl ?_
          refine S_imul C dX11_read_241 ?_
          refine S_iload C 7 dX11_read_242 rfl ?_
          refine S_iadd C dX11_read_244 ?_
          refine L_X11_cells C dX11_read_245 (fun _ => ?_)
          refine S_iconst C (0) dX11_read_246 (by decide) ?_
          refine K_X11_addLine C ml_X11_337 (by decide) (Nat.le_of_ble_eq_true rfl) dX11_read_247 (fun σ9 => ?_)
          refine S_iinc C 7 [(8, .int (x8 + 1)), (0, .ref (aC z 0)), (1, .int x1), (2, .int x2), (4, .int x4), (5, .int x5), (6, .int x6), (7, .int x7)] (x8 + 1) dX11_read_250 rfl rfl (by decide) rfl ?_
          refine S_goto C 183 dX11_read_253 (by decide) ?_
          exact S_sub [1, 2, 3, 4, 5, 6, 7, 0] rfl (ih x1 x2 x4 x5 x6 x7 (x8 + 1) σ9)
set_option maxRecDepth 10000 in
theorem WT_X11_read_B165 {x : MX} {z : ZT} (C : Cok x (wxM z) RX11 cX11_read 9 (some .int) 2 46) (x1 : Int32) (x2 : Int32) (x4 : Int32) (x5 : Int32) (x6 : Int32) (x7 : Int32) (σ : St) : Sim x (wxM z) 9 jIS (X11_read_B165 x1 x2 x4 x5 x6 x7 σ) 165 [(0, .ref (aC z 0)), (1, .int x1), (2, .int x2), (4, .int x4), (5, .int x5), (6, .int x6), (7, .int x7)] [] σ := by
  rw [X11_read_B165]
  refine S_aload_n C 0 dX11_read_165 rfl ?_
  refine G_X11_lines C fl_X11_308 dX11_read_166 ?_
  refine S_iload C 6 dX11_read_169 rfl ?_
  refine S_iadd C dX11_read_171 ?_
  refine S_bipush C (40) dX11_read_172 (by decide) ?_
  refine S_icmp_le C 180 dX11_read_174 (by decide) ?_ ?_
  · refine S_iconst C (0) dX11_read_180 (by decide) ?_
    refine S_istore C [(8, .int 0), (0, .ref (aC z 0)), (1, .int x1), (2, .int x2), (4, .int x4), (5, .int x5), (6, .int x6), (7, .int x7)] dX11_read_181 (by decide) rfl ?_
    exact S_sub [1, 2, 3, 4, 5, 6, 7, 0] rfl (WT_X11_read_L183 C FU x1 x2 x4 x5 x6 x7 (0 : Int32) σ)
  · refine S_bipush C (-3) dX11_read_177 (by decide) ?_
    exact S_iret C rfl dX11_read_179
set_option maxRecDepth 10000 in
theorem WT_X11_read_L64 {x : MX} {z : ZT} (C : Cok x (wxM z) RX11 cX11_read 9 (some .int) 2 46) : ∀ (n : Nat) (x1 : Int32) (x2 : Int32) (x3 : Int32) (x4 : Int32) (x5 : Int32) (x6 : Int32) (x7 : Int32) (x8 : Int32) (σ : St), Sim x (wxM z) 9 jIS (X11_read_L64 n x1 x2 x3 x4 x5 x6 x7 x8 σ) 64 [(0, .ref (aC z 0)), (1, .int x1), (2, .int x2), (3, .int x3), (4, .int x4), (5, .int x5), (6, .int x6), (7, .int x7), (8, .int x8)] [] σ := by
  intro n
  induction n with
  | zero =>
    intros
    exact S_none
  | succ n ih =>
    intro x1 x2 x3 x4 x5 x6 x7 x8 σ
    rw [X11_read_L64]
    refine S_iload C 8 dX11_read_64 rfl ?_
    refine S_iload C 4 dX11_read_66 rfl ?_
    refine S_icmp_ge C 165 dX11_read_68 (by decide) ?_ ?_
    · exact S_sub [0, 1, 2, 4, 5, 6, 7] rfl (WT_X11_read_B165 C x1 x2 x4 x5 x6 x7 σ)
    · refine S_iload C 6 dX11_read_71 rfl ?_
      refine S_if_ne C 165 dX11_read_73 (by decide) ?_ ?_
      · exact S_sub [0, 1, 2, 4, 5, 6, 7] rfl (WT_X11_read_B165 C x1 x2 x4 x5 x6 x7 σ)
      · refine S_aload_n C 0 dX11_read_76 rfl ?_
        refine S_iload_n C 1 dX11_read_77 rfl ?_
        refine S_aload_n C 0 dX11_read_78 rfl ?_
        refine G_X11_bookFrom C fl_X11_97 dX11_read_79 ?_
        refine S_iload_n C 1 dX11_read_82 rfl ?_
        refine L_X11_bookFrom C dX11_read_83 (fun _ => ?_)
        refine S_iload C 8 dX11_read_84 rfl ?_
        refine S_iadd C dX11_read_86 ?_
        refine K_X11_isHole C ml_X11_326 (by decide) (Nat.le_of_ble_eq_true rfl) dX11_read_87 (fun v10 => ?_)
        refine S_if_ne C 159 dX11_read_90 (by decide) ?_ ?_
        · refine S_iinc C 8 [(8, .int (x8 + 1)), (0, .ref (aC z 0)), (1, .int x1), (2, .int x2), (3, .int x3), (4, .int x4), (5, .int x5), (6, .int x6), (7, .int x7)] (x8 + 1) dX11_read_159 rfl rfl (by decide) rfl ?_
          refine S_goto C 64 dX11_read_162 (by decide) ?_
          exact S_sub [1, 2, 3, 4, 5, 6, 7, 8, 0] rfl (ih x1 x2 x3 x4 x5 x6 x7 (x8 + 1) σ)
        · refine S_aload_n C 0 dX11_read_93 rfl ?_
          refine S_iload_n C 2 dX11_read_94 rfl ?_
          refine S_iload_n C 3 dX11_read_95 rfl ?_
          refine S_iload C 8 dX11_read_96 rfl ?_
          refine K_X11_faultAt C ml_X11_376 (by decide) (Nat.le_of_ble_eq_true rfl) dX11_read_98 (fun v11 => ?_)
          refine S_istore C [(6, .int v11), (0, .ref (aC z 0)), (1, .int x1), (2, .int x2), (3, .int x3), (4, .int x4), (5, .int x5), (7, .int x7), (8, .int x8)] dX11_read_101 (by decide) rfl ?_
          refine S_iload C 0 dX11_read_103 rfl ?_
          refine S_if_le C 115 dX11_read_105 (by decide) ?_ ?_
          · refine S_aload_n C 1 dX11_read_115 rfl ?_
            refine G_X11_cells C fl_X11_149 dX11_read_116 ?_
            refine S_bipush C (64) dX11_read_119 (by decide) ?_
            refine S_iload_n C 3 dX11_read_121 rfl ?_
            refine S_imul C dX11_read_122 ?_
            refine S_iload C 8 dX11_read_123 rfl ?_
            refine S_iadd C dX11_read_125 ?_
            refine L_X11_cells C dX11_read_126 (fun _ => ?_)
            refine S_iconst C (-1) dX11_read_127 (by decide) ?_
            refine S_icmp_eq C 159 dX11_read_128 (by decide) ?_ ?_
            · refine S_iinc C 8 [(8, .int (x8 + 1)), (6, .int v11), (0, .ref (aC z 0)), (1, .int x1), (2, .int x2), (3, .int x3), (4, .int x4), (5, .int x5), (7, .int x7)] (x8 + 1) dX11_read_159 rfl rfl (by decide) rfl ?_
              refine S_goto C 64 dX11_read_162 (by decide) ?_
              exact S_sub [2, 3, 4, 5, 6, 7, 1, 8, 0] rfl (ih x1 x2 x3 x4 x5 v11 x7 (x8 + 1) σ)
            · refine S_aload_n C 1 dX11_read_131 rfl ?_
              refine S_aload_n C 1 dX11_read_132 rfl ?_
              refine G_X11_cells C fl_X11_149 dX11_read_133 ?_
              refine S_bipush C (64) dX11_read_136 (by decide) ?_
              refine S_iload_n C 3 dX11_read_138 rfl ?_
              refine S_imul C dX11_read_139 ?_
              refine S_iload C 8 dX11_read_140 rfl ?_
              refine S_iadd C dX11_read_142 ?_
              refine L_X11_cells C dX11_read_143 (fun _ => ?_)
              refine K_X11_isSpelling C ml_X11_166 (by decide) (Nat.le_of_ble_eq_true rfl) dX11_read_144 (fun v12 => ?_)
              refine S_if_ne C 156 dX11_read_147 (by decide) ?_ ?_
              · refine S_iinc C 7 [(7, .int (x7 + 1)), (6, .int v11), (0, .ref (aC z 0)), (1, .int x1), (2, .int x2), (3, .int x3), (4, .int x4), (5, .int x5), (8, .int x8)] (x7 + 1) dX11_read_156 rfl rfl (by decide) rfl ?_
                refine S_iinc C 8 [(8, .int (x8 + 1)), (7, .int (x7 + 1)), (6, .int v11), (0, .ref (aC z 0)), (1, .int x1), (2, .int x2), (3, .int x3), (4, .int x4), (5, .int x5)] (x8 + 1) dX11_read_159 rfl rfl (by decide) rfl ?_
                refine S_goto C 64 dX11_read_162 (by decide) ?_
                exact S_sub [3, 4, 5, 6, 7, 8, 2, 1, 0] rfl (ih x1 x2 x3 x4 x5 v11 (x7 + 1) (x8 + 1) σ)
              · refine S_bipush C (-20) dX11_read_150 (by decide) ?_
                refine S_iload C 8 dX11_read_152 rfl ?_
                refine S_isub C dX11_read_154 ?_
                exact S_iret C rfl dX11_read_155
          · refine S_iload C 8 dX11_read_108 rfl ?_
            refine S_istore C [(5, .int x8), (6, .int v11), (0, .ref (aC z 0)), (1, .int x1), (2, .int x2), (3, .int x3), (4, .int x4), (7, .int x7), (8, .int x8)] dX11_read_110 (by decide) rfl ?_
            refine S_goto C 159 dX11_read_112 (by decide) ?_
            refine S_iinc C 8 [(8, .int (x8 + 1)), (5, .int x8), (6, .int v11), (0, .ref (aC z 0)), (1, .int x1), (2, .int x2), (3, .int x3), (4, .int x4), (7, .int x7)] (x8 + 1) dX11_read_159 rfl rfl (by decide) rfl ?_
            refine S_goto C 64 dX11_read_162 (by decide) ?_
            exact S_sub [3, 4, 5, 6, 7, 1, 2, 8, 0] rfl (ih x1 x2 x3 x4 x8 v11 x7 (x8 + 1) σ)
set_option maxRecDepth 10000 in
theorem WT_X11_read {x : MX} {z : ZT} (C : Cok x (wxM z) RX11 cX11_read 9 (some .int) 2 46) (x1 : Int32) (x2 : Int32) (x3 : Int32) (σ : St) : Sim x (wxM z) 9 jIS (X11_read x1 x2 x3 σ) 0 [(0, .ref (aC z 0)), (1, .int x1), (2, .int x2), (3, .int x3)] [] σ := by
  rw [X11_read]
  refine S_aload_n C 0 dX11_read_0 rfl ?_
  refine S_iload_n C 1 dX11_read_1 rfl ?_
  refine K_X11_isBook C ml_X11_320 (by decide) (Nat.le_of_ble_eq_true rfl) dX11_read_2 (fun v1 => ?_)
  refine S_if_eq C 32 dX11_read_5 (by decide) ?_ ?_
  · refine S_iconst C (-1) dX11_read_32 (by decide) ?_
    exact S_iret C rfl dX11_read_33
  · refine S_iload_n C 2 dX11_read_8 rfl ?_
    refine S_i2l C dX11_read_9 ?_
    refine S_lconst C (0) dX11_read_10 (by decide) ?_
    refine S_ldc2 C (3) kl_X11_362 dX11_read_11 ?_
    refine K_X11_in C ml_X11_156 (by decide) (Nat.le_of_ble_eq_true rfl) dX11_read_14 (fun v2 => ?_)
    refine S_if_eq C 32 dX11_read_17 (by decide) ?_ ?_
    · refine S_iconst C (-1) dX11_read_32 (by decide) ?_
      exact S_iret C rfl dX11_read_33
    · refine S_iload_n C 3 dX11_read_20 rfl ?_
      refine S_i2l C dX11_read_21 ?_
      refine S_lconst C (0) dX11_read_22 (by decide) ?_
      refine S_ldc2 C (2) kl_X11_294 dX11_read_23 ?_
      refine K_X11_in C ml_X11_156 (by decide) (Nat.le_of_ble_eq_true rfl) dX11_read_26 (fun v3 => ?_)
      refine S_if_ne C 34 dX11_read_29 (by decide) ?_ ?_
      · refine S_aload_n C 0 dX11_read_34 rfl ?_
        refine G_X11_bookTo C fl_X11_100 dX11_read_35 ?_
        refine S_iload_n C 1 dX11_read_38 rfl ?_
        refine L_X11_bookTo C dX11_read_39 (fun _ => ?_)
        refine S_aload_n C 0 dX11_read_40 rfl ?_
        refine G_X11_bookFrom C fl_X11_97 dX11_read_41 ?_
        refine S_iload_n C 1 dX11_read_44 rfl ?_
        refine L_X11_bookFrom C dX11_read_45 (fun _ => ?_)
        refine S_isub C dX11_read_46 ?_
        refine S_iconst C (1) dX11_read_47 (by decide) ?_
        refine S_iadd C dX11_read_48 ?_
        refine S_bndT (fun x4_4 _ => ?_)
        refine S_istore C [(4, .int x4_4), (0, .ref (aC z 0)), (1, .int x1), (2, .int x2), (3, .int x3)] dX11_read_49 (by decide) rfl ?_
        refine S_iload C 0 dX11_read_51 rfl ?_
        refine S_istore C [(5, .int x4_4), (4, .int x4_4), (0, .ref (aC z 0)), (1, .int x1), (2, .int x2), (3, .int x3)] dX11_read_53 (by decide) rfl ?_
        refine S_iconst C (0) dX11_read_55 (by decide) ?_
        refine S_istore C [(6, .int 0), (5, .int x4_4), (4, .int x4_4), (0, .ref (aC z 0)), (1, .int x1), (2, .int x2), (3, .int x3)] dX11_read_56 (by decide) rfl ?_
        refine S_iconst C (0) dX11_read_58 (by decide) ?_
        refine S_istore C [(7, .int 0), (6, .int 0), (5, .int x4_4), (4, .int x4_4), (0, .ref (aC z 0)), (1, .int x1), (2, .int x2), (3, .int x3)] dX11_read_59 (by decide) rfl ?_
        refine S_iconst C (0) dX11_read_61 (by decide) ?_
        refine S_istore C [(8, .int 0), (7, .int 0), (6, .int 0), (5, .int x4_4), (4, .int x4_4), (0, .ref (aC z 0)), (1, .int x1), (2, .int x2), (3, .int x3)] dX11_read_62 (by decide) rfl ?_
        exact S_sub [5, 6, 7, 8, 4, 3, 2, 1, 0] rfl (WT_X11_read_L64 C FU x1 x2 x3 x4_4 x4_4 (0 : Int32) (0 : Int32) (0 : Int32) σ)
      · refine S_iconst C (-1) dX11_read_32 (by decide) ?_
        exact S_iret C rfl dX11_read_33
set_option maxRecDepth 10000 in
theorem con_X11_read (z : ZT) (l : Launch) (x1 : Int32) (x2 : Int32) (x3 : Int32) (σ : St) : ∀ ro, X11_read x1 x2 x3 σ = some ro → Con (wxM z) l yX11_read cX11_read 9 (some .int) 2 46 [.ref (aC z 0), .int x1, .int x2, .int x3] σ (jIS ro) :=
  fun ro hk => Con_of hk (by decide) (Nat.le_of_ble_eq_true rfl) (fun x hx C => WT_X11_read C x1 x2 x3 σ)
set_option maxRecDepth 10000 in
theorem K_X11_read {x : MX} {z : ZT} {own : String} {cc : ByteArray} {nL : Nat} {ret : Option FieldType} {fr lo : Nat} {ρ : Type} {inj : ρ → Option Value × St} {pc : Nat} {lv : List (Nat × Value)} {st : List Value} {σ : St} (C : Cok x (wxM z) own cc nL ret fr lo) {x1 : Int32} {x2 : Int32} {x3 : Int32} {index : Nat} (hl : Cond.methodLink own index yX11_read ∈ gtb) (hR : 2 + 1 ≤ fr ∧ 8 + (9 + 11) + 46 ≤ lo) (hW : (st.map fun v => v.category).sum ≤ 8) (hd : decode cc pc = .ok (.invokevirtual index, 3)) {K : (Int32 × St) → Option ρ} (h : ∀ v, Sim x (wxM z) nL inj (K v) (pc + 3) lv (.int v.1 :: st) v.2) : Sim x (wxM z) nL inj ((X11_read x1 x2 x3 σ).bind K) pc lv (.int x3 :: .int x2 :: .int x1 :: .ref (aC z 0) :: st) σ :=
  S_callV C (As := [.int x1, .int x2, .int x3]) (q := 0) (inj1 := jIS) mw_X11_read mv_X11_read hl (fun ro hro => con_X11_read z (mL x) x1 x2 x3 σ ro hro) hR rfl (show 0 < 48 by decide) rfl (ce_X11 z σ) rfl rfl hW hd h
set_option maxRecDepth 10000 in
theorem WT_X11_torn {x : MX} {z : ZT} (C : Cok x (wxM z) RX11 cX11_torn 1 (some .int) 0 0)  (σ : St) : Sim x (wxM z) 1 (jI σ) (X11_torn σ) 0 [(0, .ref (aC z 0))] [] σ := by
  rw [X11_torn]
  refine S_aload_n C 0 dX11_torn_0 rfl ?_
  refine G_X11_torn C fl_X11_380 dX11_torn_1 ?_
  exact S_iret C rfl dX11_torn_4
set_option maxRecDepth 10000 in
theorem con_X11_torn (z : ZT) (l : Launch)  (σ : St) : ∀ ro, X11_torn σ = some ro → Con (wxM z) l yX11_torn cX11_torn 1 (some .int) 0 0 [.ref (aC z 0)] σ ((jI σ) ro) :=
  fun ro hk => Con_of hk (by decide) (Nat.le_of_ble_eq_true rfl) (fun x hx C => WT_X11_torn C σ)
set_option maxRecDepth 10000 in
theorem K_X11_torn {x : MX} {z : ZT} {own : String} {cc : ByteArray} {nL : Nat} {ret : Option FieldType} {fr lo : Nat} {ρ : Type} {inj : ρ → Option Value × St} {pc : Nat} {lv : List (Nat × Value)} {st : List Value} {σ : St} (C : Cok x (wxM z) own cc nL ret fr lo)  {index : Nat} (hl : Cond.methodLink own index yX11_torn ∈ gtb) (hR : 0 + 1 ≤ fr ∧ 8 + (1 + 11) + 0 ≤ lo) (hW : (st.map fun v => v.category).sum ≤ 8) (hd : decode cc pc = .ok (.invokevirtual index, 3)) {K : Int32 → Option ρ} (h : ∀ v, Sim x (wxM z) nL inj (K v) (pc + 3) lv (.int v :: st) σ) : Sim x (wxM z) nL inj ((X11_torn σ).bind K) pc lv (.ref (aC z 0) :: st) σ :=
  S_callV C (As := []) (q := 0) (inj1 := (jI σ)) mw_X11_torn mv_X11_torn hl (fun ro hro => con_X11_torn z (mL x) σ ro hro) hR rfl (show 0 < 48 by decide) rfl (ce_X11 z σ) rfl rfl hW hd h
set_option maxRecDepth 10000 in
theorem WT_X11_count_B44 {x : MX} {z : ZT} (C : Cok x (wxM z) RX11 cX11_count 4 (some .int) 3 77) (x1 : Int32) (x2 : Int32) (σ : St) : Sim x (wxM z) 4 jIS (X11_count_B44 x1 x2 σ) 44 [(0, .ref (aC z 0)), (1, .int x1), (2, .int x2)] [] σ := by
  rw [X11_count_B44]
  refine S_iload_n C 1 dX11_count_44 rfl ?_
  refine S_tsw C _ [96, 101, 106, 111, 116, 121, 126, 131, 136] 159 dX11_count_45 rfl (Nat.le_of_ble_eq_true rfl) (by decide) (by decide) (Sims_cons ?_ (Sims_cons ?_ (Sims_cons ?_ (Sims_cons ?_ (Sims_cons ?_ (Sims_cons ?_ (Sims_cons ?_ (Sims_cons ?_ (Sims_cons ?_ Sims_nil))))))))) ?_
  · refine S_aload_n C 0 dX11_count_96 rfl ?_
    refine G_X11_spellings C fl_X11_152 dX11_count_97 ?_
    exact S_iret C rfl dX11_count_100
  · refine S_aload_n C 0 dX11_count_101 rfl ?_
    refine G_X11_places C fl_X11_302 dX11_count_102 ?_
    exact S_iret C rfl dX11_count_105
  · refine S_aload_n C 0 dX11_count_106 rfl ?_
    refine G_X11_books C fl_X11_305 dX11_count_107 ?_
    exact S_iret C rfl dX11_count_110
  · refine S_aload_n C 0 dX11_count_111 rfl ?_
    refine G_X11_lines C fl_X11_308 dX11_count_112 ?_
    exact S_iret C rfl dX11_count_115
  · refine S_aload_n C 0 dX11_count_116 rfl ?_
    refine G_X11_readings C fl_X11_346 dX11_count_117 ?_
    exact S_iret C rfl dX11_count_120
  · refine S_aload_n C 0 dX11_count_121 rfl ?_
    refine G_X11_today C fl_X11_332 dX11_count_122 ?_
    exact S_iret C rfl dX11_count_125
  · refine S_iload_n C 2 dX11_count_126 rfl ?_
    refine K_X11_sizeOf C ml_X11_296 (by decide) (Nat.le_of_ble_eq_true rfl) dX11_count_127 (fun v1 => ?_)
    exact S_iret C rfl dX11_count_130
  · refine S_aload_n C 0 dX11_count_131 rfl ?_
    refine G_X11_taped C fl_X11_172 dX11_count_132 ?_
    exact S_iret C rfl dX11_count_135
  · refine S_aload_n C 0 dX11_count_136 rfl ?_
    refine G_X11_lanes C fl_X11_143 dX11_count_137 ?_
    refine S_iconst C (0) dX11_count_140 (by decide) ?_
    refine Lk_X11_lanes C 0 (by decide) dX11_count_141 ?_
    refine S_bipush C (-4) dX11_count_142 (by decide) ?_
    refine S_icmp_ne C 152 dX11_count_144 (by decide) ?_ ?_
    · refine S_aload_n C 0 dX11_count_152 rfl ?_
      refine G_X11_lengths C fl_X11_146 dX11_count_153 ?_
      refine S_iconst C (0) dX11_count_156 (by decide) ?_
      refine Lk_X11_lengths C 0 (by decide) dX11_count_157 ?_
      exact S_iret C rfl dX11_count_158
    · refine S_bipush C (-4) dX11_count_147 (by decide) ?_
      refine S_goto C 158 dX11_count_149 (by decide) ?_
      exact S_iret C rfl dX11_count_158
  · refine S_iconst C (-1) dX11_count_159 (by decide) ?_
    exact S_iret C rfl dX11_count_160
set_option maxRecDepth 10000 in
theorem WT_X11_count_L14 {x : MX} {z : ZT} (C : Cok x (wxM z) RX11 cX11_count 4 (some .int) 3 77) : ∀ (n : Nat) (x1 : Int32) (x2 : Int32) (x3 : Int32) (σ : St), Sim x (wxM z) 4 jIS (X11_count_L14 n x1 x2 x3 σ) 14 [(0, .ref (aC z 0)), (1, .int x1), (2, .int x2), (3, .int x3)] [] σ := by
  intro n
  induction n with
  | zero =>
    intros
    exact S_none
  | succ n ih =>
    intro x1 x2 x3 σ
    rw [X11_count_L14]
    refine S_iload_n C 3 dX11_count_14 rfl ?_
    refine S_aload_n C 0 dX11_count_15 rfl ?_
    refine G_X11_lines C fl_X11_308 dX11_count_16 ?_
    refine S_icmp_ge C 44 dX11_count_19 (by decide) ?_ ?_
    · exact S_sub [0, 1, 2] rfl (WT_X11_count_B44 C x1 x2 σ)
    · refine S_iload_n C 2 dX11_count_22 rfl ?_
      refine S_iconst C (1) dX11_count_23 (by decide) ?_
      refine S_aload_n C 0 dX11_count_24 rfl ?_
      refine G_X11_nameOf C fl_X11_73 dX11_count_25 ?_
      refine S_aload_n C 0 dX11_count_28 rfl ?_
      refine G_X11_lineNow C fl_X11_119 dX11_count_29 ?_
      refine S_iload_n C 3 dX11_count_32 rfl ?_
      refine L_X11_lineNow C dX11_count_33 (fun _ => ?_)
      refine L_X11_nameOf C dX11_count_34 (fun _ => ?_)
      refine S_ishl C dX11_count_35 ?_
      refine S_ior C dX11_count_36 ?_
      refine S_bndT (fun x2_3 _ => ?_)
      refine S_istore_n C [(2, .int x2_3), (0, .ref (aC z 0)), (1, .int x1), (3, .int x3)] (i := 2) dX11_count_37 rfl (by decide) rfl ?_
      refine S_iinc C 3 [(3, .int (x3 + 1)), (2, .int x2_3), (0, .ref (aC z 0)), (1, .int x1)] (x3 + 1) dX11_count_38 rfl rfl (by decide) rfl ?_
      refine S_goto C 14 dX11_count_41 (by decide) ?_
      exact S_sub [2, 3, 1, 0] rfl (ih x1 x2_3 (x3 + 1) σ)
set_option maxRecDepth 10000 in
theorem WT_X11_count {x : MX} {z : ZT} (C : Cok x (wxM z) RX11 cX11_count 4 (some .int) 3 77) (x1 : Int32) (σ : St) : Sim x (wxM z) 4 jIS (X11_count x1 σ) 0 [(0, .ref (aC z 0)), (1, .int x1)] [] σ := by
  rw [X11_count]
  refine S_iconst C (0) dX11_count_0 (by decide) ?_
  refine S_istore_n C [(2, .int 0), (0, .ref (aC z 0)), (1, .int x1)] (i := 2) dX11_count_1 rfl (by decide) rfl ?_
  refine S_iload_n C 2 dX11_count_2 rfl ?_
  refine S_bipush C (6) dX11_count_3 (by decide) ?_
  refine S_icmp_ne C 44 dX11_count_5 (by decide) ?_ ?_
  · exact S_sub [1, 2, 0] rfl (WT_X11_count_B44 C x1 (0 : Int32) σ)
  · refine S_aload_n C 1 dX11_count_8 rfl ?_
    refine K_X11_layNames C ml_X11_279 (by decide) (Nat.le_of_ble_eq_true rfl) dX11_count_9 (fun σ2 => ?_)
    refine S_iconst C (0) dX11_count_12 (by decide) ?_
    refine S_istore_n C [(3, .int 0), (2, .int 0), (0, .ref (aC z 0)), (1, .int x1)] (i := 3) dX11_count_13 rfl (by decide) rfl ?_
    exact S_sub [2, 3, 1, 0] rfl (WT_X11_count_L14 C FU x1 (0 : Int32) (0 : Int32) σ2)
set_option maxRecDepth 10000 in
theorem con_X11_count (z : ZT) (l : Launch) (x1 : Int32) (σ : St) : ∀ ro, X11_count x1 σ = some ro → Con (wxM z) l yX11_count cX11_count 4 (some .int) 3 77 [.ref (aC z 0), .int x1] σ (jIS ro) :=
  fun ro hk => Con_of hk (by decide) (Nat.le_of_ble_eq_true rfl) (fun x hx C => WT_X11_count C x1 σ)
set_option maxRecDepth 10000 in
theorem K_X11_count {x : MX} {z : ZT} {own : String} {cc : ByteArray} {nL : Nat} {ret : Option FieldType} {fr lo : Nat} {ρ : Type} {inj : ρ → Option Value × St} {pc : Nat} {lv : List (Nat × Value)} {st : List Value} {σ : St} (C : Cok x (wxM z) own cc nL ret fr lo) {x1 : Int32} {index : Nat} (hl : Cond.methodLink own index yX11_count ∈ gtb) (hR : 3 + 1 ≤ fr ∧ 8 + (4 + 11) + 77 ≤ lo) (hW : (st.map fun v => v.category).sum ≤ 8) (hd : decode cc pc = .ok (.invokevirtual index, 3)) {K : (Int32 × St) → Option ρ} (h : ∀ v, Sim x (wxM z) nL inj (K v) (pc + 3) lv (.int v.1 :: st) v.2) : Sim x (wxM z) nL inj ((X11_count x1 σ).bind K) pc lv (.int x1 :: .ref (aC z 0) :: st) σ :=
  S_callV C (As := [.int x1]) (q := 0) (inj1 := jIS) mw_X11_count mv_X11_count hl (fun ro hro => con_X11_count z (mL x) x1 σ ro hro) hR rfl (show 0 < 48 by decide) rfl (ce_X11 z σ) rfl rfl hW hd h
