set_option maxRecDepth 10000 in
theorem WT_X8_kindOf_B14 {x : MX} {z : ZT} (C : Cok x (wxC z) RX8 cX8_kindOf 1 (some .int) 0 0) (σ : St) (x0 : Int32) : Sim x (wxC z) 1 (jI σ) (X8_kindOf_B14 σ x0) 14 [(0, .int x0)] [] σ := by
  rw [X8_kindOf_B14]
  refine S_iload_n C 0 dX8_kindOf_14 rfl ?_
  refine S_bipush C (48) dX8_kindOf_15 (by decide) ?_
  refine S_icmp_lt C 28 dX8_kindOf_17 (by decide) ?_ ?_
  · refine S_iload_n C 0 dX8_kindOf_28 rfl ?_
    refine S_bipush C (59) dX8_kindOf_29 (by decide) ?_
    refine S_icmp_ne C 38 dX8_kindOf_31 (by decide) ?_ ?_
    · refine S_iconst C (4) dX8_kindOf_38 (by decide) ?_
      exact S_iret C rfl dX8_kindOf_39
    · refine S_iconst C (3) dX8_kindOf_34 (by decide) ?_
      refine S_goto C 39 dX8_kindOf_35 (by decide) ?_
      exact S_iret C rfl dX8_kindOf_39
  · refine S_iload_n C 0 dX8_kindOf_20 rfl ?_
    refine S_bipush C (57) dX8_kindOf_21 (by decide) ?_
    refine S_icmp_gt C 28 dX8_kindOf_23 (by decide) ?_ ?_
    · refine S_iload_n C 0 dX8_kindOf_28 rfl ?_
      refine S_bipush C (59) dX8_kindOf_29 (by decide) ?_
      refine S_icmp_ne C 38 dX8_kindOf_31 (by decide) ?_ ?_
      · refine S_iconst C (4) dX8_kindOf_38 (by decide) ?_
        exact S_iret C rfl dX8_kindOf_39
      · refine S_iconst C (3) dX8_kindOf_34 (by decide) ?_
        refine S_goto C 39 dX8_kindOf_35 (by decide) ?_
        exact S_iret C rfl dX8_kindOf_39
    · refine S_iconst C (2) dX8_kindOf_26 (by decide) ?_
      exact S_iret C rfl dX8_kindOf_27
set_option maxRecDepth 10000 in
theorem WT_X8_kindOf {x : MX} {z : ZT} (C : Cok x (wxC z) RX8 cX8_kindOf 1 (some .int) 0 0) (x0 : Int32) (σ : St) : Sim x (wxC z) 1 (jI σ) (X8_kindOf x0 σ) 0 [(0, .int x0)] [] σ := by
  rw [X8_kindOf]
  refine S_iload_n C 0 dX8_kindOf_0 rfl ?_
  refine S_bipush C (97) dX8_kindOf_1 (by decide) ?_
  refine S_icmp_lt C 14 dX8_kindOf_3 (by decide) ?_ ?_
  · exact S_sub [0] rfl (WT_X8_kindOf_B14 C σ x0)
  · refine S_iload_n C 0 dX8_kindOf_6 rfl ?_
    refine S_bipush C (122) dX8_kindOf_7 (by decide) ?_
    refine S_icmp_gt C 14 dX8_kindOf_9 (by decide) ?_ ?_
    · exact S_sub [0] rfl (WT_X8_kindOf_B14 C σ x0)
    · refine S_iconst C (1) dX8_kindOf_12 (by decide) ?_
      exact S_iret C rfl dX8_kindOf_13
set_option maxRecDepth 10000 in
theorem con_X8_kindOf (z : ZT) (l : Launch) (x0 : Int32) (σ : St) : ∀ ro, X8_kindOf x0 σ = some ro → Con (wxC z) l yX8_kindOf cX8_kindOf 1 (some .int) 0 0 [.int x0] σ ((jI σ) ro) :=
  fun ro hk => Con_of hk (by decide) (Nat.le_of_ble_eq_true rfl) (fun x hx C => WT_X8_kindOf C x0 σ)
set_option maxRecDepth 10000 in
theorem K_X8_kindOf {x : MX} {z : ZT} {own : String} {cc : ByteArray} {nL : Nat} {ret : Option FieldType} {fr lo : Nat} {ρ : Type} {inj : ρ → Option Value × St} {pc : Nat} {lv : List (Nat × Value)} {st : List Value} {σ : St} (C : Cok x (wxC z) own cc nL ret fr lo) {x0 : Int32} {index : Nat} (hl : Cond.methodLink own index yX8_kindOf ∈ gtb) (hR : 0 + 1 ≤ fr ∧ 8 + (1 + 11) + 0 ≤ lo) (hW : (st.map fun v => v.category).sum ≤ 8) (hd : decode cc pc = .ok (.invokestatic index, 3)) {K : Int32 → Option ρ} (h : ∀ v, Sim x (wxC z) nL inj (K v) (pc + 3) lv (.int v :: st) σ) : Sim x (wxC z) nL inj ((X8_kindOf x0 σ).bind K) pc lv (.int x0 :: st) σ :=
  S_callS C (As := [.int x0]) (inj1 := (jI σ)) mw_X8_kindOf ms_X8_kindOf hl (fun ro hro => con_X8_kindOf z (mL x) x0 σ ro hro) hR rfl rfl hW hd h
set_option maxRecDepth 10000 in
theorem WT_X8_readToken_B245 {x : MX} {z : ZT} (C : Cok x (wxC z) RX8 cX8_readToken 3 none 1 21) (σ : St) : Sim x (wxC z) 3 jV (X8_readToken_B245 σ) 245 [(0, .ref (aC z 3))] [] σ := by
  rw [X8_readToken_B245]
  refine S_aload_n C 0 dX8_readToken_245 rfl ?_
  refine S_aload_n C 0 dX8_readToken_246 rfl ?_
  refine G_X8_next C fl_X8_26 dX8_readToken_247 ?_
  refine S_aload_n C 0 dX8_readToken_250 rfl ?_
  refine G_X8_start C fl_X8_124 dX8_readToken_251 ?_
  refine S_isub C dX8_readToken_254 ?_
  refine P_X8_length C fl_X8_97 dX8_readToken_255 ?_
  refine S_bndS (fun σ5 _ => ?_)
  refine S_aload_n C 0 dX8_readToken_258 rfl ?_
  refine G_X8_kind C fl_X8_40 dX8_readToken_259 ?_
  refine S_iconst C (2) dX8_readToken_262 (by decide) ?_
  refine S_icmp_ne C 279 dX8_readToken_263 (by decide) ?_ ?_
  · exact S_vret C rfl dX8_readToken_279
  · refine S_aload_n C 0 dX8_readToken_266 rfl ?_
    refine G_X8_length C fl_X8_97 dX8_readToken_267 ?_
    refine S_iconst C (2) dX8_readToken_270 (by decide) ?_
    refine S_icmp_le C 279 dX8_readToken_271 (by decide) ?_ ?_
    · exact S_vret C rfl dX8_readToken_279
    · refine S_aload_n C 0 dX8_readToken_274 rfl ?_
      refine S_iconst C (4) dX8_readToken_275 (by decide) ?_
      refine P_X8_kind C fl_X8_40 dX8_readToken_276 ?_
      refine S_bndS (fun σ6 _ => ?_)
      exact S_vret C rfl dX8_readToken_279
set_option maxRecDepth 10000 in
theorem WT_X8_readToken_L140 {x : MX} {z : ZT} (C : Cok x (wxC z) RX8 cX8_readToken 3 none 1 21) : ∀ (n : Nat) (x1 : Int32) (σ : St), Sim x (wxC z) 3 jV (X8_readToken_L140 n x1 σ) 140 [(0, .ref (aC z 3)), (1, .int x1)] [] σ := by
  intro n
  induction n with
  | zero =>
    intros
    exact S_none
  | succ n ih =>
    intro x1 σ
    rw [X8_readToken_L140]
    refine S_iload_n C 1 dX8_readToken_140 rfl ?_
    refine S_if_eq C 245 dX8_readToken_141 (by decide) ?_ ?_
    · exact S_sub [0] rfl (WT_X8_readToken_B245 C σ)
    · refine S_aload_n C 0 dX8_readToken_144 rfl ?_
      refine G_X8_next C fl_X8_26 dX8_readToken_145 ?_
      refine S_aload_n C 0 dX8_readToken_148 rfl ?_
      refine G_X8_tape C fl_X8_7 dX8_readToken_149 ?_
      refine G_X7_length C fl_X8_140 dX8_readToken_152 ?_
      refine S_icmp_ge C 245 dX8_readToken_155 (by decide) ?_ ?_
      · exact S_sub [0] rfl (WT_X8_readToken_B245 C σ)
      · refine S_aload_n C 0 dX8_readToken_158 rfl ?_
        refine G_X8_tape C fl_X8_7 dX8_readToken_159 ?_
        refine S_aload_n C 0 dX8_readToken_162 rfl ?_
        refine G_X8_next C fl_X8_26 dX8_readToken_163 ?_
        refine K_X7_byteAt C ml_X8_132 (by decide) (Nat.le_of_ble_eq_true rfl) dX8_readToken_166 (fun v7 => ?_)
        refine K_X8_kindOf C ml_X8_141 (by decide) (Nat.le_of_ble_eq_true rfl) dX8_readToken_169 (fun v8 => ?_)
        refine S_aload_n C 0 dX8_readToken_172 rfl ?_
        refine G_X8_kind C fl_X8_40 dX8_readToken_173 ?_
        refine S_icmp_ne C 245 dX8_readToken_176 (by decide) ?_ ?_
        · exact S_sub [0] rfl (WT_X8_readToken_B245 C σ)
        · refine S_aload_n C 0 dX8_readToken_179 rfl ?_
          refine G_X8_tape C fl_X8_7 dX8_readToken_180 ?_
          refine S_aload_n C 0 dX8_readToken_183 rfl ?_
          refine G_X8_next C fl_X8_26 dX8_readToken_184 ?_
          refine K_X7_byteAt C ml_X8_132 (by decide) (Nat.le_of_ble_eq_true rfl) dX8_readToken_187 (fun v9 => ?_)
          refine S_istore_n C [(2, .int v9), (0, .ref (aC z 3)), (1, .int x1)] (i := 2) dX8_readToken_190 rfl (by decide) rfl ?_
          refine S_aload_n C 1 dX8_readToken_191 rfl ?_
          refine S_aload_n C 1 dX8_readToken_192 rfl ?_
          refine G_X8_kind C fl_X8_40 dX8_readToken_193 ?_
          refine S_iconst C (1) dX8_readToken_196 (by decide) ?_
          refine S_icmp_ne C 217 dX8_readToken_197 (by decide) ?_ ?_
          · refine S_aload_n C 1 dX8_readToken_217 rfl ?_
            refine G_X8_value C fl_X8_91 dX8_readToken_218 ?_
            refine S_bipush C (10) dX8_readToken_221 (by decide) ?_
            refine S_imul C dX8_readToken_223 ?_
            refine S_iload_n C 0 dX8_readToken_224 rfl ?_
            refine S_iadd C dX8_readToken_225 ?_
            refine S_bipush C (48) dX8_readToken_226 (by decide) ?_
            refine S_isub C dX8_readToken_228 ?_
            refine P_X8_value C fl_X8_91 dX8_readToken_229 ?_
            refine S_bndS (fun σ10 _ => ?_)
            refine S_aload_n C 1 dX8_readToken_232 rfl ?_
            refine S_dup C dX8_readToken_233 rfl ?_
            refine G_X8_next C fl_X8_26 dX8_readToken_234 ?_
            refine S_iconst C (1) dX8_readToken_237 (by decide) ?_
            refine S_iadd C dX8_readToken_238 ?_
            refine P_X8_next C fl_X8_26 dX8_readToken_239 ?_
            refine S_bndS (fun σ11 _ => ?_)
            refine S_goto C 140 dX8_readToken_242 (by decide) ?_
            exact S_sub [1, 2] rfl (ih x1 σ11)
          · refine S_aload_n C 1 dX8_readToken_200 rfl ?_
            refine G_X8_value C fl_X8_91 dX8_readToken_201 ?_
            refine S_bipush C (32) dX8_readToken_204 (by decide) ?_
            refine S_imul C dX8_readToken_206 ?_
            refine S_iload_n C 0 dX8_readToken_207 rfl ?_
            refine S_iadd C dX8_readToken_208 ?_
            refine S_bipush C (97) dX8_readToken_209 (by decide) ?_
            refine S_isub C dX8_readToken_211 ?_
            refine S_iconst C (1) dX8_readToken_212 (by decide) ?_
            refine S_iadd C dX8_readToken_213 ?_
            refine S_goto C 229 dX8_readToken_214 (by decide) ?_
            refine P_X8_value C fl_X8_91 dX8_readToken_229 ?_
            refine S_bndS (fun σ12 _ => ?_)
            refine S_aload_n C 1 dX8_readToken_232 rfl ?_
            refine S_dup C dX8_readToken_233 rfl ?_
            refine G_X8_next C fl_X8_26 dX8_readToken_234 ?_
            refine S_iconst C (1) dX8_readToken_237 (by decide) ?_
            refine S_iadd C dX8_readToken_238 ?_
            refine P_X8_next C fl_X8_26 dX8_readToken_239 ?_
            refine S_bndS (fun σ13 _ => ?_)
            refine S_goto C 140 dX8_readToken_242 (by decide) ?_
            exact S_sub [1, 2] rfl (ih x1 σ13)
set_option maxRecDepth 10000 in
theorem WT_X8_readToken_B118 {x : MX} {z : ZT} (C : Cok x (wxC z) RX8 cX8_readToken 3 none 1 21) (σ : St) : Sim x (wxC z) 3 jV (X8_readToken_B118 σ) 118 [(0, .ref (aC z 3))] [] σ := by
  rw [X8_readToken_B118]
  refine S_aload_n C 0 dX8_readToken_118 rfl ?_
  refine G_X8_kind C fl_X8_40 dX8_readToken_119 ?_
  refine S_iconst C (1) dX8_readToken_122 (by decide) ?_
  refine S_icmp_eq C 134 dX8_readToken_123 (by decide) ?_ ?_
  · refine S_iconst C (1) dX8_readToken_134 (by decide) ?_
    refine S_goto C 139 dX8_readToken_135 (by decide) ?_
    refine S_istore_n C [(1, .int 1), (0, .ref (aC z 3))] (i := 1) dX8_readToken_139 rfl (by decide) rfl ?_
    exact S_sub [1, 0] rfl (WT_X8_readToken_L140 C FU (1 : Int32) σ)
  · refine S_aload_n C 0 dX8_readToken_126 rfl ?_
    refine G_X8_kind C fl_X8_40 dX8_readToken_127 ?_
    refine S_iconst C (2) dX8_readToken_130 (by decide) ?_
    refine S_icmp_ne C 138 dX8_readToken_131 (by decide) ?_ ?_
    · refine S_iconst C (0) dX8_readToken_138 (by decide) ?_
      refine S_istore_n C [(1, .int 0), (0, .ref (aC z 3))] (i := 1) dX8_readToken_139 rfl (by decide) rfl ?_
      exact S_sub [1, 0] rfl (WT_X8_readToken_L140 C FU (0 : Int32) σ)
    · refine S_iconst C (1) dX8_readToken_134 (by decide) ?_
      refine S_goto C 139 dX8_readToken_135 (by decide) ?_
      refine S_istore_n C [(1, .int 1), (0, .ref (aC z 3))] (i := 1) dX8_readToken_139 rfl (by decide) rfl ?_
      exact S_sub [1, 0] rfl (WT_X8_readToken_L140 C FU (1 : Int32) σ)
set_option maxRecDepth 10000 in
theorem WT_X8_readToken_B89 {x : MX} {z : ZT} (C : Cok x (wxC z) RX8 cX8_readToken 3 none 1 21) (s0 : Int32) (σ : St) : Sim x (wxC z) 3 jV (X8_readToken_B89 s0 σ) 89 [(0, .ref (aC z 3))] [.int s0, .ref (aC z 3)] σ := by
  rw [X8_readToken_B89]
  refine P_X8_kind C fl_X8_40 dX8_readToken_89 ?_
  refine S_bndS (fun σ3 _ => ?_)
  refine S_aload_n C 0 dX8_readToken_92 rfl ?_
  refine G_X8_kind C fl_X8_40 dX8_readToken_93 ?_
  refine S_iconst C (3) dX8_readToken_96 (by decide) ?_
  refine S_icmp_eq C 108 dX8_readToken_97 (by decide) ?_ ?_
  · refine S_aload_n C 0 dX8_readToken_108 rfl ?_
    refine S_dup C dX8_readToken_109 rfl ?_
    refine G_X8_next C fl_X8_26 dX8_readToken_110 ?_
    refine S_iconst C (1) dX8_readToken_113 (by decide) ?_
    refine S_iadd C dX8_readToken_114 ?_
    refine P_X8_next C fl_X8_26 dX8_readToken_115 ?_
    refine S_bndS (fun σ4 _ => ?_)
    exact S_sub [0] rfl (WT_X8_readToken_B118 C σ4)
  · refine S_aload_n C 0 dX8_readToken_100 rfl ?_
    refine G_X8_kind C fl_X8_40 dX8_readToken_101 ?_
    refine S_iconst C (4) dX8_readToken_104 (by decide) ?_
    refine S_icmp_ne C 118 dX8_readToken_105 (by decide) ?_ ?_
    · exact S_sub [0] rfl (WT_X8_readToken_B118 C σ3)
    · refine S_aload_n C 0 dX8_readToken_108 rfl ?_
      refine S_dup C dX8_readToken_109 rfl ?_
      refine G_X8_next C fl_X8_26 dX8_readToken_110 ?_
      refine S_iconst C (1) dX8_readToken_113 (by decide) ?_
      refine S_iadd C dX8_readToken_114 ?_
      refine P_X8_next C fl_X8_26 dX8_readToken_115 ?_
      refine S_bndS (fun σ14 _ => ?_)
      exact S_sub [0] rfl (WT_X8_readToken_B118 C σ14)
set_option maxRecDepth 10000 in
theorem WT_X8_readToken_B43 {x : MX} {z : ZT} (C : Cok x (wxC z) RX8 cX8_readToken 3 none 1 21) (σ : St) : Sim x (wxC z) 3 jV (X8_readToken_B43 σ) 43 [(0, .ref (aC z 3))] [] σ := by
  rw [X8_readToken_B43]
  refine S_aload_n C 0 dX8_readToken_43 rfl ?_
  refine S_aload_n C 0 dX8_readToken_44 rfl ?_
  refine G_X8_next C fl_X8_26 dX8_readToken_45 ?_
  refine P_X8_start C fl_X8_124 dX8_readToken_48 ?_
  refine S_bndS (fun σ1 _ => ?_)
  refine S_aload_n C 0 dX8_readToken_51 rfl ?_
  refine S_iconst C (0) dX8_readToken_52 (by decide) ?_
  refine P_X8_value C fl_X8_91 dX8_readToken_53 ?_
  refine S_bndS (fun σ2 _ => ?_)
  refine S_aload_n C 0 dX8_readToken_56 rfl ?_
  refine S_aload_n C 0 dX8_readToken_57 rfl ?_
  refine G_X8_next C fl_X8_26 dX8_readToken_58 ?_
  refine S_aload_n C 0 dX8_readToken_61 rfl ?_
  refine G_X8_tape C fl_X8_7 dX8_readToken_62 ?_
  refine G_X7_length C fl_X8_140 dX8_readToken_65 ?_
  refine S_icmp_ge C 88 dX8_readToken_68 (by decide) ?_ ?_
  · refine S_iconst C (0) dX8_readToken_88 (by decide) ?_
    exact S_sub [0] rfl (WT_X8_readToken_B89 C (0 : Int32) σ2)
  · refine S_aload_n C 0 dX8_readToken_71 rfl ?_
    refine G_X8_tape C fl_X8_7 dX8_readToken_72 ?_
    refine S_aload_n C 0 dX8_readToken_75 rfl ?_
    refine G_X8_next C fl_X8_26 dX8_readToken_76 ?_
    refine K_X7_byteAt C ml_X8_132 (by decide) (Nat.le_of_ble_eq_true rfl) dX8_readToken_79 (fun v15 => ?_)
    refine K_X8_kindOf C ml_X8_141 (by decide) (Nat.le_of_ble_eq_true rfl) dX8_readToken_82 (fun v16 => ?_)
    refine S_goto C 89 dX8_readToken_85 (by decide) ?_
    exact S_sub [0] rfl (WT_X8_readToken_B89 C v16 σ2)
set_option maxRecDepth 10000 in
theorem WT_X8_readToken_L0 {x : MX} {z : ZT} (C : Cok x (wxC z) RX8 cX8_readToken 3 none 1 21) : ∀ (n : Nat) (σ : St), Sim x (wxC z) 3 jV (X8_readToken_L0 n σ) 0 [(0, .ref (aC z 3))] [] σ := by
  intro n
  induction n with
  | zero =>
    intros
    exact S_none
  | succ n ih =>
    intro σ
    rw [X8_readToken_L0]
    refine S_aload_n C 0 dX8_readToken_0 rfl ?_
    refine G_X8_next C fl_X8_26 dX8_readToken_1 ?_
    refine S_aload_n C 0 dX8_readToken_4 rfl ?_
    refine G_X8_tape C fl_X8_7 dX8_readToken_5 ?_
    refine G_X7_length C fl_X8_140 dX8_readToken_8 ?_
    refine S_icmp_ge C 43 dX8_readToken_11 (by decide) ?_ ?_
    · exact S_sub [0] rfl (WT_X8_readToken_B43 C σ)
    · refine S_aload_n C 0 dX8_readToken_14 rfl ?_
      refine G_X8_tape C fl_X8_7 dX8_readToken_15 ?_
      refine S_aload_n C 0 dX8_readToken_18 rfl ?_
      refine G_X8_next C fl_X8_26 dX8_readToken_19 ?_
      refine K_X7_byteAt C ml_X8_132 (by decide) (Nat.le_of_ble_eq_true rfl) dX8_readToken_22 (fun v17 => ?_)
      refine S_bipush C (32) dX8_readToken_25 (by decide) ?_
      refine S_icmp_ne C 43 dX8_readToken_27 (by decide) ?_ ?_
      · exact S_sub [0] rfl (WT_X8_readToken_B43 C σ)
      · refine S_aload_n C 0 dX8_readToken_30 rfl ?_
        refine S_dup C dX8_readToken_31 rfl ?_
        refine G_X8_next C fl_X8_26 dX8_readToken_32 ?_
        refine S_iconst C (1) dX8_readToken_35 (by decide) ?_
        refine S_iadd C dX8_readToken_36 ?_
        refine P_X8_next C fl_X8_26 dX8_readToken_37 ?_
        refine S_bndS (fun σ18 _ => ?_)
        refine S_goto C 0 dX8_readToken_40 (by decide) ?_
        exact S_sub [0] rfl (ih σ18)
set_option maxRecDepth 10000 in
theorem WT_X8_readToken {x : MX} {z : ZT} (C : Cok x (wxC z) RX8 cX8_readToken 3 none 1 21)  (σ : St) : Sim x (wxC z) 3 jV (X8_readToken σ) 0 [(0, .ref (aC z 3))] [] σ := by
  rw [X8_readToken]
  exact S_sub [0] rfl (WT_X8_readToken_L0 C FU σ)
set_option maxRecDepth 10000 in
theorem con_X8_readToken (z : ZT) (l : Launch)  (σ : St) : ∀ ro, X8_readToken σ = some ro → Con (wxC z) l yX8_readToken cX8_readToken 3 none 1 21 [.ref (aC z 3)] σ (jV ro) :=
  fun ro hk => Con_of hk (by decide) (Nat.le_of_ble_eq_true rfl) (fun x hx C => WT_X8_readToken C σ)
set_option maxRecDepth 10000 in
theorem K_X8_readToken {x : MX} {z : ZT} {own : String} {cc : ByteArray} {nL : Nat} {ret : Option FieldType} {fr lo : Nat} {ρ : Type} {inj : ρ → Option Value × St} {pc : Nat} {lv : List (Nat × Value)} {st : List Value} {σ : St} (C : Cok x (wxC z) own cc nL ret fr lo)  {index : Nat} (hl : Cond.methodLink own index yX8_readToken ∈ gtb) (hR : 1 + 1 ≤ fr ∧ 8 + (3 + 11) + 21 ≤ lo) (hW : (st.map fun v => v.category).sum ≤ 8) (hd : decode cc pc = .ok (.invokevirtual index, 3)) {K : St → Option ρ} (h : ∀ v, Sim x (wxC z) nL inj (K v) (pc + 3) lv (st) v) : Sim x (wxC z) nL inj ((X8_readToken σ).bind K) pc lv (.ref (aC z 3) :: st) σ :=
  S_callV C (As := []) (q := 3) (inj1 := jV) mw_X8_readToken mv_X8_readToken hl (fun ro hro => con_X8_readToken z (mL x) σ ro hro) hR rfl (show 3 < 59 by decide) rfl (ce_X8 z σ) rfl rfl hW hd h
set_option maxRecDepth 10000 in
theorem WT_X8_isWord_L23 {x : MX} {z : ZT} (C : Cok x (wxC z) RX8 cX8_isWord 3 (some .boolean) 4 85) (t1 : Nat) (σ : St) (ht1 : t1 < 8) : ∀ (n : Nat) (x2 : Int32), Sim x (wxC z) 3 (jI σ) (X8_isWord_L23 t1 σ n x2) 23 [(0, .ref (aC z 3)), (1, .ref (wKs (wxC z) t1)), (2, .int x2)] [] σ := by
  intro n
  induction n with
  | zero =>
    intros
    exact S_none
  | succ n ih =>
    intro x2
    rw [X8_isWord_L23]
    refine S_iload_n C 2 dX8_isWord_23 rfl ?_
    refine S_aload_n C 0 dX8_isWord_24 rfl ?_
    refine G_X8_length C fl_X8_97 dX8_isWord_25 ?_
    refine S_icmp_ge C 60 dX8_isWord_28 (by decide) ?_ ?_
    · refine S_iconst C (1) dX8_isWord_60 (by decide) ?_
      exact S_zret C rfl rfl dX8_isWord_61
    · refine S_aload_n C 0 dX8_isWord_31 rfl ?_
      refine G_X8_tape C fl_X8_7 dX8_isWord_32 ?_
      refine S_aload_n C 0 dX8_isWord_35 rfl ?_
      refine G_X8_start C fl_X8_124 dX8_isWord_36 ?_
      refine S_iload_n C 2 dX8_isWord_39 rfl ?_
      refine S_iadd C dX8_isWord_40 ?_
      refine K_X7_byteAt C ml_X8_132 (by decide) (Nat.le_of_ble_eq_true rfl) dX8_isWord_41 (fun v2 => ?_)
      refine S_aload_n C 1 dX8_isWord_44 rfl ?_
      refine S_iload_n C 2 dX8_isWord_45 rfl ?_
      refine K_J0_charAt_5068e C ht1 ml_X8_136 (by decide) (Nat.le_of_ble_eq_true rfl) dX8_isWord_46 (fun v3 => ?_)
      refine S_icmp_eq C 54 dX8_isWord_49 (by decide) ?_ ?_
      · refine S_iinc C 2 [(2, .int (x2 + 1)), (0, .ref (aC z 3)), (1, .ref (wKs (wxC z) t1))] (x2 + 1) dX8_isWord_54 rfl rfl (by decide) rfl ?_
        refine S_goto C 23 dX8_isWord_57 (by decide) ?_
        exact S_sub [1, 2, 0] rfl (ih (x2 + 1))
      · refine S_iconst C (0) dX8_isWord_52 (by decide) ?_
        exact S_zret C rfl rfl dX8_isWord_53
set_option maxRecDepth 10000 in
theorem WT_X8_isWord {x : MX} {z : ZT} (C : Cok x (wxC z) RX8 cX8_isWord 3 (some .boolean) 4 85) (t1 : Nat) (σ : St) (ht1 : t1 < 8) : Sim x (wxC z) 3 (jI σ) (X8_isWord t1 σ) 0 [(0, .ref (aC z 3)), (1, .ref (wKs (wxC z) t1))] [] σ := by
  rw [X8_isWord]
  refine S_aload_n C 0 dX8_isWord_0 rfl ?_
  refine G_X8_kind C fl_X8_40 dX8_isWord_1 ?_
  refine S_iconst C (1) dX8_isWord_4 (by decide) ?_
  refine S_icmp_ne C 19 dX8_isWord_5 (by decide) ?_ ?_
  · refine S_iconst C (0) dX8_isWord_19 (by decide) ?_
    exact S_zret C rfl rfl dX8_isWord_20
  · refine S_aload_n C 0 dX8_isWord_8 rfl ?_
    refine G_X8_length C fl_X8_97 dX8_isWord_9 ?_
    refine S_aload_n C 1 dX8_isWord_12 rfl ?_
    refine K_J0_length_8abf5 C ht1 ml_X8_127 (by decide) (Nat.le_of_ble_eq_true rfl) dX8_isWord_13 (fun v1 => ?_)
    refine S_icmp_eq C 21 dX8_isWord_16 (by decide) ?_ ?_
    · refine S_iconst C (0) dX8_isWord_21 (by decide) ?_
      refine S_istore_n C [(2, .int 0), (0, .ref (aC z 3)), (1, .ref (wKs (wxC z) t1))] (i := 2) dX8_isWord_22 rfl (by decide) rfl ?_
      exact S_sub [1, 2, 0] rfl (WT_X8_isWord_L23 C t1 σ ht1 FU (0 : Int32))
    · refine S_iconst C (0) dX8_isWord_19 (by decide) ?_
      exact S_zret C rfl rfl dX8_isWord_20
set_option maxRecDepth 10000 in
theorem con_X8_isWord (z : ZT) (l : Launch) (t1 : Nat) (σ : St) (ht1 : t1 < 8) : ∀ ro, X8_isWord t1 σ = some ro → Con (wxC z) l yX8_isWord cX8_isWord 3 (some .boolean) 4 85 [.ref (aC z 3), .ref (wKs (wxC z) t1)] σ ((jI σ) ro) :=
  fun ro hk => Con_of hk (by decide) (Nat.le_of_ble_eq_true rfl) (fun x hx C => WT_X8_isWord C t1 σ ht1)
set_option maxRecDepth 10000 in
theorem K_X8_isWord {x : MX} {z : ZT} {own : String} {cc : ByteArray} {nL : Nat} {ret : Option FieldType} {fr lo : Nat} {ρ : Type} {inj : ρ → Option Value × St} {pc : Nat} {lv : List (Nat × Value)} {st : List Value} {σ : St} (C : Cok x (wxC z) own cc nL ret fr lo) {t1 : Nat} (ht1 : t1 < 8) {index : Nat} (hl : Cond.methodLink own index yX8_isWord ∈ gtb) (hR : 4 + 1 ≤ fr ∧ 8 + (3 + 11) + 85 ≤ lo) (hW : (st.map fun v => v.category).sum ≤ 8) (hd : decode cc pc = .ok (.invokevirtual index, 3)) {K : Int32 → Option ρ} (h : ∀ v, Sim x (wxC z) nL inj (K v) (pc + 3) lv (.int v :: st) σ) : Sim x (wxC z) nL inj ((X8_isWord t1 σ).bind K) pc lv (.ref (wKs (wxC z) t1) :: .ref (aC z 3) :: st) σ :=
  S_callV C (As := [.ref (wKs (wxC z) t1)]) (q := 3) (inj1 := (jI σ)) mw_X8_isWord mv_X8_isWord hl (fun ro hro => con_X8_isWord z (mL x) t1 σ ht1 ro hro) hR rfl (show 3 < 59 by decide) rfl (ce_X8 z σ) rfl rfl hW hd h
set_option maxRecDepth 10000 in
theorem WT_X8_refuse {x : MX} {z : ZT} (C : Cok x (wxC z) RX8 cX8_refuse 2 (some .boolean) 0 0) (x1 : Int32) (σ : St) : Sim x (wxC z) 2 jIS (X8_refuse x1 σ) 0 [(0, .ref (aC z 3)), (1, .int x1)] [] σ := by
  rw [X8_refuse]
  refine S_aload_n C 0 dX8_refuse_0 rfl ?_
  refine S_iload_n C 1 dX8_refuse_1 rfl ?_
  refine P_X8_faultKind C fl_X8_29 dX8_refuse_2 ?_
  refine S_bndS (fun σ1 _ => ?_)
  refine S_aload_n C 0 dX8_refuse_5 rfl ?_
  refine S_aload_n C 0 dX8_refuse_6 rfl ?_
  refine G_X8_start C fl_X8_124 dX8_refuse_7 ?_
  refine P_X8_faultPlace C fl_X8_32 dX8_refuse_10 ?_
  refine S_bndS (fun σ2 _ => ?_)
  refine S_iconst C (0) dX8_refuse_13 (by decide) ?_
  exact S_zret C rfl rfl dX8_refuse_14
set_option maxRecDepth 10000 in
theorem con_X8_refuse (z : ZT) (l : Launch) (x1 : Int32) (σ : St) : ∀ ro, X8_refuse x1 σ = some ro → Con (wxC z) l yX8_refuse cX8_refuse 2 (some .boolean) 0 0 [.ref (aC z 3), .int x1] σ (jIS ro) :=
  fun ro hk => Con_of hk (by decide) (Nat.le_of_ble_eq_true rfl) (fun x hx C => WT_X8_refuse C x1 σ)
set_option maxRecDepth 10000 in
theorem K_X8_refuse {x : MX} {z : ZT} {own : String} {cc : ByteArray} {nL : Nat} {ret : Option FieldType} {fr lo : Nat} {ρ : Type} {inj : ρ → Option Value × St} {pc : Nat} {lv : List (Nat × Value)} {st : List Value} {σ : St} (C : Cok x (wxC z) own cc nL ret fr lo) {x1 : Int32} {index : Nat} (hl : Cond.methodLink own index yX8_refuse ∈ gtb) (hR : 0 + 1 ≤ fr ∧ 8 + (2 + 11) + 0 ≤ lo) (hW : (st.map fun v => v.category).sum ≤ 8) (hd : decode cc pc = .ok (.invokevirtual index, 3)) {K : (Int32 × St) → Option ρ} (h : ∀ v, Sim x (wxC z) nL inj (K v) (pc + 3) lv (.int v.1 :: st) v.2) : Sim x (wxC z) nL inj ((X8_refuse x1 σ).bind K) pc lv (.int x1 :: .ref (aC z 3) :: st) σ :=
  S_callV C (As := [.int x1]) (q := 3) (inj1 := jIS) mw_X8_refuse mv_X8_refuse hl (fun ro hro => con_X8_refuse z (mL x) x1 σ ro hro) hR rfl (show 3 < 59 by decide) rfl (ce_X8 z σ) rfl rfl hW hd h
set_option maxRecDepth 10000 in
theorem WT_X8_takeToken {x : MX} {z : ZT} (C : Cok x (wxC z) RX8 cX8_takeToken 2 (some .boolean) 2 43) (x1 : Int32) (σ : St) : Sim x (wxC z) 2 jIS (X8_takeToken x1 σ) 0 [(0, .ref (aC z 3)), (1, .int x1)] [] σ := by
  rw [X8_takeToken]
  refine S_aload_n C 0 dX8_takeToken_0 rfl ?_
  refine K_X8_readToken C ml_X8_37 (by decide) (Nat.le_of_ble_eq_true rfl) dX8_takeToken_1 (fun σ1 => ?_)
  refine S_aload_n C 0 dX8_takeToken_4 rfl ?_
  refine G_X8_kind C fl_X8_40 dX8_takeToken_5 ?_
  refine S_iconst C (4) dX8_takeToken_8 (by decide) ?_
  refine S_icmp_ne C 18 dX8_takeToken_9 (by decide) ?_ ?_
  · refine S_aload_n C 0 dX8_takeToken_18 rfl ?_
    refine G_X8_kind C fl_X8_40 dX8_takeToken_19 ?_
    refine S_iload_n C 1 dX8_takeToken_22 rfl ?_
    refine S_icmp_eq C 34 dX8_takeToken_23 (by decide) ?_ ?_
    · refine S_iconst C (1) dX8_takeToken_34 (by decide) ?_
      refine S_goto C 39 dX8_takeToken_35 (by decide) ?_
      exact S_zret C rfl rfl dX8_takeToken_39
    · refine S_aload_n C 0 dX8_takeToken_26 rfl ?_
      refine S_iconst C (2) dX8_takeToken_27 (by decide) ?_
      refine K_X8_refuse C ml_X8_47 (by decide) (Nat.le_of_ble_eq_true rfl) dX8_takeToken_28 (fun r2 => ?_)
      refine S_if_eq C 38 dX8_takeToken_31 (by decide) ?_ ?_
      · refine S_iconst C (0) dX8_takeToken_38 (by decide) ?_
        exact S_zret C rfl rfl dX8_takeToken_39
      · refine S_iconst C (1) dX8_takeToken_34 (by decide) ?_
        refine S_goto C 39 dX8_takeToken_35 (by decide) ?_
        exact S_zret C rfl rfl dX8_takeToken_39
  · refine S_aload_n C 0 dX8_takeToken_12 rfl ?_
    refine S_iconst C (1) dX8_takeToken_13 (by decide) ?_
    refine K_X8_refuse C ml_X8_47 (by decide) (Nat.le_of_ble_eq_true rfl) dX8_takeToken_14 (fun r3 => ?_)
    exact S_chkB (fun h4 => S_zret C (nb_01 h4) rfl dX8_takeToken_17)
set_option maxRecDepth 10000 in
theorem con_X8_takeToken (z : ZT) (l : Launch) (x1 : Int32) (σ : St) : ∀ ro, X8_takeToken x1 σ = some ro → Con (wxC z) l yX8_takeToken cX8_takeToken 2 (some .boolean) 2 43 [.ref (aC z 3), .int x1] σ (jIS ro) :=
  fun ro hk => Con_of hk (by decide) (Nat.le_of_ble_eq_true rfl) (fun x hx C => WT_X8_takeToken C x1 σ)
set_option maxRecDepth 10000 in
theorem K_X8_takeToken {x : MX} {z : ZT} {own : String} {cc : ByteArray} {nL : Nat} {ret : Option FieldType} {fr lo : Nat} {ρ : Type} {inj : ρ → Option Value × St} {pc : Nat} {lv : List (Nat × Value)} {st : List Value} {σ : St} (C : Cok x (wxC z) own cc nL ret fr lo) {x1 : Int32} {index : Nat} (hl : Cond.methodLink own index yX8_takeToken ∈ gtb) (hR : 2 + 1 ≤ fr ∧ 8 + (2 + 11) + 43 ≤ lo) (hW : (st.map fun v => v.category).sum ≤ 8) (hd : decode cc pc = .ok (.invokevirtual index, 3)) {K : (Int32 × St) → Option ρ} (h : ∀ v, Sim x (wxC z) nL inj (K v) (pc + 3) lv (.int v.1 :: st) v.2) : Sim x (wxC z) nL inj ((X8_takeToken x1 σ).bind K) pc lv (.int x1 :: .ref (aC z 3) :: st) σ :=
  S_callV C (As := [.int x1]) (q := 3) (inj1 := jIS) mw_X8_takeToken mv_X8_takeToken hl (fun ro hro => con_X8_takeToken z (mL x) x1 σ ro hro) hR rfl (show 3 < 59 by decide) rfl (ce_X8 z σ) rfl rfl hW hd h
set_option maxRecDepth 10000 in
theorem WT_X8_takeName {x : MX} {z : ZT} (C : Cok x (wxC z) RX8 cX8_takeName 2 (some .boolean) 3 64) (x1 : Int32) (σ : St) : Sim x (wxC z) 2 jIS (X8_takeName x1 σ) 0 [(0, .ref (aC z 3)), (1, .int x1)] [] σ := by
  rw [X8_takeName]
  refine S_aload_n C 0 dX8_takeName_0 rfl ?_
  refine S_iconst C (1) dX8_takeName_1 (by decide) ?_
  refine K_X8_takeToken C ml_X8_100 (by decide) (Nat.le_of_ble_eq_true rfl) dX8_takeName_2 (fun r1 => ?_)
  refine S_if_eq C 28 dX8_takeName_5 (by decide) ?_ ?_
  · refine S_iconst C (0) dX8_takeName_28 (by decide) ?_
    exact S_zret C rfl rfl dX8_takeName_29
  · refine S_aload_n C 0 dX8_takeName_8 rfl ?_
    refine G_X8_length C fl_X8_97 dX8_takeName_9 ?_
    refine S_iload_n C 1 dX8_takeName_12 rfl ?_
    refine S_icmp_le C 24 dX8_takeName_13 (by decide) ?_ ?_
    · refine S_iconst C (1) dX8_takeName_24 (by decide) ?_
      refine S_goto C 29 dX8_takeName_25 (by decide) ?_
      exact S_zret C rfl rfl dX8_takeName_29
    · refine S_aload_n C 0 dX8_takeName_16 rfl ?_
      refine S_iconst C (2) dX8_takeName_17 (by decide) ?_
      refine K_X8_refuse C ml_X8_47 (by decide) (Nat.le_of_ble_eq_true rfl) dX8_takeName_18 (fun r2 => ?_)
      refine S_if_eq C 28 dX8_takeName_21 (by decide) ?_ ?_
      · refine S_iconst C (0) dX8_takeName_28 (by decide) ?_
        exact S_zret C rfl rfl dX8_takeName_29
      · refine S_iconst C (1) dX8_takeName_24 (by decide) ?_
        refine S_goto C 29 dX8_takeName_25 (by decide) ?_
        exact S_zret C rfl rfl dX8_takeName_29
set_option maxRecDepth 10000 in
theorem con_X8_takeName (z : ZT) (l : Launch) (x1 : Int32) (σ : St) : ∀ ro, X8_takeName x1 σ = some ro → Con (wxC z) l yX8_takeName cX8_takeName 2 (some .boolean) 3 64 [.ref (aC z 3), .int x1] σ (jIS ro) :=
  fun ro hk => Con_of hk (by decide) (Nat.le_of_ble_eq_true rfl) (fun x hx C => WT_X8_takeName C x1 σ)
set_option maxRecDepth 10000 in
theorem K_X8_takeName {x : MX} {z : ZT} {own : String} {cc : ByteArray} {nL : Nat} {ret : Option FieldType} {fr lo : Nat} {ρ : Type} {inj : ρ → Option Value × St} {pc : Nat} {lv : List (Nat × Value)} {st : List Value} {σ : St} (C : Cok x (wxC z) own cc nL ret fr lo) {x1 : Int32} {index : Nat} (hl : Cond.methodLink own index yX8_takeName ∈ gtb) (hR : 3 + 1 ≤ fr ∧ 8 + (2 + 11) + 64 ≤ lo) (hW : (st.map fun v => v.category).sum ≤ 8) (hd : decode cc pc = .ok (.invokevirtual index, 3)) {K : (Int32 × St) → Option ρ} (h : ∀ v, Sim x (wxC z) nL inj (K v) (pc + 3) lv (.int v.1 :: st) v.2) : Sim x (wxC z) nL inj ((X8_takeName x1 σ).bind K) pc lv (.int x1 :: .ref (aC z 3) :: st) σ :=
  S_callV C (As := [.int x1]) (q := 3) (inj1 := jIS) mw_X8_takeName mv_X8_takeName hl (fun ro hro => con_X8_takeName z (mL x) x1 σ ro hro) hR rfl (show 3 < 59 by decide) rfl (ce_X8 z σ) rfl rfl hW hd h
set_option maxRecDepth 10000 in
theorem WT_X8_takeChange_B98 {x : MX} {z : ZT} (C : Cok x (wxC z) RX8 cX8_takeChange 6 (some .boolean) 4 85) (x2 : Int32) (x3 : Int32) (x4 : Int32) (s0 : Int32) (σ : St) : Sim x (wxC z) 6 jIS (X8_takeChange_B98 x2 x3 x4 s0 σ) 98 [(0, .ref (aC z 3)), (2, .int x2), (3, .int x3), (4, .int x4)] [.int s0] σ := by
  rw [X8_takeChange_B98]
  refine S_istore C [(5, .int s0), (0, .ref (aC z 3)), (2, .int x2), (3, .int x3), (4, .int x4)] dX8_takeChange_98 (by decide) rfl ?_
  refine S_aload_n C 1 dX8_takeChange_100 rfl ?_
  refine S_iconst C (3) dX8_takeChange_101 (by decide) ?_
  refine K_X8_takeToken C ml_X8_100 (by decide) (Nat.le_of_ble_eq_true rfl) dX8_takeChange_102 (fun r7 => ?_)
  refine S_if_ne C 110 dX8_takeChange_105 (by decide) ?_ ?_
  · refine S_aload_n C 1 dX8_takeChange_110 rfl ?_
    refine G_X8_rules C fl_X8_13 dX8_takeChange_111 (fun h8 => ?_)
    refine S_iload_n C 2 dX8_takeChange_114 rfl ?_
    refine S_iload_n C 3 dX8_takeChange_115 rfl ?_
    refine S_iload C 4 dX8_takeChange_116 rfl ?_
    refine S_iload C 0 dX8_takeChange_118 rfl ?_
    refine K_X5_appendChange C h8 ml_X8_103 (by decide) (Nat.le_of_ble_eq_true rfl) dX8_takeChange_120 (fun σ9 => ?_)
    refine S_iconst C (1) dX8_takeChange_123 (by decide) ?_
    exact S_zret C rfl rfl dX8_takeChange_124
  · refine S_iconst C (0) dX8_takeChange_108 (by decide) ?_
    exact S_zret C rfl rfl dX8_takeChange_109
set_option maxRecDepth 10000 in
theorem WT_X8_takeChange_B72 {x : MX} {z : ZT} (C : Cok x (wxC z) RX8 cX8_takeChange 6 (some .boolean) 4 85) (x1 : Int32) (x2 : Int32) (x3 : Int32) (σ : St) : Sim x (wxC z) 6 jIS (X8_takeChange_B72 x1 x2 x3 σ) 72 [(0, .ref (aC z 3)), (1, .int x1), (2, .int x2), (3, .int x3)] [] σ := by
  rw [X8_takeChange_B72]
  refine S_iload_n C 1 dX8_takeChange_72 rfl ?_
  refine S_if_eq C 83 dX8_takeChange_73 (by decide) ?_ ?_
  · refine S_iconst C (0) dX8_takeChange_83 (by decide) ?_
    refine S_istore C [(4, .int 0), (0, .ref (aC z 3)), (1, .int x1), (2, .int x2), (3, .int x3)] dX8_takeChange_84 (by decide) rfl ?_
    refine S_iload_n C 2 dX8_takeChange_86 rfl ?_
    refine S_if_eq C 97 dX8_takeChange_87 (by decide) ?_ ?_
    · refine S_iconst C (0) dX8_takeChange_97 (by decide) ?_
      exact S_sub [1, 3, 4, 0] rfl (WT_X8_takeChange_B98 C x2 x3 (0 : Int32) (0 : Int32) σ)
    · refine S_aload_n C 1 dX8_takeChange_90 rfl ?_
      refine G_X8_length C fl_X8_97 dX8_takeChange_91 ?_
      refine S_goto C 98 dX8_takeChange_94 (by decide) ?_
      exact S_sub [1, 3, 4, 0] rfl (WT_X8_takeChange_B98 C x2 x3 (0 : Int32) (gI σ 3 6) σ)
  · refine S_aload_n C 0 dX8_takeChange_76 rfl ?_
    refine G_X8_value C fl_X8_91 dX8_takeChange_77 ?_
    refine S_goto C 84 dX8_takeChange_80 (by decide) ?_
    refine S_bndT (fun x4_10 _ => ?_)
    refine S_istore C [(4, .int x4_10), (0, .ref (aC z 3)), (1, .int x1), (2, .int x2), (3, .int x3)] dX8_takeChange_84 (by decide) rfl ?_
    refine S_iload_n C 2 dX8_takeChange_86 rfl ?_
    refine S_if_eq C 97 dX8_takeChange_87 (by decide) ?_ ?_
    · refine S_iconst C (0) dX8_takeChange_97 (by decide) ?_
      exact S_sub [1, 3, 4, 0] rfl (WT_X8_takeChange_B98 C x2 x3 x4_10 (0 : Int32) σ)
    · refine S_aload_n C 1 dX8_takeChange_90 rfl ?_
      refine G_X8_length C fl_X8_97 dX8_takeChange_91 ?_
      refine S_goto C 98 dX8_takeChange_94 (by decide) ?_
      exact S_sub [1, 3, 4, 0] rfl (WT_X8_takeChange_B98 C x2 x3 x4_10 (gI σ 3 6) σ)
set_option maxRecDepth 10000 in
theorem WT_X8_takeChange {x : MX} {z : ZT} (C : Cok x (wxC z) RX8 cX8_takeChange 6 (some .boolean) 4 85) (x1 : Int32) (σ : St) : Sim x (wxC z) 6 jIS (X8_takeChange x1 σ) 0 [(0, .ref (aC z 3)), (1, .int x1)] [] σ := by
  rw [X8_takeChange]
  refine S_aload_n C 0 dX8_takeChange_0 rfl ?_
  refine G_X8_rules C fl_X8_13 dX8_takeChange_1 (fun h1 => ?_)
  refine G_X5_changes C h1 fl_X8_85 dX8_takeChange_4 ?_
  refine S_bipush C (12) dX8_takeChange_7 (by decide) ?_
  refine S_icmp_ne C 18 dX8_takeChange_9 (by decide) ?_ ?_
  · refine S_aload_n C 0 dX8_takeChange_18 rfl ?_
    refine S_iconst C (3) dX8_takeChange_19 (by decide) ?_
    refine K_X8_takeName C ml_X8_88 (by decide) (Nat.le_of_ble_eq_true rfl) dX8_takeChange_20 (fun r2 => ?_)
    refine S_if_ne C 28 dX8_takeChange_23 (by decide) ?_ ?_
    · refine S_aload_n C 0 dX8_takeChange_28 rfl ?_
      refine G_X8_rules C fl_X8_13 dX8_takeChange_29 (fun h3 => ?_)
      refine S_aload_n C 0 dX8_takeChange_32 rfl ?_
      refine G_X8_value C fl_X8_91 dX8_takeChange_33 ?_
      refine K_X5_isChanged C h3 ml_X8_94 (by decide) (Nat.le_of_ble_eq_true rfl) dX8_takeChange_36 (fun v4 => ?_)
      refine S_if_eq C 48 dX8_takeChange_39 (by decide) ?_ ?_
      · refine S_aload_n C 0 dX8_takeChange_48 rfl ?_
        refine G_X8_value C fl_X8_91 dX8_takeChange_49 ?_
        refine S_bndT (fun x2_5 _ => ?_)
        refine S_istore_n C [(2, .int x2_5), (0, .ref (aC z 3)), (1, .int x1)] (i := 2) dX8_takeChange_52 rfl (by decide) rfl ?_
        refine S_aload_n C 1 dX8_takeChange_53 rfl ?_
        refine G_X8_length C fl_X8_97 dX8_takeChange_54 ?_
        refine S_bndT (fun x3_6 _ => ?_)
        refine S_istore_n C [(3, .int x3_6), (2, .int x2_5), (0, .ref (aC z 3)), (1, .int x1)] (i := 3) dX8_takeChange_57 rfl (by decide) rfl ?_
        refine S_iload_n C 3 dX8_takeChange_58 rfl ?_
        refine S_if_eq C 72 dX8_takeChange_59 (by decide) ?_ ?_
        · exact S_sub [2, 3, 1, 0] rfl (WT_X8_takeChange_B72 C x1 x2_5 x3_6 r2.2)
        · refine S_aload_n C 2 dX8_takeChange_62 rfl ?_
          refine S_iconst C (2) dX8_takeChange_63 (by decide) ?_
          refine K_X8_takeName C ml_X8_88 (by decide) (Nat.le_of_ble_eq_true rfl) dX8_takeChange_64 (fun r11 => ?_)
          refine S_if_ne C 72 dX8_takeChange_67 (by decide) ?_ ?_
          · exact S_sub [2, 3, 1, 0] rfl (WT_X8_takeChange_B72 C x1 x2_5 x3_6 r11.2)
          · refine S_iconst C (0) dX8_takeChange_70 (by decide) ?_
            exact S_zret C rfl rfl dX8_takeChange_71
      · refine S_aload_n C 0 dX8_takeChange_42 rfl ?_
        refine S_iconst C (4) dX8_takeChange_43 (by decide) ?_
        refine K_X8_refuse C ml_X8_47 (by decide) (Nat.le_of_ble_eq_true rfl) dX8_takeChange_44 (fun r12 => ?_)
        exact S_chkB (fun h13 => S_zret C (nb_01 h13) rfl dX8_takeChange_47)
    · refine S_iconst C (0) dX8_takeChange_26 (by decide) ?_
      exact S_zret C rfl rfl dX8_takeChange_27
  · refine S_aload_n C 0 dX8_takeChange_12 rfl ?_
    refine S_iconst C (5) dX8_takeChange_13 (by decide) ?_
    refine K_X8_refuse C ml_X8_47 (by decide) (Nat.le_of_ble_eq_true rfl) dX8_takeChange_14 (fun r14 => ?_)
    exact S_chkB (fun h15 => S_zret C (nb_01 h15) rfl dX8_takeChange_17)
set_option maxRecDepth 10000 in
theorem con_X8_takeChange (z : ZT) (l : Launch) (x1 : Int32) (σ : St) : ∀ ro, X8_takeChange x1 σ = some ro → Con (wxC z) l yX8_takeChange cX8_takeChange 6 (some .boolean) 4 85 [.ref (aC z 3), .int x1] σ (jIS ro) :=
  fun ro hk => Con_of hk (by decide) (Nat.le_of_ble_eq_true rfl) (fun x hx C => WT_X8_takeChange C x1 σ)
set_option maxRecDepth 10000 in
theorem K_X8_takeChange {x : MX} {z : ZT} {own : String} {cc : ByteArray} {nL : Nat} {ret : Option FieldType} {fr lo : Nat} {ρ : Type} {inj : ρ → Option Value × St} {pc : Nat} {lv : List (Nat × Value)} {st : List Value} {σ : St} (C : Cok x (wxC z) own cc nL ret fr lo) {x1 : Int32} {index : Nat} (hl : Cond.methodLink own index yX8_takeChange ∈ gtb) (hR : 4 + 1 ≤ fr ∧ 8 + (6 + 11) + 85 ≤ lo) (hW : (st.map fun v => v.category).sum ≤ 8) (hd : decode cc pc = .ok (.invokevirtual index, 3)) {K : (Int32 × St) → Option ρ} (h : ∀ v, Sim x (wxC z) nL inj (K v) (pc + 3) lv (.int v.1 :: st) v.2) : Sim x (wxC z) nL inj ((X8_takeChange x1 σ).bind K) pc lv (.int x1 :: .ref (aC z 3) :: st) σ :=
  S_callV C (As := [.int x1]) (q := 3) (inj1 := jIS) mw_X8_takeChange mv_X8_takeChange hl (fun ro hro => con_X8_takeChange z (mL x) x1 σ ro hro) hR rfl (show 3 < 59 by decide) rfl (ce_X8 z σ) rfl rfl hW hd h
set_option maxRecDepth 10000 in
theorem WT_X8_takeBetween_B24 {x : MX} {z : ZT} (C : Cok x (wxC z) RX8 cX8_takeBetween 3 (some .boolean) 3 64) (σ : St) : Sim x (wxC z) 3 jIS (X8_takeBetween_B24 σ) 24 [(0, .ref (aC z 3))] [] σ := by
  rw [X8_takeBetween_B24]
  refine S_aload_n C 0 dX8_takeBetween_24 rfl ?_
  refine S_iconst C (3) dX8_takeBetween_25 (by decide) ?_
  refine K_X8_refuse C ml_X8_47 (by decide) (Nat.le_of_ble_eq_true rfl) dX8_takeBetween_26 (fun r2 => ?_)
  refine S_if_eq C 36 dX8_takeBetween_29 (by decide) ?_ ?_
  · refine S_iconst C (0) dX8_takeBetween_36 (by decide) ?_
    exact S_zret C rfl rfl dX8_takeBetween_37
  · refine S_iconst C (1) dX8_takeBetween_32 (by decide) ?_
    refine S_goto C 37 dX8_takeBetween_33 (by decide) ?_
    exact S_zret C rfl rfl dX8_takeBetween_37
set_option maxRecDepth 10000 in
theorem WT_X8_takeBetween {x : MX} {z : ZT} (C : Cok x (wxC z) RX8 cX8_takeBetween 3 (some .boolean) 3 64) (x1 : Int32) (x2 : Int32) (σ : St) : Sim x (wxC z) 3 jIS (X8_takeBetween x1 x2 σ) 0 [(0, .ref (aC z 3)), (1, .int x1), (2, .int x2)] [] σ := by
  rw [X8_takeBetween]
  refine S_aload_n C 0 dX8_takeBetween_0 rfl ?_
  refine S_iconst C (2) dX8_takeBetween_1 (by decide) ?_
  refine K_X8_takeToken C ml_X8_100 (by decide) (Nat.le_of_ble_eq_true rfl) dX8_takeBetween_2 (fun r1 => ?_)
  refine S_if_eq C 36 dX8_takeBetween_5 (by decide) ?_ ?_
  · refine S_iconst C (0) dX8_takeBetween_36 (by decide) ?_
    exact S_zret C rfl rfl dX8_takeBetween_37
  · refine S_aload_n C 0 dX8_takeBetween_8 rfl ?_
    refine G_X8_value C fl_X8_91 dX8_takeBetween_9 ?_
    refine S_iload_n C 1 dX8_takeBetween_12 rfl ?_
    refine S_icmp_lt C 24 dX8_takeBetween_13 (by decide) ?_ ?_
    · exact S_sub [0] rfl (WT_X8_takeBetween_B24 C r1.2)
    · refine S_aload_n C 0 dX8_takeBetween_16 rfl ?_
      refine G_X8_value C fl_X8_91 dX8_takeBetween_17 ?_
      refine S_iload_n C 2 dX8_takeBetween_20 rfl ?_
      refine S_icmp_le C 32 dX8_takeBetween_21 (by decide) ?_ ?_
      · refine S_iconst C (1) dX8_takeBetween_32 (by decide) ?_
        refine S_goto C 37 dX8_takeBetween_33 (by decide) ?_
        exact S_zret C rfl rfl dX8_takeBetween_37
      · exact S_sub [0] rfl (WT_X8_takeBetween_B24 C r1.2)
set_option maxRecDepth 10000 in
theorem con_X8_takeBetween (z : ZT) (l : Launch) (x1 : Int32) (x2 : Int32) (σ : St) : ∀ ro, X8_takeBetween x1 x2 σ = some ro → Con (wxC z) l yX8_takeBetween cX8_takeBetween 3 (some .boolean) 3 64 [.ref (aC z 3), .int x1, .int x2] σ (jIS ro) :=
  fun ro hk => Con_of hk (by decide) (Nat.le_of_ble_eq_true rfl) (fun x hx C => WT_X8_takeBetween C x1 x2 σ)
set_option maxRecDepth 10000 in
theorem K_X8_takeBetween {x : MX} {z : ZT} {own : String} {cc : ByteArray} {nL : Nat} {ret : Option FieldType} {fr lo : Nat} {ρ : Type} {inj : ρ → Option Value × St} {pc : Nat} {lv : List (Nat × Value)} {st : List Value} {σ : St} (C : Cok x (wxC z) own cc nL ret fr lo) {x1 : Int32} {x2 : Int32} {index : Nat} (hl : Cond.methodLink own index yX8_takeBetween ∈ gtb) (hR : 3 + 1 ≤ fr ∧ 8 + (3 + 11) + 64 ≤ lo) (hW : (st.map fun v => v.category).sum ≤ 8) (hd : decode cc pc = .ok (.invokevirtual index, 3)) {K : (Int32 × St) → Option ρ} (h : ∀ v, Sim x (wxC z) nL inj (K v) (pc + 3) lv (.int v.1 :: st) v.2) : Sim x (wxC z) nL inj ((X8_takeBetween x1 x2 σ).bind K) pc lv (.int x2 :: .int x1 :: .ref (aC z 3) :: st) σ :=
  S_callV C (As := [.int x1, .int x2]) (q := 3) (inj1 := jIS) mw_X8_takeBetween mv_X8_takeBetween hl (fun ro hro => con_X8_takeBetween z (mL x) x1 x2 σ ro hro) hR rfl (show 3 < 59 by decide) rfl (ce_X8 z σ) rfl rfl hW hd h
set_option maxRecDepth 10000 in
theorem WT_X8_takeLike {x : MX} {z : ZT} (C : Cok x (wxC z) RX8 cX8_takeLike 3 (some .boolean) 4 86)  (σ : St) : Sim x (wxC z) 3 jIS (X8_takeLike σ) 0 [(0, .ref (aC z 3))] [] σ := by
  rw [X8_takeLike]
  refine S_aload_n C 0 dX8_takeLike_0 rfl ?_
  refine S_iconst C (1) dX8_takeLike_1 (by decide) ?_
  refine K_X8_takeName C ml_X8_88 (by decide) (Nat.le_of_ble_eq_true rfl) dX8_takeLike_2 (fun r1 => ?_)
  refine S_if_ne C 10 dX8_takeLike_5 (by decide) ?_ ?_
  · refine S_aload_n C 0 dX8_takeLike_10 rfl ?_
    refine G_X8_value C fl_X8_91 dX8_takeLike_11 ?_
    refine S_bndT (fun x1_2 _ => ?_)
    refine S_istore_n C [(1, .int x1_2), (0, .ref (aC z 3))] (i := 1) dX8_takeLike_14 rfl (by decide) rfl ?_
    refine S_aload_n C 1 dX8_takeLike_15 rfl ?_
    refine S_iconst C (1) dX8_takeLike_16 (by decide) ?_
    refine K_X8_takeName C ml_X8_88 (by decide) (Nat.le_of_ble_eq_true rfl) dX8_takeLike_17 (fun r3 => ?_)
    refine S_if_ne C 25 dX8_takeLike_20 (by decide) ?_ ?_
    · refine S_aload_n C 1 dX8_takeLike_25 rfl ?_
      refine G_X8_value C fl_X8_91 dX8_takeLike_26 ?_
      refine S_bndT (fun x2_4 _ => ?_)
      refine S_istore_n C [(2, .int x2_4), (1, .int x1_2), (0, .ref (aC z 3))] (i := 2) dX8_takeLike_29 rfl (by decide) rfl ?_
      refine S_iload_n C 1 dX8_takeLike_30 rfl ?_
      refine S_iload_n C 0 dX8_takeLike_31 rfl ?_
      refine S_icmp_ne C 41 dX8_takeLike_32 (by decide) ?_ ?_
      · refine S_aload_n C 2 dX8_takeLike_41 rfl ?_
        refine G_X8_rules C fl_X8_13 dX8_takeLike_42 (fun h5 => ?_)
        refine S_iload_n C 1 dX8_takeLike_45 rfl ?_
        refine S_iload_n C 0 dX8_takeLike_46 rfl ?_
        refine K_X5_isLike C h5 ml_X8_107 (by decide) (Nat.le_of_ble_eq_true rfl) dX8_takeLike_47 (fun v6 => ?_)
        refine S_if_eq C 59 dX8_takeLike_50 (by decide) ?_ ?_
        · refine S_aload_n C 2 dX8_takeLike_59 rfl ?_
          refine S_iconst C (0) dX8_takeLike_60 (by decide) ?_
          refine S_bipush C (20) dX8_takeLike_61 (by decide) ?_
          refine K_X8_takeBetween C ml_X8_110 (by decide) (Nat.le_of_ble_eq_true rfl) dX8_takeLike_63 (fun r7 => ?_)
          refine S_if_ne C 71 dX8_takeLike_66 (by decide) ?_ ?_
          · refine S_aload_n C 2 dX8_takeLike_71 rfl ?_
            refine G_X8_rules C fl_X8_13 dX8_takeLike_72 (fun h8 => ?_)
            refine S_iload_n C 1 dX8_takeLike_75 rfl ?_
            refine S_iload_n C 0 dX8_takeLike_76 rfl ?_
            refine S_aload_n C 2 dX8_takeLike_77 rfl ?_
            refine G_X8_value C fl_X8_91 dX8_takeLike_78 ?_
            refine K_X5_appendLike C h8 ml_X8_113 (by decide) (Nat.le_of_ble_eq_true rfl) dX8_takeLike_81 (fun σ9 => ?_)
            refine S_aload_n C 2 dX8_takeLike_84 rfl ?_
            refine S_iconst C (3) dX8_takeLike_85 (by decide) ?_
            refine K_X8_takeToken C ml_X8_100 (by decide) (Nat.le_of_ble_eq_true rfl) dX8_takeLike_86 (fun r10 => ?_)
            exact S_chkB (fun h11 => S_zret C (nb_01 h11) rfl dX8_takeLike_89)
          · refine S_iconst C (0) dX8_takeLike_69 (by decide) ?_
            exact S_zret C rfl rfl dX8_takeLike_70
        · refine S_aload_n C 2 dX8_takeLike_53 rfl ?_
          refine S_iconst C (4) dX8_takeLike_54 (by decide) ?_
          refine K_X8_refuse C ml_X8_47 (by decide) (Nat.le_of_ble_eq_true rfl) dX8_takeLike_55 (fun r12 => ?_)
          exact S_chkB (fun h13 => S_zret C (nb_01 h13) rfl dX8_takeLike_58)
      · refine S_aload_n C 2 dX8_takeLike_35 rfl ?_
        refine S_iconst C (3) dX8_takeLike_36 (by decide) ?_
        refine K_X8_refuse C ml_X8_47 (by decide) (Nat.le_of_ble_eq_true rfl) dX8_takeLike_37 (fun r14 => ?_)
        exact S_chkB (fun h15 => S_zret C (nb_01 h15) rfl dX8_takeLike_40)
    · refine S_iconst C (0) dX8_takeLike_23 (by decide) ?_
      exact S_zret C rfl rfl dX8_takeLike_24
  · refine S_iconst C (0) dX8_takeLike_8 (by decide) ?_
    exact S_zret C rfl rfl dX8_takeLike_9
set_option maxRecDepth 10000 in
theorem con_X8_takeLike (z : ZT) (l : Launch)  (σ : St) : ∀ ro, X8_takeLike σ = some ro → Con (wxC z) l yX8_takeLike cX8_takeLike 3 (some .boolean) 4 86 [.ref (aC z 3)] σ (jIS ro) :=
  fun ro hk => Con_of hk (by decide) (Nat.le_of_ble_eq_true rfl) (fun x hx C => WT_X8_takeLike C σ)
set_option maxRecDepth 10000 in
theorem K_X8_takeLike {x : MX} {z : ZT} {own : String} {cc : ByteArray} {nL : Nat} {ret : Option FieldType} {fr lo : Nat} {ρ : Type} {inj : ρ → Option Value × St} {pc : Nat} {lv : List (Nat × Value)} {st : List Value} {σ : St} (C : Cok x (wxC z) own cc nL ret fr lo)  {index : Nat} (hl : Cond.methodLink own index yX8_takeLike ∈ gtb) (hR : 4 + 1 ≤ fr ∧ 8 + (3 + 11) + 86 ≤ lo) (hW : (st.map fun v => v.category).sum ≤ 8) (hd : decode cc pc = .ok (.invokevirtual index, 3)) {K : (Int32 × St) → Option ρ} (h : ∀ v, Sim x (wxC z) nL inj (K v) (pc + 3) lv (.int v.1 :: st) v.2) : Sim x (wxC z) nL inj ((X8_takeLike σ).bind K) pc lv (.ref (aC z 3) :: st) σ :=
  S_callV C (As := []) (q := 3) (inj1 := jIS) mw_X8_takeLike mv_X8_takeLike hl (fun ro hro => con_X8_takeLike z (mL x) σ ro hro) hR rfl (show 3 < 59 by decide) rfl (ce_X8 z σ) rfl rfl hW hd h
set_option maxRecDepth 10000 in
theorem WT_X8_tellOnce {x : MX} {z : ZT} (C : Cok x (wxC z) RX8 cX8_tellOnce 2 (some .boolean) 1 21) (x1 : Int32) (σ : St) : Sim x (wxC z) 2 jIS (X8_tellOnce x1 σ) 0 [(0, .ref (aC z 3)), (1, .int x1)] [] σ := by
  rw [X8_tellOnce]
  refine S_aload_n C 0 dX8_tellOnce_0 rfl ?_
  refine G_X8_toldNumbers C fl_X8_22 dX8_tellOnce_1 ?_
  refine S_iload_n C 1 dX8_tellOnce_4 rfl ?_
  refine S_ishr C dX8_tellOnce_5 ?_
  refine S_iconst C (1) dX8_tellOnce_6 (by decide) ?_
  refine S_iand C dX8_tellOnce_7 ?_
  refine S_iconst C (1) dX8_tellOnce_8 (by decide) ?_
  refine S_icmp_ne C 18 dX8_tellOnce_9 (by decide) ?_ ?_
  · refine S_aload_n C 0 dX8_tellOnce_18 rfl ?_
    refine S_dup C dX8_tellOnce_19 rfl ?_
    refine G_X8_toldNumbers C fl_X8_22 dX8_tellOnce_20 ?_
    refine S_iconst C (1) dX8_tellOnce_23 (by decide) ?_
    refine S_iload_n C 1 dX8_tellOnce_24 rfl ?_
    refine S_ishl C dX8_tellOnce_25 ?_
    refine S_ior C dX8_tellOnce_26 ?_
    refine P_X8_toldNumbers C fl_X8_22 dX8_tellOnce_27 ?_
    refine S_bndS (fun σ1 _ => ?_)
    refine S_iconst C (1) dX8_tellOnce_30 (by decide) ?_
    exact S_zret C rfl rfl dX8_tellOnce_31
  · refine S_aload_n C 0 dX8_tellOnce_12 rfl ?_
    refine S_iconst C (4) dX8_tellOnce_13 (by decide) ?_
    refine K_X8_refuse C ml_X8_47 (by decide) (Nat.le_of_ble_eq_true rfl) dX8_tellOnce_14 (fun r2 => ?_)
    exact S_chkB (fun h3 => S_zret C (nb_01 h3) rfl dX8_tellOnce_17)
set_option maxRecDepth 10000 in
theorem con_X8_tellOnce (z : ZT) (l : Launch) (x1 : Int32) (σ : St) : ∀ ro, X8_tellOnce x1 σ = some ro → Con (wxC z) l yX8_tellOnce cX8_tellOnce 2 (some .boolean) 1 21 [.ref (aC z 3), .int x1] σ (jIS ro) :=
  fun ro hk => Con_of hk (by decide) (Nat.le_of_ble_eq_true rfl) (fun x hx C => WT_X8_tellOnce C x1 σ)
set_option maxRecDepth 10000 in
theorem K_X8_tellOnce {x : MX} {z : ZT} {own : String} {cc : ByteArray} {nL : Nat} {ret : Option FieldType} {fr lo : Nat} {ρ : Type} {inj : ρ → Option Value × St} {pc : Nat} {lv : List (Nat × Value)} {st : List Value} {σ : St} (C : Cok x (wxC z) own cc nL ret fr lo) {x1 : Int32} {index : Nat} (hl : Cond.methodLink own index yX8_tellOnce ∈ gtb) (hR : 1 + 1 ≤ fr ∧ 8 + (2 + 11) + 21 ≤ lo) (hW : (st.map fun v => v.category).sum ≤ 8) (hd : decode cc pc = .ok (.invokevirtual index, 3)) {K : (Int32 × St) → Option ρ} (h : ∀ v, Sim x (wxC z) nL inj (K v) (pc + 3) lv (.int v.1 :: st) v.2) : Sim x (wxC z) nL inj ((X8_tellOnce x1 σ).bind K) pc lv (.int x1 :: .ref (aC z 3) :: st) σ :=
  S_callV C (As := [.int x1]) (q := 3) (inj1 := jIS) mw_X8_tellOnce mv_X8_tellOnce hl (fun ro hro => con_X8_tellOnce z (mL x) x1 σ ro hro) hR rfl (show 3 < 59 by decide) rfl (ce_X8 z σ) rfl rfl hW hd h
set_option maxRecDepth 10000 in
theorem WT_X8_takeNumber {x : MX} {z : ZT} (C : Cok x (wxC z) RX8 cX8_takeNumber 3 (some .boolean) 4 86) (x1 : Int32) (x2 : Int32) (σ : St) : Sim x (wxC z) 3 jIS (X8_takeNumber x1 x2 σ) 0 [(0, .ref (aC z 3)), (1, .int x1), (2, .int x2)] [] σ := by
  rw [X8_takeNumber]
  refine S_aload_n C 0 dX8_takeNumber_0 rfl ?_
  refine S_iload_n C 1 dX8_takeNumber_1 rfl ?_
  refine K_X8_tellOnce C ml_X8_117 (by decide) (Nat.le_of_ble_eq_true rfl) dX8_takeNumber_2 (fun r1 => ?_)
  refine S_if_eq C 18 dX8_takeNumber_5 (by decide) ?_ ?_
  · refine S_iconst C (0) dX8_takeNumber_18 (by decide) ?_
    exact S_zret C rfl rfl dX8_takeNumber_19
  · refine S_aload_n C 0 dX8_takeNumber_8 rfl ?_
    refine S_iload_n C 2 dX8_takeNumber_9 rfl ?_
    refine S_bipush C (20) dX8_takeNumber_10 (by decide) ?_
    refine K_X8_takeBetween C ml_X8_110 (by decide) (Nat.le_of_ble_eq_true rfl) dX8_takeNumber_12 (fun r2 => ?_)
    refine S_if_ne C 20 dX8_takeNumber_15 (by decide) ?_ ?_
    · refine S_aload_n C 0 dX8_takeNumber_20 rfl ?_
      refine G_X8_rules C fl_X8_13 dX8_takeNumber_21 (fun h3 => ?_)
      refine G_X5_numbers C h3 fl_X8_120 dX8_takeNumber_24 ?_
      refine S_iload_n C 1 dX8_takeNumber_27 rfl ?_
      refine S_aload_n C 0 dX8_takeNumber_28 rfl ?_
      refine G_X8_value C fl_X8_91 dX8_takeNumber_29 ?_
      refine T_X5_numbers C h3 dX8_takeNumber_32 (fun _ => ?_)
      refine S_bndS (fun σ4 _ => ?_)
      refine S_aload_n C 0 dX8_takeNumber_33 rfl ?_
      refine S_iconst C (3) dX8_takeNumber_34 (by decide) ?_
      refine K_X8_takeToken C ml_X8_100 (by decide) (Nat.le_of_ble_eq_true rfl) dX8_takeNumber_35 (fun r5 => ?_)
      exact S_chkB (fun h6 => S_zret C (nb_01 h6) rfl dX8_takeNumber_38)
    · refine S_iconst C (0) dX8_takeNumber_18 (by decide) ?_
      exact S_zret C rfl rfl dX8_takeNumber_19
set_option maxRecDepth 10000 in
theorem con_X8_takeNumber (z : ZT) (l : Launch) (x1 : Int32) (x2 : Int32) (σ : St) : ∀ ro, X8_takeNumber x1 x2 σ = some ro → Con (wxC z) l yX8_takeNumber cX8_takeNumber 3 (some .boolean) 4 86 [.ref (aC z 3), .int x1, .int x2] σ (jIS ro) :=
  fun ro hk => Con_of hk (by decide) (Nat.le_of_ble_eq_true rfl) (fun x hx C => WT_X8_takeNumber C x1 x2 σ)
set_option maxRecDepth 10000 in
theorem K_X8_takeNumber {x : MX} {z : ZT} {own : String} {cc : ByteArray} {nL : Nat} {ret : Option FieldType} {fr lo : Nat} {ρ : Type} {inj : ρ → Option Value × St} {pc : Nat} {lv : List (Nat × Value)} {st : List Value} {σ : St} (C : Cok x (wxC z) own cc nL ret fr lo) {x1 : Int32} {x2 : Int32} {index : Nat} (hl : Cond.methodLink own index yX8_takeNumber ∈ gtb) (hR : 4 + 1 ≤ fr ∧ 8 + (3 + 11) + 86 ≤ lo) (hW : (st.map fun v => v.category).sum ≤ 8) (hd : decode cc pc = .ok (.invokevirtual index, 3)) {K : (Int32 × St) → Option ρ} (h : ∀ v, Sim x (wxC z) nL inj (K v) (pc + 3) lv (.int v.1 :: st) v.2) : Sim x (wxC z) nL inj ((X8_takeNumber x1 x2 σ).bind K) pc lv (.int x2 :: .int x1 :: .ref (aC z 3) :: st) σ :=
  S_callV C (As := [.int x1, .int x2]) (q := 3) (inj1 := jIS) mw_X8_takeNumber mv_X8_takeNumber hl (fun ro hro => con_X8_takeNumber z (mL x) x1 x2 σ ro hro) hR rfl (show 3 < 59 by decide) rfl (ce_X8 z σ) rfl rfl hW hd h
set_option maxRecDepth 10000 in
theorem WT_X8_takeSons_B69 {x : MX} {z : ZT} (C : Cok x (wxC z) RX8 cX8_takeSons 4 (some .boolean) 4 86) (kq14 : Int32 → Int32 → St → Option (Int32 × St)) (hk14 : ∀ (x1 : Int32) (x2 : Int32) (σ : St), Sim x (wxC z) 4 jIS (kq14 x1 x2 σ) 14 [(0, .ref (aC z 3)), (1, .int x1), (2, .int x2)] [] σ) (x1 : Int32) (x2 : Int32) (σ : St) : Sim x (wxC z) 4 jIS (X8_takeSons_B69 kq14 x1 x2 σ) 69 [(0, .ref (aC z 3)), (1, .int x1), (2, .int x2)] [] σ := by
  rw [X8_takeSons_B69]
  refine S_aload_n C 0 dX8_takeSons_69 rfl ?_
  refine G_X8_rules C fl_X8_13 dX8_takeSons_70 (fun h8 => ?_)
  refine G_X5_numbers C h8 fl_X8_120 dX8_takeSons_73 ?_
  refine S_iconst C (4) dX8_takeSons_76 (by decide) ?_
  refine S_iload_n C 2 dX8_takeSons_77 rfl ?_
  refine S_iadd C dX8_takeSons_78 ?_
  refine S_aload_n C 0 dX8_takeSons_79 rfl ?_
  refine G_X8_value C fl_X8_91 dX8_takeSons_80 ?_
  refine T_X5_numbers C h8 dX8_takeSons_83 (fun _ => ?_)
  refine S_bndS (fun σ9 _ => ?_)
  refine S_iinc C 2 [(2, .int (x2 + 1)), (0, .ref (aC z 3)), (1, .int x1)] (x2 + 1) dX8_takeSons_84 rfl rfl (by decide) rfl ?_
  refine S_goto C 14 dX8_takeSons_87 (by decide) ?_
  exact S_sub [1, 2, 0] rfl (hk14 x1 (x2 + 1) σ9)
set_option maxRecDepth 10000 in
theorem WT_X8_takeSons_B48 {x : MX} {z : ZT} (C : Cok x (wxC z) RX8 cX8_takeSons 4 (some .boolean) 4 86) (kq14 : Int32 → Int32 → St → Option (Int32 × St)) (hk14 : ∀ (x1 : Int32) (x2 : Int32) (σ : St), Sim x (wxC z) 4 jIS (kq14 x1 x2 σ) 14 [(0, .ref (aC z 3)), (1, .int x1), (2, .int x2)] [] σ) (x1 : Int32) (x2 : Int32) (s0 : Int32) (σ : St) : Sim x (wxC z) 4 jIS (X8_takeSons_B48 kq14 x1 x2 s0 σ) 48 [(0, .ref (aC z 3)), (1, .int x1), (2, .int x2)] [.int s0] σ := by
  rw [X8_takeSons_B48]
  refine S_istore_n C [(3, .int s0), (0, .ref (aC z 3)), (1, .int x1), (2, .int x2)] (i := 3) dX8_takeSons_48 rfl (by decide) rfl ?_
  refine S_iload_n C 2 dX8_takeSons_49 rfl ?_
  refine S_bipush C (9) dX8_takeSons_50 (by decide) ?_
  refine S_icmp_gt C 63 dX8_takeSons_52 (by decide) ?_ ?_
  · refine S_aload_n C 1 dX8_takeSons_63 rfl ?_
    refine S_iconst C (3) dX8_takeSons_64 (by decide) ?_
    refine K_X8_refuse C ml_X8_47 (by decide) (Nat.le_of_ble_eq_true rfl) dX8_takeSons_65 (fun r6 => ?_)
    exact S_chkB (fun h7 => S_zret C (nb_01 h7) rfl dX8_takeSons_68)
  · refine S_iload_n C 0 dX8_takeSons_55 rfl ?_
    refine S_if_eq C 69 dX8_takeSons_56 (by decide) ?_ ?_
    · exact S_sub [1, 2, 3] rfl (WT_X8_takeSons_B69 C _ hk14 x1 x2 σ)
    · refine S_iload_n C 2 dX8_takeSons_59 rfl ?_
      refine S_if_ne C 69 dX8_takeSons_60 (by decide) ?_ ?_
      · exact S_sub [1, 2, 3] rfl (WT_X8_takeSons_B69 C _ hk14 x1 x2 σ)
      · refine S_aload_n C 1 dX8_takeSons_63 rfl ?_
        refine S_iconst C (3) dX8_takeSons_64 (by decide) ?_
        refine K_X8_refuse C ml_X8_47 (by decide) (Nat.le_of_ble_eq_true rfl) dX8_takeSons_65 (fun r10 => ?_)
        exact S_chkB (fun h11 => S_zret C (nb_01 h11) rfl dX8_takeSons_68)
set_option maxRecDepth 10000 in
theorem WT_X8_takeSons_L14 {x : MX} {z : ZT} (C : Cok x (wxC z) RX8 cX8_takeSons 4 (some .boolean) 4 86) : ∀ (n : Nat) (x1 : Int32) (x2 : Int32) (σ : St), Sim x (wxC z) 4 jIS (X8_takeSons_L14 n x1 x2 σ) 14 [(0, .ref (aC z 3)), (1, .int x1), (2, .int x2)] [] σ := by
  intro n
  induction n with
  | zero =>
    intros
    exact S_none
  | succ n ih =>
    intro x1 x2 σ
    rw [X8_takeSons_L14]
    refine S_iload_n C 2 dX8_takeSons_14 rfl ?_
    refine S_iconst C (4) dX8_takeSons_15 (by decide) ?_
    refine S_icmp_ge C 90 dX8_takeSons_16 (by decide) ?_ ?_
    · refine S_aload_n C 0 dX8_takeSons_90 rfl ?_
      refine S_iconst C (3) dX8_takeSons_91 (by decide) ?_
      refine K_X8_takeToken C ml_X8_100 (by decide) (Nat.le_of_ble_eq_true rfl) dX8_takeSons_92 (fun r2 => ?_)
      exact S_chkB (fun h3 => S_zret C (nb_01 h3) rfl dX8_takeSons_95)
    · refine S_aload_n C 0 dX8_takeSons_19 rfl ?_
      refine S_iconst C (0) dX8_takeSons_20 (by decide) ?_
      refine S_bipush C (9) dX8_takeSons_21 (by decide) ?_
      refine K_X8_takeBetween C ml_X8_110 (by decide) (Nat.le_of_ble_eq_true rfl) dX8_takeSons_23 (fun r4 => ?_)
      refine S_if_ne C 31 dX8_takeSons_26 (by decide) ?_ ?_
      · refine S_iload_n C 1 dX8_takeSons_31 rfl ?_
        refine S_aload_n C 0 dX8_takeSons_32 rfl ?_
        refine G_X8_value C fl_X8_91 dX8_takeSons_33 ?_
        refine S_iadd C dX8_takeSons_36 ?_
        refine S_bndT (fun x1_5 _ => ?_)
        refine S_istore_n C [(1, .int x1_5), (0, .ref (aC z 3)), (2, .int x2)] (i := 1) dX8_takeSons_37 rfl (by decide) rfl ?_
        refine S_iload_n C 2 dX8_takeSons_38 rfl ?_
        refine S_iconst C (3) dX8_takeSons_39 (by decide) ?_
        refine S_icmp_ne C 47 dX8_takeSons_40 (by decide) ?_ ?_
        · refine S_iconst C (0) dX8_takeSons_47 (by decide) ?_
          exact S_sub [1, 0, 2] rfl (WT_X8_takeSons_B48 C _ ih x1_5 x2 (0 : Int32) r4.2)
        · refine S_iconst C (1) dX8_takeSons_43 (by decide) ?_
          refine S_goto C 48 dX8_takeSons_44 (by decide) ?_
          exact S_sub [1, 0, 2] rfl (WT_X8_takeSons_B48 C _ ih x1_5 x2 (1 : Int32) r4.2)
      · refine S_iconst C (0) dX8_takeSons_29 (by decide) ?_
        exact S_zret C rfl rfl dX8_takeSons_30
set_option maxRecDepth 10000 in
theorem WT_X8_takeSons {x : MX} {z : ZT} (C : Cok x (wxC z) RX8 cX8_takeSons 4 (some .boolean) 4 86)  (σ : St) : Sim x (wxC z) 4 jIS (X8_takeSons σ) 0 [(0, .ref (aC z 3))] [] σ := by
  rw [X8_takeSons]
  refine S_aload_n C 0 dX8_takeSons_0 rfl ?_
  refine S_iconst C (4) dX8_takeSons_1 (by decide) ?_
  refine K_X8_tellOnce C ml_X8_117 (by decide) (Nat.le_of_ble_eq_true rfl) dX8_takeSons_2 (fun r1 => ?_)
  refine S_if_ne C 10 dX8_takeSons_5 (by decide) ?_ ?_
  · refine S_iconst C (0) dX8_takeSons_10 (by decide) ?_
    refine S_istore_n C [(1, .int 0), (0, .ref (aC z 3))] (i := 1) dX8_takeSons_11 rfl (by decide) rfl ?_
    refine S_iconst C (0) dX8_takeSons_12 (by decide) ?_
    refine S_istore_n C [(2, .int 0), (1, .int 0), (0, .ref (aC z 3))] (i := 2) dX8_takeSons_13 rfl (by decide) rfl ?_
    exact S_sub [2, 1, 0] rfl (WT_X8_takeSons_L14 C FU (0 : Int32) (0 : Int32) r1.2)
  · refine S_iconst C (0) dX8_takeSons_8 (by decide) ?_
    exact S_zret C rfl rfl dX8_takeSons_9
set_option maxRecDepth 10000 in
theorem con_X8_takeSons (z : ZT) (l : Launch)  (σ : St) : ∀ ro, X8_takeSons σ = some ro → Con (wxC z) l yX8_takeSons cX8_takeSons 4 (some .boolean) 4 86 [.ref (aC z 3)] σ (jIS ro) :=
  fun ro hk => Con_of hk (by decide) (Nat.le_of_ble_eq_true rfl) (fun x hx C => WT_X8_takeSons C σ)
set_option maxRecDepth 10000 in
theorem K_X8_takeSons {x : MX} {z : ZT} {own : String} {cc : ByteArray} {nL : Nat} {ret : Option FieldType} {fr lo : Nat} {ρ : Type} {inj : ρ → Option Value × St} {pc : Nat} {lv : List (Nat × Value)} {st : List Value} {σ : St} (C : Cok x (wxC z) own cc nL ret fr lo)  {index : Nat} (hl : Cond.methodLink own index yX8_takeSons ∈ gtb) (hR : 4 + 1 ≤ fr ∧ 8 + (4 + 11) + 86 ≤ lo) (hW : (st.map fun v => v.category).sum ≤ 8) (hd : decode cc pc = .ok (.invokevirtual index, 3)) {K : (Int32 × St) → Option ρ} (h : ∀ v, Sim x (wxC z) nL inj (K v) (pc + 3) lv (.int v.1 :: st) v.2) : Sim x (wxC z) nL inj ((X8_takeSons σ).bind K) pc lv (.ref (aC z 3) :: st) σ :=
  S_callV C (As := []) (q := 3) (inj1 := jIS) mw_X8_takeSons mv_X8_takeSons hl (fun ro hro => con_X8_takeSons z (mL x) σ ro hro) hR rfl (show 3 < 59 by decide) rfl (ce_X8 z σ) rfl rfl hW hd h
set_option maxRecDepth 10000 in
theorem WT_X8_takeLine_B32 {x : MX} {z : ZT} (C : Cok x (wxC z) RX8 cX8_takeLine 1 (some .boolean) 5 110) (σ : St) : Sim x (wxC z) 1 jIS (X8_takeLine_B32 σ) 32 [(0, .ref (aC z 3))] [] σ := by
  rw [X8_takeLine_B32]
  refine S_aload_n C 0 dX8_takeLine_32 rfl ?_
  refine S_aload_n C 0 dX8_takeLine_33 rfl ?_
  refine S_ldcs C 0 (by decide) dX8_takeLine_34 ?_
  refine K_X8_isWord C (by decide) ml_X8_53 (by decide) (Nat.le_of_ble_eq_true rfl) dX8_takeLine_36 (fun v2 => ?_)
  refine K_X8_takeChange C ml_X8_59 (by decide) (Nat.le_of_ble_eq_true rfl) dX8_takeLine_39 (fun r3 => ?_)
  exact S_chkB (fun h4 => S_zret C (nb_01 h4) rfl dX8_takeLine_42)
set_option maxRecDepth 10000 in
theorem WT_X8_takeLine {x : MX} {z : ZT} (C : Cok x (wxC z) RX8 cX8_takeLine 1 (some .boolean) 5 110)  (σ : St) : Sim x (wxC z) 1 jIS (X8_takeLine σ) 0 [(0, .ref (aC z 3))] [] σ := by
  rw [X8_takeLine]
  refine S_aload_n C 0 dX8_takeLine_0 rfl ?_
  refine G_X8_kind C fl_X8_40 dX8_takeLine_1 ?_
  refine S_iconst C (4) dX8_takeLine_4 (by decide) ?_
  refine S_icmp_ne C 14 dX8_takeLine_5 (by decide) ?_ ?_
  · refine S_aload_n C 0 dX8_takeLine_14 rfl ?_
    refine S_ldcs C 0 (by decide) dX8_takeLine_15 ?_
    refine K_X8_isWord C (by decide) ml_X8_53 (by decide) (Nat.le_of_ble_eq_true rfl) dX8_takeLine_17 (fun v1 => ?_)
    refine S_if_ne C 32 dX8_takeLine_20 (by decide) ?_ ?_
    · exact S_sub [0] rfl (WT_X8_takeLine_B32 C σ)
    · refine S_aload_n C 0 dX8_takeLine_23 rfl ?_
      refine S_ldcs C 1 (by decide) dX8_takeLine_24 ?_
      refine K_X8_isWord C (by decide) ml_X8_53 (by decide) (Nat.le_of_ble_eq_true rfl) dX8_takeLine_26 (fun v5 => ?_)
      refine S_if_eq C 43 dX8_takeLine_29 (by decide) ?_ ?_
      · refine S_aload_n C 0 dX8_takeLine_43 rfl ?_
        refine S_ldcs C 2 (by decide) dX8_takeLine_44 ?_
        refine K_X8_isWord C (by decide) ml_X8_53 (by decide) (Nat.le_of_ble_eq_true rfl) dX8_takeLine_46 (fun v6 => ?_)
        refine S_if_eq C 57 dX8_takeLine_49 (by decide) ?_ ?_
        · refine S_aload_n C 0 dX8_takeLine_57 rfl ?_
          refine S_ldcs C 3 (by decide) dX8_takeLine_58 ?_
          refine K_X8_isWord C (by decide) ml_X8_53 (by decide) (Nat.le_of_ble_eq_true rfl) dX8_takeLine_60 (fun v7 => ?_)
          refine S_if_eq C 73 dX8_takeLine_63 (by decide) ?_ ?_
          · refine S_aload_n C 0 dX8_takeLine_73 rfl ?_
            refine S_ldcs C 4 (by decide) dX8_takeLine_74 ?_
            refine K_X8_isWord C (by decide) ml_X8_53 (by decide) (Nat.le_of_ble_eq_true rfl) dX8_takeLine_76 (fun v8 => ?_)
            refine S_if_eq C 89 dX8_takeLine_79 (by decide) ?_ ?_
            · refine S_aload_n C 0 dX8_takeLine_89 rfl ?_
              refine S_ldcs C 5 (by decide) dX8_takeLine_90 ?_
              refine K_X8_isWord C (by decide) ml_X8_53 (by decide) (Nat.le_of_ble_eq_true rfl) dX8_takeLine_92 (fun v9 => ?_)
              refine S_if_eq C 105 dX8_takeLine_95 (by decide) ?_ ?_
              · refine S_aload_n C 0 dX8_takeLine_105 rfl ?_
                refine S_ldcs C 6 (by decide) dX8_takeLine_106 ?_
                refine K_X8_isWord C (by decide) ml_X8_53 (by decide) (Nat.le_of_ble_eq_true rfl) dX8_takeLine_108 (fun v10 => ?_)
                refine S_if_eq C 121 dX8_takeLine_111 (by decide) ?_ ?_
                · refine S_aload_n C 0 dX8_takeLine_121 rfl ?_
                  refine S_ldcs C 7 (by decide) dX8_takeLine_122 ?_
                  refine K_X8_isWord C (by decide) ml_X8_53 (by decide) (Nat.le_of_ble_eq_true rfl) dX8_takeLine_124 (fun v11 => ?_)
                  refine S_if_eq C 137 dX8_takeLine_127 (by decide) ?_ ?_
                  · refine S_aload_n C 0 dX8_takeLine_137 rfl ?_
                    refine S_iconst C (2) dX8_takeLine_138 (by decide) ?_
                    refine K_X8_refuse C ml_X8_47 (by decide) (Nat.le_of_ble_eq_true rfl) dX8_takeLine_139 (fun r12 => ?_)
                    exact S_chkB (fun h13 => S_zret C (nb_01 h13) rfl dX8_takeLine_142)
                  · refine S_aload_n C 0 dX8_takeLine_130 rfl ?_
                    refine K_X8_takeSons C ml_X8_82 (by decide) (Nat.le_of_ble_eq_true rfl) dX8_takeLine_131 (fun r14 => ?_)
                    refine S_goto C 142 dX8_takeLine_134 (by decide) ?_
                    exact S_chkB (fun h15 => S_zret C (nb_01 h15) rfl dX8_takeLine_142)
                · refine S_aload_n C 0 dX8_takeLine_114 rfl ?_
                  refine S_iconst C (3) dX8_takeLine_115 (by decide) ?_
                  refine S_iconst C (1) dX8_takeLine_116 (by decide) ?_
                  refine K_X8_takeNumber C ml_X8_70 (by decide) (Nat.le_of_ble_eq_true rfl) dX8_takeLine_117 (fun r16 => ?_)
                  exact S_chkB (fun h17 => S_zret C (nb_01 h17) rfl dX8_takeLine_120)
              · refine S_aload_n C 0 dX8_takeLine_98 rfl ?_
                refine S_iconst C (2) dX8_takeLine_99 (by decide) ?_
                refine S_iconst C (0) dX8_takeLine_100 (by decide) ?_
                refine K_X8_takeNumber C ml_X8_70 (by decide) (Nat.le_of_ble_eq_true rfl) dX8_takeLine_101 (fun r18 => ?_)
                exact S_chkB (fun h19 => S_zret C (nb_01 h19) rfl dX8_takeLine_104)
            · refine S_aload_n C 0 dX8_takeLine_82 rfl ?_
              refine S_iconst C (1) dX8_takeLine_83 (by decide) ?_
              refine S_iconst C (0) dX8_takeLine_84 (by decide) ?_
              refine K_X8_takeNumber C ml_X8_70 (by decide) (Nat.le_of_ble_eq_true rfl) dX8_takeLine_85 (fun r20 => ?_)
              exact S_chkB (fun h21 => S_zret C (nb_01 h21) rfl dX8_takeLine_88)
          · refine S_aload_n C 0 dX8_takeLine_66 rfl ?_
            refine S_iconst C (0) dX8_takeLine_67 (by decide) ?_
            refine S_iconst C (0) dX8_takeLine_68 (by decide) ?_
            refine K_X8_takeNumber C ml_X8_70 (by decide) (Nat.le_of_ble_eq_true rfl) dX8_takeLine_69 (fun r22 => ?_)
            exact S_chkB (fun h23 => S_zret C (nb_01 h23) rfl dX8_takeLine_72)
        · refine S_aload_n C 0 dX8_takeLine_52 rfl ?_
          refine K_X8_takeLike C ml_X8_65 (by decide) (Nat.le_of_ble_eq_true rfl) dX8_takeLine_53 (fun r24 => ?_)
          exact S_chkB (fun h25 => S_zret C (nb_01 h25) rfl dX8_takeLine_56)
      · exact S_sub [0] rfl (WT_X8_takeLine_B32 C σ)
  · refine S_aload_n C 0 dX8_takeLine_8 rfl ?_
    refine S_iconst C (1) dX8_takeLine_9 (by decide) ?_
    refine K_X8_refuse C ml_X8_47 (by decide) (Nat.le_of_ble_eq_true rfl) dX8_takeLine_10 (fun r26 => ?_)
    exact S_chkB (fun h27 => S_zret C (nb_01 h27) rfl dX8_takeLine_13)
set_option maxRecDepth 10000 in
theorem con_X8_takeLine (z : ZT) (l : Launch)  (σ : St) : ∀ ro, X8_takeLine σ = some ro → Con (wxC z) l yX8_takeLine cX8_takeLine 1 (some .boolean) 5 110 [.ref (aC z 3)] σ (jIS ro) :=
  fun ro hk => Con_of hk (by decide) (Nat.le_of_ble_eq_true rfl) (fun x hx C => WT_X8_takeLine C σ)
set_option maxRecDepth 10000 in
theorem K_X8_takeLine {x : MX} {z : ZT} {own : String} {cc : ByteArray} {nL : Nat} {ret : Option FieldType} {fr lo : Nat} {ρ : Type} {inj : ρ → Option Value × St} {pc : Nat} {lv : List (Nat × Value)} {st : List Value} {σ : St} (C : Cok x (wxC z) own cc nL ret fr lo)  {index : Nat} (hl : Cond.methodLink own index yX8_takeLine ∈ gtb) (hR : 5 + 1 ≤ fr ∧ 8 + (1 + 11) + 110 ≤ lo) (hW : (st.map fun v => v.category).sum ≤ 8) (hd : decode cc pc = .ok (.invokevirtual index, 3)) {K : (Int32 × St) → Option ρ} (h : ∀ v, Sim x (wxC z) nL inj (K v) (pc + 3) lv (.int v.1 :: st) v.2) : Sim x (wxC z) nL inj ((X8_takeLine σ).bind K) pc lv (.ref (aC z 3) :: st) σ :=
  S_callV C (As := []) (q := 3) (inj1 := jIS) mw_X8_takeLine mv_X8_takeLine hl (fun ro hro => con_X8_takeLine z (mL x) σ ro hro) hR rfl (show 3 < 59 by decide) rfl (ce_X8 z σ) rfl rfl hW hd h
set_option maxRecDepth 10000 in
theorem WT_X8_readInto_L36 {x : MX} {z : ZT} (C : Cok x (wxC z) RX8 cX8_readInto 4 (some .int) 6 130) (t1 : Nat) (ht1 : t1 < 2) : ∀ (n : Nat) (x2 : Int32) (x3 : Int32) (σ : St), Sim x (wxC z) 4 jIS (X8_readInto_L36 t1 n x2 x3 σ) 36 [(0, .ref (aC z 3)), (2, .int x2), (3, .int x3)] [] σ := by
  intro n
  induction n with
  | zero =>
    intros
    exact S_none
  | succ n ih =>
    intro x2 x3 σ
    rw [X8_readInto_L36]
    refine S_iload_n C 2 dX8_readInto_36 rfl ?_
    refine S_sipush C (200) dX8_readInto_37 (by decide) ?_
    refine S_icmp_gt C 72 dX8_readInto_40 (by decide) ?_ ?_
    · refine S_iload_n C 1 dX8_readInto_72 rfl ?_
      exact S_iret C rfl dX8_readInto_73
    · refine S_aload_n C 0 dX8_readInto_43 rfl ?_
      refine K_X8_readToken C ml_X8_37 (by decide) (Nat.le_of_ble_eq_true rfl) dX8_readInto_44 (fun σ8 => ?_)
      refine S_aload_n C 0 dX8_readInto_47 rfl ?_
      refine G_X8_kind C fl_X8_40 dX8_readInto_48 ?_
      refine S_if_eq C 61 dX8_readInto_51 (by decide) ?_ ?_
      · refine S_iload_n C 1 dX8_readInto_61 rfl ?_
        exact S_iret C rfl dX8_readInto_62
      · refine S_aload_n C 0 dX8_readInto_54 rfl ?_
        refine K_X8_takeLine C ml_X8_43 (by decide) (Nat.le_of_ble_eq_true rfl) dX8_readInto_55 (fun r9 => ?_)
        refine S_if_ne C 63 dX8_readInto_58 (by decide) ?_ ?_
        · refine S_iinc C 1 [(2, .int (x2 + 1)), (0, .ref (aC z 3)), (3, .int x3)] (x2 + 1) dX8_readInto_63 rfl rfl (by decide) rfl ?_
          refine S_iinc C 2 [(3, .int (x3 + 1)), (2, .int (x2 + 1)), (0, .ref (aC z 3))] (x3 + 1) dX8_readInto_66 rfl rfl (by decide) rfl ?_
          refine S_goto C 36 dX8_readInto_69 (by decide) ?_
          exact S_sub [2, 1, 0] rfl (ih (x2 + 1) (x3 + 1) r9.2)
        · refine S_iload_n C 1 dX8_readInto_61 rfl ?_
          exact S_iret C rfl dX8_readInto_62
set_option maxRecDepth 10000 in
theorem WT_X8_readInto {x : MX} {z : ZT} (C : Cok x (wxC z) RX8 cX8_readInto 4 (some .int) 6 130) (t1 : Nat) (σ : St) (ht1 : t1 < 2) : Sim x (wxC z) 4 jIS (X8_readInto t1 σ) 0 [(0, .ref (aC z 3)), (1, .ref (aC z (4 + t1)))] [] σ := by
  rw [X8_readInto]
  refine S_aload_n C 0 dX8_readInto_0 rfl ?_
  refine S_aload_n C 1 dX8_readInto_1 rfl ?_
  refine P_X8_rules C ht1 fl_X8_13 dX8_readInto_2 ?_
  refine S_bndS (fun σ1 _ => ?_)
  refine S_aload_n C 0 dX8_readInto_5 rfl ?_
  refine G_X8_rules C fl_X8_13 dX8_readInto_6 (fun h2 => ?_)
  refine K_X5_forget C h2 ml_X8_17 (by decide) (Nat.le_of_ble_eq_true rfl) dX8_readInto_9 (fun σ3 => ?_)
  refine S_aload_n C 0 dX8_readInto_12 rfl ?_
  refine S_iconst C (0) dX8_readInto_13 (by decide) ?_
  refine P_X8_toldNumbers C fl_X8_22 dX8_readInto_14 ?_
  refine S_bndS (fun σ4 _ => ?_)
  refine S_aload_n C 0 dX8_readInto_17 rfl ?_
  refine S_iconst C (0) dX8_readInto_18 (by decide) ?_
  refine P_X8_next C fl_X8_26 dX8_readInto_19 ?_
  refine S_bndS (fun σ5 _ => ?_)
  refine S_aload_n C 0 dX8_readInto_22 rfl ?_
  refine S_iconst C (0) dX8_readInto_23 (by decide) ?_
  refine P_X8_faultKind C fl_X8_29 dX8_readInto_24 ?_
  refine S_bndS (fun σ6 _ => ?_)
  refine S_aload_n C 0 dX8_readInto_27 rfl ?_
  refine S_iconst C (0) dX8_readInto_28 (by decide) ?_
  refine P_X8_faultPlace C fl_X8_32 dX8_readInto_29 ?_
  refine S_bndS (fun σ7 _ => ?_)
  refine S_iconst C (0) dX8_readInto_32 (by decide) ?_
  refine S_istore_n C [(2, .int 0), (0, .ref (aC z 3)), (1, .ref (aC z (4 + t1)))] (i := 2) dX8_readInto_33 rfl (by decide) rfl ?_
  refine S_iconst C (0) dX8_readInto_34 (by decide) ?_
  refine S_istore_n C [(3, .int 0), (2, .int 0), (0, .ref (aC z 3)), (1, .ref (aC z (4 + t1)))] (i := 3) dX8_readInto_35 rfl (by decide) rfl ?_
  exact S_sub [2, 1, 0] rfl (WT_X8_readInto_L36 C t1 ht1 FU (0 : Int32) (0 : Int32) σ7)
set_option maxRecDepth 10000 in
theorem con_X8_readInto (z : ZT) (l : Launch) (t1 : Nat) (σ : St) (ht1 : t1 < 2) : ∀ ro, X8_readInto t1 σ = some ro → Con (wxC z) l yX8_readInto cX8_readInto 4 (some .int) 6 130 [.ref (aC z 3), .ref (aC z (4 + t1))] σ (jIS ro) :=
  fun ro hk => Con_of hk (by decide) (Nat.le_of_ble_eq_true rfl) (fun x hx C => WT_X8_readInto C t1 σ ht1)
set_option maxRecDepth 10000 in
theorem K_X8_readInto {x : MX} {z : ZT} {own : String} {cc : ByteArray} {nL : Nat} {ret : Option FieldType} {fr lo : Nat} {ρ : Type} {inj : ρ → Option Value × St} {pc : Nat} {lv : List (Nat × Value)} {st : List Value} {σ : St} (C : Cok x (wxC z) own cc nL ret fr lo) {t1 : Nat} (ht1 : t1 < 2) {index : Nat} (hl : Cond.methodLink own index yX8_readInto ∈ gtb) (hR : 6 + 1 ≤ fr ∧ 8 + (4 + 11) + 130 ≤ lo) (hW : (st.map fun v => v.category).sum ≤ 8) (hd : decode cc pc = .ok (.invokevirtual index, 3)) {K : (Int32 × St) → Option ρ} (h : ∀ v, Sim x (wxC z) nL inj (K v) (pc + 3) lv (.int v.1 :: st) v.2) : Sim x (wxC z) nL inj ((X8_readInto t1 σ).bind K) pc lv (.ref (aC z (4 + t1)) :: .ref (aC z 3) :: st) σ :=
  S_callV C (As := [.ref (aC z (4 + t1))]) (q := 3) (inj1 := jIS) mw_X8_readInto mv_X8_readInto hl (fun ro hro => con_X8_readInto z (mL x) t1 σ ht1 ro hro) hR rfl (show 3 < 59 by decide) rfl (ce_X8 z σ) rfl rfl hW hd h
