set_option maxRecDepth 10000 in
theorem WT_X11_in {x : MX} {z : ZT} (C : Cok x (wxM z) RX11 cX11_in 6 (some .boolean) 0 0) (x0 : Int64) (x2 : Int64) (x4 : Int64) (σ : St) : Sim x (wxM z) 6 (jI σ) (X11_in x0 x2 x4 σ) 0 [(0, .long x0), (2, .long x2), (4, .long x4)] [] σ := by
  rw [X11_in]
  refine S_lload_n C 0 dX11_in_0 rfl ?_
  refine S_lload_n C 1 dX11_in_1 rfl ?_
  refine S_lc_lt C 17 dX11_in_2 dX11_in_3 (by decide) ?_ ?_
  · refine S_iconst C (0) dX11_in_17 (by decide) ?_
    exact S_zret C rfl rfl dX11_in_18
  · refine S_lload_n C 0 dX11_in_6 rfl ?_
    refine S_lload C 2 dX11_in_7 rfl ?_
    refine S_lc_gt C 17 dX11_in_9 dX11_in_10 (by decide) ?_ ?_
    · refine S_iconst C (0) dX11_in_17 (by decide) ?_
      exact S_zret C rfl rfl dX11_in_18
    · refine S_iconst C (1) dX11_in_13 (by decide) ?_
      refine S_goto C 18 dX11_in_14 (by decide) ?_
      exact S_zret C rfl rfl dX11_in_18
set_option maxRecDepth 10000 in
theorem con_X11_in (z : ZT) (l : Launch) (x0 : Int64) (x2 : Int64) (x4 : Int64) (σ : St) : ∀ ro, X11_in x0 x2 x4 σ = some ro → Con (wxM z) l yX11_in cX11_in 6 (some .boolean) 0 0 [.long x0, .long x2, .long x4] σ ((jI σ) ro) :=
  fun ro hk => Con_of hk (by decide) (Nat.le_of_ble_eq_true rfl) (fun x hx C => WT_X11_in C x0 x2 x4 σ)
set_option maxRecDepth 10000 in
theorem K_X11_in {x : MX} {z : ZT} {own : String} {cc : ByteArray} {nL : Nat} {ret : Option FieldType} {fr lo : Nat} {ρ : Type} {inj : ρ → Option Value × St} {pc : Nat} {lv : List (Nat × Value)} {st : List Value} {σ : St} (C : Cok x (wxM z) own cc nL ret fr lo) {x0 : Int64} {x2 : Int64} {x4 : Int64} {index : Nat} (hl : Cond.methodLink own index yX11_in ∈ gtb) (hR : 0 + 1 ≤ fr ∧ 8 + (6 + 11) + 0 ≤ lo) (hW : (st.map fun v => v.category).sum ≤ 8) (hd : decode cc pc = .ok (.invokestatic index, 3)) {K : Int32 → Option ρ} (h : ∀ v, Sim x (wxM z) nL inj (K v) (pc + 3) lv (.int v :: st) σ) : Sim x (wxM z) nL inj ((X11_in x0 x2 x4 σ).bind K) pc lv (.long x4 :: .long x2 :: .long x0 :: st) σ :=
  S_callS C (As := [.long x0, .long x2, .long x4]) (inj1 := (jI σ)) mw_X11_in ms_X11_in hl (fun ro hro => con_X11_in z (mL x) x0 x2 x4 σ ro hro) hR rfl rfl hW hd h
set_option maxRecDepth 10000 in
theorem WT_X11_isSpelling {x : MX} {z : ZT} (C : Cok x (wxM z) RX11 cX11_isSpelling 2 (some .boolean) 1 25) (x1 : Int32) (σ : St) : Sim x (wxM z) 2 (jI σ) (X11_isSpelling x1 σ) 0 [(0, .ref (aC z 0)), (1, .int x1)] [] σ := by
  rw [X11_isSpelling]
  refine S_iload_n C 1 dX11_isSpelling_0 rfl ?_
  refine S_i2l C dX11_isSpelling_1 ?_
  refine S_lconst C (0) dX11_isSpelling_2 (by decide) ?_
  refine S_aload_n C 0 dX11_isSpelling_3 rfl ?_
  refine G_X11_spellings C fl_X11_152 dX11_isSpelling_4 ?_
  refine S_iconst C (1) dX11_isSpelling_7 (by decide) ?_
  refine S_isub C dX11_isSpelling_8 ?_
  refine S_i2l C dX11_isSpelling_9 ?_
  refine K_X11_in C ml_X11_156 (by decide) (Nat.le_of_ble_eq_true rfl) dX11_isSpelling_10 (fun v1 => ?_)
  exact S_chkB (fun h2 => S_zret C (nb_01 h2) rfl dX11_isSpelling_13)
set_option maxRecDepth 10000 in
theorem con_X11_isSpelling (z : ZT) (l : Launch) (x1 : Int32) (σ : St) : ∀ ro, X11_isSpelling x1 σ = some ro → Con (wxM z) l yX11_isSpelling cX11_isSpelling 2 (some .boolean) 1 25 [.ref (aC z 0), .int x1] σ ((jI σ) ro) :=
  fun ro hk => Con_of hk (by decide) (Nat.le_of_ble_eq_true rfl) (fun x hx C => WT_X11_isSpelling C x1 σ)
set_option maxRecDepth 10000 in
theorem K_X11_isSpelling {x : MX} {z : ZT} {own : String} {cc : ByteArray} {nL : Nat} {ret : Option FieldType} {fr lo : Nat} {ρ : Type} {inj : ρ → Option Value × St} {pc : Nat} {lv : List (Nat × Value)} {st : List Value} {σ : St} (C : Cok x (wxM z) own cc nL ret fr lo) {x1 : Int32} {index : Nat} (hl : Cond.methodLink own index yX11_isSpelling ∈ gtb) (hR : 1 + 1 ≤ fr ∧ 8 + (2 + 11) + 25 ≤ lo) (hW : (st.map fun v => v.category).sum ≤ 8) (hd : decode cc pc = .ok (.invokevirtual index, 3)) {K : Int32 → Option ρ} (h : ∀ v, Sim x (wxM z) nL inj (K v) (pc + 3) lv (.int v :: st) σ) : Sim x (wxM z) nL inj ((X11_isSpelling x1 σ).bind K) pc lv (.int x1 :: .ref (aC z 0) :: st) σ :=
  S_callV C (As := [.int x1]) (q := 0) (inj1 := (jI σ)) mw_X11_isSpelling mv_X11_isSpelling hl (fun ro hro => con_X11_isSpelling z (mL x) x1 σ ro hro) hR rfl (show 0 < 48 by decide) rfl (ce_X11 z σ) rfl rfl hW hd h
set_option maxRecDepth 10000 in
theorem WT_X11_spelling_L218 {x : MX} {z : ZT} (C : Cok x (wxM z) RX11 cX11_spelling 10 (some .int) 1 25) : ∀ (n : Nat) (x3 : Int32) (x7 : Int32) (σ : St), Sim x (wxM z) 10 jIS (X11_spelling_L218 n x3 x7 σ) 218 [(0, .ref (aC z 0)), (3, .int x3), (7, .int x7)] [] σ := by
  intro n
  induction n with
  | zero =>
    intros
    exact S_none
  | succ n ih =>
    intro x3 x7 σ
    rw [X11_spelling_L218]
    refine S_iload C 2 dX11_spelling_218 rfl ?_
    refine S_iload_n C 1 dX11_spelling_220 rfl ?_
    refine S_icmp_ge C 256 dX11_spelling_221 (by decide) ?_ ?_
    · refine S_aload_n C 0 dX11_spelling_256 rfl ?_
      refine S_dup C dX11_spelling_257 rfl ?_
      refine G_X11_spellings C fl_X11_152 dX11_spelling_258 ?_
      refine S_iconst C (1) dX11_spelling_261 (by decide) ?_
      refine S_iadd C dX11_spelling_262 ?_
      refine P_X11_spellings C fl_X11_152 dX11_spelling_263 ?_
      refine S_bndS (fun σ2 _ => ?_)
      refine S_aload_n C 0 dX11_spelling_266 rfl ?_
      refine G_X11_spellings C fl_X11_152 dX11_spelling_267 ?_
      refine S_iconst C (1) dX11_spelling_270 (by decide) ?_
      refine S_isub C dX11_spelling_271 ?_
      exact S_iret C rfl dX11_spelling_272
    · refine S_aload_n C 0 dX11_spelling_224 rfl ?_
      refine G_X11_letters C fl_X11_13 dX11_spelling_225 ?_
      refine S_bipush C (10) dX11_spelling_228 (by decide) ?_
      refine S_aload_n C 0 dX11_spelling_230 rfl ?_
      refine G_X11_spellings C fl_X11_152 dX11_spelling_231 ?_
      refine S_imul C dX11_spelling_234 ?_
      refine S_iload C 2 dX11_spelling_235 rfl ?_
      refine S_iadd C dX11_spelling_237 ?_
      refine S_aload_n C 0 dX11_spelling_238 rfl ?_
      refine G_X11_came C fl_X11_16 dX11_spelling_239 ?_
      refine S_iload_n C 1 dX11_spelling_242 rfl ?_
      refine S_iconst C (1) dX11_spelling_243 (by decide) ?_
      refine S_isub C dX11_spelling_244 ?_
      refine S_iload C 2 dX11_spelling_245 rfl ?_
      refine S_isub C dX11_spelling_247 ?_
      refine L_X11_came C dX11_spelling_248 (fun _ => ?_)
      refine T_X11_letters C dX11_spelling_249 (fun _ => ?_)
      refine S_bndS (fun σ3 _ => ?_)
      refine S_iinc C 2 [(7, .int (x7 + 1)), (0, .ref (aC z 0)), (3, .int x3)] (x7 + 1) dX11_spelling_250 rfl rfl (by decide) rfl ?_
      refine S_goto C 218 dX11_spelling_253 (by decide) ?_
      exact S_sub [1, 2, 0] rfl (ih x3 (x7 + 1) σ3)
set_option maxRecDepth 10000 in
theorem WT_X11_spelling_B186 {x : MX} {z : ZT} (C : Cok x (wxM z) RX11 cX11_spelling 10 (some .int) 1 25) (x3 : Int32) (x6 : Int32) (σ : St) : Sim x (wxM z) 10 jIS (X11_spelling_B186 x3 x6 σ) 186 [(0, .ref (aC z 0)), (3, .int x3), (6, .int x6)] [] σ := by
  rw [X11_spelling_B186]
  refine S_iload C 2 dX11_spelling_186 rfl ?_
  refine S_if_ne C 193 dX11_spelling_188 (by decide) ?_ ?_
  · refine S_aload_n C 0 dX11_spelling_193 rfl ?_
    refine G_X11_spellings C fl_X11_152 dX11_spelling_194 ?_
    refine S_bipush C (16) dX11_spelling_197 (by decide) ?_
    refine S_icmp_ne C 205 dX11_spelling_199 (by decide) ?_ ?_
    · refine S_aload_n C 0 dX11_spelling_205 rfl ?_
      refine G_X11_sizes C fl_X11_7 dX11_spelling_206 ?_
      refine S_aload_n C 0 dX11_spelling_209 rfl ?_
      refine G_X11_spellings C fl_X11_152 dX11_spelling_210 ?_
      refine S_iload_n C 1 dX11_spelling_213 rfl ?_
      refine T_X11_sizes C dX11_spelling_214 (fun _ => ?_)
      refine S_bndS (fun σ1 _ => ?_)
      refine S_iconst C (0) dX11_spelling_215 (by decide) ?_
      refine S_istore C [(7, .int 0), (0, .ref (aC z 0)), (3, .int x3), (6, .int x6)] dX11_spelling_216 (by decide) rfl ?_
      exact S_sub [1, 2, 0] rfl (WT_X11_spelling_L218 C FU x3 (0 : Int32) σ1)
    · refine S_bipush C (-3) dX11_spelling_202 (by decide) ?_
      exact S_iret C rfl dX11_spelling_204
  · refine S_iconst C (-1) dX11_spelling_191 (by decide) ?_
    exact S_iret C rfl dX11_spelling_192
set_option maxRecDepth 10000 in
theorem WT_X11_spelling_B168 {x : MX} {z : ZT} (C : Cok x (wxM z) RX11 cX11_spelling 10 (some .int) 1 25) (kq82 : Int32 → Int32 → Int32 → St → Option (Int32 × St)) (hk82 : ∀ (x3 : Int32) (x6 : Int32) (x7 : Int32) (σ : St), Sim x (wxM z) 10 jIS (kq82 x3 x6 x7 σ) 82 [(0, .ref (aC z 0)), (3, .int x3), (6, .int x6), (7, .int x7)] [] σ) (x3 : Int32) (x7 : Int32) (x8 : Int32) (σ : St) : Sim x (wxM z) 10 jIS (X11_spelling_B168 kq82 x3 x7 x8 σ) 168 [(0, .ref (aC z 0)), (3, .int x3), (7, .int x7), (8, .int x8)] [] σ := by
  rw [X11_spelling_B168]
  refine S_iload C 3 dX11_spelling_168 rfl ?_
  refine S_if_ne C 177 dX11_spelling_170 (by decide) ?_ ?_
  · refine S_iconst C (0) dX11_spelling_177 (by decide) ?_
    refine S_istore C [(6, .int 0), (0, .ref (aC z 0)), (3, .int x3), (7, .int x7), (8, .int x8)] dX11_spelling_178 (by decide) rfl ?_
    refine S_iinc C 3 [(7, .int (x7 + 1)), (6, .int 0), (0, .ref (aC z 0)), (3, .int x3), (8, .int x8)] (x7 + 1) dX11_spelling_180 rfl rfl (by decide) rfl ?_
    refine S_goto C 82 dX11_spelling_183 (by decide) ?_
    exact S_sub [2, 3, 1, 0] rfl (hk82 x3 (0 : Int32) (x7 + 1) σ)
  · refine S_iconst C (1) dX11_spelling_173 (by decide) ?_
    refine S_goto C 178 dX11_spelling_174 (by decide) ?_
    refine S_istore C [(6, .int 1), (0, .ref (aC z 0)), (3, .int x3), (7, .int x7), (8, .int x8)] dX11_spelling_178 (by decide) rfl ?_
    refine S_iinc C 3 [(7, .int (x7 + 1)), (6, .int 1), (0, .ref (aC z 0)), (3, .int x3), (8, .int x8)] (x7 + 1) dX11_spelling_180 rfl rfl (by decide) rfl ?_
    refine S_goto C 82 dX11_spelling_183 (by decide) ?_
    exact S_sub [2, 3, 1, 0] rfl (hk82 x3 (1 : Int32) (x7 + 1) σ)
set_option maxRecDepth 10000 in
theorem WT_X11_spelling_L117 {x : MX} {z : ZT} (C : Cok x (wxM z) RX11 cX11_spelling 10 (some .int) 1 25) (kq82 : Int32 → Int32 → Int32 → St → Option (Int32 × St)) (hk82 : ∀ (x3 : Int32) (x6 : Int32) (x7 : Int32) (σ : St), Sim x (wxM z) 10 jIS (kq82 x3 x6 x7 σ) 82 [(0, .ref (aC z 0)), (3, .int x3), (6, .int x6), (7, .int x7)] [] σ) : ∀ (n : Nat) (x3 : Int32) (x7 : Int32) (x8 : Int32) (x9 : Int32) (σ : St), Sim x (wxM z) 10 jIS (X11_spelling_L117 kq82 n x3 x7 x8 x9 σ) 117 [(0, .ref (aC z 0)), (3, .int x3), (7, .int x7), (8, .int x8), (9, .int x9)] [] σ := by
  intro n
  induction n with
  | zero =>
    intros
    exact S_none
  | succ n ih =>
    intro x3 x7 x8 x9 σ
    rw [X11_spelling_L117]
    refine S_iload C 4 dX11_spelling_117 rfl ?_
    refine S_iload_n C 1 dX11_spelling_119 rfl ?_
    refine S_icmp_ge C 168 dX11_spelling_120 (by decide) ?_ ?_
    · exact S_sub [0, 1, 2, 3] rfl (WT_X11_spelling_B168 C _ hk82 x3 x7 x8 σ)
    · refine S_iload C 3 dX11_spelling_123 rfl ?_
      refine S_if_eq C 168 dX11_spelling_125 (by decide) ?_ ?_
      · exact S_sub [0, 1, 2, 3] rfl (WT_X11_spelling_B168 C _ hk82 x3 x7 x8 σ)
      · refine S_aload_n C 0 dX11_spelling_128 rfl ?_
        refine G_X11_letters C fl_X11_13 dX11_spelling_129 ?_
        refine S_bipush C (10) dX11_spelling_132 (by decide) ?_
        refine S_iload C 2 dX11_spelling_134 rfl ?_
        refine S_imul C dX11_spelling_136 ?_
        refine S_iload C 4 dX11_spelling_137 rfl ?_
        refine S_iadd C dX11_spelling_139 ?_
        refine L_X11_letters C dX11_spelling_140 (fun _ => ?_)
        refine S_aload_n C 0 dX11_spelling_141 rfl ?_
        refine G_X11_came C fl_X11_16 dX11_spelling_142 ?_
        refine S_iload_n C 1 dX11_spelling_145 rfl ?_
        refine S_iconst C (1) dX11_spelling_146 (by decide) ?_
        refine S_isub C dX11_spelling_147 ?_
        refine S_iload C 4 dX11_spelling_148 rfl ?_
        refine S_isub C dX11_spelling_150 ?_
        refine L_X11_came C dX11_spelling_151 (fun _ => ?_)
        refine S_icmp_ne C 159 dX11_spelling_152 (by decide) ?_ ?_
        · refine S_iconst C (0) dX11_spelling_159 (by decide) ?_
          refine S_istore C [(8, .int 0), (0, .ref (aC z 0)), (3, .int x3), (7, .int x7), (9, .int x9)] dX11_spelling_160 (by decide) rfl ?_
          refine S_iinc C 4 [(9, .int (x9 + 1)), (8, .int 0), (0, .ref (aC z 0)), (3, .int x3), (7, .int x7)] (x9 + 1) dX11_spelling_162 rfl rfl (by decide) rfl ?_
          refine S_goto C 117 dX11_spelling_165 (by decide) ?_
          exact S_sub [2, 3, 4, 1, 0] rfl (ih x3 x7 (0 : Int32) (x9 + 1) σ)
        · refine S_iconst C (1) dX11_spelling_155 (by decide) ?_
          refine S_goto C 160 dX11_spelling_156 (by decide) ?_
          refine S_istore C [(8, .int 1), (0, .ref (aC z 0)), (3, .int x3), (7, .int x7), (9, .int x9)] dX11_spelling_160 (by decide) rfl ?_
          refine S_iinc C 4 [(9, .int (x9 + 1)), (8, .int 1), (0, .ref (aC z 0)), (3, .int x3), (7, .int x7)] (x9 + 1) dX11_spelling_162 rfl rfl (by decide) rfl ?_
          refine S_goto C 117 dX11_spelling_165 (by decide) ?_
          exact S_sub [2, 3, 4, 1, 0] rfl (ih x3 x7 (1 : Int32) (x9 + 1) σ)
set_option maxRecDepth 10000 in
theorem WT_X11_spelling_L82 {x : MX} {z : ZT} (C : Cok x (wxM z) RX11 cX11_spelling 10 (some .int) 1 25) : ∀ (n : Nat) (x3 : Int32) (x6 : Int32) (x7 : Int32) (σ : St), Sim x (wxM z) 10 jIS (X11_spelling_L82 n x3 x6 x7 σ) 82 [(0, .ref (aC z 0)), (3, .int x3), (6, .int x6), (7, .int x7)] [] σ := by
  intro n
  induction n with
  | zero =>
    intros
    exact S_none
  | succ n ih =>
    intro x3 x6 x7 σ
    rw [X11_spelling_L82]
    refine S_iload C 3 dX11_spelling_82 rfl ?_
    refine S_aload_n C 0 dX11_spelling_84 rfl ?_
    refine G_X11_spellings C fl_X11_152 dX11_spelling_85 ?_
    refine S_icmp_ge C 186 dX11_spelling_88 (by decide) ?_ ?_
    · exact S_sub [0, 1, 2] rfl (WT_X11_spelling_B186 C x3 x6 σ)
    · refine S_iload C 2 dX11_spelling_91 rfl ?_
      refine S_if_eq C 186 dX11_spelling_93 (by decide) ?_ ?_
      · exact S_sub [0, 1, 2] rfl (WT_X11_spelling_B186 C x3 x6 σ)
      · refine S_aload_n C 0 dX11_spelling_96 rfl ?_
        refine G_X11_sizes C fl_X11_7 dX11_spelling_97 ?_
        refine S_iload C 3 dX11_spelling_100 rfl ?_
        refine L_X11_sizes C dX11_spelling_102 (fun _ => ?_)
        refine S_iload_n C 1 dX11_spelling_103 rfl ?_
        refine S_icmp_ne C 111 dX11_spelling_104 (by decide) ?_ ?_
        · refine S_iconst C (0) dX11_spelling_111 (by decide) ?_
          refine S_istore C [(8, .int 0), (0, .ref (aC z 0)), (3, .int x3), (6, .int x6), (7, .int x7)] dX11_spelling_112 (by decide) rfl ?_
          refine S_iconst C (0) dX11_spelling_114 (by decide) ?_
          refine S_istore C [(9, .int 0), (8, .int 0), (0, .ref (aC z 0)), (3, .int x3), (6, .int x6), (7, .int x7)] dX11_spelling_115 (by decide) rfl ?_
          exact S_sub [2, 3, 5, 1, 0] rfl (WT_X11_spelling_L117 C _ ih FU x3 x7 (0 : Int32) (0 : Int32) σ)
        · refine S_iconst C (1) dX11_spelling_107 (by decide) ?_
          refine S_goto C 112 dX11_spelling_108 (by decide) ?_
          refine S_istore C [(8, .int 1), (0, .ref (aC z 0)), (3, .int x3), (6, .int x6), (7, .int x7)] dX11_spelling_112 (by decide) rfl ?_
          refine S_iconst C (0) dX11_spelling_114 (by decide) ?_
          refine S_istore C [(9, .int 0), (8, .int 1), (0, .ref (aC z 0)), (3, .int x3), (6, .int x6), (7, .int x7)] dX11_spelling_115 (by decide) rfl ?_
          exact S_sub [2, 3, 5, 1, 0] rfl (WT_X11_spelling_L117 C _ ih FU x3 x7 (1 : Int32) (0 : Int32) σ)
set_option maxRecDepth 10000 in
theorem WT_X11_spelling_L26 {x : MX} {z : ZT} (C : Cok x (wxM z) RX11 cX11_spelling 10 (some .int) 1 25) : ∀ (n : Nat) (x3 : Int32) (x4 : Int64) (x6 : Int32) (σ : St), Sim x (wxM z) 10 jIS (X11_spelling_L26 n x3 x4 x6 σ) 26 [(0, .ref (aC z 0)), (3, .int x3), (4, .long x4), (6, .int x6)] [] σ := by
  intro n
  induction n with
  | zero =>
    intros
    exact S_none
  | succ n ih =>
    intro x3 x4 x6 σ
    rw [X11_spelling_L26]
    refine S_iload C 3 dX11_spelling_26 rfl ?_
    refine S_if_eq C 79 dX11_spelling_28 (by decide) ?_ ?_
    · refine S_iconst C (0) dX11_spelling_79 (by decide) ?_
      refine S_istore C [(7, .int 0), (0, .ref (aC z 0)), (3, .int x3), (4, .long x4), (6, .int x6)] dX11_spelling_80 (by decide) rfl ?_
      exact S_sub [1, 2, 4, 0] rfl (WT_X11_spelling_L82 C FU x3 x6 (0 : Int32) σ)
    · refine S_lload C 2 dX11_spelling_31 rfl ?_
      refine S_lconst C (0) dX11_spelling_33 (by decide) ?_
      refine S_lc_le C 79 dX11_spelling_34 dX11_spelling_35 (by decide) ?_ ?_
      · refine S_iconst C (0) dX11_spelling_79 (by decide) ?_
        refine S_istore C [(7, .int 0), (0, .ref (aC z 0)), (3, .int x3), (4, .long x4), (6, .int x6)] dX11_spelling_80 (by decide) rfl ?_
        exact S_sub [1, 2, 4, 0] rfl (WT_X11_spelling_L82 C FU x3 x6 (0 : Int32) σ)
      · refine S_aload_n C 0 dX11_spelling_38 rfl ?_
        refine G_X11_came C fl_X11_16 dX11_spelling_39 ?_
        refine S_iload_n C 1 dX11_spelling_42 rfl ?_
        refine S_lload C 2 dX11_spelling_43 rfl ?_
        refine S_ldc2 C (31) kl_X11_162 dX11_spelling_45 ?_
        refine S_land C dX11_spelling_48 ?_
        refine S_l2i C dX11_spelling_49 ?_
        refine T_X11_came C dX11_spelling_50 (fun _ => ?_)
        refine S_bndS (fun σ4 _ => ?_)
        refine S_aload_n C 0 dX11_spelling_51 rfl ?_
        refine G_X11_came C fl_X11_16 dX11_spelling_52 ?_
        refine S_iload_n C 1 dX11_spelling_55 rfl ?_
        refine L_X11_came C dX11_spelling_56 (fun _ => ?_)
        refine S_i2l C dX11_spelling_57 ?_
        refine S_lconst C (1) dX11_spelling_58 (by decide) ?_
        refine S_ldc2 C (26) kl_X11_164 dX11_spelling_59 ?_
        refine K_X11_in C ml_X11_156 (by decide) (Nat.le_of_ble_eq_true rfl) dX11_spelling_62 (fun v5 => ?_)
        refine S_istore C [(6, .int v5), (0, .ref (aC z 0)), (3, .int x3), (4, .long x4)] dX11_spelling_65 (by decide) rfl ?_
        refine S_lload C 3 dX11_spelling_67 rfl ?_
        refine S_iconst C (5) dX11_spelling_69 (by decide) ?_
        refine S_lshr C dX11_spelling_70 ?_
        refine S_bndTL (fun x4_6 _ => ?_)
        refine S_lstore C [(4, .long x4_6), (6, .int v5), (0, .ref (aC z 0)), (3, .int x3)] dX11_spelling_71 (by decide) rfl ?_
        refine S_iinc C 3 [(3, .int (x3 + 1)), (4, .long x4_6), (6, .int v5), (0, .ref (aC z 0))] (x3 + 1) dX11_spelling_73 rfl rfl (by decide) rfl ?_
        refine S_goto C 26 dX11_spelling_76 (by decide) ?_
        exact S_sub [3, 0, 1, 2] rfl (ih (x3 + 1) x4_6 v5 σ4)
set_option maxRecDepth 10000 in
theorem WT_X11_spelling {x : MX} {z : ZT} (C : Cok x (wxM z) RX11 cX11_spelling 10 (some .int) 1 25) (x1 : Int64) (σ : St) : Sim x (wxM z) 10 jIS (X11_spelling x1 σ) 0 [(0, .ref (aC z 0)), (1, .long x1)] [] σ := by
  rw [X11_spelling]
  refine S_iconst C (0) dX11_spelling_0 (by decide) ?_
  refine S_istore_n C [(3, .int 0), (0, .ref (aC z 0)), (1, .long x1)] (i := 3) dX11_spelling_1 rfl (by decide) rfl ?_
  refine S_lload_n C 2 dX11_spelling_2 rfl ?_
  refine S_lstore C [(4, .long x1), (3, .int 0), (0, .ref (aC z 0)), (1, .long x1)] dX11_spelling_3 (by decide) rfl ?_
  refine S_lload_n C 3 dX11_spelling_5 rfl ?_
  refine S_lconst C (0) dX11_spelling_6 (by decide) ?_
  refine S_lc_le C 23 dX11_spelling_7 dX11_spelling_8 (by decide) ?_ ?_
  · refine S_iconst C (0) dX11_spelling_23 (by decide) ?_
    refine S_istore C [(6, .int 0), (4, .long x1), (3, .int 0), (0, .ref (aC z 0)), (1, .long x1)] dX11_spelling_24 (by decide) rfl ?_
    exact S_sub [3, 2, 1, 0] rfl (WT_X11_spelling_L26 C FU (0 : Int32) x1 (0 : Int32) σ)
  · refine S_lload_n C 3 dX11_spelling_11 rfl ?_
    refine S_ldc2 C (1125899906842624) kl_X11_160 dX11_spelling_12 ?_
    refine S_lc_ge C 23 dX11_spelling_15 dX11_spelling_16 (by decide) ?_ ?_
    · refine S_iconst C (0) dX11_spelling_23 (by decide) ?_
      refine S_istore C [(6, .int 0), (4, .long x1), (3, .int 0), (0, .ref (aC z 0)), (1, .long x1)] dX11_spelling_24 (by decide) rfl ?_
      exact S_sub [3, 2, 1, 0] rfl (WT_X11_spelling_L26 C FU (0 : Int32) x1 (0 : Int32) σ)
    · refine S_iconst C (1) dX11_spelling_19 (by decide) ?_
      refine S_goto C 24 dX11_spelling_20 (by decide) ?_
      refine S_istore C [(6, .int 1), (4, .long x1), (3, .int 0), (0, .ref (aC z 0)), (1, .long x1)] dX11_spelling_24 (by decide) rfl ?_
      exact S_sub [3, 2, 1, 0] rfl (WT_X11_spelling_L26 C FU (0 : Int32) x1 (1 : Int32) σ)
set_option maxRecDepth 10000 in
theorem con_X11_spelling (z : ZT) (l : Launch) (x1 : Int64) (σ : St) : ∀ ro, X11_spelling x1 σ = some ro → Con (wxM z) l yX11_spelling cX11_spelling 10 (some .int) 1 25 [.ref (aC z 0), .long x1] σ (jIS ro) :=
  fun ro hk => Con_of hk (by decide) (Nat.le_of_ble_eq_true rfl) (fun x hx C => WT_X11_spelling C x1 σ)
set_option maxRecDepth 10000 in
theorem K_X11_spelling {x : MX} {z : ZT} {own : String} {cc : ByteArray} {nL : Nat} {ret : Option FieldType} {fr lo : Nat} {ρ : Type} {inj : ρ → Option Value × St} {pc : Nat} {lv : List (Nat × Value)} {st : List Value} {σ : St} (C : Cok x (wxM z) own cc nL ret fr lo) {x1 : Int64} {index : Nat} (hl : Cond.methodLink own index yX11_spelling ∈ gtb) (hR : 1 + 1 ≤ fr ∧ 8 + (10 + 11) + 25 ≤ lo) (hW : (st.map fun v => v.category).sum ≤ 8) (hd : decode cc pc = .ok (.invokevirtual index, 3)) {K : (Int32 × St) → Option ρ} (h : ∀ v, Sim x (wxM z) nL inj (K v) (pc + 3) lv (.int v.1 :: st) v.2) : Sim x (wxM z) nL inj ((X11_spelling x1 σ).bind K) pc lv (.long x1 :: .ref (aC z 0) :: st) σ :=
  S_callV C (As := [.long x1]) (q := 0) (inj1 := jIS) mw_X11_spelling mv_X11_spelling hl (fun ro hro => con_X11_spelling z (mL x) x1 σ ro hro) hR rfl (show 0 < 48 by decide) rfl (ce_X11 z σ) rfl rfl hW hd h
set_option maxRecDepth 10000 in
theorem WT_X11_letters_L17 {x : MX} {z : ZT} (C : Cok x (wxM z) RX11 cX11_letters 5 (some .long) 2 46) (σ : St) : ∀ (n : Nat) (x1 : Int32) (x2 : Int64) (x4 : Int32), Sim x (wxM z) 5 (jL σ) (X11_letters_L17 σ n x1 x2 x4) 17 [(0, .ref (aC z 0)), (1, .int x1), (2, .long x2), (4, .int x4)] [] σ := by
  intro n
  induction n with
  | zero =>
    intros
    exact S_none
  | succ n ih =>
    intro x1 x2 x4
    rw [X11_letters_L17]
    refine S_iload C 3 dX11_letters_17 rfl ?_
    refine S_aload_n C 0 dX11_letters_19 rfl ?_
    refine G_X11_sizes C fl_X11_7 dX11_letters_20 ?_
    refine S_iload_n C 1 dX11_letters_23 rfl ?_
    refine L_X11_sizes C dX11_letters_24 (fun _ => ?_)
    refine S_icmp_ge C 52 dX11_letters_25 (by decide) ?_ ?_
    · refine S_lload_n C 2 dX11_letters_52 rfl ?_
      exact S_lret C rfl dX11_letters_53
    · refine S_lload_n C 2 dX11_letters_28 rfl ?_
      refine S_iconst C (5) dX11_letters_29 (by decide) ?_
      refine S_lshl C dX11_letters_30 ?_
      refine S_aload_n C 0 dX11_letters_31 rfl ?_
      refine G_X11_letters C fl_X11_13 dX11_letters_32 ?_
      refine S_bipush C (10) dX11_letters_35 (by decide) ?_
      refine S_iload_n C 1 dX11_letters_37 rfl ?_
      refine S_imul C dX11_letters_38 ?_
      refine S_iload C 3 dX11_letters_39 rfl ?_
      refine S_iadd C dX11_letters_41 ?_
      refine L_X11_letters C dX11_letters_42 (fun _ => ?_)
      refine S_i2l C dX11_letters_43 ?_
      refine S_lor C dX11_letters_44 ?_
      refine S_bndTL (fun x2_2 _ => ?_)
      refine S_lstore_n C [(2, .long x2_2), (0, .ref (aC z 0)), (1, .int x1), (4, .int x4)] (i := 2) dX11_letters_45 rfl (by decide) rfl ?_
      refine S_iinc C 3 [(4, .int (x4 + 1)), (2, .long x2_2), (0, .ref (aC z 0)), (1, .int x1)] (x4 + 1) dX11_letters_46 rfl rfl (by decide) rfl ?_
      refine S_goto C 17 dX11_letters_49 (by decide) ?_
      exact S_sub [2, 3, 1, 0] rfl (ih x1 x2_2 (x4 + 1))
set_option maxRecDepth 10000 in
theorem WT_X11_letters {x : MX} {z : ZT} (C : Cok x (wxM z) RX11 cX11_letters 5 (some .long) 2 46) (x1 : Int32) (σ : St) : Sim x (wxM z) 5 (jL σ) (X11_letters x1 σ) 0 [(0, .ref (aC z 0)), (1, .int x1)] [] σ := by
  rw [X11_letters]
  refine S_aload_n C 0 dX11_letters_0 rfl ?_
  refine S_iload_n C 1 dX11_letters_1 rfl ?_
  refine K_X11_isSpelling C ml_X11_166 (by decide) (Nat.le_of_ble_eq_true rfl) dX11_letters_2 (fun v1 => ?_)
  refine S_if_ne C 12 dX11_letters_5 (by decide) ?_ ?_
  · refine S_lconst C (0) dX11_letters_12 (by decide) ?_
    refine S_lstore_n C [(2, .long 0), (0, .ref (aC z 0)), (1, .int x1)] (i := 2) dX11_letters_13 rfl (by decide) rfl ?_
    refine S_iconst C (0) dX11_letters_14 (by decide) ?_
    refine S_istore C [(4, .int 0), (2, .long 0), (0, .ref (aC z 0)), (1, .int x1)] dX11_letters_15 (by decide) rfl ?_
    exact S_sub [2, 3, 1, 0] rfl (WT_X11_letters_L17 C σ FU x1 (0 : Int64) (0 : Int32))
  · refine S_ldc2 C (-1) kl_X11_170 dX11_letters_8 ?_
    exact S_lret C rfl dX11_letters_11
set_option maxRecDepth 10000 in
theorem con_X11_letters (z : ZT) (l : Launch) (x1 : Int32) (σ : St) : ∀ ro, X11_letters x1 σ = some ro → Con (wxM z) l yX11_letters cX11_letters 5 (some .long) 2 46 [.ref (aC z 0), .int x1] σ ((jL σ) ro) :=
  fun ro hk => Con_of hk (by decide) (Nat.le_of_ble_eq_true rfl) (fun x hx C => WT_X11_letters C x1 σ)
set_option maxRecDepth 10000 in
theorem K_X11_letters {x : MX} {z : ZT} {own : String} {cc : ByteArray} {nL : Nat} {ret : Option FieldType} {fr lo : Nat} {ρ : Type} {inj : ρ → Option Value × St} {pc : Nat} {lv : List (Nat × Value)} {st : List Value} {σ : St} (C : Cok x (wxM z) own cc nL ret fr lo) {x1 : Int32} {index : Nat} (hl : Cond.methodLink own index yX11_letters ∈ gtb) (hR : 2 + 1 ≤ fr ∧ 8 + (5 + 11) + 46 ≤ lo) (hW : (st.map fun v => v.category).sum ≤ 8) (hd : decode cc pc = .ok (.invokevirtual index, 3)) {K : Int64 → Option ρ} (h : ∀ v, Sim x (wxM z) nL inj (K v) (pc + 3) lv (.long v :: st) σ) : Sim x (wxM z) nL inj ((X11_letters x1 σ).bind K) pc lv (.int x1 :: .ref (aC z 0) :: st) σ :=
  S_callV C (As := [.int x1]) (q := 0) (inj1 := (jL σ)) mw_X11_letters mv_X11_letters hl (fun ro hro => con_X11_letters z (mL x) x1 σ ro hro) hR rfl (show 0 < 48 by decide) rfl (ce_X11 z σ) rfl rfl hW hd h
set_option maxRecDepth 10000 in
theorem WT_X11_feed_L19 {x : MX} {z : ZT} (C : Cok x (wxM z) RX11 cX11_feed 4 (some .int) 0 0) : ∀ (n : Nat) (x1 : Int64) (x3 : Int32) (σ : St), Sim x (wxM z) 4 jIS (X11_feed_L19 n x1 x3 σ) 19 [(0, .ref (aC z 0)), (1, .long x1), (3, .int x3)] [] σ := by
  intro n
  induction n with
  | zero =>
    intros
    exact S_none
  | succ n ih =>
    intro x1 x3 σ
    rw [X11_feed_L19]
    refine S_iload_n C 2 dX11_feed_19 rfl ?_
    refine S_if_lt C 56 dX11_feed_20 (by decide) ?_ ?_
    · refine S_aload_n C 0 dX11_feed_56 rfl ?_
      refine G_X11_taped C fl_X11_172 dX11_feed_57 ?_
      exact S_iret C rfl dX11_feed_60
    · refine S_aload_n C 0 dX11_feed_23 rfl ?_
      refine G_X11_tape C fl_X11_19 dX11_feed_24 ?_
      refine S_aload_n C 0 dX11_feed_27 rfl ?_
      refine G_X11_taped C fl_X11_172 dX11_feed_28 ?_
      refine S_lload_n C 1 dX11_feed_31 rfl ?_
      refine S_iload_n C 2 dX11_feed_32 rfl ?_
      refine S_lshr C dX11_feed_33 ?_
      refine S_l2i C dX11_feed_34 ?_
      refine S_sipush C (255) dX11_feed_35 (by decide) ?_
      refine S_iand C dX11_feed_38 ?_
      refine T_X11_tape C dX11_feed_39 (fun _ => ?_)
      refine S_bndS (fun σ1 _ => ?_)
      refine S_aload_n C 0 dX11_feed_40 rfl ?_
      refine S_dup C dX11_feed_41 rfl ?_
      refine G_X11_taped C fl_X11_172 dX11_feed_42 ?_
      refine S_iconst C (1) dX11_feed_45 (by decide) ?_
      refine S_iadd C dX11_feed_46 ?_
      refine P_X11_taped C fl_X11_172 dX11_feed_47 ?_
      refine S_bndS (fun σ2 _ => ?_)
      refine S_iinc C 2 [(3, .int (x3 + (-8))), (0, .ref (aC z 0)), (1, .long x1)] (x3 + (-8)) dX11_feed_50 rfl rfl (by decide) rfl ?_
      refine S_goto C 19 dX11_feed_53 (by decide) ?_
      exact S_sub [1, 2, 0] rfl (ih x1 (x3 + (-8)) σ2)
set_option maxRecDepth 10000 in
theorem WT_X11_feed {x : MX} {z : ZT} (C : Cok x (wxM z) RX11 cX11_feed 4 (some .int) 0 0) (x1 : Int64) (σ : St) : Sim x (wxM z) 4 jIS (X11_feed x1 σ) 0 [(0, .ref (aC z 0)), (1, .long x1)] [] σ := by
  rw [X11_feed]
  refine S_aload_n C 0 dX11_feed_0 rfl ?_
  refine G_X11_taped C fl_X11_172 dX11_feed_1 ?_
  refine S_bipush C (8) dX11_feed_4 (by decide) ?_
  refine S_iadd C dX11_feed_6 ?_
  refine S_sipush C (200) dX11_feed_7 (by decide) ?_
  refine S_icmp_le C 16 dX11_feed_10 (by decide) ?_ ?_
  · refine S_bipush C (56) dX11_feed_16 (by decide) ?_
    refine S_istore_n C [(3, .int 56), (0, .ref (aC z 0)), (1, .long x1)] (i := 3) dX11_feed_18 rfl (by decide) rfl ?_
    exact S_sub [1, 2, 0] rfl (WT_X11_feed_L19 C FU x1 (56 : Int32) σ)
  · refine S_bipush C (-3) dX11_feed_13 (by decide) ?_
    exact S_iret C rfl dX11_feed_15
set_option maxRecDepth 10000 in
theorem con_X11_feed (z : ZT) (l : Launch) (x1 : Int64) (σ : St) : ∀ ro, X11_feed x1 σ = some ro → Con (wxM z) l yX11_feed cX11_feed 4 (some .int) 0 0 [.ref (aC z 0), .long x1] σ (jIS ro) :=
  fun ro hk => Con_of hk (by decide) (Nat.le_of_ble_eq_true rfl) (fun x hx C => WT_X11_feed C x1 σ)
set_option maxRecDepth 10000 in
theorem K_X11_feed {x : MX} {z : ZT} {own : String} {cc : ByteArray} {nL : Nat} {ret : Option FieldType} {fr lo : Nat} {ρ : Type} {inj : ρ → Option Value × St} {pc : Nat} {lv : List (Nat × Value)} {st : List Value} {σ : St} (C : Cok x (wxM z) own cc nL ret fr lo) {x1 : Int64} {index : Nat} (hl : Cond.methodLink own index yX11_feed ∈ gtb) (hR : 0 + 1 ≤ fr ∧ 8 + (4 + 11) + 0 ≤ lo) (hW : (st.map fun v => v.category).sum ≤ 8) (hd : decode cc pc = .ok (.invokevirtual index, 3)) {K : (Int32 × St) → Option ρ} (h : ∀ v, Sim x (wxM z) nL inj (K v) (pc + 3) lv (.int v.1 :: st) v.2) : Sim x (wxM z) nL inj ((X11_feed x1 σ).bind K) pc lv (.long x1 :: .ref (aC z 0) :: st) σ :=
  S_callV C (As := [.long x1]) (q := 0) (inj1 := jIS) mw_X11_feed mv_X11_feed hl (fun ro hro => con_X11_feed z (mL x) x1 σ ro hro) hR rfl (show 0 < 48 by decide) rfl (ce_X11 z σ) rfl rfl hW hd h
set_option maxRecDepth 10000 in
theorem WT_X11_end {x : MX} {z : ZT} (C : Cok x (wxM z) RX11 cX11_end 3 (some .int) 1 25) (x1 : Int32) (σ : St) : Sim x (wxM z) 3 jIS (X11_end x1 σ) 0 [(0, .ref (aC z 0)), (1, .int x1)] [] σ := by
  rw [X11_end]
  refine S_iload_n C 1 dX11_end_0 rfl ?_
  refine S_i2l C dX11_end_1 ?_
  refine S_lconst C (0) dX11_end_2 (by decide) ?_
  refine S_aload_n C 0 dX11_end_3 rfl ?_
  refine G_X11_taped C fl_X11_172 dX11_end_4 ?_
  refine S_i2l C dX11_end_7 ?_
  refine K_X11_in C ml_X11_156 (by decide) (Nat.le_of_ble_eq_true rfl) dX11_end_8 (fun v1 => ?_)
  refine S_if_ne C 16 dX11_end_11 (by decide) ?_ ?_
  · refine S_aload_n C 0 dX11_end_16 rfl ?_
    refine G_X11_taped C fl_X11_172 dX11_end_17 ?_
    refine S_bndT (fun x2_2 _ => ?_)
    refine S_istore_n C [(2, .int x2_2), (0, .ref (aC z 0)), (1, .int x1)] (i := 2) dX11_end_20 rfl (by decide) rfl ?_
    refine S_aload_n C 1 dX11_end_21 rfl ?_
    refine S_iload_n C 2 dX11_end_22 rfl ?_
    refine P_X11_taped C fl_X11_172 dX11_end_23 ?_
    refine S_bndS (fun σ3 _ => ?_)
    refine S_iload_n C 0 dX11_end_26 rfl ?_
    exact S_iret C rfl dX11_end_27
  · refine S_iconst C (-1) dX11_end_14 (by decide) ?_
    exact S_iret C rfl dX11_end_15
set_option maxRecDepth 10000 in
theorem con_X11_end (z : ZT) (l : Launch) (x1 : Int32) (σ : St) : ∀ ro, X11_end x1 σ = some ro → Con (wxM z) l yX11_end cX11_end 3 (some .int) 1 25 [.ref (aC z 0), .int x1] σ (jIS ro) :=
  fun ro hk => Con_of hk (by decide) (Nat.le_of_ble_eq_true rfl) (fun x hx C => WT_X11_end C x1 σ)
set_option maxRecDepth 10000 in
theorem K_X11_end {x : MX} {z : ZT} {own : String} {cc : ByteArray} {nL : Nat} {ret : Option FieldType} {fr lo : Nat} {ρ : Type} {inj : ρ → Option Value × St} {pc : Nat} {lv : List (Nat × Value)} {st : List Value} {σ : St} (C : Cok x (wxM z) own cc nL ret fr lo) {x1 : Int32} {index : Nat} (hl : Cond.methodLink own index yX11_end ∈ gtb) (hR : 1 + 1 ≤ fr ∧ 8 + (3 + 11) + 25 ≤ lo) (hW : (st.map fun v => v.category).sum ≤ 8) (hd : decode cc pc = .ok (.invokevirtual index, 3)) {K : (Int32 × St) → Option ρ} (h : ∀ v, Sim x (wxM z) nL inj (K v) (pc + 3) lv (.int v.1 :: st) v.2) : Sim x (wxM z) nL inj ((X11_end x1 σ).bind K) pc lv (.int x1 :: .ref (aC z 0) :: st) σ :=
  S_callV C (As := [.int x1]) (q := 0) (inj1 := jIS) mw_X11_end mv_X11_end hl (fun ro hro => con_X11_end z (mL x) x1 σ ro hro) hR rfl (show 0 < 48 by decide) rfl (ce_X11 z σ) rfl rfl hW hd h
set_option maxRecDepth 10000 in
theorem WT_X11_byteAt {x : MX} {z : ZT} (C : Cok x (wxM z) RX11 cX11_byteAt 2 (some .int) 0 0) (x1 : Int32) (σ : St) : Sim x (wxM z) 2 (jI σ) (X11_byteAt x1 σ) 0 [(0, .ref (aC z 0)), (1, .int x1)] [] σ := by
  rw [X11_byteAt]
  refine S_iload_n C 1 dX11_byteAt_0 rfl ?_
  refine S_aload_n C 0 dX11_byteAt_1 rfl ?_
  refine G_X11_taped C fl_X11_172 dX11_byteAt_2 ?_
  refine S_icmp_ge C 17 dX11_byteAt_5 (by decide) ?_ ?_
  · refine S_bipush C (-4) dX11_byteAt_17 (by decide) ?_
    exact S_iret C rfl dX11_byteAt_19
  · refine S_aload_n C 0 dX11_byteAt_8 rfl ?_
    refine G_X11_tape C fl_X11_19 dX11_byteAt_9 ?_
    refine S_iload_n C 1 dX11_byteAt_12 rfl ?_
    refine L_X11_tape C dX11_byteAt_13 (fun _ => ?_)
    refine S_goto C 19 dX11_byteAt_14 (by decide) ?_
    exact S_iret C rfl dX11_byteAt_19
set_option maxRecDepth 10000 in
theorem con_X11_byteAt (z : ZT) (l : Launch) (x1 : Int32) (σ : St) : ∀ ro, X11_byteAt x1 σ = some ro → Con (wxM z) l yX11_byteAt cX11_byteAt 2 (some .int) 0 0 [.ref (aC z 0), .int x1] σ ((jI σ) ro) :=
  fun ro hk => Con_of hk (by decide) (Nat.le_of_ble_eq_true rfl) (fun x hx C => WT_X11_byteAt C x1 σ)
set_option maxRecDepth 10000 in
theorem K_X11_byteAt {x : MX} {z : ZT} {own : String} {cc : ByteArray} {nL : Nat} {ret : Option FieldType} {fr lo : Nat} {ρ : Type} {inj : ρ → Option Value × St} {pc : Nat} {lv : List (Nat × Value)} {st : List Value} {σ : St} (C : Cok x (wxM z) own cc nL ret fr lo) {x1 : Int32} {index : Nat} (hl : Cond.methodLink own index yX11_byteAt ∈ gtb) (hR : 0 + 1 ≤ fr ∧ 8 + (2 + 11) + 0 ≤ lo) (hW : (st.map fun v => v.category).sum ≤ 8) (hd : decode cc pc = .ok (.invokevirtual index, 3)) {K : Int32 → Option ρ} (h : ∀ v, Sim x (wxM z) nL inj (K v) (pc + 3) lv (.int v :: st) σ) : Sim x (wxM z) nL inj ((X11_byteAt x1 σ).bind K) pc lv (.int x1 :: .ref (aC z 0) :: st) σ :=
  S_callV C (As := [.int x1]) (q := 0) (inj1 := (jI σ)) mw_X11_byteAt mv_X11_byteAt hl (fun ro hro => con_X11_byteAt z (mL x) x1 σ ro hro) hR rfl (show 0 < 48 by decide) rfl (ce_X11 z σ) rfl rfl hW hd h
set_option maxRecDepth 10000 in
theorem WT_X11_fails {x : MX} {z : ZT} (C : Cok x (wxM z) RX11 cX11_fails 2 none 0 0) (x1 : Int32) (σ : St) : Sim x (wxM z) 2 jV (X11_fails x1 σ) 0 [(0, .ref (aC z 0)), (1, .int x1)] [] σ := by
  rw [X11_fails]
  refine S_aload_n C 0 dX11_fails_0 rfl ?_
  refine G_X11_wrong C fl_X11_175 dX11_fails_1 ?_
  refine S_if_ne C 20 dX11_fails_4 (by decide) ?_ ?_
  · exact S_vret C rfl dX11_fails_20
  · refine S_aload_n C 0 dX11_fails_7 rfl ?_
    refine S_iload_n C 1 dX11_fails_8 rfl ?_
    refine P_X11_wrong C fl_X11_175 dX11_fails_9 ?_
    refine S_bndS (fun σ1 _ => ?_)
    refine S_aload_n C 0 dX11_fails_12 rfl ?_
    refine S_aload_n C 0 dX11_fails_13 rfl ?_
    refine G_X11_place C fl_X11_178 dX11_fails_14 ?_
    refine P_X11_wrongAt C fl_X11_181 dX11_fails_17 ?_
    refine S_bndS (fun σ2 _ => ?_)
    exact S_vret C rfl dX11_fails_20
set_option maxRecDepth 10000 in
theorem con_X11_fails (z : ZT) (l : Launch) (x1 : Int32) (σ : St) : ∀ ro, X11_fails x1 σ = some ro → Con (wxM z) l yX11_fails cX11_fails 2 none 0 0 [.ref (aC z 0), .int x1] σ (jV ro) :=
  fun ro hk => Con_of hk (by decide) (Nat.le_of_ble_eq_true rfl) (fun x hx C => WT_X11_fails C x1 σ)
set_option maxRecDepth 10000 in
theorem K_X11_fails {x : MX} {z : ZT} {own : String} {cc : ByteArray} {nL : Nat} {ret : Option FieldType} {fr lo : Nat} {ρ : Type} {inj : ρ → Option Value × St} {pc : Nat} {lv : List (Nat × Value)} {st : List Value} {σ : St} (C : Cok x (wxM z) own cc nL ret fr lo) {x1 : Int32} {index : Nat} (hl : Cond.methodLink own index yX11_fails ∈ gtb) (hR : 0 + 1 ≤ fr ∧ 8 + (2 + 11) + 0 ≤ lo) (hW : (st.map fun v => v.category).sum ≤ 8) (hd : decode cc pc = .ok (.invokevirtual index, 3)) {K : St → Option ρ} (h : ∀ v, Sim x (wxM z) nL inj (K v) (pc + 3) lv (st) v) : Sim x (wxM z) nL inj ((X11_fails x1 σ).bind K) pc lv (.int x1 :: .ref (aC z 0) :: st) σ :=
  S_callV C (As := [.int x1]) (q := 0) (inj1 := jV) mw_X11_fails mv_X11_fails hl (fun ro hro => con_X11_fails z (mL x) x1 σ ro hro) hR rfl (show 0 < 48 by decide) rfl (ce_X11 z σ) rfl rfl hW hd h
set_option maxRecDepth 10000 in
theorem WT_X11_next_L140 {x : MX} {z : ZT} (C : Cok x (wxM z) RX11 cX11_next 2 none 1 25) : ∀ (n : Nat) (σ : St), Sim x (wxM z) 2 jV (X11_next_L140 n σ) 140 [(0, .ref (aC z 0))] [] σ := by
  intro n
  induction n with
  | zero =>
    intros
    exact S_none
  | succ n ih =>
    intro σ
    rw [X11_next_L140]
    refine S_aload_n C 0 dX11_next_140 rfl ?_
    refine S_aload_n C 0 dX11_next_141 rfl ?_
    refine G_X11_at C fl_X11_184 dX11_next_142 ?_
    refine K_X11_byteAt C ml_X11_187 (by decide) (Nat.le_of_ble_eq_true rfl) dX11_next_145 (fun v10 => ?_)
    refine S_i2l C dX11_next_148 ?_
    refine S_ldc2 C (48) kl_X11_201 dX11_next_149 ?_
    refine S_ldc2 C (57) kl_X11_203 dX11_next_152 ?_
    refine K_X11_in C ml_X11_156 (by decide) (Nat.le_of_ble_eq_true rfl) dX11_next_155 (fun v11 => ?_)
    refine S_if_eq C 217 dX11_next_158 (by decide) ?_ ?_
    · refine S_aload_n C 0 dX11_next_217 rfl ?_
      refine S_iconst C (2) dX11_next_218 (by decide) ?_
      refine P_X11_token C fl_X11_194 dX11_next_219 ?_
      refine S_bndS (fun σ12 _ => ?_)
      refine S_aload_n C 0 dX11_next_222 rfl ?_
      refine G_X11_at C fl_X11_184 dX11_next_223 ?_
      refine S_aload_n C 0 dX11_next_226 rfl ?_
      refine G_X11_place C fl_X11_178 dX11_next_227 ?_
      refine S_isub C dX11_next_230 ?_
      refine S_iconst C (2) dX11_next_231 (by decide) ?_
      refine S_icmp_le C 269 dX11_next_232 (by decide) ?_ ?_
      · exact S_vret C rfl dX11_next_269
      · refine S_aload_n C 0 dX11_next_235 rfl ?_
        refine S_iconst C (1) dX11_next_236 (by decide) ?_
        refine K_X11_fails C ml_X11_205 (by decide) (Nat.le_of_ble_eq_true rfl) dX11_next_237 (fun σ13 => ?_)
        refine S_goto C 269 dX11_next_240 (by decide) ?_
        exact S_vret C rfl dX11_next_269
    · refine S_aload_n C 0 dX11_next_161 rfl ?_
      refine S_aload_n C 0 dX11_next_162 rfl ?_
      refine G_X11_at C fl_X11_184 dX11_next_163 ?_
      refine S_aload_n C 0 dX11_next_166 rfl ?_
      refine G_X11_place C fl_X11_178 dX11_next_167 ?_
      refine S_isub C dX11_next_170 ?_
      refine S_iconst C (2) dX11_next_171 (by decide) ?_
      refine S_icmp_ge C 197 dX11_next_172 (by decide) ?_ ?_
      · refine S_aload_n C 0 dX11_next_197 rfl ?_
        refine G_X11_value C fl_X11_191 dX11_next_198 ?_
        refine P_X11_value C fl_X11_191 dX11_next_201 ?_
        refine S_bndS (fun σ14 _ => ?_)
        refine S_aload_n C 0 dX11_next_204 rfl ?_
        refine S_dup C dX11_next_205 rfl ?_
        refine G_X11_at C fl_X11_184 dX11_next_206 ?_
        refine S_iconst C (1) dX11_next_209 (by decide) ?_
        refine S_iadd C dX11_next_210 ?_
        refine P_X11_at C fl_X11_184 dX11_next_211 ?_
        refine S_bndS (fun σ15 _ => ?_)
        refine S_goto C 140 dX11_next_214 (by decide) ?_
        exact S_sub [0] rfl (ih σ15)
      · refine S_bipush C (10) dX11_next_175 (by decide) ?_
        refine S_aload_n C 0 dX11_next_177 rfl ?_
        refine G_X11_value C fl_X11_191 dX11_next_178 ?_
        refine S_imul C dX11_next_181 ?_
        refine S_aload_n C 0 dX11_next_182 rfl ?_
        refine S_aload_n C 0 dX11_next_183 rfl ?_
        refine G_X11_at C fl_X11_184 dX11_next_184 ?_
        refine K_X11_byteAt C ml_X11_187 (by decide) (Nat.le_of_ble_eq_true rfl) dX11_next_187 (fun v16 => ?_)
        refine S_iadd C dX11_next_190 ?_
        refine S_bipush C (48) dX11_next_191 (by decide) ?_
        refine S_isub C dX11_next_193 ?_
        refine S_goto C 201 dX11_next_194 (by decide) ?_
        refine P_X11_value C fl_X11_191 dX11_next_201 ?_
        refine S_bndS (fun σ17 _ => ?_)
        refine S_aload_n C 0 dX11_next_204 rfl ?_
        refine S_dup C dX11_next_205 rfl ?_
        refine G_X11_at C fl_X11_184 dX11_next_206 ?_
        refine S_iconst C (1) dX11_next_209 (by decide) ?_
        refine S_iadd C dX11_next_210 ?_
        refine P_X11_at C fl_X11_184 dX11_next_211 ?_
        refine S_bndS (fun σ18 _ => ?_)
        refine S_goto C 140 dX11_next_214 (by decide) ?_
        exact S_sub [0] rfl (ih σ18)
set_option maxRecDepth 10000 in
theorem WT_X11_next_L84 {x : MX} {z : ZT} (C : Cok x (wxM z) RX11 cX11_next 2 none 1 25) : ∀ (n : Nat) (σ : St), Sim x (wxM z) 2 jV (X11_next_L84 n σ) 84 [(0, .ref (aC z 0))] [] σ := by
  intro n
  induction n with
  | zero =>
    intros
    exact S_none
  | succ n ih =>
    intro σ
    rw [X11_next_L84]
    refine S_aload_n C 0 dX11_next_84 rfl ?_
    refine S_aload_n C 0 dX11_next_85 rfl ?_
    refine G_X11_at C fl_X11_184 dX11_next_86 ?_
    refine K_X11_byteAt C ml_X11_187 (by decide) (Nat.le_of_ble_eq_true rfl) dX11_next_89 (fun v19 => ?_)
    refine S_i2l C dX11_next_92 ?_
    refine S_ldc2 C (97) kl_X11_197 dX11_next_93 ?_
    refine S_ldc2 C (122) kl_X11_199 dX11_next_96 ?_
    refine K_X11_in C ml_X11_156 (by decide) (Nat.le_of_ble_eq_true rfl) dX11_next_99 (fun v20 => ?_)
    refine S_if_eq C 118 dX11_next_102 (by decide) ?_ ?_
    · refine S_aload_n C 0 dX11_next_118 rfl ?_
      refine S_iconst C (1) dX11_next_119 (by decide) ?_
      refine P_X11_token C fl_X11_194 dX11_next_120 ?_
      refine S_bndS (fun σ21 _ => ?_)
      refine S_goto C 269 dX11_next_123 (by decide) ?_
      exact S_vret C rfl dX11_next_269
    · refine S_aload_n C 0 dX11_next_105 rfl ?_
      refine S_dup C dX11_next_106 rfl ?_
      refine G_X11_at C fl_X11_184 dX11_next_107 ?_
      refine S_iconst C (1) dX11_next_110 (by decide) ?_
      refine S_iadd C dX11_next_111 ?_
      refine P_X11_at C fl_X11_184 dX11_next_112 ?_
      refine S_bndS (fun σ22 _ => ?_)
      refine S_goto C 84 dX11_next_115 (by decide) ?_
      exact S_sub [0] rfl (ih σ22)
set_option maxRecDepth 10000 in
theorem WT_X11_next_L8 {x : MX} {z : ZT} (C : Cok x (wxM z) RX11 cX11_next 2 none 1 25) : ∀ (n : Nat) (σ : St), Sim x (wxM z) 2 jV (X11_next_L8 n σ) 8 [(0, .ref (aC z 0))] [] σ := by
  intro n
  induction n with
  | zero =>
    intros
    exact S_none
  | succ n ih =>
    intro σ
    rw [X11_next_L8]
    refine S_aload_n C 0 dX11_next_8 rfl ?_
    refine S_aload_n C 0 dX11_next_9 rfl ?_
    refine G_X11_at C fl_X11_184 dX11_next_10 ?_
    refine K_X11_byteAt C ml_X11_187 (by decide) (Nat.le_of_ble_eq_true rfl) dX11_next_13 (fun v1 => ?_)
    refine S_bipush C (32) dX11_next_16 (by decide) ?_
    refine S_icmp_ne C 34 dX11_next_18 (by decide) ?_ ?_
    · refine S_aload_n C 0 dX11_next_34 rfl ?_
      refine S_aload_n C 0 dX11_next_35 rfl ?_
      refine G_X11_at C fl_X11_184 dX11_next_36 ?_
      refine P_X11_place C fl_X11_178 dX11_next_39 ?_
      refine S_bndS (fun σ2 _ => ?_)
      refine S_aload_n C 0 dX11_next_42 rfl ?_
      refine S_aload_n C 0 dX11_next_43 rfl ?_
      refine G_X11_at C fl_X11_184 dX11_next_44 ?_
      refine K_X11_byteAt C ml_X11_187 (by decide) (Nat.le_of_ble_eq_true rfl) dX11_next_47 (fun v3 => ?_)
      refine S_istore_n C [(1, .int v3), (0, .ref (aC z 0))] (i := 1) dX11_next_50 rfl (by decide) rfl ?_
      refine S_aload_n C 1 dX11_next_51 rfl ?_
      refine S_iconst C (0) dX11_next_52 (by decide) ?_
      refine P_X11_value C fl_X11_191 dX11_next_53 ?_
      refine S_bndS (fun σ4 _ => ?_)
      refine S_iload_n C 0 dX11_next_56 rfl ?_
      refine S_bipush C (-4) dX11_next_57 (by decide) ?_
      refine S_icmp_ne C 70 dX11_next_59 (by decide) ?_ ?_
      · refine S_iload_n C 0 dX11_next_70 rfl ?_
        refine S_i2l C dX11_next_71 ?_
        refine S_ldc2 C (97) kl_X11_197 dX11_next_72 ?_
        refine S_ldc2 C (122) kl_X11_199 dX11_next_75 ?_
        refine K_X11_in C ml_X11_156 (by decide) (Nat.le_of_ble_eq_true rfl) dX11_next_78 (fun v5 => ?_)
        refine S_if_eq C 126 dX11_next_81 (by decide) ?_ ?_
        · refine S_iload_n C 0 dX11_next_126 rfl ?_
          refine S_i2l C dX11_next_127 ?_
          refine S_ldc2 C (48) kl_X11_201 dX11_next_128 ?_
          refine S_ldc2 C (57) kl_X11_203 dX11_next_131 ?_
          refine K_X11_in C ml_X11_156 (by decide) (Nat.le_of_ble_eq_true rfl) dX11_next_134 (fun v6 => ?_)
          refine S_if_eq C 243 dX11_next_137 (by decide) ?_ ?_
          · refine S_aload_n C 1 dX11_next_243 rfl ?_
            refine S_iconst C (3) dX11_next_244 (by decide) ?_
            refine P_X11_token C fl_X11_194 dX11_next_245 ?_
            refine S_bndS (fun σ7 _ => ?_)
            refine S_aload_n C 1 dX11_next_248 rfl ?_
            refine S_dup C dX11_next_249 rfl ?_
            refine G_X11_at C fl_X11_184 dX11_next_250 ?_
            refine S_iconst C (1) dX11_next_253 (by decide) ?_
            refine S_iadd C dX11_next_254 ?_
            refine P_X11_at C fl_X11_184 dX11_next_255 ?_
            refine S_bndS (fun σ8 _ => ?_)
            refine S_iload_n C 0 dX11_next_258 rfl ?_
            refine S_bipush C (59) dX11_next_259 (by decide) ?_
            refine S_icmp_eq C 269 dX11_next_261 (by decide) ?_ ?_
            · exact S_vret C rfl dX11_next_269
            · refine S_aload_n C 1 dX11_next_264 rfl ?_
              refine S_iconst C (1) dX11_next_265 (by decide) ?_
              refine K_X11_fails C ml_X11_205 (by decide) (Nat.le_of_ble_eq_true rfl) dX11_next_266 (fun σ9 => ?_)
              exact S_vret C rfl dX11_next_269
          · exact S_sub [1] rfl (WT_X11_next_L140 C FU σ4)
        · exact S_sub [1] rfl (WT_X11_next_L84 C FU σ4)
      · refine S_aload_n C 1 dX11_next_62 rfl ?_
        refine S_iconst C (0) dX11_next_63 (by decide) ?_
        refine P_X11_token C fl_X11_194 dX11_next_64 ?_
        refine S_bndS (fun σ23 _ => ?_)
        refine S_goto C 269 dX11_next_67 (by decide) ?_
        exact S_vret C rfl dX11_next_269
    · refine S_aload_n C 0 dX11_next_21 rfl ?_
      refine S_dup C dX11_next_22 rfl ?_
      refine G_X11_at C fl_X11_184 dX11_next_23 ?_
      refine S_iconst C (1) dX11_next_26 (by decide) ?_
      refine S_iadd C dX11_next_27 ?_
      refine P_X11_at C fl_X11_184 dX11_next_28 ?_
      refine S_bndS (fun σ24 _ => ?_)
      refine S_goto C 8 dX11_next_31 (by decide) ?_
      exact S_sub [0] rfl (ih σ24)
set_option maxRecDepth 10000 in
theorem WT_X11_next {x : MX} {z : ZT} (C : Cok x (wxM z) RX11 cX11_next 2 none 1 25)  (σ : St) : Sim x (wxM z) 2 jV (X11_next σ) 0 [(0, .ref (aC z 0))] [] σ := by
  rw [X11_next]
  refine S_aload_n C 0 dX11_next_0 rfl ?_
  refine G_X11_wrong C fl_X11_175 dX11_next_1 ?_
  refine S_if_le C 8 dX11_next_4 (by decide) ?_ ?_
  · exact S_sub [0] rfl (WT_X11_next_L8 C FU σ)
  · exact S_vret C rfl dX11_next_7
set_option maxRecDepth 10000 in
theorem con_X11_next (z : ZT) (l : Launch)  (σ : St) : ∀ ro, X11_next σ = some ro → Con (wxM z) l yX11_next cX11_next 2 none 1 25 [.ref (aC z 0)] σ (jV ro) :=
  fun ro hk => Con_of hk (by decide) (Nat.le_of_ble_eq_true rfl) (fun x hx C => WT_X11_next C σ)
set_option maxRecDepth 10000 in
theorem K_X11_next {x : MX} {z : ZT} {own : String} {cc : ByteArray} {nL : Nat} {ret : Option FieldType} {fr lo : Nat} {ρ : Type} {inj : ρ → Option Value × St} {pc : Nat} {lv : List (Nat × Value)} {st : List Value} {σ : St} (C : Cok x (wxM z) own cc nL ret fr lo)  {index : Nat} (hl : Cond.methodLink own index yX11_next ∈ gtb) (hR : 1 + 1 ≤ fr ∧ 8 + (2 + 11) + 25 ≤ lo) (hW : (st.map fun v => v.category).sum ≤ 8) (hd : decode cc pc = .ok (.invokevirtual index, 3)) {K : St → Option ρ} (h : ∀ v, Sim x (wxM z) nL inj (K v) (pc + 3) lv (st) v) : Sim x (wxM z) nL inj ((X11_next σ).bind K) pc lv (.ref (aC z 0) :: st) σ :=
  S_callV C (As := []) (q := 0) (inj1 := jV) mw_X11_next mv_X11_next hl (fun ro hro => con_X11_next z (mL x) σ ro hro) hR rfl (show 0 < 48 by decide) rfl (ce_X11 z σ) rfl rfl hW hd h
set_option maxRecDepth 10000 in
theorem WT_X11_lineAt_L51 {x : MX} {z : ZT} (C : Cok x (wxM z) RX11 cX11_lineAt 4 (some .int) 1 21) (σ : St) (kq2 : Int32 → Option Int32) (hk2 : ∀ (x1 : Int32), Sim x (wxM z) 4 (jI σ) (kq2 x1) 2 [(0, .ref (aC z 0)), (1, .int x1)] [] σ) : ∀ (n : Nat) (x1 : Int32) (x2 : Int32) (x3 : Int32), Sim x (wxM z) 4 (jI σ) (X11_lineAt_L51 kq2 σ n x1 x2 x3) 51 [(0, .ref (aC z 0)), (1, .int x1), (2, .int x2), (3, .int x3)] [] σ := by
  intro n
  induction n with
  | zero =>
    intros
    exact S_none
  | succ n ih =>
    intro x1 x2 x3
    rw [X11_lineAt_L51]
    refine S_iload_n C 2 dX11_lineAt_51 rfl ?_
    refine S_if_eq C 106 dX11_lineAt_52 (by decide) ?_ ?_
    · refine S_iload_n C 2 dX11_lineAt_106 rfl ?_
      refine S_if_eq C 112 dX11_lineAt_107 (by decide) ?_ ?_
      · refine S_iinc C 1 [(1, .int (x1 + 1)), (0, .ref (aC z 0)), (2, .int x2), (3, .int x3)] (x1 + 1) dX11_lineAt_112 rfl rfl (by decide) rfl ?_
        refine S_goto C 2 dX11_lineAt_115 (by decide) ?_
        exact S_sub [1, 0] rfl (hk2 (x1 + 1))
      · refine S_iload_n C 1 dX11_lineAt_110 rfl ?_
        exact S_iret C rfl dX11_lineAt_111
    · refine S_iload_n C 3 dX11_lineAt_55 rfl ?_
      refine S_aload_n C 0 dX11_lineAt_56 rfl ?_
      refine G_X11_at C fl_X11_184 dX11_lineAt_57 ?_
      refine S_aload_n C 0 dX11_lineAt_60 rfl ?_
      refine G_X11_place C fl_X11_178 dX11_lineAt_61 ?_
      refine S_isub C dX11_lineAt_64 ?_
      refine S_icmp_ge C 106 dX11_lineAt_65 (by decide) ?_ ?_
      · refine S_iload_n C 2 dX11_lineAt_106 rfl ?_
        refine S_if_eq C 112 dX11_lineAt_107 (by decide) ?_ ?_
        · refine S_iinc C 1 [(1, .int (x1 + 1)), (0, .ref (aC z 0)), (2, .int x2), (3, .int x3)] (x1 + 1) dX11_lineAt_112 rfl rfl (by decide) rfl ?_
          refine S_goto C 2 dX11_lineAt_115 (by decide) ?_
          exact S_sub [1, 0] rfl (hk2 (x1 + 1))
        · refine S_iload_n C 1 dX11_lineAt_110 rfl ?_
          exact S_iret C rfl dX11_lineAt_111
      · refine S_aload_n C 0 dX11_lineAt_68 rfl ?_
        refine S_aload_n C 0 dX11_lineAt_69 rfl ?_
        refine G_X11_place C fl_X11_178 dX11_lineAt_70 ?_
        refine S_iload_n C 3 dX11_lineAt_73 rfl ?_
        refine S_iadd C dX11_lineAt_74 ?_
        refine K_X11_byteAt C ml_X11_187 (by decide) (Nat.le_of_ble_eq_true rfl) dX11_lineAt_75 (fun v1 => ?_)
        refine S_aload_n C 0 dX11_lineAt_78 rfl ?_
        refine G_X11_words C fl_X11_25 dX11_lineAt_79 ?_
        refine S_aload_n C 0 dX11_lineAt_82 rfl ?_
        refine G_X11_ends C fl_X11_22 dX11_lineAt_83 ?_
        refine S_iload_n C 1 dX11_lineAt_86 rfl ?_
        refine L_X11_ends C dX11_lineAt_87 (fun _ => ?_)
        refine S_iload_n C 3 dX11_lineAt_88 rfl ?_
        refine S_iadd C dX11_lineAt_89 ?_
        refine L_X11_words C dX11_lineAt_90 (fun _ => ?_)
        refine S_icmp_ne C 98 dX11_lineAt_91 (by decide) ?_ ?_
        · refine S_iconst C (0) dX11_lineAt_98 (by decide) ?_
          refine S_istore_n C [(2, .int 0), (0, .ref (aC z 0)), (1, .int x1), (3, .int x3)] (i := 2) dX11_lineAt_99 rfl (by decide) rfl ?_
          refine S_iinc C 3 [(3, .int (x3 + 1)), (2, .int 0), (0, .ref (aC z 0)), (1, .int x1)] (x3 + 1) dX11_lineAt_100 rfl rfl (by decide) rfl ?_
          refine S_goto C 51 dX11_lineAt_103 (by decide) ?_
          exact S_sub [2, 3, 1, 0] rfl (ih x1 (0 : Int32) (x3 + 1))
        · refine S_iconst C (1) dX11_lineAt_94 (by decide) ?_
          refine S_goto C 99 dX11_lineAt_95 (by decide) ?_
          refine S_istore_n C [(2, .int 1), (0, .ref (aC z 0)), (1, .int x1), (3, .int x3)] (i := 2) dX11_lineAt_99 rfl (by decide) rfl ?_
          refine S_iinc C 3 [(3, .int (x3 + 1)), (2, .int 1), (0, .ref (aC z 0)), (1, .int x1)] (x3 + 1) dX11_lineAt_100 rfl rfl (by decide) rfl ?_
          refine S_goto C 51 dX11_lineAt_103 (by decide) ?_
          exact S_sub [2, 3, 1, 0] rfl (ih x1 (1 : Int32) (x3 + 1))
set_option maxRecDepth 10000 in
theorem WT_X11_lineAt_L2 {x : MX} {z : ZT} (C : Cok x (wxM z) RX11 cX11_lineAt 4 (some .int) 1 21) (σ : St) : ∀ (n : Nat) (x1 : Int32), Sim x (wxM z) 4 (jI σ) (X11_lineAt_L2 σ n x1) 2 [(0, .ref (aC z 0)), (1, .int x1)] [] σ := by
  intro n
  induction n with
  | zero =>
    intros
    exact S_none
  | succ n ih =>
    intro x1
    rw [X11_lineAt_L2]
    refine S_iload_n C 1 dX11_lineAt_2 rfl ?_
    refine S_bipush C (8) dX11_lineAt_3 (by decide) ?_
    refine S_icmp_ge C 118 dX11_lineAt_5 (by decide) ?_ ?_
    · refine S_bipush C (-4) dX11_lineAt_118 (by decide) ?_
      exact S_iret C rfl dX11_lineAt_120
    · refine S_aload_n C 0 dX11_lineAt_8 rfl ?_
      refine G_X11_token C fl_X11_194 dX11_lineAt_9 ?_
      refine S_iconst C (1) dX11_lineAt_12 (by decide) ?_
      refine S_icmp_ne C 47 dX11_lineAt_13 (by decide) ?_ ?_
      · refine S_iconst C (0) dX11_lineAt_47 (by decide) ?_
        refine S_istore_n C [(2, .int 0), (0, .ref (aC z 0)), (1, .int x1)] (i := 2) dX11_lineAt_48 rfl (by decide) rfl ?_
        refine S_iconst C (0) dX11_lineAt_49 (by decide) ?_
        refine S_istore_n C [(3, .int 0), (2, .int 0), (0, .ref (aC z 0)), (1, .int x1)] (i := 3) dX11_lineAt_50 rfl (by decide) rfl ?_
        exact S_sub [2, 3, 1, 0] rfl (WT_X11_lineAt_L51 C σ _ ih FU x1 (0 : Int32) (0 : Int32))
      · refine S_aload_n C 0 dX11_lineAt_16 rfl ?_
        refine G_X11_at C fl_X11_184 dX11_lineAt_17 ?_
        refine S_aload_n C 0 dX11_lineAt_20 rfl ?_
        refine G_X11_place C fl_X11_178 dX11_lineAt_21 ?_
        refine S_isub C dX11_lineAt_24 ?_
        refine S_aload_n C 0 dX11_lineAt_25 rfl ?_
        refine G_X11_ends C fl_X11_22 dX11_lineAt_26 ?_
        refine S_iload_n C 1 dX11_lineAt_29 rfl ?_
        refine S_iconst C (1) dX11_lineAt_30 (by decide) ?_
        refine S_iadd C dX11_lineAt_31 ?_
        refine L_X11_ends C dX11_lineAt_32 (fun _ => ?_)
        refine S_aload_n C 0 dX11_lineAt_33 rfl ?_
        refine G_X11_ends C fl_X11_22 dX11_lineAt_34 ?_
        refine S_iload_n C 1 dX11_lineAt_37 rfl ?_
        refine L_X11_ends C dX11_lineAt_38 (fun _ => ?_)
        refine S_isub C dX11_lineAt_39 ?_
        refine S_icmp_ne C 47 dX11_lineAt_40 (by decide) ?_ ?_
        · refine S_iconst C (0) dX11_lineAt_47 (by decide) ?_
          refine S_istore_n C [(2, .int 0), (0, .ref (aC z 0)), (1, .int x1)] (i := 2) dX11_lineAt_48 rfl (by decide) rfl ?_
          refine S_iconst C (0) dX11_lineAt_49 (by decide) ?_
          refine S_istore_n C [(3, .int 0), (2, .int 0), (0, .ref (aC z 0)), (1, .int x1)] (i := 3) dX11_lineAt_50 rfl (by decide) rfl ?_
          exact S_sub [2, 3, 1, 0] rfl (WT_X11_lineAt_L51 C σ _ ih FU x1 (0 : Int32) (0 : Int32))
        · refine S_iconst C (1) dX11_lineAt_43 (by decide) ?_
          refine S_goto C 48 dX11_lineAt_44 (by decide) ?_
          refine S_istore_n C [(2, .int 1), (0, .ref (aC z 0)), (1, .int x1)] (i := 2) dX11_lineAt_48 rfl (by decide) rfl ?_
          refine S_iconst C (0) dX11_lineAt_49 (by decide) ?_
          refine S_istore_n C [(3, .int 0), (2, .int 1), (0, .ref (aC z 0)), (1, .int x1)] (i := 3) dX11_lineAt_50 rfl (by decide) rfl ?_
          exact S_sub [2, 3, 1, 0] rfl (WT_X11_lineAt_L51 C σ _ ih FU x1 (1 : Int32) (0 : Int32))
set_option maxRecDepth 10000 in
theorem WT_X11_lineAt {x : MX} {z : ZT} (C : Cok x (wxM z) RX11 cX11_lineAt 4 (some .int) 1 21)  (σ : St) : Sim x (wxM z) 4 (jI σ) (X11_lineAt σ) 0 [(0, .ref (aC z 0))] [] σ := by
  rw [X11_lineAt]
  refine S_iconst C (0) dX11_lineAt_0 (by decide) ?_
  refine S_istore_n C [(1, .int 0), (0, .ref (aC z 0))] (i := 1) dX11_lineAt_1 rfl (by decide) rfl ?_
  exact S_sub [1, 0] rfl (WT_X11_lineAt_L2 C σ FU (0 : Int32))
set_option maxRecDepth 10000 in
theorem con_X11_lineAt (z : ZT) (l : Launch)  (σ : St) : ∀ ro, X11_lineAt σ = some ro → Con (wxM z) l yX11_lineAt cX11_lineAt 4 (some .int) 1 21 [.ref (aC z 0)] σ ((jI σ) ro) :=
  fun ro hk => Con_of hk (by decide) (Nat.le_of_ble_eq_true rfl) (fun x hx C => WT_X11_lineAt C σ)
set_option maxRecDepth 10000 in
theorem K_X11_lineAt {x : MX} {z : ZT} {own : String} {cc : ByteArray} {nL : Nat} {ret : Option FieldType} {fr lo : Nat} {ρ : Type} {inj : ρ → Option Value × St} {pc : Nat} {lv : List (Nat × Value)} {st : List Value} {σ : St} (C : Cok x (wxM z) own cc nL ret fr lo)  {index : Nat} (hl : Cond.methodLink own index yX11_lineAt ∈ gtb) (hR : 1 + 1 ≤ fr ∧ 8 + (4 + 11) + 21 ≤ lo) (hW : (st.map fun v => v.category).sum ≤ 8) (hd : decode cc pc = .ok (.invokevirtual index, 3)) {K : Int32 → Option ρ} (h : ∀ v, Sim x (wxM z) nL inj (K v) (pc + 3) lv (.int v :: st) σ) : Sim x (wxM z) nL inj ((X11_lineAt σ).bind K) pc lv (.ref (aC z 0) :: st) σ :=
  S_callV C (As := []) (q := 0) (inj1 := (jI σ)) mw_X11_lineAt mv_X11_lineAt hl (fun ro hro => con_X11_lineAt z (mL x) σ ro hro) hR rfl (show 0 < 48 by decide) rfl (ce_X11 z σ) rfl rfl hW hd h
set_option maxRecDepth 10000 in
theorem WT_X11_wantName {x : MX} {z : ZT} (C : Cok x (wxM z) RX11 cX11_wantName 2 none 1 21) (x1 : Int32) (σ : St) : Sim x (wxM z) 2 jV (X11_wantName x1 σ) 0 [(0, .ref (aC z 0)), (1, .int x1)] [] σ := by
  rw [X11_wantName]
  refine S_aload_n C 0 dX11_wantName_0 rfl ?_
  refine G_X11_wrong C fl_X11_175 dX11_wantName_1 ?_
  refine S_if_ne C 33 dX11_wantName_4 (by decide) ?_ ?_
  · exact S_vret C rfl dX11_wantName_33
  · refine S_aload_n C 0 dX11_wantName_7 rfl ?_
    refine G_X11_token C fl_X11_194 dX11_wantName_8 ?_
    refine S_iconst C (1) dX11_wantName_11 (by decide) ?_
    refine S_icmp_ne C 28 dX11_wantName_12 (by decide) ?_ ?_
    · refine S_aload_n C 0 dX11_wantName_28 rfl ?_
      refine S_iconst C (2) dX11_wantName_29 (by decide) ?_
      refine K_X11_fails C ml_X11_205 (by decide) (Nat.le_of_ble_eq_true rfl) dX11_wantName_30 (fun σ1 => ?_)
      exact S_vret C rfl dX11_wantName_33
    · refine S_aload_n C 0 dX11_wantName_15 rfl ?_
      refine G_X11_at C fl_X11_184 dX11_wantName_16 ?_
      refine S_aload_n C 0 dX11_wantName_19 rfl ?_
      refine G_X11_place C fl_X11_178 dX11_wantName_20 ?_
      refine S_isub C dX11_wantName_23 ?_
      refine S_iload_n C 1 dX11_wantName_24 rfl ?_
      refine S_icmp_le C 33 dX11_wantName_25 (by decide) ?_ ?_
      · exact S_vret C rfl dX11_wantName_33
      · refine S_aload_n C 0 dX11_wantName_28 rfl ?_
        refine S_iconst C (2) dX11_wantName_29 (by decide) ?_
        refine K_X11_fails C ml_X11_205 (by decide) (Nat.le_of_ble_eq_true rfl) dX11_wantName_30 (fun σ2 => ?_)
        exact S_vret C rfl dX11_wantName_33
set_option maxRecDepth 10000 in
theorem con_X11_wantName (z : ZT) (l : Launch) (x1 : Int32) (σ : St) : ∀ ro, X11_wantName x1 σ = some ro → Con (wxM z) l yX11_wantName cX11_wantName 2 none 1 21 [.ref (aC z 0), .int x1] σ (jV ro) :=
  fun ro hk => Con_of hk (by decide) (Nat.le_of_ble_eq_true rfl) (fun x hx C => WT_X11_wantName C x1 σ)
set_option maxRecDepth 10000 in
theorem K_X11_wantName {x : MX} {z : ZT} {own : String} {cc : ByteArray} {nL : Nat} {ret : Option FieldType} {fr lo : Nat} {ρ : Type} {inj : ρ → Option Value × St} {pc : Nat} {lv : List (Nat × Value)} {st : List Value} {σ : St} (C : Cok x (wxM z) own cc nL ret fr lo) {x1 : Int32} {index : Nat} (hl : Cond.methodLink own index yX11_wantName ∈ gtb) (hR : 1 + 1 ≤ fr ∧ 8 + (2 + 11) + 21 ≤ lo) (hW : (st.map fun v => v.category).sum ≤ 8) (hd : decode cc pc = .ok (.invokevirtual index, 3)) {K : St → Option ρ} (h : ∀ v, Sim x (wxM z) nL inj (K v) (pc + 3) lv (st) v) : Sim x (wxM z) nL inj ((X11_wantName x1 σ).bind K) pc lv (.int x1 :: .ref (aC z 0) :: st) σ :=
  S_callV C (As := [.int x1]) (q := 0) (inj1 := jV) mw_X11_wantName mv_X11_wantName hl (fun ro hro => con_X11_wantName z (mL x) x1 σ ro hro) hR rfl (show 0 < 48 by decide) rfl (ce_X11 z σ) rfl rfl hW hd h
set_option maxRecDepth 10000 in
theorem WT_X11_letter {x : MX} {z : ZT} (C : Cok x (wxM z) RX11 cX11_letter 2 (some .int) 1 21) (x1 : Int32) (σ : St) : Sim x (wxM z) 2 (jI σ) (X11_letter x1 σ) 0 [(0, .ref (aC z 0)), (1, .int x1)] [] σ := by
  rw [X11_letter]
  refine S_aload_n C 0 dX11_letter_0 rfl ?_
  refine G_X11_place C fl_X11_178 dX11_letter_1 ?_
  refine S_iload_n C 1 dX11_letter_4 rfl ?_
  refine S_iadd C dX11_letter_5 ?_
  refine S_aload_n C 0 dX11_letter_6 rfl ?_
  refine G_X11_at C fl_X11_184 dX11_letter_7 ?_
  refine S_icmp_ge C 31 dX11_letter_10 (by decide) ?_ ?_
  · refine S_iconst C (0) dX11_letter_31 (by decide) ?_
    exact S_iret C rfl dX11_letter_32
  · refine S_aload_n C 0 dX11_letter_13 rfl ?_
    refine S_aload_n C 0 dX11_letter_14 rfl ?_
    refine G_X11_place C fl_X11_178 dX11_letter_15 ?_
    refine S_iload_n C 1 dX11_letter_18 rfl ?_
    refine S_iadd C dX11_letter_19 ?_
    refine K_X11_byteAt C ml_X11_187 (by decide) (Nat.le_of_ble_eq_true rfl) dX11_letter_20 (fun v1 => ?_)
    refine S_bipush C (97) dX11_letter_23 (by decide) ?_
    refine S_isub C dX11_letter_25 ?_
    refine S_iconst C (1) dX11_letter_26 (by decide) ?_
    refine S_iadd C dX11_letter_27 ?_
    refine S_goto C 32 dX11_letter_28 (by decide) ?_
    exact S_iret C rfl dX11_letter_32
set_option maxRecDepth 10000 in
theorem con_X11_letter (z : ZT) (l : Launch) (x1 : Int32) (σ : St) : ∀ ro, X11_letter x1 σ = some ro → Con (wxM z) l yX11_letter cX11_letter 2 (some .int) 1 21 [.ref (aC z 0), .int x1] σ ((jI σ) ro) :=
  fun ro hk => Con_of hk (by decide) (Nat.le_of_ble_eq_true rfl) (fun x hx C => WT_X11_letter C x1 σ)
set_option maxRecDepth 10000 in
theorem K_X11_letter {x : MX} {z : ZT} {own : String} {cc : ByteArray} {nL : Nat} {ret : Option FieldType} {fr lo : Nat} {ρ : Type} {inj : ρ → Option Value × St} {pc : Nat} {lv : List (Nat × Value)} {st : List Value} {σ : St} (C : Cok x (wxM z) own cc nL ret fr lo) {x1 : Int32} {index : Nat} (hl : Cond.methodLink own index yX11_letter ∈ gtb) (hR : 1 + 1 ≤ fr ∧ 8 + (2 + 11) + 21 ≤ lo) (hW : (st.map fun v => v.category).sum ≤ 8) (hd : decode cc pc = .ok (.invokevirtual index, 3)) {K : Int32 → Option ρ} (h : ∀ v, Sim x (wxM z) nL inj (K v) (pc + 3) lv (.int v :: st) σ) : Sim x (wxM z) nL inj ((X11_letter x1 σ).bind K) pc lv (.int x1 :: .ref (aC z 0) :: st) σ :=
  S_callV C (As := [.int x1]) (q := 0) (inj1 := (jI σ)) mw_X11_letter mv_X11_letter hl (fun ro hro => con_X11_letter z (mL x) x1 σ ro hro) hR rfl (show 0 < 48 by decide) rfl (ce_X11 z σ) rfl rfl hW hd h
set_option maxRecDepth 10000 in
theorem WT_X11_number_B20 {x : MX} {z : ZT} (C : Cok x (wxM z) RX11 cX11_number 3 (some .int) 1 25) (x1 : Int32) (x2 : Int32) (σ : St) : Sim x (wxM z) 3 jIS (X11_number_B20 x1 x2 σ) 20 [(0, .ref (aC z 0)), (1, .int x1), (2, .int x2)] [] σ := by
  rw [X11_number_B20]
  refine S_aload_n C 0 dX11_number_20 rfl ?_
  refine G_X11_wrong C fl_X11_175 dX11_number_21 ?_
  refine S_if_ne C 47 dX11_number_24 (by decide) ?_ ?_
  · refine S_aload_n C 0 dX11_number_47 rfl ?_
    refine G_X11_value C fl_X11_191 dX11_number_48 ?_
    exact S_iret C rfl dX11_number_51
  · refine S_aload_n C 0 dX11_number_27 rfl ?_
    refine G_X11_value C fl_X11_191 dX11_number_28 ?_
    refine S_i2l C dX11_number_31 ?_
    refine S_iload_n C 1 dX11_number_32 rfl ?_
    refine S_i2l C dX11_number_33 ?_
    refine S_iload_n C 2 dX11_number_34 rfl ?_
    refine S_i2l C dX11_number_35 ?_
    refine K_X11_in C ml_X11_156 (by decide) (Nat.le_of_ble_eq_true rfl) dX11_number_36 (fun v1 => ?_)
    refine S_if_ne C 47 dX11_number_39 (by decide) ?_ ?_
    · refine S_aload_n C 0 dX11_number_47 rfl ?_
      refine G_X11_value C fl_X11_191 dX11_number_48 ?_
      exact S_iret C rfl dX11_number_51
    · refine S_aload_n C 0 dX11_number_42 rfl ?_
      refine S_iconst C (3) dX11_number_43 (by decide) ?_
      refine K_X11_fails C ml_X11_205 (by decide) (Nat.le_of_ble_eq_true rfl) dX11_number_44 (fun σ2 => ?_)
      refine S_aload_n C 0 dX11_number_47 rfl ?_
      refine G_X11_value C fl_X11_191 dX11_number_48 ?_
      exact S_iret C rfl dX11_number_51
set_option maxRecDepth 10000 in
theorem WT_X11_number {x : MX} {z : ZT} (C : Cok x (wxM z) RX11 cX11_number 3 (some .int) 1 25) (x1 : Int32) (x2 : Int32) (σ : St) : Sim x (wxM z) 3 jIS (X11_number x1 x2 σ) 0 [(0, .ref (aC z 0)), (1, .int x1), (2, .int x2)] [] σ := by
  rw [X11_number]
  refine S_aload_n C 0 dX11_number_0 rfl ?_
  refine G_X11_wrong C fl_X11_175 dX11_number_1 ?_
  refine S_if_ne C 20 dX11_number_4 (by decide) ?_ ?_
  · exact S_sub [0, 1, 2] rfl (WT_X11_number_B20 C x1 x2 σ)
  · refine S_aload_n C 0 dX11_number_7 rfl ?_
    refine G_X11_token C fl_X11_194 dX11_number_8 ?_
    refine S_iconst C (2) dX11_number_11 (by decide) ?_
    refine S_icmp_eq C 20 dX11_number_12 (by decide) ?_ ?_
    · exact S_sub [0, 1, 2] rfl (WT_X11_number_B20 C x1 x2 σ)
    · refine S_aload_n C 0 dX11_number_15 rfl ?_
      refine S_iconst C (2) dX11_number_16 (by decide) ?_
      refine K_X11_fails C ml_X11_205 (by decide) (Nat.le_of_ble_eq_true rfl) dX11_number_17 (fun σ3 => ?_)
      exact S_sub [0, 1, 2] rfl (WT_X11_number_B20 C x1 x2 σ3)
set_option maxRecDepth 10000 in
theorem con_X11_number (z : ZT) (l : Launch) (x1 : Int32) (x2 : Int32) (σ : St) : ∀ ro, X11_number x1 x2 σ = some ro → Con (wxM z) l yX11_number cX11_number 3 (some .int) 1 25 [.ref (aC z 0), .int x1, .int x2] σ (jIS ro) :=
  fun ro hk => Con_of hk (by decide) (Nat.le_of_ble_eq_true rfl) (fun x hx C => WT_X11_number C x1 x2 σ)
set_option maxRecDepth 10000 in
theorem K_X11_number {x : MX} {z : ZT} {own : String} {cc : ByteArray} {nL : Nat} {ret : Option FieldType} {fr lo : Nat} {ρ : Type} {inj : ρ → Option Value × St} {pc : Nat} {lv : List (Nat × Value)} {st : List Value} {σ : St} (C : Cok x (wxM z) own cc nL ret fr lo) {x1 : Int32} {x2 : Int32} {index : Nat} (hl : Cond.methodLink own index yX11_number ∈ gtb) (hR : 1 + 1 ≤ fr ∧ 8 + (3 + 11) + 25 ≤ lo) (hW : (st.map fun v => v.category).sum ≤ 8) (hd : decode cc pc = .ok (.invokevirtual index, 3)) {K : (Int32 × St) → Option ρ} (h : ∀ v, Sim x (wxM z) nL inj (K v) (pc + 3) lv (.int v.1 :: st) v.2) : Sim x (wxM z) nL inj ((X11_number x1 x2 σ).bind K) pc lv (.int x2 :: .int x1 :: .ref (aC z 0) :: st) σ :=
  S_callV C (As := [.int x1, .int x2]) (q := 0) (inj1 := jIS) mw_X11_number mv_X11_number hl (fun ro hro => con_X11_number z (mL x) x1 x2 σ ro hro) hR rfl (show 0 < 48 by decide) rfl (ce_X11 z σ) rfl rfl hW hd h
set_option maxRecDepth 10000 in
theorem WT_X11_readSay_B222 {x : MX} {z : ZT} (C : Cok x (wxM z) RX11 cX11_readSay 3 none 2 46) (σ : St) : Sim x (wxM z) 3 jV (X11_readSay_B222 σ) 222 [(0, .ref (aC z 0))] [] σ := by
  rw [X11_readSay_B222]
  refine S_aload_n C 0 dX11_readSay_222 rfl ?_
  refine K_X11_next C ml_X11_212 (by decide) (Nat.le_of_ble_eq_true rfl) dX11_readSay_223 (fun σ8 => ?_)
  refine S_aload_n C 0 dX11_readSay_226 rfl ?_
  refine S_dup C dX11_readSay_227 rfl ?_
  refine G_X11_newSays C fl_X11_209 dX11_readSay_228 ?_
  refine S_iconst C (1) dX11_readSay_231 (by decide) ?_
  refine S_iadd C dX11_readSay_232 ?_
  refine P_X11_newSays C fl_X11_209 dX11_readSay_233 ?_
  refine S_bndS (fun σ9 _ => ?_)
  exact S_vret C rfl dX11_readSay_236
set_option maxRecDepth 10000 in
theorem WT_X11_readSay_L113 {x : MX} {z : ZT} (C : Cok x (wxM z) RX11 cX11_readSay 3 none 2 46) : ∀ (n : Nat) (x1 : Int32) (x2 : Int32) (σ : St), Sim x (wxM z) 3 jV (X11_readSay_L113 n x1 x2 σ) 113 [(0, .ref (aC z 0)), (1, .int x1), (2, .int x2)] [] σ := by
  intro n
  induction n with
  | zero =>
    intros
    exact S_none
  | succ n ih =>
    intro x1 x2 σ
    rw [X11_readSay_L113]
    refine S_iload_n C 2 dX11_readSay_113 rfl ?_
    refine S_iconst C (3) dX11_readSay_114 (by decide) ?_
    refine S_icmp_ge C 142 dX11_readSay_115 (by decide) ?_ ?_
    · refine S_aload_n C 0 dX11_readSay_142 rfl ?_
      refine G_X11_newSaySounds C fl_X11_52 dX11_readSay_143 ?_
      refine S_iconst C (2) dX11_readSay_146 (by decide) ?_
      refine S_aload_n C 0 dX11_readSay_147 rfl ?_
      refine G_X11_newSays C fl_X11_209 dX11_readSay_148 ?_
      refine S_imul C dX11_readSay_151 ?_
      refine S_iconst C (0) dX11_readSay_152 (by decide) ?_
      refine T_X11_newSaySounds C dX11_readSay_153 (fun _ => ?_)
      refine S_bndS (fun σ3 _ => ?_)
      refine S_aload_n C 0 dX11_readSay_154 rfl ?_
      refine G_X11_newSaySounds C fl_X11_52 dX11_readSay_155 ?_
      refine S_iconst C (2) dX11_readSay_158 (by decide) ?_
      refine S_aload_n C 0 dX11_readSay_159 rfl ?_
      refine G_X11_newSays C fl_X11_209 dX11_readSay_160 ?_
      refine S_imul C dX11_readSay_163 ?_
      refine S_iconst C (1) dX11_readSay_164 (by decide) ?_
      refine S_iadd C dX11_readSay_165 ?_
      refine S_iconst C (0) dX11_readSay_166 (by decide) ?_
      refine T_X11_newSaySounds C dX11_readSay_167 (fun _ => ?_)
      refine S_bndS (fun σ4 _ => ?_)
      refine S_aload_n C 0 dX11_readSay_168 rfl ?_
      refine K_X11_next C ml_X11_212 (by decide) (Nat.le_of_ble_eq_true rfl) dX11_readSay_169 (fun σ5 => ?_)
      refine S_iload_n C 1 dX11_readSay_172 rfl ?_
      refine S_if_ne C 226 dX11_readSay_173 (by decide) ?_ ?_
      · refine S_aload_n C 0 dX11_readSay_226 rfl ?_
        refine S_dup C dX11_readSay_227 rfl ?_
        refine G_X11_newSays C fl_X11_209 dX11_readSay_228 ?_
        refine S_iconst C (1) dX11_readSay_231 (by decide) ?_
        refine S_iadd C dX11_readSay_232 ?_
        refine P_X11_newSays C fl_X11_209 dX11_readSay_233 ?_
        refine S_bndS (fun σ6 _ => ?_)
        exact S_vret C rfl dX11_readSay_236
      · refine S_aload_n C 0 dX11_readSay_176 rfl ?_
        refine S_iconst C (2) dX11_readSay_177 (by decide) ?_
        refine K_X11_wantName C ml_X11_215 (by decide) (Nat.le_of_ble_eq_true rfl) dX11_readSay_178 (fun σ7 => ?_)
        refine S_aload_n C 0 dX11_readSay_181 rfl ?_
        refine G_X11_wrong C fl_X11_175 dX11_readSay_182 ?_
        refine S_if_ne C 222 dX11_readSay_185 (by decide) ?_ ?_
        · exact S_sub [0] rfl (WT_X11_readSay_B222 C σ7)
        · refine S_aload_n C 0 dX11_readSay_188 rfl ?_
          refine G_X11_newSaySounds C fl_X11_52 dX11_readSay_189 ?_
          refine S_iconst C (2) dX11_readSay_192 (by decide) ?_
          refine S_aload_n C 0 dX11_readSay_193 rfl ?_
          refine G_X11_newSays C fl_X11_209 dX11_readSay_194 ?_
          refine S_imul C dX11_readSay_197 ?_
          refine S_aload_n C 0 dX11_readSay_198 rfl ?_
          refine S_iconst C (0) dX11_readSay_199 (by decide) ?_
          refine K_X11_letter C ml_X11_218 (by decide) (Nat.le_of_ble_eq_true rfl) dX11_readSay_200 (fun v10 => ?_)
          refine T_X11_newSaySounds C dX11_readSay_203 (fun _ => ?_)
          refine S_bndS (fun σ11 _ => ?_)
          refine S_aload_n C 0 dX11_readSay_204 rfl ?_
          refine G_X11_newSaySounds C fl_X11_52 dX11_readSay_205 ?_
          refine S_iconst C (2) dX11_readSay_208 (by decide) ?_
          refine S_aload_n C 0 dX11_readSay_209 rfl ?_
          refine G_X11_newSays C fl_X11_209 dX11_readSay_210 ?_
          refine S_imul C dX11_readSay_213 ?_
          refine S_iconst C (1) dX11_readSay_214 (by decide) ?_
          refine S_iadd C dX11_readSay_215 ?_
          refine S_aload_n C 0 dX11_readSay_216 rfl ?_
          refine S_iconst C (1) dX11_readSay_217 (by decide) ?_
          refine K_X11_letter C ml_X11_218 (by decide) (Nat.le_of_ble_eq_true rfl) dX11_readSay_218 (fun v12 => ?_)
          refine T_X11_newSaySounds C dX11_readSay_221 (fun _ => ?_)
          refine S_bndS (fun σ13 _ => ?_)
          exact S_sub [0] rfl (WT_X11_readSay_B222 C σ13)
    · refine S_aload_n C 0 dX11_readSay_118 rfl ?_
      refine G_X11_newSayLetters C fl_X11_49 dX11_readSay_119 ?_
      refine S_iconst C (3) dX11_readSay_122 (by decide) ?_
      refine S_aload_n C 0 dX11_readSay_123 rfl ?_
      refine G_X11_newSays C fl_X11_209 dX11_readSay_124 ?_
      refine S_imul C dX11_readSay_127 ?_
      refine S_iload_n C 2 dX11_readSay_128 rfl ?_
      refine S_iadd C dX11_readSay_129 ?_
      refine S_aload_n C 0 dX11_readSay_130 rfl ?_
      refine S_iload_n C 2 dX11_readSay_131 rfl ?_
      refine K_X11_letter C ml_X11_218 (by decide) (Nat.le_of_ble_eq_true rfl) dX11_readSay_132 (fun v14 => ?_)
      refine T_X11_newSayLetters C dX11_readSay_135 (fun _ => ?_)
      refine S_bndS (fun σ15 _ => ?_)
      refine S_iinc C 2 [(2, .int (x2 + 1)), (0, .ref (aC z 0)), (1, .int x1)] (x2 + 1) dX11_readSay_136 rfl rfl (by decide) rfl ?_
      refine S_goto C 113 dX11_readSay_139 (by decide) ?_
      exact S_sub [1, 2, 0] rfl (ih x1 (x2 + 1) σ15)
set_option maxRecDepth 10000 in
theorem WT_X11_readSay_L25 {x : MX} {z : ZT} (C : Cok x (wxM z) RX11 cX11_readSay 3 none 2 46) : ∀ (n : Nat) (x1 : Int32) (x2 : Int32) (σ : St), Sim x (wxM z) 3 jV (X11_readSay_L25 n x1 x2 σ) 25 [(0, .ref (aC z 0)), (1, .int x1), (2, .int x2)] [] σ := by
  intro n
  induction n with
  | zero =>
    intros
    exact S_none
  | succ n ih =>
    intro x1 x2 σ
    rw [X11_readSay_L25]
    refine S_iload_n C 2 dX11_readSay_25 rfl ?_
    refine S_aload_n C 0 dX11_readSay_26 rfl ?_
    refine G_X11_newSays C fl_X11_209 dX11_readSay_27 ?_
    refine S_icmp_ge C 103 dX11_readSay_30 (by decide) ?_ ?_
    · refine S_aload_n C 0 dX11_readSay_103 rfl ?_
      refine G_X11_wrong C fl_X11_175 dX11_readSay_104 ?_
      refine S_if_le C 111 dX11_readSay_107 (by decide) ?_ ?_
      · refine S_iconst C (0) dX11_readSay_111 (by decide) ?_
        refine S_istore_n C [(2, .int 0), (0, .ref (aC z 0)), (1, .int x1)] (i := 2) dX11_readSay_112 rfl (by decide) rfl ?_
        exact S_sub [1, 2, 0] rfl (WT_X11_readSay_L113 C FU x1 (0 : Int32) σ)
      · exact S_vret C rfl dX11_readSay_110
    · refine S_aload_n C 0 dX11_readSay_33 rfl ?_
      refine G_X11_wrong C fl_X11_175 dX11_readSay_34 ?_
      refine S_if_ne C 103 dX11_readSay_37 (by decide) ?_ ?_
      · refine S_aload_n C 0 dX11_readSay_103 rfl ?_
        refine G_X11_wrong C fl_X11_175 dX11_readSay_104 ?_
        refine S_if_le C 111 dX11_readSay_107 (by decide) ?_ ?_
        · refine S_iconst C (0) dX11_readSay_111 (by decide) ?_
          refine S_istore_n C [(2, .int 0), (0, .ref (aC z 0)), (1, .int x1)] (i := 2) dX11_readSay_112 rfl (by decide) rfl ?_
          exact S_sub [1, 2, 0] rfl (WT_X11_readSay_L113 C FU x1 (0 : Int32) σ)
        · exact S_vret C rfl dX11_readSay_110
      · refine S_aload_n C 0 dX11_readSay_40 rfl ?_
        refine G_X11_newSayLetters C fl_X11_49 dX11_readSay_41 ?_
        refine S_iconst C (3) dX11_readSay_44 (by decide) ?_
        refine S_iload_n C 2 dX11_readSay_45 rfl ?_
        refine S_imul C dX11_readSay_46 ?_
        refine L_X11_newSayLetters C dX11_readSay_47 (fun _ => ?_)
        refine S_aload_n C 0 dX11_readSay_48 rfl ?_
        refine S_iconst C (0) dX11_readSay_49 (by decide) ?_
        refine K_X11_letter C ml_X11_218 (by decide) (Nat.le_of_ble_eq_true rfl) dX11_readSay_50 (fun v16 => ?_)
        refine S_icmp_ne C 97 dX11_readSay_53 (by decide) ?_ ?_
        · refine S_iinc C 2 [(2, .int (x2 + 1)), (0, .ref (aC z 0)), (1, .int x1)] (x2 + 1) dX11_readSay_97 rfl rfl (by decide) rfl ?_
          refine S_goto C 25 dX11_readSay_100 (by decide) ?_
          exact S_sub [1, 2, 0] rfl (ih x1 (x2 + 1) σ)
        · refine S_aload_n C 0 dX11_readSay_56 rfl ?_
          refine G_X11_newSayLetters C fl_X11_49 dX11_readSay_57 ?_
          refine S_iconst C (3) dX11_readSay_60 (by decide) ?_
          refine S_iload_n C 2 dX11_readSay_61 rfl ?_
          refine S_imul C dX11_readSay_62 ?_
          refine S_iconst C (1) dX11_readSay_63 (by decide) ?_
          refine S_iadd C dX11_readSay_64 ?_
          refine L_X11_newSayLetters C dX11_readSay_65 (fun _ => ?_)
          refine S_aload_n C 0 dX11_readSay_66 rfl ?_
          refine S_iconst C (1) dX11_readSay_67 (by decide) ?_
          refine K_X11_letter C ml_X11_218 (by decide) (Nat.le_of_ble_eq_true rfl) dX11_readSay_68 (fun v17 => ?_)
          refine S_icmp_ne C 97 dX11_readSay_71 (by decide) ?_ ?_
          · refine S_iinc C 2 [(2, .int (x2 + 1)), (0, .ref (aC z 0)), (1, .int x1)] (x2 + 1) dX11_readSay_97 rfl rfl (by decide) rfl ?_
            refine S_goto C 25 dX11_readSay_100 (by decide) ?_
            exact S_sub [1, 2, 0] rfl (ih x1 (x2 + 1) σ)
          · refine S_aload_n C 0 dX11_readSay_74 rfl ?_
            refine G_X11_newSayLetters C fl_X11_49 dX11_readSay_75 ?_
            refine S_iconst C (3) dX11_readSay_78 (by decide) ?_
            refine S_iload_n C 2 dX11_readSay_79 rfl ?_
            refine S_imul C dX11_readSay_80 ?_
            refine S_iconst C (2) dX11_readSay_81 (by decide) ?_
            refine S_iadd C dX11_readSay_82 ?_
            refine L_X11_newSayLetters C dX11_readSay_83 (fun _ => ?_)
            refine S_aload_n C 0 dX11_readSay_84 rfl ?_
            refine S_iconst C (2) dX11_readSay_85 (by decide) ?_
            refine K_X11_letter C ml_X11_218 (by decide) (Nat.le_of_ble_eq_true rfl) dX11_readSay_86 (fun v18 => ?_)
            refine S_icmp_ne C 97 dX11_readSay_89 (by decide) ?_ ?_
            · refine S_iinc C 2 [(2, .int (x2 + 1)), (0, .ref (aC z 0)), (1, .int x1)] (x2 + 1) dX11_readSay_97 rfl rfl (by decide) rfl ?_
              refine S_goto C 25 dX11_readSay_100 (by decide) ?_
              exact S_sub [1, 2, 0] rfl (ih x1 (x2 + 1) σ)
            · refine S_aload_n C 0 dX11_readSay_92 rfl ?_
              refine S_iconst C (4) dX11_readSay_93 (by decide) ?_
              refine K_X11_fails C ml_X11_205 (by decide) (Nat.le_of_ble_eq_true rfl) dX11_readSay_94 (fun σ19 => ?_)
              refine S_iinc C 2 [(2, .int (x2 + 1)), (0, .ref (aC z 0)), (1, .int x1)] (x2 + 1) dX11_readSay_97 rfl rfl (by decide) rfl ?_
              refine S_goto C 25 dX11_readSay_100 (by decide) ?_
              exact S_sub [1, 2, 0] rfl (ih x1 (x2 + 1) σ19)
set_option maxRecDepth 10000 in
theorem WT_X11_readSay_B14 {x : MX} {z : ZT} (C : Cok x (wxM z) RX11 cX11_readSay 3 none 2 46) (x1 : Int32) (σ : St) : Sim x (wxM z) 3 jV (X11_readSay_B14 x1 σ) 14 [(0, .ref (aC z 0)), (1, .int x1)] [] σ := by
  rw [X11_readSay_B14]
  refine S_aload_n C 0 dX11_readSay_14 rfl ?_
  refine K_X11_next C ml_X11_212 (by decide) (Nat.le_of_ble_eq_true rfl) dX11_readSay_15 (fun σ1 => ?_)
  refine S_aload_n C 0 dX11_readSay_18 rfl ?_
  refine S_iconst C (3) dX11_readSay_19 (by decide) ?_
  refine K_X11_wantName C ml_X11_215 (by decide) (Nat.le_of_ble_eq_true rfl) dX11_readSay_20 (fun σ2 => ?_)
  refine S_iconst C (0) dX11_readSay_23 (by decide) ?_
  refine S_istore_n C [(2, .int 0), (0, .ref (aC z 0)), (1, .int x1)] (i := 2) dX11_readSay_24 rfl (by decide) rfl ?_
  exact S_sub [1, 2, 0] rfl (WT_X11_readSay_L25 C FU x1 (0 : Int32) σ2)
set_option maxRecDepth 10000 in
theorem WT_X11_readSay {x : MX} {z : ZT} (C : Cok x (wxM z) RX11 cX11_readSay 3 none 2 46) (x1 : Int32) (σ : St) : Sim x (wxM z) 3 jV (X11_readSay x1 σ) 0 [(0, .ref (aC z 0)), (1, .int x1)] [] σ := by
  rw [X11_readSay]
  refine S_aload_n C 0 dX11_readSay_0 rfl ?_
  refine G_X11_newSays C fl_X11_209 dX11_readSay_1 ?_
  refine S_bipush C (12) dX11_readSay_4 (by decide) ?_
  refine S_icmp_ne C 14 dX11_readSay_6 (by decide) ?_ ?_
  · exact S_sub [0, 1] rfl (WT_X11_readSay_B14 C x1 σ)
  · refine S_aload_n C 0 dX11_readSay_9 rfl ?_
    refine S_iconst C (5) dX11_readSay_10 (by decide) ?_
    refine K_X11_fails C ml_X11_205 (by decide) (Nat.le_of_ble_eq_true rfl) dX11_readSay_11 (fun σ20 => ?_)
    exact S_sub [0, 1] rfl (WT_X11_readSay_B14 C x1 σ20)
set_option maxRecDepth 10000 in
theorem con_X11_readSay (z : ZT) (l : Launch) (x1 : Int32) (σ : St) : ∀ ro, X11_readSay x1 σ = some ro → Con (wxM z) l yX11_readSay cX11_readSay 3 none 2 46 [.ref (aC z 0), .int x1] σ (jV ro) :=
  fun ro hk => Con_of hk (by decide) (Nat.le_of_ble_eq_true rfl) (fun x hx C => WT_X11_readSay C x1 σ)
set_option maxRecDepth 10000 in
theorem K_X11_readSay {x : MX} {z : ZT} {own : String} {cc : ByteArray} {nL : Nat} {ret : Option FieldType} {fr lo : Nat} {ρ : Type} {inj : ρ → Option Value × St} {pc : Nat} {lv : List (Nat × Value)} {st : List Value} {σ : St} (C : Cok x (wxM z) own cc nL ret fr lo) {x1 : Int32} {index : Nat} (hl : Cond.methodLink own index yX11_readSay ∈ gtb) (hR : 2 + 1 ≤ fr ∧ 8 + (3 + 11) + 46 ≤ lo) (hW : (st.map fun v => v.category).sum ≤ 8) (hd : decode cc pc = .ok (.invokevirtual index, 3)) {K : St → Option ρ} (h : ∀ v, Sim x (wxM z) nL inj (K v) (pc + 3) lv (st) v) : Sim x (wxM z) nL inj ((X11_readSay x1 σ).bind K) pc lv (.int x1 :: .ref (aC z 0) :: st) σ :=
  S_callV C (As := [.int x1]) (q := 0) (inj1 := jV) mw_X11_readSay mv_X11_readSay hl (fun ro hro => con_X11_readSay z (mL x) x1 σ ro hro) hR rfl (show 0 < 48 by decide) rfl (ce_X11 z σ) rfl rfl hW hd h
set_option maxRecDepth 10000 in
theorem WT_X11_readLike_B137 {x : MX} {z : ZT} (C : Cok x (wxM z) RX11 cX11_readLike 4 none 2 47) (x1 : Int32) (x2 : Int32) (σ : St) : Sim x (wxM z) 4 jV (X11_readLike_B137 x1 x2 σ) 137 [(0, .ref (aC z 0)), (1, .int x1), (2, .int x2)] [] σ := by
  rw [X11_readLike_B137]
  refine S_aload_n C 0 dX11_readLike_137 rfl ?_
  refine K_X11_next C ml_X11_212 (by decide) (Nat.le_of_ble_eq_true rfl) dX11_readLike_138 (fun σ5 => ?_)
  refine S_aload_n C 0 dX11_readLike_141 rfl ?_
  refine S_iconst C (0) dX11_readLike_142 (by decide) ?_
  refine S_bipush C (20) dX11_readLike_143 (by decide) ?_
  refine K_X11_number C ml_X11_224 (by decide) (Nat.le_of_ble_eq_true rfl) dX11_readLike_145 (fun r6 => ?_)
  refine S_istore_n C [(3, .int r6.1), (0, .ref (aC z 0)), (1, .int x1), (2, .int x2)] (i := 3) dX11_readLike_148 rfl (by decide) rfl ?_
  refine S_aload_n C 1 dX11_readLike_149 rfl ?_
  refine K_X11_next C ml_X11_212 (by decide) (Nat.le_of_ble_eq_true rfl) dX11_readLike_150 (fun σ7 => ?_)
  refine S_aload_n C 1 dX11_readLike_153 rfl ?_
  refine G_X11_wrong C fl_X11_175 dX11_readLike_154 ?_
  refine S_if_ne C 200 dX11_readLike_157 (by decide) ?_ ?_
  · exact S_vret C rfl dX11_readLike_200
  · refine S_aload_n C 1 dX11_readLike_160 rfl ?_
    refine G_X11_newLikeOne C fl_X11_55 dX11_readLike_161 ?_
    refine S_aload_n C 1 dX11_readLike_164 rfl ?_
    refine G_X11_newLikes C fl_X11_221 dX11_readLike_165 ?_
    refine S_iload_n C 2 dX11_readLike_168 rfl ?_
    refine T_X11_newLikeOne C dX11_readLike_169 (fun _ => ?_)
    refine S_bndS (fun σ8 _ => ?_)
    refine S_aload_n C 1 dX11_readLike_170 rfl ?_
    refine G_X11_newLikeTwo C fl_X11_58 dX11_readLike_171 ?_
    refine S_aload_n C 1 dX11_readLike_174 rfl ?_
    refine G_X11_newLikes C fl_X11_221 dX11_readLike_175 ?_
    refine S_iload_n C 3 dX11_readLike_178 rfl ?_
    refine T_X11_newLikeTwo C dX11_readLike_179 (fun _ => ?_)
    refine S_bndS (fun σ9 _ => ?_)
    refine S_aload_n C 1 dX11_readLike_180 rfl ?_
    refine G_X11_newLikeBy C fl_X11_61 dX11_readLike_181 ?_
    refine S_aload_n C 1 dX11_readLike_184 rfl ?_
    refine G_X11_newLikes C fl_X11_221 dX11_readLike_185 ?_
    refine S_iload_n C 0 dX11_readLike_188 rfl ?_
    refine T_X11_newLikeBy C dX11_readLike_189 (fun _ => ?_)
    refine S_bndS (fun σ10 _ => ?_)
    refine S_aload_n C 1 dX11_readLike_190 rfl ?_
    refine S_dup C dX11_readLike_191 rfl ?_
    refine G_X11_newLikes C fl_X11_221 dX11_readLike_192 ?_
    refine S_iconst C (1) dX11_readLike_195 (by decide) ?_
    refine S_iadd C dX11_readLike_196 ?_
    refine P_X11_newLikes C fl_X11_221 dX11_readLike_197 ?_
    refine S_bndS (fun σ11 _ => ?_)
    exact S_vret C rfl dX11_readLike_200
set_option maxRecDepth 10000 in
theorem WT_X11_readLike_B106 {x : MX} {z : ZT} (C : Cok x (wxM z) RX11 cX11_readLike 4 none 2 47) (kq71 : Int32 → Int32 → Int32 → St → Option St) (hk71 : ∀ (x1 : Int32) (x2 : Int32) (x3 : Int32) (σ : St), Sim x (wxM z) 4 jV (kq71 x1 x2 x3 σ) 71 [(0, .ref (aC z 0)), (1, .int x1), (2, .int x2), (3, .int x3)] [] σ) (x1 : Int32) (x2 : Int32) (x3 : Int32) (σ : St) : Sim x (wxM z) 4 jV (X11_readLike_B106 kq71 x1 x2 x3 σ) 106 [(0, .ref (aC z 0)), (1, .int x1), (2, .int x2), (3, .int x3)] [] σ := by
  rw [X11_readLike_B106]
  refine S_aload_n C 0 dX11_readLike_106 rfl ?_
  refine G_X11_newLikeOne C fl_X11_55 dX11_readLike_107 ?_
  refine S_iload_n C 3 dX11_readLike_110 rfl ?_
  refine L_X11_newLikeOne C dX11_readLike_111 (fun _ => ?_)
  refine S_iload_n C 2 dX11_readLike_112 rfl ?_
  refine S_icmp_ne C 131 dX11_readLike_113 (by decide) ?_ ?_
  · refine S_iinc C 3 [(3, .int (x3 + 1)), (0, .ref (aC z 0)), (1, .int x1), (2, .int x2)] (x3 + 1) dX11_readLike_131 rfl rfl (by decide) rfl ?_
    refine S_goto C 71 dX11_readLike_134 (by decide) ?_
    exact S_sub [1, 2, 3, 0] rfl (hk71 x1 x2 (x3 + 1) σ)
  · refine S_aload_n C 0 dX11_readLike_116 rfl ?_
    refine G_X11_newLikeTwo C fl_X11_58 dX11_readLike_117 ?_
    refine S_iload_n C 3 dX11_readLike_120 rfl ?_
    refine L_X11_newLikeTwo C dX11_readLike_121 (fun _ => ?_)
    refine S_iload_n C 1 dX11_readLike_122 rfl ?_
    refine S_icmp_ne C 131 dX11_readLike_123 (by decide) ?_ ?_
    · refine S_iinc C 3 [(3, .int (x3 + 1)), (0, .ref (aC z 0)), (1, .int x1), (2, .int x2)] (x3 + 1) dX11_readLike_131 rfl rfl (by decide) rfl ?_
      refine S_goto C 71 dX11_readLike_134 (by decide) ?_
      exact S_sub [1, 2, 3, 0] rfl (hk71 x1 x2 (x3 + 1) σ)
    · refine S_aload_n C 0 dX11_readLike_126 rfl ?_
      refine S_iconst C (4) dX11_readLike_127 (by decide) ?_
      refine K_X11_fails C ml_X11_205 (by decide) (Nat.le_of_ble_eq_true rfl) dX11_readLike_128 (fun σ12 => ?_)
      refine S_iinc C 3 [(3, .int (x3 + 1)), (0, .ref (aC z 0)), (1, .int x1), (2, .int x2)] (x3 + 1) dX11_readLike_131 rfl rfl (by decide) rfl ?_
      refine S_goto C 71 dX11_readLike_134 (by decide) ?_
      exact S_sub [1, 2, 3, 0] rfl (hk71 x1 x2 (x3 + 1) σ12)
set_option maxRecDepth 10000 in
theorem WT_X11_readLike_L71 {x : MX} {z : ZT} (C : Cok x (wxM z) RX11 cX11_readLike 4 none 2 47) : ∀ (n : Nat) (x1 : Int32) (x2 : Int32) (x3 : Int32) (σ : St), Sim x (wxM z) 4 jV (X11_readLike_L71 n x1 x2 x3 σ) 71 [(0, .ref (aC z 0)), (1, .int x1), (2, .int x2), (3, .int x3)] [] σ := by
  intro n
  induction n with
  | zero =>
    intros
    exact S_none
  | succ n ih =>
    intro x1 x2 x3 σ
    rw [X11_readLike_L71]
    refine S_iload_n C 3 dX11_readLike_71 rfl ?_
    refine S_aload_n C 0 dX11_readLike_72 rfl ?_
    refine G_X11_newLikes C fl_X11_221 dX11_readLike_73 ?_
    refine S_icmp_ge C 137 dX11_readLike_76 (by decide) ?_ ?_
    · exact S_sub [0, 1, 2] rfl (WT_X11_readLike_B137 C x1 x2 σ)
    · refine S_aload_n C 0 dX11_readLike_79 rfl ?_
      refine G_X11_wrong C fl_X11_175 dX11_readLike_80 ?_
      refine S_if_ne C 137 dX11_readLike_83 (by decide) ?_ ?_
      · exact S_sub [0, 1, 2] rfl (WT_X11_readLike_B137 C x1 x2 σ)
      · refine S_aload_n C 0 dX11_readLike_86 rfl ?_
        refine G_X11_newLikeOne C fl_X11_55 dX11_readLike_87 ?_
        refine S_iload_n C 3 dX11_readLike_90 rfl ?_
        refine L_X11_newLikeOne C dX11_readLike_91 (fun _ => ?_)
        refine S_iload_n C 1 dX11_readLike_92 rfl ?_
        refine S_icmp_ne C 106 dX11_readLike_93 (by decide) ?_ ?_
        · exact S_sub [0, 1, 2, 3] rfl (WT_X11_readLike_B106 C _ ih x1 x2 x3 σ)
        · refine S_aload_n C 0 dX11_readLike_96 rfl ?_
          refine G_X11_newLikeTwo C fl_X11_58 dX11_readLike_97 ?_
          refine S_iload_n C 3 dX11_readLike_100 rfl ?_
          refine L_X11_newLikeTwo C dX11_readLike_101 (fun _ => ?_)
          refine S_iload_n C 2 dX11_readLike_102 rfl ?_
          refine S_icmp_eq C 126 dX11_readLike_103 (by decide) ?_ ?_
          · refine S_aload_n C 0 dX11_readLike_126 rfl ?_
            refine S_iconst C (4) dX11_readLike_127 (by decide) ?_
            refine K_X11_fails C ml_X11_205 (by decide) (Nat.le_of_ble_eq_true rfl) dX11_readLike_128 (fun σ13 => ?_)
            refine S_iinc C 3 [(3, .int (x3 + 1)), (0, .ref (aC z 0)), (1, .int x1), (2, .int x2)] (x3 + 1) dX11_readLike_131 rfl rfl (by decide) rfl ?_
            refine S_goto C 71 dX11_readLike_134 (by decide) ?_
            exact S_sub [1, 2, 3, 0] rfl (ih x1 x2 (x3 + 1) σ13)
          · exact S_sub [0, 1, 2, 3] rfl (WT_X11_readLike_B106 C _ ih x1 x2 x3 σ)
set_option maxRecDepth 10000 in
theorem WT_X11_readLike_B51 {x : MX} {z : ZT} (C : Cok x (wxM z) RX11 cX11_readLike 4 none 2 47) (x1 : Int32) (s0 : Int32) (σ : St) : Sim x (wxM z) 4 jV (X11_readLike_B51 x1 s0 σ) 51 [(0, .ref (aC z 0)), (1, .int x1)] [.int s0] σ := by
  rw [X11_readLike_B51]
  refine S_istore_n C [(2, .int s0), (0, .ref (aC z 0)), (1, .int x1)] (i := 2) dX11_readLike_51 rfl (by decide) rfl ?_
  refine S_aload_n C 1 dX11_readLike_52 rfl ?_
  refine G_X11_wrong C fl_X11_175 dX11_readLike_53 ?_
  refine S_if_ne C 69 dX11_readLike_56 (by decide) ?_ ?_
  · refine S_iconst C (0) dX11_readLike_69 (by decide) ?_
    refine S_istore_n C [(3, .int 0), (2, .int s0), (0, .ref (aC z 0)), (1, .int x1)] (i := 3) dX11_readLike_70 rfl (by decide) rfl ?_
    exact S_sub [2, 3, 1, 0] rfl (WT_X11_readLike_L71 C FU x1 s0 (0 : Int32) σ)
  · refine S_iload_n C 2 dX11_readLike_59 rfl ?_
    refine S_iload_n C 0 dX11_readLike_60 rfl ?_
    refine S_icmp_ne C 69 dX11_readLike_61 (by decide) ?_ ?_
    · refine S_iconst C (0) dX11_readLike_69 (by decide) ?_
      refine S_istore_n C [(3, .int 0), (2, .int s0), (0, .ref (aC z 0)), (1, .int x1)] (i := 3) dX11_readLike_70 rfl (by decide) rfl ?_
      exact S_sub [2, 3, 1, 0] rfl (WT_X11_readLike_L71 C FU x1 s0 (0 : Int32) σ)
    · refine S_aload_n C 1 dX11_readLike_64 rfl ?_
      refine S_iconst C (3) dX11_readLike_65 (by decide) ?_
      refine K_X11_fails C ml_X11_205 (by decide) (Nat.le_of_ble_eq_true rfl) dX11_readLike_66 (fun σ14 => ?_)
      refine S_iconst C (0) dX11_readLike_69 (by decide) ?_
      refine S_istore_n C [(3, .int 0), (2, .int s0), (0, .ref (aC z 0)), (1, .int x1)] (i := 3) dX11_readLike_70 rfl (by decide) rfl ?_
      exact S_sub [2, 3, 1, 0] rfl (WT_X11_readLike_L71 C FU x1 s0 (0 : Int32) σ14)
set_option maxRecDepth 10000 in
theorem WT_X11_readLike_B25 {x : MX} {z : ZT} (C : Cok x (wxM z) RX11 cX11_readLike 4 none 2 47) (s0 : Int32) (σ : St) : Sim x (wxM z) 4 jV (X11_readLike_B25 s0 σ) 25 [(0, .ref (aC z 0))] [.int s0] σ := by
  rw [X11_readLike_B25]
  refine S_istore_n C [(1, .int s0), (0, .ref (aC z 0))] (i := 1) dX11_readLike_25 rfl (by decide) rfl ?_
  refine S_aload_n C 1 dX11_readLike_26 rfl ?_
  refine K_X11_next C ml_X11_212 (by decide) (Nat.le_of_ble_eq_true rfl) dX11_readLike_27 (fun σ3 => ?_)
  refine S_aload_n C 1 dX11_readLike_30 rfl ?_
  refine S_iconst C (1) dX11_readLike_31 (by decide) ?_
  refine K_X11_wantName C ml_X11_215 (by decide) (Nat.le_of_ble_eq_true rfl) dX11_readLike_32 (fun σ4 => ?_)
  refine S_aload_n C 1 dX11_readLike_35 rfl ?_
  refine G_X11_wrong C fl_X11_175 dX11_readLike_36 ?_
  refine S_if_ne C 50 dX11_readLike_39 (by decide) ?_ ?_
  · refine S_iconst C (0) dX11_readLike_50 (by decide) ?_
    exact S_sub [1, 0] rfl (WT_X11_readLike_B51 C s0 (0 : Int32) σ4)
  · refine S_aload_n C 1 dX11_readLike_42 rfl ?_
    refine S_iconst C (0) dX11_readLike_43 (by decide) ?_
    refine K_X11_letter C ml_X11_218 (by decide) (Nat.le_of_ble_eq_true rfl) dX11_readLike_44 (fun v15 => ?_)
    refine S_goto C 51 dX11_readLike_47 (by decide) ?_
    exact S_sub [1, 0] rfl (WT_X11_readLike_B51 C s0 v15 σ4)
set_option maxRecDepth 10000 in
theorem WT_X11_readLike {x : MX} {z : ZT} (C : Cok x (wxM z) RX11 cX11_readLike 4 none 2 47)  (σ : St) : Sim x (wxM z) 4 jV (X11_readLike σ) 0 [(0, .ref (aC z 0))] [] σ := by
  rw [X11_readLike]
  refine S_aload_n C 0 dX11_readLike_0 rfl ?_
  refine K_X11_next C ml_X11_212 (by decide) (Nat.le_of_ble_eq_true rfl) dX11_readLike_1 (fun σ1 => ?_)
  refine S_aload_n C 0 dX11_readLike_4 rfl ?_
  refine S_iconst C (1) dX11_readLike_5 (by decide) ?_
  refine K_X11_wantName C ml_X11_215 (by decide) (Nat.le_of_ble_eq_true rfl) dX11_readLike_6 (fun σ2 => ?_)
  refine S_aload_n C 0 dX11_readLike_9 rfl ?_
  refine G_X11_wrong C fl_X11_175 dX11_readLike_10 ?_
  refine S_if_ne C 24 dX11_readLike_13 (by decide) ?_ ?_
  · refine S_iconst C (0) dX11_readLike_24 (by decide) ?_
    exact S_sub [0] rfl (WT_X11_readLike_B25 C (0 : Int32) σ2)
  · refine S_aload_n C 0 dX11_readLike_16 rfl ?_
    refine S_iconst C (0) dX11_readLike_17 (by decide) ?_
    refine K_X11_letter C ml_X11_218 (by decide) (Nat.le_of_ble_eq_true rfl) dX11_readLike_18 (fun v16 => ?_)
    refine S_goto C 25 dX11_readLike_21 (by decide) ?_
    exact S_sub [0] rfl (WT_X11_readLike_B25 C v16 σ2)
set_option maxRecDepth 10000 in
theorem con_X11_readLike (z : ZT) (l : Launch)  (σ : St) : ∀ ro, X11_readLike σ = some ro → Con (wxM z) l yX11_readLike cX11_readLike 4 none 2 47 [.ref (aC z 0)] σ (jV ro) :=
  fun ro hk => Con_of hk (by decide) (Nat.le_of_ble_eq_true rfl) (fun x hx C => WT_X11_readLike C σ)
set_option maxRecDepth 10000 in
theorem K_X11_readLike {x : MX} {z : ZT} {own : String} {cc : ByteArray} {nL : Nat} {ret : Option FieldType} {fr lo : Nat} {ρ : Type} {inj : ρ → Option Value × St} {pc : Nat} {lv : List (Nat × Value)} {st : List Value} {σ : St} (C : Cok x (wxM z) own cc nL ret fr lo)  {index : Nat} (hl : Cond.methodLink own index yX11_readLike ∈ gtb) (hR : 2 + 1 ≤ fr ∧ 8 + (4 + 11) + 47 ≤ lo) (hW : (st.map fun v => v.category).sum ≤ 8) (hd : decode cc pc = .ok (.invokevirtual index, 3)) {K : St → Option ρ} (h : ∀ v, Sim x (wxM z) nL inj (K v) (pc + 3) lv (st) v) : Sim x (wxM z) nL inj ((X11_readLike σ).bind K) pc lv (.ref (aC z 0) :: st) σ :=
  S_callV C (As := []) (q := 0) (inj1 := jV) mw_X11_readLike mv_X11_readLike hl (fun ro hro => con_X11_readLike z (mL x) σ ro hro) hR rfl (show 0 < 48 by decide) rfl (ce_X11 z σ) rfl rfl hW hd h
set_option maxRecDepth 10000 in
theorem WT_X11_readSons_B63 {x : MX} {z : ZT} (C : Cok x (wxM z) RX11 cX11_readSons 4 none 2 47) (kq8 : Int32 → Int32 → St → Option St) (hk8 : ∀ (x1 : Int32) (x2 : Int32) (σ : St), Sim x (wxM z) 4 jV (kq8 x1 x2 σ) 8 [(0, .ref (aC z 0)), (1, .int x1), (2, .int x2)] [] σ) (x1 : Int32) (x2 : Int32) (x3 : Int32) (σ : St) : Sim x (wxM z) 4 jV (X11_readSons_B63 kq8 x1 x2 x3 σ) 63 [(0, .ref (aC z 0)), (1, .int x1), (2, .int x2), (3, .int x3)] [] σ := by
  rw [X11_readSons_B63]
  refine S_aload_n C 0 dX11_readSons_63 rfl ?_
  refine G_X11_newHolds C fl_X11_46 dX11_readSons_64 ?_
  refine S_iconst C (4) dX11_readSons_67 (by decide) ?_
  refine S_iload_n C 2 dX11_readSons_68 rfl ?_
  refine S_iadd C dX11_readSons_69 ?_
  refine S_iload_n C 3 dX11_readSons_70 rfl ?_
  refine T_X11_newHolds C dX11_readSons_71 (fun _ => ?_)
  refine S_bndS (fun σ4 _ => ?_)
  refine S_aload_n C 0 dX11_readSons_72 rfl ?_
  refine K_X11_next C ml_X11_212 (by decide) (Nat.le_of_ble_eq_true rfl) dX11_readSons_73 (fun σ5 => ?_)
  refine S_iinc C 2 [(2, .int (x2 + 1)), (0, .ref (aC z 0)), (1, .int x1), (3, .int x3)] (x2 + 1) dX11_readSons_76 rfl rfl (by decide) rfl ?_
  refine S_goto C 8 dX11_readSons_79 (by decide) ?_
  exact S_sub [1, 2, 0] rfl (hk8 x1 (x2 + 1) σ5)
set_option maxRecDepth 10000 in
theorem WT_X11_readSons_B34 {x : MX} {z : ZT} (C : Cok x (wxM z) RX11 cX11_readSons 4 none 2 47) (kq8 : Int32 → Int32 → St → Option St) (hk8 : ∀ (x1 : Int32) (x2 : Int32) (σ : St), Sim x (wxM z) 4 jV (kq8 x1 x2 σ) 8 [(0, .ref (aC z 0)), (1, .int x1), (2, .int x2)] [] σ) (x2 : Int32) (x3 : Int32) (s0 : Int32) (s1 : Int32) (σ : St) : Sim x (wxM z) 4 jV (X11_readSons_B34 kq8 x2 x3 s0 s1 σ) 34 [(0, .ref (aC z 0)), (2, .int x2), (3, .int x3)] [.int s0, .int s1] σ := by
  rw [X11_readSons_B34]
  refine S_iadd C dX11_readSons_34 ?_
  refine S_bndT (fun x1_3 _ => ?_)
  refine S_istore_n C [(1, .int x1_3), (0, .ref (aC z 0)), (2, .int x2), (3, .int x3)] (i := 1) dX11_readSons_35 rfl (by decide) rfl ?_
  refine S_aload_n C 1 dX11_readSons_36 rfl ?_
  refine G_X11_wrong C fl_X11_175 dX11_readSons_37 ?_
  refine S_if_ne C 63 dX11_readSons_40 (by decide) ?_ ?_
  · exact S_sub [1, 0, 2, 3] rfl (WT_X11_readSons_B63 C _ hk8 x1_3 x2 x3 σ)
  · refine S_iload_n C 0 dX11_readSons_43 rfl ?_
    refine S_bipush C (9) dX11_readSons_44 (by decide) ?_
    refine S_icmp_gt C 58 dX11_readSons_46 (by decide) ?_ ?_
    · refine S_aload_n C 1 dX11_readSons_58 rfl ?_
      refine S_iconst C (3) dX11_readSons_59 (by decide) ?_
      refine K_X11_fails C ml_X11_205 (by decide) (Nat.le_of_ble_eq_true rfl) dX11_readSons_60 (fun σ6 => ?_)
      exact S_sub [1, 0, 2, 3] rfl (WT_X11_readSons_B63 C _ hk8 x1_3 x2 x3 σ6)
    · refine S_iload_n C 2 dX11_readSons_49 rfl ?_
      refine S_iconst C (3) dX11_readSons_50 (by decide) ?_
      refine S_icmp_ne C 63 dX11_readSons_51 (by decide) ?_ ?_
      · exact S_sub [1, 0, 2, 3] rfl (WT_X11_readSons_B63 C _ hk8 x1_3 x2 x3 σ)
      · refine S_iload_n C 0 dX11_readSons_54 rfl ?_
        refine S_if_ne C 63 dX11_readSons_55 (by decide) ?_ ?_
        · exact S_sub [1, 0, 2, 3] rfl (WT_X11_readSons_B63 C _ hk8 x1_3 x2 x3 σ)
        · refine S_aload_n C 1 dX11_readSons_58 rfl ?_
          refine S_iconst C (3) dX11_readSons_59 (by decide) ?_
          refine K_X11_fails C ml_X11_205 (by decide) (Nat.le_of_ble_eq_true rfl) dX11_readSons_60 (fun σ7 => ?_)
          exact S_sub [1, 0, 2, 3] rfl (WT_X11_readSons_B63 C _ hk8 x1_3 x2 x3 σ7)
set_option maxRecDepth 10000 in
theorem WT_X11_readSons_L8 {x : MX} {z : ZT} (C : Cok x (wxM z) RX11 cX11_readSons 4 none 2 47) : ∀ (n : Nat) (x1 : Int32) (x2 : Int32) (σ : St), Sim x (wxM z) 4 jV (X11_readSons_L8 n x1 x2 σ) 8 [(0, .ref (aC z 0)), (1, .int x1), (2, .int x2)] [] σ := by
  intro n
  induction n with
  | zero =>
    intros
    exact S_none
  | succ n ih =>
    intro x1 x2 σ
    rw [X11_readSons_L8]
    refine S_iload_n C 2 dX11_readSons_8 rfl ?_
    refine S_iconst C (4) dX11_readSons_9 (by decide) ?_
    refine S_icmp_ge C 82 dX11_readSons_10 (by decide) ?_ ?_
    · exact S_vret C rfl dX11_readSons_82
    · refine S_aload_n C 0 dX11_readSons_13 rfl ?_
      refine S_iconst C (0) dX11_readSons_14 (by decide) ?_
      refine S_bipush C (9) dX11_readSons_15 (by decide) ?_
      refine K_X11_number C ml_X11_224 (by decide) (Nat.le_of_ble_eq_true rfl) dX11_readSons_17 (fun r2 => ?_)
      refine S_istore_n C [(3, .int r2.1), (0, .ref (aC z 0)), (1, .int x1), (2, .int x2)] (i := 3) dX11_readSons_20 rfl (by decide) rfl ?_
      refine S_iload_n C 2 dX11_readSons_21 rfl ?_
      refine S_aload_n C 1 dX11_readSons_22 rfl ?_
      refine G_X11_wrong C fl_X11_175 dX11_readSons_23 ?_
      refine S_if_ne C 33 dX11_readSons_26 (by decide) ?_ ?_
      · refine S_iconst C (0) dX11_readSons_33 (by decide) ?_
        exact S_sub [1, 3, 0] rfl (WT_X11_readSons_B34 C _ ih x2 r2.1 (0 : Int32) x1 r2.2)
      · refine S_iload_n C 0 dX11_readSons_29 rfl ?_
        refine S_goto C 34 dX11_readSons_30 (by decide) ?_
        exact S_sub [1, 3, 0] rfl (WT_X11_readSons_B34 C _ ih x2 r2.1 r2.1 x1 r2.2)
set_option maxRecDepth 10000 in
theorem WT_X11_readSons {x : MX} {z : ZT} (C : Cok x (wxM z) RX11 cX11_readSons 4 none 2 47)  (σ : St) : Sim x (wxM z) 4 jV (X11_readSons σ) 0 [(0, .ref (aC z 0))] [] σ := by
  rw [X11_readSons]
  refine S_iconst C (0) dX11_readSons_0 (by decide) ?_
  refine S_istore_n C [(1, .int 0), (0, .ref (aC z 0))] (i := 1) dX11_readSons_1 rfl (by decide) rfl ?_
  refine S_aload_n C 1 dX11_readSons_2 rfl ?_
  refine K_X11_next C ml_X11_212 (by decide) (Nat.le_of_ble_eq_true rfl) dX11_readSons_3 (fun σ1 => ?_)
  refine S_iconst C (0) dX11_readSons_6 (by decide) ?_
  refine S_istore_n C [(2, .int 0), (1, .int 0), (0, .ref (aC z 0))] (i := 2) dX11_readSons_7 rfl (by decide) rfl ?_
  exact S_sub [2, 1, 0] rfl (WT_X11_readSons_L8 C FU (0 : Int32) (0 : Int32) σ1)
set_option maxRecDepth 10000 in
theorem con_X11_readSons (z : ZT) (l : Launch)  (σ : St) : ∀ ro, X11_readSons σ = some ro → Con (wxM z) l yX11_readSons cX11_readSons 4 none 2 47 [.ref (aC z 0)] σ (jV ro) :=
  fun ro hk => Con_of hk (by decide) (Nat.le_of_ble_eq_true rfl) (fun x hx C => WT_X11_readSons C σ)
set_option maxRecDepth 10000 in
theorem K_X11_readSons {x : MX} {z : ZT} {own : String} {cc : ByteArray} {nL : Nat} {ret : Option FieldType} {fr lo : Nat} {ρ : Type} {inj : ρ → Option Value × St} {pc : Nat} {lv : List (Nat × Value)} {st : List Value} {σ : St} (C : Cok x (wxM z) own cc nL ret fr lo)  {index : Nat} (hl : Cond.methodLink own index yX11_readSons ∈ gtb) (hR : 2 + 1 ≤ fr ∧ 8 + (4 + 11) + 47 ≤ lo) (hW : (st.map fun v => v.category).sum ≤ 8) (hd : decode cc pc = .ok (.invokevirtual index, 3)) {K : St → Option ρ} (h : ∀ v, Sim x (wxM z) nL inj (K v) (pc + 3) lv (st) v) : Sim x (wxM z) nL inj ((X11_readSons σ).bind K) pc lv (.ref (aC z 0) :: st) σ :=
  S_callV C (As := []) (q := 0) (inj1 := jV) mw_X11_readSons mv_X11_readSons hl (fun ro hro => con_X11_readSons z (mL x) σ ro hro) hR rfl (show 0 < 48 by decide) rfl (ce_X11 z σ) rfl rfl hW hd h
set_option maxRecDepth 10000 in
theorem WT_X11_readLine_B141 {x : MX} {z : ZT} (C : Cok x (wxM z) RX11 cX11_readLine 2 none 3 70) (σ : St) : Sim x (wxM z) 2 jV (X11_readLine_B141 σ) 141 [(0, .ref (aC z 0))] [] σ := by
  rw [X11_readLine_B141]
  refine S_aload_n C 0 dX11_readLine_141 rfl ?_
  refine G_X11_wrong C fl_X11_175 dX11_readLine_142 ?_
  refine S_if_ne C 161 dX11_readLine_145 (by decide) ?_ ?_
  · refine S_aload_n C 0 dX11_readLine_161 rfl ?_
    refine K_X11_next C ml_X11_212 (by decide) (Nat.le_of_ble_eq_true rfl) dX11_readLine_162 (fun σ7 => ?_)
    exact S_vret C rfl dX11_readLine_165
  · refine S_aload_n C 0 dX11_readLine_148 rfl ?_
    refine G_X11_token C fl_X11_194 dX11_readLine_149 ?_
    refine S_iconst C (3) dX11_readLine_152 (by decide) ?_
    refine S_icmp_eq C 161 dX11_readLine_153 (by decide) ?_ ?_
    · refine S_aload_n C 0 dX11_readLine_161 rfl ?_
      refine K_X11_next C ml_X11_212 (by decide) (Nat.le_of_ble_eq_true rfl) dX11_readLine_162 (fun σ8 => ?_)
      exact S_vret C rfl dX11_readLine_165
    · refine S_aload_n C 0 dX11_readLine_156 rfl ?_
      refine S_iconst C (2) dX11_readLine_157 (by decide) ?_
      refine K_X11_fails C ml_X11_205 (by decide) (Nat.le_of_ble_eq_true rfl) dX11_readLine_158 (fun σ9 => ?_)
      refine S_aload_n C 0 dX11_readLine_161 rfl ?_
      refine K_X11_next C ml_X11_212 (by decide) (Nat.le_of_ble_eq_true rfl) dX11_readLine_162 (fun σ10 => ?_)
      exact S_vret C rfl dX11_readLine_165
set_option maxRecDepth 10000 in
theorem WT_X11_readLine_B131 {x : MX} {z : ZT} (C : Cok x (wxM z) RX11 cX11_readLine 2 none 3 70) (s0 : Int32) (s2 : Int32) (σ : St) : Sim x (wxM z) 2 jV (X11_readLine_B131 s0 s2 σ) 131 [(0, .ref (aC z 0))] [.int s0, .ref (aC z 0), .int s2, .ref (aC z 13)] σ := by
  rw [X11_readLine_B131]
  refine S_bipush C (20) dX11_readLine_131 (by decide) ?_
  refine K_X11_number C ml_X11_224 (by decide) (Nat.le_of_ble_eq_true rfl) dX11_readLine_133 (fun r4 => ?_)
  refine T_X11_newHolds C dX11_readLine_136 (fun _ => ?_)
  refine S_bndS (fun σ5 _ => ?_)
  refine S_aload_n C 0 dX11_readLine_137 rfl ?_
  refine K_X11_next C ml_X11_212 (by decide) (Nat.le_of_ble_eq_true rfl) dX11_readLine_138 (fun σ6 => ?_)
  exact S_sub [0] rfl (WT_X11_readLine_B141 C σ6)
set_option maxRecDepth 10000 in
theorem WT_X11_readLine_B41 {x : MX} {z : ZT} (C : Cok x (wxM z) RX11 cX11_readLine 2 none 3 70) (x1 : Int32) (σ : St) : Sim x (wxM z) 2 jV (X11_readLine_B41 x1 σ) 41 [(0, .ref (aC z 0)), (1, .int x1)] [] σ := by
  rw [X11_readLine_B41]
  refine S_aload_n C 0 dX11_readLine_41 rfl ?_
  refine G_X11_wrong C fl_X11_175 dX11_readLine_42 ?_
  refine S_if_le C 49 dX11_readLine_45 (by decide) ?_ ?_
  · refine S_aload_n C 0 dX11_readLine_49 rfl ?_
    refine S_dup C dX11_readLine_50 rfl ?_
    refine G_X11_toldLines C fl_X11_232 dX11_readLine_51 ?_
    refine S_iconst C (1) dX11_readLine_54 (by decide) ?_
    refine S_iload_n C 1 dX11_readLine_55 rfl ?_
    refine S_ishl C dX11_readLine_56 ?_
    refine S_ior C dX11_readLine_57 ?_
    refine P_X11_toldLines C fl_X11_232 dX11_readLine_58 ?_
    refine S_bndS (fun σ2 _ => ?_)
    refine S_iload_n C 1 dX11_readLine_61 rfl ?_
    refine S_iconst C (2) dX11_readLine_62 (by decide) ?_
    refine S_icmp_ge C 83 dX11_readLine_63 (by decide) ?_ ?_
    · refine S_iload_n C 1 dX11_readLine_83 rfl ?_
      refine S_iconst C (2) dX11_readLine_84 (by decide) ?_
      refine S_icmp_ne C 95 dX11_readLine_85 (by decide) ?_ ?_
      · refine S_iload_n C 1 dX11_readLine_95 rfl ?_
        refine S_bipush C (7) dX11_readLine_96 (by decide) ?_
        refine S_icmp_ne C 108 dX11_readLine_98 (by decide) ?_ ?_
        · refine S_aload_n C 0 dX11_readLine_108 rfl ?_
          refine K_X11_next C ml_X11_212 (by decide) (Nat.le_of_ble_eq_true rfl) dX11_readLine_109 (fun σ3 => ?_)
          refine S_aload_n C 0 dX11_readLine_112 rfl ?_
          refine G_X11_newHolds C fl_X11_46 dX11_readLine_113 ?_
          refine S_iload_n C 1 dX11_readLine_116 rfl ?_
          refine S_iconst C (3) dX11_readLine_117 (by decide) ?_
          refine S_isub C dX11_readLine_118 ?_
          refine S_aload_n C 0 dX11_readLine_119 rfl ?_
          refine S_iload_n C 1 dX11_readLine_120 rfl ?_
          refine S_bipush C (6) dX11_readLine_121 (by decide) ?_
          refine S_icmp_ne C 130 dX11_readLine_123 (by decide) ?_ ?_
          · refine S_iconst C (0) dX11_readLine_130 (by decide) ?_
            exact S_sub [0] rfl (WT_X11_readLine_B131 C (0 : Int32) (x1 - 3) σ3)
          · refine S_iconst C (1) dX11_readLine_126 (by decide) ?_
            refine S_goto C 131 dX11_readLine_127 (by decide) ?_
            exact S_sub [0] rfl (WT_X11_readLine_B131 C (1 : Int32) (x1 - 3) σ3)
        · refine S_aload_n C 0 dX11_readLine_101 rfl ?_
          refine K_X11_readSons C ml_X11_242 (by decide) (Nat.le_of_ble_eq_true rfl) dX11_readLine_102 (fun σ11 => ?_)
          refine S_goto C 141 dX11_readLine_105 (by decide) ?_
          exact S_sub [0] rfl (WT_X11_readLine_B141 C σ11)
      · refine S_aload_n C 0 dX11_readLine_88 rfl ?_
        refine K_X11_readLike C ml_X11_239 (by decide) (Nat.le_of_ble_eq_true rfl) dX11_readLine_89 (fun σ12 => ?_)
        refine S_goto C 141 dX11_readLine_92 (by decide) ?_
        exact S_sub [0] rfl (WT_X11_readLine_B141 C σ12)
    · refine S_aload_n C 0 dX11_readLine_66 rfl ?_
      refine S_iload_n C 1 dX11_readLine_67 rfl ?_
      refine S_iconst C (1) dX11_readLine_68 (by decide) ?_
      refine S_icmp_ne C 76 dX11_readLine_69 (by decide) ?_ ?_
      · refine S_iconst C (0) dX11_readLine_76 (by decide) ?_
        refine K_X11_readSay C ml_X11_235 (by decide) (Nat.le_of_ble_eq_true rfl) dX11_readLine_77 (fun σ13 => ?_)
        refine S_goto C 141 dX11_readLine_80 (by decide) ?_
        exact S_sub [0] rfl (WT_X11_readLine_B141 C σ13)
      · refine S_iconst C (1) dX11_readLine_72 (by decide) ?_
        refine S_goto C 77 dX11_readLine_73 (by decide) ?_
        refine K_X11_readSay C ml_X11_235 (by decide) (Nat.le_of_ble_eq_true rfl) dX11_readLine_77 (fun σ14 => ?_)
        refine S_goto C 141 dX11_readLine_80 (by decide) ?_
        exact S_sub [0] rfl (WT_X11_readLine_B141 C σ14)
  · exact S_vret C rfl dX11_readLine_48
set_option maxRecDepth 10000 in
theorem WT_X11_readLine {x : MX} {z : ZT} (C : Cok x (wxM z) RX11 cX11_readLine 2 none 3 70)  (σ : St) : Sim x (wxM z) 2 jV (X11_readLine σ) 0 [(0, .ref (aC z 0))] [] σ := by
  rw [X11_readLine]
  refine S_aload_n C 0 dX11_readLine_0 rfl ?_
  refine K_X11_lineAt C ml_X11_228 (by decide) (Nat.le_of_ble_eq_true rfl) dX11_readLine_1 (fun v1 => ?_)
  refine S_istore_n C [(1, .int v1), (0, .ref (aC z 0))] (i := 1) dX11_readLine_4 rfl (by decide) rfl ?_
  refine S_iload_n C 0 dX11_readLine_5 rfl ?_
  refine S_bipush C (-4) dX11_readLine_6 (by decide) ?_
  refine S_icmp_ne C 19 dX11_readLine_8 (by decide) ?_ ?_
  · refine S_iload_n C 0 dX11_readLine_19 rfl ?_
    refine S_iconst C (3) dX11_readLine_20 (by decide) ?_
    refine S_icmp_lt C 41 dX11_readLine_21 (by decide) ?_ ?_
    · exact S_sub [1, 0] rfl (WT_X11_readLine_B41 C v1 σ)
    · refine S_aload_n C 1 dX11_readLine_24 rfl ?_
      refine G_X11_toldLines C fl_X11_232 dX11_readLine_25 ?_
      refine S_iload_n C 0 dX11_readLine_28 rfl ?_
      refine S_ishr C dX11_readLine_29 ?_
      refine S_iconst C (1) dX11_readLine_30 (by decide) ?_
      refine S_iand C dX11_readLine_31 ?_
      refine S_iconst C (1) dX11_readLine_32 (by decide) ?_
      refine S_icmp_ne C 41 dX11_readLine_33 (by decide) ?_ ?_
      · exact S_sub [1, 0] rfl (WT_X11_readLine_B41 C v1 σ)
      · refine S_aload_n C 1 dX11_readLine_36 rfl ?_
        refine S_iconst C (4) dX11_readLine_37 (by decide) ?_
        refine K_X11_fails C ml_X11_205 (by decide) (Nat.le_of_ble_eq_true rfl) dX11_readLine_38 (fun σ15 => ?_)
        exact S_sub [1, 0] rfl (WT_X11_readLine_B41 C v1 σ15)
  · refine S_aload_n C 1 dX11_readLine_11 rfl ?_
    refine S_iconst C (2) dX11_readLine_12 (by decide) ?_
    refine K_X11_fails C ml_X11_205 (by decide) (Nat.le_of_ble_eq_true rfl) dX11_readLine_13 (fun σ16 => ?_)
    refine S_goto C 41 dX11_readLine_16 (by decide) ?_
    exact S_sub [1, 0] rfl (WT_X11_readLine_B41 C v1 σ16)
set_option maxRecDepth 10000 in
theorem con_X11_readLine (z : ZT) (l : Launch)  (σ : St) : ∀ ro, X11_readLine σ = some ro → Con (wxM z) l yX11_readLine cX11_readLine 2 none 3 70 [.ref (aC z 0)] σ (jV ro) :=
  fun ro hk => Con_of hk (by decide) (Nat.le_of_ble_eq_true rfl) (fun x hx C => WT_X11_readLine C σ)
set_option maxRecDepth 10000 in
theorem K_X11_readLine {x : MX} {z : ZT} {own : String} {cc : ByteArray} {nL : Nat} {ret : Option FieldType} {fr lo : Nat} {ρ : Type} {inj : ρ → Option Value × St} {pc : Nat} {lv : List (Nat × Value)} {st : List Value} {σ : St} (C : Cok x (wxM z) own cc nL ret fr lo)  {index : Nat} (hl : Cond.methodLink own index yX11_readLine ∈ gtb) (hR : 3 + 1 ≤ fr ∧ 8 + (2 + 11) + 70 ≤ lo) (hW : (st.map fun v => v.category).sum ≤ 8) (hd : decode cc pc = .ok (.invokevirtual index, 3)) {K : St → Option ρ} (h : ∀ v, Sim x (wxM z) nL inj (K v) (pc + 3) lv (st) v) : Sim x (wxM z) nL inj ((X11_readLine σ).bind K) pc lv (.ref (aC z 0) :: st) σ :=
  S_callV C (As := []) (q := 0) (inj1 := jV) mw_X11_readLine mv_X11_readLine hl (fun ro hro => con_X11_readLine z (mL x) σ ro hro) hR rfl (show 0 < 48 by decide) rfl (ce_X11 z σ) rfl rfl hW hd h
set_option maxRecDepth 10000 in
theorem WT_X11_rules_L236 {x : MX} {z : ZT} (C : Cok x (wxM z) RX11 cX11_rules 2 (some .int) 4 91) : ∀ (n : Nat) (x1 : Int32) (σ : St), Sim x (wxM z) 2 jIS (X11_rules_L236 n x1 σ) 236 [(0, .ref (aC z 0)), (1, .int x1)] [] σ := by
  intro n
  induction n with
  | zero =>
    intros
    exact S_none
  | succ n ih =>
    intro x1 σ
    rw [X11_rules_L236]
    refine S_iload_n C 1 dX11_rules_236 rfl ?_
    refine S_bipush C (40) dX11_rules_237 (by decide) ?_
    refine S_icmp_ge C 284 dX11_rules_239 (by decide) ?_ ?_
    · refine S_aload_n C 0 dX11_rules_284 rfl ?_
      refine G_X11_told C fl_X11_245 dX11_rules_285 ?_
      exact S_iret C rfl dX11_rules_288
    · refine S_aload_n C 0 dX11_rules_242 rfl ?_
      refine G_X11_likeOne C fl_X11_37 dX11_rules_243 ?_
      refine S_iload_n C 1 dX11_rules_246 rfl ?_
      refine S_aload_n C 0 dX11_rules_247 rfl ?_
      refine G_X11_newLikeOne C fl_X11_55 dX11_rules_248 ?_
      refine S_iload_n C 1 dX11_rules_251 rfl ?_
      refine L_X11_newLikeOne C dX11_rules_252 (fun _ => ?_)
      refine T_X11_likeOne C dX11_rules_253 (fun _ => ?_)
      refine S_bndS (fun σ12 _ => ?_)
      refine S_aload_n C 0 dX11_rules_254 rfl ?_
      refine G_X11_likeTwo C fl_X11_40 dX11_rules_255 ?_
      refine S_iload_n C 1 dX11_rules_258 rfl ?_
      refine S_aload_n C 0 dX11_rules_259 rfl ?_
      refine G_X11_newLikeTwo C fl_X11_58 dX11_rules_260 ?_
      refine S_iload_n C 1 dX11_rules_263 rfl ?_
      refine L_X11_newLikeTwo C dX11_rules_264 (fun _ => ?_)
      refine T_X11_likeTwo C dX11_rules_265 (fun _ => ?_)
      refine S_bndS (fun σ13 _ => ?_)
      refine S_aload_n C 0 dX11_rules_266 rfl ?_
      refine G_X11_likeBy C fl_X11_43 dX11_rules_267 ?_
      refine S_iload_n C 1 dX11_rules_270 rfl ?_
      refine S_aload_n C 0 dX11_rules_271 rfl ?_
      refine G_X11_newLikeBy C fl_X11_61 dX11_rules_272 ?_
      refine S_iload_n C 1 dX11_rules_275 rfl ?_
      refine L_X11_newLikeBy C dX11_rules_276 (fun _ => ?_)
      refine T_X11_likeBy C dX11_rules_277 (fun _ => ?_)
      refine S_bndS (fun σ14 _ => ?_)
      refine S_iinc C 1 [(1, .int (x1 + 1)), (0, .ref (aC z 0))] (x1 + 1) dX11_rules_278 rfl rfl (by decide) rfl ?_
      refine S_goto C 236 dX11_rules_281 (by decide) ?_
      exact S_sub [1, 0] rfl (ih (x1 + 1) σ14)
set_option maxRecDepth 10000 in
theorem WT_X11_rules_L210 {x : MX} {z : ZT} (C : Cok x (wxM z) RX11 cX11_rules 2 (some .int) 4 91) : ∀ (n : Nat) (x1 : Int32) (σ : St), Sim x (wxM z) 2 jIS (X11_rules_L210 n x1 σ) 210 [(0, .ref (aC z 0)), (1, .int x1)] [] σ := by
  intro n
  induction n with
  | zero =>
    intros
    exact S_none
  | succ n ih =>
    intro x1 σ
    rw [X11_rules_L210]
    refine S_iload_n C 1 dX11_rules_210 rfl ?_
    refine S_bipush C (24) dX11_rules_211 (by decide) ?_
    refine S_icmp_ge C 234 dX11_rules_213 (by decide) ?_ ?_
    · refine S_iconst C (0) dX11_rules_234 (by decide) ?_
      refine S_istore_n C [(1, .int 0), (0, .ref (aC z 0))] (i := 1) dX11_rules_235 rfl (by decide) rfl ?_
      exact S_sub [1, 0] rfl (WT_X11_rules_L236 C FU (0 : Int32) σ)
    · refine S_aload_n C 0 dX11_rules_216 rfl ?_
      refine G_X11_saySounds C fl_X11_34 dX11_rules_217 ?_
      refine S_iload_n C 1 dX11_rules_220 rfl ?_
      refine S_aload_n C 0 dX11_rules_221 rfl ?_
      refine G_X11_newSaySounds C fl_X11_52 dX11_rules_222 ?_
      refine S_iload_n C 1 dX11_rules_225 rfl ?_
      refine L_X11_newSaySounds C dX11_rules_226 (fun _ => ?_)
      refine T_X11_saySounds C dX11_rules_227 (fun _ => ?_)
      refine S_bndS (fun σ15 _ => ?_)
      refine S_iinc C 1 [(1, .int (x1 + 1)), (0, .ref (aC z 0))] (x1 + 1) dX11_rules_228 rfl rfl (by decide) rfl ?_
      refine S_goto C 210 dX11_rules_231 (by decide) ?_
      exact S_sub [1, 0] rfl (ih (x1 + 1) σ15)
set_option maxRecDepth 10000 in
theorem WT_X11_rules_L184 {x : MX} {z : ZT} (C : Cok x (wxM z) RX11 cX11_rules 2 (some .int) 4 91) : ∀ (n : Nat) (x1 : Int32) (σ : St), Sim x (wxM z) 2 jIS (X11_rules_L184 n x1 σ) 184 [(0, .ref (aC z 0)), (1, .int x1)] [] σ := by
  intro n
  induction n with
  | zero =>
    intros
    exact S_none
  | succ n ih =>
    intro x1 σ
    rw [X11_rules_L184]
    refine S_iload_n C 1 dX11_rules_184 rfl ?_
    refine S_bipush C (36) dX11_rules_185 (by decide) ?_
    refine S_icmp_ge C 208 dX11_rules_187 (by decide) ?_ ?_
    · refine S_iconst C (0) dX11_rules_208 (by decide) ?_
      refine S_istore_n C [(1, .int 0), (0, .ref (aC z 0))] (i := 1) dX11_rules_209 rfl (by decide) rfl ?_
      exact S_sub [1, 0] rfl (WT_X11_rules_L210 C FU (0 : Int32) σ)
    · refine S_aload_n C 0 dX11_rules_190 rfl ?_
      refine G_X11_sayLetters C fl_X11_31 dX11_rules_191 ?_
      refine S_iload_n C 1 dX11_rules_194 rfl ?_
      refine S_aload_n C 0 dX11_rules_195 rfl ?_
      refine G_X11_newSayLetters C fl_X11_49 dX11_rules_196 ?_
      refine S_iload_n C 1 dX11_rules_199 rfl ?_
      refine L_X11_newSayLetters C dX11_rules_200 (fun _ => ?_)
      refine T_X11_sayLetters C dX11_rules_201 (fun _ => ?_)
      refine S_bndS (fun σ16 _ => ?_)
      refine S_iinc C 1 [(1, .int (x1 + 1)), (0, .ref (aC z 0))] (x1 + 1) dX11_rules_202 rfl rfl (by decide) rfl ?_
      refine S_goto C 184 dX11_rules_205 (by decide) ?_
      exact S_sub [1, 0] rfl (ih (x1 + 1) σ16)
set_option maxRecDepth 10000 in
theorem WT_X11_rules_L158 {x : MX} {z : ZT} (C : Cok x (wxM z) RX11 cX11_rules 2 (some .int) 4 91) : ∀ (n : Nat) (x1 : Int32) (σ : St), Sim x (wxM z) 2 jIS (X11_rules_L158 n x1 σ) 158 [(0, .ref (aC z 0)), (1, .int x1)] [] σ := by
  intro n
  induction n with
  | zero =>
    intros
    exact S_none
  | succ n ih =>
    intro x1 σ
    rw [X11_rules_L158]
    refine S_iload_n C 1 dX11_rules_158 rfl ?_
    refine S_bipush C (8) dX11_rules_159 (by decide) ?_
    refine S_icmp_ge C 182 dX11_rules_161 (by decide) ?_ ?_
    · refine S_iconst C (0) dX11_rules_182 (by decide) ?_
      refine S_istore_n C [(1, .int 0), (0, .ref (aC z 0))] (i := 1) dX11_rules_183 rfl (by decide) rfl ?_
      exact S_sub [1, 0] rfl (WT_X11_rules_L184 C FU (0 : Int32) σ)
    · refine S_aload_n C 0 dX11_rules_164 rfl ?_
      refine G_X11_holds C fl_X11_28 dX11_rules_165 ?_
      refine S_iload_n C 1 dX11_rules_168 rfl ?_
      refine S_aload_n C 0 dX11_rules_169 rfl ?_
      refine G_X11_newHolds C fl_X11_46 dX11_rules_170 ?_
      refine S_iload_n C 1 dX11_rules_173 rfl ?_
      refine L_X11_newHolds C dX11_rules_174 (fun _ => ?_)
      refine T_X11_holds C dX11_rules_175 (fun _ => ?_)
      refine S_bndS (fun σ17 _ => ?_)
      refine S_iinc C 1 [(1, .int (x1 + 1)), (0, .ref (aC z 0))] (x1 + 1) dX11_rules_176 rfl rfl (by decide) rfl ?_
      refine S_goto C 158 dX11_rules_179 (by decide) ?_
      exact S_sub [1, 0] rfl (ih (x1 + 1) σ17)
set_option maxRecDepth 10000 in
theorem WT_X11_rules_B112 {x : MX} {z : ZT} (C : Cok x (wxM z) RX11 cX11_rules 2 (some .int) 4 91) (σ : St) : Sim x (wxM z) 2 jIS (X11_rules_B112 σ) 112 [(0, .ref (aC z 0))] [] σ := by
  rw [X11_rules_B112]
  refine S_aload_n C 0 dX11_rules_112 rfl ?_
  refine S_iconst C (0) dX11_rules_113 (by decide) ?_
  refine P_X11_taped C fl_X11_172 dX11_rules_114 ?_
  refine S_bndS (fun σ8 _ => ?_)
  refine S_aload_n C 0 dX11_rules_117 rfl ?_
  refine S_aload_n C 0 dX11_rules_118 rfl ?_
  refine G_X11_wrong C fl_X11_175 dX11_rules_119 ?_
  refine P_X11_fault C fl_X11_250 dX11_rules_122 ?_
  refine S_bndS (fun σ9 _ => ?_)
  refine S_aload_n C 0 dX11_rules_125 rfl ?_
  refine G_X11_wrong C fl_X11_175 dX11_rules_126 ?_
  refine S_if_le C 140 dX11_rules_129 (by decide) ?_ ?_
  · refine S_aload_n C 0 dX11_rules_140 rfl ?_
    refine S_aload_n C 0 dX11_rules_141 rfl ?_
    refine G_X11_newSays C fl_X11_209 dX11_rules_142 ?_
    refine P_X11_says C fl_X11_253 dX11_rules_145 ?_
    refine S_bndS (fun σ10 _ => ?_)
    refine S_aload_n C 0 dX11_rules_148 rfl ?_
    refine S_aload_n C 0 dX11_rules_149 rfl ?_
    refine G_X11_newLikes C fl_X11_221 dX11_rules_150 ?_
    refine P_X11_likes C fl_X11_256 dX11_rules_153 ?_
    refine S_bndS (fun σ11 _ => ?_)
    refine S_iconst C (0) dX11_rules_156 (by decide) ?_
    refine S_istore_n C [(1, .int 0), (0, .ref (aC z 0))] (i := 1) dX11_rules_157 rfl (by decide) rfl ?_
    exact S_sub [1, 0] rfl (WT_X11_rules_L158 C FU (0 : Int32) σ11)
  · refine S_bipush C (-10) dX11_rules_132 (by decide) ?_
    refine S_aload_n C 0 dX11_rules_134 rfl ?_
    refine G_X11_wrongAt C fl_X11_181 dX11_rules_135 ?_
    refine S_isub C dX11_rules_138 ?_
    exact S_iret C rfl dX11_rules_139
set_option maxRecDepth 10000 in
theorem WT_X11_rules_L81 {x : MX} {z : ZT} (C : Cok x (wxM z) RX11 cX11_rules 2 (some .int) 4 91) : ∀ (n : Nat) (σ : St), Sim x (wxM z) 2 jIS (X11_rules_L81 n σ) 81 [(0, .ref (aC z 0))] [] σ := by
  intro n
  induction n with
  | zero =>
    intros
    exact S_none
  | succ n ih =>
    intro σ
    rw [X11_rules_L81]
    refine S_aload_n C 0 dX11_rules_81 rfl ?_
    refine G_X11_wrong C fl_X11_175 dX11_rules_82 ?_
    refine S_if_ne C 112 dX11_rules_85 (by decide) ?_ ?_
    · exact S_sub [0] rfl (WT_X11_rules_B112 C σ)
    · refine S_aload_n C 0 dX11_rules_88 rfl ?_
      refine G_X11_token C fl_X11_194 dX11_rules_89 ?_
      refine S_if_eq C 112 dX11_rules_92 (by decide) ?_ ?_
      · exact S_sub [0] rfl (WT_X11_rules_B112 C σ)
      · refine S_aload_n C 0 dX11_rules_95 rfl ?_
        refine K_X11_readLine C ml_X11_248 (by decide) (Nat.le_of_ble_eq_true rfl) dX11_rules_96 (fun σ18 => ?_)
        refine S_aload_n C 0 dX11_rules_99 rfl ?_
        refine S_dup C dX11_rules_100 rfl ?_
        refine G_X11_told C fl_X11_245 dX11_rules_101 ?_
        refine S_iconst C (1) dX11_rules_104 (by decide) ?_
        refine S_iadd C dX11_rules_105 ?_
        refine P_X11_told C fl_X11_245 dX11_rules_106 ?_
        refine S_bndS (fun σ19 _ => ?_)
        refine S_goto C 81 dX11_rules_109 (by decide) ?_
        exact S_sub [0] rfl (ih σ19)
set_option maxRecDepth 10000 in
theorem WT_X11_rules_L32 {x : MX} {z : ZT} (C : Cok x (wxM z) RX11 cX11_rules 2 (some .int) 4 91) : ∀ (n : Nat) (x1 : Int32) (σ : St), Sim x (wxM z) 2 jIS (X11_rules_L32 n x1 σ) 32 [(0, .ref (aC z 0)), (1, .int x1)] [] σ := by
  intro n
  induction n with
  | zero =>
    intros
    exact S_none
  | succ n ih =>
    intro x1 σ
    rw [X11_rules_L32]
    refine S_iload_n C 1 dX11_rules_32 rfl ?_
    refine S_bipush C (8) dX11_rules_33 (by decide) ?_
    refine S_icmp_ge C 77 dX11_rules_35 (by decide) ?_ ?_
    · refine S_aload_n C 0 dX11_rules_77 rfl ?_
      refine K_X11_next C ml_X11_212 (by decide) (Nat.le_of_ble_eq_true rfl) dX11_rules_78 (fun σ7 => ?_)
      exact S_sub [0] rfl (WT_X11_rules_L81 C FU σ7)
    · refine S_aload_n C 0 dX11_rules_38 rfl ?_
      refine G_X11_newHolds C fl_X11_46 dX11_rules_39 ?_
      refine S_iload_n C 1 dX11_rules_42 rfl ?_
      refine S_iload_n C 1 dX11_rules_43 rfl ?_
      refine S_if_ne C 51 dX11_rules_44 (by decide) ?_ ?_
      · refine S_iload_n C 1 dX11_rules_51 rfl ?_
        refine S_iconst C (3) dX11_rules_52 (by decide) ?_
        refine S_icmp_ge C 60 dX11_rules_53 (by decide) ?_ ?_
        · refine S_iload_n C 1 dX11_rules_60 rfl ?_
          refine S_iconst C (3) dX11_rules_61 (by decide) ?_
          refine S_icmp_ne C 69 dX11_rules_62 (by decide) ?_ ?_
          · refine S_iconst C (1) dX11_rules_69 (by decide) ?_
            refine T_X11_newHolds C dX11_rules_70 (fun _ => ?_)
            refine S_bndS (fun σ20 _ => ?_)
            refine S_iinc C 1 [(1, .int (x1 + 1)), (0, .ref (aC z 0))] (x1 + 1) dX11_rules_71 rfl rfl (by decide) rfl ?_
            refine S_goto C 32 dX11_rules_74 (by decide) ?_
            exact S_sub [1, 0] rfl (ih (x1 + 1) σ20)
          · refine S_iconst C (5) dX11_rules_65 (by decide) ?_
            refine S_goto C 70 dX11_rules_66 (by decide) ?_
            refine T_X11_newHolds C dX11_rules_70 (fun _ => ?_)
            refine S_bndS (fun σ21 _ => ?_)
            refine S_iinc C 1 [(1, .int (x1 + 1)), (0, .ref (aC z 0))] (x1 + 1) dX11_rules_71 rfl rfl (by decide) rfl ?_
            refine S_goto C 32 dX11_rules_74 (by decide) ?_
            exact S_sub [1, 0] rfl (ih (x1 + 1) σ21)
        · refine S_iconst C (4) dX11_rules_56 (by decide) ?_
          refine S_goto C 70 dX11_rules_57 (by decide) ?_
          refine T_X11_newHolds C dX11_rules_70 (fun _ => ?_)
          refine S_bndS (fun σ22 _ => ?_)
          refine S_iinc C 1 [(1, .int (x1 + 1)), (0, .ref (aC z 0))] (x1 + 1) dX11_rules_71 rfl rfl (by decide) rfl ?_
          refine S_goto C 32 dX11_rules_74 (by decide) ?_
          exact S_sub [1, 0] rfl (ih (x1 + 1) σ22)
      · refine S_iconst C (3) dX11_rules_47 (by decide) ?_
        refine S_goto C 70 dX11_rules_48 (by decide) ?_
        refine T_X11_newHolds C dX11_rules_70 (fun _ => ?_)
        refine S_bndS (fun σ23 _ => ?_)
        refine S_iinc C 1 [(1, .int (x1 + 1)), (0, .ref (aC z 0))] (x1 + 1) dX11_rules_71 rfl rfl (by decide) rfl ?_
        refine S_goto C 32 dX11_rules_74 (by decide) ?_
        exact S_sub [1, 0] rfl (ih (x1 + 1) σ23)
set_option maxRecDepth 10000 in
theorem WT_X11_rules {x : MX} {z : ZT} (C : Cok x (wxM z) RX11 cX11_rules 2 (some .int) 4 91)  (σ : St) : Sim x (wxM z) 2 jIS (X11_rules σ) 0 [(0, .ref (aC z 0))] [] σ := by
  rw [X11_rules]
  refine S_aload_n C 0 dX11_rules_0 rfl ?_
  refine S_iconst C (0) dX11_rules_1 (by decide) ?_
  refine P_X11_wrong C fl_X11_175 dX11_rules_2 ?_
  refine S_bndS (fun σ1 _ => ?_)
  refine S_aload_n C 0 dX11_rules_5 rfl ?_
  refine S_iconst C (0) dX11_rules_6 (by decide) ?_
  refine P_X11_at C fl_X11_184 dX11_rules_7 ?_
  refine S_bndS (fun σ2 _ => ?_)
  refine S_aload_n C 0 dX11_rules_10 rfl ?_
  refine S_iconst C (0) dX11_rules_11 (by decide) ?_
  refine P_X11_newSays C fl_X11_209 dX11_rules_12 ?_
  refine S_bndS (fun σ3 _ => ?_)
  refine S_aload_n C 0 dX11_rules_15 rfl ?_
  refine S_iconst C (0) dX11_rules_16 (by decide) ?_
  refine P_X11_newLikes C fl_X11_221 dX11_rules_17 ?_
  refine S_bndS (fun σ4 _ => ?_)
  refine S_aload_n C 0 dX11_rules_20 rfl ?_
  refine S_iconst C (0) dX11_rules_21 (by decide) ?_
  refine P_X11_toldLines C fl_X11_232 dX11_rules_22 ?_
  refine S_bndS (fun σ5 _ => ?_)
  refine S_aload_n C 0 dX11_rules_25 rfl ?_
  refine S_iconst C (0) dX11_rules_26 (by decide) ?_
  refine P_X11_told C fl_X11_245 dX11_rules_27 ?_
  refine S_bndS (fun σ6 _ => ?_)
  refine S_iconst C (0) dX11_rules_30 (by decide) ?_
  refine S_istore_n C [(1, .int 0), (0, .ref (aC z 0))] (i := 1) dX11_rules_31 rfl (by decide) rfl ?_
  exact S_sub [1, 0] rfl (WT_X11_rules_L32 C FU (0 : Int32) σ6)
set_option maxRecDepth 10000 in
theorem con_X11_rules (z : ZT) (l : Launch)  (σ : St) : ∀ ro, X11_rules σ = some ro → Con (wxM z) l yX11_rules cX11_rules 2 (some .int) 4 91 [.ref (aC z 0)] σ (jIS ro) :=
  fun ro hk => Con_of hk (by decide) (Nat.le_of_ble_eq_true rfl) (fun x hx C => WT_X11_rules C σ)
set_option maxRecDepth 10000 in
theorem K_X11_rules {x : MX} {z : ZT} {own : String} {cc : ByteArray} {nL : Nat} {ret : Option FieldType} {fr lo : Nat} {ρ : Type} {inj : ρ → Option Value × St} {pc : Nat} {lv : List (Nat × Value)} {st : List Value} {σ : St} (C : Cok x (wxM z) own cc nL ret fr lo)  {index : Nat} (hl : Cond.methodLink own index yX11_rules ∈ gtb) (hR : 4 + 1 ≤ fr ∧ 8 + (2 + 11) + 91 ≤ lo) (hW : (st.map fun v => v.category).sum ≤ 8) (hd : decode cc pc = .ok (.invokevirtual index, 3)) {K : (Int32 × St) → Option ρ} (h : ∀ v, Sim x (wxM z) nL inj (K v) (pc + 3) lv (.int v.1 :: st) v.2) : Sim x (wxM z) nL inj ((X11_rules σ).bind K) pc lv (.ref (aC z 0) :: st) σ :=
  S_callV C (As := []) (q := 0) (inj1 := jIS) mw_X11_rules mv_X11_rules hl (fun ro hro => con_X11_rules z (mL x) σ ro hro) hR rfl (show 0 < 48 by decide) rfl (ce_X11 z σ) rfl rfl hW hd h
set_option maxRecDepth 10000 in
theorem WT_X11_fault {x : MX} {z : ZT} (C : Cok x (wxM z) RX11 cX11_fault 1 (some .int) 0 0)  (σ : St) : Sim x (wxM z) 1 (jI σ) (X11_fault σ) 0 [(0, .ref (aC z 0))] [] σ := by
  rw [X11_fault]
  refine S_aload_n C 0 dX11_fault_0 rfl ?_
  refine G_X11_fault C fl_X11_250 dX11_fault_1 ?_
  exact S_iret C rfl dX11_fault_4
set_option maxRecDepth 10000 in
theorem con_X11_fault (z : ZT) (l : Launch)  (σ : St) : ∀ ro, X11_fault σ = some ro → Con (wxM z) l yX11_fault cX11_fault 1 (some .int) 0 0 [.ref (aC z 0)] σ ((jI σ) ro) :=
  fun ro hk => Con_of hk (by decide) (Nat.le_of_ble_eq_true rfl) (fun x hx C => WT_X11_fault C σ)
set_option maxRecDepth 10000 in
theorem K_X11_fault {x : MX} {z : ZT} {own : String} {cc : ByteArray} {nL : Nat} {ret : Option FieldType} {fr lo : Nat} {ρ : Type} {inj : ρ → Option Value × St} {pc : Nat} {lv : List (Nat × Value)} {st : List Value} {σ : St} (C : Cok x (wxM z) own cc nL ret fr lo)  {index : Nat} (hl : Cond.methodLink own index yX11_fault ∈ gtb) (hR : 0 + 1 ≤ fr ∧ 8 + (1 + 11) + 0 ≤ lo) (hW : (st.map fun v => v.category).sum ≤ 8) (hd : decode cc pc = .ok (.invokevirtual index, 3)) {K : Int32 → Option ρ} (h : ∀ v, Sim x (wxM z) nL inj (K v) (pc + 3) lv (.int v :: st) σ) : Sim x (wxM z) nL inj ((X11_fault σ).bind K) pc lv (.ref (aC z 0) :: st) σ :=
  S_callV C (As := []) (q := 0) (inj1 := (jI σ)) mw_X11_fault mv_X11_fault hl (fun ro hro => con_X11_fault z (mL x) σ ro hro) hR rfl (show 0 < 48 by decide) rfl (ce_X11 z σ) rfl rfl hW hd h
set_option maxRecDepth 10000 in
theorem WT_X11_rule {x : MX} {z : ZT} (C : Cok x (wxM z) RX11 cX11_rule 2 (some .int) 1 25) (x1 : Int32) (σ : St) : Sim x (wxM z) 2 (jI σ) (X11_rule x1 σ) 0 [(0, .ref (aC z 0)), (1, .int x1)] [] σ := by
  rw [X11_rule]
  refine S_iload_n C 1 dX11_rule_0 rfl ?_
  refine S_i2l C dX11_rule_1 ?_
  refine S_lconst C (0) dX11_rule_2 (by decide) ?_
  refine S_ldc2 C (7) kl_X11_259 dX11_rule_3 ?_
  refine K_X11_in C ml_X11_156 (by decide) (Nat.le_of_ble_eq_true rfl) dX11_rule_6 (fun v1 => ?_)
  refine S_if_eq C 21 dX11_rule_9 (by decide) ?_ ?_
  · refine S_iload_n C 1 dX11_rule_21 rfl ?_
    refine S_bipush C (8) dX11_rule_22 (by decide) ?_
    refine S_icmp_ne C 34 dX11_rule_24 (by decide) ?_ ?_
    · refine S_iload_n C 1 dX11_rule_34 rfl ?_
      refine S_bipush C (9) dX11_rule_35 (by decide) ?_
      refine S_icmp_ne C 47 dX11_rule_37 (by decide) ?_ ?_
      · refine S_iconst C (-1) dX11_rule_47 (by decide) ?_
        exact S_iret C rfl dX11_rule_48
      · refine S_aload_n C 0 dX11_rule_40 rfl ?_
        refine G_X11_likes C fl_X11_256 dX11_rule_41 ?_
        refine S_goto C 48 dX11_rule_44 (by decide) ?_
        exact S_iret C rfl dX11_rule_48
    · refine S_aload_n C 0 dX11_rule_27 rfl ?_
      refine G_X11_says C fl_X11_253 dX11_rule_28 ?_
      refine S_goto C 48 dX11_rule_31 (by decide) ?_
      exact S_iret C rfl dX11_rule_48
  · refine S_aload_n C 0 dX11_rule_12 rfl ?_
    refine G_X11_holds C fl_X11_28 dX11_rule_13 ?_
    refine S_iload_n C 1 dX11_rule_16 rfl ?_
    refine L_X11_holds C dX11_rule_17 (fun _ => ?_)
    refine S_goto C 48 dX11_rule_18 (by decide) ?_
    exact S_iret C rfl dX11_rule_48
set_option maxRecDepth 10000 in
theorem con_X11_rule (z : ZT) (l : Launch) (x1 : Int32) (σ : St) : ∀ ro, X11_rule x1 σ = some ro → Con (wxM z) l yX11_rule cX11_rule 2 (some .int) 1 25 [.ref (aC z 0), .int x1] σ ((jI σ) ro) :=
  fun ro hk => Con_of hk (by decide) (Nat.le_of_ble_eq_true rfl) (fun x hx C => WT_X11_rule C x1 σ)
set_option maxRecDepth 10000 in
theorem K_X11_rule {x : MX} {z : ZT} {own : String} {cc : ByteArray} {nL : Nat} {ret : Option FieldType} {fr lo : Nat} {ρ : Type} {inj : ρ → Option Value × St} {pc : Nat} {lv : List (Nat × Value)} {st : List Value} {σ : St} (C : Cok x (wxM z) own cc nL ret fr lo) {x1 : Int32} {index : Nat} (hl : Cond.methodLink own index yX11_rule ∈ gtb) (hR : 1 + 1 ≤ fr ∧ 8 + (2 + 11) + 25 ≤ lo) (hW : (st.map fun v => v.category).sum ≤ 8) (hd : decode cc pc = .ok (.invokevirtual index, 3)) {K : Int32 → Option ρ} (h : ∀ v, Sim x (wxM z) nL inj (K v) (pc + 3) lv (.int v :: st) σ) : Sim x (wxM z) nL inj ((X11_rule x1 σ).bind K) pc lv (.int x1 :: .ref (aC z 0) :: st) σ :=
  S_callV C (As := [.int x1]) (q := 0) (inj1 := (jI σ)) mw_X11_rule mv_X11_rule hl (fun ro hro => con_X11_rule z (mL x) x1 σ ro hro) hR rfl (show 0 < 48 by decide) rfl (ce_X11 z σ) rfl rfl hW hd h
set_option maxRecDepth 10000 in
theorem WT_X11_saidAt_L27 {x : MX} {z : ZT} (C : Cok x (wxM z) RX11 cX11_saidAt 10 (some .int) 0 0) (σ : St) (kq9 : Int32 → Int32 → Int32 → Int32 → Int32 → Option Int32) (hk9 : ∀ (x1 : Int32) (x2 : Int32) (x3 : Int32) (x4 : Int32) (x5 : Int32), Sim x (wxM z) 10 (jI σ) (kq9 x1 x2 x3 x4 x5) 9 [(0, .ref (aC z 0)), (1, .int x1), (2, .int x2), (3, .int x3), (4, .int x4), (5, .int x5)] [] σ) : ∀ (n : Nat) (x1 : Int32) (x2 : Int32) (x3 : Int32) (x4 : Int32) (x5 : Int32) (x6 : Int32) (x7 : Int32) (x8 : Int32), Sim x (wxM z) 10 (jI σ) (X11_saidAt_L27 kq9 σ n x1 x2 x3 x4 x5 x6 x7 x8) 27 [(0, .ref (aC z 0)), (1, .int x1), (2, .int x2), (3, .int x3), (4, .int x4), (5, .int x5), (6, .int x6), (7, .int x7), (8, .int x8)] [] σ := by
  intro n
  induction n with
  | zero =>
    intros
    exact S_none
  | succ n ih =>
    intro x1 x2 x3 x4 x5 x6 x7 x8
    rw [X11_saidAt_L27]
    refine S_iload C 8 dX11_saidAt_27 rfl ?_
    refine S_iconst C (3) dX11_saidAt_29 (by decide) ?_
    refine S_icmp_ge C 105 dX11_saidAt_30 (by decide) ?_ ?_
    · refine S_iload C 7 dX11_saidAt_105 rfl ?_
      refine S_if_eq C 124 dX11_saidAt_107 (by decide) ?_ ?_
      · refine S_iinc C 5 [(5, .int (x5 + 1)), (0, .ref (aC z 0)), (1, .int x1), (2, .int x2), (3, .int x3), (4, .int x4), (6, .int x6), (7, .int x7), (8, .int x8)] (x5 + 1) dX11_saidAt_124 rfl rfl (by decide) rfl ?_
        refine S_goto C 9 dX11_saidAt_127 (by decide) ?_
        exact S_sub [1, 2, 3, 4, 5, 0] rfl (hk9 x1 x2 x3 x4 (x5 + 1))
      · refine S_iload C 6 dX11_saidAt_110 rfl ?_
        refine S_iload C 4 dX11_saidAt_112 rfl ?_
        refine S_icmp_le C 124 dX11_saidAt_114 (by decide) ?_ ?_
        · refine S_iinc C 5 [(5, .int (x5 + 1)), (0, .ref (aC z 0)), (1, .int x1), (2, .int x2), (3, .int x3), (4, .int x4), (6, .int x6), (7, .int x7), (8, .int x8)] (x5 + 1) dX11_saidAt_124 rfl rfl (by decide) rfl ?_
          refine S_goto C 9 dX11_saidAt_127 (by decide) ?_
          exact S_sub [1, 2, 3, 4, 5, 0] rfl (hk9 x1 x2 x3 x4 (x5 + 1))
        · refine S_iload C 5 dX11_saidAt_117 rfl ?_
          refine S_istore_n C [(3, .int x5), (0, .ref (aC z 0)), (1, .int x1), (2, .int x2), (4, .int x4), (5, .int x5), (6, .int x6), (7, .int x7), (8, .int x8)] (i := 3) dX11_saidAt_119 rfl (by decide) rfl ?_
          refine S_iload C 6 dX11_saidAt_120 rfl ?_
          refine S_istore C [(4, .int x6), (3, .int x5), (0, .ref (aC z 0)), (1, .int x1), (2, .int x2), (5, .int x5), (6, .int x6), (7, .int x7), (8, .int x8)] dX11_saidAt_122 (by decide) rfl ?_
          refine S_iinc C 5 [(5, .int (x5 + 1)), (4, .int x6), (3, .int x5), (0, .ref (aC z 0)), (1, .int x1), (2, .int x2), (6, .int x6), (7, .int x7), (8, .int x8)] (x5 + 1) dX11_saidAt_124 rfl rfl (by decide) rfl ?_
          refine S_goto C 9 dX11_saidAt_127 (by decide) ?_
          exact S_sub [3, 4, 5, 2, 1, 0] rfl (hk9 x1 x2 x5 x6 (x5 + 1))
    · refine S_aload_n C 0 dX11_saidAt_33 rfl ?_
      refine G_X11_sayLetters C fl_X11_31 dX11_saidAt_34 ?_
      refine S_iconst C (3) dX11_saidAt_37 (by decide) ?_
      refine S_iload C 5 dX11_saidAt_38 rfl ?_
      refine S_imul C dX11_saidAt_40 ?_
      refine S_iload C 8 dX11_saidAt_41 rfl ?_
      refine S_iadd C dX11_saidAt_43 ?_
      refine L_X11_sayLetters C dX11_saidAt_44 (fun _ => ?_)
      refine S_bndT (fun x9_1 _ => ?_)
      refine S_istore C [(9, .int x9_1), (0, .ref (aC z 0)), (1, .int x1), (2, .int x2), (3, .int x3), (4, .int x4), (5, .int x5), (6, .int x6), (7, .int x7), (8, .int x8)] dX11_saidAt_45 (by decide) rfl ?_
      refine S_iload C 0 dX11_saidAt_47 rfl ?_
      refine S_if_le C 99 dX11_saidAt_49 (by decide) ?_ ?_
      · refine S_iinc C 9 [(8, .int (x8 + 1)), (9, .int x9_1), (0, .ref (aC z 0)), (1, .int x1), (2, .int x2), (3, .int x3), (4, .int x4), (5, .int x5), (6, .int x6), (7, .int x7)] (x8 + 1) dX11_saidAt_99 rfl rfl (by decide) rfl ?_
        refine S_goto C 27 dX11_saidAt_102 (by decide) ?_
        exact S_sub [2, 3, 4, 5, 6, 7, 8, 9, 0] rfl (ih x1 x2 x3 x4 x5 x6 x7 (x8 + 1))
      · refine S_iinc C 7 [(6, .int (x6 + 1)), (9, .int x9_1), (0, .ref (aC z 0)), (1, .int x1), (2, .int x2), (3, .int x3), (4, .int x4), (5, .int x5), (7, .int x7), (8, .int x8)] (x6 + 1) dX11_saidAt_52 rfl rfl (by decide) rfl ?_
        refine S_iload C 8 dX11_saidAt_55 rfl ?_
        refine S_if_eq C 96 dX11_saidAt_57 (by decide) ?_ ?_
        · refine S_iconst C (0) dX11_saidAt_96 (by decide) ?_
          refine S_istore C [(7, .int 0), (6, .int (x6 + 1)), (9, .int x9_1), (0, .ref (aC z 0)), (1, .int x1), (2, .int x2), (3, .int x3), (4, .int x4), (5, .int x5), (8, .int x8)] dX11_saidAt_97 (by decide) rfl ?_
          refine S_iinc C 9 [(8, .int (x8 + 1)), (7, .int 0), (6, .int (x6 + 1)), (9, .int x9_1), (0, .ref (aC z 0)), (1, .int x1), (2, .int x2), (3, .int x3), (4, .int x4), (5, .int x5)] (x8 + 1) dX11_saidAt_99 rfl rfl (by decide) rfl ?_
          refine S_goto C 27 dX11_saidAt_102 (by decide) ?_
          exact S_sub [4, 5, 6, 7, 8, 9, 2, 1, 0] rfl (ih x1 x2 x3 x4 x5 (x6 + 1) (0 : Int32) (x8 + 1))
        · refine S_iload_n C 4 dX11_saidAt_60 rfl ?_
          refine S_iload C 9 dX11_saidAt_61 rfl ?_
          refine S_iadd C dX11_saidAt_63 ?_
          refine S_aload_n C 2 dX11_saidAt_64 rfl ?_
          refine G_X11_sizes C fl_X11_7 dX11_saidAt_65 ?_
          refine S_iload_n C 3 dX11_saidAt_68 rfl ?_
          refine L_X11_sizes C dX11_saidAt_69 (fun _ => ?_)
          refine S_icmp_ge C 96 dX11_saidAt_70 (by decide) ?_ ?_
          · refine S_iconst C (0) dX11_saidAt_96 (by decide) ?_
            refine S_istore C [(7, .int 0), (6, .int (x6 + 1)), (9, .int x9_1), (0, .ref (aC z 0)), (1, .int x1), (2, .int x2), (3, .int x3), (4, .int x4), (5, .int x5), (8, .int x8)] dX11_saidAt_97 (by decide) rfl ?_
            refine S_iinc C 9 [(8, .int (x8 + 1)), (7, .int 0), (6, .int (x6 + 1)), (9, .int x9_1), (0, .ref (aC z 0)), (1, .int x1), (2, .int x2), (3, .int x3), (4, .int x4), (5, .int x5)] (x8 + 1) dX11_saidAt_99 rfl rfl (by decide) rfl ?_
            refine S_goto C 27 dX11_saidAt_102 (by decide) ?_
            exact S_sub [4, 5, 6, 7, 8, 9, 2, 1, 0] rfl (ih x1 x2 x3 x4 x5 (x6 + 1) (0 : Int32) (x8 + 1))
          · refine S_aload_n C 2 dX11_saidAt_73 rfl ?_
            refine G_X11_letters C fl_X11_13 dX11_saidAt_74 ?_
            refine S_bipush C (10) dX11_saidAt_77 (by decide) ?_
            refine S_iload_n C 3 dX11_saidAt_79 rfl ?_
            refine S_imul C dX11_saidAt_80 ?_
            refine S_iload_n C 4 dX11_saidAt_81 rfl ?_
            refine S_iadd C dX11_saidAt_82 ?_
            refine S_iload C 9 dX11_saidAt_83 rfl ?_
            refine S_iadd C dX11_saidAt_85 ?_
            refine L_X11_letters C dX11_saidAt_86 (fun _ => ?_)
            refine S_iload C 1 dX11_saidAt_87 rfl ?_
            refine S_icmp_ne C 96 dX11_saidAt_89 (by decide) ?_ ?_
            · refine S_iconst C (0) dX11_saidAt_96 (by decide) ?_
              refine S_istore C [(7, .int 0), (6, .int (x6 + 1)), (9, .int x9_1), (0, .ref (aC z 0)), (1, .int x1), (2, .int x2), (3, .int x3), (4, .int x4), (5, .int x5), (8, .int x8)] dX11_saidAt_97 (by decide) rfl ?_
              refine S_iinc C 9 [(8, .int (x8 + 1)), (7, .int 0), (6, .int (x6 + 1)), (9, .int x9_1), (0, .ref (aC z 0)), (1, .int x1), (2, .int x2), (3, .int x3), (4, .int x4), (5, .int x5)] (x8 + 1) dX11_saidAt_99 rfl rfl (by decide) rfl ?_
              refine S_goto C 27 dX11_saidAt_102 (by decide) ?_
              exact S_sub [4, 5, 6, 7, 8, 9, 2, 1, 0] rfl (ih x1 x2 x3 x4 x5 (x6 + 1) (0 : Int32) (x8 + 1))
            · refine S_iconst C (1) dX11_saidAt_92 (by decide) ?_
              refine S_goto C 97 dX11_saidAt_93 (by decide) ?_
              refine S_istore C [(7, .int 1), (6, .int (x6 + 1)), (9, .int x9_1), (0, .ref (aC z 0)), (1, .int x1), (2, .int x2), (3, .int x3), (4, .int x4), (5, .int x5), (8, .int x8)] dX11_saidAt_97 (by decide) rfl ?_
              refine S_iinc C 9 [(8, .int (x8 + 1)), (7, .int 1), (6, .int (x6 + 1)), (9, .int x9_1), (0, .ref (aC z 0)), (1, .int x1), (2, .int x2), (3, .int x3), (4, .int x4), (5, .int x5)] (x8 + 1) dX11_saidAt_99 rfl rfl (by decide) rfl ?_
              refine S_goto C 27 dX11_saidAt_102 (by decide) ?_
              exact S_sub [4, 5, 6, 7, 8, 9, 2, 1, 0] rfl (ih x1 x2 x3 x4 x5 (x6 + 1) (1 : Int32) (x8 + 1))
set_option maxRecDepth 10000 in
theorem WT_X11_saidAt_L9 {x : MX} {z : ZT} (C : Cok x (wxM z) RX11 cX11_saidAt 10 (some .int) 0 0) (σ : St) : ∀ (n : Nat) (x1 : Int32) (x2 : Int32) (x3 : Int32) (x4 : Int32) (x5 : Int32), Sim x (wxM z) 10 (jI σ) (X11_saidAt_L9 σ n x1 x2 x3 x4 x5) 9 [(0, .ref (aC z 0)), (1, .int x1), (2, .int x2), (3, .int x3), (4, .int x4), (5, .int x5)] [] σ := by
  intro n
  induction n with
  | zero =>
    intros
    exact S_none
  | succ n ih =>
    intro x1 x2 x3 x4 x5
    rw [X11_saidAt_L9]
    refine S_iload C 5 dX11_saidAt_9 rfl ?_
    refine S_aload_n C 0 dX11_saidAt_11 rfl ?_
    refine G_X11_says C fl_X11_253 dX11_saidAt_12 ?_
    refine S_icmp_ge C 130 dX11_saidAt_15 (by decide) ?_ ?_
    · refine S_iload_n C 3 dX11_saidAt_130 rfl ?_
      exact S_iret C rfl dX11_saidAt_131
    · refine S_iconst C (0) dX11_saidAt_18 (by decide) ?_
      refine S_istore C [(6, .int 0), (0, .ref (aC z 0)), (1, .int x1), (2, .int x2), (3, .int x3), (4, .int x4), (5, .int x5)] dX11_saidAt_19 (by decide) rfl ?_
      refine S_iconst C (1) dX11_saidAt_21 (by decide) ?_
      refine S_istore C [(7, .int 1), (6, .int 0), (0, .ref (aC z 0)), (1, .int x1), (2, .int x2), (3, .int x3), (4, .int x4), (5, .int x5)] dX11_saidAt_22 (by decide) rfl ?_
      refine S_iconst C (0) dX11_saidAt_24 (by decide) ?_
      refine S_istore C [(8, .int 0), (7, .int 1), (6, .int 0), (0, .ref (aC z 0)), (1, .int x1), (2, .int x2), (3, .int x3), (4, .int x4), (5, .int x5)] dX11_saidAt_25 (by decide) rfl ?_
      exact S_sub [3, 4, 5, 6, 7, 8, 2, 1, 0] rfl (WT_X11_saidAt_L27 C σ _ ih FU x1 x2 x3 x4 x5 (0 : Int32) (1 : Int32) (0 : Int32))
set_option maxRecDepth 10000 in
theorem WT_X11_saidAt {x : MX} {z : ZT} (C : Cok x (wxM z) RX11 cX11_saidAt 10 (some .int) 0 0) (x1 : Int32) (x2 : Int32) (σ : St) : Sim x (wxM z) 10 (jI σ) (X11_saidAt x1 x2 σ) 0 [(0, .ref (aC z 0)), (1, .int x1), (2, .int x2)] [] σ := by
  rw [X11_saidAt]
  refine S_bipush C (-4) dX11_saidAt_0 (by decide) ?_
  refine S_istore_n C [(3, .int (-4)), (0, .ref (aC z 0)), (1, .int x1), (2, .int x2)] (i := 3) dX11_saidAt_2 rfl (by decide) rfl ?_
  refine S_iconst C (0) dX11_saidAt_3 (by decide) ?_
  refine S_istore C [(4, .int 0), (3, .int (-4)), (0, .ref (aC z 0)), (1, .int x1), (2, .int x2)] dX11_saidAt_4 (by decide) rfl ?_
  refine S_iconst C (0) dX11_saidAt_6 (by decide) ?_
  refine S_istore C [(5, .int 0), (4, .int 0), (3, .int (-4)), (0, .ref (aC z 0)), (1, .int x1), (2, .int x2)] dX11_saidAt_7 (by decide) rfl ?_
  exact S_sub [3, 4, 5, 2, 1, 0] rfl (WT_X11_saidAt_L9 C σ FU x1 x2 (-4 : Int32) (0 : Int32) (0 : Int32))
set_option maxRecDepth 10000 in
theorem con_X11_saidAt (z : ZT) (l : Launch) (x1 : Int32) (x2 : Int32) (σ : St) : ∀ ro, X11_saidAt x1 x2 σ = some ro → Con (wxM z) l yX11_saidAt cX11_saidAt 10 (some .int) 0 0 [.ref (aC z 0), .int x1, .int x2] σ ((jI σ) ro) :=
  fun ro hk => Con_of hk (by decide) (Nat.le_of_ble_eq_true rfl) (fun x hx C => WT_X11_saidAt C x1 x2 σ)
set_option maxRecDepth 10000 in
theorem K_X11_saidAt {x : MX} {z : ZT} {own : String} {cc : ByteArray} {nL : Nat} {ret : Option FieldType} {fr lo : Nat} {ρ : Type} {inj : ρ → Option Value × St} {pc : Nat} {lv : List (Nat × Value)} {st : List Value} {σ : St} (C : Cok x (wxM z) own cc nL ret fr lo) {x1 : Int32} {x2 : Int32} {index : Nat} (hl : Cond.methodLink own index yX11_saidAt ∈ gtb) (hR : 0 + 1 ≤ fr ∧ 8 + (10 + 11) + 0 ≤ lo) (hW : (st.map fun v => v.category).sum ≤ 8) (hd : decode cc pc = .ok (.invokevirtual index, 3)) {K : Int32 → Option ρ} (h : ∀ v, Sim x (wxM z) nL inj (K v) (pc + 3) lv (.int v :: st) σ) : Sim x (wxM z) nL inj ((X11_saidAt x1 x2 σ).bind K) pc lv (.int x2 :: .int x1 :: .ref (aC z 0) :: st) σ :=
  S_callV C (As := [.int x1, .int x2]) (q := 0) (inj1 := (jI σ)) mw_X11_saidAt mv_X11_saidAt hl (fun ro hro => con_X11_saidAt z (mL x) x1 x2 σ ro hro) hR rfl (show 0 < 48 by decide) rfl (ce_X11 z σ) rfl rfl hW hd h
set_option maxRecDepth 10000 in
theorem WT_X11_saidSize_B19 {x : MX} {z : ZT} (C : Cok x (wxM z) RX11 cX11_saidSize 2 (some .int) 0 0) (σ : St) (x1 : Int32) (s0 : Int32) (s1 : Int32) : Sim x (wxM z) 2 (jI σ) (X11_saidSize_B19 σ x1 s0 s1) 19 [(0, .ref (aC z 0)), (1, .int x1)] [.int s0, .int s1] σ := by
  rw [X11_saidSize_B19]
  refine S_iadd C dX11_saidSize_19 ?_
  refine S_aload_n C 0 dX11_saidSize_20 rfl ?_
  refine G_X11_sayLetters C fl_X11_31 dX11_saidSize_21 ?_
  refine S_iconst C (3) dX11_saidSize_24 (by decide) ?_
  refine S_iload_n C 1 dX11_saidSize_25 rfl ?_
  refine S_imul C dX11_saidSize_26 ?_
  refine S_iconst C (2) dX11_saidSize_27 (by decide) ?_
  refine S_iadd C dX11_saidSize_28 ?_
  refine L_X11_sayLetters C dX11_saidSize_29 (fun _ => ?_)
  refine S_if_le C 37 dX11_saidSize_30 (by decide) ?_ ?_
  · refine S_iconst C (0) dX11_saidSize_37 (by decide) ?_
    refine S_iadd C dX11_saidSize_38 ?_
    exact S_iret C rfl dX11_saidSize_39
  · refine S_iconst C (1) dX11_saidSize_33 (by decide) ?_
    refine S_goto C 38 dX11_saidSize_34 (by decide) ?_
    refine S_iadd C dX11_saidSize_38 ?_
    exact S_iret C rfl dX11_saidSize_39
set_option maxRecDepth 10000 in
theorem WT_X11_saidSize {x : MX} {z : ZT} (C : Cok x (wxM z) RX11 cX11_saidSize 2 (some .int) 0 0) (x1 : Int32) (σ : St) : Sim x (wxM z) 2 (jI σ) (X11_saidSize x1 σ) 0 [(0, .ref (aC z 0)), (1, .int x1)] [] σ := by
  rw [X11_saidSize]
  refine S_iconst C (1) dX11_saidSize_0 (by decide) ?_
  refine S_aload_n C 0 dX11_saidSize_1 rfl ?_
  refine G_X11_sayLetters C fl_X11_31 dX11_saidSize_2 ?_
  refine S_iconst C (3) dX11_saidSize_5 (by decide) ?_
  refine S_iload_n C 1 dX11_saidSize_6 rfl ?_
  refine S_imul C dX11_saidSize_7 ?_
  refine S_iconst C (1) dX11_saidSize_8 (by decide) ?_
  refine S_iadd C dX11_saidSize_9 ?_
  refine L_X11_sayLetters C dX11_saidSize_10 (fun _ => ?_)
  refine S_if_le C 18 dX11_saidSize_11 (by decide) ?_ ?_
  · refine S_iconst C (0) dX11_saidSize_18 (by decide) ?_
    exact S_sub [0, 1] rfl (WT_X11_saidSize_B19 C σ x1 (0 : Int32) (1 : Int32))
  · refine S_iconst C (1) dX11_saidSize_14 (by decide) ?_
    refine S_goto C 19 dX11_saidSize_15 (by decide) ?_
    exact S_sub [0, 1] rfl (WT_X11_saidSize_B19 C σ x1 (1 : Int32) (1 : Int32))
set_option maxRecDepth 10000 in
theorem con_X11_saidSize (z : ZT) (l : Launch) (x1 : Int32) (σ : St) : ∀ ro, X11_saidSize x1 σ = some ro → Con (wxM z) l yX11_saidSize cX11_saidSize 2 (some .int) 0 0 [.ref (aC z 0), .int x1] σ ((jI σ) ro) :=
  fun ro hk => Con_of hk (by decide) (Nat.le_of_ble_eq_true rfl) (fun x hx C => WT_X11_saidSize C x1 σ)
set_option maxRecDepth 10000 in
theorem K_X11_saidSize {x : MX} {z : ZT} {own : String} {cc : ByteArray} {nL : Nat} {ret : Option FieldType} {fr lo : Nat} {ρ : Type} {inj : ρ → Option Value × St} {pc : Nat} {lv : List (Nat × Value)} {st : List Value} {σ : St} (C : Cok x (wxM z) own cc nL ret fr lo) {x1 : Int32} {index : Nat} (hl : Cond.methodLink own index yX11_saidSize ∈ gtb) (hR : 0 + 1 ≤ fr ∧ 8 + (2 + 11) + 0 ≤ lo) (hW : (st.map fun v => v.category).sum ≤ 8) (hd : decode cc pc = .ok (.invokevirtual index, 3)) {K : Int32 → Option ρ} (h : ∀ v, Sim x (wxM z) nL inj (K v) (pc + 3) lv (.int v :: st) σ) : Sim x (wxM z) nL inj ((X11_saidSize x1 σ).bind K) pc lv (.int x1 :: .ref (aC z 0) :: st) σ :=
  S_callV C (As := [.int x1]) (q := 0) (inj1 := (jI σ)) mw_X11_saidSize mv_X11_saidSize hl (fun ro hro => con_X11_saidSize z (mL x) x1 σ ro hro) hR rfl (show 0 < 48 by decide) rfl (ce_X11 z σ) rfl rfl hW hd h
set_option maxRecDepth 10000 in
theorem WT_X11_laySound_L63 {x : MX} {z : ZT} (C : Cok x (wxM z) RX11 cX11_laySound 6 none 1 29) (kq4 : Int32 → Int32 → Int32 → St → Option St) (hk4 : ∀ (x1 : Int32) (x2 : Int32) (x3 : Int32) (σ : St), Sim x (wxM z) 6 jV (kq4 x1 x2 x3 σ) 4 [(0, .ref (aC z 0)), (1, .int x1), (2, .int x2), (3, .int x3)] [] σ) : ∀ (n : Nat) (x1 : Int32) (x2 : Int32) (x3 : Int32) (x4 : Int32) (x5 : Int32) (σ : St), Sim x (wxM z) 6 jV (X11_laySound_L63 kq4 n x1 x2 x3 x4 x5 σ) 63 [(0, .ref (aC z 0)), (1, .int x1), (2, .int x2), (3, .int x3), (4, .int x4), (5, .int x5)] [] σ := by
  intro n
  induction n with
  | zero =>
    intros
    exact S_none
  | succ n ih =>
    intro x1 x2 x3 x4 x5 σ
    rw [X11_laySound_L63]
    refine S_iload C 5 dX11_laySound_63 rfl ?_
    refine S_iconst C (2) dX11_laySound_65 (by decide) ?_
    refine S_icmp_ge C 116 dX11_laySound_66 (by decide) ?_ ?_
    · refine S_iload_n C 3 dX11_laySound_116 rfl ?_
      refine S_aload_n C 0 dX11_laySound_117 rfl ?_
      refine S_iload C 4 dX11_laySound_118 rfl ?_
      refine K_X11_saidSize C ml_X11_264 (by decide) (Nat.le_of_ble_eq_true rfl) dX11_laySound_120 (fun v3 => ?_)
      refine S_iadd C dX11_laySound_123 ?_
      refine S_bndT (fun x3_4 _ => ?_)
      refine S_istore_n C [(3, .int x3_4), (0, .ref (aC z 0)), (1, .int x1), (2, .int x2), (4, .int x4), (5, .int x5)] (i := 3) dX11_laySound_124 rfl (by decide) rfl ?_
      refine S_goto C 4 dX11_laySound_125 (by decide) ?_
      exact S_sub [1, 2, 3, 0] rfl (hk4 x1 x2 x3_4 σ)
    · refine S_aload_n C 0 dX11_laySound_69 rfl ?_
      refine G_X11_saySounds C fl_X11_34 dX11_laySound_70 ?_
      refine S_iconst C (2) dX11_laySound_73 (by decide) ?_
      refine S_iload C 4 dX11_laySound_74 rfl ?_
      refine S_imul C dX11_laySound_76 ?_
      refine S_iload C 5 dX11_laySound_77 rfl ?_
      refine S_iadd C dX11_laySound_79 ?_
      refine L_X11_saySounds C dX11_laySound_80 (fun _ => ?_)
      refine S_if_le C 110 dX11_laySound_81 (by decide) ?_ ?_
      · refine S_iinc C 5 [(5, .int (x5 + 1)), (0, .ref (aC z 0)), (1, .int x1), (2, .int x2), (3, .int x3), (4, .int x4)] (x5 + 1) dX11_laySound_110 rfl rfl (by decide) rfl ?_
        refine S_goto C 63 dX11_laySound_113 (by decide) ?_
        exact S_sub [1, 2, 3, 4, 5, 0] rfl (ih x1 x2 x3 x4 (x5 + 1) σ)
      · refine S_aload_n C 0 dX11_laySound_84 rfl ?_
        refine G_X11_soundOf C fl_X11_67 dX11_laySound_85 ?_
        refine S_bipush C (20) dX11_laySound_88 (by decide) ?_
        refine S_iload_n C 1 dX11_laySound_90 rfl ?_
        refine S_imul C dX11_laySound_91 ?_
        refine S_iload_n C 2 dX11_laySound_92 rfl ?_
        refine S_iadd C dX11_laySound_93 ?_
        refine S_aload_n C 0 dX11_laySound_94 rfl ?_
        refine G_X11_saySounds C fl_X11_34 dX11_laySound_95 ?_
        refine S_iconst C (2) dX11_laySound_98 (by decide) ?_
        refine S_iload C 4 dX11_laySound_99 rfl ?_
        refine S_imul C dX11_laySound_101 ?_
        refine S_iload C 5 dX11_laySound_102 rfl ?_
        refine S_iadd C dX11_laySound_104 ?_
        refine L_X11_saySounds C dX11_laySound_105 (fun _ => ?_)
        refine T_X11_soundOf C dX11_laySound_106 (fun _ => ?_)
        refine S_bndS (fun σ5 _ => ?_)
        refine S_iinc C 2 [(2, .int (x2 + 1)), (0, .ref (aC z 0)), (1, .int x1), (3, .int x3), (4, .int x4), (5, .int x5)] (x2 + 1) dX11_laySound_107 rfl rfl (by decide) rfl ?_
        refine S_iinc C 5 [(5, .int (x5 + 1)), (2, .int (x2 + 1)), (0, .ref (aC z 0)), (1, .int x1), (3, .int x3), (4, .int x4)] (x5 + 1) dX11_laySound_110 rfl rfl (by decide) rfl ?_
        refine S_goto C 63 dX11_laySound_113 (by decide) ?_
        exact S_sub [2, 3, 1, 4, 5, 0] rfl (ih x1 (x2 + 1) x3 x4 (x5 + 1) σ5)
set_option maxRecDepth 10000 in
theorem WT_X11_laySound_L4 {x : MX} {z : ZT} (C : Cok x (wxM z) RX11 cX11_laySound 6 none 1 29) : ∀ (n : Nat) (x1 : Int32) (x2 : Int32) (x3 : Int32) (σ : St), Sim x (wxM z) 6 jV (X11_laySound_L4 n x1 x2 x3 σ) 4 [(0, .ref (aC z 0)), (1, .int x1), (2, .int x2), (3, .int x3)] [] σ := by
  intro n
  induction n with
  | zero =>
    intros
    exact S_none
  | succ n ih =>
    intro x1 x2 x3 σ
    rw [X11_laySound_L4]
    refine S_iload_n C 3 dX11_laySound_4 rfl ?_
    refine S_aload_n C 0 dX11_laySound_5 rfl ?_
    refine G_X11_sizes C fl_X11_7 dX11_laySound_6 ?_
    refine S_iload_n C 1 dX11_laySound_9 rfl ?_
    refine L_X11_sizes C dX11_laySound_10 (fun _ => ?_)
    refine S_icmp_ge C 128 dX11_laySound_11 (by decide) ?_ ?_
    · refine S_aload_n C 0 dX11_laySound_128 rfl ?_
      refine G_X11_soundMany C fl_X11_64 dX11_laySound_129 ?_
      refine S_iload_n C 1 dX11_laySound_132 rfl ?_
      refine S_iload_n C 2 dX11_laySound_133 rfl ?_
      refine T_X11_soundMany C dX11_laySound_134 (fun _ => ?_)
      refine S_bndS (fun σ1 _ => ?_)
      exact S_vret C rfl dX11_laySound_135
    · refine S_aload_n C 0 dX11_laySound_14 rfl ?_
      refine S_iload_n C 1 dX11_laySound_15 rfl ?_
      refine S_iload_n C 3 dX11_laySound_16 rfl ?_
      refine K_X11_saidAt C ml_X11_261 (by decide) (Nat.le_of_ble_eq_true rfl) dX11_laySound_17 (fun v2 => ?_)
      refine S_istore C [(4, .int v2), (0, .ref (aC z 0)), (1, .int x1), (2, .int x2), (3, .int x3)] dX11_laySound_20 (by decide) rfl ?_
      refine S_iload C 0 dX11_laySound_22 rfl ?_
      refine S_bipush C (-4) dX11_laySound_24 (by decide) ?_
      refine S_icmp_ne C 60 dX11_laySound_26 (by decide) ?_ ?_
      · refine S_iconst C (0) dX11_laySound_60 (by decide) ?_
        refine S_istore C [(5, .int 0), (4, .int v2), (0, .ref (aC z 0)), (1, .int x1), (2, .int x2), (3, .int x3)] dX11_laySound_61 (by decide) rfl ?_
        exact S_sub [2, 3, 4, 5, 1, 0] rfl (WT_X11_laySound_L63 C _ ih FU x1 x2 x3 v2 (0 : Int32) σ)
      · refine S_aload_n C 1 dX11_laySound_29 rfl ?_
        refine G_X11_soundOf C fl_X11_67 dX11_laySound_30 ?_
        refine S_bipush C (20) dX11_laySound_33 (by decide) ?_
        refine S_iload_n C 2 dX11_laySound_35 rfl ?_
        refine S_imul C dX11_laySound_36 ?_
        refine S_iload_n C 3 dX11_laySound_37 rfl ?_
        refine S_iadd C dX11_laySound_38 ?_
        refine S_aload_n C 1 dX11_laySound_39 rfl ?_
        refine G_X11_letters C fl_X11_13 dX11_laySound_40 ?_
        refine S_bipush C (10) dX11_laySound_43 (by decide) ?_
        refine S_iload_n C 2 dX11_laySound_45 rfl ?_
        refine S_imul C dX11_laySound_46 ?_
        refine S_iload_n C 4 dX11_laySound_47 rfl ?_
        refine S_iadd C dX11_laySound_48 ?_
        refine L_X11_letters C dX11_laySound_49 (fun _ => ?_)
        refine T_X11_soundOf C dX11_laySound_50 (fun _ => ?_)
        refine S_bndS (fun σ6 _ => ?_)
        refine S_iinc C 3 [(2, .int (x2 + 1)), (4, .int v2), (0, .ref (aC z 0)), (1, .int x1), (3, .int x3)] (x2 + 1) dX11_laySound_51 rfl rfl (by decide) rfl ?_
        refine S_iinc C 4 [(3, .int (x3 + 1)), (2, .int (x2 + 1)), (4, .int v2), (0, .ref (aC z 0)), (1, .int x1)] (x3 + 1) dX11_laySound_54 rfl rfl (by decide) rfl ?_
        refine S_goto C 125 dX11_laySound_57 (by decide) ?_
        refine S_goto C 4 dX11_laySound_125 (by decide) ?_
        exact S_sub [3, 4, 1, 0] rfl (ih x1 (x2 + 1) (x3 + 1) σ6)
set_option maxRecDepth 10000 in
theorem WT_X11_laySound {x : MX} {z : ZT} (C : Cok x (wxM z) RX11 cX11_laySound 6 none 1 29) (x1 : Int32) (σ : St) : Sim x (wxM z) 6 jV (X11_laySound x1 σ) 0 [(0, .ref (aC z 0)), (1, .int x1)] [] σ := by
  rw [X11_laySound]
  refine S_iconst C (0) dX11_laySound_0 (by decide) ?_
  refine S_istore_n C [(2, .int 0), (0, .ref (aC z 0)), (1, .int x1)] (i := 2) dX11_laySound_1 rfl (by decide) rfl ?_
  refine S_iconst C (0) dX11_laySound_2 (by decide) ?_
  refine S_istore_n C [(3, .int 0), (2, .int 0), (0, .ref (aC z 0)), (1, .int x1)] (i := 3) dX11_laySound_3 rfl (by decide) rfl ?_
  exact S_sub [2, 3, 1, 0] rfl (WT_X11_laySound_L4 C FU x1 (0 : Int32) (0 : Int32) σ)
set_option maxRecDepth 10000 in
theorem con_X11_laySound (z : ZT) (l : Launch) (x1 : Int32) (σ : St) : ∀ ro, X11_laySound x1 σ = some ro → Con (wxM z) l yX11_laySound cX11_laySound 6 none 1 29 [.ref (aC z 0), .int x1] σ (jV ro) :=
  fun ro hk => Con_of hk (by decide) (Nat.le_of_ble_eq_true rfl) (fun x hx C => WT_X11_laySound C x1 σ)
set_option maxRecDepth 10000 in
theorem K_X11_laySound {x : MX} {z : ZT} {own : String} {cc : ByteArray} {nL : Nat} {ret : Option FieldType} {fr lo : Nat} {ρ : Type} {inj : ρ → Option Value × St} {pc : Nat} {lv : List (Nat × Value)} {st : List Value} {σ : St} (C : Cok x (wxM z) own cc nL ret fr lo) {x1 : Int32} {index : Nat} (hl : Cond.methodLink own index yX11_laySound ∈ gtb) (hR : 1 + 1 ≤ fr ∧ 8 + (6 + 11) + 29 ≤ lo) (hW : (st.map fun v => v.category).sum ≤ 8) (hd : decode cc pc = .ok (.invokevirtual index, 3)) {K : St → Option ρ} (h : ∀ v, Sim x (wxM z) nL inj (K v) (pc + 3) lv (st) v) : Sim x (wxM z) nL inj ((X11_laySound x1 σ).bind K) pc lv (.int x1 :: .ref (aC z 0) :: st) σ :=
  S_callV C (As := [.int x1]) (q := 0) (inj1 := jV) mw_X11_laySound mv_X11_laySound hl (fun ro hro => con_X11_laySound z (mL x) x1 σ ro hro) hR rfl (show 0 < 48 by decide) rfl (ce_X11 z σ) rfl rfl hW hd h
set_option maxRecDepth 10000 in
theorem WT_X11_changed_B37 {x : MX} {z : ZT} (C : Cok x (wxM z) RX11 cX11_changed 4 (some .int) 0 0) (σ : St) (kq9 : Int32 → Int32 → Int32 → Option Int32) (hk9 : ∀ (x1 : Int32) (x2 : Int32) (x3 : Int32), Sim x (wxM z) 4 (jI σ) (kq9 x1 x2 x3) 9 [(0, .ref (aC z 0)), (1, .int x1), (2, .int x2), (3, .int x3)] [] σ) (x1 : Int32) (x2 : Int32) (x3 : Int32) : Sim x (wxM z) 4 (jI σ) (X11_changed_B37 kq9 σ x1 x2 x3) 37 [(0, .ref (aC z 0)), (1, .int x1), (2, .int x2), (3, .int x3)] [] σ := by
  rw [X11_changed_B37]
  refine S_aload_n C 0 dX11_changed_37 rfl ?_
  refine G_X11_likeOne C fl_X11_37 dX11_changed_38 ?_
  refine S_iload_n C 3 dX11_changed_41 rfl ?_
  refine L_X11_likeOne C dX11_changed_42 (fun _ => ?_)
  refine S_iload_n C 2 dX11_changed_43 rfl ?_
  refine S_icmp_ne C 64 dX11_changed_44 (by decide) ?_ ?_
  · refine S_iinc C 3 [(3, .int (x3 + 1)), (0, .ref (aC z 0)), (1, .int x1), (2, .int x2)] (x3 + 1) dX11_changed_64 rfl rfl (by decide) rfl ?_
    refine S_goto C 9 dX11_changed_67 (by decide) ?_
    exact S_sub [1, 2, 3, 0] rfl (hk9 x1 x2 (x3 + 1))
  · refine S_aload_n C 0 dX11_changed_47 rfl ?_
    refine G_X11_likeTwo C fl_X11_40 dX11_changed_48 ?_
    refine S_iload_n C 3 dX11_changed_51 rfl ?_
    refine L_X11_likeTwo C dX11_changed_52 (fun _ => ?_)
    refine S_iload_n C 1 dX11_changed_53 rfl ?_
    refine S_icmp_ne C 64 dX11_changed_54 (by decide) ?_ ?_
    · refine S_iinc C 3 [(3, .int (x3 + 1)), (0, .ref (aC z 0)), (1, .int x1), (2, .int x2)] (x3 + 1) dX11_changed_64 rfl rfl (by decide) rfl ?_
      refine S_goto C 9 dX11_changed_67 (by decide) ?_
      exact S_sub [1, 2, 3, 0] rfl (hk9 x1 x2 (x3 + 1))
    · refine S_aload_n C 0 dX11_changed_57 rfl ?_
      refine G_X11_likeBy C fl_X11_43 dX11_changed_58 ?_
      refine S_iload_n C 3 dX11_changed_61 rfl ?_
      refine L_X11_likeBy C dX11_changed_62 (fun _ => ?_)
      exact S_iret C rfl dX11_changed_63
set_option maxRecDepth 10000 in
theorem WT_X11_changed_L9 {x : MX} {z : ZT} (C : Cok x (wxM z) RX11 cX11_changed 4 (some .int) 0 0) (σ : St) : ∀ (n : Nat) (x1 : Int32) (x2 : Int32) (x3 : Int32), Sim x (wxM z) 4 (jI σ) (X11_changed_L9 σ n x1 x2 x3) 9 [(0, .ref (aC z 0)), (1, .int x1), (2, .int x2), (3, .int x3)] [] σ := by
  intro n
  induction n with
  | zero =>
    intros
    exact S_none
  | succ n ih =>
    intro x1 x2 x3
    rw [X11_changed_L9]
    refine S_iload_n C 3 dX11_changed_9 rfl ?_
    refine S_aload_n C 0 dX11_changed_10 rfl ?_
    refine G_X11_likes C fl_X11_256 dX11_changed_11 ?_
    refine S_icmp_ge C 70 dX11_changed_14 (by decide) ?_ ?_
    · refine S_aload_n C 0 dX11_changed_70 rfl ?_
      refine G_X11_holds C fl_X11_28 dX11_changed_71 ?_
      refine S_iconst C (1) dX11_changed_74 (by decide) ?_
      refine Lk_X11_holds C 1 (by decide) dX11_changed_75 ?_
      exact S_iret C rfl dX11_changed_76
    · refine S_aload_n C 0 dX11_changed_17 rfl ?_
      refine G_X11_likeOne C fl_X11_37 dX11_changed_18 ?_
      refine S_iload_n C 3 dX11_changed_21 rfl ?_
      refine L_X11_likeOne C dX11_changed_22 (fun _ => ?_)
      refine S_iload_n C 1 dX11_changed_23 rfl ?_
      refine S_icmp_ne C 37 dX11_changed_24 (by decide) ?_ ?_
      · exact S_sub [0, 1, 2, 3] rfl (WT_X11_changed_B37 C σ _ ih x1 x2 x3)
      · refine S_aload_n C 0 dX11_changed_27 rfl ?_
        refine G_X11_likeTwo C fl_X11_40 dX11_changed_28 ?_
        refine S_iload_n C 3 dX11_changed_31 rfl ?_
        refine L_X11_likeTwo C dX11_changed_32 (fun _ => ?_)
        refine S_iload_n C 2 dX11_changed_33 rfl ?_
        refine S_icmp_eq C 57 dX11_changed_34 (by decide) ?_ ?_
        · refine S_aload_n C 0 dX11_changed_57 rfl ?_
          refine G_X11_likeBy C fl_X11_43 dX11_changed_58 ?_
          refine S_iload_n C 3 dX11_changed_61 rfl ?_
          refine L_X11_likeBy C dX11_changed_62 (fun _ => ?_)
          exact S_iret C rfl dX11_changed_63
        · exact S_sub [0, 1, 2, 3] rfl (WT_X11_changed_B37 C σ _ ih x1 x2 x3)
set_option maxRecDepth 10000 in
theorem WT_X11_changed {x : MX} {z : ZT} (C : Cok x (wxM z) RX11 cX11_changed 4 (some .int) 0 0) (x1 : Int32) (x2 : Int32) (σ : St) : Sim x (wxM z) 4 (jI σ) (X11_changed x1 x2 σ) 0 [(0, .ref (aC z 0)), (1, .int x1), (2, .int x2)] [] σ := by
  rw [X11_changed]
  refine S_iload_n C 1 dX11_changed_0 rfl ?_
  refine S_iload_n C 2 dX11_changed_1 rfl ?_
  refine S_icmp_ne C 7 dX11_changed_2 (by decide) ?_ ?_
  · refine S_iconst C (0) dX11_changed_7 (by decide) ?_
    refine S_istore_n C [(3, .int 0), (0, .ref (aC z 0)), (1, .int x1), (2, .int x2)] (i := 3) dX11_changed_8 rfl (by decide) rfl ?_
    exact S_sub [1, 2, 3, 0] rfl (WT_X11_changed_L9 C σ FU x1 x2 (0 : Int32))
  · refine S_iconst C (0) dX11_changed_5 (by decide) ?_
    exact S_iret C rfl dX11_changed_6
set_option maxRecDepth 10000 in
theorem con_X11_changed (z : ZT) (l : Launch) (x1 : Int32) (x2 : Int32) (σ : St) : ∀ ro, X11_changed x1 x2 σ = some ro → Con (wxM z) l yX11_changed cX11_changed 4 (some .int) 0 0 [.ref (aC z 0), .int x1, .int x2] σ ((jI σ) ro) :=
  fun ro hk => Con_of hk (by decide) (Nat.le_of_ble_eq_true rfl) (fun x hx C => WT_X11_changed C x1 x2 σ)
set_option maxRecDepth 10000 in
theorem K_X11_changed {x : MX} {z : ZT} {own : String} {cc : ByteArray} {nL : Nat} {ret : Option FieldType} {fr lo : Nat} {ρ : Type} {inj : ρ → Option Value × St} {pc : Nat} {lv : List (Nat × Value)} {st : List Value} {σ : St} (C : Cok x (wxM z) own cc nL ret fr lo) {x1 : Int32} {x2 : Int32} {index : Nat} (hl : Cond.methodLink own index yX11_changed ∈ gtb) (hR : 0 + 1 ≤ fr ∧ 8 + (4 + 11) + 0 ≤ lo) (hW : (st.map fun v => v.category).sum ≤ 8) (hd : decode cc pc = .ok (.invokevirtual index, 3)) {K : Int32 → Option ρ} (h : ∀ v, Sim x (wxM z) nL inj (K v) (pc + 3) lv (.int v :: st) σ) : Sim x (wxM z) nL inj ((X11_changed x1 x2 σ).bind K) pc lv (.int x2 :: .int x1 :: .ref (aC z 0) :: st) σ :=
  S_callV C (As := [.int x1, .int x2]) (q := 0) (inj1 := (jI σ)) mw_X11_changed mv_X11_changed hl (fun ro hro => con_X11_changed z (mL x) x1 x2 σ ro hro) hR rfl (show 0 < 48 by decide) rfl (ce_X11 z σ) rfl rfl hW hd h
set_option maxRecDepth 10000 in
theorem WT_X11_less {x : MX} {z : ZT} (C : Cok x (wxM z) RX11 cX11_less 2 (some .int) 0 0) (x0 : Int32) (x1 : Int32) (σ : St) : Sim x (wxM z) 2 (jI σ) (X11_less x0 x1 σ) 0 [(0, .int x0), (1, .int x1)] [] σ := by
  rw [X11_less]
  refine S_iload_n C 0 dX11_less_0 rfl ?_
  refine S_iload_n C 1 dX11_less_1 rfl ?_
  refine S_icmp_ge C 9 dX11_less_2 (by decide) ?_ ?_
  · refine S_iload_n C 1 dX11_less_9 rfl ?_
    exact S_iret C rfl dX11_less_10
  · refine S_iload_n C 0 dX11_less_5 rfl ?_
    refine S_goto C 10 dX11_less_6 (by decide) ?_
    exact S_iret C rfl dX11_less_10
set_option maxRecDepth 10000 in
theorem con_X11_less (z : ZT) (l : Launch) (x0 : Int32) (x1 : Int32) (σ : St) : ∀ ro, X11_less x0 x1 σ = some ro → Con (wxM z) l yX11_less cX11_less 2 (some .int) 0 0 [.int x0, .int x1] σ ((jI σ) ro) :=
  fun ro hk => Con_of hk (by decide) (Nat.le_of_ble_eq_true rfl) (fun x hx C => WT_X11_less C x0 x1 σ)
set_option maxRecDepth 10000 in
theorem K_X11_less {x : MX} {z : ZT} {own : String} {cc : ByteArray} {nL : Nat} {ret : Option FieldType} {fr lo : Nat} {ρ : Type} {inj : ρ → Option Value × St} {pc : Nat} {lv : List (Nat × Value)} {st : List Value} {σ : St} (C : Cok x (wxM z) own cc nL ret fr lo) {x0 : Int32} {x1 : Int32} {index : Nat} (hl : Cond.methodLink own index yX11_less ∈ gtb) (hR : 0 + 1 ≤ fr ∧ 8 + (2 + 11) + 0 ≤ lo) (hW : (st.map fun v => v.category).sum ≤ 8) (hd : decode cc pc = .ok (.invokestatic index, 3)) {K : Int32 → Option ρ} (h : ∀ v, Sim x (wxM z) nL inj (K v) (pc + 3) lv (.int v :: st) σ) : Sim x (wxM z) nL inj ((X11_less x0 x1 σ).bind K) pc lv (.int x1 :: .int x0 :: st) σ :=
  S_callS C (As := [.int x0, .int x1]) (inj1 := (jI σ)) mw_X11_less ms_X11_less hl (fun ro hro => con_X11_less z (mL x) x0 x1 σ ro hro) hR rfl rfl hW hd h
set_option maxRecDepth 10000 in
theorem WT_X11_farOf_B54 {x : MX} {z : ZT} (C : Cok x (wxM z) RX11 cX11_farOf 9 (some .int) 1 23) (kq27 : Int32 → Int32 → Int32 → Int32 → Int32 → Int32 → St → Option (Int32 × St)) (hk27 : ∀ (x1 : Int32) (x2 : Int32) (x3 : Int32) (x4 : Int32) (x5 : Int32) (x6 : Int32) (σ : St), Sim x (wxM z) 9 jIS (kq27 x1 x2 x3 x4 x5 x6 σ) 27 [(0, .ref (aC z 0)), (1, .int x1), (2, .int x2), (3, .int x3), (4, .int x4), (5, .int x5), (6, .int x6)] [] σ) (x1 : Int32) (x2 : Int32) (x3 : Int32) (x4 : Int32) (x5 : Int32) (x6 : Int32) (x7 : Int32) (σ : St) : Sim x (wxM z) 9 jIS (X11_farOf_B54 kq27 x1 x2 x3 x4 x5 x6 x7 σ) 54 [(0, .ref (aC z 0)), (1, .int x1), (2, .int x2), (3, .int x3), (4, .int x4), (5, .int x5), (6, .int x6), (7, .int x7)] [] σ := by
  rw [X11_farOf_B54]
  refine S_aload_n C 0 dX11_farOf_54 rfl ?_
  refine G_X11_table C fl_X11_76 dX11_farOf_55 ?_
  refine S_iload C 7 dX11_farOf_58 rfl ?_
  refine S_aload_n C 0 dX11_farOf_60 rfl ?_
  refine G_X11_holds C fl_X11_28 dX11_farOf_61 ?_
  refine S_iconst C (0) dX11_farOf_64 (by decide) ?_
  refine Lk_X11_holds C 0 (by decide) dX11_farOf_65 ?_
  refine S_iload C 5 dX11_farOf_66 rfl ?_
  refine S_iload C 6 dX11_farOf_68 rfl ?_
  refine S_iadd C dX11_farOf_70 ?_
  refine S_imul C dX11_farOf_71 ?_
  refine T_X11_table C dX11_farOf_72 (fun _ => ?_)
  refine S_bndS (fun σ4 _ => ?_)
  refine S_goto C 162 dX11_farOf_73 (by decide) ?_
  refine S_iinc C 6 [(6, .int (x6 + 1)), (0, .ref (aC z 0)), (1, .int x1), (2, .int x2), (3, .int x3), (4, .int x4), (5, .int x5), (7, .int x7)] (x6 + 1) dX11_farOf_162 rfl rfl (by decide) rfl ?_
  refine S_goto C 27 dX11_farOf_165 (by decide) ?_
  exact S_sub [1, 2, 3, 4, 5, 6, 0] rfl (hk27 x1 x2 x3 x4 x5 (x6 + 1) σ4)
set_option maxRecDepth 10000 in
theorem WT_X11_farOf_L27 {x : MX} {z : ZT} (C : Cok x (wxM z) RX11 cX11_farOf 9 (some .int) 1 23) (kq18 : Int32 → Int32 → Int32 → Int32 → Int32 → St → Option (Int32 × St)) (hk18 : ∀ (x1 : Int32) (x2 : Int32) (x3 : Int32) (x4 : Int32) (x5 : Int32) (σ : St), Sim x (wxM z) 9 jIS (kq18 x1 x2 x3 x4 x5 σ) 18 [(0, .ref (aC z 0)), (1, .int x1), (2, .int x2), (3, .int x3), (4, .int x4), (5, .int x5)] [] σ) : ∀ (n : Nat) (x1 : Int32) (x2 : Int32) (x3 : Int32) (x4 : Int32) (x5 : Int32) (x6 : Int32) (σ : St), Sim x (wxM z) 9 jIS (X11_farOf_L27 kq18 n x1 x2 x3 x4 x5 x6 σ) 27 [(0, .ref (aC z 0)), (1, .int x1), (2, .int x2), (3, .int x3), (4, .int x4), (5, .int x5), (6, .int x6)] [] σ := by
  intro n
  induction n with
  | zero =>
    intros
    exact S_none
  | succ n ih =>
    intro x1 x2 x3 x4 x5 x6 σ
    rw [X11_farOf_L27]
    refine S_iload C 6 dX11_farOf_27 rfl ?_
    refine S_iload C 4 dX11_farOf_29 rfl ?_
    refine S_icmp_gt C 168 dX11_farOf_31 (by decide) ?_ ?_
    · refine S_iinc C 5 [(5, .int (x5 + 1)), (0, .ref (aC z 0)), (1, .int x1), (2, .int x2), (3, .int x3), (4, .int x4), (6, .int x6)] (x5 + 1) dX11_farOf_168 rfl rfl (by decide) rfl ?_
      refine S_goto C 18 dX11_farOf_171 (by decide) ?_
      exact S_sub [1, 2, 3, 4, 5, 0] rfl (hk18 x1 x2 x3 x4 (x5 + 1) σ)
    · refine S_bipush C (21) dX11_farOf_34 (by decide) ?_
      refine S_iload C 5 dX11_farOf_36 rfl ?_
      refine S_imul C dX11_farOf_38 ?_
      refine S_iload C 6 dX11_farOf_39 rfl ?_
      refine S_iadd C dX11_farOf_41 ?_
      refine S_bndT (fun x7_3 _ => ?_)
      refine S_istore C [(7, .int x7_3), (0, .ref (aC z 0)), (1, .int x1), (2, .int x2), (3, .int x3), (4, .int x4), (5, .int x5), (6, .int x6)] dX11_farOf_42 (by decide) rfl ?_
      refine S_iload C 6 dX11_farOf_44 rfl ?_
      refine S_if_eq C 54 dX11_farOf_46 (by decide) ?_ ?_
      · exact S_sub [1, 2, 3, 4, 5, 6, 7, 0] rfl (WT_X11_farOf_B54 C _ ih x1 x2 x3 x4 x5 x6 x7_3 σ)
      · refine S_iload C 7 dX11_farOf_49 rfl ?_
        refine S_if_ne C 76 dX11_farOf_51 (by decide) ?_ ?_
        · refine S_aload_n C 1 dX11_farOf_76 rfl ?_
          refine G_X11_table C fl_X11_76 dX11_farOf_77 ?_
          refine S_iload C 0 dX11_farOf_80 rfl ?_
          refine S_bipush C (22) dX11_farOf_82 (by decide) ?_
          refine S_isub C dX11_farOf_84 ?_
          refine L_X11_table C dX11_farOf_85 (fun _ => ?_)
          refine S_aload_n C 1 dX11_farOf_86 rfl ?_
          refine S_aload_n C 1 dX11_farOf_87 rfl ?_
          refine G_X11_soundOf C fl_X11_67 dX11_farOf_88 ?_
          refine S_bipush C (20) dX11_farOf_91 (by decide) ?_
          refine S_iload_n C 2 dX11_farOf_93 rfl ?_
          refine S_imul C dX11_farOf_94 ?_
          refine S_iload C 6 dX11_farOf_95 rfl ?_
          refine S_iadd C dX11_farOf_97 ?_
          refine S_iconst C (1) dX11_farOf_98 (by decide) ?_
          refine S_isub C dX11_farOf_99 ?_
          refine L_X11_soundOf C dX11_farOf_100 (fun _ => ?_)
          refine S_aload_n C 1 dX11_farOf_101 rfl ?_
          refine G_X11_soundOf C fl_X11_67 dX11_farOf_102 ?_
          refine S_bipush C (20) dX11_farOf_105 (by decide) ?_
          refine S_iload_n C 3 dX11_farOf_107 rfl ?_
          refine S_imul C dX11_farOf_108 ?_
          refine S_iload C 7 dX11_farOf_109 rfl ?_
          refine S_iadd C dX11_farOf_111 ?_
          refine S_iconst C (1) dX11_farOf_112 (by decide) ?_
          refine S_isub C dX11_farOf_113 ?_
          refine L_X11_soundOf C dX11_farOf_114 (fun _ => ?_)
          refine K_X11_changed C ml_X11_267 (by decide) (Nat.le_of_ble_eq_true rfl) dX11_farOf_115 (fun v5 => ?_)
          refine S_iadd C dX11_farOf_118 ?_
          refine S_bndT (fun x8_6 _ => ?_)
          refine S_istore C [(8, .int x8_6), (7, .int x7_3), (0, .ref (aC z 0)), (1, .int x1), (2, .int x2), (3, .int x3), (4, .int x4), (5, .int x5), (6, .int x6)] dX11_farOf_119 (by decide) rfl ?_
          refine S_aload_n C 2 dX11_farOf_121 rfl ?_
          refine G_X11_table C fl_X11_76 dX11_farOf_122 ?_
          refine S_iload C 1 dX11_farOf_125 rfl ?_
          refine S_iload C 0 dX11_farOf_127 rfl ?_
          refine S_aload_n C 2 dX11_farOf_129 rfl ?_
          refine G_X11_holds C fl_X11_28 dX11_farOf_130 ?_
          refine S_iconst C (0) dX11_farOf_133 (by decide) ?_
          refine Lk_X11_holds C 0 (by decide) dX11_farOf_134 ?_
          refine S_aload_n C 2 dX11_farOf_135 rfl ?_
          refine G_X11_table C fl_X11_76 dX11_farOf_136 ?_
          refine S_iload C 1 dX11_farOf_139 rfl ?_
          refine S_bipush C (21) dX11_farOf_141 (by decide) ?_
          refine S_isub C dX11_farOf_143 ?_
          refine L_X11_table C dX11_farOf_144 (fun _ => ?_)
          refine S_aload_n C 2 dX11_farOf_145 rfl ?_
          refine G_X11_table C fl_X11_76 dX11_farOf_146 ?_
          refine S_iload C 1 dX11_farOf_149 rfl ?_
          refine S_iconst C (1) dX11_farOf_151 (by decide) ?_
          refine S_isub C dX11_farOf_152 ?_
          refine L_X11_table C dX11_farOf_153 (fun _ => ?_)
          refine K_X11_less C ml_X11_270 (by decide) (Nat.le_of_ble_eq_true rfl) dX11_farOf_154 (fun v7 => ?_)
          refine S_iadd C dX11_farOf_157 ?_
          refine K_X11_less C ml_X11_270 (by decide) (Nat.le_of_ble_eq_true rfl) dX11_farOf_158 (fun v8 => ?_)
          refine T_X11_table C dX11_farOf_161 (fun _ => ?_)
          refine S_bndS (fun σ9 _ => ?_)
          refine S_iinc C 8 [(6, .int (x6 + 1)), (8, .int x8_6), (7, .int x7_3), (0, .ref (aC z 0)), (1, .int x1), (2, .int x2), (3, .int x3), (4, .int x4), (5, .int x5)] (x6 + 1) dX11_farOf_162 rfl rfl (by decide) rfl ?_
          refine S_goto C 27 dX11_farOf_165 (by decide) ?_
          exact S_sub [3, 4, 5, 6, 7, 8, 0] rfl (ih x1 x2 x3 x4 x5 (x6 + 1) σ9)
        · exact S_sub [1, 2, 3, 4, 5, 6, 7, 0] rfl (WT_X11_farOf_B54 C _ ih x1 x2 x3 x4 x5 x6 x7_3 σ)
set_option maxRecDepth 10000 in
theorem WT_X11_farOf_L18 {x : MX} {z : ZT} (C : Cok x (wxM z) RX11 cX11_farOf 9 (some .int) 1 23) : ∀ (n : Nat) (x1 : Int32) (x2 : Int32) (x3 : Int32) (x4 : Int32) (x5 : Int32) (σ : St), Sim x (wxM z) 9 jIS (X11_farOf_L18 n x1 x2 x3 x4 x5 σ) 18 [(0, .ref (aC z 0)), (1, .int x1), (2, .int x2), (3, .int x3), (4, .int x4), (5, .int x5)] [] σ := by
  intro n
  induction n with
  | zero =>
    intros
    exact S_none
  | succ n ih =>
    intro x1 x2 x3 x4 x5 σ
    rw [X11_farOf_L18]
    refine S_iload C 5 dX11_farOf_18 rfl ?_
    refine S_iload_n C 3 dX11_farOf_20 rfl ?_
    refine S_icmp_gt C 174 dX11_farOf_21 (by decide) ?_ ?_
    · refine S_aload_n C 0 dX11_farOf_174 rfl ?_
      refine G_X11_table C fl_X11_76 dX11_farOf_175 ?_
      refine S_bipush C (21) dX11_farOf_178 (by decide) ?_
      refine S_iload_n C 3 dX11_farOf_180 rfl ?_
      refine S_imul C dX11_farOf_181 ?_
      refine S_iload C 4 dX11_farOf_182 rfl ?_
      refine S_iadd C dX11_farOf_184 ?_
      refine L_X11_table C dX11_farOf_185 (fun _ => ?_)
      exact S_iret C rfl dX11_farOf_186
    · refine S_iconst C (0) dX11_farOf_24 (by decide) ?_
      refine S_istore C [(6, .int 0), (0, .ref (aC z 0)), (1, .int x1), (2, .int x2), (3, .int x3), (4, .int x4), (5, .int x5)] dX11_farOf_25 (by decide) rfl ?_
      exact S_sub [1, 2, 3, 4, 5, 6, 0] rfl (WT_X11_farOf_L27 C _ ih FU x1 x2 x3 x4 x5 (0 : Int32) σ)
set_option maxRecDepth 10000 in
theorem WT_X11_farOf {x : MX} {z : ZT} (C : Cok x (wxM z) RX11 cX11_farOf 9 (some .int) 1 23) (x1 : Int32) (x2 : Int32) (σ : St) : Sim x (wxM z) 9 jIS (X11_farOf x1 x2 σ) 0 [(0, .ref (aC z 0)), (1, .int x1), (2, .int x2)] [] σ := by
  rw [X11_farOf]
  refine S_aload_n C 0 dX11_farOf_0 rfl ?_
  refine G_X11_soundMany C fl_X11_64 dX11_farOf_1 ?_
  refine S_iload_n C 1 dX11_farOf_4 rfl ?_
  refine L_X11_soundMany C dX11_farOf_5 (fun _ => ?_)
  refine S_bndT (fun x3_1 _ => ?_)
  refine S_istore_n C [(3, .int x3_1), (0, .ref (aC z 0)), (1, .int x1), (2, .int x2)] (i := 3) dX11_farOf_6 rfl (by decide) rfl ?_
  refine S_aload_n C 1 dX11_farOf_7 rfl ?_
  refine G_X11_soundMany C fl_X11_64 dX11_farOf_8 ?_
  refine S_iload_n C 3 dX11_farOf_11 rfl ?_
  refine L_X11_soundMany C dX11_farOf_12 (fun _ => ?_)
  refine S_bndT (fun x4_2 _ => ?_)
  refine S_istore C [(4, .int x4_2), (3, .int x3_1), (0, .ref (aC z 0)), (1, .int x1), (2, .int x2)] dX11_farOf_13 (by decide) rfl ?_
  refine S_iconst C (0) dX11_farOf_15 (by decide) ?_
  refine S_istore C [(5, .int 0), (4, .int x4_2), (3, .int x3_1), (0, .ref (aC z 0)), (1, .int x1), (2, .int x2)] dX11_farOf_16 (by decide) rfl ?_
  exact S_sub [3, 4, 5, 2, 1, 0] rfl (WT_X11_farOf_L18 C FU x1 x2 x3_1 x4_2 (0 : Int32) σ)
set_option maxRecDepth 10000 in
theorem con_X11_farOf (z : ZT) (l : Launch) (x1 : Int32) (x2 : Int32) (σ : St) : ∀ ro, X11_farOf x1 x2 σ = some ro → Con (wxM z) l yX11_farOf cX11_farOf 9 (some .int) 1 23 [.ref (aC z 0), .int x1, .int x2] σ (jIS ro) :=
  fun ro hk => Con_of hk (by decide) (Nat.le_of_ble_eq_true rfl) (fun x hx C => WT_X11_farOf C x1 x2 σ)
set_option maxRecDepth 10000 in
theorem K_X11_farOf {x : MX} {z : ZT} {own : String} {cc : ByteArray} {nL : Nat} {ret : Option FieldType} {fr lo : Nat} {ρ : Type} {inj : ρ → Option Value × St} {pc : Nat} {lv : List (Nat × Value)} {st : List Value} {σ : St} (C : Cok x (wxM z) own cc nL ret fr lo) {x1 : Int32} {x2 : Int32} {index : Nat} (hl : Cond.methodLink own index yX11_farOf ∈ gtb) (hR : 1 + 1 ≤ fr ∧ 8 + (9 + 11) + 23 ≤ lo) (hW : (st.map fun v => v.category).sum ≤ 8) (hd : decode cc pc = .ok (.invokevirtual index, 3)) {K : (Int32 × St) → Option ρ} (h : ∀ v, Sim x (wxM z) nL inj (K v) (pc + 3) lv (.int v.1 :: st) v.2) : Sim x (wxM z) nL inj ((X11_farOf x1 x2 σ).bind K) pc lv (.int x2 :: .int x1 :: .ref (aC z 0) :: st) σ :=
  S_callV C (As := [.int x1, .int x2]) (q := 0) (inj1 := jIS) mw_X11_farOf mv_X11_farOf hl (fun ro hro => con_X11_farOf z (mL x) x1 x2 σ ro hro) hR rfl (show 0 < 48 by decide) rfl (ce_X11 z σ) rfl rfl hW hd h
set_option maxRecDepth 10000 in
theorem WT_X11_layNames_L106 {x : MX} {z : ZT} (C : Cok x (wxM z) RX11 cX11_layNames 4 none 2 54) (kq96 : Int32 → Int32 → St → Option St) (hk96 : ∀ (x1 : Int32) (x2 : Int32) (σ : St), Sim x (wxM z) 4 jV (kq96 x1 x2 σ) 96 [(0, .ref (aC z 0)), (1, .int x1), (2, .int x2)] [] σ) : ∀ (n : Nat) (x1 : Int32) (x2 : Int32) (x3 : Int32) (σ : St), Sim x (wxM z) 4 jV (X11_layNames_L106 kq96 n x1 x2 x3 σ) 106 [(0, .ref (aC z 0)), (1, .int x1), (2, .int x2), (3, .int x3)] [] σ := by
  intro n
  induction n with
  | zero =>
    intros
    exact S_none
  | succ n ih =>
    intro x1 x2 x3 σ
    rw [X11_layNames_L106]
    refine S_iload_n C 3 dX11_layNames_106 rfl ?_
    refine S_aload_n C 0 dX11_layNames_107 rfl ?_
    refine G_X11_spellings C fl_X11_152 dX11_layNames_108 ?_
    refine S_icmp_ge C 169 dX11_layNames_111 (by decide) ?_ ?_
    · refine S_iinc C 2 [(2, .int (x2 + 1)), (0, .ref (aC z 0)), (1, .int x1), (3, .int x3)] (x2 + 1) dX11_layNames_169 rfl rfl (by decide) rfl ?_
      refine S_goto C 96 dX11_layNames_172 (by decide) ?_
      exact S_sub [1, 2, 0] rfl (hk96 x1 (x2 + 1) σ)
    · refine S_aload_n C 0 dX11_layNames_114 rfl ?_
      refine G_X11_nameOf C fl_X11_73 dX11_layNames_115 ?_
      refine S_iload_n C 3 dX11_layNames_118 rfl ?_
      refine L_X11_nameOf C dX11_layNames_119 (fun _ => ?_)
      refine S_aload_n C 0 dX11_layNames_120 rfl ?_
      refine G_X11_nameOf C fl_X11_73 dX11_layNames_121 ?_
      refine S_iload_n C 2 dX11_layNames_124 rfl ?_
      refine L_X11_nameOf C dX11_layNames_125 (fun _ => ?_)
      refine S_icmp_ge C 163 dX11_layNames_126 (by decide) ?_ ?_
      · refine S_iinc C 3 [(3, .int (x3 + 1)), (0, .ref (aC z 0)), (1, .int x1), (2, .int x2)] (x3 + 1) dX11_layNames_163 rfl rfl (by decide) rfl ?_
        refine S_goto C 106 dX11_layNames_166 (by decide) ?_
        exact S_sub [1, 2, 3, 0] rfl (ih x1 x2 (x3 + 1) σ)
      · refine S_aload_n C 0 dX11_layNames_129 rfl ?_
        refine G_X11_far C fl_X11_70 dX11_layNames_130 ?_
        refine S_bipush C (16) dX11_layNames_133 (by decide) ?_
        refine S_iload_n C 2 dX11_layNames_135 rfl ?_
        refine S_imul C dX11_layNames_136 ?_
        refine S_iload_n C 3 dX11_layNames_137 rfl ?_
        refine S_iadd C dX11_layNames_138 ?_
        refine L_X11_far C dX11_layNames_139 (fun _ => ?_)
        refine S_aload_n C 0 dX11_layNames_140 rfl ?_
        refine G_X11_holds C fl_X11_28 dX11_layNames_141 ?_
        refine S_iconst C (2) dX11_layNames_144 (by decide) ?_
        refine Lk_X11_holds C 2 (by decide) dX11_layNames_145 ?_
        refine S_icmp_gt C 163 dX11_layNames_146 (by decide) ?_ ?_
        · refine S_iinc C 3 [(3, .int (x3 + 1)), (0, .ref (aC z 0)), (1, .int x1), (2, .int x2)] (x3 + 1) dX11_layNames_163 rfl rfl (by decide) rfl ?_
          refine S_goto C 106 dX11_layNames_166 (by decide) ?_
          exact S_sub [1, 2, 3, 0] rfl (ih x1 x2 (x3 + 1) σ)
        · refine S_aload_n C 0 dX11_layNames_149 rfl ?_
          refine G_X11_nameOf C fl_X11_73 dX11_layNames_150 ?_
          refine S_iload_n C 2 dX11_layNames_153 rfl ?_
          refine S_aload_n C 0 dX11_layNames_154 rfl ?_
          refine G_X11_nameOf C fl_X11_73 dX11_layNames_155 ?_
          refine S_iload_n C 3 dX11_layNames_158 rfl ?_
          refine L_X11_nameOf C dX11_layNames_159 (fun _ => ?_)
          refine T_X11_nameOf C dX11_layNames_160 (fun _ => ?_)
          refine S_bndS (fun σ1 _ => ?_)
          refine S_iconst C (1) dX11_layNames_161 (by decide) ?_
          refine S_istore_n C [(1, .int 1), (0, .ref (aC z 0)), (2, .int x2), (3, .int x3)] (i := 1) dX11_layNames_162 rfl (by decide) rfl ?_
          refine S_iinc C 3 [(3, .int (x3 + 1)), (1, .int 1), (0, .ref (aC z 0)), (2, .int x2)] (x3 + 1) dX11_layNames_163 rfl rfl (by decide) rfl ?_
          refine S_goto C 106 dX11_layNames_166 (by decide) ?_
          exact S_sub [2, 1, 3, 0] rfl (ih (1 : Int32) x2 (x3 + 1) σ1)
set_option maxRecDepth 10000 in
theorem WT_X11_layNames_L96 {x : MX} {z : ZT} (C : Cok x (wxM z) RX11 cX11_layNames 4 none 2 54) (kq88 : Int32 → St → Option St) (hk88 : ∀ (x1 : Int32) (σ : St), Sim x (wxM z) 4 jV (kq88 x1 σ) 88 [(0, .ref (aC z 0)), (1, .int x1)] [] σ) : ∀ (n : Nat) (x1 : Int32) (x2 : Int32) (σ : St), Sim x (wxM z) 4 jV (X11_layNames_L96 kq88 n x1 x2 σ) 96 [(0, .ref (aC z 0)), (1, .int x1), (2, .int x2)] [] σ := by
  intro n
  induction n with
  | zero =>
    intros
    exact S_none
  | succ n ih =>
    intro x1 x2 σ
    rw [X11_layNames_L96]
    refine S_iload_n C 2 dX11_layNames_96 rfl ?_
    refine S_aload_n C 0 dX11_layNames_97 rfl ?_
    refine G_X11_spellings C fl_X11_152 dX11_layNames_98 ?_
    refine S_icmp_ge C 175 dX11_layNames_101 (by decide) ?_ ?_
    · refine S_goto C 88 dX11_layNames_175 (by decide) ?_
      exact S_sub [0, 1] rfl (hk88 x1 σ)
    · refine S_iconst C (0) dX11_layNames_104 (by decide) ?_
      refine S_istore_n C [(3, .int 0), (0, .ref (aC z 0)), (1, .int x1), (2, .int x2)] (i := 3) dX11_layNames_105 rfl (by decide) rfl ?_
      exact S_sub [1, 2, 3, 0] rfl (WT_X11_layNames_L106 C _ ih FU x1 x2 (0 : Int32) σ)
set_option maxRecDepth 10000 in
theorem WT_X11_layNames_L88 {x : MX} {z : ZT} (C : Cok x (wxM z) RX11 cX11_layNames 4 none 2 54) : ∀ (n : Nat) (x1 : Int32) (σ : St), Sim x (wxM z) 4 jV (X11_layNames_L88 n x1 σ) 88 [(0, .ref (aC z 0)), (1, .int x1)] [] σ := by
  intro n
  induction n with
  | zero =>
    intros
    exact S_none
  | succ n ih =>
    intro x1 σ
    rw [X11_layNames_L88]
    refine S_iload_n C 1 dX11_layNames_88 rfl ?_
    refine S_if_eq C 178 dX11_layNames_89 (by decide) ?_ ?_
    · exact S_vret C rfl dX11_layNames_178
    · refine S_iconst C (0) dX11_layNames_92 (by decide) ?_
      refine S_istore_n C [(1, .int 0), (0, .ref (aC z 0))] (i := 1) dX11_layNames_93 rfl (by decide) rfl ?_
      refine S_iconst C (0) dX11_layNames_94 (by decide) ?_
      refine S_istore_n C [(2, .int 0), (1, .int 0), (0, .ref (aC z 0))] (i := 2) dX11_layNames_95 rfl (by decide) rfl ?_
      exact S_sub [2, 1, 0] rfl (WT_X11_layNames_L96 C _ ih FU (0 : Int32) (0 : Int32) σ)
set_option maxRecDepth 10000 in
theorem WT_X11_layNames_L40 {x : MX} {z : ZT} (C : Cok x (wxM z) RX11 cX11_layNames 4 none 2 54) (kq30 : Int32 → St → Option St) (hk30 : ∀ (x1 : Int32) (σ : St), Sim x (wxM z) 4 jV (kq30 x1 σ) 30 [(0, .ref (aC z 0)), (1, .int x1)] [] σ) : ∀ (n : Nat) (x1 : Int32) (x2 : Int32) (σ : St), Sim x (wxM z) 4 jV (X11_layNames_L40 kq30 n x1 x2 σ) 40 [(0, .ref (aC z 0)), (1, .int x1), (2, .int x2)] [] σ := by
  intro n
  induction n with
  | zero =>
    intros
    exact S_none
  | succ n ih =>
    intro x1 x2 σ
    rw [X11_layNames_L40]
    refine S_iload_n C 2 dX11_layNames_40 rfl ?_
    refine S_aload_n C 0 dX11_layNames_41 rfl ?_
    refine G_X11_spellings C fl_X11_152 dX11_layNames_42 ?_
    refine S_icmp_ge C 80 dX11_layNames_45 (by decide) ?_ ?_
    · refine S_iinc C 1 [(1, .int (x1 + 1)), (0, .ref (aC z 0)), (2, .int x2)] (x1 + 1) dX11_layNames_80 rfl rfl (by decide) rfl ?_
      refine S_goto C 30 dX11_layNames_83 (by decide) ?_
      exact S_sub [1, 0] rfl (hk30 (x1 + 1) σ)
    · refine S_aload_n C 0 dX11_layNames_48 rfl ?_
      refine G_X11_far C fl_X11_70 dX11_layNames_49 ?_
      refine S_bipush C (16) dX11_layNames_52 (by decide) ?_
      refine S_iload_n C 1 dX11_layNames_54 rfl ?_
      refine S_imul C dX11_layNames_55 ?_
      refine S_iload_n C 2 dX11_layNames_56 rfl ?_
      refine S_iadd C dX11_layNames_57 ?_
      refine S_iload_n C 1 dX11_layNames_58 rfl ?_
      refine S_iload_n C 2 dX11_layNames_59 rfl ?_
      refine S_icmp_ne C 67 dX11_layNames_60 (by decide) ?_ ?_
      · refine S_aload_n C 0 dX11_layNames_67 rfl ?_
        refine S_iload_n C 1 dX11_layNames_68 rfl ?_
        refine S_iload_n C 2 dX11_layNames_69 rfl ?_
        refine K_X11_farOf C ml_X11_276 (by decide) (Nat.le_of_ble_eq_true rfl) dX11_layNames_70 (fun r2 => ?_)
        refine T_X11_far C dX11_layNames_73 (fun _ => ?_)
        refine S_bndS (fun σ3 _ => ?_)
        refine S_iinc C 2 [(2, .int (x2 + 1)), (0, .ref (aC z 0)), (1, .int x1)] (x2 + 1) dX11_layNames_74 rfl rfl (by decide) rfl ?_
        refine S_goto C 40 dX11_layNames_77 (by decide) ?_
        exact S_sub [1, 2, 0] rfl (ih x1 (x2 + 1) σ3)
      · refine S_iconst C (0) dX11_layNames_63 (by decide) ?_
        refine S_goto C 73 dX11_layNames_64 (by decide) ?_
        refine T_X11_far C dX11_layNames_73 (fun _ => ?_)
        refine S_bndS (fun σ4 _ => ?_)
        refine S_iinc C 2 [(2, .int (x2 + 1)), (0, .ref (aC z 0)), (1, .int x1)] (x2 + 1) dX11_layNames_74 rfl rfl (by decide) rfl ?_
        refine S_goto C 40 dX11_layNames_77 (by decide) ?_
        exact S_sub [1, 2, 0] rfl (ih x1 (x2 + 1) σ4)
set_option maxRecDepth 10000 in
theorem WT_X11_layNames_L30 {x : MX} {z : ZT} (C : Cok x (wxM z) RX11 cX11_layNames 4 none 2 54) : ∀ (n : Nat) (x1 : Int32) (σ : St), Sim x (wxM z) 4 jV (X11_layNames_L30 n x1 σ) 30 [(0, .ref (aC z 0)), (1, .int x1)] [] σ := by
  intro n
  induction n with
  | zero =>
    intros
    exact S_none
  | succ n ih =>
    intro x1 σ
    rw [X11_layNames_L30]
    refine S_iload_n C 1 dX11_layNames_30 rfl ?_
    refine S_aload_n C 0 dX11_layNames_31 rfl ?_
    refine G_X11_spellings C fl_X11_152 dX11_layNames_32 ?_
    refine S_icmp_ge C 86 dX11_layNames_35 (by decide) ?_ ?_
    · refine S_iconst C (1) dX11_layNames_86 (by decide) ?_
      refine S_istore_n C [(1, .int 1), (0, .ref (aC z 0))] (i := 1) dX11_layNames_87 rfl (by decide) rfl ?_
      exact S_sub [1, 0] rfl (WT_X11_layNames_L88 C FU (1 : Int32) σ)
    · refine S_iconst C (0) dX11_layNames_38 (by decide) ?_
      refine S_istore_n C [(2, .int 0), (0, .ref (aC z 0)), (1, .int x1)] (i := 2) dX11_layNames_39 rfl (by decide) rfl ?_
      exact S_sub [1, 2, 0] rfl (WT_X11_layNames_L40 C _ ih FU x1 (0 : Int32) σ)
set_option maxRecDepth 10000 in
theorem WT_X11_layNames_L2 {x : MX} {z : ZT} (C : Cok x (wxM z) RX11 cX11_layNames 4 none 2 54) : ∀ (n : Nat) (x1 : Int32) (σ : St), Sim x (wxM z) 4 jV (X11_layNames_L2 n x1 σ) 2 [(0, .ref (aC z 0)), (1, .int x1)] [] σ := by
  intro n
  induction n with
  | zero =>
    intros
    exact S_none
  | succ n ih =>
    intro x1 σ
    rw [X11_layNames_L2]
    refine S_iload_n C 1 dX11_layNames_2 rfl ?_
    refine S_aload_n C 0 dX11_layNames_3 rfl ?_
    refine G_X11_spellings C fl_X11_152 dX11_layNames_4 ?_
    refine S_icmp_ge C 28 dX11_layNames_7 (by decide) ?_ ?_
    · refine S_iconst C (0) dX11_layNames_28 (by decide) ?_
      refine S_istore_n C [(1, .int 0), (0, .ref (aC z 0))] (i := 1) dX11_layNames_29 rfl (by decide) rfl ?_
      exact S_sub [1, 0] rfl (WT_X11_layNames_L30 C FU (0 : Int32) σ)
    · refine S_aload_n C 0 dX11_layNames_10 rfl ?_
      refine S_iload_n C 1 dX11_layNames_11 rfl ?_
      refine K_X11_laySound C ml_X11_273 (by decide) (Nat.le_of_ble_eq_true rfl) dX11_layNames_12 (fun σ5 => ?_)
      refine S_aload_n C 0 dX11_layNames_15 rfl ?_
      refine G_X11_nameOf C fl_X11_73 dX11_layNames_16 ?_
      refine S_iload_n C 1 dX11_layNames_19 rfl ?_
      refine S_iload_n C 1 dX11_layNames_20 rfl ?_
      refine T_X11_nameOf C dX11_layNames_21 (fun _ => ?_)
      refine S_bndS (fun σ6 _ => ?_)
      refine S_iinc C 1 [(1, .int (x1 + 1)), (0, .ref (aC z 0))] (x1 + 1) dX11_layNames_22 rfl rfl (by decide) rfl ?_
      refine S_goto C 2 dX11_layNames_25 (by decide) ?_
      exact S_sub [1, 0] rfl (ih (x1 + 1) σ6)
set_option maxRecDepth 10000 in
theorem WT_X11_layNames {x : MX} {z : ZT} (C : Cok x (wxM z) RX11 cX11_layNames 4 none 2 54)  (σ : St) : Sim x (wxM z) 4 jV (X11_layNames σ) 0 [(0, .ref (aC z 0))] [] σ := by
  rw [X11_layNames]
  refine S_iconst C (0) dX11_layNames_0 (by decide) ?_
  refine S_istore_n C [(1, .int 0), (0, .ref (aC z 0))] (i := 1) dX11_layNames_1 rfl (by decide) rfl ?_
  exact S_sub [1, 0] rfl (WT_X11_layNames_L2 C FU (0 : Int32) σ)
set_option maxRecDepth 10000 in
theorem con_X11_layNames (z : ZT) (l : Launch)  (σ : St) : ∀ ro, X11_layNames σ = some ro → Con (wxM z) l yX11_layNames cX11_layNames 4 none 2 54 [.ref (aC z 0)] σ (jV ro) :=
  fun ro hk => Con_of hk (by decide) (Nat.le_of_ble_eq_true rfl) (fun x hx C => WT_X11_layNames C σ)
set_option maxRecDepth 10000 in
theorem K_X11_layNames {x : MX} {z : ZT} {own : String} {cc : ByteArray} {nL : Nat} {ret : Option FieldType} {fr lo : Nat} {ρ : Type} {inj : ρ → Option Value × St} {pc : Nat} {lv : List (Nat × Value)} {st : List Value} {σ : St} (C : Cok x (wxM z) own cc nL ret fr lo)  {index : Nat} (hl : Cond.methodLink own index yX11_layNames ∈ gtb) (hR : 2 + 1 ≤ fr ∧ 8 + (4 + 11) + 54 ≤ lo) (hW : (st.map fun v => v.category).sum ≤ 8) (hd : decode cc pc = .ok (.invokevirtual index, 3)) {K : St → Option ρ} (h : ∀ v, Sim x (wxM z) nL inj (K v) (pc + 3) lv (st) v) : Sim x (wxM z) nL inj ((X11_layNames σ).bind K) pc lv (.ref (aC z 0) :: st) σ :=
  S_callV C (As := []) (q := 0) (inj1 := jV) mw_X11_layNames mv_X11_layNames hl (fun ro hro => con_X11_layNames z (mL x) σ ro hro) hR rfl (show 0 < 48 by decide) rfl (ce_X11 z σ) rfl rfl hW hd h
set_option maxRecDepth 10000 in
theorem WT_X11_sound_L45 {x : MX} {z : ZT} (C : Cok x (wxM z) RX11 cX11_sound 6 (some .long) 2 54) : ∀ (n : Nat) (x1 : Int32) (x2 : Int64) (x4 : Int32) (x5 : Int32) (σ : St), Sim x (wxM z) 6 jLS (X11_sound_L45 n x1 x2 x4 x5 σ) 45 [(0, .ref (aC z 0)), (1, .int x1), (2, .long x2), (4, .int x4), (5, .int x5)] [] σ := by
  intro n
  induction n with
  | zero =>
    intros
    exact S_none
  | succ n ih =>
    intro x1 x2 x4 x5 σ
    rw [X11_sound_L45]
    refine S_iload C 4 dX11_sound_45 rfl ?_
    refine S_iload C 3 dX11_sound_47 rfl ?_
    refine S_icmp_ge C 76 dX11_sound_49 (by decide) ?_ ?_
    · refine S_lload_n C 2 dX11_sound_76 rfl ?_
      exact S_lret C rfl dX11_sound_77
    · refine S_lload_n C 2 dX11_sound_52 rfl ?_
      refine S_iconst C (5) dX11_sound_53 (by decide) ?_
      refine S_lshl C dX11_sound_54 ?_
      refine S_aload_n C 0 dX11_sound_55 rfl ?_
      refine G_X11_soundOf C fl_X11_67 dX11_sound_56 ?_
      refine S_bipush C (20) dX11_sound_59 (by decide) ?_
      refine S_iload_n C 1 dX11_sound_61 rfl ?_
      refine S_imul C dX11_sound_62 ?_
      refine S_iload C 4 dX11_sound_63 rfl ?_
      refine S_iadd C dX11_sound_65 ?_
      refine L_X11_soundOf C dX11_sound_66 (fun _ => ?_)
      refine S_i2l C dX11_sound_67 ?_
      refine S_lor C dX11_sound_68 ?_
      refine S_bndTL (fun x2_4 _ => ?_)
      refine S_lstore_n C [(2, .long x2_4), (0, .ref (aC z 0)), (1, .int x1), (4, .int x4), (5, .int x5)] (i := 2) dX11_sound_69 rfl (by decide) rfl ?_
      refine S_iinc C 4 [(5, .int (x5 + 1)), (2, .long x2_4), (0, .ref (aC z 0)), (1, .int x1), (4, .int x4)] (x5 + 1) dX11_sound_70 rfl rfl (by decide) rfl ?_
      refine S_goto C 45 dX11_sound_73 (by decide) ?_
      exact S_sub [2, 3, 1, 4, 0] rfl (ih x1 x2_4 x4 (x5 + 1) σ)
set_option maxRecDepth 10000 in
theorem WT_X11_sound {x : MX} {z : ZT} (C : Cok x (wxM z) RX11 cX11_sound 6 (some .long) 2 54) (x1 : Int32) (σ : St) : Sim x (wxM z) 6 jLS (X11_sound x1 σ) 0 [(0, .ref (aC z 0)), (1, .int x1)] [] σ := by
  rw [X11_sound]
  refine S_aload_n C 0 dX11_sound_0 rfl ?_
  refine S_iload_n C 1 dX11_sound_1 rfl ?_
  refine K_X11_isSpelling C ml_X11_166 (by decide) (Nat.le_of_ble_eq_true rfl) dX11_sound_2 (fun v1 => ?_)
  refine S_if_ne C 12 dX11_sound_5 (by decide) ?_ ?_
  · refine S_aload_n C 0 dX11_sound_12 rfl ?_
    refine S_iload_n C 1 dX11_sound_13 rfl ?_
    refine K_X11_laySound C ml_X11_273 (by decide) (Nat.le_of_ble_eq_true rfl) dX11_sound_14 (fun σ2 => ?_)
    refine S_lconst C (0) dX11_sound_17 (by decide) ?_
    refine S_lstore_n C [(2, .long 0), (0, .ref (aC z 0)), (1, .int x1)] (i := 2) dX11_sound_18 rfl (by decide) rfl ?_
    refine S_aload_n C 1 dX11_sound_19 rfl ?_
    refine G_X11_soundMany C fl_X11_64 dX11_sound_20 ?_
    refine S_iload_n C 2 dX11_sound_23 rfl ?_
    refine L_X11_soundMany C dX11_sound_24 (fun _ => ?_)
    refine S_bndT (fun x4_3 _ => ?_)
    refine S_istore C [(4, .int x4_3), (2, .long 0), (0, .ref (aC z 0)), (1, .int x1)] dX11_sound_25 (by decide) rfl ?_
    refine S_iload C 0 dX11_sound_27 rfl ?_
    refine S_bipush C (12) dX11_sound_29 (by decide) ?_
    refine S_icmp_le C 42 dX11_sound_31 (by decide) ?_ ?_
    · refine S_iconst C (0) dX11_sound_42 (by decide) ?_
      refine S_istore C [(5, .int 0), (4, .int x4_3), (2, .long 0), (0, .ref (aC z 0)), (1, .int x1)] dX11_sound_43 (by decide) rfl ?_
      exact S_sub [3, 4, 2, 1, 0] rfl (WT_X11_sound_L45 C FU x1 (0 : Int64) x4_3 (0 : Int32) σ2)
    · refine S_iload C 0 dX11_sound_34 rfl ?_
      refine S_bipush C (12) dX11_sound_36 (by decide) ?_
      refine S_isub C dX11_sound_38 ?_
      refine S_goto C 43 dX11_sound_39 (by decide) ?_
      refine S_bndT (fun x5_5 _ => ?_)
      refine S_istore C [(5, .int x5_5), (4, .int x4_3), (2, .long 0), (0, .ref (aC z 0)), (1, .int x1)] dX11_sound_43 (by decide) rfl ?_
      exact S_sub [3, 4, 2, 1, 0] rfl (WT_X11_sound_L45 C FU x1 (0 : Int64) x4_3 x5_5 σ2)
  · refine S_ldc2 C (-1) kl_X11_170 dX11_sound_8 ?_
    exact S_lret C rfl dX11_sound_11
set_option maxRecDepth 10000 in
theorem con_X11_sound (z : ZT) (l : Launch) (x1 : Int32) (σ : St) : ∀ ro, X11_sound x1 σ = some ro → Con (wxM z) l yX11_sound cX11_sound 6 (some .long) 2 54 [.ref (aC z 0), .int x1] σ (jLS ro) :=
  fun ro hk => Con_of hk (by decide) (Nat.le_of_ble_eq_true rfl) (fun x hx C => WT_X11_sound C x1 σ)
set_option maxRecDepth 10000 in
theorem K_X11_sound {x : MX} {z : ZT} {own : String} {cc : ByteArray} {nL : Nat} {ret : Option FieldType} {fr lo : Nat} {ρ : Type} {inj : ρ → Option Value × St} {pc : Nat} {lv : List (Nat × Value)} {st : List Value} {σ : St} (C : Cok x (wxM z) own cc nL ret fr lo) {x1 : Int32} {index : Nat} (hl : Cond.methodLink own index yX11_sound ∈ gtb) (hR : 2 + 1 ≤ fr ∧ 8 + (6 + 11) + 54 ≤ lo) (hW : (st.map fun v => v.category).sum ≤ 8) (hd : decode cc pc = .ok (.invokevirtual index, 3)) {K : (Int64 × St) → Option ρ} (h : ∀ v, Sim x (wxM z) nL inj (K v) (pc + 3) lv (.long v.1 :: st) v.2) : Sim x (wxM z) nL inj ((X11_sound x1 σ).bind K) pc lv (.int x1 :: .ref (aC z 0) :: st) σ :=
  S_callV C (As := [.int x1]) (q := 0) (inj1 := jLS) mw_X11_sound mv_X11_sound hl (fun ro hro => con_X11_sound z (mL x) x1 σ ro hro) hR rfl (show 0 < 48 by decide) rfl (ce_X11 z σ) rfl rfl hW hd h
set_option maxRecDepth 10000 in
theorem WT_X11_sounds {x : MX} {z : ZT} (C : Cok x (wxM z) RX11 cX11_sounds 2 (some .int) 2 54) (x1 : Int32) (σ : St) : Sim x (wxM z) 2 jIS (X11_sounds x1 σ) 0 [(0, .ref (aC z 0)), (1, .int x1)] [] σ := by
  rw [X11_sounds]
  refine S_aload_n C 0 dX11_sounds_0 rfl ?_
  refine S_iload_n C 1 dX11_sounds_1 rfl ?_
  refine K_X11_isSpelling C ml_X11_166 (by decide) (Nat.le_of_ble_eq_true rfl) dX11_sounds_2 (fun v1 => ?_)
  refine S_if_ne C 10 dX11_sounds_5 (by decide) ?_ ?_
  · refine S_aload_n C 0 dX11_sounds_10 rfl ?_
    refine S_iload_n C 1 dX11_sounds_11 rfl ?_
    refine K_X11_laySound C ml_X11_273 (by decide) (Nat.le_of_ble_eq_true rfl) dX11_sounds_12 (fun σ2 => ?_)
    refine S_aload_n C 0 dX11_sounds_15 rfl ?_
    refine G_X11_soundMany C fl_X11_64 dX11_sounds_16 ?_
    refine S_iload_n C 1 dX11_sounds_19 rfl ?_
    refine L_X11_soundMany C dX11_sounds_20 (fun _ => ?_)
    exact S_iret C rfl dX11_sounds_21
  · refine S_iconst C (-1) dX11_sounds_8 (by decide) ?_
    exact S_iret C rfl dX11_sounds_9
set_option maxRecDepth 10000 in
theorem con_X11_sounds (z : ZT) (l : Launch) (x1 : Int32) (σ : St) : ∀ ro, X11_sounds x1 σ = some ro → Con (wxM z) l yX11_sounds cX11_sounds 2 (some .int) 2 54 [.ref (aC z 0), .int x1] σ (jIS ro) :=
  fun ro hk => Con_of hk (by decide) (Nat.le_of_ble_eq_true rfl) (fun x hx C => WT_X11_sounds C x1 σ)
set_option maxRecDepth 10000 in
theorem K_X11_sounds {x : MX} {z : ZT} {own : String} {cc : ByteArray} {nL : Nat} {ret : Option FieldType} {fr lo : Nat} {ρ : Type} {inj : ρ → Option Value × St} {pc : Nat} {lv : List (Nat × Value)} {st : List Value} {σ : St} (C : Cok x (wxM z) own cc nL ret fr lo) {x1 : Int32} {index : Nat} (hl : Cond.methodLink own index yX11_sounds ∈ gtb) (hR : 2 + 1 ≤ fr ∧ 8 + (2 + 11) + 54 ≤ lo) (hW : (st.map fun v => v.category).sum ≤ 8) (hd : decode cc pc = .ok (.invokevirtual index, 3)) {K : (Int32 × St) → Option ρ} (h : ∀ v, Sim x (wxM z) nL inj (K v) (pc + 3) lv (.int v.1 :: st) v.2) : Sim x (wxM z) nL inj ((X11_sounds x1 σ).bind K) pc lv (.int x1 :: .ref (aC z 0) :: st) σ :=
  S_callV C (As := [.int x1]) (q := 0) (inj1 := jIS) mw_X11_sounds mv_X11_sounds hl (fun ro hro => con_X11_sounds z (mL x) x1 σ ro hro) hR rfl (show 0 < 48 by decide) rfl (ce_X11 z σ) rfl rfl hW hd h
set_option maxRecDepth 10000 in
theorem WT_X11_apart {x : MX} {z : ZT} (C : Cok x (wxM z) RX11 cX11_apart 3 (some .int) 3 77) (x1 : Int32) (x2 : Int32) (σ : St) : Sim x (wxM z) 3 jIS (X11_apart x1 x2 σ) 0 [(0, .ref (aC z 0)), (1, .int x1), (2, .int x2)] [] σ := by
  rw [X11_apart]
  refine S_aload_n C 0 dX11_apart_0 rfl ?_
  refine S_iload_n C 1 dX11_apart_1 rfl ?_
  refine K_X11_isSpelling C ml_X11_166 (by decide) (Nat.le_of_ble_eq_true rfl) dX11_apart_2 (fun v1 => ?_)
  refine S_if_eq C 16 dX11_apart_5 (by decide) ?_ ?_
  · refine S_iconst C (-1) dX11_apart_16 (by decide) ?_
    exact S_iret C rfl dX11_apart_17
  · refine S_aload_n C 0 dX11_apart_8 rfl ?_
    refine S_iload_n C 2 dX11_apart_9 rfl ?_
    refine K_X11_isSpelling C ml_X11_166 (by decide) (Nat.le_of_ble_eq_true rfl) dX11_apart_10 (fun v2 => ?_)
    refine S_if_ne C 18 dX11_apart_13 (by decide) ?_ ?_
    · refine S_aload_n C 0 dX11_apart_18 rfl ?_
      refine K_X11_layNames C ml_X11_279 (by decide) (Nat.le_of_ble_eq_true rfl) dX11_apart_19 (fun σ3 => ?_)
      refine S_aload_n C 0 dX11_apart_22 rfl ?_
      refine G_X11_far C fl_X11_70 dX11_apart_23 ?_
      refine S_bipush C (16) dX11_apart_26 (by decide) ?_
      refine S_iload_n C 1 dX11_apart_28 rfl ?_
      refine S_imul C dX11_apart_29 ?_
      refine S_iload_n C 2 dX11_apart_30 rfl ?_
      refine S_iadd C dX11_apart_31 ?_
      refine L_X11_far C dX11_apart_32 (fun _ => ?_)
      exact S_iret C rfl dX11_apart_33
    · refine S_iconst C (-1) dX11_apart_16 (by decide) ?_
      exact S_iret C rfl dX11_apart_17
set_option maxRecDepth 10000 in
theorem con_X11_apart (z : ZT) (l : Launch) (x1 : Int32) (x2 : Int32) (σ : St) : ∀ ro, X11_apart x1 x2 σ = some ro → Con (wxM z) l yX11_apart cX11_apart 3 (some .int) 3 77 [.ref (aC z 0), .int x1, .int x2] σ (jIS ro) :=
  fun ro hk => Con_of hk (by decide) (Nat.le_of_ble_eq_true rfl) (fun x hx C => WT_X11_apart C x1 x2 σ)
set_option maxRecDepth 10000 in
theorem K_X11_apart {x : MX} {z : ZT} {own : String} {cc : ByteArray} {nL : Nat} {ret : Option FieldType} {fr lo : Nat} {ρ : Type} {inj : ρ → Option Value × St} {pc : Nat} {lv : List (Nat × Value)} {st : List Value} {σ : St} (C : Cok x (wxM z) own cc nL ret fr lo) {x1 : Int32} {x2 : Int32} {index : Nat} (hl : Cond.methodLink own index yX11_apart ∈ gtb) (hR : 3 + 1 ≤ fr ∧ 8 + (3 + 11) + 77 ≤ lo) (hW : (st.map fun v => v.category).sum ≤ 8) (hd : decode cc pc = .ok (.invokevirtual index, 3)) {K : (Int32 × St) → Option ρ} (h : ∀ v, Sim x (wxM z) nL inj (K v) (pc + 3) lv (.int v.1 :: st) v.2) : Sim x (wxM z) nL inj ((X11_apart x1 x2 σ).bind K) pc lv (.int x2 :: .int x1 :: .ref (aC z 0) :: st) σ :=
  S_callV C (As := [.int x1, .int x2]) (q := 0) (inj1 := jIS) mw_X11_apart mv_X11_apart hl (fun ro hro => con_X11_apart z (mL x) x1 x2 σ ro hro) hR rfl (show 0 < 48 by decide) rfl (ce_X11 z σ) rfl rfl hW hd h
set_option maxRecDepth 10000 in
theorem WT_X11_name {x : MX} {z : ZT} (C : Cok x (wxM z) RX11 cX11_name 2 (some .int) 3 77) (x1 : Int32) (σ : St) : Sim x (wxM z) 2 jIS (X11_name x1 σ) 0 [(0, .ref (aC z 0)), (1, .int x1)] [] σ := by
  rw [X11_name]
  refine S_aload_n C 0 dX11_name_0 rfl ?_
  refine S_iload_n C 1 dX11_name_1 rfl ?_
  refine K_X11_isSpelling C ml_X11_166 (by decide) (Nat.le_of_ble_eq_true rfl) dX11_name_2 (fun v1 => ?_)
  refine S_if_ne C 10 dX11_name_5 (by decide) ?_ ?_
  · refine S_aload_n C 0 dX11_name_10 rfl ?_
    refine K_X11_layNames C ml_X11_279 (by decide) (Nat.le_of_ble_eq_true rfl) dX11_name_11 (fun σ2 => ?_)
    refine S_aload_n C 0 dX11_name_14 rfl ?_
    refine G_X11_nameOf C fl_X11_73 dX11_name_15 ?_
    refine S_iload_n C 1 dX11_name_18 rfl ?_
    refine L_X11_nameOf C dX11_name_19 (fun _ => ?_)
    exact S_iret C rfl dX11_name_20
  · refine S_iconst C (-1) dX11_name_8 (by decide) ?_
    exact S_iret C rfl dX11_name_9
set_option maxRecDepth 10000 in
theorem con_X11_name (z : ZT) (l : Launch) (x1 : Int32) (σ : St) : ∀ ro, X11_name x1 σ = some ro → Con (wxM z) l yX11_name cX11_name 2 (some .int) 3 77 [.ref (aC z 0), .int x1] σ (jIS ro) :=
  fun ro hk => Con_of hk (by decide) (Nat.le_of_ble_eq_true rfl) (fun x hx C => WT_X11_name C x1 σ)
set_option maxRecDepth 10000 in
theorem K_X11_name {x : MX} {z : ZT} {own : String} {cc : ByteArray} {nL : Nat} {ret : Option FieldType} {fr lo : Nat} {ρ : Type} {inj : ρ → Option Value × St} {pc : Nat} {lv : List (Nat × Value)} {st : List Value} {σ : St} (C : Cok x (wxM z) own cc nL ret fr lo) {x1 : Int32} {index : Nat} (hl : Cond.methodLink own index yX11_name ∈ gtb) (hR : 3 + 1 ≤ fr ∧ 8 + (2 + 11) + 77 ≤ lo) (hW : (st.map fun v => v.category).sum ≤ 8) (hd : decode cc pc = .ok (.invokevirtual index, 3)) {K : (Int32 × St) → Option ρ} (h : ∀ v, Sim x (wxM z) nL inj (K v) (pc + 3) lv (.int v.1 :: st) v.2) : Sim x (wxM z) nL inj ((X11_name x1 σ).bind K) pc lv (.int x1 :: .ref (aC z 0) :: st) σ :=
  S_callV C (As := [.int x1]) (q := 0) (inj1 := jIS) mw_X11_name mv_X11_name hl (fun ro hro => con_X11_name z (mL x) x1 σ ro hro) hR rfl (show 0 < 48 by decide) rfl (ce_X11 z σ) rfl rfl hW hd h
set_option maxRecDepth 10000 in
theorem WT_X11_layChains_B178 {x : MX} {z : ZT} (C : Cok x (wxM z) RX11 cX11_layChains 7 none 0 0) (kq73 : Int32 → Int32 → Int32 → St → Option St) (hk73 : ∀ (x2 : Int32) (x3 : Int32) (x4 : Int32) (σ : St), Sim x (wxM z) 7 jV (kq73 x2 x3 x4 σ) 73 [(0, .ref (aC z 0)), (2, .int x2), (3, .int x3), (4, .int x4)] [] σ) (x3 : Int32) (x4 : Int32) (x6 : Int32) (σ : St) : Sim x (wxM z) 7 jV (X11_layChains_B178 kq73 x3 x4 x6 σ) 178 [(0, .ref (aC z 0)), (3, .int x3), (4, .int x4), (6, .int x6)] [] σ := by
  rw [X11_layChains_B178]
  refine S_aload_n C 0 dX11_layChains_178 rfl ?_
  refine G_X11_sums C fl_X11_79 dX11_layChains_179 ?_
  refine S_iload_n C 1 dX11_layChains_182 rfl ?_
  refine S_iload C 3 dX11_layChains_183 rfl ?_
  refine T_X11_sums C dX11_layChains_185 (fun _ => ?_)
  refine S_bndS (fun σ3 _ => ?_)
  refine S_aload_n C 0 dX11_layChains_186 rfl ?_
  refine G_X11_manys C fl_X11_82 dX11_layChains_187 ?_
  refine S_iload_n C 1 dX11_layChains_190 rfl ?_
  refine S_aload_n C 0 dX11_layChains_191 rfl ?_
  refine G_X11_manys C fl_X11_82 dX11_layChains_192 ?_
  refine S_iload C 2 dX11_layChains_195 rfl ?_
  refine L_X11_manys C dX11_layChains_197 (fun _ => ?_)
  refine S_iconst C (1) dX11_layChains_198 (by decide) ?_
  refine S_iadd C dX11_layChains_199 ?_
  refine T_X11_manys C dX11_layChains_200 (fun _ => ?_)
  refine S_bndS (fun σ4 _ => ?_)
  refine S_iconst C (1) dX11_layChains_201 (by decide) ?_
  refine S_istore_n C [(2, .int 1), (0, .ref (aC z 0)), (3, .int x3), (4, .int x4), (6, .int x6)] (i := 2) dX11_layChains_202 rfl (by decide) rfl ?_
  refine S_iinc C 3 [(4, .int (x4 + 1)), (2, .int 1), (0, .ref (aC z 0)), (3, .int x3), (6, .int x6)] (x4 + 1) dX11_layChains_203 rfl rfl (by decide) rfl ?_
  refine S_goto C 73 dX11_layChains_206 (by decide) ?_
  exact S_sub [2, 1, 3, 0] rfl (hk73 (1 : Int32) x3 (x4 + 1) σ4)
set_option maxRecDepth 10000 in
theorem WT_X11_layChains_L73 {x : MX} {z : ZT} (C : Cok x (wxM z) RX11 cX11_layChains 7 none 0 0) (kq62 : Int32 → Int32 → St → Option St) (hk62 : ∀ (x2 : Int32) (x3 : Int32) (σ : St), Sim x (wxM z) 7 jV (kq62 x2 x3 σ) 62 [(0, .ref (aC z 0)), (2, .int x2), (3, .int x3)] [] σ) : ∀ (n : Nat) (x2 : Int32) (x3 : Int32) (x4 : Int32) (σ : St), Sim x (wxM z) 7 jV (X11_layChains_L73 kq62 n x2 x3 x4 σ) 73 [(0, .ref (aC z 0)), (2, .int x2), (3, .int x3), (4, .int x4)] [] σ := by
  intro n
  induction n with
  | zero =>
    intros
    exact S_none
  | succ n ih =>
    intro x2 x3 x4 σ
    rw [X11_layChains_L73]
    refine S_iload C 3 dX11_layChains_73 rfl ?_
    refine S_aload_n C 0 dX11_layChains_75 rfl ?_
    refine G_X11_spellings C fl_X11_152 dX11_layChains_76 ?_
    refine S_icmp_ge C 209 dX11_layChains_79 (by decide) ?_ ?_
    · refine S_iinc C 2 [(3, .int (x3 + 1)), (0, .ref (aC z 0)), (2, .int x2), (4, .int x4)] (x3 + 1) dX11_layChains_209 rfl rfl (by decide) rfl ?_
      refine S_goto C 62 dX11_layChains_212 (by decide) ?_
      exact S_sub [1, 2, 0] rfl (hk62 x2 (x3 + 1) σ)
    · refine S_aload_n C 0 dX11_layChains_82 rfl ?_
      refine G_X11_far C fl_X11_70 dX11_layChains_83 ?_
      refine S_bipush C (16) dX11_layChains_86 (by decide) ?_
      refine S_iload_n C 2 dX11_layChains_88 rfl ?_
      refine S_imul C dX11_layChains_89 ?_
      refine S_iload C 3 dX11_layChains_90 rfl ?_
      refine S_iadd C dX11_layChains_92 ?_
      refine L_X11_far C dX11_layChains_93 (fun _ => ?_)
      refine S_bndT (fun x5_1 _ => ?_)
      refine S_istore C [(5, .int x5_1), (0, .ref (aC z 0)), (2, .int x2), (3, .int x3), (4, .int x4)] dX11_layChains_94 (by decide) rfl ?_
      refine S_iload_n C 3 dX11_layChains_96 rfl ?_
      refine S_iload C 4 dX11_layChains_97 rfl ?_
      refine S_icmp_eq C 203 dX11_layChains_99 (by decide) ?_ ?_
      · refine S_iinc C 4 [(4, .int (x4 + 1)), (5, .int x5_1), (0, .ref (aC z 0)), (2, .int x2), (3, .int x3)] (x4 + 1) dX11_layChains_203 rfl rfl (by decide) rfl ?_
        refine S_goto C 73 dX11_layChains_206 (by decide) ?_
        exact S_sub [2, 3, 4, 0] rfl (ih x2 x3 (x4 + 1) σ)
      · refine S_iload C 0 dX11_layChains_102 rfl ?_
        refine S_aload_n C 1 dX11_layChains_104 rfl ?_
        refine G_X11_holds C fl_X11_28 dX11_layChains_105 ?_
        refine S_iconst C (2) dX11_layChains_108 (by decide) ?_
        refine Lk_X11_holds C 2 (by decide) dX11_layChains_109 ?_
        refine S_icmp_gt C 203 dX11_layChains_110 (by decide) ?_ ?_
        · refine S_iinc C 4 [(4, .int (x4 + 1)), (5, .int x5_1), (0, .ref (aC z 0)), (2, .int x2), (3, .int x3)] (x4 + 1) dX11_layChains_203 rfl rfl (by decide) rfl ?_
          refine S_goto C 73 dX11_layChains_206 (by decide) ?_
          exact S_sub [2, 3, 4, 0] rfl (ih x2 x3 (x4 + 1) σ)
        · refine S_aload_n C 1 dX11_layChains_113 rfl ?_
          refine G_X11_sums C fl_X11_79 dX11_layChains_114 ?_
          refine S_iload C 4 dX11_layChains_117 rfl ?_
          refine L_X11_sums C dX11_layChains_119 (fun _ => ?_)
          refine S_ldcw C (1000000) kc_X11_282 dX11_layChains_120 ?_
          refine S_icmp_ge C 203 dX11_layChains_123 (by decide) ?_ ?_
          · refine S_iinc C 4 [(4, .int (x4 + 1)), (5, .int x5_1), (0, .ref (aC z 0)), (2, .int x2), (3, .int x3)] (x4 + 1) dX11_layChains_203 rfl rfl (by decide) rfl ?_
            refine S_goto C 73 dX11_layChains_206 (by decide) ?_
            exact S_sub [2, 3, 4, 0] rfl (ih x2 x3 (x4 + 1) σ)
          · refine S_aload_n C 1 dX11_layChains_126 rfl ?_
            refine G_X11_sums C fl_X11_79 dX11_layChains_127 ?_
            refine S_iload C 4 dX11_layChains_130 rfl ?_
            refine L_X11_sums C dX11_layChains_132 (fun _ => ?_)
            refine S_iload C 0 dX11_layChains_133 rfl ?_
            refine S_iadd C dX11_layChains_135 ?_
            refine S_bndT (fun x6_2 _ => ?_)
            refine S_istore C [(6, .int x6_2), (5, .int x5_1), (0, .ref (aC z 0)), (2, .int x2), (3, .int x3), (4, .int x4)] dX11_layChains_136 (by decide) rfl ?_
            refine S_iload C 0 dX11_layChains_138 rfl ?_
            refine S_aload_n C 2 dX11_layChains_140 rfl ?_
            refine G_X11_sums C fl_X11_79 dX11_layChains_141 ?_
            refine S_iload_n C 4 dX11_layChains_144 rfl ?_
            refine L_X11_sums C dX11_layChains_145 (fun _ => ?_)
            refine S_icmp_lt C 178 dX11_layChains_146 (by decide) ?_ ?_
            · exact S_sub [2, 4, 5, 0] rfl (WT_X11_layChains_B178 C _ ih x3 x4 x6_2 σ)
            · refine S_iload C 0 dX11_layChains_149 rfl ?_
              refine S_aload_n C 2 dX11_layChains_151 rfl ?_
              refine G_X11_sums C fl_X11_79 dX11_layChains_152 ?_
              refine S_iload_n C 4 dX11_layChains_155 rfl ?_
              refine L_X11_sums C dX11_layChains_156 (fun _ => ?_)
              refine S_icmp_ne C 203 dX11_layChains_157 (by decide) ?_ ?_
              · refine S_iinc C 5 [(4, .int (x4 + 1)), (6, .int x6_2), (5, .int x5_1), (0, .ref (aC z 0)), (2, .int x2), (3, .int x3)] (x4 + 1) dX11_layChains_203 rfl rfl (by decide) rfl ?_
                refine S_goto C 73 dX11_layChains_206 (by decide) ?_
                exact S_sub [3, 4, 5, 0] rfl (ih x2 x3 (x4 + 1) σ)
              · refine S_aload_n C 2 dX11_layChains_160 rfl ?_
                refine G_X11_manys C fl_X11_82 dX11_layChains_161 ?_
                refine S_iload C 5 dX11_layChains_164 rfl ?_
                refine L_X11_manys C dX11_layChains_166 (fun _ => ?_)
                refine S_iconst C (1) dX11_layChains_167 (by decide) ?_
                refine S_iadd C dX11_layChains_168 ?_
                refine S_aload_n C 2 dX11_layChains_169 rfl ?_
                refine G_X11_manys C fl_X11_82 dX11_layChains_170 ?_
                refine S_iload_n C 4 dX11_layChains_173 rfl ?_
                refine L_X11_manys C dX11_layChains_174 (fun _ => ?_)
                refine S_icmp_ge C 203 dX11_layChains_175 (by decide) ?_ ?_
                · refine S_iinc C 5 [(4, .int (x4 + 1)), (6, .int x6_2), (5, .int x5_1), (0, .ref (aC z 0)), (2, .int x2), (3, .int x3)] (x4 + 1) dX11_layChains_203 rfl rfl (by decide) rfl ?_
                  refine S_goto C 73 dX11_layChains_206 (by decide) ?_
                  exact S_sub [3, 4, 5, 0] rfl (ih x2 x3 (x4 + 1) σ)
                · exact S_sub [2, 4, 5, 0] rfl (WT_X11_layChains_B178 C _ ih x3 x4 x6_2 σ)
set_option maxRecDepth 10000 in
theorem WT_X11_layChains_L62 {x : MX} {z : ZT} (C : Cok x (wxM z) RX11 cX11_layChains 7 none 0 0) (kq54 : Int32 → St → Option St) (hk54 : ∀ (x2 : Int32) (σ : St), Sim x (wxM z) 7 jV (kq54 x2 σ) 54 [(0, .ref (aC z 0)), (2, .int x2)] [] σ) : ∀ (n : Nat) (x2 : Int32) (x3 : Int32) (σ : St), Sim x (wxM z) 7 jV (X11_layChains_L62 kq54 n x2 x3 σ) 62 [(0, .ref (aC z 0)), (2, .int x2), (3, .int x3)] [] σ := by
  intro n
  induction n with
  | zero =>
    intros
    exact S_none
  | succ n ih =>
    intro x2 x3 σ
    rw [X11_layChains_L62]
    refine S_iload_n C 2 dX11_layChains_62 rfl ?_
    refine S_aload_n C 0 dX11_layChains_63 rfl ?_
    refine G_X11_spellings C fl_X11_152 dX11_layChains_64 ?_
    refine S_icmp_ge C 215 dX11_layChains_67 (by decide) ?_ ?_
    · refine S_goto C 54 dX11_layChains_215 (by decide) ?_
      exact S_sub [0, 1] rfl (hk54 x2 σ)
    · refine S_iconst C (0) dX11_layChains_70 (by decide) ?_
      refine S_istore C [(4, .int 0), (0, .ref (aC z 0)), (2, .int x2), (3, .int x3)] dX11_layChains_71 (by decide) rfl ?_
      exact S_sub [1, 2, 3, 0] rfl (WT_X11_layChains_L73 C _ ih FU x2 x3 (0 : Int32) σ)
set_option maxRecDepth 10000 in
theorem WT_X11_layChains_L54 {x : MX} {z : ZT} (C : Cok x (wxM z) RX11 cX11_layChains 7 none 0 0) : ∀ (n : Nat) (x2 : Int32) (σ : St), Sim x (wxM z) 7 jV (X11_layChains_L54 n x2 σ) 54 [(0, .ref (aC z 0)), (2, .int x2)] [] σ := by
  intro n
  induction n with
  | zero =>
    intros
    exact S_none
  | succ n ih =>
    intro x2 σ
    rw [X11_layChains_L54]
    refine S_iload_n C 1 dX11_layChains_54 rfl ?_
    refine S_if_eq C 218 dX11_layChains_55 (by decide) ?_ ?_
    · exact S_vret C rfl dX11_layChains_218
    · refine S_iconst C (0) dX11_layChains_58 (by decide) ?_
      refine S_istore_n C [(2, .int 0), (0, .ref (aC z 0))] (i := 2) dX11_layChains_59 rfl (by decide) rfl ?_
      refine S_iconst C (0) dX11_layChains_60 (by decide) ?_
      refine S_istore_n C [(3, .int 0), (2, .int 0), (0, .ref (aC z 0))] (i := 3) dX11_layChains_61 rfl (by decide) rfl ?_
      exact S_sub [2, 1, 0] rfl (WT_X11_layChains_L62 C _ ih FU (0 : Int32) (0 : Int32) σ)
set_option maxRecDepth 10000 in
theorem WT_X11_layChains_B27 {x : MX} {z : ZT} (C : Cok x (wxM z) RX11 cX11_layChains 7 none 0 0) (kq2 : Int32 → Int32 → St → Option St) (hk2 : ∀ (x1 : Int32) (x2 : Int32) (σ : St), Sim x (wxM z) 7 jV (kq2 x1 x2 σ) 2 [(0, .ref (aC z 0)), (1, .int x1), (2, .int x2)] [] σ) (x1 : Int32) (x2 : Int32) (s0 : Int32) (s1 : Int32) (σ : St) : Sim x (wxM z) 7 jV (X11_layChains_B27 kq2 x1 x2 s0 s1 σ) 27 [(0, .ref (aC z 0)), (1, .int x1), (2, .int x2)] [.int s0, .int s1, .ref (aC z 24)] σ := by
  rw [X11_layChains_B27]
  refine T_X11_sums C dX11_layChains_27 (fun _ => ?_)
  refine S_bndS (fun σ5 _ => ?_)
  refine S_aload_n C 0 dX11_layChains_28 rfl ?_
  refine G_X11_manys C fl_X11_82 dX11_layChains_29 ?_
  refine S_iload_n C 2 dX11_layChains_32 rfl ?_
  refine S_iload_n C 2 dX11_layChains_33 rfl ?_
  refine S_iload_n C 1 dX11_layChains_34 rfl ?_
  refine S_icmp_ne C 42 dX11_layChains_35 (by decide) ?_ ?_
  · refine S_ldcw C (1000000) kc_X11_282 dX11_layChains_42 ?_
    refine T_X11_manys C dX11_layChains_45 (fun _ => ?_)
    refine S_bndS (fun σ6 _ => ?_)
    refine S_iinc C 2 [(2, .int (x2 + 1)), (0, .ref (aC z 0)), (1, .int x1)] (x2 + 1) dX11_layChains_46 rfl rfl (by decide) rfl ?_
    refine S_goto C 2 dX11_layChains_49 (by decide) ?_
    exact S_sub [1, 2, 0] rfl (hk2 x1 (x2 + 1) σ6)
  · refine S_iconst C (1) dX11_layChains_38 (by decide) ?_
    refine S_goto C 45 dX11_layChains_39 (by decide) ?_
    refine T_X11_manys C dX11_layChains_45 (fun _ => ?_)
    refine S_bndS (fun σ7 _ => ?_)
    refine S_iinc C 2 [(2, .int (x2 + 1)), (0, .ref (aC z 0)), (1, .int x1)] (x2 + 1) dX11_layChains_46 rfl rfl (by decide) rfl ?_
    refine S_goto C 2 dX11_layChains_49 (by decide) ?_
    exact S_sub [1, 2, 0] rfl (hk2 x1 (x2 + 1) σ7)
set_option maxRecDepth 10000 in
theorem WT_X11_layChains_L2 {x : MX} {z : ZT} (C : Cok x (wxM z) RX11 cX11_layChains 7 none 0 0) : ∀ (n : Nat) (x1 : Int32) (x2 : Int32) (σ : St), Sim x (wxM z) 7 jV (X11_layChains_L2 n x1 x2 σ) 2 [(0, .ref (aC z 0)), (1, .int x1), (2, .int x2)] [] σ := by
  intro n
  induction n with
  | zero =>
    intros
    exact S_none
  | succ n ih =>
    intro x1 x2 σ
    rw [X11_layChains_L2]
    refine S_iload_n C 2 dX11_layChains_2 rfl ?_
    refine S_aload_n C 0 dX11_layChains_3 rfl ?_
    refine G_X11_spellings C fl_X11_152 dX11_layChains_4 ?_
    refine S_icmp_ge C 52 dX11_layChains_7 (by decide) ?_ ?_
    · refine S_iconst C (1) dX11_layChains_52 (by decide) ?_
      refine S_istore_n C [(2, .int 1), (0, .ref (aC z 0)), (1, .int x1)] (i := 2) dX11_layChains_53 rfl (by decide) rfl ?_
      exact S_sub [1, 0] rfl (WT_X11_layChains_L54 C FU (1 : Int32) σ)
    · refine S_aload_n C 0 dX11_layChains_10 rfl ?_
      refine G_X11_sums C fl_X11_79 dX11_layChains_11 ?_
      refine S_iload_n C 2 dX11_layChains_14 rfl ?_
      refine S_iload_n C 2 dX11_layChains_15 rfl ?_
      refine S_iload_n C 1 dX11_layChains_16 rfl ?_
      refine S_icmp_ne C 24 dX11_layChains_17 (by decide) ?_ ?_
      · refine S_ldcw C (1000000) kc_X11_282 dX11_layChains_24 ?_
        exact S_sub [0, 1, 2] rfl (WT_X11_layChains_B27 C _ ih x1 x2 (1000000 : Int32) x2 σ)
      · refine S_iconst C (0) dX11_layChains_20 (by decide) ?_
        refine S_goto C 27 dX11_layChains_21 (by decide) ?_
        exact S_sub [0, 1, 2] rfl (WT_X11_layChains_B27 C _ ih x1 x2 (0 : Int32) x2 σ)
set_option maxRecDepth 10000 in
theorem WT_X11_layChains {x : MX} {z : ZT} (C : Cok x (wxM z) RX11 cX11_layChains 7 none 0 0) (x1 : Int32) (σ : St) : Sim x (wxM z) 7 jV (X11_layChains x1 σ) 0 [(0, .ref (aC z 0)), (1, .int x1)] [] σ := by
  rw [X11_layChains]
  refine S_iconst C (0) dX11_layChains_0 (by decide) ?_
  refine S_istore_n C [(2, .int 0), (0, .ref (aC z 0)), (1, .int x1)] (i := 2) dX11_layChains_1 rfl (by decide) rfl ?_
  exact S_sub [1, 2, 0] rfl (WT_X11_layChains_L2 C FU x1 (0 : Int32) σ)
set_option maxRecDepth 10000 in
theorem con_X11_layChains (z : ZT) (l : Launch) (x1 : Int32) (σ : St) : ∀ ro, X11_layChains x1 σ = some ro → Con (wxM z) l yX11_layChains cX11_layChains 7 none 0 0 [.ref (aC z 0), .int x1] σ (jV ro) :=
  fun ro hk => Con_of hk (by decide) (Nat.le_of_ble_eq_true rfl) (fun x hx C => WT_X11_layChains C x1 σ)
set_option maxRecDepth 10000 in
theorem K_X11_layChains {x : MX} {z : ZT} {own : String} {cc : ByteArray} {nL : Nat} {ret : Option FieldType} {fr lo : Nat} {ρ : Type} {inj : ρ → Option Value × St} {pc : Nat} {lv : List (Nat × Value)} {st : List Value} {σ : St} (C : Cok x (wxM z) own cc nL ret fr lo) {x1 : Int32} {index : Nat} (hl : Cond.methodLink own index yX11_layChains ∈ gtb) (hR : 0 + 1 ≤ fr ∧ 8 + (7 + 11) + 0 ≤ lo) (hW : (st.map fun v => v.category).sum ≤ 8) (hd : decode cc pc = .ok (.invokevirtual index, 3)) {K : St → Option ρ} (h : ∀ v, Sim x (wxM z) nL inj (K v) (pc + 3) lv (st) v) : Sim x (wxM z) nL inj ((X11_layChains x1 σ).bind K) pc lv (.int x1 :: .ref (aC z 0) :: st) σ :=
  S_callV C (As := [.int x1]) (q := 0) (inj1 := jV) mw_X11_layChains mv_X11_layChains hl (fun ro hro => con_X11_layChains z (mL x) x1 σ ro hro) hR rfl (show 0 < 48 by decide) rfl (ce_X11 z σ) rfl rfl hW hd h
set_option maxRecDepth 10000 in
theorem WT_X11_goesOn {x : MX} {z : ZT} (C : Cok x (wxM z) RX11 cX11_goesOn 4 (some .boolean) 0 0) (x1 : Int32) (x2 : Int32) (σ : St) : Sim x (wxM z) 4 (jI σ) (X11_goesOn x1 x2 σ) 0 [(0, .ref (aC z 0)), (1, .int x1), (2, .int x2)] [] σ := by
  rw [X11_goesOn]
  refine S_aload_n C 0 dX11_goesOn_0 rfl ?_
  refine G_X11_far C fl_X11_70 dX11_goesOn_1 ?_
  refine S_bipush C (16) dX11_goesOn_4 (by decide) ?_
  refine S_iload_n C 1 dX11_goesOn_6 rfl ?_
  refine S_imul C dX11_goesOn_7 ?_
  refine S_iload_n C 2 dX11_goesOn_8 rfl ?_
  refine S_iadd C dX11_goesOn_9 ?_
  refine L_X11_far C dX11_goesOn_10 (fun _ => ?_)
  refine S_bndT (fun x3_1 _ => ?_)
  refine S_istore_n C [(3, .int x3_1), (0, .ref (aC z 0)), (1, .int x1), (2, .int x2)] (i := 3) dX11_goesOn_11 rfl (by decide) rfl ?_
  refine S_iload_n C 2 dX11_goesOn_12 rfl ?_
  refine S_iload_n C 3 dX11_goesOn_13 rfl ?_
  refine S_icmp_eq C 65 dX11_goesOn_14 (by decide) ?_ ?_
  · refine S_iconst C (0) dX11_goesOn_65 (by decide) ?_
    exact S_zret C rfl rfl dX11_goesOn_66
  · refine S_iload_n C 0 dX11_goesOn_17 rfl ?_
    refine S_aload_n C 1 dX11_goesOn_18 rfl ?_
    refine G_X11_holds C fl_X11_28 dX11_goesOn_19 ?_
    refine S_iconst C (2) dX11_goesOn_22 (by decide) ?_
    refine Lk_X11_holds C 2 (by decide) dX11_goesOn_23 ?_
    refine S_icmp_gt C 65 dX11_goesOn_24 (by decide) ?_ ?_
    · refine S_iconst C (0) dX11_goesOn_65 (by decide) ?_
      exact S_zret C rfl rfl dX11_goesOn_66
    · refine S_aload_n C 1 dX11_goesOn_27 rfl ?_
      refine G_X11_sums C fl_X11_79 dX11_goesOn_28 ?_
      refine S_iload_n C 3 dX11_goesOn_31 rfl ?_
      refine L_X11_sums C dX11_goesOn_32 (fun _ => ?_)
      refine S_iload_n C 0 dX11_goesOn_33 rfl ?_
      refine S_iadd C dX11_goesOn_34 ?_
      refine S_aload_n C 1 dX11_goesOn_35 rfl ?_
      refine G_X11_sums C fl_X11_79 dX11_goesOn_36 ?_
      refine S_iload_n C 2 dX11_goesOn_39 rfl ?_
      refine L_X11_sums C dX11_goesOn_40 (fun _ => ?_)
      refine S_icmp_ne C 65 dX11_goesOn_41 (by decide) ?_ ?_
      · refine S_iconst C (0) dX11_goesOn_65 (by decide) ?_
        exact S_zret C rfl rfl dX11_goesOn_66
      · refine S_aload_n C 1 dX11_goesOn_44 rfl ?_
        refine G_X11_manys C fl_X11_82 dX11_goesOn_45 ?_
        refine S_iload_n C 3 dX11_goesOn_48 rfl ?_
        refine L_X11_manys C dX11_goesOn_49 (fun _ => ?_)
        refine S_iconst C (1) dX11_goesOn_50 (by decide) ?_
        refine S_iadd C dX11_goesOn_51 ?_
        refine S_aload_n C 1 dX11_goesOn_52 rfl ?_
        refine G_X11_manys C fl_X11_82 dX11_goesOn_53 ?_
        refine S_iload_n C 2 dX11_goesOn_56 rfl ?_
        refine L_X11_manys C dX11_goesOn_57 (fun _ => ?_)
        refine S_icmp_ne C 65 dX11_goesOn_58 (by decide) ?_ ?_
        · refine S_iconst C (0) dX11_goesOn_65 (by decide) ?_
          exact S_zret C rfl rfl dX11_goesOn_66
        · refine S_iconst C (1) dX11_goesOn_61 (by decide) ?_
          refine S_goto C 66 dX11_goesOn_62 (by decide) ?_
          exact S_zret C rfl rfl dX11_goesOn_66
set_option maxRecDepth 10000 in
theorem con_X11_goesOn (z : ZT) (l : Launch) (x1 : Int32) (x2 : Int32) (σ : St) : ∀ ro, X11_goesOn x1 x2 σ = some ro → Con (wxM z) l yX11_goesOn cX11_goesOn 4 (some .boolean) 0 0 [.ref (aC z 0), .int x1, .int x2] σ ((jI σ) ro) :=
  fun ro hk => Con_of hk (by decide) (Nat.le_of_ble_eq_true rfl) (fun x hx C => WT_X11_goesOn C x1 x2 σ)
set_option maxRecDepth 10000 in
theorem K_X11_goesOn {x : MX} {z : ZT} {own : String} {cc : ByteArray} {nL : Nat} {ret : Option FieldType} {fr lo : Nat} {ρ : Type} {inj : ρ → Option Value × St} {pc : Nat} {lv : List (Nat × Value)} {st : List Value} {σ : St} (C : Cok x (wxM z) own cc nL ret fr lo) {x1 : Int32} {x2 : Int32} {index : Nat} (hl : Cond.methodLink own index yX11_goesOn ∈ gtb) (hR : 0 + 1 ≤ fr ∧ 8 + (4 + 11) + 0 ≤ lo) (hW : (st.map fun v => v.category).sum ≤ 8) (hd : decode cc pc = .ok (.invokevirtual index, 3)) {K : Int32 → Option ρ} (h : ∀ v, Sim x (wxM z) nL inj (K v) (pc + 3) lv (.int v :: st) σ) : Sim x (wxM z) nL inj ((X11_goesOn x1 x2 σ).bind K) pc lv (.int x2 :: .int x1 :: .ref (aC z 0) :: st) σ :=
  S_callV C (As := [.int x1, .int x2]) (q := 0) (inj1 := (jI σ)) mw_X11_goesOn mv_X11_goesOn hl (fun ro hro => con_X11_goesOn z (mL x) x1 x2 σ ro hro) hR rfl (show 0 < 48 by decide) rfl (ce_X11 z σ) rfl rfl hW hd h
set_option maxRecDepth 10000 in
theorem WT_X11_chain_L124 {x : MX} {z : ZT} (C : Cok x (wxM z) RX11 cX11_chain 7 (some .int) 3 77) (kq115 : Int32 → Int32 → Int32 → St → Option (Int32 × St)) (hk115 : ∀ (x3 : Int32) (x4 : Int32) (x5 : Int32) (σ : St), Sim x (wxM z) 7 jIS (kq115 x3 x4 x5 σ) 115 [(0, .ref (aC z 0)), (3, .int x3), (4, .int x4), (5, .int x5)] [] σ) : ∀ (n : Nat) (x3 : Int32) (x4 : Int32) (x5 : Int32) (x6 : Int32) (σ : St), Sim x (wxM z) 7 jIS (X11_chain_L124 kq115 n x3 x4 x5 x6 σ) 124 [(0, .ref (aC z 0)), (3, .int x3), (4, .int x4), (5, .int x5), (6, .int x6)] [] σ := by
  intro n
  induction n with
  | zero =>
    intros
    exact S_none
  | succ n ih =>
    intro x3 x4 x5 x6 σ
    rw [X11_chain_L124]
    refine S_aload_n C 0 dX11_chain_124 rfl ?_
    refine S_iload C 2 dX11_chain_125 rfl ?_
    refine S_iload C 4 dX11_chain_127 rfl ?_
    refine K_X11_goesOn C ml_X11_290 (by decide) (Nat.le_of_ble_eq_true rfl) dX11_chain_129 (fun v6 => ?_)
    refine S_if_ne C 141 dX11_chain_132 (by decide) ?_ ?_
    · refine S_iload C 4 dX11_chain_141 rfl ?_
      refine S_istore C [(4, .int x6), (0, .ref (aC z 0)), (3, .int x3), (5, .int x5), (6, .int x6)] dX11_chain_143 (by decide) rfl ?_
      refine S_iinc C 3 [(5, .int (x5 + 1)), (4, .int x6), (0, .ref (aC z 0)), (3, .int x3), (6, .int x6)] (x5 + 1) dX11_chain_145 rfl rfl (by decide) rfl ?_
      refine S_goto C 115 dX11_chain_148 (by decide) ?_
      exact S_sub [2, 3, 1, 0] rfl (hk115 x3 x6 (x5 + 1) σ)
    · refine S_iinc C 4 [(6, .int (x6 + 1)), (0, .ref (aC z 0)), (3, .int x3), (4, .int x4), (5, .int x5)] (x6 + 1) dX11_chain_135 rfl rfl (by decide) rfl ?_
      refine S_goto C 124 dX11_chain_138 (by decide) ?_
      exact S_sub [1, 2, 3, 4, 0] rfl (ih x3 x4 x5 (x6 + 1) σ)
set_option maxRecDepth 10000 in
theorem WT_X11_chain_L115 {x : MX} {z : ZT} (C : Cok x (wxM z) RX11 cX11_chain 7 (some .int) 3 77) : ∀ (n : Nat) (x3 : Int32) (x4 : Int32) (x5 : Int32) (σ : St), Sim x (wxM z) 7 jIS (X11_chain_L115 n x3 x4 x5 σ) 115 [(0, .ref (aC z 0)), (3, .int x3), (4, .int x4), (5, .int x5)] [] σ := by
  intro n
  induction n with
  | zero =>
    intros
    exact S_none
  | succ n ih =>
    intro x3 x4 x5 σ
    rw [X11_chain_L115]
    refine S_iload C 3 dX11_chain_115 rfl ?_
    refine S_iload_n C 1 dX11_chain_117 rfl ?_
    refine S_icmp_ge C 151 dX11_chain_118 (by decide) ?_ ?_
    · refine S_iload C 2 dX11_chain_151 rfl ?_
      exact S_iret C rfl dX11_chain_153
    · refine S_iconst C (0) dX11_chain_121 (by decide) ?_
      refine S_istore C [(6, .int 0), (0, .ref (aC z 0)), (3, .int x3), (4, .int x4), (5, .int x5)] dX11_chain_122 (by decide) rfl ?_
      exact S_sub [1, 2, 3, 4, 0] rfl (WT_X11_chain_L124 C _ ih FU x3 x4 x5 (0 : Int32) σ)
set_option maxRecDepth 10000 in
theorem WT_X11_chain_B42 {x : MX} {z : ZT} (C : Cok x (wxM z) RX11 cX11_chain 7 (some .int) 3 77) (x1 : Int32) (x2 : Int32) (x3 : Int32) (σ : St) : Sim x (wxM z) 7 jIS (X11_chain_B42 x1 x2 x3 σ) 42 [(0, .ref (aC z 0)), (1, .int x1), (2, .int x2), (3, .int x3)] [] σ := by
  rw [X11_chain_B42]
  refine S_aload_n C 0 dX11_chain_42 rfl ?_
  refine K_X11_layNames C ml_X11_279 (by decide) (Nat.le_of_ble_eq_true rfl) dX11_chain_43 (fun σ4 => ?_)
  refine S_aload_n C 0 dX11_chain_46 rfl ?_
  refine S_iload_n C 2 dX11_chain_47 rfl ?_
  refine K_X11_layChains C ml_X11_287 (by decide) (Nat.le_of_ble_eq_true rfl) dX11_chain_48 (fun σ5 => ?_)
  refine S_aload_n C 0 dX11_chain_51 rfl ?_
  refine G_X11_sums C fl_X11_79 dX11_chain_52 ?_
  refine S_iload_n C 1 dX11_chain_55 rfl ?_
  refine L_X11_sums C dX11_chain_56 (fun _ => ?_)
  refine S_ldcw C (1000000) kc_X11_282 dX11_chain_57 ?_
  refine S_icmp_ne C 66 dX11_chain_60 (by decide) ?_ ?_
  · refine S_iload_n C 3 dX11_chain_66 rfl ?_
    refine S_bipush C (10) dX11_chain_67 (by decide) ?_
    refine S_icmp_ge C 92 dX11_chain_69 (by decide) ?_ ?_
    · refine S_iload_n C 3 dX11_chain_92 rfl ?_
      refine S_bipush C (10) dX11_chain_93 (by decide) ?_
      refine S_isub C dX11_chain_95 ?_
      refine S_aload_n C 0 dX11_chain_96 rfl ?_
      refine G_X11_manys C fl_X11_82 dX11_chain_97 ?_
      refine S_iload_n C 1 dX11_chain_100 rfl ?_
      refine L_X11_manys C dX11_chain_101 (fun _ => ?_)
      refine S_icmp_lt C 108 dX11_chain_102 (by decide) ?_ ?_
      · refine S_iload_n C 1 dX11_chain_108 rfl ?_
        refine S_istore C [(4, .int x1), (0, .ref (aC z 0)), (1, .int x1), (2, .int x2), (3, .int x3)] dX11_chain_109 (by decide) rfl ?_
        refine S_bipush C (10) dX11_chain_111 (by decide) ?_
        refine S_istore C [(5, .int 10), (4, .int x1), (0, .ref (aC z 0)), (1, .int x1), (2, .int x2), (3, .int x3)] dX11_chain_113 (by decide) rfl ?_
        exact S_sub [2, 5, 1, 0] rfl (WT_X11_chain_L115 C FU x3 x1 (10 : Int32) σ5)
      · refine S_bipush C (-4) dX11_chain_105 (by decide) ?_
        exact S_iret C rfl dX11_chain_107
    · refine S_iload_n C 3 dX11_chain_72 rfl ?_
      refine S_if_ne C 85 dX11_chain_73 (by decide) ?_ ?_
      · refine S_aload_n C 0 dX11_chain_85 rfl ?_
        refine G_X11_sums C fl_X11_79 dX11_chain_86 ?_
        refine S_iload_n C 1 dX11_chain_89 rfl ?_
        refine L_X11_sums C dX11_chain_90 (fun _ => ?_)
        exact S_iret C rfl dX11_chain_91
      · refine S_aload_n C 0 dX11_chain_76 rfl ?_
        refine G_X11_manys C fl_X11_82 dX11_chain_77 ?_
        refine S_iload_n C 1 dX11_chain_80 rfl ?_
        refine L_X11_manys C dX11_chain_81 (fun _ => ?_)
        refine S_goto C 91 dX11_chain_82 (by decide) ?_
        exact S_iret C rfl dX11_chain_91
  · refine S_bipush C (-4) dX11_chain_63 (by decide) ?_
    exact S_iret C rfl dX11_chain_65
set_option maxRecDepth 10000 in
theorem WT_X11_chain {x : MX} {z : ZT} (C : Cok x (wxM z) RX11 cX11_chain 7 (some .int) 3 77) (x1 : Int32) (x2 : Int32) (x3 : Int32) (σ : St) : Sim x (wxM z) 7 jIS (X11_chain x1 x2 x3 σ) 0 [(0, .ref (aC z 0)), (1, .int x1), (2, .int x2), (3, .int x3)] [] σ := by
  rw [X11_chain]
  refine S_aload_n C 0 dX11_chain_0 rfl ?_
  refine S_iload_n C 1 dX11_chain_1 rfl ?_
  refine K_X11_isSpelling C ml_X11_166 (by decide) (Nat.le_of_ble_eq_true rfl) dX11_chain_2 (fun v1 => ?_)
  refine S_if_eq C 40 dX11_chain_5 (by decide) ?_ ?_
  · refine S_iconst C (-1) dX11_chain_40 (by decide) ?_
    exact S_iret C rfl dX11_chain_41
  · refine S_aload_n C 0 dX11_chain_8 rfl ?_
    refine S_iload_n C 2 dX11_chain_9 rfl ?_
    refine K_X11_isSpelling C ml_X11_166 (by decide) (Nat.le_of_ble_eq_true rfl) dX11_chain_10 (fun v2 => ?_)
    refine S_if_eq C 40 dX11_chain_13 (by decide) ?_ ?_
    · refine S_iconst C (-1) dX11_chain_40 (by decide) ?_
      exact S_iret C rfl dX11_chain_41
    · refine S_iload_n C 3 dX11_chain_16 rfl ?_
      refine S_i2l C dX11_chain_17 ?_
      refine S_lconst C (0) dX11_chain_18 (by decide) ?_
      refine S_lconst C (1) dX11_chain_19 (by decide) ?_
      refine K_X11_in C ml_X11_156 (by decide) (Nat.le_of_ble_eq_true rfl) dX11_chain_20 (fun v3 => ?_)
      refine S_if_ne C 42 dX11_chain_23 (by decide) ?_ ?_
      · exact S_sub [0, 1, 2, 3] rfl (WT_X11_chain_B42 C x1 x2 x3 σ)
      · refine S_iload_n C 3 dX11_chain_26 rfl ?_
        refine S_i2l C dX11_chain_27 ?_
        refine S_ldc2 C (10) kl_X11_283 dX11_chain_28 ?_
        refine S_ldc2 C (25) kl_X11_285 dX11_chain_31 ?_
        refine K_X11_in C ml_X11_156 (by decide) (Nat.le_of_ble_eq_true rfl) dX11_chain_34 (fun v7 => ?_)
        refine S_if_ne C 42 dX11_chain_37 (by decide) ?_ ?_
        · exact S_sub [0, 1, 2, 3] rfl (WT_X11_chain_B42 C x1 x2 x3 σ)
        · refine S_iconst C (-1) dX11_chain_40 (by decide) ?_
          exact S_iret C rfl dX11_chain_41
set_option maxRecDepth 10000 in
theorem con_X11_chain (z : ZT) (l : Launch) (x1 : Int32) (x2 : Int32) (x3 : Int32) (σ : St) : ∀ ro, X11_chain x1 x2 x3 σ = some ro → Con (wxM z) l yX11_chain cX11_chain 7 (some .int) 3 77 [.ref (aC z 0), .int x1, .int x2, .int x3] σ (jIS ro) :=
  fun ro hk => Con_of hk (by decide) (Nat.le_of_ble_eq_true rfl) (fun x hx C => WT_X11_chain C x1 x2 x3 σ)
set_option maxRecDepth 10000 in
theorem K_X11_chain {x : MX} {z : ZT} {own : String} {cc : ByteArray} {nL : Nat} {ret : Option FieldType} {fr lo : Nat} {ρ : Type} {inj : ρ → Option Value × St} {pc : Nat} {lv : List (Nat × Value)} {st : List Value} {σ : St} (C : Cok x (wxM z) own cc nL ret fr lo) {x1 : Int32} {x2 : Int32} {x3 : Int32} {index : Nat} (hl : Cond.methodLink own index yX11_chain ∈ gtb) (hR : 3 + 1 ≤ fr ∧ 8 + (7 + 11) + 77 ≤ lo) (hW : (st.map fun v => v.category).sum ≤ 8) (hd : decode cc pc = .ok (.invokevirtual index, 3)) {K : (Int32 × St) → Option ρ} (h : ∀ v, Sim x (wxM z) nL inj (K v) (pc + 3) lv (.int v.1 :: st) v.2) : Sim x (wxM z) nL inj ((X11_chain x1 x2 x3 σ).bind K) pc lv (.int x3 :: .int x2 :: .int x1 :: .ref (aC z 0) :: st) σ :=
  S_callV C (As := [.int x1, .int x2, .int x3]) (q := 0) (inj1 := jIS) mw_X11_chain mv_X11_chain hl (fun ro hro => con_X11_chain z (mL x) x1 x2 x3 σ ro hro) hR rfl (show 0 < 48 by decide) rfl (ce_X11 z σ) rfl rfl hW hd h
set_option maxRecDepth 10000 in
theorem WT_X11_sizeOf_L4 {x : MX} {z : ZT} (C : Cok x (wxM z) RX11 cX11_sizeOf 3 (some .int) 0 0) (σ : St) : ∀ (n : Nat) (x0 : Int32) (x1 : Int32) (x2 : Int32), Sim x (wxM z) 3 (jI σ) (X11_sizeOf_L4 σ n x0 x1 x2) 4 [(0, .int x0), (1, .int x1), (2, .int x2)] [] σ := by
  intro n
  induction n with
  | zero =>
    intros
    exact S_none
  | succ n ih =>
    intro x0 x1 x2
    rw [X11_sizeOf_L4]
    refine S_iload_n C 2 dX11_sizeOf_4 rfl ?_
    refine S_bipush C (16) dX11_sizeOf_5 (by decide) ?_
    refine S_icmp_ge C 24 dX11_sizeOf_7 (by decide) ?_ ?_
    · refine S_iload_n C 1 dX11_sizeOf_24 rfl ?_
      exact S_iret C rfl dX11_sizeOf_25
    · refine S_iload_n C 1 dX11_sizeOf_10 rfl ?_
      refine S_iload_n C 0 dX11_sizeOf_11 rfl ?_
      refine S_iload_n C 2 dX11_sizeOf_12 rfl ?_
      refine S_ishr C dX11_sizeOf_13 ?_
      refine S_iconst C (1) dX11_sizeOf_14 (by decide) ?_
      refine S_iand C dX11_sizeOf_15 ?_
      refine S_iadd C dX11_sizeOf_16 ?_
      refine S_bndT (fun x1_1 _ => ?_)
      refine S_istore_n C [(1, .int x1_1), (0, .int x0), (2, .int x2)] (i := 1) dX11_sizeOf_17 rfl (by decide) rfl ?_
      refine S_iinc C 2 [(2, .int (x2 + 1)), (1, .int x1_1), (0, .int x0)] (x2 + 1) dX11_sizeOf_18 rfl rfl (by decide) rfl ?_
      refine S_goto C 4 dX11_sizeOf_21 (by decide) ?_
      exact S_sub [2, 1, 0] rfl (ih x0 x1_1 (x2 + 1))
set_option maxRecDepth 10000 in
theorem WT_X11_sizeOf {x : MX} {z : ZT} (C : Cok x (wxM z) RX11 cX11_sizeOf 3 (some .int) 0 0) (x0 : Int32) (σ : St) : Sim x (wxM z) 3 (jI σ) (X11_sizeOf x0 σ) 0 [(0, .int x0)] [] σ := by
  rw [X11_sizeOf]
  refine S_iconst C (0) dX11_sizeOf_0 (by decide) ?_
  refine S_istore_n C [(1, .int 0), (0, .int x0)] (i := 1) dX11_sizeOf_1 rfl (by decide) rfl ?_
  refine S_iconst C (0) dX11_sizeOf_2 (by decide) ?_
  refine S_istore_n C [(2, .int 0), (1, .int 0), (0, .int x0)] (i := 2) dX11_sizeOf_3 rfl (by decide) rfl ?_
  exact S_sub [2, 1, 0] rfl (WT_X11_sizeOf_L4 C σ FU x0 (0 : Int32) (0 : Int32))
set_option maxRecDepth 10000 in
theorem con_X11_sizeOf (z : ZT) (l : Launch) (x0 : Int32) (σ : St) : ∀ ro, X11_sizeOf x0 σ = some ro → Con (wxM z) l yX11_sizeOf cX11_sizeOf 3 (some .int) 0 0 [.int x0] σ ((jI σ) ro) :=
  fun ro hk => Con_of hk (by decide) (Nat.le_of_ble_eq_true rfl) (fun x hx C => WT_X11_sizeOf C x0 σ)
set_option maxRecDepth 10000 in
theorem K_X11_sizeOf {x : MX} {z : ZT} {own : String} {cc : ByteArray} {nL : Nat} {ret : Option FieldType} {fr lo : Nat} {ρ : Type} {inj : ρ → Option Value × St} {pc : Nat} {lv : List (Nat × Value)} {st : List Value} {σ : St} (C : Cok x (wxM z) own cc nL ret fr lo) {x0 : Int32} {index : Nat} (hl : Cond.methodLink own index yX11_sizeOf ∈ gtb) (hR : 0 + 1 ≤ fr ∧ 8 + (3 + 11) + 0 ≤ lo) (hW : (st.map fun v => v.category).sum ≤ 8) (hd : decode cc pc = .ok (.invokestatic index, 3)) {K : Int32 → Option ρ} (h : ∀ v, Sim x (wxM z) nL inj (K v) (pc + 3) lv (.int v :: st) σ) : Sim x (wxM z) nL inj ((X11_sizeOf x0 σ).bind K) pc lv (.int x0 :: st) σ :=
  S_callS C (As := [.int x0]) (inj1 := (jI σ)) mw_X11_sizeOf ms_X11_sizeOf hl (fun ro hro => con_X11_sizeOf z (mL x) x0 σ ro hro) hR rfl rfl hW hd h
set_option maxRecDepth 10000 in
theorem WT_X11_firstAsFew_L13 {x : MX} {z : ZT} (C : Cok x (wxM z) RX11 cX11_firstAsFew 6 (some .int) 1 22) (σ : St) (kq2 : Int32 → Int32 → Int32 → Option Int32) (hk2 : ∀ (x1 : Int32) (x2 : Int32) (x3 : Int32), Sim x (wxM z) 6 (jI σ) (kq2 x1 x2 x3) 2 [(0, .ref (aC z 0)), (1, .int x1), (2, .int x2), (3, .int x3)] [] σ) : ∀ (n : Nat) (x1 : Int32) (x2 : Int32) (x3 : Int32) (x4 : Int32) (x5 : Int32), Sim x (wxM z) 6 (jI σ) (X11_firstAsFew_L13 kq2 σ n x1 x2 x3 x4 x5) 13 [(0, .ref (aC z 0)), (1, .int x1), (2, .int x2), (3, .int x3), (4, .int x4), (5, .int x5)] [] σ := by
  intro n
  induction n with
  | zero =>
    intros
    exact S_none
  | succ n ih =>
    intro x1 x2 x3 x4 x5
    rw [X11_firstAsFew_L13]
    refine S_iload C 5 dX11_firstAsFew_13 rfl ?_
    refine S_aload_n C 0 dX11_firstAsFew_15 rfl ?_
    refine G_X11_spellings C fl_X11_152 dX11_firstAsFew_16 ?_
    refine S_icmp_ge C 54 dX11_firstAsFew_19 (by decide) ?_ ?_
    · refine S_iload C 4 dX11_firstAsFew_54 rfl ?_
      refine S_iload_n C 2 dX11_firstAsFew_56 rfl ?_
      refine S_icmp_ne C 70 dX11_firstAsFew_57 (by decide) ?_ ?_
      · refine S_iinc C 3 [(3, .int (x3 + 1)), (0, .ref (aC z 0)), (1, .int x1), (2, .int x2), (4, .int x4), (5, .int x5)] (x3 + 1) dX11_firstAsFew_70 rfl rfl (by decide) rfl ?_
        refine S_goto C 2 dX11_firstAsFew_73 (by decide) ?_
        exact S_sub [1, 2, 3, 0] rfl (hk2 x1 x2 (x3 + 1))
      · refine S_iload_n C 3 dX11_firstAsFew_60 rfl ?_
        refine K_X11_sizeOf C ml_X11_296 (by decide) (Nat.le_of_ble_eq_true rfl) dX11_firstAsFew_61 (fun v1 => ?_)
        refine S_iload_n C 1 dX11_firstAsFew_64 rfl ?_
        refine S_icmp_ne C 70 dX11_firstAsFew_65 (by decide) ?_ ?_
        · refine S_iinc C 3 [(3, .int (x3 + 1)), (0, .ref (aC z 0)), (1, .int x1), (2, .int x2), (4, .int x4), (5, .int x5)] (x3 + 1) dX11_firstAsFew_70 rfl rfl (by decide) rfl ?_
          refine S_goto C 2 dX11_firstAsFew_73 (by decide) ?_
          exact S_sub [1, 2, 3, 0] rfl (hk2 x1 x2 (x3 + 1))
        · refine S_iload_n C 3 dX11_firstAsFew_68 rfl ?_
          exact S_iret C rfl dX11_firstAsFew_69
    · refine S_iload C 4 dX11_firstAsFew_22 rfl ?_
      refine S_iload_n C 3 dX11_firstAsFew_24 rfl ?_
      refine S_iload C 5 dX11_firstAsFew_25 rfl ?_
      refine S_ishr C dX11_firstAsFew_27 ?_
      refine S_iconst C (1) dX11_firstAsFew_28 (by decide) ?_
      refine S_iand C dX11_firstAsFew_29 ?_
      refine S_iconst C (1) dX11_firstAsFew_30 (by decide) ?_
      refine S_icmp_ne C 44 dX11_firstAsFew_31 (by decide) ?_ ?_
      · refine S_iconst C (0) dX11_firstAsFew_44 (by decide) ?_
        refine S_ior C dX11_firstAsFew_45 ?_
        refine S_bndT (fun x4_2 _ => ?_)
        refine S_istore C [(4, .int x4_2), (0, .ref (aC z 0)), (1, .int x1), (2, .int x2), (3, .int x3), (5, .int x5)] dX11_firstAsFew_46 (by decide) rfl ?_
        refine S_iinc C 5 [(5, .int (x5 + 1)), (4, .int x4_2), (0, .ref (aC z 0)), (1, .int x1), (2, .int x2), (3, .int x3)] (x5 + 1) dX11_firstAsFew_48 rfl rfl (by decide) rfl ?_
        refine S_goto C 13 dX11_firstAsFew_51 (by decide) ?_
        exact S_sub [2, 3, 4, 5, 1, 0] rfl (ih x1 x2 x3 x4_2 (x5 + 1))
      · refine S_aload_n C 0 dX11_firstAsFew_34 rfl ?_
        refine G_X11_reached C fl_X11_85 dX11_firstAsFew_35 ?_
        refine S_iload C 5 dX11_firstAsFew_38 rfl ?_
        refine L_X11_reached C dX11_firstAsFew_40 (fun _ => ?_)
        refine S_goto C 45 dX11_firstAsFew_41 (by decide) ?_
        refine S_ior C dX11_firstAsFew_45 ?_
        refine S_bndT (fun x4_3 _ => ?_)
        refine S_istore C [(4, .int x4_3), (0, .ref (aC z 0)), (1, .int x1), (2, .int x2), (3, .int x3), (5, .int x5)] dX11_firstAsFew_46 (by decide) rfl ?_
        refine S_iinc C 5 [(5, .int (x5 + 1)), (4, .int x4_3), (0, .ref (aC z 0)), (1, .int x1), (2, .int x2), (3, .int x3)] (x5 + 1) dX11_firstAsFew_48 rfl rfl (by decide) rfl ?_
        refine S_goto C 13 dX11_firstAsFew_51 (by decide) ?_
        exact S_sub [2, 3, 4, 5, 1, 0] rfl (ih x1 x2 x3 x4_3 (x5 + 1))
set_option maxRecDepth 10000 in
theorem WT_X11_firstAsFew_L2 {x : MX} {z : ZT} (C : Cok x (wxM z) RX11 cX11_firstAsFew 6 (some .int) 1 22) (σ : St) : ∀ (n : Nat) (x1 : Int32) (x2 : Int32) (x3 : Int32), Sim x (wxM z) 6 (jI σ) (X11_firstAsFew_L2 σ n x1 x2 x3) 2 [(0, .ref (aC z 0)), (1, .int x1), (2, .int x2), (3, .int x3)] [] σ := by
  intro n
  induction n with
  | zero =>
    intros
    exact S_none
  | succ n ih =>
    intro x1 x2 x3
    rw [X11_firstAsFew_L2]
    refine S_iload_n C 3 dX11_firstAsFew_2 rfl ?_
    refine S_iload_n C 2 dX11_firstAsFew_3 rfl ?_
    refine S_icmp_gt C 76 dX11_firstAsFew_4 (by decide) ?_ ?_
    · refine S_iload_n C 2 dX11_firstAsFew_76 rfl ?_
      exact S_iret C rfl dX11_firstAsFew_77
    · refine S_iconst C (0) dX11_firstAsFew_7 (by decide) ?_
      refine S_istore C [(4, .int 0), (0, .ref (aC z 0)), (1, .int x1), (2, .int x2), (3, .int x3)] dX11_firstAsFew_8 (by decide) rfl ?_
      refine S_iconst C (0) dX11_firstAsFew_10 (by decide) ?_
      refine S_istore C [(5, .int 0), (4, .int 0), (0, .ref (aC z 0)), (1, .int x1), (2, .int x2), (3, .int x3)] dX11_firstAsFew_11 (by decide) rfl ?_
      exact S_sub [2, 3, 4, 5, 1, 0] rfl (WT_X11_firstAsFew_L13 C σ _ ih FU x1 x2 x3 (0 : Int32) (0 : Int32))
set_option maxRecDepth 10000 in
theorem WT_X11_firstAsFew {x : MX} {z : ZT} (C : Cok x (wxM z) RX11 cX11_firstAsFew 6 (some .int) 1 22) (x1 : Int32) (x2 : Int32) (σ : St) : Sim x (wxM z) 6 (jI σ) (X11_firstAsFew x1 x2 σ) 0 [(0, .ref (aC z 0)), (1, .int x1), (2, .int x2)] [] σ := by
  rw [X11_firstAsFew]
  refine S_iconst C (0) dX11_firstAsFew_0 (by decide) ?_
  refine S_istore_n C [(3, .int 0), (0, .ref (aC z 0)), (1, .int x1), (2, .int x2)] (i := 3) dX11_firstAsFew_1 rfl (by decide) rfl ?_
  exact S_sub [1, 2, 3, 0] rfl (WT_X11_firstAsFew_L2 C σ FU x1 x2 (0 : Int32))
set_option maxRecDepth 10000 in
theorem con_X11_firstAsFew (z : ZT) (l : Launch) (x1 : Int32) (x2 : Int32) (σ : St) : ∀ ro, X11_firstAsFew x1 x2 σ = some ro → Con (wxM z) l yX11_firstAsFew cX11_firstAsFew 6 (some .int) 1 22 [.ref (aC z 0), .int x1, .int x2] σ ((jI σ) ro) :=
  fun ro hk => Con_of hk (by decide) (Nat.le_of_ble_eq_true rfl) (fun x hx C => WT_X11_firstAsFew C x1 x2 σ)
set_option maxRecDepth 10000 in
theorem K_X11_firstAsFew {x : MX} {z : ZT} {own : String} {cc : ByteArray} {nL : Nat} {ret : Option FieldType} {fr lo : Nat} {ρ : Type} {inj : ρ → Option Value × St} {pc : Nat} {lv : List (Nat × Value)} {st : List Value} {σ : St} (C : Cok x (wxM z) own cc nL ret fr lo) {x1 : Int32} {x2 : Int32} {index : Nat} (hl : Cond.methodLink own index yX11_firstAsFew ∈ gtb) (hR : 1 + 1 ≤ fr ∧ 8 + (6 + 11) + 22 ≤ lo) (hW : (st.map fun v => v.category).sum ≤ 8) (hd : decode cc pc = .ok (.invokevirtual index, 3)) {K : Int32 → Option ρ} (h : ∀ v, Sim x (wxM z) nL inj (K v) (pc + 3) lv (.int v :: st) σ) : Sim x (wxM z) nL inj ((X11_firstAsFew x1 x2 σ).bind K) pc lv (.int x2 :: .int x1 :: .ref (aC z 0) :: st) σ :=
  S_callV C (As := [.int x1, .int x2]) (q := 0) (inj1 := (jI σ)) mw_X11_firstAsFew mv_X11_firstAsFew hl (fun ro hro => con_X11_firstAsFew z (mL x) x1 x2 σ ro hro) hR rfl (show 0 < 48 by decide) rfl (ce_X11 z σ) rfl rfl hW hd h
set_option maxRecDepth 10000 in
theorem WT_X11_standing_B226 {x : MX} {z : ZT} (C : Cok x (wxM z) RX11 cX11_standing 8 (some .int) 3 77) (x1 : Int32) (x2 : Int32) (x3 : Int32) (x4 : Int32) (σ : St) : Sim x (wxM z) 8 jIS (X11_standing_B226 x1 x2 x3 x4 σ) 226 [(0, .ref (aC z 0)), (1, .int x1), (2, .int x2), (3, .int x3), (4, .int x4)] [] σ := by
  rw [X11_standing_B226]
  refine S_iload_n C 1 dX11_standing_226 rfl ?_
  refine S_if_ne C 238 dX11_standing_227 (by decide) ?_ ?_
  · refine S_iload_n C 1 dX11_standing_238 rfl ?_
    refine S_iconst C (1) dX11_standing_239 (by decide) ?_
    refine S_icmp_ne C 256 dX11_standing_240 (by decide) ?_ ?_
    · refine S_iload_n C 2 dX11_standing_256 rfl ?_
      exact S_iret C rfl dX11_standing_257
    · refine S_aload_n C 0 dX11_standing_243 rfl ?_
      refine S_iload C 4 dX11_standing_244 rfl ?_
      refine K_X11_sizeOf C ml_X11_296 (by decide) (Nat.le_of_ble_eq_true rfl) dX11_standing_246 (fun v4 => ?_)
      refine S_iload_n C 3 dX11_standing_249 rfl ?_
      refine K_X11_firstAsFew C ml_X11_299 (by decide) (Nat.le_of_ble_eq_true rfl) dX11_standing_250 (fun v5 => ?_)
      refine S_goto C 257 dX11_standing_253 (by decide) ?_
      exact S_iret C rfl dX11_standing_257
  · refine S_iload C 4 dX11_standing_230 rfl ?_
    refine K_X11_sizeOf C ml_X11_296 (by decide) (Nat.le_of_ble_eq_true rfl) dX11_standing_232 (fun v6 => ?_)
    refine S_goto C 257 dX11_standing_235 (by decide) ?_
    exact S_iret C rfl dX11_standing_257
set_option maxRecDepth 10000 in
theorem WT_X11_standing_L155 {x : MX} {z : ZT} (C : Cok x (wxM z) RX11 cX11_standing 8 (some .int) 3 77) (kq138 : Int32 → Int32 → Int32 → Int32 → Int32 → St → Option (Int32 × St)) (hk138 : ∀ (x1 : Int32) (x2 : Int32) (x3 : Int32) (x4 : Int32) (x5 : Int32) (σ : St), Sim x (wxM z) 8 jIS (kq138 x1 x2 x3 x4 x5 σ) 138 [(0, .ref (aC z 0)), (1, .int x1), (2, .int x2), (3, .int x3), (4, .int x4), (5, .int x5)] [] σ) : ∀ (n : Nat) (x1 : Int32) (x2 : Int32) (x3 : Int32) (x4 : Int32) (x5 : Int32) (x6 : Int32) (x7 : Int32) (σ : St), Sim x (wxM z) 8 jIS (X11_standing_L155 kq138 n x1 x2 x3 x4 x5 x6 x7 σ) 155 [(0, .ref (aC z 0)), (1, .int x1), (2, .int x2), (3, .int x3), (4, .int x4), (5, .int x5), (6, .int x6), (7, .int x7)] [] σ := by
  intro n
  induction n with
  | zero =>
    intros
    exact S_none
  | succ n ih =>
    intro x1 x2 x3 x4 x5 x6 x7 σ
    rw [X11_standing_L155]
    refine S_iload C 7 dX11_standing_155 rfl ?_
    refine S_aload_n C 0 dX11_standing_157 rfl ?_
    refine G_X11_spellings C fl_X11_152 dX11_standing_158 ?_
    refine S_icmp_ge C 197 dX11_standing_161 (by decide) ?_ ?_
    · refine S_iload C 6 dX11_standing_197 rfl ?_
      refine S_iload_n C 3 dX11_standing_199 rfl ?_
      refine S_icmp_ne C 220 dX11_standing_200 (by decide) ?_ ?_
      · refine S_iinc C 5 [(5, .int (x5 + 1)), (0, .ref (aC z 0)), (1, .int x1), (2, .int x2), (3, .int x3), (4, .int x4), (6, .int x6), (7, .int x7)] (x5 + 1) dX11_standing_220 rfl rfl (by decide) rfl ?_
        refine S_goto C 138 dX11_standing_223 (by decide) ?_
        exact S_sub [1, 2, 3, 4, 5, 0] rfl (hk138 x1 x2 x3 x4 (x5 + 1) σ)
      · refine S_iload C 5 dX11_standing_203 rfl ?_
        refine K_X11_sizeOf C ml_X11_296 (by decide) (Nat.le_of_ble_eq_true rfl) dX11_standing_205 (fun v7 => ?_)
        refine S_iload C 4 dX11_standing_208 rfl ?_
        refine K_X11_sizeOf C ml_X11_296 (by decide) (Nat.le_of_ble_eq_true rfl) dX11_standing_210 (fun v8 => ?_)
        refine S_icmp_ge C 220 dX11_standing_213 (by decide) ?_ ?_
        · refine S_iinc C 5 [(5, .int (x5 + 1)), (0, .ref (aC z 0)), (1, .int x1), (2, .int x2), (3, .int x3), (4, .int x4), (6, .int x6), (7, .int x7)] (x5 + 1) dX11_standing_220 rfl rfl (by decide) rfl ?_
          refine S_goto C 138 dX11_standing_223 (by decide) ?_
          exact S_sub [1, 2, 3, 4, 5, 0] rfl (hk138 x1 x2 x3 x4 (x5 + 1) σ)
        · refine S_iload C 5 dX11_standing_216 rfl ?_
          refine S_istore C [(4, .int x5), (0, .ref (aC z 0)), (1, .int x1), (2, .int x2), (3, .int x3), (5, .int x5), (6, .int x6), (7, .int x7)] dX11_standing_218 (by decide) rfl ?_
          refine S_iinc C 5 [(5, .int (x5 + 1)), (4, .int x5), (0, .ref (aC z 0)), (1, .int x1), (2, .int x2), (3, .int x3), (6, .int x6), (7, .int x7)] (x5 + 1) dX11_standing_220 rfl rfl (by decide) rfl ?_
          refine S_goto C 138 dX11_standing_223 (by decide) ?_
          exact S_sub [2, 3, 4, 5, 1, 0] rfl (hk138 x1 x2 x3 x5 (x5 + 1) σ)
    · refine S_iload C 6 dX11_standing_164 rfl ?_
      refine S_iload C 5 dX11_standing_166 rfl ?_
      refine S_iload C 7 dX11_standing_168 rfl ?_
      refine S_ishr C dX11_standing_170 ?_
      refine S_iconst C (1) dX11_standing_171 (by decide) ?_
      refine S_iand C dX11_standing_172 ?_
      refine S_iconst C (1) dX11_standing_173 (by decide) ?_
      refine S_icmp_ne C 187 dX11_standing_174 (by decide) ?_ ?_
      · refine S_iconst C (0) dX11_standing_187 (by decide) ?_
        refine S_ior C dX11_standing_188 ?_
        refine S_bndT (fun x6_9 _ => ?_)
        refine S_istore C [(6, .int x6_9), (0, .ref (aC z 0)), (1, .int x1), (2, .int x2), (3, .int x3), (4, .int x4), (5, .int x5), (7, .int x7)] dX11_standing_189 (by decide) rfl ?_
        refine S_iinc C 7 [(7, .int (x7 + 1)), (6, .int x6_9), (0, .ref (aC z 0)), (1, .int x1), (2, .int x2), (3, .int x3), (4, .int x4), (5, .int x5)] (x7 + 1) dX11_standing_191 rfl rfl (by decide) rfl ?_
        refine S_goto C 155 dX11_standing_194 (by decide) ?_
        exact S_sub [2, 3, 4, 5, 6, 7, 1, 0] rfl (ih x1 x2 x3 x4 x5 x6_9 (x7 + 1) σ)
      · refine S_aload_n C 0 dX11_standing_177 rfl ?_
        refine G_X11_reached C fl_X11_85 dX11_standing_178 ?_
        refine S_iload C 7 dX11_standing_181 rfl ?_
        refine L_X11_reached C dX11_standing_183 (fun _ => ?_)
        refine S_goto C 188 dX11_standing_184 (by decide) ?_
        refine S_ior C dX11_standing_188 ?_
        refine S_bndT (fun x6_10 _ => ?_)
        refine S_istore C [(6, .int x6_10), (0, .ref (aC z 0)), (1, .int x1), (2, .int x2), (3, .int x3), (4, .int x4), (5, .int x5), (7, .int x7)] dX11_standing_189 (by decide) rfl ?_
        refine S_iinc C 7 [(7, .int (x7 + 1)), (6, .int x6_10), (0, .ref (aC z 0)), (1, .int x1), (2, .int x2), (3, .int x3), (4, .int x4), (5, .int x5)] (x7 + 1) dX11_standing_191 rfl rfl (by decide) rfl ?_
        refine S_goto C 155 dX11_standing_194 (by decide) ?_
        exact S_sub [2, 3, 4, 5, 6, 7, 1, 0] rfl (ih x1 x2 x3 x4 x5 x6_10 (x7 + 1) σ)
set_option maxRecDepth 10000 in
theorem WT_X11_standing_L138 {x : MX} {z : ZT} (C : Cok x (wxM z) RX11 cX11_standing 8 (some .int) 3 77) : ∀ (n : Nat) (x1 : Int32) (x2 : Int32) (x3 : Int32) (x4 : Int32) (x5 : Int32) (σ : St), Sim x (wxM z) 8 jIS (X11_standing_L138 n x1 x2 x3 x4 x5 σ) 138 [(0, .ref (aC z 0)), (1, .int x1), (2, .int x2), (3, .int x3), (4, .int x4), (5, .int x5)] [] σ := by
  intro n
  induction n with
  | zero =>
    intros
    exact S_none
  | succ n ih =>
    intro x1 x2 x3 x4 x5 σ
    rw [X11_standing_L138]
    refine S_iload C 5 dX11_standing_138 rfl ?_
    refine S_iload_n C 3 dX11_standing_140 rfl ?_
    refine S_icmp_gt C 226 dX11_standing_141 (by decide) ?_ ?_
    · exact S_sub [0, 1, 2, 3, 4] rfl (WT_X11_standing_B226 C x1 x2 x3 x4 σ)
    · refine S_iload_n C 1 dX11_standing_144 rfl ?_
      refine S_iconst C (2) dX11_standing_145 (by decide) ?_
      refine S_icmp_ge C 226 dX11_standing_146 (by decide) ?_ ?_
      · exact S_sub [0, 1, 2, 3, 4] rfl (WT_X11_standing_B226 C x1 x2 x3 x4 σ)
      · refine S_iconst C (0) dX11_standing_149 (by decide) ?_
        refine S_istore C [(6, .int 0), (0, .ref (aC z 0)), (1, .int x1), (2, .int x2), (3, .int x3), (4, .int x4), (5, .int x5)] dX11_standing_150 (by decide) rfl ?_
        refine S_iconst C (0) dX11_standing_152 (by decide) ?_
        refine S_istore C [(7, .int 0), (6, .int 0), (0, .ref (aC z 0)), (1, .int x1), (2, .int x2), (3, .int x3), (4, .int x4), (5, .int x5)] dX11_standing_153 (by decide) rfl ?_
        exact S_sub [2, 3, 4, 5, 6, 7, 1, 0] rfl (WT_X11_standing_L155 C _ ih FU x1 x2 x3 x4 x5 (0 : Int32) (0 : Int32) σ)
set_option maxRecDepth 10000 in
theorem WT_X11_standing_L58 {x : MX} {z : ZT} (C : Cok x (wxM z) RX11 cX11_standing 8 (some .int) 3 77) (kq22 : Int32 → Int32 → Int32 → St → Option (Int32 × St)) (hk22 : ∀ (x1 : Int32) (x2 : Int32) (x3 : Int32) (σ : St), Sim x (wxM z) 8 jIS (kq22 x1 x2 x3 σ) 22 [(0, .ref (aC z 0)), (1, .int x1), (2, .int x2), (3, .int x3)] [] σ) : ∀ (n : Nat) (x1 : Int32) (x2 : Int32) (x3 : Int32) (x4 : Int32) (σ : St), Sim x (wxM z) 8 jIS (X11_standing_L58 kq22 n x1 x2 x3 x4 σ) 58 [(0, .ref (aC z 0)), (1, .int x1), (2, .int x2), (3, .int x3), (4, .int x4)] [] σ := by
  intro n
  induction n with
  | zero =>
    intros
    exact S_none
  | succ n ih =>
    intro x1 x2 x3 x4 σ
    rw [X11_standing_L58]
    refine S_iload C 4 dX11_standing_58 rfl ?_
    refine S_aload_n C 0 dX11_standing_60 rfl ?_
    refine G_X11_spellings C fl_X11_152 dX11_standing_61 ?_
    refine S_icmp_ge C 117 dX11_standing_64 (by decide) ?_ ?_
    · refine S_iinc C 3 [(3, .int (x3 + 1)), (0, .ref (aC z 0)), (1, .int x1), (2, .int x2), (4, .int x4)] (x3 + 1) dX11_standing_117 rfl rfl (by decide) rfl ?_
      refine S_goto C 22 dX11_standing_120 (by decide) ?_
      exact S_sub [1, 2, 3, 0] rfl (hk22 x1 x2 (x3 + 1) σ)
    · refine S_aload_n C 0 dX11_standing_67 rfl ?_
      refine G_X11_reached C fl_X11_85 dX11_standing_68 ?_
      refine S_iload_n C 3 dX11_standing_71 rfl ?_
      refine S_dup2 C dX11_standing_72 rfl rfl ?_
      refine L_X11_reached C dX11_standing_73 (fun _ => ?_)
      refine S_iload_n C 3 dX11_standing_74 rfl ?_
      refine S_iload C 4 dX11_standing_75 rfl ?_
      refine S_icmp_eq C 101 dX11_standing_77 (by decide) ?_ ?_
      · refine S_iconst C (1) dX11_standing_101 (by decide) ?_
        refine S_iload C 4 dX11_standing_102 rfl ?_
        refine S_ishl C dX11_standing_104 ?_
        refine S_goto C 109 dX11_standing_105 (by decide) ?_
        refine S_ior C dX11_standing_109 ?_
        refine T_X11_reached C dX11_standing_110 (fun _ => ?_)
        refine S_bndS (fun σ13 _ => ?_)
        refine S_iinc C 4 [(4, .int (x4 + 1)), (0, .ref (aC z 0)), (1, .int x1), (2, .int x2), (3, .int x3)] (x4 + 1) dX11_standing_111 rfl rfl (by decide) rfl ?_
        refine S_goto C 58 dX11_standing_114 (by decide) ?_
        exact S_sub [1, 2, 3, 4, 0] rfl (ih x1 x2 x3 (x4 + 1) σ13)
      · refine S_aload_n C 0 dX11_standing_80 rfl ?_
        refine G_X11_far C fl_X11_70 dX11_standing_81 ?_
        refine S_bipush C (16) dX11_standing_84 (by decide) ?_
        refine S_iload_n C 3 dX11_standing_86 rfl ?_
        refine S_imul C dX11_standing_87 ?_
        refine S_iload C 4 dX11_standing_88 rfl ?_
        refine S_iadd C dX11_standing_90 ?_
        refine L_X11_far C dX11_standing_91 (fun _ => ?_)
        refine S_aload_n C 0 dX11_standing_92 rfl ?_
        refine G_X11_holds C fl_X11_28 dX11_standing_93 ?_
        refine S_iconst C (2) dX11_standing_96 (by decide) ?_
        refine Lk_X11_holds C 2 (by decide) dX11_standing_97 ?_
        refine S_icmp_gt C 108 dX11_standing_98 (by decide) ?_ ?_
        · refine S_iconst C (0) dX11_standing_108 (by decide) ?_
          refine S_ior C dX11_standing_109 ?_
          refine T_X11_reached C dX11_standing_110 (fun _ => ?_)
          refine S_bndS (fun σ14 _ => ?_)
          refine S_iinc C 4 [(4, .int (x4 + 1)), (0, .ref (aC z 0)), (1, .int x1), (2, .int x2), (3, .int x3)] (x4 + 1) dX11_standing_111 rfl rfl (by decide) rfl ?_
          refine S_goto C 58 dX11_standing_114 (by decide) ?_
          exact S_sub [1, 2, 3, 4, 0] rfl (ih x1 x2 x3 (x4 + 1) σ14)
        · refine S_iconst C (1) dX11_standing_101 (by decide) ?_
          refine S_iload C 4 dX11_standing_102 rfl ?_
          refine S_ishl C dX11_standing_104 ?_
          refine S_goto C 109 dX11_standing_105 (by decide) ?_
          refine S_ior C dX11_standing_109 ?_
          refine T_X11_reached C dX11_standing_110 (fun _ => ?_)
          refine S_bndS (fun σ15 _ => ?_)
          refine S_iinc C 4 [(4, .int (x4 + 1)), (0, .ref (aC z 0)), (1, .int x1), (2, .int x2), (3, .int x3)] (x4 + 1) dX11_standing_111 rfl rfl (by decide) rfl ?_
          refine S_goto C 58 dX11_standing_114 (by decide) ?_
          exact S_sub [1, 2, 3, 4, 0] rfl (ih x1 x2 x3 (x4 + 1) σ15)
set_option maxRecDepth 10000 in
theorem WT_X11_standing_L22 {x : MX} {z : ZT} (C : Cok x (wxM z) RX11 cX11_standing 8 (some .int) 3 77) : ∀ (n : Nat) (x1 : Int32) (x2 : Int32) (x3 : Int32) (σ : St), Sim x (wxM z) 8 jIS (X11_standing_L22 n x1 x2 x3 σ) 22 [(0, .ref (aC z 0)), (1, .int x1), (2, .int x2), (3, .int x3)] [] σ := by
  intro n
  induction n with
  | zero =>
    intros
    exact S_none
  | succ n ih =>
    intro x1 x2 x3 σ
    rw [X11_standing_L22]
    refine S_iload_n C 3 dX11_standing_22 rfl ?_
    refine S_aload_n C 0 dX11_standing_23 rfl ?_
    refine G_X11_spellings C fl_X11_152 dX11_standing_24 ?_
    refine S_icmp_ge C 123 dX11_standing_27 (by decide) ?_ ?_
    · refine S_iconst C (1) dX11_standing_123 (by decide) ?_
      refine S_aload_n C 0 dX11_standing_124 rfl ?_
      refine G_X11_spellings C fl_X11_152 dX11_standing_125 ?_
      refine S_ishl C dX11_standing_128 ?_
      refine S_iconst C (1) dX11_standing_129 (by decide) ?_
      refine S_isub C dX11_standing_130 ?_
      refine S_bndT (fun x3_3 _ => ?_)
      refine S_istore_n C [(3, .int x3_3), (0, .ref (aC z 0)), (1, .int x1), (2, .int x2)] (i := 3) dX11_standing_131 rfl (by decide) rfl ?_
      refine S_iload_n C 0 dX11_standing_132 rfl ?_
      refine S_istore C [(4, .int x3_3), (3, .int x3_3), (0, .ref (aC z 0)), (1, .int x1), (2, .int x2)] dX11_standing_133 (by decide) rfl ?_
      refine S_iconst C (0) dX11_standing_135 (by decide) ?_
      refine S_istore C [(5, .int 0), (4, .int x3_3), (3, .int x3_3), (0, .ref (aC z 0)), (1, .int x1), (2, .int x2)] dX11_standing_136 (by decide) rfl ?_
      exact S_sub [3, 4, 5, 2, 1, 0] rfl (WT_X11_standing_L138 C FU x1 x2 x3_3 x3_3 (0 : Int32) σ)
    · refine S_iload_n C 2 dX11_standing_30 rfl ?_
      refine S_aload_n C 0 dX11_standing_31 rfl ?_
      refine G_X11_nameOf C fl_X11_73 dX11_standing_32 ?_
      refine S_iload_n C 3 dX11_standing_35 rfl ?_
      refine L_X11_nameOf C dX11_standing_36 (fun _ => ?_)
      refine S_iload_n C 3 dX11_standing_37 rfl ?_
      refine S_icmp_ne C 45 dX11_standing_38 (by decide) ?_ ?_
      · refine S_iconst C (0) dX11_standing_45 (by decide) ?_
        refine S_iadd C dX11_standing_46 ?_
        refine S_bndT (fun x2_11 _ => ?_)
        refine S_istore_n C [(2, .int x2_11), (0, .ref (aC z 0)), (1, .int x1), (3, .int x3)] (i := 2) dX11_standing_47 rfl (by decide) rfl ?_
        refine S_aload_n C 1 dX11_standing_48 rfl ?_
        refine G_X11_reached C fl_X11_85 dX11_standing_49 ?_
        refine S_iload_n C 3 dX11_standing_52 rfl ?_
        refine S_iconst C (0) dX11_standing_53 (by decide) ?_
        refine T_X11_reached C dX11_standing_54 (fun _ => ?_)
        refine S_bndS (fun σ12 _ => ?_)
        refine S_iconst C (0) dX11_standing_55 (by decide) ?_
        refine S_istore C [(4, .int 0), (2, .int x2_11), (0, .ref (aC z 0)), (1, .int x1), (3, .int x3)] dX11_standing_56 (by decide) rfl ?_
        exact S_sub [2, 3, 1, 4, 0] rfl (WT_X11_standing_L58 C _ ih FU x1 x2_11 x3 (0 : Int32) σ12)
      · refine S_iconst C (1) dX11_standing_41 (by decide) ?_
        refine S_goto C 46 dX11_standing_42 (by decide) ?_
        refine S_iadd C dX11_standing_46 ?_
        refine S_bndT (fun x2_16 _ => ?_)
        refine S_istore_n C [(2, .int x2_16), (0, .ref (aC z 0)), (1, .int x1), (3, .int x3)] (i := 2) dX11_standing_47 rfl (by decide) rfl ?_
        refine S_aload_n C 1 dX11_standing_48 rfl ?_
        refine G_X11_reached C fl_X11_85 dX11_standing_49 ?_
        refine S_iload_n C 3 dX11_standing_52 rfl ?_
        refine S_iconst C (0) dX11_standing_53 (by decide) ?_
        refine T_X11_reached C dX11_standing_54 (fun _ => ?_)
        refine S_bndS (fun σ17 _ => ?_)
        refine S_iconst C (0) dX11_standing_55 (by decide) ?_
        refine S_istore C [(4, .int 0), (2, .int x2_16), (0, .ref (aC z 0)), (1, .int x1), (3, .int x3)] dX11_standing_56 (by decide) rfl ?_
        exact S_sub [2, 3, 1, 4, 0] rfl (WT_X11_standing_L58 C _ ih FU x1 x2_16 x3 (0 : Int32) σ17)
set_option maxRecDepth 10000 in
theorem WT_X11_standing {x : MX} {z : ZT} (C : Cok x (wxM z) RX11 cX11_standing 8 (some .int) 3 77) (x1 : Int32) (σ : St) : Sim x (wxM z) 8 jIS (X11_standing x1 σ) 0 [(0, .ref (aC z 0)), (1, .int x1)] [] σ := by
  rw [X11_standing]
  refine S_iload_n C 1 dX11_standing_0 rfl ?_
  refine S_i2l C dX11_standing_1 ?_
  refine S_lconst C (0) dX11_standing_2 (by decide) ?_
  refine S_ldc2 C (2) kl_X11_294 dX11_standing_3 ?_
  refine K_X11_in C ml_X11_156 (by decide) (Nat.le_of_ble_eq_true rfl) dX11_standing_6 (fun v1 => ?_)
  refine S_if_ne C 14 dX11_standing_9 (by decide) ?_ ?_
  · refine S_aload_n C 0 dX11_standing_14 rfl ?_
    refine K_X11_layNames C ml_X11_279 (by decide) (Nat.le_of_ble_eq_true rfl) dX11_standing_15 (fun σ2 => ?_)
    refine S_iconst C (0) dX11_standing_18 (by decide) ?_
    refine S_istore_n C [(2, .int 0), (0, .ref (aC z 0)), (1, .int x1)] (i := 2) dX11_standing_19 rfl (by decide) rfl ?_
    refine S_iconst C (0) dX11_standing_20 (by decide) ?_
    refine S_istore_n C [(3, .int 0), (2, .int 0), (0, .ref (aC z 0)), (1, .int x1)] (i := 3) dX11_standing_21 rfl (by decide) rfl ?_
    exact S_sub [2, 3, 1, 0] rfl (WT_X11_standing_L22 C FU x1 (0 : Int32) (0 : Int32) σ2)
  · refine S_iconst C (-1) dX11_standing_12 (by decide) ?_
    exact S_iret C rfl dX11_standing_13
set_option maxRecDepth 10000 in
theorem con_X11_standing (z : ZT) (l : Launch) (x1 : Int32) (σ : St) : ∀ ro, X11_standing x1 σ = some ro → Con (wxM z) l yX11_standing cX11_standing 8 (some .int) 3 77 [.ref (aC z 0), .int x1] σ (jIS ro) :=
  fun ro hk => Con_of hk (by decide) (Nat.le_of_ble_eq_true rfl) (fun x hx C => WT_X11_standing C x1 σ)
set_option maxRecDepth 10000 in
theorem K_X11_standing {x : MX} {z : ZT} {own : String} {cc : ByteArray} {nL : Nat} {ret : Option FieldType} {fr lo : Nat} {ρ : Type} {inj : ρ → Option Value × St} {pc : Nat} {lv : List (Nat × Value)} {st : List Value} {σ : St} (C : Cok x (wxM z) own cc nL ret fr lo) {x1 : Int32} {index : Nat} (hl : Cond.methodLink own index yX11_standing ∈ gtb) (hR : 3 + 1 ≤ fr ∧ 8 + (8 + 11) + 77 ≤ lo) (hW : (st.map fun v => v.category).sum ≤ 8) (hd : decode cc pc = .ok (.invokevirtual index, 3)) {K : (Int32 × St) → Option ρ} (h : ∀ v, Sim x (wxM z) nL inj (K v) (pc + 3) lv (.int v.1 :: st) v.2) : Sim x (wxM z) nL inj ((X11_standing x1 σ).bind K) pc lv (.int x1 :: .ref (aC z 0) :: st) σ :=
  S_callV C (As := [.int x1]) (q := 0) (inj1 := jIS) mw_X11_standing mv_X11_standing hl (fun ro hro => con_X11_standing z (mL x) x1 σ ro hro) hR rfl (show 0 < 48 by decide) rfl (ce_X11 z σ) rfl rfl hW hd h
set_option maxRecDepth 10000 in
theorem WT_X11_isPlace {x : MX} {z : ZT} (C : Cok x (wxM z) RX11 cX11_isPlace 2 (some .boolean) 1 25) (x1 : Int32) (σ : St) : Sim x (wxM z) 2 (jI σ) (X11_isPlace x1 σ) 0 [(0, .ref (aC z 0)), (1, .int x1)] [] σ := by
  rw [X11_isPlace]
  refine S_iload_n C 1 dX11_isPlace_0 rfl ?_
  refine S_i2l C dX11_isPlace_1 ?_
  refine S_lconst C (0) dX11_isPlace_2 (by decide) ?_
  refine S_aload_n C 0 dX11_isPlace_3 rfl ?_
  refine G_X11_places C fl_X11_302 dX11_isPlace_4 ?_
  refine S_iconst C (1) dX11_isPlace_7 (by decide) ?_
  refine S_isub C dX11_isPlace_8 ?_
  refine S_i2l C dX11_isPlace_9 ?_
  refine K_X11_in C ml_X11_156 (by decide) (Nat.le_of_ble_eq_true rfl) dX11_isPlace_10 (fun v1 => ?_)
  exact S_chkB (fun h2 => S_zret C (nb_01 h2) rfl dX11_isPlace_13)
set_option maxRecDepth 10000 in
theorem con_X11_isPlace (z : ZT) (l : Launch) (x1 : Int32) (σ : St) : ∀ ro, X11_isPlace x1 σ = some ro → Con (wxM z) l yX11_isPlace cX11_isPlace 2 (some .boolean) 1 25 [.ref (aC z 0), .int x1] σ ((jI σ) ro) :=
  fun ro hk => Con_of hk (by decide) (Nat.le_of_ble_eq_true rfl) (fun x hx C => WT_X11_isPlace C x1 σ)
set_option maxRecDepth 10000 in
theorem K_X11_isPlace {x : MX} {z : ZT} {own : String} {cc : ByteArray} {nL : Nat} {ret : Option FieldType} {fr lo : Nat} {ρ : Type} {inj : ρ → Option Value × St} {pc : Nat} {lv : List (Nat × Value)} {st : List Value} {σ : St} (C : Cok x (wxM z) own cc nL ret fr lo) {x1 : Int32} {index : Nat} (hl : Cond.methodLink own index yX11_isPlace ∈ gtb) (hR : 1 + 1 ≤ fr ∧ 8 + (2 + 11) + 25 ≤ lo) (hW : (st.map fun v => v.category).sum ≤ 8) (hd : decode cc pc = .ok (.invokevirtual index, 3)) {K : Int32 → Option ρ} (h : ∀ v, Sim x (wxM z) nL inj (K v) (pc + 3) lv (.int v :: st) σ) : Sim x (wxM z) nL inj ((X11_isPlace x1 σ).bind K) pc lv (.int x1 :: .ref (aC z 0) :: st) σ :=
  S_callV C (As := [.int x1]) (q := 0) (inj1 := (jI σ)) mw_X11_isPlace mv_X11_isPlace hl (fun ro hro => con_X11_isPlace z (mL x) x1 σ ro hro) hR rfl (show 0 < 48 by decide) rfl (ce_X11 z σ) rfl rfl hW hd h
set_option maxRecDepth 10000 in
theorem WT_X11_isBook {x : MX} {z : ZT} (C : Cok x (wxM z) RX11 cX11_isBook 2 (some .boolean) 1 25) (x1 : Int32) (σ : St) : Sim x (wxM z) 2 (jI σ) (X11_isBook x1 σ) 0 [(0, .ref (aC z 0)), (1, .int x1)] [] σ := by
  rw [X11_isBook]
  refine S_iload_n C 1 dX11_isBook_0 rfl ?_
  refine S_i2l C dX11_isBook_1 ?_
  refine S_lconst C (0) dX11_isBook_2 (by decide) ?_
  refine S_aload_n C 0 dX11_isBook_3 rfl ?_
  refine G_X11_books C fl_X11_305 dX11_isBook_4 ?_
  refine S_iconst C (1) dX11_isBook_7 (by decide) ?_
  refine S_isub C dX11_isBook_8 ?_
  refine S_i2l C dX11_isBook_9 ?_
  refine K_X11_in C ml_X11_156 (by decide) (Nat.le_of_ble_eq_true rfl) dX11_isBook_10 (fun v1 => ?_)
  exact S_chkB (fun h2 => S_zret C (nb_01 h2) rfl dX11_isBook_13)
set_option maxRecDepth 10000 in
theorem con_X11_isBook (z : ZT) (l : Launch) (x1 : Int32) (σ : St) : ∀ ro, X11_isBook x1 σ = some ro → Con (wxM z) l yX11_isBook cX11_isBook 2 (some .boolean) 1 25 [.ref (aC z 0), .int x1] σ ((jI σ) ro) :=
  fun ro hk => Con_of hk (by decide) (Nat.le_of_ble_eq_true rfl) (fun x hx C => WT_X11_isBook C x1 σ)
set_option maxRecDepth 10000 in
theorem K_X11_isBook {x : MX} {z : ZT} {own : String} {cc : ByteArray} {nL : Nat} {ret : Option FieldType} {fr lo : Nat} {ρ : Type} {inj : ρ → Option Value × St} {pc : Nat} {lv : List (Nat × Value)} {st : List Value} {σ : St} (C : Cok x (wxM z) own cc nL ret fr lo) {x1 : Int32} {index : Nat} (hl : Cond.methodLink own index yX11_isBook ∈ gtb) (hR : 1 + 1 ≤ fr ∧ 8 + (2 + 11) + 25 ≤ lo) (hW : (st.map fun v => v.category).sum ≤ 8) (hd : decode cc pc = .ok (.invokevirtual index, 3)) {K : Int32 → Option ρ} (h : ∀ v, Sim x (wxM z) nL inj (K v) (pc + 3) lv (.int v :: st) σ) : Sim x (wxM z) nL inj ((X11_isBook x1 σ).bind K) pc lv (.int x1 :: .ref (aC z 0) :: st) σ :=
  S_callV C (As := [.int x1]) (q := 0) (inj1 := (jI σ)) mw_X11_isBook mv_X11_isBook hl (fun ro hro => con_X11_isBook z (mL x) x1 σ ro hro) hR rfl (show 0 < 48 by decide) rfl (ce_X11 z σ) rfl rfl hW hd h
set_option maxRecDepth 10000 in
theorem WT_X11_isLine {x : MX} {z : ZT} (C : Cok x (wxM z) RX11 cX11_isLine 2 (some .boolean) 1 25) (x1 : Int32) (σ : St) : Sim x (wxM z) 2 (jI σ) (X11_isLine x1 σ) 0 [(0, .ref (aC z 0)), (1, .int x1)] [] σ := by
  rw [X11_isLine]
  refine S_iload_n C 1 dX11_isLine_0 rfl ?_
  refine S_i2l C dX11_isLine_1 ?_
  refine S_lconst C (0) dX11_isLine_2 (by decide) ?_
  refine S_aload_n C 0 dX11_isLine_3 rfl ?_
  refine G_X11_lines C fl_X11_308 dX11_isLine_4 ?_
  refine S_iconst C (1) dX11_isLine_7 (by decide) ?_
  refine S_isub C dX11_isLine_8 ?_
  refine S_i2l C dX11_isLine_9 ?_
  refine K_X11_in C ml_X11_156 (by decide) (Nat.le_of_ble_eq_true rfl) dX11_isLine_10 (fun v1 => ?_)
  exact S_chkB (fun h2 => S_zret C (nb_01 h2) rfl dX11_isLine_13)
set_option maxRecDepth 10000 in
theorem con_X11_isLine (z : ZT) (l : Launch) (x1 : Int32) (σ : St) : ∀ ro, X11_isLine x1 σ = some ro → Con (wxM z) l yX11_isLine cX11_isLine 2 (some .boolean) 1 25 [.ref (aC z 0), .int x1] σ ((jI σ) ro) :=
  fun ro hk => Con_of hk (by decide) (Nat.le_of_ble_eq_true rfl) (fun x hx C => WT_X11_isLine C x1 σ)
set_option maxRecDepth 10000 in
theorem K_X11_isLine {x : MX} {z : ZT} {own : String} {cc : ByteArray} {nL : Nat} {ret : Option FieldType} {fr lo : Nat} {ρ : Type} {inj : ρ → Option Value × St} {pc : Nat} {lv : List (Nat × Value)} {st : List Value} {σ : St} (C : Cok x (wxM z) own cc nL ret fr lo) {x1 : Int32} {index : Nat} (hl : Cond.methodLink own index yX11_isLine ∈ gtb) (hR : 1 + 1 ≤ fr ∧ 8 + (2 + 11) + 25 ≤ lo) (hW : (st.map fun v => v.category).sum ≤ 8) (hd : decode cc pc = .ok (.invokevirtual index, 3)) {K : Int32 → Option ρ} (h : ∀ v, Sim x (wxM z) nL inj (K v) (pc + 3) lv (.int v :: st) σ) : Sim x (wxM z) nL inj ((X11_isLine x1 σ).bind K) pc lv (.int x1 :: .ref (aC z 0) :: st) σ :=
  S_callV C (As := [.int x1]) (q := 0) (inj1 := (jI σ)) mw_X11_isLine mv_X11_isLine hl (fun ro hro => con_X11_isLine z (mL x) x1 σ ro hro) hR rfl (show 0 < 48 by decide) rfl (ce_X11 z σ) rfl rfl hW hd h
set_option maxRecDepth 10000 in
theorem WT_X11_place {x : MX} {z : ZT} (C : Cok x (wxM z) RX11 cX11_place 3 (some .int) 1 25) (x1 : Int32) (x2 : Int32) (σ : St) : Sim x (wxM z) 3 jIS (X11_place x1 x2 σ) 0 [(0, .ref (aC z 0)), (1, .int x1), (2, .int x2)] [] σ := by
  rw [X11_place]
  refine S_iload_n C 1 dX11_place_0 rfl ?_
  refine S_i2l C dX11_place_1 ?_
  refine S_lconst C (0) dX11_place_2 (by decide) ?_
  refine S_ldc2 C (99) kl_X11_311 dX11_place_3 ?_
  refine K_X11_in C ml_X11_156 (by decide) (Nat.le_of_ble_eq_true rfl) dX11_place_6 (fun v1 => ?_)
  refine S_if_eq C 24 dX11_place_9 (by decide) ?_ ?_
  · refine S_iconst C (-1) dX11_place_24 (by decide) ?_
    exact S_iret C rfl dX11_place_25
  · refine S_iload_n C 2 dX11_place_12 rfl ?_
    refine S_i2l C dX11_place_13 ?_
    refine S_lconst C (0) dX11_place_14 (by decide) ?_
    refine S_ldc2 C (99) kl_X11_311 dX11_place_15 ?_
    refine K_X11_in C ml_X11_156 (by decide) (Nat.le_of_ble_eq_true rfl) dX11_place_18 (fun v2 => ?_)
    refine S_if_ne C 26 dX11_place_21 (by decide) ?_ ?_
    · refine S_aload_n C 0 dX11_place_26 rfl ?_
      refine G_X11_places C fl_X11_302 dX11_place_27 ?_
      refine S_bipush C (8) dX11_place_30 (by decide) ?_
      refine S_icmp_ne C 38 dX11_place_32 (by decide) ?_ ?_
      · refine S_aload_n C 0 dX11_place_38 rfl ?_
        refine G_X11_xs C fl_X11_88 dX11_place_39 ?_
        refine S_aload_n C 0 dX11_place_42 rfl ?_
        refine G_X11_places C fl_X11_302 dX11_place_43 ?_
        refine S_iload_n C 1 dX11_place_46 rfl ?_
        refine T_X11_xs C dX11_place_47 (fun _ => ?_)
        refine S_bndS (fun σ3 _ => ?_)
        refine S_aload_n C 0 dX11_place_48 rfl ?_
        refine G_X11_ys C fl_X11_91 dX11_place_49 ?_
        refine S_aload_n C 0 dX11_place_52 rfl ?_
        refine G_X11_places C fl_X11_302 dX11_place_53 ?_
        refine S_iload_n C 2 dX11_place_56 rfl ?_
        refine T_X11_ys C dX11_place_57 (fun _ => ?_)
        refine S_bndS (fun σ4 _ => ?_)
        refine S_aload_n C 0 dX11_place_58 rfl ?_
        refine S_dup C dX11_place_59 rfl ?_
        refine G_X11_places C fl_X11_302 dX11_place_60 ?_
        refine S_iconst C (1) dX11_place_63 (by decide) ?_
        refine S_iadd C dX11_place_64 ?_
        refine P_X11_places C fl_X11_302 dX11_place_65 ?_
        refine S_bndS (fun σ5 _ => ?_)
        refine S_aload_n C 0 dX11_place_68 rfl ?_
        refine G_X11_places C fl_X11_302 dX11_place_69 ?_
        refine S_iconst C (1) dX11_place_72 (by decide) ?_
        refine S_isub C dX11_place_73 ?_
        exact S_iret C rfl dX11_place_74
      · refine S_bipush C (-3) dX11_place_35 (by decide) ?_
        exact S_iret C rfl dX11_place_37
    · refine S_iconst C (-1) dX11_place_24 (by decide) ?_
      exact S_iret C rfl dX11_place_25
set_option maxRecDepth 10000 in
theorem con_X11_place (z : ZT) (l : Launch) (x1 : Int32) (x2 : Int32) (σ : St) : ∀ ro, X11_place x1 x2 σ = some ro → Con (wxM z) l yX11_place cX11_place 3 (some .int) 1 25 [.ref (aC z 0), .int x1, .int x2] σ (jIS ro) :=
  fun ro hk => Con_of hk (by decide) (Nat.le_of_ble_eq_true rfl) (fun x hx C => WT_X11_place C x1 x2 σ)
set_option maxRecDepth 10000 in
theorem K_X11_place {x : MX} {z : ZT} {own : String} {cc : ByteArray} {nL : Nat} {ret : Option FieldType} {fr lo : Nat} {ρ : Type} {inj : ρ → Option Value × St} {pc : Nat} {lv : List (Nat × Value)} {st : List Value} {σ : St} (C : Cok x (wxM z) own cc nL ret fr lo) {x1 : Int32} {x2 : Int32} {index : Nat} (hl : Cond.methodLink own index yX11_place ∈ gtb) (hR : 1 + 1 ≤ fr ∧ 8 + (3 + 11) + 25 ≤ lo) (hW : (st.map fun v => v.category).sum ≤ 8) (hd : decode cc pc = .ok (.invokevirtual index, 3)) {K : (Int32 × St) → Option ρ} (h : ∀ v, Sim x (wxM z) nL inj (K v) (pc + 3) lv (.int v.1 :: st) v.2) : Sim x (wxM z) nL inj ((X11_place x1 x2 σ).bind K) pc lv (.int x2 :: .int x1 :: .ref (aC z 0) :: st) σ :=
  S_callV C (As := [.int x1, .int x2]) (q := 0) (inj1 := jIS) mw_X11_place mv_X11_place hl (fun ro hro => con_X11_place z (mL x) x1 x2 σ ro hro) hR rfl (show 0 < 48 by decide) rfl (ce_X11 z σ) rfl rfl hW hd h
set_option maxRecDepth 10000 in
theorem WT_X11_book {x : MX} {z : ZT} (C : Cok x (wxM z) RX11 cX11_book 4 (some .int) 2 46) (x1 : Int32) (x2 : Int32) (x3 : Int32) (σ : St) : Sim x (wxM z) 4 jIS (X11_book x1 x2 x3 σ) 0 [(0, .ref (aC z 0)), (1, .int x1), (2, .int x2), (3, .int x3)] [] σ := by
  rw [X11_book]
  refine S_aload_n C 0 dX11_book_0 rfl ?_
  refine S_iload_n C 1 dX11_book_1 rfl ?_
  refine K_X11_isPlace C ml_X11_313 (by decide) (Nat.le_of_ble_eq_true rfl) dX11_book_2 (fun v1 => ?_)
  refine S_if_eq C 43 dX11_book_5 (by decide) ?_ ?_
  · refine S_iconst C (-1) dX11_book_43 (by decide) ?_
    exact S_iret C rfl dX11_book_44
  · refine S_iload_n C 2 dX11_book_8 rfl ?_
    refine S_i2l C dX11_book_9 ?_
    refine S_ldc2 C (1500) kl_X11_316 dX11_book_10 ?_
    refine S_ldc2 C (1899) kl_X11_318 dX11_book_13 ?_
    refine K_X11_in C ml_X11_156 (by decide) (Nat.le_of_ble_eq_true rfl) dX11_book_16 (fun v2 => ?_)
    refine S_if_eq C 43 dX11_book_19 (by decide) ?_ ?_
    · refine S_iconst C (-1) dX11_book_43 (by decide) ?_
      exact S_iret C rfl dX11_book_44
    · refine S_iload_n C 3 dX11_book_22 rfl ?_
      refine S_i2l C dX11_book_23 ?_
      refine S_iload_n C 2 dX11_book_24 rfl ?_
      refine S_i2l C dX11_book_25 ?_
      refine S_ldc2 C (1899) kl_X11_318 dX11_book_26 ?_
      refine K_X11_in C ml_X11_156 (by decide) (Nat.le_of_ble_eq_true rfl) dX11_book_29 (fun v3 => ?_)
      refine S_if_eq C 43 dX11_book_32 (by decide) ?_ ?_
      · refine S_iconst C (-1) dX11_book_43 (by decide) ?_
        exact S_iret C rfl dX11_book_44
      · refine S_iload_n C 3 dX11_book_35 rfl ?_
        refine S_iload_n C 2 dX11_book_36 rfl ?_
        refine S_isub C dX11_book_37 ?_
        refine S_bipush C (64) dX11_book_38 (by decide) ?_
        refine S_icmp_lt C 45 dX11_book_40 (by decide) ?_ ?_
        · refine S_aload_n C 0 dX11_book_45 rfl ?_
          refine G_X11_books C fl_X11_305 dX11_book_46 ?_
          refine S_bipush C (8) dX11_book_49 (by decide) ?_
          refine S_icmp_ne C 57 dX11_book_51 (by decide) ?_ ?_
          · refine S_aload_n C 0 dX11_book_57 rfl ?_
            refine G_X11_bookPlace C fl_X11_94 dX11_book_58 ?_
            refine S_aload_n C 0 dX11_book_61 rfl ?_
            refine G_X11_books C fl_X11_305 dX11_book_62 ?_
            refine S_iload_n C 1 dX11_book_65 rfl ?_
            refine T_X11_bookPlace C dX11_book_66 (fun _ => ?_)
            refine S_bndS (fun σ4 _ => ?_)
            refine S_aload_n C 0 dX11_book_67 rfl ?_
            refine G_X11_bookFrom C fl_X11_97 dX11_book_68 ?_
            refine S_aload_n C 0 dX11_book_71 rfl ?_
            refine G_X11_books C fl_X11_305 dX11_book_72 ?_
            refine S_iload_n C 2 dX11_book_75 rfl ?_
            refine T_X11_bookFrom C dX11_book_76 (fun _ => ?_)
            refine S_bndS (fun σ5 _ => ?_)
            refine S_aload_n C 0 dX11_book_77 rfl ?_
            refine G_X11_bookTo C fl_X11_100 dX11_book_78 ?_
            refine S_aload_n C 0 dX11_book_81 rfl ?_
            refine G_X11_books C fl_X11_305 dX11_book_82 ?_
            refine S_iload_n C 3 dX11_book_85 rfl ?_
            refine T_X11_bookTo C dX11_book_86 (fun _ => ?_)
            refine S_bndS (fun σ6 _ => ?_)
            refine S_aload_n C 0 dX11_book_87 rfl ?_
            refine G_X11_bookHoles C fl_X11_103 dX11_book_88 ?_
            refine S_aload_n C 0 dX11_book_91 rfl ?_
            refine G_X11_books C fl_X11_305 dX11_book_92 ?_
            refine S_lconst C (0) dX11_book_95 (by decide) ?_
            refine T_X11_bookHoles C dX11_book_96 (fun _ => ?_)
            refine S_bndS (fun σ7 _ => ?_)
            refine S_aload_n C 0 dX11_book_97 rfl ?_
            refine S_dup C dX11_book_98 rfl ?_
            refine G_X11_books C fl_X11_305 dX11_book_99 ?_
            refine S_iconst C (1) dX11_book_102 (by decide) ?_
            refine S_iadd C dX11_book_103 ?_
            refine P_X11_books C fl_X11_305 dX11_book_104 ?_
            refine S_bndS (fun σ8 _ => ?_)
            refine S_aload_n C 0 dX11_book_107 rfl ?_
            refine G_X11_books C fl_X11_305 dX11_book_108 ?_
            refine S_iconst C (1) dX11_book_111 (by decide) ?_
            refine S_isub C dX11_book_112 ?_
            exact S_iret C rfl dX11_book_113
          · refine S_bipush C (-3) dX11_book_54 (by decide) ?_
            exact S_iret C rfl dX11_book_56
        · refine S_iconst C (-1) dX11_book_43 (by decide) ?_
          exact S_iret C rfl dX11_book_44
set_option maxRecDepth 10000 in
theorem con_X11_book (z : ZT) (l : Launch) (x1 : Int32) (x2 : Int32) (x3 : Int32) (σ : St) : ∀ ro, X11_book x1 x2 x3 σ = some ro → Con (wxM z) l yX11_book cX11_book 4 (some .int) 2 46 [.ref (aC z 0), .int x1, .int x2, .int x3] σ (jIS ro) :=
  fun ro hk => Con_of hk (by decide) (Nat.le_of_ble_eq_true rfl) (fun x hx C => WT_X11_book C x1 x2 x3 σ)
set_option maxRecDepth 10000 in
theorem K_X11_book {x : MX} {z : ZT} {own : String} {cc : ByteArray} {nL : Nat} {ret : Option FieldType} {fr lo : Nat} {ρ : Type} {inj : ρ → Option Value × St} {pc : Nat} {lv : List (Nat × Value)} {st : List Value} {σ : St} (C : Cok x (wxM z) own cc nL ret fr lo) {x1 : Int32} {x2 : Int32} {x3 : Int32} {index : Nat} (hl : Cond.methodLink own index yX11_book ∈ gtb) (hR : 2 + 1 ≤ fr ∧ 8 + (4 + 11) + 46 ≤ lo) (hW : (st.map fun v => v.category).sum ≤ 8) (hd : decode cc pc = .ok (.invokevirtual index, 3)) {K : (Int32 × St) → Option ρ} (h : ∀ v, Sim x (wxM z) nL inj (K v) (pc + 3) lv (.int v.1 :: st) v.2) : Sim x (wxM z) nL inj ((X11_book x1 x2 x3 σ).bind K) pc lv (.int x3 :: .int x2 :: .int x1 :: .ref (aC z 0) :: st) σ :=
  S_callV C (As := [.int x1, .int x2, .int x3]) (q := 0) (inj1 := jIS) mw_X11_book mv_X11_book hl (fun ro hro => con_X11_book z (mL x) x1 x2 x3 σ ro hro) hR rfl (show 0 < 48 by decide) rfl (ce_X11 z σ) rfl rfl hW hd h
set_option maxRecDepth 10000 in
theorem WT_X11_linesOf_L4 {x : MX} {z : ZT} (C : Cok x (wxM z) RX11 cX11_linesOf 4 (some .int) 0 0) (σ : St) : ∀ (n : Nat) (x1 : Int32) (x2 : Int32) (x3 : Int32), Sim x (wxM z) 4 (jI σ) (X11_linesOf_L4 σ n x1 x2 x3) 4 [(0, .ref (aC z 0)), (1, .int x1), (2, .int x2), (3, .int x3)] [] σ := by
  intro n
  induction n with
  | zero =>
    intros
    exact S_none
  | succ n ih =>
    intro x1 x2 x3
    rw [X11_linesOf_L4]
    refine S_iload_n C 3 dX11_linesOf_4 rfl ?_
    refine S_aload_n C 0 dX11_linesOf_5 rfl ?_
    refine G_X11_lines C fl_X11_308 dX11_linesOf_6 ?_
    refine S_icmp_ge C 36 dX11_linesOf_9 (by decide) ?_ ?_
    · refine S_iload_n C 2 dX11_linesOf_36 rfl ?_
      exact S_iret C rfl dX11_linesOf_37
    · refine S_iload_n C 2 dX11_linesOf_12 rfl ?_
      refine S_aload_n C 0 dX11_linesOf_13 rfl ?_
      refine G_X11_lineBook C fl_X11_107 dX11_linesOf_14 ?_
      refine S_iload_n C 3 dX11_linesOf_17 rfl ?_
      refine L_X11_lineBook C dX11_linesOf_18 (fun _ => ?_)
      refine S_iload_n C 1 dX11_linesOf_19 rfl ?_
      refine S_icmp_ne C 27 dX11_linesOf_20 (by decide) ?_ ?_
      · refine S_iconst C (0) dX11_linesOf_27 (by decide) ?_
        refine S_iadd C dX11_linesOf_28 ?_
        refine S_bndT (fun x2_1 _ => ?_)
        refine S_istore_n C [(2, .int x2_1), (0, .ref (aC z 0)), (1, .int x1), (3, .int x3)] (i := 2) dX11_linesOf_29 rfl (by decide) rfl ?_
        refine S_iinc C 3 [(3, .int (x3 + 1)), (2, .int x2_1), (0, .ref (aC z 0)), (1, .int x1)] (x3 + 1) dX11_linesOf_30 rfl rfl (by decide) rfl ?_
        refine S_goto C 4 dX11_linesOf_33 (by decide) ?_
        exact S_sub [2, 3, 1, 0] rfl (ih x1 x2_1 (x3 + 1))
      · refine S_iconst C (1) dX11_linesOf_23 (by decide) ?_
        refine S_goto C 28 dX11_linesOf_24 (by decide) ?_
        refine S_iadd C dX11_linesOf_28 ?_
        refine S_bndT (fun x2_2 _ => ?_)
        refine S_istore_n C [(2, .int x2_2), (0, .ref (aC z 0)), (1, .int x1), (3, .int x3)] (i := 2) dX11_linesOf_29 rfl (by decide) rfl ?_
        refine S_iinc C 3 [(3, .int (x3 + 1)), (2, .int x2_2), (0, .ref (aC z 0)), (1, .int x1)] (x3 + 1) dX11_linesOf_30 rfl rfl (by decide) rfl ?_
        refine S_goto C 4 dX11_linesOf_33 (by decide) ?_
        exact S_sub [2, 3, 1, 0] rfl (ih x1 x2_2 (x3 + 1))
set_option maxRecDepth 10000 in
theorem WT_X11_linesOf {x : MX} {z : ZT} (C : Cok x (wxM z) RX11 cX11_linesOf 4 (some .int) 0 0) (x1 : Int32) (σ : St) : Sim x (wxM z) 4 (jI σ) (X11_linesOf x1 σ) 0 [(0, .ref (aC z 0)), (1, .int x1)] [] σ := by
  rw [X11_linesOf]
  refine S_iconst C (0) dX11_linesOf_0 (by decide) ?_
  refine S_istore_n C [(2, .int 0), (0, .ref (aC z 0)), (1, .int x1)] (i := 2) dX11_linesOf_1 rfl (by decide) rfl ?_
  refine S_iconst C (0) dX11_linesOf_2 (by decide) ?_
  refine S_istore_n C [(3, .int 0), (2, .int 0), (0, .ref (aC z 0)), (1, .int x1)] (i := 3) dX11_linesOf_3 rfl (by decide) rfl ?_
  exact S_sub [2, 3, 1, 0] rfl (WT_X11_linesOf_L4 C σ FU x1 (0 : Int32) (0 : Int32))
set_option maxRecDepth 10000 in
theorem con_X11_linesOf (z : ZT) (l : Launch) (x1 : Int32) (σ : St) : ∀ ro, X11_linesOf x1 σ = some ro → Con (wxM z) l yX11_linesOf cX11_linesOf 4 (some .int) 0 0 [.ref (aC z 0), .int x1] σ ((jI σ) ro) :=
  fun ro hk => Con_of hk (by decide) (Nat.le_of_ble_eq_true rfl) (fun x hx C => WT_X11_linesOf C x1 σ)
set_option maxRecDepth 10000 in
theorem K_X11_linesOf {x : MX} {z : ZT} {own : String} {cc : ByteArray} {nL : Nat} {ret : Option FieldType} {fr lo : Nat} {ρ : Type} {inj : ρ → Option Value × St} {pc : Nat} {lv : List (Nat × Value)} {st : List Value} {σ : St} (C : Cok x (wxM z) own cc nL ret fr lo) {x1 : Int32} {index : Nat} (hl : Cond.methodLink own index yX11_linesOf ∈ gtb) (hR : 0 + 1 ≤ fr ∧ 8 + (4 + 11) + 0 ≤ lo) (hW : (st.map fun v => v.category).sum ≤ 8) (hd : decode cc pc = .ok (.invokevirtual index, 3)) {K : Int32 → Option ρ} (h : ∀ v, Sim x (wxM z) nL inj (K v) (pc + 3) lv (.int v :: st) σ) : Sim x (wxM z) nL inj ((X11_linesOf x1 σ).bind K) pc lv (.int x1 :: .ref (aC z 0) :: st) σ :=
  S_callV C (As := [.int x1]) (q := 0) (inj1 := (jI σ)) mw_X11_linesOf mv_X11_linesOf hl (fun ro hro => con_X11_linesOf z (mL x) x1 σ ro hro) hR rfl (show 0 < 48 by decide) rfl (ce_X11 z σ) rfl rfl hW hd h
set_option maxRecDepth 10000 in
theorem WT_X11_isHole {x : MX} {z : ZT} (C : Cok x (wxM z) RX11 cX11_isHole 3 (some .boolean) 0 0) (x1 : Int32) (x2 : Int32) (σ : St) : Sim x (wxM z) 3 (jI σ) (X11_isHole x1 x2 σ) 0 [(0, .ref (aC z 0)), (1, .int x1), (2, .int x2)] [] σ := by
  rw [X11_isHole]
  refine S_aload_n C 0 dX11_isHole_0 rfl ?_
  refine G_X11_bookHoles C fl_X11_103 dX11_isHole_1 ?_
  refine S_iload_n C 1 dX11_isHole_4 rfl ?_
  refine L_X11_bookHoles C dX11_isHole_5 (fun _ => ?_)
  refine S_iload_n C 2 dX11_isHole_6 rfl ?_
  refine S_aload_n C 0 dX11_isHole_7 rfl ?_
  refine G_X11_bookFrom C fl_X11_97 dX11_isHole_8 ?_
  refine S_iload_n C 1 dX11_isHole_11 rfl ?_
  refine L_X11_bookFrom C dX11_isHole_12 (fun _ => ?_)
  refine S_isub C dX11_isHole_13 ?_
  refine S_lshr C dX11_isHole_14 ?_
  refine S_lconst C (1) dX11_isHole_15 (by decide) ?_
  refine S_land C dX11_isHole_16 ?_
  refine S_lconst C (1) dX11_isHole_17 (by decide) ?_
  refine S_lc_ne C 26 dX11_isHole_18 dX11_isHole_19 (by decide) ?_ ?_
  · refine S_iconst C (0) dX11_isHole_26 (by decide) ?_
    exact S_zret C rfl rfl dX11_isHole_27
  · refine S_iconst C (1) dX11_isHole_22 (by decide) ?_
    refine S_goto C 27 dX11_isHole_23 (by decide) ?_
    exact S_zret C rfl rfl dX11_isHole_27
set_option maxRecDepth 10000 in
theorem con_X11_isHole (z : ZT) (l : Launch) (x1 : Int32) (x2 : Int32) (σ : St) : ∀ ro, X11_isHole x1 x2 σ = some ro → Con (wxM z) l yX11_isHole cX11_isHole 3 (some .boolean) 0 0 [.ref (aC z 0), .int x1, .int x2] σ ((jI σ) ro) :=
  fun ro hk => Con_of hk (by decide) (Nat.le_of_ble_eq_true rfl) (fun x hx C => WT_X11_isHole C x1 x2 σ)
set_option maxRecDepth 10000 in
theorem K_X11_isHole {x : MX} {z : ZT} {own : String} {cc : ByteArray} {nL : Nat} {ret : Option FieldType} {fr lo : Nat} {ρ : Type} {inj : ρ → Option Value × St} {pc : Nat} {lv : List (Nat × Value)} {st : List Value} {σ : St} (C : Cok x (wxM z) own cc nL ret fr lo) {x1 : Int32} {x2 : Int32} {index : Nat} (hl : Cond.methodLink own index yX11_isHole ∈ gtb) (hR : 0 + 1 ≤ fr ∧ 8 + (3 + 11) + 0 ≤ lo) (hW : (st.map fun v => v.category).sum ≤ 8) (hd : decode cc pc = .ok (.invokevirtual index, 3)) {K : Int32 → Option ρ} (h : ∀ v, Sim x (wxM z) nL inj (K v) (pc + 3) lv (.int v :: st) σ) : Sim x (wxM z) nL inj ((X11_isHole x1 x2 σ).bind K) pc lv (.int x2 :: .int x1 :: .ref (aC z 0) :: st) σ :=
  S_callV C (As := [.int x1, .int x2]) (q := 0) (inj1 := (jI σ)) mw_X11_isHole mv_X11_isHole hl (fun ro hro => con_X11_isHole z (mL x) x1 x2 σ ro hro) hR rfl (show 0 < 48 by decide) rfl (ce_X11 z σ) rfl rfl hW hd h
set_option maxRecDepth 10000 in
theorem WT_X11_hasLine_L5 {x : MX} {z : ZT} (C : Cok x (wxM z) RX11 cX11_hasLine 5 (some .boolean) 0 0) (σ : St) : ∀ (n : Nat) (x1 : Int32) (x2 : Int32) (x3 : Int32) (x4 : Int32), Sim x (wxM z) 5 (jI σ) (X11_hasLine_L5 σ n x1 x2 x3 x4) 5 [(0, .ref (aC z 0)), (1, .int x1), (2, .int x2), (3, .int x3), (4, .int x4)] [] σ := by
  intro n
  induction n with
  | zero =>
    intros
    exact S_none
  | succ n ih =>
    intro x1 x2 x3 x4
    rw [X11_hasLine_L5]
    refine S_iload C 4 dX11_hasLine_5 rfl ?_
    refine S_aload_n C 0 dX11_hasLine_7 rfl ?_
    refine G_X11_lines C fl_X11_308 dX11_hasLine_8 ?_
    refine S_icmp_ge C 52 dX11_hasLine_11 (by decide) ?_ ?_
    · refine S_iload_n C 3 dX11_hasLine_52 rfl ?_
      exact S_chkB (fun h1 => S_zret C (nb_01 h1) rfl dX11_hasLine_53)
    · refine S_iload_n C 3 dX11_hasLine_14 rfl ?_
      refine S_if_ne C 40 dX11_hasLine_15 (by decide) ?_ ?_
      · refine S_iconst C (1) dX11_hasLine_40 (by decide) ?_
        refine S_goto C 45 dX11_hasLine_41 (by decide) ?_
        refine S_istore_n C [(3, .int 1), (0, .ref (aC z 0)), (1, .int x1), (2, .int x2), (4, .int x4)] (i := 3) dX11_hasLine_45 rfl (by decide) rfl ?_
        refine S_iinc C 4 [(4, .int (x4 + 1)), (3, .int 1), (0, .ref (aC z 0)), (1, .int x1), (2, .int x2)] (x4 + 1) dX11_hasLine_46 rfl rfl (by decide) rfl ?_
        refine S_goto C 5 dX11_hasLine_49 (by decide) ?_
        exact S_sub [2, 3, 4, 1, 0] rfl (ih x1 x2 (1 : Int32) (x4 + 1))
      · refine S_aload_n C 0 dX11_hasLine_18 rfl ?_
        refine G_X11_lineBook C fl_X11_107 dX11_hasLine_19 ?_
        refine S_iload C 4 dX11_hasLine_22 rfl ?_
        refine L_X11_lineBook C dX11_hasLine_24 (fun _ => ?_)
        refine S_iload_n C 1 dX11_hasLine_25 rfl ?_
        refine S_icmp_ne C 44 dX11_hasLine_26 (by decide) ?_ ?_
        · refine S_iconst C (0) dX11_hasLine_44 (by decide) ?_
          refine S_istore_n C [(3, .int 0), (0, .ref (aC z 0)), (1, .int x1), (2, .int x2), (4, .int x4)] (i := 3) dX11_hasLine_45 rfl (by decide) rfl ?_
          refine S_iinc C 4 [(4, .int (x4 + 1)), (3, .int 0), (0, .ref (aC z 0)), (1, .int x1), (2, .int x2)] (x4 + 1) dX11_hasLine_46 rfl rfl (by decide) rfl ?_
          refine S_goto C 5 dX11_hasLine_49 (by decide) ?_
          exact S_sub [2, 3, 4, 1, 0] rfl (ih x1 x2 (0 : Int32) (x4 + 1))
        · refine S_aload_n C 0 dX11_hasLine_29 rfl ?_
          refine G_X11_lineYear C fl_X11_110 dX11_hasLine_30 ?_
          refine S_iload C 4 dX11_hasLine_33 rfl ?_
          refine L_X11_lineYear C dX11_hasLine_35 (fun _ => ?_)
          refine S_iload_n C 2 dX11_hasLine_36 rfl ?_
          refine S_icmp_ne C 44 dX11_hasLine_37 (by decide) ?_ ?_
          · refine S_iconst C (0) dX11_hasLine_44 (by decide) ?_
            refine S_istore_n C [(3, .int 0), (0, .ref (aC z 0)), (1, .int x1), (2, .int x2), (4, .int x4)] (i := 3) dX11_hasLine_45 rfl (by decide) rfl ?_
            refine S_iinc C 4 [(4, .int (x4 + 1)), (3, .int 0), (0, .ref (aC z 0)), (1, .int x1), (2, .int x2)] (x4 + 1) dX11_hasLine_46 rfl rfl (by decide) rfl ?_
            refine S_goto C 5 dX11_hasLine_49 (by decide) ?_
            exact S_sub [2, 3, 4, 1, 0] rfl (ih x1 x2 (0 : Int32) (x4 + 1))
          · refine S_iconst C (1) dX11_hasLine_40 (by decide) ?_
            refine S_goto C 45 dX11_hasLine_41 (by decide) ?_
            refine S_istore_n C [(3, .int 1), (0, .ref (aC z 0)), (1, .int x1), (2, .int x2), (4, .int x4)] (i := 3) dX11_hasLine_45 rfl (by decide) rfl ?_
            refine S_iinc C 4 [(4, .int (x4 + 1)), (3, .int 1), (0, .ref (aC z 0)), (1, .int x1), (2, .int x2)] (x4 + 1) dX11_hasLine_46 rfl rfl (by decide) rfl ?_
            refine S_goto C 5 dX11_hasLine_49 (by decide) ?_
            exact S_sub [2, 3, 4, 1, 0] rfl (ih x1 x2 (1 : Int32) (x4 + 1))
set_option maxRecDepth 10000 in
theorem WT_X11_hasLine {x : MX} {z : ZT} (C : Cok x (wxM z) RX11 cX11_hasLine 5 (some .boolean) 0 0) (x1 : Int32) (x2 : Int32) (σ : St) : Sim x (wxM z) 5 (jI σ) (X11_hasLine x1 x2 σ) 0 [(0, .ref (aC z 0)), (1, .int x1), (2, .int x2)] [] σ := by
  rw [X11_hasLine]
  refine S_iconst C (0) dX11_hasLine_0 (by decide) ?_
  refine S_istore_n C [(3, .int 0), (0, .ref (aC z 0)), (1, .int x1), (2, .int x2)] (i := 3) dX11_hasLine_1 rfl (by decide) rfl ?_
  refine S_iconst C (0) dX11_hasLine_2 (by decide) ?_
  refine S_istore C [(4, .int 0), (3, .int 0), (0, .ref (aC z 0)), (1, .int x1), (2, .int x2)] dX11_hasLine_3 (by decide) rfl ?_
  exact S_sub [2, 3, 4, 1, 0] rfl (WT_X11_hasLine_L5 C σ FU x1 x2 (0 : Int32) (0 : Int32))
set_option maxRecDepth 10000 in
theorem con_X11_hasLine (z : ZT) (l : Launch) (x1 : Int32) (x2 : Int32) (σ : St) : ∀ ro, X11_hasLine x1 x2 σ = some ro → Con (wxM z) l yX11_hasLine cX11_hasLine 5 (some .boolean) 0 0 [.ref (aC z 0), .int x1, .int x2] σ ((jI σ) ro) :=
  fun ro hk => Con_of hk (by decide) (Nat.le_of_ble_eq_true rfl) (fun x hx C => WT_X11_hasLine C x1 x2 σ)
set_option maxRecDepth 10000 in
theorem K_X11_hasLine {x : MX} {z : ZT} {own : String} {cc : ByteArray} {nL : Nat} {ret : Option FieldType} {fr lo : Nat} {ρ : Type} {inj : ρ → Option Value × St} {pc : Nat} {lv : List (Nat × Value)} {st : List Value} {σ : St} (C : Cok x (wxM z) own cc nL ret fr lo) {x1 : Int32} {x2 : Int32} {index : Nat} (hl : Cond.methodLink own index yX11_hasLine ∈ gtb) (hR : 0 + 1 ≤ fr ∧ 8 + (5 + 11) + 0 ≤ lo) (hW : (st.map fun v => v.category).sum ≤ 8) (hd : decode cc pc = .ok (.invokevirtual index, 3)) {K : Int32 → Option ρ} (h : ∀ v, Sim x (wxM z) nL inj (K v) (pc + 3) lv (.int v :: st) σ) : Sim x (wxM z) nL inj ((X11_hasLine x1 x2 σ).bind K) pc lv (.int x2 :: .int x1 :: .ref (aC z 0) :: st) σ :=
  S_callV C (As := [.int x1, .int x2]) (q := 0) (inj1 := (jI σ)) mw_X11_hasLine mv_X11_hasLine hl (fun ro hro => con_X11_hasLine z (mL x) x1 x2 σ ro hro) hR rfl (show 0 < 48 by decide) rfl (ce_X11 z σ) rfl rfl hW hd h
set_option maxRecDepth 10000 in
theorem WT_X11_hole_B72 {x : MX} {z : ZT} (C : Cok x (wxM z) RX11 cX11_hole 5 (some .int) 2 46) (x1 : Int32) (x2 : Int32) (x4 : Int32) (s0 : Int32) (s1 : Int32) (σ : St) : Sim x (wxM z) 5 jIS (X11_hole_B72 x1 x2 x4 s0 s1 σ) 72 [(0, .ref (aC z 0)), (1, .int x1), (2, .int x2), (4, .int x4)] [.int s0, .int s1] σ := by
  rw [X11_hole_B72]
  refine S_icmp_eq C 94 dX11_hole_72 (by decide) ?_ ?_
  · refine S_iload C 3 dX11_hole_94 rfl ?_
    exact S_iret C rfl dX11_hole_96
  · refine S_aload_n C 0 dX11_hole_75 rfl ?_
    refine G_X11_bookHoles C fl_X11_103 dX11_hole_76 ?_
    refine S_iload_n C 1 dX11_hole_79 rfl ?_
    refine S_dup2 C dX11_hole_80 rfl rfl ?_
    refine L_X11_bookHoles C dX11_hole_81 (fun _ => ?_)
    refine S_lconst C (1) dX11_hole_82 (by decide) ?_
    refine S_iload_n C 2 dX11_hole_83 rfl ?_
    refine S_aload_n C 0 dX11_hole_84 rfl ?_
    refine G_X11_bookFrom C fl_X11_97 dX11_hole_85 ?_
    refine S_iload_n C 1 dX11_hole_88 rfl ?_
    refine L_X11_bookFrom C dX11_hole_89 (fun _ => ?_)
    refine S_isub C dX11_hole_90 ?_
    refine S_lshl C dX11_hole_91 ?_
    refine S_lxor C dX11_hole_92 ?_
    refine T_X11_bookHoles C dX11_hole_93 (fun _ => ?_)
    refine S_bndS (fun σ5 _ => ?_)
    refine S_iload C 3 dX11_hole_94 rfl ?_
    exact S_iret C rfl dX11_hole_96
set_option maxRecDepth 10000 in
theorem WT_X11_hole {x : MX} {z : ZT} (C : Cok x (wxM z) RX11 cX11_hole 5 (some .int) 2 46) (x1 : Int32) (x2 : Int32) (x3 : Int32) (σ : St) : Sim x (wxM z) 5 jIS (X11_hole x1 x2 x3 σ) 0 [(0, .ref (aC z 0)), (1, .int x1), (2, .int x2), (3, .int x3)] [] σ := by
  rw [X11_hole]
  refine S_aload_n C 0 dX11_hole_0 rfl ?_
  refine S_iload_n C 1 dX11_hole_1 rfl ?_
  refine K_X11_isBook C ml_X11_320 (by decide) (Nat.le_of_ble_eq_true rfl) dX11_hole_2 (fun v1 => ?_)
  refine S_if_eq C 30 dX11_hole_5 (by decide) ?_ ?_
  · refine S_iconst C (-1) dX11_hole_30 (by decide) ?_
    exact S_iret C rfl dX11_hole_31
  · refine S_iload_n C 2 dX11_hole_8 rfl ?_
    refine S_i2l C dX11_hole_9 ?_
    refine S_aload_n C 0 dX11_hole_10 rfl ?_
    refine G_X11_bookFrom C fl_X11_97 dX11_hole_11 ?_
    refine S_iload_n C 1 dX11_hole_14 rfl ?_
    refine L_X11_bookFrom C dX11_hole_15 (fun _ => ?_)
    refine S_i2l C dX11_hole_16 ?_
    refine S_aload_n C 0 dX11_hole_17 rfl ?_
    refine G_X11_bookTo C fl_X11_100 dX11_hole_18 ?_
    refine S_iload_n C 1 dX11_hole_21 rfl ?_
    refine L_X11_bookTo C dX11_hole_22 (fun _ => ?_)
    refine S_i2l C dX11_hole_23 ?_
    refine K_X11_in C ml_X11_156 (by decide) (Nat.le_of_ble_eq_true rfl) dX11_hole_24 (fun v2 => ?_)
    refine S_if_ne C 32 dX11_hole_27 (by decide) ?_ ?_
    · refine S_aload_n C 0 dX11_hole_32 rfl ?_
      refine S_iload_n C 1 dX11_hole_33 rfl ?_
      refine S_iload_n C 2 dX11_hole_34 rfl ?_
      refine K_X11_hasLine C ml_X11_323 (by decide) (Nat.le_of_ble_eq_true rfl) dX11_hole_35 (fun v3 => ?_)
      refine S_if_eq C 44 dX11_hole_38 (by decide) ?_ ?_
      · refine S_aload_n C 0 dX11_hole_44 rfl ?_
        refine S_iload_n C 1 dX11_hole_45 rfl ?_
        refine S_iload_n C 2 dX11_hole_46 rfl ?_
        refine K_X11_isHole C ml_X11_326 (by decide) (Nat.le_of_ble_eq_true rfl) dX11_hole_47 (fun v4 => ?_)
        refine S_if_eq C 57 dX11_hole_50 (by decide) ?_ ?_
        · refine S_iconst C (0) dX11_hole_57 (by decide) ?_
          refine S_istore C [(4, .int 0), (0, .ref (aC z 0)), (1, .int x1), (2, .int x2), (3, .int x3)] dX11_hole_58 (by decide) rfl ?_
          refine S_iload_n C 4 dX11_hole_60 rfl ?_
          refine S_iload C 0 dX11_hole_61 rfl ?_
          refine S_iconst C (1) dX11_hole_63 (by decide) ?_
          refine S_icmp_ne C 71 dX11_hole_64 (by decide) ?_ ?_
          · refine S_iconst C (0) dX11_hole_71 (by decide) ?_
            exact S_sub [1, 2, 3, 0] rfl (WT_X11_hole_B72 C x1 x2 (0 : Int32) (0 : Int32) x3 σ)
          · refine S_iconst C (1) dX11_hole_67 (by decide) ?_
            refine S_goto C 72 dX11_hole_68 (by decide) ?_
            exact S_sub [1, 2, 3, 0] rfl (WT_X11_hole_B72 C x1 x2 (0 : Int32) (1 : Int32) x3 σ)
        · refine S_iconst C (1) dX11_hole_53 (by decide) ?_
          refine S_goto C 58 dX11_hole_54 (by decide) ?_
          refine S_istore C [(4, .int 1), (0, .ref (aC z 0)), (1, .int x1), (2, .int x2), (3, .int x3)] dX11_hole_58 (by decide) rfl ?_
          refine S_iload_n C 4 dX11_hole_60 rfl ?_
          refine S_iload C 0 dX11_hole_61 rfl ?_
          refine S_iconst C (1) dX11_hole_63 (by decide) ?_
          refine S_icmp_ne C 71 dX11_hole_64 (by decide) ?_ ?_
          · refine S_iconst C (0) dX11_hole_71 (by decide) ?_
            exact S_sub [1, 2, 3, 0] rfl (WT_X11_hole_B72 C x1 x2 (1 : Int32) (0 : Int32) x3 σ)
          · refine S_iconst C (1) dX11_hole_67 (by decide) ?_
            refine S_goto C 72 dX11_hole_68 (by decide) ?_
            exact S_sub [1, 2, 3, 0] rfl (WT_X11_hole_B72 C x1 x2 (1 : Int32) (1 : Int32) x3 σ)
      · refine S_bipush C (-2) dX11_hole_41 (by decide) ?_
        exact S_iret C rfl dX11_hole_43
    · refine S_iconst C (-1) dX11_hole_30 (by decide) ?_
      exact S_iret C rfl dX11_hole_31
set_option maxRecDepth 10000 in
theorem con_X11_hole (z : ZT) (l : Launch) (x1 : Int32) (x2 : Int32) (x3 : Int32) (σ : St) : ∀ ro, X11_hole x1 x2 x3 σ = some ro → Con (wxM z) l yX11_hole cX11_hole 5 (some .int) 2 46 [.ref (aC z 0), .int x1, .int x2, .int x3] σ (jIS ro) :=
  fun ro hk => Con_of hk (by decide) (Nat.le_of_ble_eq_true rfl) (fun x hx C => WT_X11_hole C x1 x2 x3 σ)
set_option maxRecDepth 10000 in
theorem K_X11_hole {x : MX} {z : ZT} {own : String} {cc : ByteArray} {nL : Nat} {ret : Option FieldType} {fr lo : Nat} {ρ : Type} {inj : ρ → Option Value × St} {pc : Nat} {lv : List (Nat × Value)} {st : List Value} {σ : St} (C : Cok x (wxM z) own cc nL ret fr lo) {x1 : Int32} {x2 : Int32} {x3 : Int32} {index : Nat} (hl : Cond.methodLink own index yX11_hole ∈ gtb) (hR : 2 + 1 ≤ fr ∧ 8 + (5 + 11) + 46 ≤ lo) (hW : (st.map fun v => v.category).sum ≤ 8) (hd : decode cc pc = .ok (.invokevirtual index, 3)) {K : (Int32 × St) → Option ρ} (h : ∀ v, Sim x (wxM z) nL inj (K v) (pc + 3) lv (.int v.1 :: st) v.2) : Sim x (wxM z) nL inj ((X11_hole x1 x2 x3 σ).bind K) pc lv (.int x3 :: .int x2 :: .int x1 :: .ref (aC z 0) :: st) σ :=
  S_callV C (As := [.int x1, .int x2, .int x3]) (q := 0) (inj1 := jIS) mw_X11_hole mv_X11_hole hl (fun ro hro => con_X11_hole z (mL x) x1 x2 x3 σ ro hro) hR rfl (show 0 < 48 by decide) rfl (ce_X11 z σ) rfl rfl hW hd h
set_option maxRecDepth 10000 in
theorem WT_X11_bookOf_B51 {x : MX} {z : ZT} (C : Cok x (wxM z) RX11 cX11_bookOf 6 (some .int) 2 46) (σ : St) (kq24 : Int32 → Int32 → Int32 → Int32 → Int32 → Option Int32) (hk24 : ∀ (x1 : Int32) (x2 : Int32) (x3 : Int32) (x4 : Int32) (x5 : Int32), Sim x (wxM z) 6 (jI σ) (kq24 x1 x2 x3 x4 x5) 24 [(0, .ref (aC z 0)), (1, .int x1), (2, .int x2), (3, .int x3), (4, .int x4), (5, .int x5)] [] σ) (x1 : Int32) (x2 : Int32) (x4 : Int32) (x5 : Int32) (s0 : Int32) (s1 : Int32) : Sim x (wxM z) 6 (jI σ) (X11_bookOf_B51 kq24 σ x1 x2 x4 x5 s0 s1) 51 [(0, .ref (aC z 0)), (1, .int x1), (2, .int x2), (4, .int x4), (5, .int x5)] [.int s0, .int s1] σ := by
  rw [X11_bookOf_B51]
  refine S_iadd C dX11_bookOf_51 ?_
  refine S_bndT (fun x3_5 _ => ?_)
  refine S_istore_n C [(3, .int x3_5), (0, .ref (aC z 0)), (1, .int x1), (2, .int x2), (4, .int x4), (5, .int x5)] (i := 3) dX11_bookOf_52 rfl (by decide) rfl ?_
  refine S_aload_n C 1 dX11_bookOf_53 rfl ?_
  refine S_iload_n C 2 dX11_bookOf_54 rfl ?_
  refine S_iload C 5 dX11_bookOf_55 rfl ?_
  refine K_X11_isHole C ml_X11_326 (by decide) (Nat.le_of_ble_eq_true rfl) dX11_bookOf_57 (fun v6 => ?_)
  refine S_if_eq C 68 dX11_bookOf_60 (by decide) ?_ ?_
  · refine S_iload C 5 dX11_bookOf_68 rfl ?_
    refine S_istore C [(4, .int x5), (3, .int x3_5), (0, .ref (aC z 0)), (1, .int x1), (2, .int x2), (5, .int x5)] dX11_bookOf_70 (by decide) rfl ?_
    refine S_iinc C 5 [(5, .int (x5 + 1)), (4, .int x5), (3, .int x3_5), (0, .ref (aC z 0)), (1, .int x1), (2, .int x2)] (x5 + 1) dX11_bookOf_72 rfl rfl (by decide) rfl ?_
    refine S_goto C 24 dX11_bookOf_75 (by decide) ?_
    exact S_sub [3, 4, 5, 2, 1, 0] rfl (hk24 x1 x2 x3_5 x5 (x5 + 1))
  · refine S_iload C 4 dX11_bookOf_63 rfl ?_
    refine S_goto C 70 dX11_bookOf_65 (by decide) ?_
    refine S_istore C [(4, .int x4), (3, .int x3_5), (0, .ref (aC z 0)), (1, .int x1), (2, .int x2), (5, .int x5)] dX11_bookOf_70 (by decide) rfl ?_
    refine S_iinc C 5 [(5, .int (x5 + 1)), (4, .int x4), (3, .int x3_5), (0, .ref (aC z 0)), (1, .int x1), (2, .int x2)] (x5 + 1) dX11_bookOf_72 rfl rfl (by decide) rfl ?_
    refine S_goto C 24 dX11_bookOf_75 (by decide) ?_
    exact S_sub [3, 4, 5, 2, 1, 0] rfl (hk24 x1 x2 x3_5 x4 (x5 + 1))
set_option maxRecDepth 10000 in
theorem WT_X11_bookOf_L24 {x : MX} {z : ZT} (C : Cok x (wxM z) RX11 cX11_bookOf 6 (some .int) 2 46) (σ : St) : ∀ (n : Nat) (x1 : Int32) (x2 : Int32) (x3 : Int32) (x4 : Int32) (x5 : Int32), Sim x (wxM z) 6 (jI σ) (X11_bookOf_L24 σ n x1 x2 x3 x4 x5) 24 [(0, .ref (aC z 0)), (1, .int x1), (2, .int x2), (3, .int x3), (4, .int x4), (5, .int x5)] [] σ := by
  intro n
  induction n with
  | zero =>
    intros
    exact S_none
  | succ n ih =>
    intro x1 x2 x3 x4 x5
    rw [X11_bookOf_L24]
    refine S_iload C 5 dX11_bookOf_24 rfl ?_
    refine S_aload_n C 0 dX11_bookOf_26 rfl ?_
    refine G_X11_bookTo C fl_X11_100 dX11_bookOf_27 ?_
    refine S_iload_n C 1 dX11_bookOf_30 rfl ?_
    refine L_X11_bookTo C dX11_bookOf_31 (fun _ => ?_)
    refine S_icmp_gt C 78 dX11_bookOf_32 (by decide) ?_ ?_
    · refine S_iload_n C 2 dX11_bookOf_78 rfl ?_
      refine S_tsw C _ [116, 123, 130, 137, 139, 145] 148 dX11_bookOf_79 rfl (Nat.le_of_ble_eq_true rfl) (by decide) (by decide) (Sims_cons ?_ (Sims_cons ?_ (Sims_cons ?_ (Sims_cons ?_ (Sims_cons ?_ (Sims_cons ?_ Sims_nil)))))) ?_
      · refine S_aload_n C 0 dX11_bookOf_116 rfl ?_
        refine G_X11_bookPlace C fl_X11_94 dX11_bookOf_117 ?_
        refine S_iload_n C 1 dX11_bookOf_120 rfl ?_
        refine L_X11_bookPlace C dX11_bookOf_121 (fun _ => ?_)
        exact S_iret C rfl dX11_bookOf_122
      · refine S_aload_n C 0 dX11_bookOf_123 rfl ?_
        refine G_X11_bookFrom C fl_X11_97 dX11_bookOf_124 ?_
        refine S_iload_n C 1 dX11_bookOf_127 rfl ?_
        refine L_X11_bookFrom C dX11_bookOf_128 (fun _ => ?_)
        exact S_iret C rfl dX11_bookOf_129
      · refine S_aload_n C 0 dX11_bookOf_130 rfl ?_
        refine G_X11_bookTo C fl_X11_100 dX11_bookOf_131 ?_
        refine S_iload_n C 1 dX11_bookOf_134 rfl ?_
        refine L_X11_bookTo C dX11_bookOf_135 (fun _ => ?_)
        exact S_iret C rfl dX11_bookOf_136
      · refine S_iload_n C 3 dX11_bookOf_137 rfl ?_
        exact S_iret C rfl dX11_bookOf_138
      · refine S_aload_n C 0 dX11_bookOf_139 rfl ?_
        refine S_iload_n C 1 dX11_bookOf_140 rfl ?_
        refine K_X11_linesOf C ml_X11_329 (by decide) (Nat.le_of_ble_eq_true rfl) dX11_bookOf_141 (fun v3 => ?_)
        exact S_iret C rfl dX11_bookOf_144
      · refine S_iload C 4 dX11_bookOf_145 rfl ?_
        exact S_iret C rfl dX11_bookOf_147
      · refine S_iconst C (-1) dX11_bookOf_148 (by decide) ?_
        exact S_iret C rfl dX11_bookOf_149
    · refine S_iload_n C 3 dX11_bookOf_35 rfl ?_
      refine S_aload_n C 0 dX11_bookOf_36 rfl ?_
      refine S_iload_n C 1 dX11_bookOf_37 rfl ?_
      refine S_iload C 5 dX11_bookOf_38 rfl ?_
      refine K_X11_isHole C ml_X11_326 (by decide) (Nat.le_of_ble_eq_true rfl) dX11_bookOf_40 (fun v4 => ?_)
      refine S_if_eq C 50 dX11_bookOf_43 (by decide) ?_ ?_
      · refine S_iconst C (0) dX11_bookOf_50 (by decide) ?_
        exact S_sub [0, 1, 2, 4, 5] rfl (WT_X11_bookOf_B51 C σ _ ih x1 x2 x4 x5 (0 : Int32) x3)
      · refine S_iconst C (1) dX11_bookOf_46 (by decide) ?_
        refine S_goto C 51 dX11_bookOf_47 (by decide) ?_
        exact S_sub [0, 1, 2, 4, 5] rfl (WT_X11_bookOf_B51 C σ _ ih x1 x2 x4 x5 (1 : Int32) x3)
set_option maxRecDepth 10000 in
theorem WT_X11_bookOf {x : MX} {z : ZT} (C : Cok x (wxM z) RX11 cX11_bookOf 6 (some .int) 2 46) (x1 : Int32) (x2 : Int32) (σ : St) : Sim x (wxM z) 6 (jI σ) (X11_bookOf x1 x2 σ) 0 [(0, .ref (aC z 0)), (1, .int x1), (2, .int x2)] [] σ := by
  rw [X11_bookOf]
  refine S_aload_n C 0 dX11_bookOf_0 rfl ?_
  refine S_iload_n C 1 dX11_bookOf_1 rfl ?_
  refine K_X11_isBook C ml_X11_320 (by decide) (Nat.le_of_ble_eq_true rfl) dX11_bookOf_2 (fun v1 => ?_)
  refine S_if_ne C 10 dX11_bookOf_5 (by decide) ?_ ?_
  · refine S_iconst C (0) dX11_bookOf_10 (by decide) ?_
    refine S_istore_n C [(3, .int 0), (0, .ref (aC z 0)), (1, .int x1), (2, .int x2)] (i := 3) dX11_bookOf_11 rfl (by decide) rfl ?_
    refine S_bipush C (-4) dX11_bookOf_12 (by decide) ?_
    refine S_istore C [(4, .int (-4)), (3, .int 0), (0, .ref (aC z 0)), (1, .int x1), (2, .int x2)] dX11_bookOf_14 (by decide) rfl ?_
    refine S_aload_n C 2 dX11_bookOf_16 rfl ?_
    refine G_X11_bookFrom C fl_X11_97 dX11_bookOf_17 ?_
    refine S_iload_n C 3 dX11_bookOf_20 rfl ?_
    refine L_X11_bookFrom C dX11_bookOf_21 (fun _ => ?_)
    refine S_bndT (fun x5_2 _ => ?_)
    refine S_istore C [(5, .int x5_2), (4, .int (-4)), (3, .int 0), (0, .ref (aC z 0)), (1, .int x1), (2, .int x2)] dX11_bookOf_22 (by decide) rfl ?_
    exact S_sub [3, 4, 5, 2, 1, 0] rfl (WT_X11_bookOf_L24 C σ FU x1 x2 (0 : Int32) (-4 : Int32) x5_2)
  · refine S_iconst C (-1) dX11_bookOf_8 (by decide) ?_
    exact S_iret C rfl dX11_bookOf_9
set_option maxRecDepth 10000 in
theorem con_X11_bookOf (z : ZT) (l : Launch) (x1 : Int32) (x2 : Int32) (σ : St) : ∀ ro, X11_bookOf x1 x2 σ = some ro → Con (wxM z) l yX11_bookOf cX11_bookOf 6 (some .int) 2 46 [.ref (aC z 0), .int x1, .int x2] σ ((jI σ) ro) :=
  fun ro hk => Con_of hk (by decide) (Nat.le_of_ble_eq_true rfl) (fun x hx C => WT_X11_bookOf C x1 x2 σ)
set_option maxRecDepth 10000 in
theorem K_X11_bookOf {x : MX} {z : ZT} {own : String} {cc : ByteArray} {nL : Nat} {ret : Option FieldType} {fr lo : Nat} {ρ : Type} {inj : ρ → Option Value × St} {pc : Nat} {lv : List (Nat × Value)} {st : List Value} {σ : St} (C : Cok x (wxM z) own cc nL ret fr lo) {x1 : Int32} {x2 : Int32} {index : Nat} (hl : Cond.methodLink own index yX11_bookOf ∈ gtb) (hR : 2 + 1 ≤ fr ∧ 8 + (6 + 11) + 46 ≤ lo) (hW : (st.map fun v => v.category).sum ≤ 8) (hd : decode cc pc = .ok (.invokevirtual index, 3)) {K : Int32 → Option ρ} (h : ∀ v, Sim x (wxM z) nL inj (K v) (pc + 3) lv (.int v :: st) σ) : Sim x (wxM z) nL inj ((X11_bookOf x1 x2 σ).bind K) pc lv (.int x2 :: .int x1 :: .ref (aC z 0) :: st) σ :=
  S_callV C (As := [.int x1, .int x2]) (q := 0) (inj1 := (jI σ)) mw_X11_bookOf mv_X11_bookOf hl (fun ro hro => con_X11_bookOf z (mL x) x1 x2 σ ro hro) hR rfl (show 0 < 48 by decide) rfl (ce_X11 z σ) rfl rfl hW hd h
set_option maxRecDepth 10000 in
theorem WT_X11_addLine {x : MX} {z : ZT} (C : Cok x (wxM z) RX11 cX11_addLine 5 none 0 0) (x1 : Int32) (x2 : Int32) (x3 : Int32) (x4 : Int32) (σ : St) : Sim x (wxM z) 5 jV (X11_addLine x1 x2 x3 x4 σ) 0 [(0, .ref (aC z 0)), (1, .int x1), (2, .int x2), (3, .int x3), (4, .int x4)] [] σ := by
  rw [X11_addLine]
  refine S_aload_n C 0 dX11_addLine_0 rfl ?_
  refine G_X11_lineBook C fl_X11_107 dX11_addLine_1 ?_
  refine S_aload_n C 0 dX11_addLine_4 rfl ?_
  refine G_X11_lines C fl_X11_308 dX11_addLine_5 ?_
  refine S_iload_n C 1 dX11_addLine_8 rfl ?_
  refine T_X11_lineBook C dX11_addLine_9 (fun _ => ?_)
  refine S_bndS (fun σ1 _ => ?_)
  refine S_aload_n C 0 dX11_addLine_10 rfl ?_
  refine G_X11_lineYear C fl_X11_110 dX11_addLine_11 ?_
  refine S_aload_n C 0 dX11_addLine_14 rfl ?_
  refine G_X11_lines C fl_X11_308 dX11_addLine_15 ?_
  refine S_iload_n C 2 dX11_addLine_18 rfl ?_
  refine T_X11_lineYear C dX11_addLine_19 (fun _ => ?_)
  refine S_bndS (fun σ2 _ => ?_)
  refine S_aload_n C 0 dX11_addLine_20 rfl ?_
  refine G_X11_lineKind C fl_X11_113 dX11_addLine_21 ?_
  refine S_aload_n C 0 dX11_addLine_24 rfl ?_
  refine G_X11_lines C fl_X11_308 dX11_addLine_25 ?_
  refine S_iload C 4 dX11_addLine_28 rfl ?_
  refine T_X11_lineKind C dX11_addLine_30 (fun _ => ?_)
  refine S_bndS (fun σ3 _ => ?_)
  refine S_aload_n C 0 dX11_addLine_31 rfl ?_
  refine G_X11_lineFirst C fl_X11_116 dX11_addLine_32 ?_
  refine S_aload_n C 0 dX11_addLine_35 rfl ?_
  refine G_X11_lines C fl_X11_308 dX11_addLine_36 ?_
  refine S_iload_n C 3 dX11_addLine_39 rfl ?_
  refine T_X11_lineFirst C dX11_addLine_40 (fun _ => ?_)
  refine S_bndS (fun σ4 _ => ?_)
  refine S_aload_n C 0 dX11_addLine_41 rfl ?_
  refine G_X11_lineNow C fl_X11_119 dX11_addLine_42 ?_
  refine S_aload_n C 0 dX11_addLine_45 rfl ?_
  refine G_X11_lines C fl_X11_308 dX11_addLine_46 ?_
  refine S_iload_n C 3 dX11_addLine_49 rfl ?_
  refine T_X11_lineNow C dX11_addLine_50 (fun _ => ?_)
  refine S_bndS (fun σ5 _ => ?_)
  refine S_aload_n C 0 dX11_addLine_51 rfl ?_
  refine G_X11_lineDay C fl_X11_122 dX11_addLine_52 ?_
  refine S_aload_n C 0 dX11_addLine_55 rfl ?_
  refine G_X11_lines C fl_X11_308 dX11_addLine_56 ?_
  refine S_aload_n C 0 dX11_addLine_59 rfl ?_
  refine G_X11_today C fl_X11_332 dX11_addLine_60 ?_
  refine T_X11_lineDay C dX11_addLine_63 (fun _ => ?_)
  refine S_bndS (fun σ6 _ => ?_)
  refine S_aload_n C 0 dX11_addLine_64 rfl ?_
  refine G_X11_lineReads C fl_X11_125 dX11_addLine_65 ?_
  refine S_aload_n C 0 dX11_addLine_68 rfl ?_
  refine G_X11_lines C fl_X11_308 dX11_addLine_69 ?_
  refine S_iconst C (1) dX11_addLine_72 (by decide) ?_
  refine T_X11_lineReads C dX11_addLine_73 (fun _ => ?_)
  refine S_bndS (fun σ7 _ => ?_)
  refine S_aload_n C 0 dX11_addLine_74 rfl ?_
  refine G_X11_fathers C fl_X11_128 dX11_addLine_75 ?_
  refine S_aload_n C 0 dX11_addLine_78 rfl ?_
  refine G_X11_lines C fl_X11_308 dX11_addLine_79 ?_
  refine S_bipush C (-4) dX11_addLine_82 (by decide) ?_
  refine T_X11_fathers C dX11_addLine_84 (fun _ => ?_)
  refine S_bndS (fun σ8 _ => ?_)
  refine S_aload_n C 0 dX11_addLine_85 rfl ?_
  refine S_dup C dX11_addLine_86 rfl ?_
  refine G_X11_lines C fl_X11_308 dX11_addLine_87 ?_
  refine S_iconst C (1) dX11_addLine_90 (by decide) ?_
  refine S_iadd C dX11_addLine_91 ?_
  refine P_X11_lines C fl_X11_308 dX11_addLine_92 ?_
  refine S_bndS (fun σ9 _ => ?_)
  exact S_vret C rfl dX11_addLine_95
set_option maxRecDepth 10000 in
theorem con_X11_addLine (z : ZT) (l : Launch) (x1 : Int32) (x2 : Int32) (x3 : Int32) (x4 : Int32) (σ : St) : ∀ ro, X11_addLine x1 x2 x3 x4 σ = some ro → Con (wxM z) l yX11_addLine cX11_addLine 5 none 0 0 [.ref (aC z 0), .int x1, .int x2, .int x3, .int x4] σ (jV ro) :=
  fun ro hk => Con_of hk (by decide) (Nat.le_of_ble_eq_true rfl) (fun x hx C => WT_X11_addLine C x1 x2 x3 x4 σ)
set_option maxRecDepth 10000 in
theorem K_X11_addLine {x : MX} {z : ZT} {own : String} {cc : ByteArray} {nL : Nat} {ret : Option FieldType} {fr lo : Nat} {ρ : Type} {inj : ρ → Option Value × St} {pc : Nat} {lv : List (Nat × Value)} {st : List Value} {σ : St} (C : Cok x (wxM z) own cc nL ret fr lo) {x1 : Int32} {x2 : Int32} {x3 : Int32} {x4 : Int32} {index : Nat} (hl : Cond.methodLink own index yX11_addLine ∈ gtb) (hR : 0 + 1 ≤ fr ∧ 8 + (5 + 11) + 0 ≤ lo) (hW : (st.map fun v => v.category).sum ≤ 8) (hd : decode cc pc = .ok (.invokevirtual index, 3)) {K : St → Option ρ} (h : ∀ v, Sim x (wxM z) nL inj (K v) (pc + 3) lv (st) v) : Sim x (wxM z) nL inj ((X11_addLine x1 x2 x3 x4 σ).bind K) pc lv (.int x4 :: .int x3 :: .int x2 :: .int x1 :: .ref (aC z 0) :: st) σ :=
  S_callV C (As := [.int x1, .int x2, .int x3, .int x4]) (q := 0) (inj1 := jV) mw_X11_addLine mv_X11_addLine hl (fun ro hro => con_X11_addLine z (mL x) x1 x2 x3 x4 σ ro hro) hR rfl (show 0 < 48 by decide) rfl (ce_X11 z σ) rfl rfl hW hd h
set_option maxRecDepth 10000 in
theorem WT_X11_line {x : MX} {z : ZT} (C : Cok x (wxM z) RX11 cX11_line 5 (some .int) 2 46) (x1 : Int32) (x2 : Int32) (x3 : Int32) (x4 : Int32) (σ : St) : Sim x (wxM z) 5 jIS (X11_line x1 x2 x3 x4 σ) 0 [(0, .ref (aC z 0)), (1, .int x1), (2, .int x2), (3, .int x3), (4, .int x4)] [] σ := by
  rw [X11_line]
  refine S_aload_n C 0 dX11_line_0 rfl ?_
  refine S_iload_n C 1 dX11_line_1 rfl ?_
  refine K_X11_isBook C ml_X11_320 (by decide) (Nat.le_of_ble_eq_true rfl) dX11_line_2 (fun v1 => ?_)
  refine S_if_eq C 51 dX11_line_5 (by decide) ?_ ?_
  · refine S_iconst C (-1) dX11_line_51 (by decide) ?_
    exact S_iret C rfl dX11_line_52
  · refine S_iload_n C 2 dX11_line_8 rfl ?_
    refine S_i2l C dX11_line_9 ?_
    refine S_aload_n C 0 dX11_line_10 rfl ?_
    refine G_X11_bookFrom C fl_X11_97 dX11_line_11 ?_
    refine S_iload_n C 1 dX11_line_14 rfl ?_
    refine L_X11_bookFrom C dX11_line_15 (fun _ => ?_)
    refine S_i2l C dX11_line_16 ?_
    refine S_aload_n C 0 dX11_line_17 rfl ?_
    refine G_X11_bookTo C fl_X11_100 dX11_line_18 ?_
    refine S_iload_n C 1 dX11_line_21 rfl ?_
    refine L_X11_bookTo C dX11_line_22 (fun _ => ?_)
    refine S_i2l C dX11_line_23 ?_
    refine K_X11_in C ml_X11_156 (by decide) (Nat.le_of_ble_eq_true rfl) dX11_line_24 (fun v2 => ?_)
    refine S_if_eq C 51 dX11_line_27 (by decide) ?_ ?_
    · refine S_iconst C (-1) dX11_line_51 (by decide) ?_
      exact S_iret C rfl dX11_line_52
    · refine S_aload_n C 0 dX11_line_30 rfl ?_
      refine S_iload_n C 3 dX11_line_31 rfl ?_
      refine K_X11_isSpelling C ml_X11_166 (by decide) (Nat.le_of_ble_eq_true rfl) dX11_line_32 (fun v3 => ?_)
      refine S_if_eq C 51 dX11_line_35 (by decide) ?_ ?_
      · refine S_iconst C (-1) dX11_line_51 (by decide) ?_
        exact S_iret C rfl dX11_line_52
      · refine S_iload C 4 dX11_line_38 rfl ?_
        refine S_i2l C dX11_line_40 ?_
        refine S_lconst C (0) dX11_line_41 (by decide) ?_
        refine S_ldc2 C (4) kl_X11_335 dX11_line_42 ?_
        refine K_X11_in C ml_X11_156 (by decide) (Nat.le_of_ble_eq_true rfl) dX11_line_45 (fun v4 => ?_)
        refine S_if_ne C 53 dX11_line_48 (by decide) ?_ ?_
        · refine S_aload_n C 0 dX11_line_53 rfl ?_
          refine S_iload_n C 1 dX11_line_54 rfl ?_
          refine S_iload_n C 2 dX11_line_55 rfl ?_
          refine K_X11_isHole C ml_X11_326 (by decide) (Nat.le_of_ble_eq_true rfl) dX11_line_56 (fun v5 => ?_)
          refine S_if_eq C 65 dX11_line_59 (by decide) ?_ ?_
          · refine S_aload_n C 0 dX11_line_65 rfl ?_
            refine G_X11_lines C fl_X11_308 dX11_line_66 ?_
            refine S_bipush C (40) dX11_line_69 (by decide) ?_
            refine S_icmp_ne C 77 dX11_line_71 (by decide) ?_ ?_
            · refine S_aload_n C 0 dX11_line_77 rfl ?_
              refine S_iload_n C 1 dX11_line_78 rfl ?_
              refine S_iload_n C 2 dX11_line_79 rfl ?_
              refine S_iload_n C 3 dX11_line_80 rfl ?_
              refine S_iload C 4 dX11_line_81 rfl ?_
              refine K_X11_addLine C ml_X11_337 (by decide) (Nat.le_of_ble_eq_true rfl) dX11_line_83 (fun σ6 => ?_)
              refine S_aload_n C 0 dX11_line_86 rfl ?_
              refine G_X11_lines C fl_X11_308 dX11_line_87 ?_
              refine S_iconst C (1) dX11_line_90 (by decide) ?_
              refine S_isub C dX11_line_91 ?_
              exact S_iret C rfl dX11_line_92
            · refine S_bipush C (-3) dX11_line_74 (by decide) ?_
              exact S_iret C rfl dX11_line_76
          · refine S_bipush C (-2) dX11_line_62 (by decide) ?_
            exact S_iret C rfl dX11_line_64
        · refine S_iconst C (-1) dX11_line_51 (by decide) ?_
          exact S_iret C rfl dX11_line_52
set_option maxRecDepth 10000 in
theorem con_X11_line (z : ZT) (l : Launch) (x1 : Int32) (x2 : Int32) (x3 : Int32) (x4 : Int32) (σ : St) : ∀ ro, X11_line x1 x2 x3 x4 σ = some ro → Con (wxM z) l yX11_line cX11_line 5 (some .int) 2 46 [.ref (aC z 0), .int x1, .int x2, .int x3, .int x4] σ (jIS ro) :=
  fun ro hk => Con_of hk (by decide) (Nat.le_of_ble_eq_true rfl) (fun x hx C => WT_X11_line C x1 x2 x3 x4 σ)
set_option maxRecDepth 10000 in
theorem K_X11_line {x : MX} {z : ZT} {own : String} {cc : ByteArray} {nL : Nat} {ret : Option FieldType} {fr lo : Nat} {ρ : Type} {inj : ρ → Option Value × St} {pc : Nat} {lv : List (Nat × Value)} {st : List Value} {σ : St} (C : Cok x (wxM z) own cc nL ret fr lo) {x1 : Int32} {x2 : Int32} {x3 : Int32} {x4 : Int32} {index : Nat} (hl : Cond.methodLink own index yX11_line ∈ gtb) (hR : 2 + 1 ≤ fr ∧ 8 + (5 + 11) + 46 ≤ lo) (hW : (st.map fun v => v.category).sum ≤ 8) (hd : decode cc pc = .ok (.invokevirtual index, 3)) {K : (Int32 × St) → Option ρ} (h : ∀ v, Sim x (wxM z) nL inj (K v) (pc + 3) lv (.int v.1 :: st) v.2) : Sim x (wxM z) nL inj ((X11_line x1 x2 x3 x4 σ).bind K) pc lv (.int x4 :: .int x3 :: .int x2 :: .int x1 :: .ref (aC z 0) :: st) σ :=
  S_callV C (As := [.int x1, .int x2, .int x3, .int x4]) (q := 0) (inj1 := jIS) mw_X11_line mv_X11_line hl (fun ro hro => con_X11_line z (mL x) x1 x2 x3 x4 σ ro hro) hR rfl (show 0 < 48 by decide) rfl (ce_X11 z σ) rfl rfl hW hd h
set_option maxRecDepth 10000 in
theorem WT_X11_day {x : MX} {z : ZT} (C : Cok x (wxM z) RX11 cX11_day 3 (some .int) 1 25) (x1 : Int32) (σ : St) : Sim x (wxM z) 3 jIS (X11_day x1 σ) 0 [(0, .ref (aC z 0)), (1, .int x1)] [] σ := by
  rw [X11_day]
  refine S_iload_n C 1 dX11_day_0 rfl ?_
  refine S_i2l C dX11_day_1 ?_
  refine S_aload_n C 0 dX11_day_2 rfl ?_
  refine G_X11_today C fl_X11_332 dX11_day_3 ?_
  refine S_i2l C dX11_day_6 ?_
  refine S_ldc2 C (999) kl_X11_341 dX11_day_7 ?_
  refine K_X11_in C ml_X11_156 (by decide) (Nat.le_of_ble_eq_true rfl) dX11_day_10 (fun v1 => ?_)
  refine S_if_ne C 18 dX11_day_13 (by decide) ?_ ?_
  · refine S_aload_n C 0 dX11_day_18 rfl ?_
    refine G_X11_today C fl_X11_332 dX11_day_19 ?_
    refine S_bndT (fun x2_2 _ => ?_)
    refine S_istore_n C [(2, .int x2_2), (0, .ref (aC z 0)), (1, .int x1)] (i := 2) dX11_day_22 rfl (by decide) rfl ?_
    refine S_aload_n C 1 dX11_day_23 rfl ?_
    refine S_iload_n C 2 dX11_day_24 rfl ?_
    refine P_X11_today C fl_X11_332 dX11_day_25 ?_
    refine S_bndS (fun σ3 _ => ?_)
    refine S_iload_n C 0 dX11_day_28 rfl ?_
    exact S_iret C rfl dX11_day_29
  · refine S_iconst C (-1) dX11_day_16 (by decide) ?_
    exact S_iret C rfl dX11_day_17
set_option maxRecDepth 10000 in
theorem con_X11_day (z : ZT) (l : Launch) (x1 : Int32) (σ : St) : ∀ ro, X11_day x1 σ = some ro → Con (wxM z) l yX11_day cX11_day 3 (some .int) 1 25 [.ref (aC z 0), .int x1] σ (jIS ro) :=
  fun ro hk => Con_of hk (by decide) (Nat.le_of_ble_eq_true rfl) (fun x hx C => WT_X11_day C x1 σ)
set_option maxRecDepth 10000 in
theorem K_X11_day {x : MX} {z : ZT} {own : String} {cc : ByteArray} {nL : Nat} {ret : Option FieldType} {fr lo : Nat} {ρ : Type} {inj : ρ → Option Value × St} {pc : Nat} {lv : List (Nat × Value)} {st : List Value} {σ : St} (C : Cok x (wxM z) own cc nL ret fr lo) {x1 : Int32} {index : Nat} (hl : Cond.methodLink own index yX11_day ∈ gtb) (hR : 1 + 1 ≤ fr ∧ 8 + (3 + 11) + 25 ≤ lo) (hW : (st.map fun v => v.category).sum ≤ 8) (hd : decode cc pc = .ok (.invokevirtual index, 3)) {K : (Int32 × St) → Option ρ} (h : ∀ v, Sim x (wxM z) nL inj (K v) (pc + 3) lv (.int v.1 :: st) v.2) : Sim x (wxM z) nL inj ((X11_day x1 σ).bind K) pc lv (.int x1 :: .ref (aC z 0) :: st) σ :=
  S_callV C (As := [.int x1]) (q := 0) (inj1 := jIS) mw_X11_day mv_X11_day hl (fun ro hro => con_X11_day z (mL x) x1 σ ro hro) hR rfl (show 0 < 48 by decide) rfl (ce_X11 z σ) rfl rfl hW hd h
set_option maxRecDepth 10000 in
theorem WT_X11_again {x : MX} {z : ZT} (C : Cok x (wxM z) RX11 cX11_again 3 (some .int) 2 46) (x1 : Int32) (x2 : Int32) (σ : St) : Sim x (wxM z) 3 jIS (X11_again x1 x2 σ) 0 [(0, .ref (aC z 0)), (1, .int x1), (2, .int x2)] [] σ := by
  rw [X11_again]
  refine S_aload_n C 0 dX11_again_0 rfl ?_
  refine S_iload_n C 1 dX11_again_1 rfl ?_
  refine K_X11_isLine C ml_X11_343 (by decide) (Nat.le_of_ble_eq_true rfl) dX11_again_2 (fun v1 => ?_)
  refine S_if_eq C 16 dX11_again_5 (by decide) ?_ ?_
  · refine S_iconst C (-1) dX11_again_16 (by decide) ?_
    exact S_iret C rfl dX11_again_17
  · refine S_aload_n C 0 dX11_again_8 rfl ?_
    refine S_iload_n C 2 dX11_again_9 rfl ?_
    refine K_X11_isSpelling C ml_X11_166 (by decide) (Nat.le_of_ble_eq_true rfl) dX11_again_10 (fun v2 => ?_)
    refine S_if_ne C 18 dX11_again_13 (by decide) ?_ ?_
    · refine S_aload_n C 0 dX11_again_18 rfl ?_
      refine G_X11_lineNow C fl_X11_119 dX11_again_19 ?_
      refine S_iload_n C 1 dX11_again_22 rfl ?_
      refine L_X11_lineNow C dX11_again_23 (fun _ => ?_)
      refine S_iload_n C 2 dX11_again_24 rfl ?_
      refine S_icmp_ne C 31 dX11_again_25 (by decide) ?_ ?_
      · refine S_aload_n C 0 dX11_again_31 rfl ?_
        refine G_X11_readings C fl_X11_346 dX11_again_32 ?_
        refine S_bipush C (60) dX11_again_35 (by decide) ?_
        refine S_icmp_ne C 43 dX11_again_37 (by decide) ?_ ?_
        · refine S_aload_n C 0 dX11_again_43 rfl ?_
          refine G_X11_readLine C fl_X11_131 dX11_again_44 ?_
          refine S_aload_n C 0 dX11_again_47 rfl ?_
          refine G_X11_readings C fl_X11_346 dX11_again_48 ?_
          refine S_iload_n C 1 dX11_again_51 rfl ?_
          refine T_X11_readLine C dX11_again_52 (fun _ => ?_)
          refine S_bndS (fun σ3 _ => ?_)
          refine S_aload_n C 0 dX11_again_53 rfl ?_
          refine G_X11_readAs C fl_X11_134 dX11_again_54 ?_
          refine S_aload_n C 0 dX11_again_57 rfl ?_
          refine G_X11_readings C fl_X11_346 dX11_again_58 ?_
          refine S_iload_n C 2 dX11_again_61 rfl ?_
          refine T_X11_readAs C dX11_again_62 (fun _ => ?_)
          refine S_bndS (fun σ4 _ => ?_)
          refine S_aload_n C 0 dX11_again_63 rfl ?_
          refine G_X11_readOn C fl_X11_137 dX11_again_64 ?_
          refine S_aload_n C 0 dX11_again_67 rfl ?_
          refine G_X11_readings C fl_X11_346 dX11_again_68 ?_
          refine S_aload_n C 0 dX11_again_71 rfl ?_
          refine G_X11_today C fl_X11_332 dX11_again_72 ?_
          refine T_X11_readOn C dX11_again_75 (fun _ => ?_)
          refine S_bndS (fun σ5 _ => ?_)
          refine S_aload_n C 0 dX11_again_76 rfl ?_
          refine S_dup C dX11_again_77 rfl ?_
          refine G_X11_readings C fl_X11_346 dX11_again_78 ?_
          refine S_iconst C (1) dX11_again_81 (by decide) ?_
          refine S_iadd C dX11_again_82 ?_
          refine P_X11_readings C fl_X11_346 dX11_again_83 ?_
          refine S_bndS (fun σ6 _ => ?_)
          refine S_aload_n C 0 dX11_again_86 rfl ?_
          refine G_X11_lineNow C fl_X11_119 dX11_again_87 ?_
          refine S_iload_n C 1 dX11_again_90 rfl ?_
          refine S_iload_n C 2 dX11_again_91 rfl ?_
          refine T_X11_lineNow C dX11_again_92 (fun _ => ?_)
          refine S_bndS (fun σ7 _ => ?_)
          refine S_aload_n C 0 dX11_again_93 rfl ?_
          refine G_X11_lineReads C fl_X11_125 dX11_again_94 ?_
          refine S_iload_n C 1 dX11_again_97 rfl ?_
          refine S_dup2 C dX11_again_98 rfl rfl ?_
          refine L_X11_lineReads C dX11_again_99 (fun _ => ?_)
          refine S_iconst C (1) dX11_again_100 (by decide) ?_
          refine S_iadd C dX11_again_101 ?_
          refine T_X11_lineReads C dX11_again_102 (fun _ => ?_)
          refine S_bndS (fun σ8 _ => ?_)
          refine S_aload_n C 0 dX11_again_103 rfl ?_
          refine G_X11_lineReads C fl_X11_125 dX11_again_104 ?_
          refine S_iload_n C 1 dX11_again_107 rfl ?_
          refine L_X11_lineReads C dX11_again_108 (fun _ => ?_)
          exact S_iret C rfl dX11_again_109
        · refine S_bipush C (-3) dX11_again_40 (by decide) ?_
          exact S_iret C rfl dX11_again_42
      · refine S_bipush C (-2) dX11_again_28 (by decide) ?_
        exact S_iret C rfl dX11_again_30
    · refine S_iconst C (-1) dX11_again_16 (by decide) ?_
      exact S_iret C rfl dX11_again_17
set_option maxRecDepth 10000 in
theorem con_X11_again (z : ZT) (l : Launch) (x1 : Int32) (x2 : Int32) (σ : St) : ∀ ro, X11_again x1 x2 σ = some ro → Con (wxM z) l yX11_again cX11_again 3 (some .int) 2 46 [.ref (aC z 0), .int x1, .int x2] σ (jIS ro) :=
  fun ro hk => Con_of hk (by decide) (Nat.le_of_ble_eq_true rfl) (fun x hx C => WT_X11_again C x1 x2 σ)
set_option maxRecDepth 10000 in
theorem K_X11_again {x : MX} {z : ZT} {own : String} {cc : ByteArray} {nL : Nat} {ret : Option FieldType} {fr lo : Nat} {ρ : Type} {inj : ρ → Option Value × St} {pc : Nat} {lv : List (Nat × Value)} {st : List Value} {σ : St} (C : Cok x (wxM z) own cc nL ret fr lo) {x1 : Int32} {x2 : Int32} {index : Nat} (hl : Cond.methodLink own index yX11_again ∈ gtb) (hR : 2 + 1 ≤ fr ∧ 8 + (3 + 11) + 46 ≤ lo) (hW : (st.map fun v => v.category).sum ≤ 8) (hd : decode cc pc = .ok (.invokevirtual index, 3)) {K : (Int32 × St) → Option ρ} (h : ∀ v, Sim x (wxM z) nL inj (K v) (pc + 3) lv (.int v.1 :: st) v.2) : Sim x (wxM z) nL inj ((X11_again x1 x2 σ).bind K) pc lv (.int x2 :: .int x1 :: .ref (aC z 0) :: st) σ :=
  S_callV C (As := [.int x1, .int x2]) (q := 0) (inj1 := jIS) mw_X11_again mv_X11_again hl (fun ro hro => con_X11_again z (mL x) x1 x2 σ ro hro) hR rfl (show 0 < 48 by decide) rfl (ce_X11 z σ) rfl rfl hW hd h
set_option maxRecDepth 10000 in
theorem WT_X11_lineOf {x : MX} {z : ZT} (C : Cok x (wxM z) RX11 cX11_lineOf 3 (some .int) 4 98) (x1 : Int32) (x2 : Int32) (σ : St) : Sim x (wxM z) 3 jIS (X11_lineOf x1 x2 σ) 0 [(0, .ref (aC z 0)), (1, .int x1), (2, .int x2)] [] σ := by
  rw [X11_lineOf]
  refine S_aload_n C 0 dX11_lineOf_0 rfl ?_
  refine S_iload_n C 1 dX11_lineOf_1 rfl ?_
  refine K_X11_isLine C ml_X11_343 (by decide) (Nat.le_of_ble_eq_true rfl) dX11_lineOf_2 (fun v1 => ?_)
  refine S_if_ne C 10 dX11_lineOf_5 (by decide) ?_ ?_
  · refine S_iload_n C 2 dX11_lineOf_10 rfl ?_
    refine S_tsw C _ [56, 63, 70, 77, 84, 95, 102, 109] 116 dX11_lineOf_11 rfl (Nat.le_of_ble_eq_true rfl) (by decide) (by decide) (Sims_cons ?_ (Sims_cons ?_ (Sims_cons ?_ (Sims_cons ?_ (Sims_cons ?_ (Sims_cons ?_ (Sims_cons ?_ (Sims_cons ?_ Sims_nil)))))))) ?_
    · refine S_aload_n C 0 dX11_lineOf_56 rfl ?_
      refine G_X11_lineBook C fl_X11_107 dX11_lineOf_57 ?_
      refine S_iload_n C 1 dX11_lineOf_60 rfl ?_
      refine L_X11_lineBook C dX11_lineOf_61 (fun _ => ?_)
      exact S_iret C rfl dX11_lineOf_62
    · refine S_aload_n C 0 dX11_lineOf_63 rfl ?_
      refine G_X11_lineYear C fl_X11_110 dX11_lineOf_64 ?_
      refine S_iload_n C 1 dX11_lineOf_67 rfl ?_
      refine L_X11_lineYear C dX11_lineOf_68 (fun _ => ?_)
      exact S_iret C rfl dX11_lineOf_69
    · refine S_aload_n C 0 dX11_lineOf_70 rfl ?_
      refine G_X11_lineNow C fl_X11_119 dX11_lineOf_71 ?_
      refine S_iload_n C 1 dX11_lineOf_74 rfl ?_
      refine L_X11_lineNow C dX11_lineOf_75 (fun _ => ?_)
      exact S_iret C rfl dX11_lineOf_76
    · refine S_aload_n C 0 dX11_lineOf_77 rfl ?_
      refine G_X11_lineKind C fl_X11_113 dX11_lineOf_78 ?_
      refine S_iload_n C 1 dX11_lineOf_81 rfl ?_
      refine L_X11_lineKind C dX11_lineOf_82 (fun _ => ?_)
      exact S_iret C rfl dX11_lineOf_83
    · refine S_aload_n C 0 dX11_lineOf_84 rfl ?_
      refine S_aload_n C 0 dX11_lineOf_85 rfl ?_
      refine G_X11_lineNow C fl_X11_119 dX11_lineOf_86 ?_
      refine S_iload_n C 1 dX11_lineOf_89 rfl ?_
      refine L_X11_lineNow C dX11_lineOf_90 (fun _ => ?_)
      refine K_X11_name C ml_X11_349 (by decide) (Nat.le_of_ble_eq_true rfl) dX11_lineOf_91 (fun r2 => ?_)
      exact S_iret C rfl dX11_lineOf_94
    · refine S_aload_n C 0 dX11_lineOf_95 rfl ?_
      refine G_X11_fathers C fl_X11_128 dX11_lineOf_96 ?_
      refine S_iload_n C 1 dX11_lineOf_99 rfl ?_
      refine L_X11_fathers C dX11_lineOf_100 (fun _ => ?_)
      exact S_iret C rfl dX11_lineOf_101
    · refine S_aload_n C 0 dX11_lineOf_102 rfl ?_
      refine G_X11_lineReads C fl_X11_125 dX11_lineOf_103 ?_
      refine S_iload_n C 1 dX11_lineOf_106 rfl ?_
      refine L_X11_lineReads C dX11_lineOf_107 (fun _ => ?_)
      exact S_iret C rfl dX11_lineOf_108
    · refine S_aload_n C 0 dX11_lineOf_109 rfl ?_
      refine G_X11_lineDay C fl_X11_122 dX11_lineOf_110 ?_
      refine S_iload_n C 1 dX11_lineOf_113 rfl ?_
      refine L_X11_lineDay C dX11_lineOf_114 (fun _ => ?_)
      exact S_iret C rfl dX11_lineOf_115
    · refine S_iconst C (-1) dX11_lineOf_116 (by decide) ?_
      exact S_iret C rfl dX11_lineOf_117
  · refine S_iconst C (-1) dX11_lineOf_8 (by decide) ?_
    exact S_iret C rfl dX11_lineOf_9
set_option maxRecDepth 10000 in
theorem con_X11_lineOf (z : ZT) (l : Launch) (x1 : Int32) (x2 : Int32) (σ : St) : ∀ ro, X11_lineOf x1 x2 σ = some ro → Con (wxM z) l yX11_lineOf cX11_lineOf 3 (some .int) 4 98 [.ref (aC z 0), .int x1, .int x2] σ (jIS ro) :=
  fun ro hk => Con_of hk (by decide) (Nat.le_of_ble_eq_true rfl) (fun x hx C => WT_X11_lineOf C x1 x2 σ)
set_option maxRecDepth 10000 in
theorem K_X11_lineOf {x : MX} {z : ZT} {own : String} {cc : ByteArray} {nL : Nat} {ret : Option FieldType} {fr lo : Nat} {ρ : Type} {inj : ρ → Option Value × St} {pc : Nat} {lv : List (Nat × Value)} {st : List Value} {σ : St} (C : Cok x (wxM z) own cc nL ret fr lo) {x1 : Int32} {x2 : Int32} {index : Nat} (hl : Cond.methodLink own index yX11_lineOf ∈ gtb) (hR : 4 + 1 ≤ fr ∧ 8 + (3 + 11) + 98 ≤ lo) (hW : (st.map fun v => v.category).sum ≤ 8) (hd : decode cc pc = .ok (.invokevirtual index, 3)) {K : (Int32 × St) → Option ρ} (h : ∀ v, Sim x (wxM z) nL inj (K v) (pc + 3) lv (.int v.1 :: st) v.2) : Sim x (wxM z) nL inj ((X11_lineOf x1 x2 σ).bind K) pc lv (.int x2 :: .int x1 :: .ref (aC z 0) :: st) σ :=
  S_callV C (As := [.int x1, .int x2]) (q := 0) (inj1 := jIS) mw_X11_lineOf mv_X11_lineOf hl (fun ro hro => con_X11_lineOf z (mL x) x1 x2 σ ro hro) hR rfl (show 0 < 48 by decide) rfl (ce_X11 z σ) rfl rfl hW hd h
set_option maxRecDepth 10000 in
theorem WT_X11_known_L45 {x : MX} {z : ZT} (C : Cok x (wxM z) RX11 cX11_known 5 (some .int) 2 46) (σ : St) : ∀ (n : Nat) (x1 : Int32) (x2 : Int32) (x3 : Int32) (x4 : Int32), Sim x (wxM z) 5 (jI σ) (X11_known_L45 σ n x1 x2 x3 x4) 45 [(0, .ref (aC z 0)), (1, .int x1), (2, .int x2), (3, .int x3), (4, .int x4)] [] σ := by
  intro n
  induction n with
  | zero =>
    intros
    exact S_none
  | succ n ih =>
    intro x1 x2 x3 x4
    rw [X11_known_L45]
    refine S_iload C 4 dX11_known_45 rfl ?_
    refine S_aload_n C 0 dX11_known_47 rfl ?_
    refine G_X11_readings C fl_X11_346 dX11_known_48 ?_
    refine S_icmp_ge C 94 dX11_known_51 (by decide) ?_ ?_
    · refine S_iload_n C 3 dX11_known_94 rfl ?_
      exact S_iret C rfl dX11_known_95
    · refine S_aload_n C 0 dX11_known_54 rfl ?_
      refine G_X11_readLine C fl_X11_131 dX11_known_55 ?_
      refine S_iload C 4 dX11_known_58 rfl ?_
      refine L_X11_readLine C dX11_known_60 (fun _ => ?_)
      refine S_iload_n C 1 dX11_known_61 rfl ?_
      refine S_icmp_ne C 86 dX11_known_62 (by decide) ?_ ?_
      · refine S_iload_n C 3 dX11_known_86 rfl ?_
        refine S_istore_n C [(3, .int x3), (0, .ref (aC z 0)), (1, .int x1), (2, .int x2), (4, .int x4)] (i := 3) dX11_known_87 rfl (by decide) rfl ?_
        refine S_iinc C 4 [(4, .int (x4 + 1)), (3, .int x3), (0, .ref (aC z 0)), (1, .int x1), (2, .int x2)] (x4 + 1) dX11_known_88 rfl rfl (by decide) rfl ?_
        refine S_goto C 45 dX11_known_91 (by decide) ?_
        exact S_sub [2, 3, 4, 1, 0] rfl (ih x1 x2 x3 (x4 + 1))
      · refine S_aload_n C 0 dX11_known_65 rfl ?_
        refine G_X11_readOn C fl_X11_137 dX11_known_66 ?_
        refine S_iload C 4 dX11_known_69 rfl ?_
        refine L_X11_readOn C dX11_known_71 (fun _ => ?_)
        refine S_iload_n C 2 dX11_known_72 rfl ?_
        refine S_icmp_gt C 86 dX11_known_73 (by decide) ?_ ?_
        · refine S_iload_n C 3 dX11_known_86 rfl ?_
          refine S_istore_n C [(3, .int x3), (0, .ref (aC z 0)), (1, .int x1), (2, .int x2), (4, .int x4)] (i := 3) dX11_known_87 rfl (by decide) rfl ?_
          refine S_iinc C 4 [(4, .int (x4 + 1)), (3, .int x3), (0, .ref (aC z 0)), (1, .int x1), (2, .int x2)] (x4 + 1) dX11_known_88 rfl rfl (by decide) rfl ?_
          refine S_goto C 45 dX11_known_91 (by decide) ?_
          exact S_sub [2, 3, 4, 1, 0] rfl (ih x1 x2 x3 (x4 + 1))
        · refine S_aload_n C 0 dX11_known_76 rfl ?_
          refine G_X11_readAs C fl_X11_134 dX11_known_77 ?_
          refine S_iload C 4 dX11_known_80 rfl ?_
          refine L_X11_readAs C dX11_known_82 (fun _ => ?_)
          refine S_goto C 87 dX11_known_83 (by decide) ?_
          refine S_bndT (fun x3_4 _ => ?_)
          refine S_istore_n C [(3, .int x3_4), (0, .ref (aC z 0)), (1, .int x1), (2, .int x2), (4, .int x4)] (i := 3) dX11_known_87 rfl (by decide) rfl ?_
          refine S_iinc C 4 [(4, .int (x4 + 1)), (3, .int x3_4), (0, .ref (aC z 0)), (1, .int x1), (2, .int x2)] (x4 + 1) dX11_known_88 rfl rfl (by decide) rfl ?_
          refine S_goto C 45 dX11_known_91 (by decide) ?_
          exact S_sub [2, 3, 4, 1, 0] rfl (ih x1 x2 x3_4 (x4 + 1))
set_option maxRecDepth 10000 in
theorem WT_X11_known {x : MX} {z : ZT} (C : Cok x (wxM z) RX11 cX11_known 5 (some .int) 2 46) (x1 : Int32) (x2 : Int32) (σ : St) : Sim x (wxM z) 5 (jI σ) (X11_known x1 x2 σ) 0 [(0, .ref (aC z 0)), (1, .int x1), (2, .int x2)] [] σ := by
  rw [X11_known]
  refine S_aload_n C 0 dX11_known_0 rfl ?_
  refine S_iload_n C 1 dX11_known_1 rfl ?_
  refine K_X11_isLine C ml_X11_343 (by decide) (Nat.le_of_ble_eq_true rfl) dX11_known_2 (fun v1 => ?_)
  refine S_if_eq C 20 dX11_known_5 (by decide) ?_ ?_
  · refine S_iconst C (-1) dX11_known_20 (by decide) ?_
    exact S_iret C rfl dX11_known_21
  · refine S_iload_n C 2 dX11_known_8 rfl ?_
    refine S_i2l C dX11_known_9 ?_
    refine S_lconst C (0) dX11_known_10 (by decide) ?_
    refine S_ldc2 C (999) kl_X11_341 dX11_known_11 ?_
    refine K_X11_in C ml_X11_156 (by decide) (Nat.le_of_ble_eq_true rfl) dX11_known_14 (fun v2 => ?_)
    refine S_if_ne C 22 dX11_known_17 (by decide) ?_ ?_
    · refine S_aload_n C 0 dX11_known_22 rfl ?_
      refine G_X11_lineDay C fl_X11_122 dX11_known_23 ?_
      refine S_iload_n C 1 dX11_known_26 rfl ?_
      refine L_X11_lineDay C dX11_known_27 (fun _ => ?_)
      refine S_iload_n C 2 dX11_known_28 rfl ?_
      refine S_icmp_le C 35 dX11_known_29 (by decide) ?_ ?_
      · refine S_aload_n C 0 dX11_known_35 rfl ?_
        refine G_X11_lineFirst C fl_X11_116 dX11_known_36 ?_
        refine S_iload_n C 1 dX11_known_39 rfl ?_
        refine L_X11_lineFirst C dX11_known_40 (fun _ => ?_)
        refine S_bndT (fun x3_3 _ => ?_)
        refine S_istore_n C [(3, .int x3_3), (0, .ref (aC z 0)), (1, .int x1), (2, .int x2)] (i := 3) dX11_known_41 rfl (by decide) rfl ?_
        refine S_iconst C (0) dX11_known_42 (by decide) ?_
        refine S_istore C [(4, .int 0), (3, .int x3_3), (0, .ref (aC z 0)), (1, .int x1), (2, .int x2)] dX11_known_43 (by decide) rfl ?_
        exact S_sub [2, 3, 4, 1, 0] rfl (WT_X11_known_L45 C σ FU x1 x2 x3_3 (0 : Int32))
      · refine S_bipush C (-4) dX11_known_32 (by decide) ?_
        exact S_iret C rfl dX11_known_34
    · refine S_iconst C (-1) dX11_known_20 (by decide) ?_
      exact S_iret C rfl dX11_known_21
set_option maxRecDepth 10000 in
theorem con_X11_known (z : ZT) (l : Launch) (x1 : Int32) (x2 : Int32) (σ : St) : ∀ ro, X11_known x1 x2 σ = some ro → Con (wxM z) l yX11_known cX11_known 5 (some .int) 2 46 [.ref (aC z 0), .int x1, .int x2] σ ((jI σ) ro) :=
  fun ro hk => Con_of hk (by decide) (Nat.le_of_ble_eq_true rfl) (fun x hx C => WT_X11_known C x1 x2 σ)
set_option maxRecDepth 10000 in
theorem K_X11_known {x : MX} {z : ZT} {own : String} {cc : ByteArray} {nL : Nat} {ret : Option FieldType} {fr lo : Nat} {ρ : Type} {inj : ρ → Option Value × St} {pc : Nat} {lv : List (Nat × Value)} {st : List Value} {σ : St} (C : Cok x (wxM z) own cc nL ret fr lo) {x1 : Int32} {x2 : Int32} {index : Nat} (hl : Cond.methodLink own index yX11_known ∈ gtb) (hR : 2 + 1 ≤ fr ∧ 8 + (5 + 11) + 46 ≤ lo) (hW : (st.map fun v => v.category).sum ≤ 8) (hd : decode cc pc = .ok (.invokevirtual index, 3)) {K : Int32 → Option ρ} (h : ∀ v, Sim x (wxM z) nL inj (K v) (pc + 3) lv (.int v :: st) σ) : Sim x (wxM z) nL inj ((X11_known x1 x2 σ).bind K) pc lv (.int x2 :: .int x1 :: .ref (aC z 0) :: st) σ :=
  S_callV C (As := [.int x1, .int x2]) (q := 0) (inj1 := (jI σ)) mw_X11_known mv_X11_known hl (fun ro hro => con_X11_known z (mL x) x1 x2 σ ro hro) hR rfl (show 0 < 48 by decide) rfl (ce_X11 z σ) rfl rfl hW hd h
set_option maxRecDepth 10000 in
theorem WT_X11_worthOf {x : MX} {z : ZT} (C : Cok x (wxM z) RX11 cX11_worthOf 1 (some .int) 0 0) (x0 : Int32) (σ : St) : Sim x (wxM z) 1 (jI σ) (X11_worthOf x0 σ) 0 [(0, .int x0)] [] σ := by
  rw [X11_worthOf]
  refine S_iload_n C 0 dX11_worthOf_0 rfl ?_
  refine S_if_eq C 9 dX11_worthOf_1 (by decide) ?_ ?_
  · refine S_iconst C (2) dX11_worthOf_9 (by decide) ?_
    refine S_goto C 23 dX11_worthOf_10 (by decide) ?_
    exact S_iret C rfl dX11_worthOf_23
  · refine S_iload_n C 0 dX11_worthOf_4 rfl ?_
    refine S_iconst C (2) dX11_worthOf_5 (by decide) ?_
    refine S_icmp_ne C 13 dX11_worthOf_6 (by decide) ?_ ?_
    · refine S_iload_n C 0 dX11_worthOf_13 rfl ?_
      refine S_iconst C (3) dX11_worthOf_14 (by decide) ?_
      refine S_icmp_ne C 22 dX11_worthOf_15 (by decide) ?_ ?_
      · refine S_iconst C (1) dX11_worthOf_22 (by decide) ?_
        exact S_iret C rfl dX11_worthOf_23
      · refine S_iconst C (0) dX11_worthOf_18 (by decide) ?_
        refine S_goto C 23 dX11_worthOf_19 (by decide) ?_
        exact S_iret C rfl dX11_worthOf_23
    · refine S_iconst C (2) dX11_worthOf_9 (by decide) ?_
      refine S_goto C 23 dX11_worthOf_10 (by decide) ?_
      exact S_iret C rfl dX11_worthOf_23
set_option maxRecDepth 10000 in
theorem con_X11_worthOf (z : ZT) (l : Launch) (x0 : Int32) (σ : St) : ∀ ro, X11_worthOf x0 σ = some ro → Con (wxM z) l yX11_worthOf cX11_worthOf 1 (some .int) 0 0 [.int x0] σ ((jI σ) ro) :=
  fun ro hk => Con_of hk (by decide) (Nat.le_of_ble_eq_true rfl) (fun x hx C => WT_X11_worthOf C x0 σ)
set_option maxRecDepth 10000 in
theorem K_X11_worthOf {x : MX} {z : ZT} {own : String} {cc : ByteArray} {nL : Nat} {ret : Option FieldType} {fr lo : Nat} {ρ : Type} {inj : ρ → Option Value × St} {pc : Nat} {lv : List (Nat × Value)} {st : List Value} {σ : St} (C : Cok x (wxM z) own cc nL ret fr lo) {x0 : Int32} {index : Nat} (hl : Cond.methodLink own index yX11_worthOf ∈ gtb) (hR : 0 + 1 ≤ fr ∧ 8 + (1 + 11) + 0 ≤ lo) (hW : (st.map fun v => v.category).sum ≤ 8) (hd : decode cc pc = .ok (.invokestatic index, 3)) {K : Int32 → Option ρ} (h : ∀ v, Sim x (wxM z) nL inj (K v) (pc + 3) lv (.int v :: st) σ) : Sim x (wxM z) nL inj ((X11_worthOf x0 σ).bind K) pc lv (.int x0 :: st) σ :=
  S_callS C (As := [.int x0]) (inj1 := (jI σ)) mw_X11_worthOf ms_X11_worthOf hl (fun ro hro => con_X11_worthOf z (mL x) x0 σ ro hro) hR rfl rfl hW hd h
set_option maxRecDepth 10000 in
theorem WT_X11_bearers_B287 {x : MX} {z : ZT} (C : Cok x (wxM z) RX11 cX11_bearers 10 (some .int) 3 77) (x5 : Int32) (x6 : Int32) (x7 : Int32) (s0 : Int32) (σ : St) : Sim x (wxM z) 10 jIS (X11_bearers_B287 x5 x6 x7 s0 σ) 287 [(5, .int x5), (6, .int x6), (7, .int x7)] [.int s0] σ := by
  rw [X11_bearers_B287]
  refine S_istore C [(8, .int s0), (5, .int x5), (6, .int x6), (7, .int x7)] dX11_bearers_287 (by decide) rfl ?_
  refine S_iload C 1 dX11_bearers_289 rfl ?_
  refine S_if_ne C 299 dX11_bearers_291 (by decide) ?_ ?_
  · refine S_iload C 1 dX11_bearers_299 rfl ?_
    refine S_iconst C (2) dX11_bearers_301 (by decide) ?_
    refine S_icmp_ne C 308 dX11_bearers_302 (by decide) ?_ ?_
    · refine S_iload C 3 dX11_bearers_308 rfl ?_
      refine S_if_ne C 318 dX11_bearers_310 (by decide) ?_ ?_
      · refine S_iload C 2 dX11_bearers_318 rfl ?_
        refine S_iload C 0 dX11_bearers_320 rfl ?_
        refine S_imul C dX11_bearers_322 ?_
        refine S_iconst C (2) dX11_bearers_323 (by decide) ?_
        refine S_iload C 3 dX11_bearers_324 rfl ?_
        refine S_imul C dX11_bearers_326 ?_
        refine S_iadd C dX11_bearers_327 ?_
        refine S_iconst C (1) dX11_bearers_328 (by decide) ?_
        refine S_isub C dX11_bearers_329 ?_
        refine S_iconst C (2) dX11_bearers_330 (by decide) ?_
        refine S_iload C 3 dX11_bearers_331 rfl ?_
        refine S_imul C dX11_bearers_333 ?_
        refine S_idiv C dX11_bearers_334 ?_
        exact S_iret C rfl dX11_bearers_335
      · refine S_bipush C (-4) dX11_bearers_313 (by decide) ?_
        refine S_goto C 335 dX11_bearers_315 (by decide) ?_
        exact S_iret C rfl dX11_bearers_335
    · refine S_iload C 3 dX11_bearers_305 rfl ?_
      exact S_iret C rfl dX11_bearers_307
  · refine S_iload C 2 dX11_bearers_294 rfl ?_
    refine S_iconst C (2) dX11_bearers_296 (by decide) ?_
    refine S_idiv_k C (by decide) dX11_bearers_297 ?_
    exact S_iret C rfl dX11_bearers_298
set_option maxRecDepth 10000 in
theorem WT_X11_bearers_L195 {x : MX} {z : ZT} (C : Cok x (wxM z) RX11 cX11_bearers 10 (some .int) 3 77) (kq177 : Int32 → Int32 → Int32 → Int32 → Int32 → Int32 → Int32 → St → Option (Int32 × St)) (hk177 : ∀ (x2 : Int32) (x3 : Int32) (x4 : Int32) (x5 : Int32) (x6 : Int32) (x7 : Int32) (x8 : Int32) (σ : St), Sim x (wxM z) 10 jIS (kq177 x2 x3 x4 x5 x6 x7 x8 σ) 177 [(0, .ref (aC z 0)), (2, .int x2), (3, .int x3), (4, .int x4), (5, .int x5), (6, .int x6), (7, .int x7), (8, .int x8)] [] σ) : ∀ (n : Nat) (x2 : Int32) (x3 : Int32) (x4 : Int32) (x5 : Int32) (x6 : Int32) (x7 : Int32) (x8 : Int32) (x9 : Int32) (σ : St), Sim x (wxM z) 10 jIS (X11_bearers_L195 kq177 n x2 x3 x4 x5 x6 x7 x8 x9 σ) 195 [(0, .ref (aC z 0)), (2, .int x2), (3, .int x3), (4, .int x4), (5, .int x5), (6, .int x6), (7, .int x7), (8, .int x8), (9, .int x9)] [] σ := by
  intro n
  induction n with
  | zero =>
    intros
    exact S_none
  | succ n ih =>
    intro x2 x3 x4 x5 x6 x7 x8 x9 σ
    rw [X11_bearers_L195]
    refine S_iload C 8 dX11_bearers_195 rfl ?_
    refine S_aload_n C 0 dX11_bearers_197 rfl ?_
    refine G_X11_bookTo C fl_X11_100 dX11_bearers_198 ?_
    refine S_iload C 7 dX11_bearers_201 rfl ?_
    refine L_X11_bookTo C dX11_bearers_203 (fun _ => ?_)
    refine S_icmp_gt C 259 dX11_bearers_204 (by decide) ?_ ?_
    · refine S_iinc C 7 [(8, .int (x8 + 1)), (0, .ref (aC z 0)), (2, .int x2), (3, .int x3), (4, .int x4), (5, .int x5), (6, .int x6), (7, .int x7), (9, .int x9)] (x8 + 1) dX11_bearers_259 rfl rfl (by decide) rfl ?_
      refine S_goto C 177 dX11_bearers_262 (by decide) ?_
      exact S_sub [1, 2, 3, 4, 5, 6, 7, 0] rfl (hk177 x2 x3 x4 x5 x6 x7 (x8 + 1) σ)
    · refine S_iload C 6 dX11_bearers_207 rfl ?_
      refine S_aload_n C 0 dX11_bearers_209 rfl ?_
      refine G_X11_bookPlace C fl_X11_94 dX11_bearers_210 ?_
      refine S_iload C 7 dX11_bearers_213 rfl ?_
      refine L_X11_bookPlace C dX11_bearers_215 (fun _ => ?_)
      refine S_iload_n C 1 dX11_bearers_216 rfl ?_
      refine S_icmp_ne C 249 dX11_bearers_217 (by decide) ?_ ?_
      · refine S_iconst C (0) dX11_bearers_249 (by decide) ?_
        refine S_iadd C dX11_bearers_250 ?_
        refine S_bndT (fun x7_8 _ => ?_)
        refine S_istore C [(7, .int x7_8), (0, .ref (aC z 0)), (2, .int x2), (3, .int x3), (4, .int x4), (5, .int x5), (6, .int x6), (8, .int x8), (9, .int x9)] dX11_bearers_251 (by decide) rfl ?_
        refine S_iinc C 8 [(9, .int (x9 + 1)), (7, .int x7_8), (0, .ref (aC z 0)), (2, .int x2), (3, .int x3), (4, .int x4), (5, .int x5), (6, .int x6), (8, .int x8)] (x9 + 1) dX11_bearers_253 rfl rfl (by decide) rfl ?_
        refine S_goto C 195 dX11_bearers_256 (by decide) ?_
        exact S_sub [2, 3, 4, 5, 6, 7, 1, 8, 0] rfl (ih x2 x3 x4 x5 x6 x7_8 x8 (x9 + 1) σ)
      · refine S_iload C 8 dX11_bearers_220 rfl ?_
        refine S_i2l C dX11_bearers_222 ?_
        refine S_iload_n C 2 dX11_bearers_223 rfl ?_
        refine S_i2l C dX11_bearers_224 ?_
        refine S_iload C 3 dX11_bearers_225 rfl ?_
        refine S_i2l C dX11_bearers_227 ?_
        refine K_X11_in C ml_X11_156 (by decide) (Nat.le_of_ble_eq_true rfl) dX11_bearers_228 (fun v9 => ?_)
        refine S_if_eq C 249 dX11_bearers_231 (by decide) ?_ ?_
        · refine S_iconst C (0) dX11_bearers_249 (by decide) ?_
          refine S_iadd C dX11_bearers_250 ?_
          refine S_bndT (fun x7_10 _ => ?_)
          refine S_istore C [(7, .int x7_10), (0, .ref (aC z 0)), (2, .int x2), (3, .int x3), (4, .int x4), (5, .int x5), (6, .int x6), (8, .int x8), (9, .int x9)] dX11_bearers_251 (by decide) rfl ?_
          refine S_iinc C 8 [(9, .int (x9 + 1)), (7, .int x7_10), (0, .ref (aC z 0)), (2, .int x2), (3, .int x3), (4, .int x4), (5, .int x5), (6, .int x6), (8, .int x8)] (x9 + 1) dX11_bearers_253 rfl rfl (by decide) rfl ?_
          refine S_goto C 195 dX11_bearers_256 (by decide) ?_
          exact S_sub [2, 3, 4, 5, 6, 7, 1, 8, 0] rfl (ih x2 x3 x4 x5 x6 x7_10 x8 (x9 + 1) σ)
        · refine S_aload_n C 0 dX11_bearers_234 rfl ?_
          refine S_iload C 7 dX11_bearers_235 rfl ?_
          refine S_iload C 8 dX11_bearers_237 rfl ?_
          refine K_X11_isHole C ml_X11_326 (by decide) (Nat.le_of_ble_eq_true rfl) dX11_bearers_239 (fun v11 => ?_)
          refine S_if_ne C 249 dX11_bearers_242 (by decide) ?_ ?_
          · refine S_iconst C (0) dX11_bearers_249 (by decide) ?_
            refine S_iadd C dX11_bearers_250 ?_
            refine S_bndT (fun x7_12 _ => ?_)
            refine S_istore C [(7, .int x7_12), (0, .ref (aC z 0)), (2, .int x2), (3, .int x3), (4, .int x4), (5, .int x5), (6, .int x6), (8, .int x8), (9, .int x9)] dX11_bearers_251 (by decide) rfl ?_
            refine S_iinc C 8 [(9, .int (x9 + 1)), (7, .int x7_12), (0, .ref (aC z 0)), (2, .int x2), (3, .int x3), (4, .int x4), (5, .int x5), (6, .int x6), (8, .int x8)] (x9 + 1) dX11_bearers_253 rfl rfl (by decide) rfl ?_
            refine S_goto C 195 dX11_bearers_256 (by decide) ?_
            exact S_sub [2, 3, 4, 5, 6, 7, 1, 8, 0] rfl (ih x2 x3 x4 x5 x6 x7_12 x8 (x9 + 1) σ)
          · refine S_iconst C (1) dX11_bearers_245 (by decide) ?_
            refine S_goto C 250 dX11_bearers_246 (by decide) ?_
            refine S_iadd C dX11_bearers_250 ?_
            refine S_bndT (fun x7_13 _ => ?_)
            refine S_istore C [(7, .int x7_13), (0, .ref (aC z 0)), (2, .int x2), (3, .int x3), (4, .int x4), (5, .int x5), (6, .int x6), (8, .int x8), (9, .int x9)] dX11_bearers_251 (by decide) rfl ?_
            refine S_iinc C 8 [(9, .int (x9 + 1)), (7, .int x7_13), (0, .ref (aC z 0)), (2, .int x2), (3, .int x3), (4, .int x4), (5, .int x5), (6, .int x6), (8, .int x8)] (x9 + 1) dX11_bearers_253 rfl rfl (by decide) rfl ?_
            refine S_goto C 195 dX11_bearers_256 (by decide) ?_
            exact S_sub [2, 3, 4, 5, 6, 7, 1, 8, 0] rfl (ih x2 x3 x4 x5 x6 x7_13 x8 (x9 + 1) σ)
