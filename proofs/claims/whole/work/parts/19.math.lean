/-! Math's max, min, abs, by the kit's rows -/
def J9_max_7cf53 (x0 x1 : Int32) (σ : St) : Option Int32 := some (if x0 < x1 then x1 else x0)
theorem K_J9_max_7cf53 {x : MX} {z : ZT} {own : String} {cc : ByteArray} {nL : Nat} {ret : Option FieldType} {fr lo : Nat} {ρ : Type} {inj : ρ → Option Value × St} {pc : Nat} {lv : List (Nat × Value)} {st : List Value} {σ : St} (C : Cok x (wxC z) own cc nL ret fr lo) {x0 x1 : Int32} {index : Nat} (hl : Cond.methodLink own index yJ9_max_7cf53 ∈ gtb) (hR : 0 + 1 ≤ fr ∧ 8 + (2 + 11) + 0 ≤ lo) (hW : (st.map fun v => v.category).sum ≤ 8) (hd : decode cc pc = .ok (.invokestatic index, 3)) {K : Int32 → Option ρ} (h : ∀ v, Sim x (wxC z) nL inj (K v) (pc + 3) lv (.int v :: st) σ) : Sim x (wxC z) nL inj ((J9_max_7cf53 x0 x1 σ).bind K) pc lv (.int x1 :: .int x0 :: st) σ := by
  intro H locs ls r hk hP hS hls
  have hl1 : (Cond.methodLink own index Lib.Math.max.name).before (mA x) (mS x) = true := C.2.2.2.2.1 _ hl
  have hs1 : (Cond.static Lib.Math.max.name).before (mA x) (mS x) = true := C.2.2.2.2.1 _ ms_J9_max_7cf53
  have hi1 : (Cond.initialized "java/lang/Math").before (mA x) (mS x) = true := C.2.2.2.2.1 _ mw_J9_max_7cf53.2.1
  have hc1 : (Cond.code Lib.Math.max.name Lib.Math.max.code 2 (some .int)).before (mA x) (mS x) = true := C.2.2.2.2.1 _ mw_J9_max_7cf53.1
  have hlo : (st.map fun v => v.category).sum + 13 ≤ (mR x).locals := by rw [C.2.2.2.2.2.2.2.2.2.2]; show _ ≤ lo; omega
  exact va_mmax C.1 C.2.1 (by rw [C.2.2.1]; exact hls.1.symm) C.2.2.2.1 hl1 hs1 hi1 hc1 (by rw [C.2.2.2.2.2.2.2.2.2.2]; exact hR.1) hlo (Nat.zero_le _) (Nat.zero_le _) hd (h _ H locs ls r hk hP hS hls)
def J9_min_7cf53 (x0 x1 : Int32) (σ : St) : Option Int32 := some (if x1 < x0 then x1 else x0)
theorem K_J9_min_7cf53 {x : MX} {z : ZT} {own : String} {cc : ByteArray} {nL : Nat} {ret : Option FieldType} {fr lo : Nat} {ρ : Type} {inj : ρ → Option Value × St} {pc : Nat} {lv : List (Nat × Value)} {st : List Value} {σ : St} (C : Cok x (wxC z) own cc nL ret fr lo) {x0 x1 : Int32} {index : Nat} (hl : Cond.methodLink own index yJ9_min_7cf53 ∈ gtb) (hR : 0 + 1 ≤ fr ∧ 8 + (2 + 11) + 0 ≤ lo) (hW : (st.map fun v => v.category).sum ≤ 8) (hd : decode cc pc = .ok (.invokestatic index, 3)) {K : Int32 → Option ρ} (h : ∀ v, Sim x (wxC z) nL inj (K v) (pc + 3) lv (.int v :: st) σ) : Sim x (wxC z) nL inj ((J9_min_7cf53 x0 x1 σ).bind K) pc lv (.int x1 :: .int x0 :: st) σ := by
  intro H locs ls r hk hP hS hls
  have hl1 : (Cond.methodLink own index Lib.Math.min.name).before (mA x) (mS x) = true := C.2.2.2.2.1 _ hl
  have hs1 : (Cond.static Lib.Math.min.name).before (mA x) (mS x) = true := C.2.2.2.2.1 _ ms_J9_min_7cf53
  have hi1 : (Cond.initialized "java/lang/Math").before (mA x) (mS x) = true := C.2.2.2.2.1 _ mw_J9_min_7cf53.2.1
  have hc1 : (Cond.code Lib.Math.min.name Lib.Math.min.code 2 (some .int)).before (mA x) (mS x) = true := C.2.2.2.2.1 _ mw_J9_min_7cf53.1
  have hlo : (st.map fun v => v.category).sum + 13 ≤ (mR x).locals := by rw [C.2.2.2.2.2.2.2.2.2.2]; show _ ≤ lo; omega
  exact va_mmin C.1 C.2.1 (by rw [C.2.2.1]; exact hls.1.symm) C.2.2.2.1 hl1 hs1 hi1 hc1 (by rw [C.2.2.2.2.2.2.2.2.2.2]; exact hR.1) hlo (Nat.zero_le _) (Nat.zero_le _) hd (h _ H locs ls r hk hP hS hls)
def J9_abs_0f7a4 (x0 : Int32) (σ : St) : Option Int32 := some (if 0 ≤ x0 then x0 else 0 - x0)
theorem K_J9_abs_0f7a4 {x : MX} {z : ZT} {own : String} {cc : ByteArray} {nL : Nat} {ret : Option FieldType} {fr lo : Nat} {ρ : Type} {inj : ρ → Option Value × St} {pc : Nat} {lv : List (Nat × Value)} {st : List Value} {σ : St} (C : Cok x (wxC z) own cc nL ret fr lo) {x0 : Int32} {index : Nat} (hl : Cond.methodLink own index yJ9_abs_0f7a4 ∈ gtb) (hR : 0 + 1 ≤ fr ∧ 8 + (2 + 11) + 0 ≤ lo) (hW : (st.map fun v => v.category).sum ≤ 8) (hd : decode cc pc = .ok (.invokestatic index, 3)) {K : Int32 → Option ρ} (h : ∀ v, Sim x (wxC z) nL inj (K v) (pc + 3) lv (.int v :: st) σ) : Sim x (wxC z) nL inj ((J9_abs_0f7a4 x0 σ).bind K) pc lv (.int x0 :: st) σ := by
  intro H locs ls r hk hP hS hls
  have hl1 : (Cond.methodLink own index Lib.Math.abs.name).before (mA x) (mS x) = true := C.2.2.2.2.1 _ hl
  have hs1 : (Cond.static Lib.Math.abs.name).before (mA x) (mS x) = true := C.2.2.2.2.1 _ ms_J9_abs_0f7a4
  have hi1 : (Cond.initialized "java/lang/Math").before (mA x) (mS x) = true := C.2.2.2.2.1 _ mw_J9_abs_0f7a4.2.1
  have hc1 : (Cond.code Lib.Math.abs.name Lib.Math.abs.code 1 (some .int)).before (mA x) (mS x) = true := C.2.2.2.2.1 _ mw_J9_abs_0f7a4.1
  have hlo : (st.map fun v => v.category).sum + 13 ≤ (mR x).locals := by rw [C.2.2.2.2.2.2.2.2.2.2]; show _ ≤ lo; omega
  exact va_mabs C.1 C.2.1 (by rw [C.2.2.1]; exact hls.1.symm) C.2.2.2.1 hl1 hs1 hi1 hc1 (by rw [C.2.2.2.2.2.2.2.2.2.2]; exact hR.1) hlo (Nat.zero_le _) (Nat.zero_le _) hd (h _ H locs ls r hk hP hS hls)
