/-! the String constants' own methods: length, charAt -/
def jU (σ : St) (_ : Unit) : Option Value × St := (none, σ)
def J3_chk (i n : Int32) : Option Int32 := if i < 0 then none else (if i < n then some i else none)
def J0_chk (i n : Int32) : Option Unit := (J3_chk i n).bind fun _ => some ()
def J1_chr (j : Nat) (i : Int32) : Option Int32 := (J0_chk i (Int32.ofNat (kLen.getD j 0))).bind fun _ => chk i (kLen.getD j 0) (some ((((kByt.getD j []).getD i.toNatClampNeg 0) &&& 255).toUInt32 % 65536).toInt32)
def J0_length_8abf5 (t1 : Nat) (σ : St) : Option Int32 := some (Int32.ofNat (kLen.getD t1 0) >>> ((0 : Int32) &&& 31))
def J0_charAt_5068e (t1 : Nat) (x1 : Int32) (σ : St) : Option Int32 := (J1_chr t1 x1).bind fun v => if (v.toUInt32 % 65536).toInt32 = v then some v else none
section Strs
variable {x : MX} {w : WX} {own : String} {cc : ByteArray} {nL : Nat} {ret : Option FieldType} {fr lo : Nat} {ρ : Type} {inj : ρ → Option Value × St} {k : Option ρ} {pc : Nat} {lv : List (Nat × Value)} {st : List Value} {σ : St}
theorem S_ifk {P : Prop} [Decidable P] (h : P → Sim x w nL inj k pc lv st σ) : Sim x w nL inj (if P then k else none) pc lv st σ := by
  intro H locs ls r hk hP hS hl
  by_cases hp : P
  · rw [if_pos hp] at hk; exact h hp H locs ls r hk hP hS hl
  · rw [if_neg hp] at hk; cases hk
end Strs
theorem con_J0_coder (w : WX) (l : Launch) (j : Nat) (hj : j < 8) (σ : St) : ∀ r, (some (0 : Int32)) = some r → Con w l yJ0_coder_7d493 cJ0_coder_7d493 1 (some .byte) 0 0 [.ref (wKs w j)] σ (jI σ r) := by
  intro r hk
  refine Con_of hk (by decide) (Nat.le_of_ble_eq_true rfl) (fun x hx C => ?_)
  refine S_gets_COMP C dJ0_coder_7d493_0 ?_
  rw [show (some (0 : Int32)) = (if (1 : Int32) = 0 then none else some 0) from rfl]
  refine S_if_eq C 13 dJ0_coder_7d493_3 (by decide) S_none ?_
  refine S_aload_n C 0 dJ0_coder_7d493_6 rfl ?_
  refine S_strC C hj dJ0_coder_7d493_7 ?_
  refine S_goto C 14 dJ0_coder_7d493_10 (by decide) ?_
  exact S_tyret C rfl rfl dJ0_coder_7d493_14
theorem con_J0_isLatin1 (w : WX) (l : Launch) (j : Nat) (hj : j < 8) (σ : St) : ∀ r, (some (1 : Int32)) = some r → Con w l yJ0_isLatin1_aae02 cJ0_isLatin1_aae02 1 (some .boolean) 0 0 [.ref (wKs w j)] σ (jI σ r) := by
  intro r hk
  refine Con_of hk (by decide) (Nat.le_of_ble_eq_true rfl) (fun x hx C => ?_)
  refine S_gets_COMP C dJ0_isLatin1_aae02_0 ?_
  rw [show (some (1 : Int32)) = (if (1 : Int32) = 0 then none else (if (0 : Int32) = 0 then some 1 else none)) from rfl]
  refine S_if_eq C 17 dJ0_isLatin1_aae02_3 (by decide) S_none ?_
  refine S_aload_n C 0 dJ0_isLatin1_aae02_6 rfl ?_
  refine S_strC C hj dJ0_isLatin1_aae02_7 ?_
  refine S_if_ne C 17 dJ0_isLatin1_aae02_10 (by decide) S_none ?_
  refine S_iconst C 1 dJ0_isLatin1_aae02_13 (by decide) ?_
  refine S_goto C 18 dJ0_isLatin1_aae02_14 (by decide) ?_
  exact S_tyret C rfl rfl dJ0_isLatin1_aae02_18
theorem con_J0_length (w : WX) (l : Launch) (j : Nat) (hj : j < 8) (σ : St) : ∀ r, J0_length_8abf5 j σ = some r → Con w l yJ0_length_8abf5 cJ0_length_8abf5 1 (some .int) 1 20 [.ref (wKs w j)] σ (jI σ r) := by
  intro r hk
  refine Con_of (k := (some (0 : Int32)).bind fun v => some (Int32.ofNat (kLen.getD j 0) >>> (v &&& 31))) hk (by decide) (Nat.le_of_ble_eq_true rfl) (fun x hx C => ?_)
  subst hx
  refine S_aload_n C 0 dJ0_length_8abf5_0 rfl ?_
  refine S_strV C hj dJ0_length_8abf5_1 ?_
  refine S_strL C hj dJ0_length_8abf5_4 ?_
  refine S_aload_n C 0 dJ0_length_8abf5_5 rfl ?_
  refine S_callStr C (As := []) (inj1 := jI σ) hj rfl mw_J0_coder_7d493 mv_J0_coder_7d493 ml_J0_335 (fun r hr => con_J0_coder w (mL x) j hj σ r hr) (by decide) rfl rfl (Nat.le_of_ble_eq_true rfl) dJ0_length_8abf5_6 (fun v => ?_)
  refine S_ishr C dJ0_length_8abf5_9 ?_
  exact S_iret C rfl dJ0_length_8abf5_10
theorem con_J3_checkIndex (w : WX) (l : Launch) (i n : Int32) (v : Value) (hv : v = .null ∨ ∃ t, v = .ref t) (σ : St) : ∀ r, J3_chk i n = some r → Con w l yJ3_checkIndex_8e157 cJ3_checkIndex_8e157 3 (some .int) 0 0 [.int i, .int n, v] σ (jI σ r) := by
  intro r hk
  refine Con_of hk (by decide) (by rcases hv with rfl | ⟨t, rfl⟩ <;> exact Nat.le_of_ble_eq_true rfl) (fun x hx C => ?_)
  refine S_iload_n C 0 dJ3_checkIndex_8e157_0 rfl ?_
  rw [J3_chk]
  refine S_if_lt C 9 dJ3_checkIndex_8e157_1 (by decide) S_none ?_
  refine S_iload_n C 0 dJ3_checkIndex_8e157_4 rfl ?_
  refine S_iload_n C 1 dJ3_checkIndex_8e157_5 rfl ?_
  refine S_icmp_lt C 16 dJ3_checkIndex_8e157_6 (by decide) ?_ S_none
  refine S_iload_n C 0 dJ3_checkIndex_8e157_16 rfl ?_
  exact S_iret C rfl dJ3_checkIndex_8e157_17
theorem con_J0_checkIndex (w : WX) (l : Launch) (i n : Int32) (σ : St) : ∀ r, J0_chk i n = some r → Con w l yJ0_checkIndex_df160 cJ0_checkIndex_df160 2 none 1 22 [.int i, .int n] σ (jU σ r) := by
  intro r hk
  refine Con_of hk (by decide) (Nat.le_of_ble_eq_true rfl) (fun x hx C => ?_)
  subst hx
  refine S_iload_n C 0 dJ0_checkIndex_df160_0 rfl ?_
  refine S_iload_n C 1 dJ0_checkIndex_df160_1 rfl ?_
  refine S_gets_FMT C dJ0_checkIndex_df160_2 (fun v hv => ?_)
  refine S_callS C (As := [.int i, .int n, v]) (inj1 := jI σ) mw_J3_checkIndex_8e157 ms_J3_checkIndex_8e157 ml_J0_1059 (fun r hr => con_J3_checkIndex w (mL x) i n v hv σ r hr) (by decide) rfl rfl (Nat.le_of_ble_eq_true rfl) dJ0_checkIndex_df160_5 (fun r => ?_)
  refine S_pop C dJ0_checkIndex_df160_8 rfl ?_
  exact S_vret C rfl dJ0_checkIndex_df160_9
theorem con_J1_charAt (w : WX) (l : Launch) (j : Nat) (hj : j < 8) (i : Int32) (σ : St) : ∀ r, J1_chr j i = some r → Con w l yJ1_charAt_3b067 cJ1_charAt_3b067 2 (some .char) 2 43 [.ref (wVs w j), .int i] σ (jI σ r) := by
  intro r hk
  refine Con_of hk (by decide) (Nat.le_of_ble_eq_true rfl) (fun x hx C => ?_)
  subst hx
  refine S_iload_n C 1 dJ1_charAt_3b067_0 rfl ?_
  refine S_aload_n C 0 dJ1_charAt_3b067_1 rfl ?_
  refine S_strL C hj dJ1_charAt_3b067_2 ?_
  refine S_callS C (As := [.int i, .int (Int32.ofNat (kLen.getD j 0))]) (inj1 := jU σ) mw_J0_checkIndex_df160 ms_J0_checkIndex_df160 ml_J1_9 (fun r hr => con_J0_checkIndex w (mL x) i _ σ r hr) (by decide) rfl rfl (Nat.le_of_ble_eq_true rfl) dJ1_charAt_3b067_3 (fun r => ?_)
  refine S_aload_n C 0 dJ1_charAt_3b067_6 rfl ?_
  refine S_iload_n C 1 dJ1_charAt_3b067_7 rfl ?_
  refine S_strB C hj dJ1_charAt_3b067_8 (fun _ => ?_)
  refine S_sipush C 255 dJ1_charAt_3b067_9 (by decide) ?_
  refine S_iand C dJ1_charAt_3b067_12 ?_
  refine S_i2c C dJ1_charAt_3b067_13 ?_
  exact S_tyret C (pk_nc _) rfl dJ1_charAt_3b067_14
theorem con_J0_charAt (w : WX) (l : Launch) (j : Nat) (hj : j < 8) (i : Int32) (σ : St) : ∀ r, J0_charAt_5068e j i σ = some r → Con w l yJ0_charAt_5068e cJ0_charAt_5068e 2 (some .char) 3 64 [.ref (wKs w j), .int i] σ (jI σ r) := by
  intro r hk
  refine Con_of (k := (some (1 : Int32)).bind fun v => if v = 0 then none else (J1_chr j i).bind fun v => if (v.toUInt32 % 65536).toInt32 = v then some v else none) hk (by decide) (Nat.le_of_ble_eq_true rfl) (fun x hx C => ?_)
  subst hx
  refine S_aload_n C 0 dJ0_charAt_5068e_0 rfl ?_
  refine S_callStr C (As := []) (inj1 := jI σ) hj rfl mw_J0_isLatin1_aae02 mv_J0_isLatin1_aae02 ml_J0_492 (fun r hr => con_J0_isLatin1 w (mL x) j hj σ r hr) (by decide) rfl rfl (Nat.le_of_ble_eq_true rfl) dJ0_charAt_5068e_1 (fun v => ?_)
  refine S_if_eq C 16 dJ0_charAt_5068e_4 (by decide) S_none ?_
  refine S_aload_n C 0 dJ0_charAt_5068e_7 rfl ?_
  refine S_strV C hj dJ0_charAt_5068e_8 ?_
  refine S_iload_n C 1 dJ0_charAt_5068e_11 rfl ?_
  refine S_callS C (As := [.ref (wVs w j), .int i]) (inj1 := jI σ) mw_J1_charAt_3b067 ms_J1_charAt_3b067 ml_J0_495 (fun r hr => con_J1_charAt w (mL x) j hj i σ r hr) (by decide) rfl rfl (Nat.le_of_ble_eq_true rfl) dJ0_charAt_5068e_12 (fun v => ?_)
  refine S_ifk (fun hv => ?_)
  exact S_tyret C (by rw [← hv]; exact pk_nc _) rfl dJ0_charAt_5068e_15
section StrCalls
variable {x : MX} {z : ZT} {own : String} {cc : ByteArray} {nL : Nat} {ret : Option FieldType} {fr lo : Nat} {ρ : Type} {inj : ρ → Option Value × St} {pc : Nat} {lv : List (Nat × Value)} {st : List Value} {σ : St}
theorem K_J0_length_8abf5 (C : Cok x (wxC z) own cc nL ret fr lo) {t1 : Nat} (ht1 : t1 < 8) {index : Nat} (hl : Cond.methodLink own index yJ0_length_8abf5 ∈ gtb) (hR : 1 + 1 ≤ fr ∧ 8 + (1 + 11) + 20 ≤ lo) (hW : (st.map fun v => v.category).sum ≤ 8) (hd : decode cc pc = .ok (.invokevirtual index, 3)) {K : Int32 → Option ρ} (h : ∀ v, Sim x (wxC z) nL inj (K v) (pc + 3) lv (.int v :: st) σ) : Sim x (wxC z) nL inj ((J0_length_8abf5 t1 σ).bind K) pc lv (.ref (wKs (wxC z) t1) :: st) σ :=
  S_callStr C (As := []) (inj1 := jI σ) ht1 rfl mw_J0_length_8abf5 mv_J0_length_8abf5 hl (fun r hr => con_J0_length (wxC z) (mL x) t1 ht1 σ r hr) hR rfl rfl hW hd h
theorem K_J0_charAt_5068e (C : Cok x (wxC z) own cc nL ret fr lo) {t1 : Nat} {x1 : Int32} (ht1 : t1 < 8) {index : Nat} (hl : Cond.methodLink own index yJ0_charAt_5068e ∈ gtb) (hR : 3 + 1 ≤ fr ∧ 8 + (2 + 11) + 64 ≤ lo) (hW : (st.map fun v => v.category).sum ≤ 8) (hd : decode cc pc = .ok (.invokevirtual index, 3)) {K : Int32 → Option ρ} (h : ∀ v, Sim x (wxC z) nL inj (K v) (pc + 3) lv (.int v :: st) σ) : Sim x (wxC z) nL inj ((J0_charAt_5068e t1 x1 σ).bind K) pc lv (.int x1 :: .ref (wKs (wxC z) t1) :: st) σ :=
  S_callStr C (As := [.int x1]) (inj1 := jI σ) ht1 rfl mw_J0_charAt_5068e mv_J0_charAt_5068e hl (fun r hr => con_J0_charAt (wxC z) (mL x) t1 ht1 x1 σ r hr) hR rfl rfl hW hd h
end StrCalls
