/-! the law's loop -/
def lwT : List Nat := [196, 249, 273, 326, 349, 362, 375, 398, 422, 445, 478, 501, 544, 567, 600, 643, 702, 735, 788, 811, 844, 877, 910, 973, 1006, 1039, 1072, 1095, 1129, 1162, 1195, 1228, 1261, 1304, 1347, 1390, 1403]
theorem lwT_ok : ∀ j, j < 37 → (#[163, 216, 240, 293, 316, 329, 342, 365, 389, 412, 445, 468, 511, 534, 567, 610, 669, 702, 755, 778, 811, 844, 877, 940, 973, 1006, 1039, 1062, 1096, 1129, 1162, 1195, 1228, 1271, 1314, 1357, 1370] : Array Int)[j]? = some ((lwT.getD j 0 : Int) - 33) := by decide +kernel
section Loop
variable {x : MX} {z1 z2 : ZT} {b L cs ss : Nat} {xs : Nat → Int32} {σ τ : St}
theorem L_tsw {w1 w2 : WX} {lv : List (Nat × Value)} {st : List Value} (C : Lok x w1 w2 b L xs) {v : Int32} (h : ∀ j, j < 37 → v = nI j → LSim x w1 w2 cs ss (lwT.getD j 0) lv st σ τ) (hd : LSim x w1 w2 cs ss 1426 lv st σ τ) : LSim x w1 w2 cs ss 33 lv (.int v :: st) σ τ := fun H locs ls hP hQ hS hl => by
  by_cases hv : ∃ j, j < 37 ∧ v = nI j
  · obtain ⟨j, hj, e⟩ := hv
    have ei : v.toInt = (j : Int) := by rw [e]; exact nI_toInt (by omega)
    exact lv_tableIn C.1 C.2.1 dL_law_33 (by rw [ei]; omega) (by rw [ei]; omega) (by rw [ei, show ((j : Int) - 0).toNat = j by omega]; exact lwT_ok j hj) (by omega) (h j hj e H locs ls hP hQ hS hl)
  · refine lv_tableOut C.1 C.2.1 dL_law_33 ?_ (by decide) (hd H locs ls hP hQ hS hl)
    by_cases hneg : v.toInt < 0
    · exact Or.inl hneg
    · refine Or.inr ?_
      obtain ⟨j, hj, rfl⟩ := nI_of (x := v) (fun hlt => hneg (by simpa using Int32.lt_iff_toInt_lt.mp hlt))
      rw [nI_toInt hj]
      have : ¬ j < 37 := fun hl => hv ⟨j, hl, rfl⟩
      omega
theorem lw_sub6 {L : Nat} (h : L ≤ 3072) : (nI L - 6).toInt = (L : Int) - 6 := by
  rcases Nat.lt_or_ge L 6 with h6 | h6
  · have : ∀ L, L < 6 → (nI L - 6).toInt = (L : Int) - 6 := by decide
    exact this L h6
  · rw [show nI L - 6 = nI (L - 6) from subI (b := 6) h6, nI_toInt (by omega)]
    omega
theorem vp_nI {k n : Nat} (h : k < n) (hn : n < 2 ^ 31) : vp_in (nI k) n := fun hc => by
  rcases hc with hc | hc
  · exact absurd hc (nI_pos (by omega))
  · rw [nI_cl (by omega)] at hc
    omega
theorem law_loop (C : Lok x (wxC z1) (wxM z2) b L xs) (hL : L ≤ 3072) (hcs : cs ≤ 600000) (hss : ss ≤ 7302250) : ∀ n k σ τ, L + 6 ≤ k + n → k ≤ 4000 → Rel σ τ → LSim x (wxC z1) (wxM z2) cs ss 18 (LV z1 z2 b (nI k)) [] σ τ := by
  intro n
  induction n with
  | zero =>
    intro k σ τ hk hk4 hR
    refine L_iload_n C 0 dL_law_18 rfl (L_aload_n C 3 dL_law_19 rfl (L_slen C dL_law_20 (L_bipush C 6 dL_law_21 (by decide) (L_isub C dL_law_23 ?_))))
    refine L_icmp_gt C 1432 dL_law_24 (by decide) (fun _ => ?_) (fun hc => ?_)
    · exact L_iconst C 1 dL_law_1432 (by decide) (L_ret C hcs hss dL_law_1433)
    · exfalso
      apply hc
      rw [Int32.lt_iff_toInt_lt, nI_toInt (by omega)]
      have := lw_sub6 hL
      omega
  | succ n ih =>
    intro k σ τ hk hk4 hR
    refine L_iload_n C 0 dL_law_18 rfl (L_aload_n C 3 dL_law_19 rfl (L_slen C dL_law_20 (L_bipush C 6 dL_law_21 (by decide) (L_isub C dL_law_23 ?_))))
    refine L_icmp_gt C 1432 dL_law_24 (by decide) (fun _ => ?_) (fun hc => ?_)
    · exact L_iconst C 1 dL_law_1432 (by decide) (L_ret C hcs hss dL_law_1433)
    · have hkL : k + 6 ≤ L := by
        rcases Nat.lt_or_ge L (k + 6) with h | h
        · exfalso
          apply hc
          rw [Int32.lt_iff_toInt_lt, nI_toInt (by omega)]
          have := lw_sub6 hL
          omega
        · exact h
      have hin : hinA (nI k) L := fun j hj => by rw [nI_add]; exact vp_nI (by omega) (by omega)
      have nx : ∀ σ' τ', Rel σ' τ' → LSim x (wxC z1) (wxM z2) cs ss 1426 (LV z1 z2 b (nI k)) [] σ' τ' := fun σ' τ' hR' => by
        refine L_iinc C 0 (LV z1 z2 b (nI (k + 6))) (nI (k + 6)) dL_law_1426 rfl (nI_add k 6) (by decide) rfl ?_
        exact L_goto C 18 dL_law_1429 (by decide) (ih (k + 6) σ' τ' (by omega) (by omega) hR')
      refine L_aload_n C 3 dL_law_27 rfl (L_iload_n C 0 dL_law_28 rfl (L_sld C (vp_nI (by omega) (by omega)) dL_law_29 (L_bipush C 63 dL_law_30 (by decide) (L_iand C dL_law_32 (L_tsw C (fun j hj _ => ?_) (nx σ τ hR))))))
      match j, hj with
      | 0, _ => exact LC_0 C hR nx hcs hss hin
      | 1, _ => exact LC_1 C hR nx hcs hss hin
      | 2, _ => exact LC_2 C hR nx hcs hss hin
      | 3, _ => exact LC_3 C hR nx hcs hss hin
      | 4, _ => exact LC_4 C hR nx hcs hss hin
      | 5, _ => exact LC_5 C hR nx hcs hss hin
      | 6, _ => exact LC_6 C hR nx hcs hss hin
      | 7, _ => exact LC_7 C hR nx hcs hss hin
      | 8, _ => exact LC_8 C hR nx hcs hss hin
      | 9, _ => exact LC_9 C hR nx hcs hss hin
      | 10, _ => exact LC_10 C hR nx hcs hss hin
      | 11, _ => exact LC_11 C hR nx hcs hss hin
      | 12, _ => exact LC_12 C hR nx hcs hss hin
      | 13, _ => exact LC_13 C hR nx hcs hss hin
      | 14, _ => exact LC_14 C hR nx hcs hss hin
      | 15, _ => exact LC_15 C hR nx hcs hss hin
      | 16, _ => exact LC_16 C hR nx hcs hss hin
      | 17, _ => exact LC_17 C hR nx hcs hss hin
      | 18, _ => exact LC_18 C hR nx hcs hss hin
      | 19, _ => exact LC_19 C hR nx hcs hss hin
      | 20, _ => exact LC_20 C hR nx hcs hss hin
      | 21, _ => exact LC_21 C hR nx hcs hss hin
      | 22, _ => exact LC_22 C hR nx hcs hss hin
      | 23, _ => exact LC_23 C hR nx hcs hss hin
      | 24, _ => exact LC_24 C hR nx hcs hss hin
      | 25, _ => exact LC_25 C hR nx hcs hss hin
      | 26, _ => exact LC_26 C hR nx hcs hss hin
      | 27, _ => exact LC_27 C hR nx hcs hss hin
      | 28, _ => exact LC_28 C hR nx hcs hss hin
      | 29, _ => exact LC_29 C hR nx hcs hss hin
      | 30, _ => exact LC_30 C hR nx hcs hss hin
      | 31, _ => exact LC_31 C hR nx hcs hss hin
      | 32, _ => exact LC_32 C hR nx hcs hss hin
      | 33, _ => exact LC_33 C hR nx hcs hss hin
      | 34, _ => exact LC_34 C hR nx hcs hss hin
      | 35, _ => exact LC_35 C hR nx hcs hss hin
      | 36, _ => exact LC_36 C hR nx hcs hss hin
      | j + 37, hj => omega
end Loop
