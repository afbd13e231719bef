/-! what a change of one sound costs; how far two rows of sounds are apart -/
section Cost
variable {σ τ : St} {U : DU} {r : Nat}
theorem fnd_le (wU : WU U) {a b c : Nat} (h : fnd U a b = some c) : c ≤ 20 := by
  unfold fnd at h
  rw [Option.map_eq_some_iff] at h
  obtain ⟨k, hk, rfl⟩ := h
  have hm := List.mem_of_find?_eq_some hk
  exact (wU.2.2.2.2.1 k (List.mem_range.mp hm)).2.2.2.2.2
theorem cst_le (wU : WU U) (a b : Nat) : cst U a b ≤ 20 := by
  unfold cst
  split
  · omega
  · cases h : fnd U a b with
    | none => exact wU.2.2.2.2.2.1 1 (by decide)
    | some c => exact fnd_le wU h
theorem fnd_sym (U : DU) (a b : Nat) : fnd U a b = fnd U b a := by
  unfold fnd
  congr 2
  funext k
  exact Bool.or_comm _ _
theorem cst_sym (U : DU) (a b : Nat) : cst U a b = cst U b a := by
  unfold cst
  rw [fnd_sym U a b]
  by_cases h : a = b
  · rw [if_pos h, if_pos h.symm]
  · rw [if_neg h, if_neg (fun e => h e.symm)]
theorem mul27 (a b : Nat) : nI a * 27 + nI b = nI (27 * a + b) := by rw [Int32.mul_comm, show (27 : Int32) * nI a = nI (27 * a) from pk_mul 27 a, nI_add]
theorem c_swap (hU : CU σ r U) (wU : WU U) {a b : Nat} (ha : a < 27) (hb : b < 27) : X5_swapCost r (nI a) (nI b) σ = some (nI (cst U a b)) := by
  unfold X5_swapCost X5_isLike cst
  simp only [eqI (show a < 2 ^ 31 by omega) (show b < 2 ^ 31 by omega)]
  by_cases e : a = b
  · rw [if_pos e, if_pos e]; rfl
  · rw [if_neg e, if_neg e, mul27, chk_nI (by omega) (by decide), nI_cl (by omega), hU.2.2.2.2 a b ha hb]
    cases hf : fnd U a b with
    | none =>
      have := hU.2.2.1 1 (by decide)
      simp [oC, this]
    | some c =>
      have := fnd_le wU hf
      have hc : (nI c = (-1)) = False := neI1 (by omega)
      have h0 : (nI c < 0) = False := ltI0 (by omega)
      simp [oC, hc, h0, chk_nI (show 27 * a + b < 729 by omega) (by decide)]
theorem m_changed (mU : MU τ U) (wU : WU U) {a b : Nat} (ha : a < 27) (hb : b < 27) : X11_changed (nI a) (nI b) τ = some (nI (cst U a b)) := by
  unfold X11_changed cst
  simp only [eqI (show a < 2 ^ 31 by omega) (show b < 2 ^ 31 by omega)]
  by_cases e : a = b
  · rw [if_pos e, if_pos e]; rfl
  · rw [if_neg e, if_neg e]
    have hk := wU.2.2.2.1
    have key : ∀ d k m, k + d = uK U → d < m → X11_changed_L9 τ m (nI a) (nI b) (nI k) = some (nI ((((List.range' k d).find? fun k => (uA U k == a && uB U k == b) || (uA U k == b && uB U k == a)).map (uC U)).getD (uN U 1))) := by
      intro d
      induction d with
      | zero =>
        intro k m hkd hm
        obtain ⟨m, rfl⟩ : ∃ q, m = q + 1 := ⟨m - 1, by omega⟩
        have : k = uK U := by omega
        subst this
        rw [X11_changed_L9, mU.2.1, if_pos (nI_le (Nat.le_refl _) (by omega)), mU.2.2.1 1 (by decide)]
        rfl
      | succ d ih =>
        intro k m hkd hm
        obtain ⟨m, rfl⟩ : ∃ q, m = q + 1 := ⟨m - 1, by omega⟩
        have hlt : k < uK U := by omega
        obtain ⟨q1, q2, q3⟩ := mU.2.2.2.2.2 k hlt
        obtain ⟨p1, p2, p3, p4, p5, p6⟩ := wU.2.2.2.2.1 k hlt
        rw [X11_changed_L9, mU.2.1, if_neg (nI_ge hlt (by omega)), chk_nI (by omega) (by decide), nI_cl (by omega), chk_nI (by omega) (by decide), chk_nI (by omega) (by decide), q1, q2, q3]
        unfold X11_changed_B37
        rw [chk_nI (by omega) (by decide), nI_cl (by omega), chk_nI (by omega) (by decide), chk_nI (by omega) (by decide), q1, q2, q3, nI_1, ih (k + 1) m (by omega) (by omega)]
        simp only [eqI (show uA U k < 2 ^ 31 by omega) (show a < 2 ^ 31 by omega), eqI (show uA U k < 2 ^ 31 by omega) (show b < 2 ^ 31 by omega), eqI (show uB U k < 2 ^ 31 by omega) (show a < 2 ^ 31 by omega), eqI (show uB U k < 2 ^ 31 by omega) (show b < 2 ^ 31 by omega), List.range'_succ, List.find?_cons]
        have e' : ¬ b = a := fun h => e h.symm
        have hbq : ∀ x y : Nat, (x == y) = decide (x = y) := fun x y => by by_cases h : x = y <;> simp [h]
        rw [hbq (uA U k) a, hbq (uB U k) b, hbq (uA U k) b, hbq (uB U k) a]
        by_cases h1 : uA U k = a <;> by_cases h2 : uB U k = b <;> by_cases h3 : uA U k = b <;> by_cases h4 : uB U k = a <;> first | (exfalso; omega) | skip <;> simp only [h1, h2, h3, h4, decide_true, decide_false, Bool.and_self, Bool.and_false, Bool.false_and, Bool.and_true, Bool.or_self, Bool.or_false, Bool.false_or, Bool.or_true, Bool.true_or, if_true, if_false, e, e'] <;> rfl
    have := key (uK U) 0 FU (by omega) (by show _ < 1000000; omega)
    rw [← List.range_eq_range'] at this
    exact this
end Cost
section Edit
variable (c : Nat → Nat → Nat) (dr : Nat) (a b : Nat → Nat)
theorem edR_0 (j : Nat) : edR c dr a b 0 j = dr * j := rfl
theorem edR_s0 (i : Nat) : edR c dr a b (i + 1) 0 = dr * (i + 1) := rfl
theorem edR_ss (i j : Nat) : edR c dr a b (i + 1) (j + 1) = min (edR c dr a b i j + c (a i) (b j)) (dr + min (edR c dr a b i (j + 1)) (edR c dr a b (i + 1) j)) := rfl
theorem edR_i0 : ∀ i, edR c dr a b i 0 = dr * i
  | 0 => rfl
  | _ + 1 => rfl
theorem edR_le : ∀ i j, edR c dr a b i j ≤ dr * (i + j)
  | 0, j => by rw [edR_0, Nat.zero_add]; exact Nat.le_refl _
  | i + 1, 0 => by rw [edR_s0]; exact Nat.le_refl _
  | i + 1, j + 1 => by
    have h := edR_le (i + 1) j
    rw [edR_ss]
    have e : dr * (i + 1 + (j + 1)) = dr + dr * (i + 1 + j) := by rw [show i + 1 + (j + 1) = (i + 1 + j) + 1 by omega, Nat.mul_add, Nat.mul_one, Nat.add_comm]
    rw [e]
    have h1 : min (edR c dr a b i (j + 1)) (edR c dr a b (i + 1) j) ≤ edR c dr a b (i + 1) j := Nat.min_le_right _ _
    exact Nat.le_trans (Nat.min_le_right _ _) (by omega)
theorem edR_sym (hc : ∀ x y, c x y = c y x) : ∀ i j, edR c dr a b i j = edR c dr b a j i
  | 0, j => by rw [edR_0, edR_i0]
  | i + 1, 0 => by rw [edR_s0, edR_0]
  | i + 1, j + 1 => by
    rw [edR_ss, edR_ss, edR_sym hc i j, edR_sym hc i (j + 1), edR_sym hc (i + 1) j, hc (a i) (b j), Nat.min_comm (edR c dr b a (j + 1) i)]
end Edit
theorem apl_sym (U : DU) (x y : List Nat) : apl U x y = apl U y x := edR_sym _ _ _ _ (cst_sym U) _ _
theorem ap_sym (U : DU) (W : DW) (s t : Nat) : ap U W s t = ap U W t s := by
  unfold ap
  by_cases h : s = t
  · rw [if_pos h, if_pos h.symm]
  · rw [if_neg h, if_neg (fun e => h e.symm), apl_sym]
theorem jn_sym (U : DU) (W : DW) (s t : Nat) : jn U W s t = jn U W t s := by unfold jn; rw [ap_sym]
theorem apl_le {U : DU} (wU : WU U) (x y : List Nat) : apl U x y ≤ 20 * (x.length + y.length) := Nat.le_trans (edR_le _ _ _ _ _ _) (Nat.mul_le_mul_right _ (wU.2.2.2.2.2.1 0 (by decide)))
