/-! dies: both -/
section Dies2
variable {σ τ : St}
def FrX (σ σ' : St) : Prop := gI σ' = gI σ ∧ (∀ q, q ≠ 49 → gJ σ' q = gJ σ q) ∧ gR σ' = gR σ
theorem FrX.sc {σ σ' : St} (h : FrX σ σ') : ScC σ σ' := ⟨fun q _ _ _ _ => by rw [h.1], h.2.1, by rw [h.2.2], by rw [h.2.2]⟩
theorem ScC.tr2 {σ σ' σ'' : St} (h : ScC σ σ') (h' : ScC σ' σ'') : ScC σ σ'' := ⟨fun q a b c d => (h'.1 q a b c d).trans (h.1 q a b c d), fun q a => (h'.2.1 q a).trans (h.2.1 q a), h'.2.2.1.trans h.2.2.1, h'.2.2.2.trans h.2.2.2⟩
theorem FrX.sJ {σ σ' : St} {j : Nat} {v : Int64} (h : FrX σ σ') : FrX σ (sJ σ' 49 j v) := ⟨h.1, fun q hq => (gJ_sJn hq).trans (h.2.1 q hq), h.2.2⟩
theorem c_follow3 {r : Nat} {w : Nat → Nat} (hw : ∀ k, k < 4 → gI σ (6 + r) (4 + k) = nI (w k) ∧ w k ≤ 9) (hW : gW w ≤ 9) (hW1 : 1 ≤ gW w) {t : Nat} (ht : t ≤ 3) : ∀ d n g σ1 G a b, g + d = t → d < n → FrX σ σ1 → gJ σ1 49 0 = lN a → gJ σ1 49 1 = lN b → 0 < G → (uNM w g).1 = G * a → (uNM w g).2 = G * b → Nat.gcd a b = 1 → ∃ σ' G' a' b', X2_follow_L12 r n (nI t) (nI g) σ1 = some σ' ∧ FrX σ σ' ∧ gJ σ' 49 0 = lN a' ∧ gJ σ' 49 1 = lN b' ∧ 0 < G' ∧ (uNM w t).1 = G' * a' ∧ (uNM w t).2 = G' * b' ∧ Nat.gcd a' b' = 1 := by
  intro d
  induction d with
  | zero =>
    intro n g σ1 G a b hg hn f1 f2 f3 f4 f5 f6 f7
    obtain ⟨n, rfl⟩ : ∃ q, n = q + 1 := ⟨n - 1, by omega⟩
    have : g = t := by omega
    subst this
    exact ⟨σ1, G, a, b, by rw [X2_follow_L12, if_pos (nI_le (Nat.le_refl _) (by omega))], f1, f2, f3, f4, f5, f6, f7⟩
  | succ d ih =>
    intro n g σ1 G a b hg hn f1 f2 f3 f4 f5 f6 f7
    obtain ⟨n, rfl⟩ : ∃ q, n = q + 1 := ⟨n - 1, by omega⟩
    obtain ⟨g1, g2, g3, g4, G', g5, g6, g7, g8, g9, g10⟩ := gen_red hW hW1 f4 f5 f6
    have hD := uD_lt (g + 1) (by omega)
    have hgl : Nat.gcd (gS w a b) (gW w * b ^ 3) ≤ gW w * b ^ 3 := Nat.gcd_le_right _ (Nat.mul_pos hW1 (Nat.pow_pos g1))
    have hc := c_gen (σ := σ1) (r := r) (w := w) (fun k hk => by rw [f1.1]; exact hw k hk) f2 f3 (by omega) (by omega) g4 (by omega)
    rw [X2_follow_L12, if_neg (nI_ge (by omega) (by omega)), hc, Option.bind_some, nI_1]
    refine ih n (g + 1) _ G' _ _ (by omega) (by omega) (f1.sJ.sJ) ?_ ?_ g5 g6 g7 g8
    · rw [gJ_sJ, if_neg (by decide), gJ_sJ, if_pos ⟨rfl, rfl⟩]
    · rw [gJ_sJ, if_pos ⟨rfl, rfl⟩]
theorem m_dies3 {w : Nat → Nat} (hw : ∀ k, k < 4 → gI τ 7 (4 + k) = nI (w k) ∧ w k ≤ 9) (hW : gW w ≤ 9) (hW1 : 1 ≤ gW w) {t : Nat} (ht : t ≤ 3) (x2 : Int32) {G a b : Nat} (hG : 0 < G) (hN : (uNM w t).1 = G * a) (hM : (uNM w t).2 = G * b) (hc : Nat.gcd a b = 1) : ∀ d n g, g + d = t → d < n → X11_dies_L72 τ n (nI t) x2 (lN (gW w)) (lN (uNM w g).1) (lN (uNM w g).2) (nI g) = some (if x2 = 0 then lN a else lN b) := by
  intro d
  induction d with
  | zero =>
    intro n g hg hn
    obtain ⟨n, rfl⟩ : ∃ q, n = q + 1 := ⟨n - 1, by omega⟩
    have : g = t := by omega
    subst this
    obtain ⟨i1, i2, i3⟩ := uNM_le hW hW1 g
    have hD := uD_lt g ht
    have hgc : Nat.gcd (uNM w g).1 (uNM w g).2 = G := by rw [hN, hM, Nat.gcd_mul_left, hc, Nat.mul_one]
    have hGl : G < 2 ^ 63 := by
      have : Nat.gcd (uNM w g).1 (uNM w g).2 ≤ (uNM w g).2 := Nat.gcd_le_right _ (by omega)
      omega
    have hgm := m_gcd (τ := τ) x2 (lN (uNM w g).1) (lN (uNM w g).2) 42 (uNM w g).1 (uNM w g).2 FU (by omega) (by omega) (by decide) (by decide) (by omega) (by omega)
    rw [X11_dies_L72, if_pos (nI_le (Nat.le_refl _) (by omega)), hgm, hgc, pk_lDiv (by omega) hG hGl, pk_lDiv (by omega) hG hGl, hN, hM, Nat.mul_div_cancel_left _ hG, Nat.mul_div_cancel_left _ hG]
  | succ d ih =>
    intro n g hg hn
    obtain ⟨n, rfl⟩ : ∃ q, n = q + 1 := ⟨n - 1, by omega⟩
    obtain ⟨a0, b0⟩ := hw 0 (by decide)
    obtain ⟨a1, b1⟩ := hw 1 (by decide)
    obtain ⟨a2, b2'⟩ := hw 2 (by decide)
    obtain ⟨a3, b3⟩ := hw 3 (by decide)
    rw [X11_dies_L72, if_neg (nI_ge (by omega) (by omega)), show gI τ 7 4 = nI (w 0) from a0, show gI τ 7 5 = nI (w 1) from a1, show gI τ 7 6 = nI (w 2) from a2, show gI τ 7 7 = nI (w 3) from a3, nI_l (show w 0 < 2 ^ 31 by omega), nI_l (show w 1 < 2 ^ 31 by omega), nI_l (show w 2 < 2 ^ 31 by omega), nI_l (show w 3 < 2 ^ 31 by omega)]
    simp only [lN_mul, lN_add, bnd, nI_1]
    have e1 : w 0 * (uNM w g).2 * (uNM w g).2 * (uNM w g).2 + w 1 * (uNM w g).1 * (uNM w g).2 * (uNM w g).2 + w 2 * (uNM w g).1 * (uNM w g).1 * (uNM w g).2 + w 3 * (uNM w g).1 * (uNM w g).1 * (uNM w g).1 = (uNM w (g + 1)).1 := by
      show _ = gS w (uNM w g).1 (uNM w g).2
      unfold gS
      simp only [Nat.pow_succ, Nat.pow_zero, Nat.one_mul, Nat.mul_one, ← Nat.mul_assoc]
    have e2 : gW w * (uNM w g).2 * (uNM w g).2 * (uNM w g).2 = (uNM w (g + 1)).2 := by
      show _ = gW w * (uNM w g).2 ^ 3
      simp only [Nat.pow_succ, Nat.pow_zero, Nat.one_mul, ← Nat.mul_assoc]
    rw [e1, e2]
    exact ih n (g + 1) (by omega) (by omega)
theorem eq_dies (h : Rel σ τ) (x y : Int32) : Eq2L (X10_dies x y σ) (pu (X11_dies x y τ) τ) := by
  have hA := h
  have h0 := h
  obtain ⟨A, hC, hM, hW⟩ := h
  obtain ⟨hP, hB, hL, hR, hZ, hS, hT, hWd, r, hQ, hU⟩ := hC
  obtain ⟨mP, mB, mL, mR, mZ, mS, mT, mWd, mU, mK⟩ := hM
  obtain ⟨w1, w2, w3, w4, w5, w6, w7, w8, w9, w10⟩ := hW
  have hin := in_eq x 1 3 τ
  have hin2 := in_eq y 0 1 τ
  have hw9 : (fun k => uN (aU A) (4 + k)) 0 + (fun k => uN (aU A) (4 + k)) 1 + (fun k => uN (aU A) (4 + k)) 2 + (fun k => uN (aU A) (4 + k)) 3 ≤ 9 := w9.2.2.2.2.2.2.2.2
  have hw1 : 1 ≤ (fun k => uN (aU A) (4 + k)) 0 + (fun k => uN (aU A) (4 + k)) 1 + (fun k => uN (aU A) (4 + k)) 2 + (fun k => uN (aU A) (4 + k)) 3 := w9.2.2.2.2.2.2.2.1
  obtain ⟨w, ew⟩ : ∃ w : Nat → Nat, w = fun k => uN (aU A) (4 + k) := ⟨_, rfl⟩
  rw [← ew] at hw9 hw1
  have hW : gW w ≤ 9 := hw9
  have hW1 : 1 ≤ gW w := hw1
  have hk9 : ∀ k, k < 4 → w k ≤ 9 := fun k hk => by
    rcases (by omega : k = 0 ∨ k = 1 ∨ k = 2 ∨ k = 3) with rfl | rfl | rfl | rfl <;> omega
  have same : Eq2L (some (-1, σ)) (pu (some (-1)) τ) := ⟨-1, σ, τ, rfl, rfl, h0⟩
  unfold X10_dies X11_dies
  rw [show (1 : Int64) = (1 : Int32).toInt64 from rfl, show (3 : Int64) = (3 : Int32).toInt64 from rfl, show (0 : Int64) = (0 : Int32).toInt64 from rfl, hin, hin2, Option.bind_some, Option.bind_some]
  rcases rngc x 3 3 (by decide) with ⟨j, hj, rfl, c1, c2, c3, c4⟩ | ⟨c1, c2⟩ | ⟨c1, c2, c3, c4⟩
  · by_cases hj0 : j = 0
    · subst hj0
      rw [if_pos (by decide), if_pos (by decide)]
      exact same
    · have x1 : ¬ nI j < (1 : Int32) := by
        rw [show (1 : Int32) = nI 1 from rfl, ltI (by omega) (by decide)]
        omega
      have x2 : (1 : Int32) ≤ nI j := Int32.not_lt.mp x1
      rw [if_neg x1, if_neg c3]
      simp only [x2, c4, decide_true, Bool.and_self, b2_t, one0, if_false]
      rcases rngc y 1 1 (by decide) with ⟨i, hi, rfl, d1, d2, d3, d4⟩ | ⟨d1, d2⟩ | ⟨d1, d2, d3, d4⟩
      · simp only [d1, d2, d4, if_true, if_false, decide_true, Bool.and_self, b2_t, one0]
        have hcw : ∀ k, k < 4 → gI σ (6 + r) (4 + k) = nI (w k) ∧ w k ≤ 9 := fun k hk => ⟨by rw [ew]; exact hU.2.2.1 (4 + k) (by omega), hk9 k hk⟩
        have hmw : ∀ k, k < 4 → gI τ 7 (4 + k) = nI (w k) ∧ w k ≤ 9 := fun k hk => ⟨by rw [ew]; exact mU.2.2.1 (4 + k) (by omega), hk9 k hk⟩
        have hcw' : ∀ k, k < 4 → gI (sJ (sJ σ 49 0 0) 49 1 1) (6 + r) (4 + k) = nI (w k) ∧ w k ≤ 9 := hcw
        obtain ⟨σ', G, a, b, k1, k2, k3, k4, k5, k6, k7, k8⟩ := c_follow3 (σ := sJ (sJ σ 49 0 0) 49 1 1) (r := r) (w := w) hcw' hW hW1 (t := j) hj j FU 0 (sJ (sJ σ 49 0 0) 49 1 1) 1 0 1 (by omega) (by show _ < 1000000; omega) ⟨rfl, fun _ _ => rfl, rfl⟩ rfl rfl (by decide) rfl rfl rfl
        have hm := m_dies3 (τ := τ) hmw hW hW1 hj (nI i) k5 k6 k7 k8 (j - 1) FU 1 (by omega) (by show _ < 1000000; omega)
        have e1 : (uNM w 1).1 = w 0 := by
          show gS w 0 1 = w 0
          unfold gS
          simp
        have e2 : (uNM w 1).2 = gW w := by
          show gW w * 1 ^ 3 = gW w
          simp
        have f0 : (gI τ 7 4).toInt64 = lN (w 0) := by
          rw [show gI τ 7 4 = nI (w 0) from (hmw 0 (by decide)).1]
          exact nI_l (by have := hk9 0 (by decide); omega)
        have fW : (gI τ 7 4 + gI τ 7 5 + gI τ 7 6 + gI τ 7 7).toInt64 = lN (gW w) := by
          rw [show gI τ 7 4 = nI (w 0) from (hmw 0 (by decide)).1, show gI τ 7 5 = nI (w 1) from (hmw 1 (by decide)).1, show gI τ 7 6 = nI (w 2) from (hmw 2 (by decide)).1, show gI τ 7 7 = nI (w 3) from (hmw 3 (by decide)).1, nI_add, nI_add, nI_add]
          exact nI_l (by show gW w < 2 ^ 31; omega)
        rw [e1, e2] at hm
        rw [fW, f0, bnd, bnd, show (1 : Int32) = nI 1 from rfl, hm, hQ.2.1, chkN_lt hQ.1]
        unfold X2_follow
        rw [bnd, bnd, show (0 : Int32) = nI 0 from rfl, k1, Option.bind_some]
        have hR : Rel σ' τ := hA.fr (ScC.tr2 (show ScC σ (sJ (sJ σ 49 0 0) 49 1 1) from FrX.sc (FrX.sJ (FrX.sJ ⟨rfl, fun _ _ => rfl, rfl⟩))) k2.sc) ScM.rf
        rcases (by omega : i = 0 ∨ i = 1) with rfl | rfl
        · rw [if_pos rfl, if_pos rfl, k3]
          exact ⟨_, _, _, rfl, rfl, hR⟩
        · rw [if_neg (by decide), if_neg (by decide), k4]
          exact ⟨_, _, _, rfl, rfl, hR⟩
      · simp only [d1, d2, if_true, if_false, decide_false, Bool.false_and, b2_f]
        exact same
      · simp only [d1, d2, d4, if_true, if_false, decide_true, decide_false, Bool.and_false, b2_f]
        exact same
  · have x1 : x < (1 : Int32) := by
      have h1 := Int32.lt_iff_toInt_lt.mp c1
      apply Int32.lt_iff_toInt_lt.mpr
      have : (0 : Int32).toInt = 0 := by decide
      have : (1 : Int32).toInt = 1 := by decide
      omega
    have x2 : ¬ (1 : Int32) ≤ x := by rw [Int32.not_le]; exact x1
    rw [if_pos x1]
    simp only [x2, decide_false, Bool.false_and, b2_f, if_true]
    exact same
  · have x1 : ¬ x < (1 : Int32) := fun hx => by
      have h1 := Int32.lt_iff_toInt_lt.mp hx
      have h2 := Int32.lt_iff_toInt_lt.mp c3
      have : (3 : Int32).toInt = 3 := by decide
      have : (1 : Int32).toInt = 1 := by decide
      omega
    rw [if_neg x1, if_pos c3]
    simp only [c4, decide_false, Bool.and_false, b2_f, if_true]
    exact same
end Dies2
