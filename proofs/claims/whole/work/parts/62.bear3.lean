theorem yrs (x y : Int32) (σ τ : St) : (∃ y1 y2, 1500 ≤ y1 ∧ y1 ≤ y2 ∧ y2 ≤ 1899 ∧ x = nI y1 ∧ y = nI y2 ∧ X0_areYears x y σ = some 1 ∧ X11_in x.toInt64 1500 1899 τ = some 1 ∧ X11_in y.toInt64 x.toInt64 1899 τ = some 1) ∨ (X0_areYears x y σ = some 0 ∧ (X11_in x.toInt64 1500 1899 τ = some 0 ∨ (X11_in x.toInt64 1500 1899 τ = some 1 ∧ X11_in y.toInt64 x.toInt64 1899 τ = some 0))) := by
  have i1 : X11_in x.toInt64 1500 1899 τ = some (b2 (decide ((1500 : Int32) ≤ x) && decide (x ≤ (1899 : Int32)))) := in_eq x 1500 1899 τ
  have i2 : X11_in y.toInt64 x.toInt64 1899 τ = some (b2 (decide (x ≤ y) && decide (y ≤ (1899 : Int32)))) := in_eq y x 1899 τ
  rw [i1, i2]
  have t1 : (1500 : Int32).toInt = 1500 := by decide
  have t2 : (1899 : Int32).toInt = 1899 := by decide
  unfold X0_areYears
  simp only [Int32.lt_iff_toInt_lt, Int32.le_iff_toInt_le, t1, t2]
  by_cases h : 1500 ≤ x.toInt ∧ x.toInt ≤ y.toInt ∧ y.toInt ≤ 1899
  · obtain ⟨a, b, c⟩ := h
    left
    rcases rngc x 1899 1899 (by decide) with ⟨j, hj, rfl, -⟩ | ⟨c1, -⟩ | ⟨-, -, c1, -⟩
    · rcases rngc y 1899 1899 (by decide) with ⟨k, hk, rfl, -⟩ | ⟨c1, -⟩ | ⟨-, -, c1, -⟩
      · rw [nI_toInt (by omega)] at a b
        rw [nI_toInt (by omega)] at b c
        rw [nI_toInt (show j < 2 ^ 31 by omega), nI_toInt (show k < 2 ^ 31 by omega)]
        refine ⟨j, k, by omega, by omega, hk, rfl, rfl, ?_, ?_, ?_⟩
        · rw [if_neg (by omega), if_neg (by omega), if_neg (by omega)]
        · simp [show (1500 : Int) ≤ (j : Int) by omega, show (j : Int) ≤ 1899 by omega, b2]
        · simp [show j ≤ k by omega, show (k : Int) ≤ 1899 by omega, b2]
      · have := Int32.lt_iff_toInt_lt.mp c1
        have h0 : (0 : Int32).toInt = 0 := by decide
        omega
      · have := Int32.lt_iff_toInt_lt.mp c1
        omega
    · have := Int32.lt_iff_toInt_lt.mp c1
      have h0 : (0 : Int32).toInt = 0 := by decide
      omega
    · have := Int32.lt_iff_toInt_lt.mp c1
      omega
  · right
    refine ⟨?_, ?_⟩
    · by_cases a : x.toInt < 1500
      · rw [if_pos a]
      · rw [if_neg a]
        by_cases b : y.toInt < x.toInt
        · rw [if_pos b]
        · rw [if_neg b, if_pos (by omega)]
    · by_cases a : 1500 ≤ x.toInt ∧ x.toInt ≤ 1899
      · right
        refine ⟨by simp [a.1, a.2, b2], ?_⟩
        by_cases b : x.toInt ≤ y.toInt
        · have : ¬ y.toInt ≤ 1899 := by omega
          simp [b, this, b2]
        · simp [b, b2]
      · left
        by_cases b : 1500 ≤ x.toInt
        · have : ¬ x.toInt ≤ 1899 := by omega
          simp [b, this, b2]
        · simp [b, b2]
theorem n10 : ¬ (1 : Int32) = 0 := by decide
section Bear3
variable {σ τ : St}
theorem MB.frN {τ' : St} {B : DB} (h : MB τ B) (e : FrN τ τ') : MB τ' B := by
  unfold MB
  rw [e.1 0 (by omega), e.1 29 (by omega), e.1 30 (by omega), e.1 31 (by omega), e.2.1]
  exact h
theorem maxI (D v : Int32) (k : Int32 → Option (Int32 × St)) : (if D ≤ v then k v else k D) = k (if D < v then v else D) := by
  by_cases h : D < v
  · rw [if_pos (Int32.le_of_lt h), if_pos h]
  · rw [if_neg h]
    by_cases h2 : D ≤ v
    · have : D = v := Int32.le_antisymm h2 (Int32.not_lt.mp h)
      rw [if_pos h2, this]
    · rw [if_neg h2]
theorem eq_bearers (h : Rel σ τ) (x y z u v : Int32) : Eq2 (pu (X10_bearers x y z u v σ) σ) (X11_bearers x y z u v τ) := by
  have h0 := h
  obtain ⟨A, hC, hM, hW⟩ := h
  obtain ⟨hP, hB, hL, hR, hZ, hS, hT, hWd, r, hQ, hU⟩ := hC
  obtain ⟨mP, mB, mL, mR, mZ, mS, mT, mWd, mU, mK⟩ := hM
  obtain ⟨w1, w2, w3, w4, w5, w6, w7, w8, w9, w10⟩ := hW
  have hn := w8.1
  have hnp := w1.1
  have hc : X10_bearers x y z u v σ = X10_bearers_B16 σ x y z u v (b2 (decide (0 ≤ v) && decide (v ≤ 2))) := by
    unfold X10_bearers
    rcases rngc v 2 2 (by decide) with ⟨j, hj, rfl, c1, c2, c3, c4⟩ | ⟨c1, c2⟩ | ⟨c1, c2, c3, c4⟩
    · rw [if_neg c1, if_neg c3]
      simp only [c2, c4, decide_true, Bool.and_self, b2_t]
    · rw [if_pos c1]
      simp only [c2, decide_false, Bool.false_and, b2_f]
    · rw [if_neg c1, if_pos c3]
      simp only [c4, decide_false, Bool.and_false, b2_f]
  rw [hc]
  unfold X11_bearers X10_bearers_B16
  rcases ixc x (aW A).1 (by omega) with ⟨s, hs, rfl⟩ | hx
  · rw [c_word_in hWd.1 hn hs, m_word_in mWd.1 hn hs, Option.bind_some, Option.bind_some, if_neg n10, if_neg n10]
    rcases ixc y (aP A).1 (by omega) with ⟨p, hp, rfl⟩ | hy
    · rw [c_place_in hP.1 hnp hp, m_place_in mP.1 hnp hp, Option.bind_some, Option.bind_some, if_neg n10, if_neg n10]
      rcases yrs z u σ τ with ⟨y1, y2, a1, a2, a3, rfl, rfl, e1, e2, e3⟩ | ⟨e1, e2⟩
      · rw [e1, e2, e3, Option.bind_some, Option.bind_some, Option.bind_some, if_neg n10, if_neg n10, if_neg n10, show (0 : Int64) = (0 : Int32).toInt64 from rfl, show (2 : Int64) = (2 : Int32).toInt64 from rfl, in_eq v 0 2 τ, Option.bind_some]
        rcases rngc v 2 2 (by decide) with ⟨j, hj, rfl, c1, c2, c3, c4⟩ | ⟨c1, c2⟩ | ⟨c1, c2, c3, c4⟩
        · simp only [c2, c4, decide_true, Bool.and_self, b2_t, one0, if_false]
          obtain ⟨τ', f1, f2, f3, f4, f5⟩ := m_layNames mU w9 mWd w8 w10
          have hrel := h0.fr ScC.rf f2.sc
          rw [f1, Option.bind_some, m_bearL (mB.frN f2) w2 hnp (mL.fr f2) w3 w8 f5 w10 hs (by omega) (by omega) a3, m_bearB (mB.frN f2) w2 hnp (by omega) (by omega) a3, maxI _ _ (fun q => X11_bearers_B287 (nI j) _ _ q τ'), c_rdYears hB w2 hnp (by omega) (by omega) a3, Option.bind_some, chk_nI (by omega) (by decide), nI_cl (by omega), hWd.2.2.2.2.2.2.2 s hs, c_worth hB w2 hnp hL w3 hWd w8 w10 hs (by omega) (by omega) a3, Option.bind_some]
          have hsum := sum_le (g := rdF (aB A) p y1 y2) (b := 2000) (aB A).1 (fun k _ => iv_le _ _ _)
          have hb8 := w2.1
          generalize sumTo (rdF (aB A) p y1 y2) (aB A).1 = V at *
          generalize sumTo (wrF (aL A) (aB A) (aN A) s p y1 y2) (aL A).1 = Q at *
          unfold J9_max_7cf53 X11_bearers_B287
          rw [Option.bind_some]
          have hV : V ≤ 16000 := by
            have : (aB A).1 * 2000 ≤ 8 * 2000 := Nat.mul_le_mul_right _ hb8
            omega
          rcases (by omega : j = 0 ∨ j = 1 ∨ j = 2) with rfl | rfl | rfl
          · rw [if_neg (show ¬ nI 0 = 2 by decide), if_pos (show nI 0 = 0 from rfl), if_pos (show nI 0 = 0 from rfl)]
            exact Eq2.pt rfl rfl hrel
          · rw [if_neg (show ¬ nI 1 = 2 by decide), if_neg (show ¬ nI 1 = 0 by decide), if_neg (show ¬ nI 1 = 0 by decide), if_neg (show ¬ nI 1 = 2 by decide)]
            by_cases hv : V = 0
            · subst hv
              rw [if_pos (show nI 0 = 0 from rfl), if_pos (show nI 0 = 0 from rfl)]
              exact Eq2.pt rfl rfl hrel
            · have hv0 : ¬ nI V = 0 := by rw [eqI0 (by omega)]; exact hv
              unfold X10_divideUp chkz
              have e2v : (2 : Int32) * nI V = nI (2 * V) := pk_mul 2 V
              have hp2 : (0 : Int32) < 2 * nI V := by
                rw [e2v, show (0 : Int32) = nI 0 from rfl, ltI (by omega) (by omega)]
                omega
              have hz2 : ¬ (2 : Int32) * nI V = 0 := by rw [e2v, eqI0 (by omega)]; omega
              rw [if_neg hv0, if_neg hv0, if_pos hp2, if_neg hz2, if_neg hz2]
              exact Eq2.pt rfl rfl hrel
          · rw [if_pos (show nI 2 = 2 from rfl), if_neg (show ¬ nI 2 = 0 by decide), if_pos (show nI 2 = 2 from rfl)]
            exact Eq2.pt rfl rfl hrel
        · simp only [c2, decide_false, Bool.false_and, b2_f, if_true]
          exact Eq2.pt rfl rfl h0
        · simp only [c4, decide_false, Bool.and_false, b2_f, if_true]
          exact Eq2.pt rfl rfl h0
      · rw [e1, Option.bind_some, if_pos rfl]
        rcases e2 with e2 | ⟨e2, e3⟩
        · rw [e2, Option.bind_some, if_pos rfl]
          exact Eq2.pt rfl rfl h0
        · rw [e2, Option.bind_some, if_neg n10, e3, Option.bind_some, if_pos rfl]
          exact Eq2.pt rfl rfl h0
    · rw [c_place_out hP.1 hy, m_place_out mP.1 hnp hy, Option.bind_some, Option.bind_some, if_pos rfl, if_pos rfl]
      exact Eq2.pt rfl rfl h0
  · rw [c_word_out hWd.1 hx, m_word_out mWd.1 hn hx, Option.bind_some, Option.bind_some, if_pos rfl, if_pos rfl]
    exact Eq2.pt rfl rfl h0
end Bear3
