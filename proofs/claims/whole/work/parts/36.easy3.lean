/-! book, father, known, again, line -/
def isH (h : Int64) (i : Int32) : Bool := decide (((h >>> (i.toInt64 &&& 63)) &&& 1) = 1)
section Easy3
variable {σ τ : St} {B : DB} {ns : Nat} {L : DL} {R : DR}
theorem c_isHole (hB : CB σ B) (w : B.1 ≤ 8) {b : Nat} (hb : b < B.1) (y : Int32) : X0_isHole (nI b) y σ = some (b2 (isH (B.2.2.2.2 b) (y - nI (B.2.2.1 b)))) := by
  unfold X0_isHole
  rw [chk_nI (by omega) (by decide), chk_nI (by omega) (by decide), nI_cl (by omega), hB.2.2.1 b hb, hB.2.2.2.2.1 b hb]
  unfold isH b2
  by_cases c : ((B.2.2.2.2 b >>> ((y - nI (B.2.2.1 b)).toInt64 &&& 63)) &&& 1) = 1
  · simp [c]
  · simp [c]
theorem m_isHole (hB : MB τ B) (w : B.1 ≤ 8) {b : Nat} (hb : b < B.1) (y : Int32) : X11_isHole (nI b) y τ = some (b2 (isH (B.2.2.2.2 b) (y - nI (B.2.2.1 b)))) := by
  unfold X11_isHole
  rw [chk_nI (by omega) (by decide), chk_nI (by omega) (by decide), nI_cl (by omega), hB.2.2.1 b hb, hB.2.2.2.2 b hb]
  unfold isH b2
  by_cases c : ((B.2.2.2.2 b >>> ((y - nI (B.2.2.1 b)).toInt64 &&& 63)) &&& 1) = 1
  · simp [c]
  · simp [c]
theorem c_hasYear (hB : CB σ B) (w : B.1 ≤ 8) {b : Nat} (hb : b < B.1) (y : Int32) : X0_hasYear (nI b) y σ = some (b2 (decide (nI (B.2.2.1 b) ≤ y) && decide (y ≤ nI (B.2.2.2.1 b)))) := by
  unfold X0_hasYear
  rw [chk_nI (by omega) (by decide), chk_nI (by omega) (by decide), nI_cl (by omega), hB.2.2.1 b hb, hB.2.2.2.1 b hb]
  by_cases c1 : y < nI (B.2.2.1 b)
  · have : ¬ nI (B.2.2.1 b) ≤ y := by rw [Int32.not_le]; exact c1
    simp [c1, this, b2]
  · have d1 : nI (B.2.2.1 b) ≤ y := Int32.not_lt.mp c1
    by_cases c2 : nI (B.2.2.2.1 b) < y
    · have : ¬ y ≤ nI (B.2.2.2.1 b) := by rw [Int32.not_le]; exact c2
      simp [c1, c2, this, b2]
    · have d2 : y ≤ nI (B.2.2.2.1 b) := Int32.not_lt.mp c2
      simp [c1, c2, d1, d2, b2]
theorem eq_book (h : Rel σ τ) (x y z : Int32) : Eq2 (X10_book x y z σ) (X11_book x y z τ) := by
  have h0 := h
  obtain ⟨A, hC, hM, hW⟩ := h
  obtain ⟨hP, hB, hL, hR, hZ, hS, hT, hWd, r, hQ, hU⟩ := hC
  obtain ⟨mP, mB, mL, mR, mZ, mS, mT, mWd, mU, mK⟩ := hM
  obtain ⟨w1, w2, w3, w4, w5, w6, w7, w8, w9, w10⟩ := hW
  have wP : (aP A).1 ≤ 8 := w1.1
  have wB : (aB A).1 ≤ 8 := w2.1
  unfold X10_book X11_book
  rcases ixc x (aP A).1 (by omega) with ⟨p, hp, rfl⟩ | hx
  · rw [c_place_in hP.1 wP hp, m_place_in mP.1 wP hp]
    have hin := in_eq y 1500 1899 τ
    have hin2 := in_eq z y 1899 τ
    rw [show (1500 : Int64) = (1500 : Int32).toInt64 from rfl, show (1899 : Int64) = (1899 : Int32).toInt64 from rfl, hin, hin2]
    simp only [Option.bind_some, one0, if_false, X0_areYears]
    by_cases c1 : y < 1500
    · have n1 : ¬ (1500 : Int32) ≤ y := by rw [Int32.not_le]; exact c1
      simp only [c1, n1, if_true, if_false, decide_true, decide_false, Bool.and_self, Bool.and_false, Bool.false_and, Bool.and_true, Bool.true_and, b2_t, b2_f, Option.bind_some, one0]
      exact Eq2.same h0 _
    · have d1 : (1500 : Int32) ≤ y := Int32.not_lt.mp c1
      by_cases c2 : z < y
      · have n2 : ¬ y ≤ z := by rw [Int32.not_le]; exact c2
        by_cases c4 : y ≤ 1899
        · simp only [c1, d1, c2, n2, c4, if_true, if_false, decide_true, decide_false, Bool.and_self, Bool.and_false, Bool.false_and, Bool.and_true, Bool.true_and, b2_t, b2_f, Option.bind_some, one0]
          exact Eq2.same h0 _
        · simp only [c1, d1, c2, n2, c4, if_true, if_false, decide_true, decide_false, Bool.and_self, Bool.and_false, Bool.false_and, Bool.and_true, Bool.true_and, b2_t, b2_f, Option.bind_some, one0]
          exact Eq2.same h0 _
      · have d2 : y ≤ z := Int32.not_lt.mp c2
        by_cases c3 : 1899 < z
        · have n3 : ¬ z ≤ 1899 := by rw [Int32.not_le]; exact c3
          by_cases c4 : y ≤ 1899
          · simp only [c1, d1, c2, d2, c3, n3, c4, if_true, if_false, decide_true, decide_false, Bool.and_self, Bool.and_false, Bool.false_and, Bool.and_true, Bool.true_and, b2_t, b2_f, Option.bind_some, one0]
            exact Eq2.same h0 _
          · simp only [c1, d1, c2, d2, c3, n3, c4, if_true, if_false, decide_true, decide_false, Bool.and_self, Bool.and_false, Bool.false_and, Bool.and_true, Bool.true_and, b2_t, b2_f, Option.bind_some, one0]
            exact Eq2.same h0 _
        · have d3 : z ≤ 1899 := Int32.not_lt.mp c3
          have c4 : y ≤ 1899 := Int32.le_trans d2 d3
          have y0 : ¬ y < 0 := fun hl => absurd (Int32.lt_trans hl (show (0 : Int32) < 1500 by decide)) c1
          obtain ⟨f, hf, rfl⟩ := nI_of2 (n := 1899) (by decide) y0 c4
          have z0 : ¬ z < 0 := fun hl => absurd (Int32.lt_of_le_of_lt d2 hl) (nI_pos (by omega))
          obtain ⟨t, ht, rfl⟩ := nI_of2 (n := 1899) (by decide) z0 d3
          have hft : f ≤ t := (nI_leI (by omega) (by omega)).mp d2
          have hf0 : 1500 ≤ f := (nI_leI (a := 1500) (by decide) (by omega)).mp d1
          simp only [c1, d1, c2, d2, c3, d3, c4, if_true, if_false, decide_true, decide_false, Bool.and_self, Bool.and_false, Bool.false_and, Bool.and_true, Bool.true_and, b2_t, b2_f, Option.bind_some, one0, subI hft]
          by_cases c5 : t < f + 64
          · have e5 : nI (t - f) < (64 : Int32) := nI_lt (b := 64) (by omega) (by decide)
            simp only [e5, if_true, hB.1, mB.1]
            by_cases e8 : (aB A).1 = 8
            · have hf : X0_append (nI p) (nI f) (nI t) σ = some (-3, σ) := by
                unfold X0_append
                rw [hB.1, e8]
                exact if_neg (by decide)
              rw [hf, e8]
              simp only [show nI 8 = (8 : Int32) from rfl, if_true, Option.bind_some]
              exact Eq2.same h0 _
            · have n8 : ¬ nI (aB A).1 = (8 : Int32) := fun e => e8 ((nI_eq (b := 8) (by omega) (by decide)).mp e)
              have l8 : nI (aB A).1 < (8 : Int32) := nI_lt (b := 8) (by omega) (by decide)
              simp only [n8, if_false, X0_append, hB.1, l8, if_true, bnd, gI_sI, gI_sJ, chk_nI (show (aB A).1 < 8 by omega) (by decide), nI_cl (show (aB A).1 < 2 ^ 31 by omega), mB.1, Option.bind_some, show ((27 : Nat) = 30) = False by decide, show ((27 : Nat) = 31) = False by decide, show ((27 : Nat) = 32) = False by decide, show ((0 : Nat) = 29) = False by decide, show ((0 : Nat) = 30) = False by decide, show ((0 : Nat) = 31) = False by decide, false_and, and_self, nI_1]
              refine Eq2.of rfl rfl ⟨(aP A, ((aB A).1 + 1, up_ (aB A).2.1 (aB A).1 p, up_ (aB A).2.2.1 (aB A).1 f, up_ (aB A).2.2.2.1 (aB A).1 t, up_ (aB A).2.2.2.2 (aB A).1 0), aL A, aR A, aZ A, aS A, aT A, aW A, aU A, aN A), ?_, ?_, ?_⟩
              · refine ⟨hP, ⟨rfl, app1 rfl hB.2.1, app1 rfl hB.2.2.1, app1 rfl hB.2.2.2.1, fun b hb => ?_, fun b hb => hB.2.2.2.2.2 b (by have : (aB A).1 + 1 ≤ b := hb; omega)⟩, hL, hR, hZ, hS.fr ((((Off.rf.sI (by omega)).sI (by omega)).sI (by omega)).sI (by omega)), hT, hWd, r, hQ, hU.fr hQ.1 ((((Off.rf.sI (by omega)).sI (by omega)).sI (by omega)).sI (by omega))⟩
                show gJ σ 33 b = up_ (aB A).2.2.2.2 (aB A).1 0 b
                have hb' : b < (aB A).1 + 1 := hb
                unfold up_
                by_cases e : b = (aB A).1
                · simp only [e, if_true]; exact hB.2.2.2.2.2 _ (Nat.le_refl _)
                · simp only [e, if_false]; exact hB.2.2.2.2.1 b (by omega)
              · refine ⟨mP, ⟨rfl, app1 rfl mB.2.1, app1 rfl mB.2.2.1, app1 rfl mB.2.2.2.1, fun b hb => ?_⟩, mL, mR, mZ, mS, mT, mWd, mU, mK⟩
                show vp_updL (gJ τ 32) (aB A).1 0 b = up_ (aB A).2.2.2.2 (aB A).1 0 b
                have hb' : b < (aB A).1 + 1 := hb
                unfold vp_updL up_
                by_cases e : b = (aB A).1
                · simp [e]
                · simp only [e, if_false]; exact mB.2.2.2.2 b (by omega)
              · refine ⟨w1, ⟨by show (aB A).1 + 1 ≤ 8; omega, fun b hb => ?_⟩, ⟨w3.1, fun k hk => ?_⟩, w4, w5, w6, w7, w8, w9, w10⟩
                · have hb' : b < (aB A).1 + 1 := hb
                  show up_ (aB A).2.1 (aB A).1 p b < (aP A).1 ∧ 1500 ≤ up_ (aB A).2.2.1 (aB A).1 f b ∧ up_ (aB A).2.2.1 (aB A).1 f b ≤ up_ (aB A).2.2.2.1 (aB A).1 t b ∧ up_ (aB A).2.2.2.1 (aB A).1 t b ≤ 1899 ∧ up_ (aB A).2.2.2.1 (aB A).1 t b < up_ (aB A).2.2.1 (aB A).1 f b + 64 ∧ ∀ k, k < 64 → (up_ (aB A).2.2.2.2 (aB A).1 0 b).toBitVec.getLsbD k = true → up_ (aB A).2.2.1 (aB A).1 f b + k ≤ up_ (aB A).2.2.2.1 (aB A).1 t b
                  unfold up_
                  by_cases e : b = (aB A).1
                  · simp only [e, if_true]; exact ⟨hp, hf0, hft, ht, c5, fun k _ hk => by simp at hk⟩
                  · simp only [e, if_false]; exact w2.2 b (by omega)
                · obtain ⟨v1, v2, v3, v4⟩ := w3.2 k hk
                  have e : ¬ lB (aL A) k = (aB A).1 := by omega
                  refine ⟨Nat.lt_succ_of_lt v1, ?_, ?_, v4⟩
                  · show up_ (aB A).2.2.1 (aB A).1 f (lB (aL A) k) ≤ lY (aL A) k
                    unfold up_; simp only [e, if_false]; exact v2
                  · show lY (aL A) k ≤ up_ (aB A).2.2.2.1 (aB A).1 t (lB (aL A) k)
                    unfold up_; simp only [e, if_false]; exact v3
          · have e5 : ¬ nI (t - f) < (64 : Int32) := nI_nlt (b := 64) (by omega) (by omega)
            simp only [e5, if_false]
            exact Eq2.same h0 _
  · rw [c_place_out hP.1 hx, m_place_out mP.1 wP hx]
    simp only [Option.bind_some, if_true]
    exact Eq2.same h0 _
theorem eq_father (h : Rel σ τ) (x y : Int32) : Eq2 (X10_father x y σ) (X11_father x y τ) := by
  have h0 := h
  obtain ⟨A, hC, hM, hW⟩ := h
  obtain ⟨hP, hB, hL, hR, hZ, hS, hT, hWd, r, hQ, hU⟩ := hC
  obtain ⟨mP, mB, mL, mR, mZ, mS, mT, mWd, mU, mK⟩ := hM
  obtain ⟨w1, w2, w3, w4, w5, w6, w7, w8, w9, w10⟩ := hW
  have wL : (aL A).1 ≤ 40 := w3.1
  unfold X10_father X11_father
  rcases ixc x (aL A).1 (by omega) with ⟨k, hk, rfl⟩ | hx
  · rw [c_line_in hL.1 wL hk, m_line_in mL.1 wL hk]
    simp only [Option.bind_some, one0, if_false]
    have fin : ∀ (o : Option Nat), (∀ j, o = some j → j < (aL A).1 ∧ lY (aL A) j + 15 ≤ lY (aL A) k) → Eq2 (X10_father_B52 (nI k) (oI o) σ) (X11_father_B52 (nI k) (oI o) τ) := by
      intro o ho
      unfold X10_father_B52 X11_father_B52
      simp only [chk_nI (show k < 40 by omega) (by decide), nI_cl (show k < 2 ^ 31 by omega), bnd, hL.2.2.2.2.2.2.2.2 k hk, mL.2.2.2.2.2.2.2.2 k hk]
      refine Eq2.of rfl rfl ⟨(aP A, aB A, ((aL A).1, lB (aL A), lY (aL A), lK (aL A), lF (aL A), lN_ (aL A), lD (aL A), lR (aL A), up_ (lA (aL A)) k o), aR A, aZ A, aS A, aT A, aW A, aU A, aN A), ?_, ?_, ?_⟩
      · exact ⟨hP, hB, ⟨hL.1, hL.2.1, hL.2.2.1, hL.2.2.2.1, hL.2.2.2.2.1, hL.2.2.2.2.2.1, hL.2.2.2.2.2.2.1, hL.2.2.2.2.2.2.2.1, set1o rfl hL.2.2.2.2.2.2.2.2⟩, hR, hZ, hS.fr (Off.rf.sI (by omega)), hT, hWd, r, hQ, hU.fr hQ.1 (Off.rf.sI (by omega))⟩
      · exact ⟨mP, mB, ⟨mL.1, mL.2.1, mL.2.2.1, mL.2.2.2.1, mL.2.2.2.2.1, mL.2.2.2.2.2.1, mL.2.2.2.2.2.2.1, mL.2.2.2.2.2.2.2.1, set1o rfl mL.2.2.2.2.2.2.2.2⟩, mR, mZ, mS, mT, mWd, mU, mK⟩
      · refine ⟨w1, w2, ⟨w3.1, fun i hi => ?_⟩, w4, w5, w6, w7, w8, w9, w10⟩
        obtain ⟨v1, v2, v3, v4, v5, v6, v7, v8, v9, v10⟩ := w3.2 i hi
        refine ⟨v1, v2, v3, v4, v5, v6, v7, v8, v9, fun j hj => ?_⟩
        have hj' : up_ (lA (aL A)) k o i = some j := hj
        unfold up_ at hj'
        by_cases e : i = k
        · simp only [e, if_true] at hj'
          subst e
          exact ho j hj'
        · simp only [e, if_false] at hj'
          exact v10 j hj'
    by_cases e4 : y = -4
    · subst e4
      rw [m_line_out mL.1 wL (Or.inl (by decide))]
      simp only [Option.bind_some, if_true, X10_father_B31, X11_father_B25]
      exact fin none (fun j hj => by cases hj)
    · simp only [e4, if_false]
      rcases ixc y (aL A).1 (by omega) with ⟨j, hj, rfl⟩ | hy
      · rw [c_line_in hL.1 wL hj, m_line_in mL.1 wL hj]
        simp only [Option.bind_some, one0, if_false, X10_father_B31, X11_father_B25, e4, X3_mayBeFather]
        obtain ⟨u1, u2, u3, -⟩ := w3.2 k hk
        obtain ⟨v1, v2, v3, -⟩ := w3.2 j hj
        have hyk : 1500 ≤ lY (aL A) k ∧ lY (aL A) k ≤ 1899 := by have := w2.2 _ u1; omega
        have hyj : 1500 ≤ lY (aL A) j ∧ lY (aL A) j ≤ 1899 := by have := w2.2 _ v1; omega
        simp only [chk_nI (show k < 40 by omega) (by decide), chk_nI (show j < 40 by omega) (by decide), nI_cl (show k < 2 ^ 31 by omega), nI_cl (show j < 2 ^ 31 by omega), hL.2.2.1 k hk, hL.2.2.1 j hj, mL.2.2.1 k hk, mL.2.2.1 j hj]
        rw [show nI (lY (aL A) k) - 15 = nI (lY (aL A) k - 15) from pk_sub (b := 15) (by omega), show nI (lY (aL A) j) + 15 = nI (lY (aL A) j + 15) from nI_add _ 15]
        simp only [ltI (show lY (aL A) k - 15 < 2 ^ 31 by omega) (show lY (aL A) j < 2 ^ 31 by omega), leI (show lY (aL A) j + 15 < 2 ^ 31 by omega) (show lY (aL A) k < 2 ^ 31 by omega)]
        by_cases c : lY (aL A) j + 15 ≤ lY (aL A) k
        · have n : ¬ lY (aL A) k - 15 < lY (aL A) j := by omega
          simp only [c, n, if_true, if_false, Option.bind_some, one0]
          exact fin (some j) (fun i hi => by cases hi; exact ⟨hj, c⟩)
        · have n : lY (aL A) k - 15 < lY (aL A) j := by omega
          simp only [c, n, if_true, if_false, Option.bind_some]
          exact Eq2.same h0 _
      · rw [c_line_out hL.1 hy, m_line_out mL.1 wL hy]
        simp only [Option.bind_some, if_true]
        exact Eq2.same h0 _
  · rw [c_line_out hL.1 hx, m_line_out mL.1 wL hx]
    simp only [Option.bind_some, if_true]
    exact Eq2.same h0 _
end Easy3
