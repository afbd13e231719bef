/-- a number from 0 to M, or below, or above -/
theorem rngc (x M : Int32) (n : Nat) (hM : M.toInt = n) : (∃ j, j ≤ n ∧ x = nI j ∧ ¬ x < 0 ∧ 0 ≤ x ∧ ¬ M < x ∧ x ≤ M) ∨ (x < 0 ∧ ¬ 0 ≤ x) ∨ (¬ x < 0 ∧ 0 ≤ x ∧ M < x ∧ ¬ x ≤ M) := by
  by_cases h0 : x < 0
  · exact Or.inr (Or.inl ⟨h0, by rw [Int32.not_le]; exact h0⟩)
  · by_cases h1 : M < x
    · exact Or.inr (Or.inr ⟨h0, Int32.not_lt.mp h0, h1, by rw [Int32.not_le]; exact h1⟩)
    · obtain ⟨j, hj, rfl⟩ := nI_of2 hM h0 (Int32.not_lt.mp h1)
      exact Or.inl ⟨j, hj, rfl, h0, Int32.not_lt.mp h0, h1, Int32.not_lt.mp h1⟩
theorem app1 {f : Nat → Int32} {g : Nat → Nat} {n a : Nat} {v : Int32} (hv : v = nI a) (h : ∀ p, p < n → f p = nI (g p)) : ∀ p, p < n + 1 → upd f n v p = nI (if p = n then a else g p) := by
  intro p hp
  unfold upd
  by_cases e : p = n
  · simp [e, hv]
  · simp only [e, if_false]; exact h p (by omega)
theorem app1o {f : Nat → Int32} {g : Nat → Option Nat} {n : Nat} {a : Option Nat} {v : Int32} (hv : v = oI a) (h : ∀ p, p < n → f p = oI (g p)) : ∀ p, p < n + 1 → upd f n v p = oI (if p = n then a else g p) := by
  intro p hp
  unfold upd
  by_cases e : p = n
  · simp [e, hv]
  · simp only [e, if_false]; exact h p (by omega)
theorem set1 {f : Nat → Int32} {g : Nat → Nat} {n k a : Nat} {v : Int32} (hv : v = nI a) (h : ∀ p, p < n → f p = nI (g p)) : ∀ p, p < n → upd f k v p = nI (if p = k then a else g p) := by
  intro p hp
  unfold upd
  by_cases e : p = k
  · simp [e, hv]
  · simp only [e, if_false]; exact h p hp
theorem set1o {f : Nat → Int32} {g : Nat → Option Nat} {n k : Nat} {a : Option Nat} {v : Int32} (hv : v = oI a) (h : ∀ p, p < n → f p = oI (g p)) : ∀ p, p < n → upd f k v p = oI (if p = k then a else g p) := by
  intro p hp
  unfold upd
  by_cases e : p = k
  · simp [e, hv]
  · simp only [e, if_false]; exact h p hp
def up_ {α : Type} (g : Nat → α) (k : Nat) (a : α) : Nat → α := fun p => if p = k then a else g p
theorem one0 : ((1 : Int32) = 0) = False := by decide
section Easy2
variable {σ τ : St}
theorem eq_end (h : Rel σ τ) (x : Int32) : Eq2 (X10_end x σ) (X11_end x τ) := by
  have h0 := h
  obtain ⟨A, hC, hM, hW⟩ := h
  obtain ⟨hP, hB, hL, hR, hZ, hS, hT, hWd, r, hQ, hU⟩ := hC
  obtain ⟨mP, mB, mL, mR, mZ, mS, mT, mWd, mU, mK⟩ := hM
  have wT : (aT A).1 ≤ 200 := hW.2.2.2.2.2.2.1.1
  have hin := in_eq x 0 (nI (aT A).1) τ
  unfold X10_end X11_end
  rw [hT.1, mT.1, show (0 : Int64) = (0 : Int32).toInt64 from rfl, hin]
  rcases rngc x (nI (aT A).1) (aT A).1 (nI_toInt (by omega)) with ⟨j, hj, rfl, c1, c2, c3, c4⟩ | ⟨c1, c2⟩ | ⟨c1, c2, c3, c4⟩
  · simp only [c1, c2, c4, if_true, if_false, decide_true, Bool.and_self, b2_t, Option.bind_some, bnd, one0]
    refine Eq2.of rfl rfl ⟨(aP A, aB A, aL A, aR A, aZ A, aS A, (j, (aT A).2), aW A, aU A, aN A), ?_, ?_, ?_⟩
    · exact ⟨hP, hB, hL, hR, hZ, hS.fr (Off.rf.sI (by omega)), ⟨rfl, fun i hi => hT.2 i (by have : i < j := hi; omega)⟩, hWd, r, hQ, hU.fr hQ.1 (Off.rf.sI (by omega))⟩
    · exact ⟨mP, mB, mL, mR, mZ, mS, ⟨rfl, fun i hi => mT.2 i (by have : i < j := hi; omega)⟩, mWd, mU, mK⟩
    · obtain ⟨w1, w2, w3, w4, w5, w6, w7, w8⟩ := hW
      exact ⟨w1, w2, w3, w4, w5, w6, ⟨by show j ≤ 200; omega, fun i hi => w7.2 i (by have : i < j := hi; omega)⟩, w8⟩
  · simp only [c1, c2, if_true, decide_false, Bool.false_and, b2_f, Option.bind_some]
    exact Eq2.same h0 _
  · simp only [c1, c2, c4, if_true, if_false, decide_true, decide_false, Bool.and_false, b2_f, Option.bind_some]
    exact Eq2.same h0 _
theorem eq_rule (h : Rel σ τ) (x : Int32) : Eq2 (pu (X10_rule x σ) σ) (pu (X11_rule x τ) τ) := by
  have h0 := h
  obtain ⟨A, hC, hM, hW⟩ := h
  obtain ⟨hP, hB, hL, hR, hZ, hS, hT, hWd, r, hQ, hU⟩ := hC
  obtain ⟨mP, mB, mL, mR, mZ, mS, mT, mWd, mU, mK⟩ := hM
  have hin := in_eq x 0 7 τ
  unfold X10_rule X11_rule
  rw [hQ.2.1, show (0 : Int64) = (0 : Int32).toInt64 from rfl, show (7 : Int64) = (7 : Int32).toInt64 from rfl, hin]
  simp only [chkN_lt hQ.1]
  rcases rngc x 9 9 (by decide) with ⟨j, hj, rfl, c1, c2, c3, c4⟩ | ⟨c1, c2⟩ | ⟨c1, c2, c3, c4⟩
  · simp only [c1, c2, c4, if_true, if_false, decide_true, Bool.true_and]
    rcases (by omega : j < 8 ∨ j = 8 ∨ j = 9) with hj8 | rfl | rfl
    · have e1 : ¬ (8 : Int32) ≤ nI j := nI_ge hj8 (by decide)
      have e2 : nI j ≤ (7 : Int32) := nI_le (b := 7) (by omega) (by decide)
      simp only [e1, e2, if_false, decide_true, b2_t, Option.bind_some, one0]
      rw [chk_nI hj8 (by decide), chk_nI hj8 (by decide), nI_cl (by omega), hU.2.2.1 j hj8, mU.2.2.1 j hj8]
      exact Eq2.pp rfl rfl h0
    · have e1 : (8 : Int32) ≤ nI 8 := by decide
      have e2 : ¬ nI 8 ≤ (7 : Int32) := by decide
      have e3 : nI 8 = (8 : Int32) := rfl
      simp only [e1, e2, e3, if_true, decide_false, b2_f, Option.bind_some, hU.1, mU.1]
      exact Eq2.pp rfl rfl h0
    · have e1 : (8 : Int32) ≤ nI 9 := by decide
      have e2 : ¬ nI 9 ≤ (7 : Int32) := by decide
      have e3 : nI 9 = (9 : Int32) := rfl
      have e4 : ((9 : Int32) = 8) = False := by decide
      simp only [e1, e2, e3, e4, if_true, if_false, decide_false, b2_f, Option.bind_some, hU.2.1, mU.2.1]
      exact Eq2.pp rfl rfl h0
  · have n8 : ¬ x = 8 := fun e => by subst e; exact absurd c1 (by decide)
    have n9 : ¬ x = 9 := fun e => by subst e; exact absurd c1 (by decide)
    simp only [c1, c2, n8, n9, if_true, if_false, decide_false, Bool.false_and, b2_f, Option.bind_some]
    exact Eq2.pp rfl rfl h0
  · have n7 : ¬ x ≤ 7 := fun e => by
      have h1 := Int32.le_iff_toInt_le.mp e
      have h2 := Int32.lt_iff_toInt_lt.mp c3
      have : (7 : Int32).toInt = 7 := by decide
      have : (9 : Int32).toInt = 9 := by decide
      omega
    have n8 : ¬ x = 8 := fun e => by subst e; exact absurd c3 (by decide)
    have n9 : ¬ x = 9 := fun e => by subst e; exact absurd c3 (by decide)
    simp only [c1, c2, c4, n7, n8, n9, if_true, if_false, decide_true, decide_false, Bool.and_false, b2_f, Option.bind_some]
    exact Eq2.pp rfl rfl h0
theorem eq_place (h : Rel σ τ) (x y : Int32) : Eq2 (X10_place x y σ) (X11_place x y τ) := by
  have h0 := h
  obtain ⟨A, hC, hM, hW⟩ := h
  obtain ⟨hP, hB, hL, hR, hZ, hS, hT, hWd, r, hQ, hU⟩ := hC
  obtain ⟨mP, mB, mL, mR, mZ, mS, mT, mWd, mU, mK⟩ := hM
  obtain ⟨w1, w2, w3, w4, w5, w6, w7, w8⟩ := hW
  have wP : (aP A).1 ≤ 8 := w1.1
  have hin := in_eq x 0 99 τ
  have hin2 := in_eq y 0 99 τ
  unfold X10_place X11_place
  rw [show (0 : Int64) = (0 : Int32).toInt64 from rfl, show (99 : Int64) = (99 : Int32).toInt64 from rfl, hin, hin2]
  rcases rngc x 99 99 (by decide) with ⟨a, ha, rfl, c1, c2, c3, c4⟩ | ⟨c1, c2⟩ | ⟨c1, c2, c3, c4⟩
  · rcases rngc y 99 99 (by decide) with ⟨b, hb, rfl, d1, d2, d3, d4⟩ | ⟨d1, d2⟩ | ⟨d1, d2, d3, d4⟩
    · simp only [c1, c2, c3, c4, d1, d2, d3, d4, if_true, if_false, decide_true, Bool.and_self, b2_t, Option.bind_some, one0, hP.1, mP.1]
      by_cases e8 : (aP A).1 = 8
      · have hf : X0_appendPlace (nI a) (nI b) σ = some (-3, σ) := by
          unfold X0_appendPlace
          rw [hP.1, e8]
          exact if_neg (by decide)
        rw [hf, e8]
        simp only [show nI 8 = (8 : Int32) from rfl, if_true, Option.bind_some]
        exact Eq2.same h0 _
      · have n8 : ¬ nI (aP A).1 = (8 : Int32) := fun e => e8 ((nI_eq (b := 8) (by omega) (by decide)).mp e)
        have l8 : nI (aP A).1 < (8 : Int32) := nI_lt (b := 8) (by omega) (by decide)
        simp only [n8, if_false, X0_appendPlace, hP.1, l8, if_true, bnd, gI_sI, chk_nI (show (aP A).1 < 8 by omega) (by decide), nI_cl (show (aP A).1 < 2 ^ 31 by omega), mP.1, Option.bind_some, show ((27 : Nat) = 28) = False by decide, show ((27 : Nat) = 29) = False by decide, show ((0 : Nat) = 27) = False by decide, show ((0 : Nat) = 28) = False by decide, false_and, and_self, nI_1]
        refine Eq2.of rfl rfl ⟨(((aP A).1 + 1, up_ (aP A).2.1 (aP A).1 a, up_ (aP A).2.2 (aP A).1 b), aB A, aL A, aR A, aZ A, aS A, aT A, aW A, aU A, aN A), ?_, ?_, ?_⟩
        · exact ⟨⟨rfl, app1 rfl hP.2.1, app1 rfl hP.2.2⟩, hB, hL, hR, hZ, hS.fr (((Off.rf.sI (by omega)).sI (by omega)).sI (by omega)), hT, hWd, r, hQ, hU.fr hQ.1 (((Off.rf.sI (by omega)).sI (by omega)).sI (by omega))⟩
        · exact ⟨⟨rfl, app1 rfl mP.2.1, app1 rfl mP.2.2⟩, mB, mL, mR, mZ, mS, mT, mWd, mU, mK⟩
        · refine ⟨⟨by show (aP A).1 + 1 ≤ 8; omega, fun p hp => ?_⟩, ⟨w2.1, fun b hb => ⟨Nat.lt_succ_of_lt (w2.2 b hb).1, (w2.2 b hb).2⟩⟩, w3, w4, w5, w6, w7, w8⟩
          show up_ (aP A).2.1 (aP A).1 a p ≤ 99 ∧ up_ (aP A).2.2 (aP A).1 b p ≤ 99
          have hp' : p < (aP A).1 + 1 := hp
          unfold up_
          by_cases e : p = (aP A).1
          · simp only [e, if_true]; exact ⟨ha, hb⟩
          · simp only [e, if_false]; exact w1.2 p (by omega)
    · simp only [c1, c2, c3, c4, d1, d2, if_true, if_false, decide_true, decide_false, Bool.and_self, Bool.false_and, b2_t, b2_f, Option.bind_some, one0]
      exact Eq2.same h0 _
    · simp only [c1, c2, c3, c4, d1, d2, d3, d4, if_true, if_false, decide_true, decide_false, Bool.and_self, Bool.and_false, b2_t, b2_f, Option.bind_some, one0]
      exact Eq2.same h0 _
  · simp only [c1, c2, if_true, decide_false, Bool.false_and, b2_f, Option.bind_some]
    exact Eq2.same h0 _
  · simp only [c1, c2, c3, c4, if_true, if_false, decide_true, decide_false, Bool.and_false, b2_f, Option.bind_some]
    exact Eq2.same h0 _
end Easy2
