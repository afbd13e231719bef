/-! the calls that are much alike on both sides -/
section Easy
variable {σ τ : St}
theorem eq_fault (h : Rel σ τ) : Eq2 (pu (X10_fault σ) σ) (pu (X11_fault τ) τ) := by
  have h0 := h
  obtain ⟨A, hC, hM, hW⟩ := h
  exact Eq2.pp (r := nI (aZ A).2.2) (by rw [X10_fault, hC.2.2.2.2.1.2.2]) (by rw [X11_fault, hM.2.2.2.2.1.2.2]) h0
theorem eq_torn (h : Rel σ τ) : Eq2 (pu (X10_torn σ) σ) (pu (X11_torn τ) τ) := by
  have h0 := h
  obtain ⟨A, hC, hM, hW⟩ := h
  exact Eq2.pp (r := nI (aZ A).2.1) (by rw [X10_torn, hC.2.2.2.2.1.2.1]) (by rw [X11_torn, hM.2.2.2.2.1.2.1]) h0
theorem eq_day (h : Rel σ τ) (x : Int32) : Eq2 (X10_day x σ) (X11_day x τ) := by
  have h0 := h
  obtain ⟨A, hC, hM, hW⟩ := h
  have e1 := hC.2.2.2.2.1.1
  have e2 := hM.2.2.2.2.1.1
  have hd : (aZ A).1 ≤ 999 := hW.2.2.2.2.1.1
  have hin := in_eq x (nI (aZ A).1) 999 τ
  unfold X10_day X11_day
  rw [e1, e2, show ((999 : Int64)) = (999 : Int32).toInt64 from rfl, hin]
  by_cases c1 : x < nI (aZ A).1
  · have : ¬ nI (aZ A).1 ≤ x := by rw [Int32.not_le]; exact c1
    simp only [c1, this, if_true, decide_false, Bool.false_and, b2_f, Option.bind_some]
    exact Eq2.same h0 _
  · have c1' : nI (aZ A).1 ≤ x := Int32.not_lt.mp c1
    by_cases c2 : x ≤ 999
    · simp only [c1, c1', c2, if_true, if_false, decide_true, Bool.and_self, b2_t, Option.bind_some, bnd, show ((1 : Int32) = 0) = False from by decide]
      have hx0 : ¬ x < 0 := fun hlt => absurd (Int32.lt_of_le_of_lt c1' hlt) (by rw [Int32.not_lt]; exact nI_pos' (by omega))
      obtain ⟨j, hj, rfl⟩ := nI_of hx0
      have hj9 : j ≤ 999 := by
        have := Int32.le_iff_toInt_le.mp c2
        rw [nI_toInt hj, show (999 : Int32).toInt = 999 by decide] at this
        omega
      refine Eq2.of rfl rfl ⟨(aP A, aB A, aL A, aR A, (j, (aZ A).2.1, (aZ A).2.2), aS A, aT A, aW A, aU A, aN A), ?_, ?_, ?_⟩
      · obtain ⟨hP, hB, hL, hR, hZ, hS, hT, hWd, r, hQ, hU⟩ := hC
        exact ⟨hP, hB, hL, hR, ⟨rfl, hZ.2.1, hZ.2.2⟩, hS.fr (Off.rf.sI (by omega)), hT, hWd, r, hQ, hU.fr hQ.1 (Off.rf.sI (by omega))⟩
      · obtain ⟨hP, hB, hL, hR, hZ, hS, hT, hWd, hU, hK⟩ := hM
        exact ⟨hP, hB, hL, hR, ⟨rfl, hZ.2.1, hZ.2.2⟩, hS, hT, hWd, hU, hK⟩
      · obtain ⟨hP, hB, hL, hR, hZ, hS, hT, hWd, hU, hN⟩ := hW
        exact ⟨hP, hB, hL, hR, ⟨hj9, hZ.2.1, hZ.2.2⟩, hS, hT, hWd, hU, hN⟩
    · simp only [c1, c1', c2, if_true, if_false, decide_true, decide_false, Bool.and_false, b2_f, Option.bind_some]
      exact Eq2.same h0 _
end Easy
