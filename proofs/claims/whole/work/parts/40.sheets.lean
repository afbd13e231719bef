/-! sheet, lay, feed -/
section Sheets
variable {σ τ : St}
theorem lane_eq (x : Int32) (σ : St) : X6_isLane x σ = some (b2 (decide (0 ≤ x) && decide (x ≤ 2))) := by
  unfold X6_isLane
  rcases rngc x 2 2 (by decide) with ⟨a, ha, rfl, c1, c2, c3, c4⟩ | ⟨c1, c2⟩ | ⟨c1, c2, c3, c4⟩ <;> simp [*, b2]
theorem sheet_in (x : Int32) (σ : St) : X10_isSheet x σ = some (b2 (decide (0 ≤ x) && decide (x ≤ 3))) := by
  unfold X10_isSheet
  rcases rngc x 3 3 (by decide) with ⟨a, ha, rfl, c1, c2, c3, c4⟩ | ⟨c1, c2⟩ | ⟨c1, c2, c3, c4⟩
  · have : ¬ (4 : Int32) ≤ nI a := nI_ge (b := 4) (by omega) (by decide)
    simp [*, b2]
  · simp [*, b2]
  · have : (4 : Int32) ≤ x := by
      have h1 := Int32.lt_iff_toInt_lt.mp c3
      rw [Int32.le_iff_toInt_le]
      have : (3 : Int32).toInt = 3 := by decide
      have : (4 : Int32).toInt = 4 := by decide
      omega
    simp [*, b2]
/-- 64 k and i, as a number -/
theorem ix64 {k i : Nat} : (64 : Int32) * nI k + nI i = nI (64 * k + i) := by
  rw [show (64 : Int32) = nI 64 from rfl, pk_mul, nI_add]
theorem zero_L (k : Nat) (hk : k < 4) : ∀ d i m (τ : St), i + d = 64 → d < m → X11_sheet_L56 m (nI k) (nI i) τ = some (1, sIf τ 47 (fun j => if 64 * k + i ≤ j ∧ j < 64 * k + 64 then 0 else gI τ 47 j)) := by
  intro d
  induction d with
  | zero =>
    intro i m τ hi hm
    obtain ⟨m, rfl⟩ : ∃ p, m = p + 1 := ⟨m - 1, by omega⟩
    have : i = 64 := by omega
    subst this
    rw [X11_sheet_L56, if_pos (show (64 : Int32) ≤ nI 64 by decide)]
    congr 2
    refine Prod.ext ?_ rfl
    funext p
    show τ.1 p = if p = 47 then _ else τ.1 p
    by_cases e : p = 47
    · subst e
      simp only [if_true]
      funext j
      rw [if_neg (by omega)]
      rfl
    · simp [e]
  | succ d ih =>
    intro i m τ hi hm
    obtain ⟨m, rfl⟩ : ∃ p, m = p + 1 := ⟨m - 1, by omega⟩
    rw [X11_sheet_L56, if_neg (show ¬ (64 : Int32) ≤ nI i from nI_ge (b := 64) (by omega) (by decide)), ix64, chk_nI (by omega) (by decide), nI_cl (by omega), nI_1, bnd]
    rw [ih (i + 1) m _ (by omega) (by omega)]
    congr 2
    refine Prod.ext ?_ rfl
    funext p
    show (if p = 47 then _ else (sI τ 47 (64 * k + i) 0).1 p) = if p = 47 then _ else τ.1 p
    by_cases e : p = 47
    · subst e
      simp only [if_true]
      funext j
      by_cases e2 : j = 64 * k + i
      · subst e2
        rw [if_neg (by omega), if_pos (by omega), gI_sI]; simp
      · by_cases e3 : 64 * k + i ≤ j ∧ j < 64 * k + 64
        · rw [if_pos (by omega), if_pos e3]
        · rw [if_neg (by omega), if_neg e3, gI_sI]
          simp [e2]
    · simp only [e, if_false]
      show (if p = 47 then _ else τ.1 p) = τ.1 p
      simp [e]
theorem eq_sheet (h : Rel σ τ) (x y z : Int32) : Eq2 (X10_sheet x y z σ) (X11_sheet x y z τ) := by
  have h0 := h
  obtain ⟨A, hC, hM, hW⟩ := h
  obtain ⟨hP, hB, hL, hR, hZ, hS, hT, hWd, r, hQ, hU⟩ := hC
  obtain ⟨mP, mB, mL, mR, mZ, mS, mT, mWd, mU, mK⟩ := hM
  obtain ⟨w1, w2, w3, w4, w5, w6, w7, w8, w9, w10⟩ := hW
  unfold X10_sheet X11_sheet
  rw [sheet_in, show (0 : Int64) = (0 : Int32).toInt64 from rfl, show (3 : Int64) = (3 : Int32).toInt64 from rfl, in_eq x 0 3 τ]
  rcases rngc x 3 3 (by decide) with ⟨k, hk, rfl, c1, c2, c3, c4⟩ | ⟨c1, c2⟩ | ⟨c1, c2, c3, c4⟩
  · simp only [c2, c4, if_true, if_false, decide_true, decide_false, Bool.and_self, Bool.and_false, Bool.false_and, Bool.and_true, Bool.true_and, b2_t, b2_f, Option.bind_some, one0]
    rw [lane_eq, show (2 : Int64) = (2 : Int32).toInt64 from rfl, in_eq y 0 2 τ]
    rcases rngc y 2 2 (by decide) with ⟨l, hl, rfl, d1, d2, d3, d4⟩ | ⟨d1, d2⟩ | ⟨d1, d2, d3, d4⟩
    · simp only [d2, d4, if_true, if_false, decide_true, decide_false, Bool.and_self, Bool.and_false, Bool.false_and, Bool.and_true, Bool.true_and, b2_t, b2_f, Option.bind_some, one0]
      by_cases e1 : z ≤ 64
      · by_cases e2 : 0 ≤ z
        · have z0 : ¬ z < 0 := Int32.not_lt.mpr e2
          obtain ⟨n, hn, rfl⟩ := nI_of2 (n := 64) (by decide) z0 e1
          simp only [e1, e2, if_true, chk_nI (show k < 4 by omega) (by decide), nI_cl (show k < 2 ^ 31 by omega), X6_renew, bnd, Option.bind_some]
          rw [c_fill _ 64 0 (by decide)]
          simp only [Option.bind_some]
          have hz := zero_L k (by omega) 64 0 FU (sI (sI τ 45 k (nI l)) 46 k (nI n)) (by omega) (by decide)
          rw [show nI 0 = (0 : Int32) from rfl] at hz
          rw [hz]
          refine Eq2.of rfl rfl ⟨(aP A, aB A, aL A, aR A, aZ A, (up_ (aS A).1 k (some (l, n)), up_ (aS A).2 k (fun i => if i < 64 then 0 else 0)), aT A, aW A, aU A, aN A), ?_, ?_, ?_⟩
          · refine ⟨?_, ?_, ?_, ?_, ?_, ?_, ?_, ?_, r, ?_, ?_⟩
            · have o : Off 1 51 σ (sI (sI (sIf σ (55 + k) (fun j => if j < 64 then 0 else gI σ (55 + k) j)) (51 + k) 1 (nI l)) (51 + k) 2 (nI n)) := Off.sI (by omega) (Off.sI (by omega) (Off.sIf (by omega) Off.rf))
              unfold CP
              rw [o 27 (by omega) (by omega), o 28 (by omega) (by omega), o 29 (by omega) (by omega)]
              exact hP
            · have o : Off 1 51 σ (sI (sI (sIf σ (55 + k) (fun j => if j < 64 then 0 else gI σ (55 + k) j)) (51 + k) 1 (nI l)) (51 + k) 2 (nI n)) := Off.sI (by omega) (Off.sI (by omega) (Off.sIf (by omega) Off.rf))
              unfold CB
              rw [o 27 (by omega) (by omega), o 30 (by omega) (by omega), o 31 (by omega) (by omega), o 32 (by omega) (by omega)]
              exact hB
            · have o : Off 1 51 σ (sI (sI (sIf σ (55 + k) (fun j => if j < 64 then 0 else gI σ (55 + k) j)) (51 + k) 1 (nI l)) (51 + k) 2 (nI n)) := Off.sI (by omega) (Off.sI (by omega) (Off.sIf (by omega) Off.rf))
              unfold CL
              rw [o 34 (by omega) (by omega), o 35 (by omega) (by omega), o 36 (by omega) (by omega), o 37 (by omega) (by omega), o 38 (by omega) (by omega), o 39 (by omega) (by omega), o 40 (by omega) (by omega), o 41 (by omega) (by omega), o 42 (by omega) (by omega)]
              exact hL
            · have o : Off 1 51 σ (sI (sI (sIf σ (55 + k) (fun j => if j < 64 then 0 else gI σ (55 + k) j)) (51 + k) 1 (nI l)) (51 + k) 2 (nI n)) := Off.sI (by omega) (Off.sI (by omega) (Off.sIf (by omega) Off.rf))
              unfold CR
              rw [o 34 (by omega) (by omega), o 43 (by omega) (by omega), o 44 (by omega) (by omega), o 45 (by omega) (by omega)]
              exact hR
            · have o : Off 0 51 σ (sI (sI (sIf σ (55 + k) (fun j => if j < 64 then 0 else gI σ (55 + k) j)) (51 + k) 1 (nI l)) (51 + k) 2 (nI n)) := Off.sI (by omega) (Off.sI (by omega) (Off.sIf (by omega) Off.rf))
              unfold CZ
              rw [o 0 (by omega) (by omega)]
              exact hZ
            · intro i hi
              by_cases e : i = k
              · subst e
                refine ⟨fun j hj => ?_, fun hn => ?_, fun a b hab => ?_⟩
                · rw [gI_sIn (by omega), gI_sIn (by omega), gI_sIfs]
                  simp [up_, hj]
                · simp [up_] at hn
                · simp only [up_, if_true, Option.some.injEq, Prod.mk.injEq] at hab
                  obtain ⟨rfl, rfl⟩ := hab
                  refine ⟨?_, ?_⟩
                  · rw [gI_sI, gI_sI]; simp
                  · rw [gI_sI]; simp
              · have o1 : gI (sI (sI (sIf σ (55 + k) (fun j => if j < 64 then 0 else gI σ (55 + k) j)) (51 + k) 1 (nI l)) (51 + k) 2 (nI n)) (55 + i) = gI σ (55 + i) := by
                  rw [gI_sIn (by omega), gI_sIn (by omega), gI_sIfn (by omega)]
                have o2 : gI (sI (sI (sIf σ (55 + k) (fun j => if j < 64 then 0 else gI σ (55 + k) j)) (51 + k) 1 (nI l)) (51 + k) 2 (nI n)) (51 + i) = gI σ (51 + i) := by
                  rw [gI_sIn (by omega), gI_sIn (by omega), gI_sIfn (by omega)]
                rw [o1, o2]
                simp only [up_, e, if_false]
                exact hS i hi
            · have o : Off 1 51 σ (sI (sI (sIf σ (55 + k) (fun j => if j < 64 then 0 else gI σ (55 + k) j)) (51 + k) 1 (nI l)) (51 + k) 2 (nI n)) := Off.sI (by omega) (Off.sI (by omega) (Off.sIf (by omega) Off.rf))
              unfold CT
              rw [o 1 (by omega) (by omega), o 2 (by omega) (by omega)]
              exact hT
            · have o : Off 1 51 σ (sI (sI (sIf σ (55 + k) (fun j => if j < 64 then 0 else gI σ (55 + k) j)) (51 + k) 1 (nI l)) (51 + k) 2 (nI n)) := Off.sI (by omega) (Off.sI (by omega) (Off.sIf (by omega) Off.rf))
              unfold CW
              rw [o 18 (by omega) (by omega), o 20 (by omega) (by omega), o 21 (by omega) (by omega), o 22 (by omega) (by omega), o 23 (by omega) (by omega), o 24 (by omega) (by omega)]
              exact hWd
            · exact hQ
            · exact hU.fr hQ.1 (Off.sI (by omega) (Off.sI (by omega) (Off.sIf (by omega) Off.rf)))
          · refine ⟨mP, mB, mL, mR, mZ, ?_, mT, mWd, mU, mK⟩
            intro i hi
            show (∀ j, j < 64 → (fun j => if 64 * k + 0 ≤ j ∧ j < 64 * k + 64 then 0 else gI τ 47 j) (64 * i + j) = up_ (aS A).2 k (fun i => if i < 64 then 0 else 0) i j) ∧ (up_ (aS A).1 k (some (l, n)) i = none → upd (gI τ 45) k (nI l) i = -4) ∧ ∀ a b, up_ (aS A).1 k (some (l, n)) i = some (a, b) → upd (gI τ 45) k (nI l) i = nI a ∧ upd (gI τ 46) k (nI n) i = nI b
            obtain ⟨s1, s2, s3⟩ := mS i hi
            by_cases e : i = k
            · subst e
              refine ⟨fun j hj => ?_, fun hn => ?_, fun a b hab => ?_⟩
              · simp only [up_, if_true, hj]
                rw [if_pos (by omega)]
              · simp [up_] at hn
              · simp only [up_, if_true, Option.some.injEq, Prod.mk.injEq] at hab
                obtain ⟨rfl, rfl⟩ := hab
                simp [upd]
            · simp only [up_, upd, e, if_false]
              refine ⟨fun j hj => ?_, s2, s3⟩
              rw [if_neg (by omega)]
              exact s1 j hj
          · refine ⟨w1, w2, w3, w4, w5, ?_, w7, w8, w9, w10⟩
            intro i a b hab
            have hab' : up_ (aS A).1 k (some (l, n)) i = some (a, b) := hab
            unfold up_ at hab'
            by_cases e : i = k
            · simp only [e, if_true, Option.some.injEq, Prod.mk.injEq] at hab'
              omega
            · simp only [e, if_false] at hab'
              exact w6 i a b hab'
        · simp only [e1, e2, if_true, if_false]
          exact Eq2.same h0 _
      · simp only [e1, if_false]
        exact Eq2.same h0 _
    · simp only [d1, d2, if_true, if_false, decide_true, decide_false, Bool.and_self, Bool.and_false, Bool.false_and, Bool.and_true, Bool.true_and, b2_t, b2_f, Option.bind_some, one0]
      exact Eq2.same h0 _
    · simp only [d1, d2, d3, d4, if_true, if_false, decide_true, decide_false, Bool.and_self, Bool.and_false, Bool.false_and, Bool.and_true, Bool.true_and, b2_t, b2_f, Option.bind_some, one0]
      exact Eq2.same h0 _
  · simp only [c1, c2, if_true, if_false, decide_true, decide_false, Bool.and_self, Bool.and_false, Bool.false_and, Bool.and_true, Bool.true_and, b2_t, b2_f, Option.bind_some, one0]
    exact Eq2.same h0 _
  · simp only [c1, c2, c3, c4, if_true, if_false, decide_true, decide_false, Bool.and_self, Bool.and_false, Bool.false_and, Bool.and_true, Bool.true_and, b2_t, b2_f, Option.bind_some, one0]
    exact Eq2.same h0 _
end Sheets
