/-! hole, sheets, feed -/
theorem oneOr (x : Int32) : (x = 0 ∨ x = 1) → x = b2 (decide (x = 1)) := by
  rintro (rfl | rfl) <;> decide
section Easy5
variable {σ τ : St} {B : DB}
theorem eq_hole (h : Rel σ τ) (x y z : Int32) (hz : z = 0 ∨ z = 1) : Eq2 (X10_hole x y z σ) (X11_hole x y z τ) := by
  have h0 := h
  obtain ⟨A, hC, hM, hW⟩ := h
  obtain ⟨hP, hB, hL, hR, hZ, hS, hT, hWd, r, hQ, hU⟩ := hC
  obtain ⟨mP, mB, mL, mR, mZ, mS, mT, mWd, mU, mK⟩ := hM
  obtain ⟨w1, w2, w3, w4, w5, w6, w7, w8, w9, w10⟩ := hW
  have wB : (aB A).1 ≤ 8 := w2.1
  have wL : (aL A).1 ≤ 40 := w3.1
  have hbd : ∀ k, k < (aL A).1 → lB (aL A) k < 2 ^ 31 ∧ lY (aL A) k < 2 ^ 31 := fun k hk => by
    obtain ⟨v1, v2, v3, -⟩ := w3.2 k hk
    have := w2.2 _ v1
    omega
  unfold X10_hole X11_hole
  rcases ixc x (aB A).1 (by omega) with ⟨b, hb, rfl⟩ | hx
  · rw [c_book_in hB.1 wB hb, m_book_in mB.1 wB hb]
    have wb := w2.2 b hb
    have hin := in_eq y (nI ((aB A).2.2.1 b)) (nI ((aB A).2.2.2.1 b)) τ
    simp only [Option.bind_some, one0, if_false, chk_nI (show b < 8 by omega) (by decide), nI_cl (show b < 2 ^ 31 by omega), mB.2.2.1 b hb, mB.2.2.2.1 b hb]
    rw [hin, c_hasYear hB wB hb y]
    by_cases cy : (decide (nI ((aB A).2.2.1 b) ≤ y) && decide (y ≤ nI ((aB A).2.2.2.1 b))) = true
    · rw [cy]
      simp only [if_true, if_false, decide_true, decide_false, Bool.and_self, Bool.and_false, Bool.false_and, Bool.and_true, Bool.true_and, b2_t, b2_f, Option.bind_some, one0]
      simp only [Bool.and_eq_true, decide_eq_true_eq] at cy
      have y0 : ¬ y < 0 := fun hl => absurd (Int32.lt_of_le_of_lt cy.1 hl) (nI_pos (by omega))
      obtain ⟨yr, hyr, rfl⟩ := nI_of2 (n := (aB A).2.2.2.1 b) (nI_toInt (by omega)) y0 cy.2
      have hy1 : (aB A).2.2.1 b ≤ yr := (nI_leI (by omega) (by omega)).mp cy.1
      rw [c_areIn hL w3 b yr (by omega) (by omega) hbd, m_hasLine mL w3 b yr (by omega) (by omega) hbd]
      simp only [Option.bind_some, b2_0]
      by_cases cl : hasLn (aL A) b yr = false
      · simp only [cl, if_true]
        rw [c_isHole hB wB hb, m_isHole mB wB hb, subI hy1]
        have hk : yr - (aB A).2.2.1 b < 64 := by omega
        rw [isH_bq _ hk]
        simp only [Option.bind_some, b2_0, X0_setHole, X11_hole_B72, chk_nI (show b < 8 by omega) (by decide), nI_cl (show b < 2 ^ 31 by omega), hB.2.2.1 b hb, mB.2.2.1 b hb, hB.2.2.2.2.1 b hb, mB.2.2.2.2 b hb, subI hy1, bnd]
        have fin : ∀ (h' : Int64), (∀ k, k < 64 → bq h' k = true → (aB A).2.2.1 b + k ≤ (aB A).2.2.2.1 b) → Rel (sJ σ 33 b h') (sJ τ 32 b h') := by
          intro h' hh
          refine ⟨(aP A, ((aB A).1, (aB A).2.1, (aB A).2.2.1, (aB A).2.2.2.1, up_ (aB A).2.2.2.2 b h'), aL A, aR A, aZ A, aS A, aT A, aW A, aU A, aN A), ?_, ?_, ?_⟩
          · refine ⟨hP, ⟨hB.1, hB.2.1, hB.2.2.1, hB.2.2.2.1, fun c hc => ?_, fun c hc => ?_⟩, hL, hR, hZ, hS, hT, hWd, r, hQ, hU⟩
            · show vp_updL (gJ σ 33) b h' c = up_ (aB A).2.2.2.2 b h' c
              unfold vp_updL up_
              by_cases e : c = b
              · simp [e]
              · simp only [e, if_false]; exact hB.2.2.2.2.1 c hc
            · show vp_updL (gJ σ 33) b h' c = 0
              have hc' : (aB A).1 ≤ c := hc
              have e : ¬ c = b := by omega
              unfold vp_updL
              simp only [e, if_false]; exact hB.2.2.2.2.2 c hc'
          · refine ⟨mP, ⟨mB.1, mB.2.1, mB.2.2.1, mB.2.2.2.1, fun c hc => ?_⟩, mL, mR, mZ, mS, mT, mWd, mU, mK⟩
            show vp_updL (gJ τ 32) b h' c = up_ (aB A).2.2.2.2 b h' c
            unfold vp_updL up_
            by_cases e : c = b
            · simp [e]
            · simp only [e, if_false]; exact mB.2.2.2.2 c hc
          · refine ⟨w1, ⟨w2.1, fun c hc => ?_⟩, w3, w4, w5, w6, w7, w8, w9, w10⟩
            obtain ⟨v1, v2, v3, v4, v5, v6⟩ := w2.2 c hc
            refine ⟨v1, v2, v3, v4, v5, fun k hk9 hb' => ?_⟩
            have hb'' : (up_ (aB A).2.2.2.2 b h' c).toBitVec.getLsbD k = true := hb'
            show (aB A).2.2.1 c + k ≤ (aB A).2.2.2.1 c
            unfold up_ at hb''
            by_cases e : c = b
            · simp only [e, if_true] at hb''
              subst e
              exact hh k hk9 hb''
            · simp only [e, if_false] at hb''
              exact v6 k hk9 hb''
        have stay : sJ σ 33 b ((aB A).2.2.2.2 b) = σ := by
          have e := hB.2.2.2.2.1 b hb
          have e2 : ((aB A).2.2.2.2 b) = gJ σ 33 b := e.symm
          rw [e2]
          refine Prod.ext rfl (Prod.ext ?_ rfl)
          funext q
          show (if q = 33 then vp_updL (σ.2.1 33) b (gJ σ 33 b) else σ.2.1 q) = σ.2.1 q
          by_cases hq : q = 33
          · subst hq
            simp only [if_true]
            funext j
            unfold vp_updL gJ
            by_cases hj : j = b
            · simp [hj]
            · simp [hj]
          · simp [hq]
        have nb : ∀ k, k < 64 → bq ((aB A).2.2.2.2 b) k = true → (aB A).2.2.1 b + k ≤ (aB A).2.2.2.1 b := wb.2.2.2.2.2
        have nx : ∀ k, k < 64 → bq ((aB A).2.2.2.2 b ^^^ ((1 : Int64) <<< ((nI (yr - (aB A).2.2.1 b)).toInt64 &&& 63))) k = true → (aB A).2.2.1 b + k ≤ (aB A).2.2.2.1 b := by
          intro k hk' hb'
          rw [bq_xor, bq_1k hk hk'] at hb'
          by_cases e : k = yr - (aB A).2.2.1 b
          · omega
          · simp only [e, decide_false, Bool.xor_false] at hb'
            exact nb k hk' hb'
        rcases hz with rfl | rfl
        · by_cases cb : bq ((aB A).2.2.2.2 b) (yr - (aB A).2.2.1 b) = false
          · simp only [cb, if_true, if_false, show ((0 : Int32) = 1) = False by decide, Option.bind_some, hole_an hk cb, stay]
            exact Eq2.of rfl rfl h0
          · rw [Bool.not_eq_false] at cb
            simp only [cb, if_true, if_false, show (true = false) = False by decide, show ((0 : Int32) = 1) = False by decide, Option.bind_some, hole_anx hk cb]
            exact Eq2.of rfl rfl (fin _ nx)
        · by_cases cb : bq ((aB A).2.2.2.2 b) (yr - (aB A).2.2.1 b) = false
          · simp only [cb, if_true, if_false, one0, show ((0 : Int32) = 1) = False by decide, Option.bind_some, hole_orx hk cb]
            exact Eq2.of rfl rfl (fin _ nx)
          · rw [Bool.not_eq_false] at cb
            simp only [cb, if_true, if_false, one0, show (true = false) = False by decide, Option.bind_some, hole_or hk cb, stay]
            exact Eq2.of rfl rfl h0
      · simp only [cl, if_false]
        exact Eq2.same h0 _
    · rw [Bool.not_eq_true] at cy
      rw [cy]
      simp only [if_true, if_false, decide_true, decide_false, Bool.and_self, Bool.and_false, Bool.false_and, Bool.and_true, Bool.true_and, b2_t, b2_f, Option.bind_some, one0]
      exact Eq2.same h0 _
  · rw [c_book_out hB.1 hx, m_book_out mB.1 wB hx]
    simp only [Option.bind_some, if_true]
    exact Eq2.same h0 _
/-- Arrays.fill -/
theorem fill_L (q ln : Nat) (v : Int32) (hln : ln < 2 ^ 31) : ∀ d k m (σ : St), k + d = ln → d < m → J7_fill_53178_L5 q ln m v (nI k) (nI ln) σ = some (sIf σ q (fun j => if k ≤ j ∧ j < ln then v else gI σ q j)) := by
  intro d
  induction d with
  | zero =>
    intro k m σ hk hm
    obtain ⟨m, rfl⟩ : ∃ p, m = p + 1 := ⟨m - 1, by omega⟩
    have : k = ln := by omega
    subst this
    rw [J7_fill_53178_L5, if_pos (nI_le (Nat.le_refl _) (by omega))]
    congr 1
    refine Prod.ext ?_ rfl
    funext p
    show σ.1 p = if p = q then _ else σ.1 p
    by_cases e : p = q
    · subst e
      simp only [if_true]
      funext j
      rw [if_neg (by omega)]
      rfl
    · simp [e]
  | succ d ih =>
    intro k m σ hk hm
    obtain ⟨m, rfl⟩ : ∃ p, m = p + 1 := ⟨m - 1, by omega⟩
    rw [J7_fill_53178_L5, if_neg (nI_ge (by omega) (by omega)), chk_nI (by omega) (by omega), nI_cl (by omega), nI_1]
    simp only [bnd]
    rw [ih (k + 1) m _ (by omega) (by omega)]
    congr 1
    refine Prod.ext ?_ rfl
    funext p
    show (if p = q then _ else (sI σ q k v).1 p) = if p = q then _ else σ.1 p
    by_cases e : p = q
    · subst e
      simp only [if_true]
      funext j
      by_cases e2 : j = k
      · subst e2
        rw [if_neg (by omega), if_pos (by omega)]
        rw [gI_sI]; simp
      · by_cases e3 : k ≤ j ∧ j < ln
        · rw [if_pos (by omega), if_pos e3]
        · rw [if_neg (by omega), if_neg e3, gI_sI]
          simp [e2]
    · simp only [e, if_false]
      show (if p = q then _ else σ.1 p) = σ.1 p
      simp [e]
theorem c_fill (q ln : Nat) (v : Int32) (hln : ln < 1000000) (σ : St) : J7_fill_53178 q ln v σ = some (sIf σ q (fun j => if j < ln then v else gI σ q j)) := by
  have h := fill_L q ln v (by omega) ln 0 FU σ (by omega) hln
  have e : (fun j => if 0 ≤ j ∧ j < ln then v else gI σ q j) = (fun j => if j < ln then v else gI σ q j) := by
    funext j; simp
  rw [e] at h
  rw [J7_fill_53178, bnd]
  exact h
end Easy5
