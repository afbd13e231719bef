/-! standing: the class's choice, the reference's search -/
section Stand
variable {σ τ : St} {U : DU} {W : DW} {nm : Nat → Nat}
theorem c_few (hW : CW σ W U nm) (wW : WW W) (hn0 : 1 ≤ W.1) {k T : Nat} (h : STD (jn U W) W.1 k T) : X1_fewest (nI W.1) σ = some (nI T) := by
  have h16 := wW.1
  have hp : 2 ^ W.1 ≤ 65536 := Nat.pow_le_pow_right (n := 2) (by decide) h16
  have hp0 : 0 < 2 ^ W.1 := Nat.pow_pos (by decide)
  have hT := h.1
  have hA : 2 ^ W.1 - 1 < 2 ^ W.1 := by omega
  have hall : ∀ A e, A < 2 ^ W.1 → e ≤ 16 → ∃ b : Bool, X1_suffices (nI A) (nI (2 ^ W.1 - 1)) (nI e) σ = some (b2 b) ∧ (b = true ↔ Cvr (jn U W) W.1 A.testBit (fun _ => true) e) := fun A e h1 h2 => by
    obtain ⟨b, b1, b2'⟩ := c_suff hW wW h1 e h2 40 (2 ^ W.1 - 1) (by omega) hA
    refine ⟨b, b1, b2'.trans ?_⟩
    unfold Cvr
    constructor
    · rintro ⟨l, l1, l2, l3⟩
      exact ⟨l, l1, l2, fun o ho _ => l3 o ho (by rw [bit_all]; simp [ho])⟩
    · rintro ⟨l, l1, l2, l3⟩
      exact ⟨l, l1, l2, fun o ho _ => l3 o ho rfl⟩
  have hk1 : 1 ≤ k := by
    rcases Nat.eq_zero_or_pos k with e | e
    · obtain ⟨p, p1, p2, p3⟩ := covM_iff.mp h.2.1 0 (by omega)
      have h3 := h.2.2.1
      have h4 := bc_mono (x := 2 ^ p) (y := T) (fun i hi => by rw [Nat.testBit_two_pow, decide_eq_true_eq] at hi; rw [← hi]; exact p2) 16
      have h5 : bc (2 ^ p) 16 = 1 := by
        have : ∀ p, p < 16 → bc (2 ^ p) 16 = 1 := by decide +kernel
        exact this p (by omega)
      omega
    · exact e
  have hkn : k ≤ W.1 := by
    have h3 := h.2.2.2.1 _ hA (cov_all (fun s => jn_self (U := U) (W := W) s))
    have h4 : bc (2 ^ W.1 - 1) 16 = bc (2 ^ W.1 - 1) W.1 := by
      have := bc_hi (x := 2 ^ W.1 - 1) (n := W.1) (fun i hi => by rw [bit_all]; simp [show ¬ i < W.1 by omega]) (16 - W.1)
      rw [show W.1 + (16 - W.1) = 16 by omega] at this
      exact this
    have h5 := bc_le (2 ^ W.1 - 1) W.1
    omega
  -- the choice, from the highest on
  have greedy : ∀ j m C, j ≤ W.1 → j < m → C < 2 ^ W.1 → (∀ i, i < W.1 → C.testBit i = (decide (i < j) || T.testBit i)) → X1_fewest_L49 σ m (nI (2 ^ W.1 - 1)) (nI k) (nI C) (dn j) = some (nI T) := by
    intro j
    induction j with
    | zero =>
      intro m C hj hm hC hb
      obtain ⟨m, rfl⟩ : ∃ q, m = q + 1 := ⟨m - 1, by omega⟩
      rw [X1_fewest_L49, if_pos (by decide)]
      congr 2
      apply Nat.eq_of_testBit_eq
      intro i
      by_cases hi : i < W.1
      · rw [hb i hi]; simp
      · rw [Nat.testBit_lt_two_pow (Nat.lt_of_lt_of_le hC (Nat.pow_le_pow_right (n := 2) (by decide) (show W.1 ≤ i by omega))), Nat.testBit_lt_two_pow (Nat.lt_of_lt_of_le hT (Nat.pow_le_pow_right (n := 2) (by decide) (show W.1 ≤ i by omega)))]
    | succ j ih =>
      intro m C hj hm hC hb
      obtain ⟨m, rfl⟩ : ∃ q, m = q + 1 := ⟨m - 1, by omega⟩
      have h2j : 2 ^ j < 65536 := Nat.lt_of_lt_of_le (Nat.pow_lt_pow_right (by decide) (show j < W.1 by omega)) hp
      have hC' : (C &&& (2 ^ j ^^^ 65535)) < 2 ^ W.1 := Nat.lt_of_le_of_lt Nat.and_le_left hC
      have hCb : ∀ i, i < W.1 → (C &&& (2 ^ j ^^^ 65535)).testBit i = (C.testBit i && !decide (i = j)) := fun i hi => by
        rw [Nat.testBit_and, Nat.testBit_xor, Nat.testBit_two_pow]
        have h65 : (65535 : Nat).testBit i = true := by
          have : ∀ i, i < 16 → (65535 : Nat).testBit i = true := by decide
          exact this i (by omega)
        rw [h65]
        by_cases e : i = j
        · subst e; simp
        · simp [e, show ¬ j = i from fun h => e h.symm]
      obtain ⟨b, b1, b2'⟩ := hall (C &&& (2 ^ j ^^^ 65535)) k hC' (by omega)
      have hdn : nI j + (-1) = dn j := rfl
      rw [dn_s, X1_fewest_L49, if_neg (nI_pos (by omega)), one_shl32 j (by omega), nI_xm (by omega) h2j, b1, Option.bind_some, hdn, bnd]
      have hTin : T.testBit j = false → b = true := fun ht => b2'.mpr ((Cvr_mask h16).mpr ⟨T, hT, h.2.1, by rw [h.2.2.1]; exact Nat.le_refl _, fun i hi => by
        have hin : i < W.1 := by
          by_cases h : i < W.1
          · exact h
          · rw [Nat.testBit_lt_two_pow (Nat.lt_of_lt_of_le hT (Nat.pow_le_pow_right (n := 2) (by decide) (show W.1 ≤ i by omega)))] at hi
            cases hi
        rw [hCb i hin, hb i hin, hi]
        have : i ≠ j := fun e => by rw [e, ht] at hi; cases hi
        simp [this]⟩)
      have hTout : T.testBit j = true → b = false := fun ht => by
        cases hbb : b with
        | false => rfl
        | true =>
          exfalso
          obtain ⟨S, s1, s2, s3, s4⟩ := (Cvr_mask h16).mp (b2'.mp hbb)
          have hS : bc S 16 = k := by
            have := h.2.2.2.1 S s1 s2
            omega
          have hle := h.2.2.2.2 S s1 s2 hS
          -- but S is less
          have hdiv : S / 2 ^ j &&& T / 2 ^ j = S / 2 ^ j := by
            apply Nat.eq_of_testBit_eq
            intro i
            rw [Nat.testBit_and, Nat.testBit_div_two_pow, Nat.testBit_div_two_pow]
            cases hsi : S.testBit (i + j) with
            | false => rfl
            | true =>
              have hin : i + j < W.1 := by
                by_cases h : i + j < W.1
                · exact h
                · rw [Nat.testBit_lt_two_pow (Nat.lt_of_lt_of_le s1 (Nat.pow_le_pow_right (n := 2) (by decide) (show W.1 ≤ i + j by omega)))] at hsi
                  cases hsi
              have h5 := s4 (i + j) hsi
              rw [hCb _ hin, hb _ hin, Bool.and_eq_true, Bool.or_eq_true] at h5
              rcases h5.1 with h6 | h6
              · rw [decide_eq_true_eq] at h6
                have h7 := h5.2
                rw [Bool.not_eq_true', decide_eq_false_iff_not] at h7
                omega
              · rw [h6]; rfl
          have hle2 : S / 2 ^ j ≤ T / 2 ^ j := by rw [← hdiv]; exact Nat.and_le_right
          have hne : S / 2 ^ j ≠ T / 2 ^ j := fun e => by
            have h6 := congrArg (fun z => Nat.testBit z 0) e
            simp only [Nat.testBit_div_two_pow, Nat.zero_add] at h6
            rw [ht] at h6
            have h7 := s4 j h6
            rw [hCb j (by omega)] at h7
            simp at h7
          have : S < T := by
            rcases Nat.lt_or_ge S T with h8 | h8
            · exact h8
            · have := Nat.div_le_div_right (c := 2 ^ j) h8
              omega
          omega
      cases ht : T.testBit j with
      | true =>
        rw [hTout ht, if_pos (show b2 false = 0 from rfl)]
        refine ih m C (by omega) (by omega) hC (fun i hi => ?_)
        rw [hb i hi]
        by_cases e : i = j
        · subst e; simp [ht]
        · by_cases hlt : i < j
          · simp [hlt, show i < j + 1 by omega]
          · simp [hlt, show ¬ i < j + 1 by omega]
      | false =>
        rw [hTin ht, if_neg (show ¬ b2 true = 0 from n10)]
        refine ih m _ (by omega) (by omega) hC' (fun i hi => ?_)
        rw [hCb i hi, hb i hi]
        by_cases e : i = j
        · subst e; simp [ht]
        · by_cases hlt : i < j
          · simp [e, hlt, show i < j + 1 by omega]
          · simp [e, hlt, show ¬ i < j + 1 by omega]
  have hfin : X1_fewest_L49 σ FU (nI (2 ^ W.1 - 1)) (nI k) (nI (2 ^ W.1 - 1)) (nI W.1 - 1) = some (nI T) := by
    rw [show nI W.1 - 1 = dn W.1 from Int32.sub_eq_add_neg _ _]
    exact greedy W.1 FU (2 ^ W.1 - 1) (Nat.le_refl _) (by show _ < 1000000; omega) hA (fun i hi => by rw [bit_all]; simp [hi])
  -- how many are enough
  have enough : ∀ d m e, e + d = k → 1 ≤ e → d < m → X1_fewest_L20 σ m (nI W.1) (nI (2 ^ W.1 - 1)) (nI e) = some (nI T) := by
    intro d
    induction d with
    | zero =>
      intro m e he h1 hm
      obtain ⟨m, rfl⟩ : ∃ q, m = q + 1 := ⟨m - 1, by omega⟩
      have : e = k := by omega
      subst this
      rw [X1_fewest_L20, bnd, hfin]
      by_cases hx : nI W.1 ≤ nI e
      · rw [if_pos hx]
      · obtain ⟨b, b1, b2'⟩ := hall (2 ^ W.1 - 1) e hA (by omega)
        have hbt : b = true := b2'.mpr ((h.cvr h16 e).mpr (Nat.le_refl _))
        rw [if_neg hx, b1, Option.bind_some, hbt, if_neg (show ¬ b2 true = 0 from n10)]
    | succ d ih =>
      intro m e he h1 hm
      obtain ⟨m, rfl⟩ : ∃ q, m = q + 1 := ⟨m - 1, by omega⟩
      obtain ⟨b, b1, b2'⟩ := hall (2 ^ W.1 - 1) e hA (by omega)
      have hbf : b = false := by
        cases hb : b with
        | false => rfl
        | true =>
          have := (h.cvr h16 e).mp (b2'.mp hb)
          omega
      rw [X1_fewest_L20, if_neg (nI_ge (by omega) (by omega)), b1, Option.bind_some, hbf, if_pos (show b2 false = 0 from rfl), nI_1]
      exact ih m (e + 1) (by omega) (by omega) (by omega)
  unfold X1_fewest
  rw [if_neg (show ¬ nI W.1 ≤ (0 : Int32) from nI_ge (a := 0) (by omega) (by omega)), if_pos (show nI W.1 ≤ (16 : Int32) from nI_le (b := 16) h16 (by decide)), one_shl32 W.1 (by omega), show nI (2 ^ W.1) - 1 = nI (2 ^ W.1 - 1) from subI (b := 1) (by omega), bnd]
  exact enough (k - 1) FU 1 (by omega) (by decide) (by show _ < 1000000; omega)
end Stand
