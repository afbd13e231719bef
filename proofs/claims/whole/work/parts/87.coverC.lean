/-! coverings: the class -/
section CoverC
variable {σ : St} {U : DU} {W : DW} {nm : Nat → Nat}
/-- sufficient: as the class searches -/
theorem c_suff (hW : CW σ W U nm) (wW : WW W) {A : Nat} (hA : A < 2 ^ W.1) : ∀ e, e ≤ 16 → ∀ m O, e < m → O < 2 ^ W.1 → ∃ b : Bool, X1_suffices_F σ m (nI A) (nI O) (nI e) = some (b2 b) ∧ (b = true ↔ Cvr (jn U W) W.1 A.testBit O.testBit e) := by
  have h16 := wW.1
  have hp : 2 ^ W.1 ≤ 65536 := Nat.pow_le_pow_right (n := 2) (by decide) h16
  have hz : ∀ z : Nat, z < 2 ^ 31 → (nI z = (0 : Int32)) = (z = 0) := fun z h => eqI h (show 0 < 2 ^ 31 by decide)
  have zbit : ∀ O : Nat, O ≠ 0 → O < 2 ^ W.1 → ∃ k, k < W.1 ∧ O.testBit k = true ∧ ∀ i, i < k → O.testBit i = false := fun O h0 hO => by
    obtain ⟨i, hi⟩ := Nat.exists_testBit_of_ne_zero h0
    obtain ⟨k, k1, k2⟩ := least_ex (P := fun i => O.testBit i = true) i hi
    refine ⟨k, ?_, k1, fun j hj => ?_⟩
    · by_cases h : k < W.1
      · exact h
      · have : O.testBit k = false := Nat.testBit_lt_two_pow (Nat.lt_of_lt_of_le hO (Nat.pow_le_pow_right (n := 2) (by decide) (show W.1 ≤ k by omega)))
        have k1' : O.testBit k = true := k1
        rw [this] at k1'
        cases k1'
    · cases h : O.testBit j with
      | false => rfl
      | true => have := k2 j h; omega
  intro e
  induction e with
  | zero =>
    intro _ m O hm hO
    obtain ⟨m, rfl⟩ : ∃ q, m = q + 1 := ⟨m - 1, by omega⟩
    rw [X1_suffices_F]
    unfold X1_suffices_E
    simp only [hz O (by omega)]
    by_cases e0 : O = 0
    · refine ⟨true, by rw [if_pos e0, if_pos e0]; rfl, ⟨fun _ => Cvr.nil (fun o _ => by rw [e0]; simp), fun _ => rfl⟩⟩
    · refine ⟨false, by rw [if_neg e0, if_neg (by decide), if_neg e0]; rfl, ⟨fun h => (by cases h), fun h => ?_⟩⟩
      obtain ⟨k, k1, k2, -⟩ := zbit O e0 hO
      rw [h.zero k k1] at k2
      cases k2
  | succ e ih =>
    intro he m O hm hO
    obtain ⟨m, rfl⟩ : ∃ q, m = q + 1 := ⟨m - 1, by omega⟩
    rw [X1_suffices_F]
    unfold X1_suffices_E
    simp only [hz O (by omega)]
    by_cases e0 : O = 0
    · refine ⟨true, by rw [if_pos e0, if_pos e0]; rfl, ⟨fun _ => Cvr.nil (fun o _ => by rw [e0]; simp), fun _ => rfl⟩⟩
    · obtain ⟨o, o1, o2, o3⟩ := zbit O e0 hO
      have hbo := bs_lt16 (jn U W o) h16
      have hch : nI (bs (jn U W o) W.1) &&& nI A = nI (bs (jn U W o) W.1 &&& A) := nI_and _ _
      have hchl : (bs (jn U W o) W.1 &&& A) < 2 ^ 31 := Nat.lt_of_le_of_lt Nat.and_le_left (by omega)
      rw [if_neg e0, if_pos (show (0 : Int32) < nI (e + 1) from nI_lt (a := 0) (by omega) (by omega)), c_ntz (by omega) o2 o3, Option.bind_some, chk_nI (by omega) (by decide), bnd, nI_cl (show o < 2 ^ 31 by omega), hW.2.2.2.2.2.2.1 o o1, hch]
      have hstep := Cvr.step (J := jn U W) (n := W.1) (A := A.testBit) (O := O.testBit) (e := e) (jn_sym U W) o1 o2
      have key : ∀ d q s, s + d = 16 → d < q → ∃ b : Bool, X1_suffices_L31 (X1_suffices_F σ m) σ q (nI A) (nI O) (nI (e + 1)) (nI (bs (jn U W o) W.1 &&& A)) (nI s) = some (b2 b) ∧ (b = true ↔ ∃ x, s ≤ x ∧ x < W.1 ∧ A.testBit x = true ∧ jn U W o x = true ∧ Cvr (jn U W) W.1 A.testBit (fun q => O.testBit q && !jn U W x q) e) := by
        intro d
        induction d with
        | zero =>
          intro q s hs hq
          obtain ⟨q, rfl⟩ : ∃ z, q = z + 1 := ⟨q - 1, by omega⟩
          have : s = 16 := by omega
          subst this
          exact ⟨false, by rw [X1_suffices_L31, if_pos (by decide)]; rfl, ⟨fun h => (by cases h), fun ⟨x, x1, x2, _⟩ => by omega⟩⟩
        | succ d ihd =>
          intro q s hs hq
          obtain ⟨q, rfl⟩ : ∃ z, q = z + 1 := ⟨q - 1, by omega⟩
          obtain ⟨b', b1, b2'⟩ := ihd q (s + 1) (by omega) (by omega)
          have bit : (bs (jn U W o) W.1 &&& A).testBit s = (decide (s < W.1) && jn U W o s && A.testBit s) := by rw [Nat.testBit_and, bs_bit]
          rw [X1_suffices_L31, if_neg (show ¬ (16 : Int32) ≤ nI s from nI_ge (b := 16) (by omega) (by decide))]
          unfold X1_suffices_B54
          by_cases ec : (bs (jn U W o) W.1 &&& A).testBit s = true
          · have ec' := ec
            rw [bit, Bool.and_eq_true, Bool.and_eq_true, decide_eq_true_eq] at ec'
            obtain ⟨⟨c1, c2⟩, c3⟩ := ec'
            have hbs := bs_lt16 (jn U W s) h16
            have hO' : (O &&& (bs (jn U W s) W.1 ^^^ 65535)) < 2 ^ W.1 := Nat.lt_of_le_of_lt Nat.and_le_left hO
            have hbitO : ∀ i, (O &&& (bs (jn U W s) W.1 ^^^ 65535)).testBit i = (O.testBit i && !jn U W s i) := fun i => by
              rw [Nat.testBit_and, Nat.testBit_xor, bs_bit]
              by_cases hi : i < W.1
              · have h65 : (65535 : Nat).testBit i = true := by
                  have : ∀ i, i < 16 → (65535 : Nat).testBit i = true := by decide
                  exact this i (by omega)
                rw [h65]
                simp [hi]
              · have : O.testBit i = false := Nat.testBit_lt_two_pow (Nat.lt_of_lt_of_le hO (Nat.pow_le_pow_right (n := 2) (by decide) (show W.1 ≤ i by omega)))
                rw [this]
                rfl
            obtain ⟨b'', q1, q2⟩ := ih (by omega) m (O &&& (bs (jn U W s) W.1 ^^^ 65535)) (by omega) hO'
            have hfun : (O &&& (bs (jn U W s) W.1 ^^^ 65535)).testBit = fun i => O.testBit i && !jn U W s i := by funext i; exact hbitO i
            rw [hfun] at q2
            rw [if_pos ((bit32 hchl (show s < 32 by omega)).mpr ec), if_neg n10, chk_nI (by omega) (by decide), nI_cl (by omega), hW.2.2.2.2.2.2.1 s c1, nI_xm (by omega) (by omega), show nI (e + 1) - 1 = nI e from subI (a := e + 1) (b := 1) (by omega), q1, Option.bind_some, nI_1, b1]
            cases b'' with
            | true =>
              rw [if_neg (show ¬ b2 true = 0 from n10)]
              exact ⟨true, rfl, ⟨fun _ => ⟨s, Nat.le_refl _, c1, c3, c2, q2.mp rfl⟩, fun _ => rfl⟩⟩
            | false =>
              rw [if_pos (show b2 false = 0 from rfl)]
              refine ⟨b', rfl, b2'.trans ⟨fun ⟨x, x1, x2⟩ => ⟨x, by omega, x2⟩, fun ⟨x, x1, x2, x3, x4, x5⟩ => ?_⟩⟩
              by_cases ex : x = s
              · subst ex
                have := q2.mpr x5
                cases this
              · exact ⟨x, by omega, x2, x3, x4, x5⟩
          · rw [if_neg (fun h => ec ((bit32 hchl (show s < 32 by omega)).mp h)), if_pos rfl, nI_1, b1]
            refine ⟨b', rfl, b2'.trans ⟨fun ⟨x, x1, x2⟩ => ⟨x, by omega, x2⟩, fun ⟨x, x1, x2, x3, x4, x5⟩ => ?_⟩⟩
            by_cases ex : x = s
            · subst ex
              exact absurd (by rw [bit, x3, x4]; simp [x2]) ec
            · exact ⟨x, by omega, x2, x3, x4, x5⟩
      obtain ⟨b, b1, b2'⟩ := key 16 FU 0 (by decide) (by decide)
      refine ⟨b, b1, b2'.trans ?_⟩
      rw [hstep]
      exact ⟨fun ⟨x, _, x2, x3, x4, x5⟩ => ⟨x, x2, x3, x4, x5⟩, fun ⟨x, x2, x3, x4, x5⟩ => ⟨x, by omega, x2, x3, x4, x5⟩⟩
/-- what standing looks for: the fewest, then the least -/
def STD (J : Nat → Nat → Bool) (n k T : Nat) : Prop := T < 2 ^ n ∧ covM J n T = true ∧ bc T 16 = k ∧ (∀ S, S < 2 ^ n → covM J n S = true → k ≤ bc S 16) ∧ ∀ S, S < 2 ^ n → covM J n S = true → bc S 16 = k → T ≤ S
theorem bit_all {n i : Nat} : (2 ^ n - 1).testBit i = decide (i < n) := Nat.testBit_two_pow_sub_one n i
theorem cov_all {J : Nat → Nat → Bool} {n : Nat} (hr : ∀ s, J s s = true) : covM J n (2 ^ n - 1) = true := covM_iff.mpr (fun q hq => ⟨q, hq, by rw [bit_all]; simp [hq], hr q⟩)
theorem STD_ex {J : Nat → Nat → Bool} {n : Nat} (hr : ∀ s, J s s = true) : ∃ k T, STD J n k T := by
  have hp : 0 < 2 ^ n := Nat.pow_pos (by decide)
  obtain ⟨k, ⟨S, s1, s2, s3⟩, k2⟩ := least_ex (P := fun k => ∃ S, S < 2 ^ n ∧ covM J n S = true ∧ bc S 16 = k) (bc (2 ^ n - 1) 16) ⟨2 ^ n - 1, by omega, cov_all hr, rfl⟩
  obtain ⟨T, ⟨t1, t2, t3⟩, t4⟩ := least_ex (P := fun T => T < 2 ^ n ∧ covM J n T = true ∧ bc T 16 = k) S ⟨s1, s2, s3⟩
  exact ⟨k, T, t1, t2, t3, fun S h1 h2 => k2 _ ⟨S, h1, h2, rfl⟩, fun S h1 h2 h3 => t4 S ⟨h1, h2, h3⟩⟩
theorem STD_un {J : Nat → Nat → Bool} {n k T k' T' : Nat} (h : STD J n k T) (h' : STD J n k' T') : k = k' ∧ T = T' := by
  obtain ⟨a1, a2, a3, a4, a5⟩ := h
  obtain ⟨b1, b2, b3, b4, b5⟩ := h'
  have c1 := a4 T' b1 b2
  have c2 := b4 T a1 a2
  have hk : k = k' := by omega
  subst hk
  have c3 := a5 T' b1 b2 b3
  have c4 := b5 T a1 a2 a3
  exact ⟨rfl, by omega⟩
theorem STD.cvr {J : Nat → Nat → Bool} {n k T : Nat} (hn : n ≤ 16) (h : STD J n k T) (e : Nat) : Cvr J n (2 ^ n - 1).testBit (fun _ => true) e ↔ k ≤ e := by
  rw [Cvr_mask hn]
  constructor
  · rintro ⟨S, s1, s2, s3, s4⟩
    have := h.2.2.2.1 S s1 s2
    omega
  · intro he
    refine ⟨T, h.1, h.2.1, by rw [h.2.2.1]; exact he, fun i hi => ?_⟩
    rw [bit_all]
    by_cases hin : i < n
    · simp [hin]
    · have : T.testBit i = false := Nat.testBit_lt_two_pow (Nat.lt_of_lt_of_le h.1 (Nat.pow_le_pow_right (n := 2) (by decide) (show n ≤ i by omega)))
      rw [this] at hi
      cases hi
end CoverC
