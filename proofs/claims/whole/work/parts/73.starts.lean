/-! starts, judge, pace -/
section Srch
/-- what both searches find: the fewest, the first of them, what is in all of them -/
def SR (Gd : Nat → Bool) (sz : Nat → Nat) (pr l f a : Nat) : Prop := f ≤ pr ∧ Gd f = true ∧ sz f = l ∧ (∀ t, t ≤ pr → Gd t = true → l ≤ sz t ∧ (sz t = l → f ≤ t)) ∧ ∀ i, (a.testBit i = true ↔ ∀ t, t ≤ pr → Gd t = true → sz t = l → t.testBit i = true)
theorem SR.un {Gd : Nat → Bool} {sz : Nat → Nat} {pr l f a l' f' a' : Nat} (h : SR Gd sz pr l f a) (h' : SR Gd sz pr l' f' a') : l = l' ∧ f = f' ∧ a = a' := by
  obtain ⟨a1, a2, a3, a4, a5⟩ := h
  obtain ⟨b1, b2, b3, b4, b5⟩ := h'
  have c1 := (a4 f' b1 b2).1
  have c2 := (b4 f a1 a2).1
  have hl : l = l' := by omega
  subst hl
  have c3 := (a4 f' b1 b2).2 (by omega)
  have c4 := (b4 f a1 a2).2 (by omega)
  refine ⟨rfl, by omega, ?_⟩
  apply Nat.eq_of_testBit_eq
  intro i
  rw [Bool.eq_iff_iff, a5 i, b5 i]
def CI (Gd : Nat → Bool) (sz : Nat → Nat) (pr s l f a : Nat) : Prop := ((∀ t, t < s → Gd t = false) ∧ l = sz pr + 1 ∧ f = pr ∧ a = pr) ∨ (f < s ∧ Gd f = true ∧ sz f = l ∧ (∀ t, t < s → Gd t = true → l ≤ sz t ∧ (sz t = l → f ≤ t)) ∧ ∀ i, (a.testBit i = true ↔ ∀ t, t < s → Gd t = true → sz t = l → t.testBit i = true))
theorem CI.no {Gd : Nat → Bool} {sz : Nat → Nat} {pr s l f a : Nat} (h : CI Gd sz pr s l f a) (hg : Gd s = false ∨ l < sz s) (hz : Gd s = true → sz s ≤ sz pr) : CI Gd sz pr (s + 1) l f a := by
  rcases h with ⟨h1, h2, h3, h4⟩ | ⟨h1, h2, h3, h4, h5⟩
  · refine Or.inl ⟨fun t ht => ?_, h2, h3, h4⟩
    by_cases e : t = s
    · subst e
      rcases hg with hg | hg
      · exact hg
      · cases hgs : Gd t with
        | false => rfl
        | true => have := hz hgs; omega
    · exact h1 t (by omega)
  · refine Or.inr ⟨by omega, h2, h3, fun t ht hgt => ?_, fun i => ?_⟩
    · by_cases e : t = s
      · subst e
        rcases hg with hg | hg
        · rw [hg] at hgt; cases hgt
        · exact ⟨by omega, fun h => by omega⟩
      · exact h4 t (by omega) hgt
    · rw [h5 i]
      constructor
      · intro h t ht hgt he
        by_cases e : t = s
        · subst e
          rcases hg with hg | hg
          · rw [hg] at hgt; cases hgt
          · omega
        · exact h t (by omega) hgt he
      · intro h t ht
        exact h t (by omega)
theorem CI.nw {Gd : Nat → Bool} {sz : Nat → Nat} {pr s l f a : Nat} (h : CI Gd sz pr s l f a) (hg : Gd s = true) (hl : sz s < l) : CI Gd sz pr (s + 1) (sz s) s s := by
  have hn : ∀ t, t < s → Gd t = true → sz s < sz t := fun t ht hgt => by
    rcases h with ⟨h1, h2, h3, h4⟩ | ⟨h1, h2, h3, h4, h5⟩
    · rw [h1 t ht] at hgt; cases hgt
    · have := (h4 t ht hgt).1
      omega
  refine Or.inr ⟨by omega, hg, rfl, fun t ht hgt => ?_, fun i => ?_⟩
  · by_cases e : t = s
    · subst e; exact ⟨Nat.le_refl _, fun _ => Nat.le_refl _⟩
    · have := hn t (by omega) hgt
      exact ⟨by omega, fun h => by omega⟩
  · constructor
    · intro hi t ht hgt he
      by_cases e : t = s
      · subst e; exact hi
      · have := hn t (by omega) hgt
        omega
    · intro hi
      exact hi s (by omega) hg rfl
theorem CI.eq {Gd : Nat → Bool} {sz : Nat → Nat} {pr s l f a : Nat} (h : CI Gd sz pr s l f a) (hg : Gd s = true) (hl : sz s = l) (hz : sz s ≤ sz pr) : CI Gd sz pr (s + 1) l f (a &&& s) := by
  rcases h with ⟨h1, h2, h3, h4⟩ | ⟨h1, h2, h3, h4, h5⟩
  · omega
  · refine Or.inr ⟨by omega, h2, h3, fun t ht hgt => ?_, fun i => ?_⟩
    · by_cases e : t = s
      · subst e; exact ⟨by omega, fun _ => by omega⟩
      · exact h4 t (by omega) hgt
    · rw [Nat.testBit_and, Bool.and_eq_true, h5 i]
      constructor
      · intro hi t ht hgt he
        by_cases e : t = s
        · subst e; exact hi.2
        · exact hi.1 t (by omega) hgt he
      · intro hi
        exact ⟨fun t ht => hi t (by omega), hi s (by omega) hg hl⟩
theorem CI.fin {Gd : Nat → Bool} {sz : Nat → Nat} {pr l f a : Nat} (h : CI Gd sz pr (pr + 1) l f a) (hg : Gd pr = true) : SR Gd sz pr l f a := by
  rcases h with ⟨h1, h2, h3, h4⟩ | ⟨h1, h2, h3, h4, h5⟩
  · rw [h1 pr (by omega)] at hg; cases hg
  · refine ⟨by omega, h2, h3, fun t ht => h4 t (by omega), fun i => ?_⟩
    rw [h5 i]
    constructor
    · intro hi t ht; exact hi t (by omega)
    · intro hi t ht; exact hi t (by omega)
/-- the reference, one size k, from above down to j -/
def RI (Gd : Nat → Bool) (sz : Nat → Nat) (pr k j n f a : Nat) : Prop := (n = 0 ∧ f = pr ∧ a = pr ∧ ∀ t, j ≤ t → t ≤ pr → Gd t = true → sz t ≠ k) ∨ (0 < n ∧ j ≤ f ∧ f ≤ pr ∧ Gd f = true ∧ sz f = k ∧ (∀ t, j ≤ t → t ≤ pr → Gd t = true → sz t = k → f ≤ t) ∧ ∀ i, (a.testBit i = true ↔ ∀ t, j ≤ t → t ≤ pr → Gd t = true → sz t = k → t.testBit i = true))
theorem RI.no {Gd : Nat → Bool} {sz : Nat → Nat} {pr k j n f a : Nat} (h : RI Gd sz pr k (j + 1) n f a) (hg : Gd j = true → sz j ≠ k) : RI Gd sz pr k j n f a := by
  rcases h with ⟨h1, h2, h3, h4⟩ | ⟨h1, h2, h3, h4, h5, h6, h7⟩
  · refine Or.inl ⟨h1, h2, h3, fun t ht htp hgt => ?_⟩
    by_cases e : t = j
    · subst e; exact hg hgt
    · exact h4 t (by omega) htp hgt
  · refine Or.inr ⟨h1, by omega, h3, h4, h5, fun t ht htp hgt he => ?_, fun i => ?_⟩
    · by_cases e : t = j
      · subst e; exact absurd he (hg hgt)
      · exact h6 t (by omega) htp hgt he
    · rw [h7 i]
      constructor
      · intro hi t ht htp hgt he
        by_cases e : t = j
        · subst e; exact absurd he (hg hgt)
        · exact hi t (by omega) htp hgt he
      · intro hi t ht; exact hi t (by omega)
theorem RI.yes {Gd : Nat → Bool} {sz : Nat → Nat} {pr k j n f a : Nat} (h : RI Gd sz pr k (j + 1) n f a) (hj : j ≤ pr) (hg : Gd j = true) (hs : sz j = k) (hsub : ∀ i, j.testBit i = true → pr.testBit i = true) : RI Gd sz pr k j (n + 1) j (a &&& j) := by
  refine Or.inr ⟨by omega, by omega, hj, hg, hs, fun t ht _ _ _ => ht, fun i => ?_⟩
  rw [Nat.testBit_and, Bool.and_eq_true]
  rcases h with ⟨h1, h2, h3, h4⟩ | ⟨h1, h2, h3, h4, h5, h6, h7⟩
  · constructor
    · intro hi t ht htp hgt he
      by_cases e : t = j
      · subst e; exact hi.2
      · exact absurd he (h4 t (by omega) htp hgt)
    · intro hi
      have := hi j (Nat.le_refl _) hj hg hs
      exact ⟨by rw [h3]; exact hsub i this, this⟩
  · rw [h7 i]
    constructor
    · intro hi t ht htp hgt he
      by_cases e : t = j
      · subst e; exact hi.2
      · exact hi.1 t (by omega) htp hgt he
    · intro hi
      exact ⟨fun t ht => hi t (by omega), hi j (Nat.le_refl _) hj hg hs⟩
theorem bc_mono {x y : Nat} (h : ∀ i, x.testBit i = true → y.testBit i = true) : ∀ n, bc x n ≤ bc y n
  | 0 => Nat.le_refl _
  | n + 1 => by
    have ih := bc_mono h n
    rw [bc_s, bc_s]
    by_cases e : x.testBit n = true
    · rw [if_pos e, if_pos (h n e)]; omega
    · rw [if_neg e]; omega
theorem sub_bit {a b : Nat} (ha : a < 65536) (h : a &&& (b ^^^ 65535) = 0) : ∀ i, a.testBit i = true → b.testBit i = true := fun i hi => by
  have h1 := congrArg (fun z => Nat.testBit z i) h
  simp only [Nat.testBit_and, Nat.testBit_xor, Nat.zero_testBit, hi, Bool.true_and] at h1
  have hi16 : i < 16 := by
    by_cases h16 : i < 16
    · exact h16
    · have : a.testBit i = false := Nat.testBit_lt_two_pow (Nat.lt_of_lt_of_le (show a < 2 ^ 16 from ha) (Nat.pow_le_pow_right (n := 2) (by decide) (show 16 ≤ i by omega)))
      rw [this] at hi; cases hi
  have h2 : (65535 : Nat).testBit i = true := by
    have : ∀ i, i < 16 → (65535 : Nat).testBit i = true := by decide
    exact this i hi16
  rw [h2] at h1
  simpa using h1
theorem sub_of {a b : Nat} (h : ∀ i, a.testBit i = true → b.testBit i = true) (ha : a < 65536) : a &&& (b ^^^ 65535) = 0 := by
  apply Nat.eq_of_testBit_eq
  intro i
  rw [Nat.testBit_and, Nat.testBit_xor, Nat.zero_testBit]
  cases hi : a.testBit i with
  | false => rfl
  | true =>
    have h2 : (65535 : Nat).testBit i = true := by
      by_cases h16 : i < 16
      · have : ∀ i, i < 16 → (65535 : Nat).testBit i = true := by decide
        exact this i h16
      · have : a.testBit i = false := Nat.testBit_lt_two_pow (Nat.lt_of_lt_of_le (show a < 2 ^ 16 from ha) (Nat.pow_le_pow_right (n := 2) (by decide) (show 16 ≤ i by omega)))
        rw [this] at hi; cases hi
    rw [h i hi, h2]; rfl
end Srch
section Starts
variable {σ τ : St} {P : DP} {f : Nat → Option Nat} {m : Nat}
def gdS (P : DP) (f : Nat → Option Nat) (m S : Nat) : Bool := decide (S &&& (bs (prs f) P.1 ^^^ 65535) = 0) && cov P f m S
theorem gd_sub (w : P.1 ≤ 8) {S : Nat} (hS : S < 65536) (h : S &&& (bs (prs f) P.1 ^^^ 65535) = 0) : ∀ i, S.testBit i = true → i < P.1 ∧ prs f i = true := fun i hi => by
  have := sub_bit hS h i hi
  rw [bs_bit, Bool.and_eq_true, decide_eq_true_eq] at this
  exact this
theorem gd_pr (w : P.1 ≤ 8) : gdS P f m (bs (prs f) P.1) = true := by
  have hb := bs_lt8 (prs f) w
  unfold gdS
  rw [Bool.and_eq_true, decide_eq_true_eq]
  refine ⟨sub_of (fun i h => h) (by omega), cov_iff.mpr (fun q hq hp => ⟨q, hq, ?_, ?_⟩)⟩
  · rw [bs_bit, hp]; simp [hq]
  · unfold rch; simp
theorem gd_sz (w : P.1 ≤ 8) {S : Nat} (hS : S ≤ bs (prs f) P.1) (h : gdS P f m S = true) : bc S 16 ≤ bc (bs (prs f) P.1) 16 := by
  have hb := bs_lt8 (prs f) w
  unfold gdS at h
  rw [Bool.and_eq_true, decide_eq_true_eq] at h
  exact bc_mono (sub_bit (by omega) h.1) 16
/-- the class searches -/
theorem c_search (h : OC σ P f) (w : WP P) (hr : OR_ σ P f m) : ∃ σ' l fw a, X4_search σ = some σ' ∧ FrO σ σ' ∧ SR (gdS P f m) (fun s => bc s 16) (bs (prs f) P.1) l fw a ∧ gI σ' 46 5 = nI fw ∧ gI σ' 46 6 = nI a ∧ gI σ' 46 4 = nI (bs (prs f) P.1) := by
  have h8 := w.1
  have hb := bs_lt8 (prs f) h8
  have key : ∀ d n s σ1 l fw a, s + d = bs (prs f) P.1 + 1 → d < n → FrO σ σ1 → OC σ1 P f → OR_ σ1 P f m → gI σ1 46 5 = nI fw → gI σ1 46 6 = nI a → l ≤ 17 → CI (gdS P f m) (fun s => bc s 16) (bs (prs f) P.1) s l fw a → ∃ σ' l' fw' a', X4_search_L28 n (nI l) (nI s) σ1 = some σ' ∧ FrO σ σ' ∧ SR (gdS P f m) (fun s => bc s 16) (bs (prs f) P.1) l' fw' a' ∧ gI σ' 46 5 = nI fw' ∧ gI σ' 46 6 = nI a' ∧ gI σ' 46 4 = nI (bs (prs f) P.1) := by
    intro d
    induction d with
    | zero =>
      intro n s σ1 l fw a hs hn g1 g2 g3 g5 g6 gl gI'
      obtain ⟨n, rfl⟩ : ∃ q, n = q + 1 := ⟨n - 1, by omega⟩
      have hs' : s = bs (prs f) P.1 + 1 := by omega
      rw [hs'] at gI' ⊢
      exact ⟨σ1, l, fw, a, by rw [X4_search_L28, g2.2.1, if_pos (by rw [ltI (by omega) (by omega)]; omega)], g1, gI'.fin (gd_pr h8), g5, g6, g2.2.1⟩
    | succ d ih =>
      intro n s σ1 l fw a hs hn g1 g2 g3 g5 g6 gl gI'
      obtain ⟨n, rfl⟩ : ∃ q, n = q + 1 := ⟨n - 1, by omega⟩
      have hsz := bc_le s 16
      rw [X4_search_L28, g2.2.1, if_neg (by rw [ltI (by omega) (by omega)]; omega), c_pop32 (by omega), Option.bind_some, bc16 (by omega), nI_xm (by omega) (by omega), nI_1]
      have hx : (s &&& (bs (prs f) P.1 ^^^ 65535)) < 2 ^ 31 := Nat.lt_of_le_of_lt Nat.and_le_left (by omega)
      simp only [show (0 : Int32) = nI 0 from rfl, eqI hx (show 0 < 2 ^ 31 by decide)]
      by_cases e1 : s &&& (bs (prs f) P.1 ^^^ 65535) = 0
      · have hsub := gd_sub h8 (show s < 65536 by omega) e1
        rw [if_pos e1]
        simp only [ltI (show l < 2 ^ 31 by omega) (show bc s 16 < 2 ^ 31 by omega), leI (show l < 2 ^ 31 by omega) (show bc s 16 < 2 ^ 31 by omega)]
        by_cases e2 : l < bc s 16
        · rw [if_pos e2]
          exact ih n (s + 1) σ1 l fw a (by omega) (by omega) g1 g2 g3 g5 g6 gl (gI'.no (Or.inr e2) (fun h => gd_sz h8 (by omega) h))
        · rw [if_neg e2, c_lets g2 w g3 (by omega) hsub, Option.bind_some]
          have hgd : gdS P f m s = cov P f m s := by unfold gdS; rw [e1]; simp
          cases e3 : cov P f m s with
          | false =>
            rw [if_pos (show b2 false = nI 0 from rfl)]
            exact ih n (s + 1) σ1 l fw a (by omega) (by omega) g1 g2 g3 g5 g6 gl (gI'.no (Or.inl (by rw [hgd, e3])) (fun h => gd_sz h8 (by omega) h))
          | true =>
            rw [if_neg (show ¬ b2 true = nI 0 from n10)]
            have hgt : gdS P f m s = true := by rw [hgd, e3]
            have hzl := gd_sz h8 (show s ≤ bs (prs f) P.1 by omega) hgt
            have keep : ∀ v6 v5, OC (sI (sI σ1 46 6 v6) 46 5 v5) P f ∧ OR_ (sI (sI σ1 46 6 v6) 46 5 v5) P f m ∧ FrO σ (sI (sI σ1 46 6 v6) 46 5 v5) := fun v6 v5 => by
              refine ⟨⟨((FrO.rf.sI (by omega)).sI (by omega)).cp g2.1, ?_, ?_⟩, ?_, (g1.sI (by omega)).sI (by omega)⟩
              · rw [gI_sI, if_neg (by decide), gI_sI, if_neg (by decide)]; exact g2.2.1
              · intro p hp; rw [gI_sIn (by decide), gI_sIn (by decide)]; exact g2.2.2 p hp
              · intro p hp; rw [gI_sIn (by decide), gI_sIn (by decide)]; exact g3 p hp
            have g46 : ∀ v6 v5, gI (sI (sI σ1 46 6 v6) 46 5 v5) 46 6 = v6 := fun v6 v5 => by
              rw [gI_sI, if_neg (by decide), gI_sI, if_pos ⟨rfl, rfl⟩]
            have g45 : ∀ v6 v5, gI (sI (sI σ1 46 6 v6) 46 5 v5) 46 5 = v5 := fun v6 v5 => by
              rw [gI_sI, if_pos ⟨rfl, rfl⟩]
            have g45' : ∀ v6, gI (sI σ1 46 6 v6) 46 5 = nI fw := fun v6 => by
              rw [gI_sI, if_neg (by decide), g5]
            by_cases e4 : l ≤ bc s 16
            · have e5 : bc s 16 = l := by omega
              rw [if_pos e4]
              unfold X4_search_B81
              rw [bnd]
              simp only [leI (show l < 2 ^ 31 by omega) (show bc s 16 < 2 ^ 31 by omega)]
              rw [if_pos e4, bnd, g45', g6, nI_and, nI_1, e5]
              obtain ⟨k1, k2, k3⟩ := keep (nI (a &&& s)) (nI fw)
              exact ih n (s + 1) _ l fw (a &&& s) (by omega) (by omega) k3 k1 k2 (g45 _ _) (g46 _ _) gl (gI'.eq hgt e5 hzl)
            · rw [if_neg e4]
              unfold X4_search_B81
              rw [bnd]
              simp only [leI (show l < 2 ^ 31 by omega) (show bc s 16 < 2 ^ 31 by omega)]
              rw [if_neg e4, bnd, nI_1]
              obtain ⟨k1, k2, k3⟩ := keep (nI s) (nI s)
              exact ih n (s + 1) _ (bc s 16) s s (by omega) (by omega) k3 k1 k2 (g45 _ _) (g46 _ _) (by omega) (gI'.nw hgt (by omega))
      · rw [if_neg e1]
        exact ih n (s + 1) σ1 l fw a (by omega) (by omega) g1 g2 g3 g5 g6 gl (gI'.no (Or.inl (by unfold gdS; simp [e1])) (fun h => gd_sz h8 (by omega) h))
  have hle := bc_le (bs (prs f) P.1) 16
  unfold X4_search
  rw [bnd, h.2.1, bnd]
  have g4 : gI (sI σ 46 5 (nI (bs (prs f) P.1))) 46 4 = nI (bs (prs f) P.1) := by rw [gI_sI, if_neg (by decide)]; exact h.2.1
  have g4' : gI (sI (sI σ 46 5 (nI (bs (prs f) P.1))) 46 6 (nI (bs (prs f) P.1))) 46 4 = nI (bs (prs f) P.1) := by rw [gI_sI, if_neg (by decide)]; exact g4
  rw [g4, g4', c_pop32 (by omega), Option.bind_some, bc16 (by omega), bnd, nI_1]
  refine key (bs (prs f) P.1 + 1) FU 0 _ (bc (bs (prs f) P.1) 16 + 1) _ _ (by omega) (by show _ < 1000000; omega) ((FrO.rf.sI (by omega)).sI (by omega)) ⟨((FrO.rf.sI (by omega)).sI (by omega)).cp h.1, g4', ?_⟩ ?_ ?_ ?_ (by omega) (Or.inl ⟨fun t ht => by omega, rfl, rfl, rfl⟩)
  · intro p hp; rw [gI_sIn (by decide), gI_sIn (by decide)]; exact h.2.2 p hp
  · intro p hp; rw [gI_sIn (by decide), gI_sIn (by decide)]; exact hr p hp
  · rw [gI_sI, if_neg (by decide), gI_sI, if_pos ⟨rfl, rfl⟩]
  · rw [gI_sI, if_pos ⟨rfl, rfl⟩]
end Starts
