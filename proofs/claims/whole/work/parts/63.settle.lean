/-! the class settles a spelling: its sounds, how far it is from the others, what it is joined to -/
theorem bs_up (p : Nat → Bool) (s : Nat) : bs p s = bs (fun k => decide (k < s) && p k) (s + 1) := by
  apply Nat.eq_of_testBit_eq
  intro k
  rw [bs_bit, bs_bit]
  by_cases h : k < s
  · simp [h, show k < s + 1 by omega]
  · simp [h]
theorem nI_bs1 {p : Nat → Bool} {t n : Nat} (ht : t < n) (hn : n ≤ 16) : nI (bs p n) ||| ((1 : Int32) <<< (nI t &&& 31)) = nI (bs (fun k => p k || decide (k = t)) n) := by
  rw [one_shl32 t (by omega), bs_one ht, nI_or, bs_or]
section Settle
variable {σ : St} {U : DU} {W : DW} {r : Nat}
/-- the first s of n spellings are settled -/
def CWk (σ : St) (W : DW) (U : DU) (s n : Nat) : Prop := gI σ 18 1 = nI n ∧ (∀ t, t < n → gJ σ 19 t = lN (pk (W.2 t))) ∧ (∀ t, t < s → sndC σ t (snd U (W.2 t))) ∧ (∀ p q, p < s → q < s → gI σ 24 (16 * p + q) = nI (ap U W p q)) ∧ (∀ q, q < 16 → gI σ 24 (17 * q) = 0) ∧ ∀ p, p < s → gI σ 20 p = nI (bs (jn U W p) s)
def FrS (σ σ' : St) : Prop := (∀ q, q ≠ 20 → q ≠ 22 → q ≠ 23 → q ≠ 24 → q ≠ 26 → gI σ' q = gI σ q) ∧ gJ σ' = gJ σ ∧ gR σ' = gR σ
theorem jn_self (s : Nat) : jn U W s s = true := by
  unfold jn ap
  rw [if_pos rfl]
  simp
/-- on the way: s measured against those below t -/
def MidS (σ σ' : St) (W : DW) (U : DU) (s t : Nat) : Prop := (∀ q, q ≠ 20 → q ≠ 24 → q ≠ 26 → gI σ' q = gI σ q) ∧ gJ σ' = gJ σ ∧ gR σ' = gR σ ∧ (∀ p q, p < s → q < s → gI σ' 24 (16 * p + q) = nI (ap U W p q)) ∧ (∀ q, q < 16 → gI σ' 24 (17 * q) = 0) ∧ (∀ q, q < t → gI σ' 24 (16 * s + q) = nI (ap U W s q) ∧ gI σ' 24 (16 * q + s) = nI (ap U W q s)) ∧ (∀ p, p < s → gI σ' 20 p = nI (if p < t then bs (jn U W p) (s + 1) else bs (jn U W p) s)) ∧ gI σ' 20 s = nI (bs (fun k => decide (k = s) || (decide (k < t) && jn U W s k)) (s + 1))
theorem ap_ne {s t : Nat} (h : s ≠ t) : ap U W s t = apl U (snd U (W.2 s)) (snd U (W.2 t)) := by
  unfold ap
  rw [if_neg h]
theorem c_settleL (hU : CU σ r U) (wU : WU U) (hr : r < 2) (hq : gR σ 18 5 = r) {s : Nat} (hs : s < 16) (hS : ∀ t, t ≤ s → sndC σ t (snd U (W.2 t)) ∧ (snd U (W.2 t)).length ≤ 20 ∧ LTR (snd U (W.2 t))) : ∀ d m t σ', t + d = s → d < m → MidS σ σ' W U s t → ∃ σ'', X9_settle_L16 m (nI s) (nI t) σ' = some σ'' ∧ MidS σ σ'' W U s s := by
  intro d
  induction d with
  | zero =>
    intro m t σ' ht hm hI
    obtain ⟨m, rfl⟩ : ∃ q, m = q + 1 := ⟨m - 1, by omega⟩
    have : t = s := by omega
    subst this
    exact ⟨σ', by rw [X9_settle_L16, if_pos (nI_le (Nat.le_refl _) (by omega))], hI⟩
  | succ d ih =>
    intro m t σ' ht hm hI
    obtain ⟨m, rfl⟩ : ∃ q, m = q + 1 := ⟨m - 1, by omega⟩
    obtain ⟨i1, i2, i3, i4, i5, i6, i7, i8⟩ := hI
    have hts : t < s := by omega
    have hU' : CU σ' r U := hU.fr hr (fun q _ _ => i1 q (by omega) (by omega) (by omega))
    have hS' : ∀ t, t ≤ s → sndC σ' t (snd U (W.2 t)) := fun t ht => by
      unfold sndC
      rw [i1 22 (by decide) (by decide) (by decide), i1 23 (by decide) (by decide) (by decide)]
      exact (hS t ht).1
    obtain ⟨f, hf⟩ := c_measure (s := s) (t := t) hU' wU hr (by rw [i3]; exact hq) hs (by omega) (hS s (Nat.le_refl _)).2.2 (hS s (Nat.le_refl _)).2.1 (hS t (by omega)).2.2 (hS t (by omega)).2.1 (hS' s (Nat.le_refl _)) (hS' t (by omega))
    rw [← ap_ne (U := U) (W := W) (show s ≠ t by omega)] at hf
    have hal : ap U W s t ≤ 800 := by
      rw [ap_ne (by omega)]
      have := apl_le wU (snd U (W.2 s)) (snd U (W.2 t))
      have h1 := (hS s (Nat.le_refl _)).2.1
      have h2 := (hS t (by omega)).2.1
      omega
    have hjl := wU.2.2.2.2.2.1 2 (by decide)
    have hjc := hU'.2.2.1 2 (by decide)
    rw [X9_settle_L16, if_neg (nI_ge hts (by omega)), hf, Option.bind_some, mulr16, mulr16, chk_nI (by omega) (by decide), bnd, nI_cl (show 16 * s + t < 2 ^ 31 by omega), chk_nI (by omega) (by decide), bnd, nI_cl (show 16 * t + s < 2 ^ 31 by omega)]
    have hR' : gR σ' 18 5 = r := by rw [i3]; exact hq
    have e7 : gI (sI (sI (sIf σ' 26 f) 24 (16 * s + t) (nI (ap U W s t))) 24 (16 * t + s) (nI (ap U W s t))) (6 + r) 2 = nI (uN U 2) := by
      rw [gI_sIn (by omega), gI_sIn (by omega), gI_sIfn (by omega), hjc]
    simp only [gR_sI, gR_sIf, hR', chkN_lt hr, e7, ltI (show uN U 2 < 2 ^ 31 by omega) (show ap U W s t < 2 ^ 31 by omega)]
    have base : ∀ q, q ≠ 20 → q ≠ 24 → q ≠ 26 → gI (sI (sI (sIf σ' 26 f) 24 (16 * s + t) (nI (ap U W s t))) 24 (16 * t + s) (nI (ap U W s t))) q = gI σ q := fun q h1 h2 h3 => by
      rw [gI_sIn h2, gI_sIn h2, gI_sIfn h3]
      exact i1 q h1 h2 h3
    have b20 : gI (sI (sI (sIf σ' 26 f) 24 (16 * s + t) (nI (ap U W s t))) 24 (16 * t + s) (nI (ap U W s t))) 20 = gI σ' 20 := by
      rw [gI_sIn (by decide), gI_sIn (by decide), gI_sIfn (by decide)]
    have b24 : ∀ j, gI (sI (sI (sIf σ' 26 f) 24 (16 * s + t) (nI (ap U W s t))) 24 (16 * t + s) (nI (ap U W s t))) 24 j = if j = 16 * t + s ∨ j = 16 * s + t then nI (ap U W s t) else gI σ' 24 j := fun j => by
      rw [gI_sI, gI_sI, gI_sIfn (by decide)]
      by_cases e1 : j = 16 * t + s
      · simp [e1]
      · by_cases e2 : j = 16 * s + t
        · simp [e2]
        · simp [e1, e2]
    generalize hσ1 : sI (sI (sIf σ' 26 f) 24 (16 * s + t) (nI (ap U W s t))) 24 (16 * t + s) (nI (ap U W s t)) = σ1 at *
    have bJ : gJ σ1 = gJ σ := by rw [← hσ1]; exact i2
    have bR : gR σ1 = gR σ := by rw [← hσ1]; exact i3
    have k4 : ∀ p q, p < s → q < s → gI σ1 24 (16 * p + q) = nI (ap U W p q) := fun p q hp hq => by
      rw [b24, if_neg (by omega)]
      exact i4 p q hp hq
    have k5 : ∀ q, q < 16 → gI σ1 24 (17 * q) = 0 := fun q hq => by
      rw [b24, if_neg (by omega)]
      exact i5 q hq
    have k6 : ∀ q, q < t + 1 → gI σ1 24 (16 * s + q) = nI (ap U W s q) ∧ gI σ1 24 (16 * q + s) = nI (ap U W q s) := fun q hq => by
      by_cases e : q = t
      · subst e
        rw [b24, if_pos (Or.inr rfl), b24, if_pos (Or.inl rfl), ap_sym U W q s]
        exact ⟨rfl, rfl⟩
      · rw [b24, if_neg (by omega), b24, if_neg (by omega)]
        exact i6 q (by omega)
    have hjnd : jn U W s t = decide (ap U W s t ≤ uN U 2) := rfl
    have hjnd' : jn U W t s = decide (ap U W s t ≤ uN U 2) := by rw [jn_sym]; rfl
    by_cases hlt : uN U 2 < ap U W s t
    · rw [if_pos hlt, nI_1]
      refine ih m (t + 1) σ1 (by omega) (by omega) ⟨base, bJ, bR, k4, k5, k6, fun p hp => ?_, ?_⟩
      · rw [b20, i7 p hp]
        by_cases e : p = t
        · subst e
          rw [if_neg (by omega), if_pos (by omega)]
          congr 1
          rw [bs_up]
          refine bs_ext fun k hk => ?_
          by_cases ek : k = s
          · subst ek
            rw [hjnd']
            simp
            omega
          · simp [show k < s by omega]
        · by_cases e2 : p < t
          · rw [if_pos e2, if_pos (by omega)]
          · rw [if_neg e2, if_neg (by omega)]
      · rw [b20, i8]
        congr 1
        refine bs_ext fun k hk => ?_
        by_cases ek : k = t
        · subst ek
          rw [hjnd]
          simp
          omega
        · have : (k < t) = (k < t + 1) := propext ⟨fun h => by omega, fun h => by omega⟩
          simp only [this]
    · rw [if_neg hlt, chk_nI (by omega) (by decide), chk_nI (by omega) (by decide), bnd, nI_cl (show s < 2 ^ 31 by omega), b20, i8, nI_bs1 (by omega) (by omega), chk_nI (by omega) (by decide), chk_nI (by omega) (by decide), bnd, nI_cl (show t < 2 ^ 31 by omega), gI_sI, if_neg (by omega), b20, i7 t hts, if_neg (by omega), bs_up (jn U W t) s, nI_bs1 (show s < s + 1 by omega) (by omega), nI_1]
      refine ih m (t + 1) _ (by omega) (by omega) ⟨fun q h1 h2 h3 => ?_, bJ, bR, fun p q hp hq => ?_, fun q hq => ?_, fun q hq => ?_, fun p hp => ?_, ?_⟩
      · rw [gI_sIn h1, gI_sIn h1]
        exact base q h1 h2 h3
      · rw [gI_sIn (by decide), gI_sIn (by decide)]
        exact k4 p q hp hq
      · rw [gI_sIn (by decide), gI_sIn (by decide)]
        exact k5 q hq
      · rw [gI_sIn (by decide), gI_sIn (by decide)]
        exact k6 q hq
      · rw [gI_sI, gI_sI, b20]
        by_cases e : p = t
        · subst e
          rw [if_pos ⟨rfl, rfl⟩, if_pos (by omega)]
          congr 1
          refine bs_ext fun k hk => ?_
          by_cases ek : k = s
          · subst ek
            rw [hjnd']
            simp
            omega
          · simp [show k < s by omega, ek]
        · rw [if_neg (fun h => e h.2), if_neg (fun h => by omega), i7 p hp]
          by_cases e2 : p < t
          · rw [if_pos e2, if_pos (by omega)]
          · rw [if_neg e2, if_neg (by omega)]
      · rw [gI_sI, if_neg (fun h => by omega), gI_sI, if_pos ⟨rfl, rfl⟩]
        congr 1
        refine bs_ext fun k hk => ?_
        by_cases ek : k = t
        · subst ek
          rw [hjnd]
          simp
          omega
        · have : (k < t) = (k < t + 1) := propext ⟨fun h => by omega, fun h => by omega⟩
          simp [this, ek]
end Settle
