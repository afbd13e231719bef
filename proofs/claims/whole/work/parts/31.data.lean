/-! what the memories hold: places, books, lines, readings, the day (class: C.., reference: M..) -/
abbrev DP : Type := Nat × (Nat → Nat) × (Nat → Nat)
def CP (σ : St) (P : DP) : Prop := gI σ 27 2 = nI P.1 ∧ (∀ p, p < P.1 → gI σ 28 p = nI (P.2.1 p)) ∧ ∀ p, p < P.1 → gI σ 29 p = nI (P.2.2 p)
def MP (τ : St) (P : DP) : Prop := gI τ 0 41 = nI P.1 ∧ (∀ p, p < P.1 → gI τ 27 p = nI (P.2.1 p)) ∧ ∀ p, p < P.1 → gI τ 28 p = nI (P.2.2 p)
def WP (P : DP) : Prop := P.1 ≤ 8 ∧ ∀ p, p < P.1 → P.2.1 p ≤ 99 ∧ P.2.2 p ≤ 99
/-- books: how many, place, from, to, holes -/
abbrev DB : Type := Nat × (Nat → Nat) × (Nat → Nat) × (Nat → Nat) × (Nat → Int64)
def CB (σ : St) (B : DB) : Prop := gI σ 27 7 = nI B.1 ∧ (∀ b, b < B.1 → gI σ 30 b = nI (B.2.1 b)) ∧ (∀ b, b < B.1 → gI σ 31 b = nI (B.2.2.1 b)) ∧ (∀ b, b < B.1 → gI σ 32 b = nI (B.2.2.2.1 b)) ∧ (∀ b, b < B.1 → gJ σ 33 b = B.2.2.2.2 b) ∧ ∀ b, B.1 ≤ b → gJ σ 33 b = 0
def MB (τ : St) (B : DB) : Prop := gI τ 0 44 = nI B.1 ∧ (∀ b, b < B.1 → gI τ 29 b = nI (B.2.1 b)) ∧ (∀ b, b < B.1 → gI τ 30 b = nI (B.2.2.1 b)) ∧ (∀ b, b < B.1 → gI τ 31 b = nI (B.2.2.2.1 b)) ∧ ∀ b, b < B.1 → gJ τ 32 b = B.2.2.2.2 b
def WB (np : Nat) (B : DB) : Prop := B.1 ≤ 8 ∧ ∀ b, b < B.1 → B.2.1 b < np ∧ 1500 ≤ B.2.2.1 b ∧ B.2.2.1 b ≤ B.2.2.2.1 b ∧ B.2.2.2.1 b ≤ 1899 ∧ B.2.2.2.1 b < B.2.2.1 b + 64 ∧ ∀ k, k < 64 → (B.2.2.2.2 b).toBitVec.getLsbD k = true → B.2.2.1 b + k ≤ B.2.2.2.1 b
def oI (o : Option Nat) : Int32 := match o with
  | none => -4
  | some j => nI j
/-- lines: how many; book, year, kind, first, now, day, reads; father -/
abbrev DL : Type := Nat × (Nat → Nat) × (Nat → Nat) × (Nat → Nat) × (Nat → Nat) × (Nat → Nat) × (Nat → Nat) × (Nat → Nat) × (Nat → Option Nat)
abbrev lB (L : DL) : Nat → Nat := L.2.1
abbrev lY (L : DL) : Nat → Nat := L.2.2.1
abbrev lK (L : DL) : Nat → Nat := L.2.2.2.1
abbrev lF (L : DL) : Nat → Nat := L.2.2.2.2.1
abbrev lN_ (L : DL) : Nat → Nat := L.2.2.2.2.2.1
abbrev lD (L : DL) : Nat → Nat := L.2.2.2.2.2.2.1
abbrev lR (L : DL) : Nat → Nat := L.2.2.2.2.2.2.2.1
abbrev lA (L : DL) : Nat → Option Nat := L.2.2.2.2.2.2.2.2
def CL (σ : St) (L : DL) : Prop := gI σ 34 10 = nI L.1 ∧ (∀ k, k < L.1 → gI σ 35 k = nI (lB L k)) ∧ (∀ k, k < L.1 → gI σ 36 k = nI (lY L k)) ∧ (∀ k, k < L.1 → gI σ 37 k = nI (lK L k)) ∧ (∀ k, k < L.1 → gI σ 42 k = nI (lF L k)) ∧ (∀ k, k < L.1 → gI σ 39 k = nI (lN_ L k)) ∧ (∀ k, k < L.1 → gI σ 38 k = nI (lD L k)) ∧ (∀ k, k < L.1 → gI σ 40 k = nI (lR L k)) ∧ ∀ k, k < L.1 → gI σ 41 k = oI (lA L k)
def ML (τ : St) (L : DL) : Prop := gI τ 0 49 = nI L.1 ∧ (∀ k, k < L.1 → gI τ 33 k = nI (lB L k)) ∧ (∀ k, k < L.1 → gI τ 34 k = nI (lY L k)) ∧ (∀ k, k < L.1 → gI τ 35 k = nI (lK L k)) ∧ (∀ k, k < L.1 → gI τ 36 k = nI (lF L k)) ∧ (∀ k, k < L.1 → gI τ 37 k = nI (lN_ L k)) ∧ (∀ k, k < L.1 → gI τ 38 k = nI (lD L k)) ∧ (∀ k, k < L.1 → gI τ 39 k = nI (lR L k)) ∧ ∀ k, k < L.1 → gI τ 40 k = oI (lA L k)
def WL (ns : Nat) (B : DB) (L : DL) : Prop := L.1 ≤ 40 ∧ ∀ k, k < L.1 → lB L k < B.1 ∧ B.2.2.1 (lB L k) ≤ lY L k ∧ lY L k ≤ B.2.2.2.1 (lB L k) ∧ lK L k ≤ 4 ∧ lF L k < ns ∧ lN_ L k < ns ∧ lD L k ≤ 999 ∧ 1 ≤ lR L k ∧ lR L k ≤ 70 ∧ ∀ j, lA L k = some j → j < L.1 ∧ lY L j + 15 ≤ lY L k
/-- readings: how many; line, spelling, day -/
abbrev DR : Type := Nat × (Nat → Nat) × (Nat → Nat) × (Nat → Nat)
def CR (σ : St) (R : DR) : Prop := gI σ 34 14 = nI R.1 ∧ (∀ r, r < R.1 → gI σ 43 r = nI (R.2.1 r)) ∧ (∀ r, r < R.1 → gI σ 45 r = nI (R.2.2.1 r)) ∧ ∀ r, r < R.1 → gI σ 44 r = nI (R.2.2.2 r)
def MR (τ : St) (R : DR) : Prop := gI τ 0 58 = nI R.1 ∧ (∀ r, r < R.1 → gI τ 41 r = nI (R.2.1 r)) ∧ (∀ r, r < R.1 → gI τ 42 r = nI (R.2.2.1 r)) ∧ ∀ r, r < R.1 → gI τ 43 r = nI (R.2.2.2 r)
def WR (ns : Nat) (L : DL) (R : DR) : Prop := R.1 ≤ 60 ∧ (∀ r, r < R.1 → R.2.1 r < L.1 ∧ R.2.2.1 r < ns ∧ R.2.2.2 r ≤ 999) ∧ ∀ k, k < L.1 → lR L k ≤ 1 + R.1
/-! arguments in and out of range -/
theorem has_in {σ : St} {n j : Nat} (hn : n < 2 ^ 31) (hj : j < n) {s : Int32} (hs : s = nI n) : (if nI j < 0 then some (0 : Int32) else if s ≤ nI j then some 0 else some 1) = some 1 := by
  subst hs
  rw [if_neg (nI_pos (by omega)), if_neg (nI_ge hj (by omega))]
theorem has_out {n : Nat} {x s : Int32} (h : x < 0 ∨ nI n ≤ x) (hs : s = nI n) : (if x < 0 then some (0 : Int32) else if s ≤ x then some 0 else some 1) = some 0 := by
  subst hs
  rcases h with h | h
  · rw [if_pos h]
  · by_cases h0 : x < 0
    · rw [if_pos h0]
    · rw [if_neg h0, if_pos h]
theorem is_in {τ : St} {n j : Nat} (hn : n < 2 ^ 31) (hj : j < n) : X11_in (nI j).toInt64 0 ((nI n - 1).toInt64) τ = some 1 := by
  have h := in_eq (nI j) 0 (nI n - 1) τ
  have e : nI n - 1 = nI (n - 1) := by
    have := pk_sub (a := n) (b := 1) (by omega)
    exact this
  rw [e] at h ⊢
  have h2 : (0 : Int32) ≤ nI j := nI_pos' (by omega)
  have h3 : nI j ≤ nI (n - 1) := nI_le (by omega) (by omega)
  simp only [h2, h3, decide_true, Bool.and_self, b2_t] at h
  exact h
theorem is_out {τ : St} {n : Nat} {x : Int32} (hn : n < 2 ^ 31) (h : x < 0 ∨ nI n ≤ x) : X11_in x.toInt64 0 ((nI n - 1).toInt64) τ = some 0 := by
  have hh := in_eq x 0 (nI n - 1) τ
  have hx : (decide ((0 : Int32) ≤ x) && decide (x ≤ nI n - 1)) = false := by
    rcases h with h | h
    · have : ¬ (0 : Int32) ≤ x := by rw [Int32.not_le]; exact h
      simp [this]
    · by_cases h0 : (0 : Int32) ≤ x
      · have h0' : ¬ x < 0 := Int32.not_lt.mpr h0
        obtain ⟨j, hj, rfl⟩ := nI_of h0'
        have hle : n ≤ j := (nI_leI hn hj).mp h
        have : ¬ nI j ≤ nI n - 1 := by
          by_cases hn0 : n = 0
          · subst hn0
            intro h1
            have h2 := Int32.le_iff_toInt_le.mp h1
            rw [nI_toInt hj, show (nI 0 - 1 : Int32).toInt = -1 by decide] at h2
            omega
          · rw [show nI n - 1 = nI (n - 1) from pk_sub (a := n) (b := 1) (by omega)]
            exact nI_ge (by omega) hj
        simp [this]
      · simp [h0]
  rw [hx, b2_f] at hh
  exact hh
section Ranges
variable {σ τ : St} {P : DP} {B : DB} {L : DL} {x : Int32} {j : Nat}
theorem c_place_in (h : gI σ 27 2 = nI P.1) (w : P.1 ≤ 8) (hj : j < P.1) : X0_hasPlace (nI j) σ = some 1 := has_in (σ := σ) (by omega) hj h
theorem c_place_out (h : gI σ 27 2 = nI P.1) (hx : x < 0 ∨ nI P.1 ≤ x) : X0_hasPlace x σ = some 0 := has_out hx h
theorem c_book_in (h : gI σ 27 7 = nI B.1) (w : B.1 ≤ 8) (hj : j < B.1) : X0_has (nI j) σ = some 1 := has_in (σ := σ) (by omega) hj h
theorem c_book_out (h : gI σ 27 7 = nI B.1) (hx : x < 0 ∨ nI B.1 ≤ x) : X0_has x σ = some 0 := has_out hx h
theorem c_line_in (h : gI σ 34 10 = nI L.1) (w : L.1 ≤ 40) (hj : j < L.1) : X3_has (nI j) σ = some 1 := has_in (σ := σ) (by omega) hj h
theorem c_line_out (h : gI σ 34 10 = nI L.1) (hx : x < 0 ∨ nI L.1 ≤ x) : X3_has x σ = some 0 := has_out hx h
theorem c_word_in {n : Nat} (h : gI σ 18 1 = nI n) (w : n ≤ 16) (hj : j < n) : X9_has (nI j) σ = some 1 := has_in (σ := σ) (by omega) hj h
theorem c_word_out {n : Nat} (h : gI σ 18 1 = nI n) (hx : x < 0 ∨ nI n ≤ x) : X9_has x σ = some 0 := has_out hx h
theorem m_place_in (h : gI τ 0 41 = nI P.1) (w : P.1 ≤ 8) (hj : j < P.1) : X11_isPlace (nI j) τ = some 1 := by
  unfold X11_isPlace; rw [h, is_in (by omega) hj]; rfl
theorem m_place_out (h : gI τ 0 41 = nI P.1) (w : P.1 ≤ 8) (hx : x < 0 ∨ nI P.1 ≤ x) : X11_isPlace x τ = some 0 := by
  unfold X11_isPlace; rw [h, is_out (by omega) hx]; rfl
theorem m_book_in (h : gI τ 0 44 = nI B.1) (w : B.1 ≤ 8) (hj : j < B.1) : X11_isBook (nI j) τ = some 1 := by
  unfold X11_isBook; rw [h, is_in (by omega) hj]; rfl
theorem m_book_out (h : gI τ 0 44 = nI B.1) (w : B.1 ≤ 8) (hx : x < 0 ∨ nI B.1 ≤ x) : X11_isBook x τ = some 0 := by
  unfold X11_isBook; rw [h, is_out (by omega) hx]; rfl
theorem m_line_in (h : gI τ 0 49 = nI L.1) (w : L.1 ≤ 40) (hj : j < L.1) : X11_isLine (nI j) τ = some 1 := by
  unfold X11_isLine; rw [h, is_in (by omega) hj]; rfl
theorem m_line_out (h : gI τ 0 49 = nI L.1) (w : L.1 ≤ 40) (hx : x < 0 ∨ nI L.1 ≤ x) : X11_isLine x τ = some 0 := by
  unfold X11_isLine; rw [h, is_out (by omega) hx]; rfl
theorem m_word_in {n : Nat} (h : gI τ 0 0 = nI n) (w : n ≤ 16) (hj : j < n) : X11_isSpelling (nI j) τ = some 1 := by
  unfold X11_isSpelling; rw [h, is_in (by omega) hj]; rfl
theorem m_word_out {n : Nat} (h : gI τ 0 0 = nI n) (w : n ≤ 16) (hx : x < 0 ∨ nI n ≤ x) : X11_isSpelling x τ = some 0 := by
  unfold X11_isSpelling; rw [h, is_out (by omega) hx]; rfl
end Ranges
