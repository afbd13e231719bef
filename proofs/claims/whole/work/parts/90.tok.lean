/-! tokens of the tape -/
def kd (b : Nat) : Nat := if 97 ≤ b ∧ b ≤ 122 then 1 else if 48 ≤ b ∧ b ≤ 57 then 2 else if b = 59 then 3 else 4
def spF (T : DT) : Nat → Nat → Nat
  | 0, p => p
  | d + 1, p => if p < T.1 ∧ T.2 p = 32 then spF T d (p + 1) else p
def rnT (T : DT) (k : Nat) : Nat → Nat → Nat
  | 0, p => p
  | d + 1, p => if p < T.1 ∧ kd (T.2 p) = k then rnT T k d (p + 1) else p
def tS (T : DT) (p : Nat) : Nat := spF T (T.1 - p) p
def tK0 (T : DT) (p : Nat) : Nat := if tS T p < T.1 then kd (T.2 (tS T p)) else 0
def tE (T : DT) (p : Nat) : Nat := if tK0 T p = 1 ∨ tK0 T p = 2 then rnT T (tK0 T p) (T.1 - tS T p) (tS T p) else if tK0 T p = 0 then tS T p else tS T p + 1
def tK (T : DT) (p : Nat) : Nat := if tK0 T p = 2 ∧ 2 < tE T p - tS T p then 4 else tK0 T p
/-- a name's letters -/
def ltT (T : DT) (q e : Nat) : List Nat := (List.range' q (e - q)).map fun i => T.2 i - 96
/-- a number -/
def nmT (T : DT) (q : Nat) : Nat → Nat
  | 0 => 0
  | d + 1 => 10 * nmT T q d + (T.2 (q + d) - 48)
def tV (T : DT) (p : Nat) : Nat := if tK0 T p = 1 then pk (ltT T (tS T p) (tE T p)) else if tK0 T p = 2 then nmT T (tS T p) (tE T p - tS T p) else 0
theorem spF_le {T : DT} : ∀ d p, p ≤ spF T d p ∧ spF T d p ≤ p + d ∧ (p ≤ T.1 → spF T d p ≤ T.1)
  | 0, p => ⟨Nat.le_refl _, Nat.le_refl _, fun h => h⟩
  | d + 1, p => by
    obtain ⟨a, b, c⟩ := spF_le (T := T) d (p + 1)
    show p ≤ (if p < T.1 ∧ T.2 p = 32 then spF T d (p + 1) else p) ∧ (if p < T.1 ∧ T.2 p = 32 then spF T d (p + 1) else p) ≤ p + (d + 1) ∧ (p ≤ T.1 → (if p < T.1 ∧ T.2 p = 32 then spF T d (p + 1) else p) ≤ T.1)
    by_cases e : p < T.1 ∧ T.2 p = 32
    · rw [if_pos e]; exact ⟨by omega, by omega, fun _ => c (by omega)⟩
    · rw [if_neg e]; exact ⟨Nat.le_refl _, by omega, fun h => h⟩
theorem rnT_le {T : DT} {k : Nat} : ∀ d p, p ≤ rnT T k d p ∧ (p ≤ T.1 → rnT T k d p ≤ T.1) ∧ (∀ i, p ≤ i → i < rnT T k d p → i < T.1 ∧ kd (T.2 i) = k)
  | 0, p => ⟨Nat.le_refl _, fun h => h, fun i h1 h2 => by have : i < p := h2; omega⟩
  | d + 1, p => by
    obtain ⟨a, b, c⟩ := rnT_le (T := T) (k := k) d (p + 1)
    show p ≤ (if p < T.1 ∧ kd (T.2 p) = k then rnT T k d (p + 1) else p) ∧ (p ≤ T.1 → (if p < T.1 ∧ kd (T.2 p) = k then rnT T k d (p + 1) else p) ≤ T.1) ∧ ∀ i, p ≤ i → i < (if p < T.1 ∧ kd (T.2 p) = k then rnT T k d (p + 1) else p) → i < T.1 ∧ kd (T.2 i) = k
    by_cases e : p < T.1 ∧ kd (T.2 p) = k
    · rw [if_pos e]
      refine ⟨by omega, fun _ => b (by omega), fun i h1 h2 => ?_⟩
      by_cases ei : i = p
      · subst ei; exact e
      · exact c i (by omega) h2
    · rw [if_neg e]
      exact ⟨Nat.le_refl _, fun h => h, fun i h1 h2 => by omega⟩
theorem tS_le {T : DT} {p : Nat} (h : p ≤ T.1) : p ≤ tS T p ∧ tS T p ≤ T.1 := by
  obtain ⟨a, b, c⟩ := spF_le (T := T) (T.1 - p) p
  exact ⟨a, c h⟩
theorem tK0_le (T : DT) (p : Nat) : tK0 T p ≤ 4 := by
  unfold tK0 kd
  split
  · split
    · decide
    · split
      · decide
      · split <;> decide
  · decide
theorem tE_le {T : DT} {p : Nat} (h : p ≤ T.1) : tS T p ≤ tE T p ∧ tE T p ≤ T.1 ∧ (tK0 T p ≠ 0 → tS T p < tE T p) := by
  obtain ⟨a, b⟩ := tS_le h
  obtain ⟨c, d, f⟩ := rnT_le (T := T) (k := tK0 T p) (T.1 - tS T p) (tS T p)
  have hk : tK0 T p ≠ 0 → tS T p < T.1 := fun hk => by
    by_cases h2 : tS T p < T.1
    · exact h2
    · unfold tK0 at hk; rw [if_neg h2] at hk; exact absurd rfl hk
  unfold tE
  by_cases e1 : tK0 T p = 1 ∨ tK0 T p = 2
  · rw [if_pos e1]
    refine ⟨c, d b, fun h0 => ?_⟩
    have h1 := hk h0
    obtain ⟨m, hm⟩ : ∃ m, T.1 - tS T p = m + 1 := ⟨T.1 - tS T p - 1, by omega⟩
    obtain ⟨c', -, -⟩ := rnT_le (T := T) (k := tK0 T p) m (tS T p + 1)
    rw [hm]
    have h3 : kd (T.2 (tS T p)) = tK0 T p := by unfold tK0; rw [if_pos h1]
    show tS T p < (if tS T p < T.1 ∧ kd (T.2 (tS T p)) = tK0 T p then rnT T (tK0 T p) m (tS T p + 1) else tS T p)
    rw [if_pos ⟨h1, h3⟩]
    omega
  · rw [if_neg e1]
    by_cases e2 : tK0 T p = 0
    · rw [if_pos e2]; exact ⟨Nat.le_refl _, b, fun h => absurd e2 h⟩
    · rw [if_neg e2]; exact ⟨by omega, by have := hk e2; omega, fun _ => by omega⟩
theorem kd_1 {b : Nat} : kd b = 1 ↔ 97 ≤ b ∧ b ≤ 122 := by
  unfold kd
  by_cases e : 97 ≤ b ∧ b ≤ 122
  · rw [if_pos e]; exact ⟨fun _ => e, fun _ => rfl⟩
  · rw [if_neg e]
    refine ⟨fun h => ?_, fun h => absurd h e⟩
    split at h
    · cases h
    · split at h <;> cases h
theorem kd_2 {b : Nat} : kd b = 2 ↔ 48 ≤ b ∧ b ≤ 57 := by
  unfold kd
  by_cases e : 97 ≤ b ∧ b ≤ 122
  · rw [if_pos e]; exact ⟨fun h => (by cases h), fun h => by omega⟩
  · rw [if_neg e]
    by_cases e2 : 48 ≤ b ∧ b ≤ 57
    · rw [if_pos e2]; exact ⟨fun _ => e2, fun _ => rfl⟩
    · rw [if_neg e2]
      refine ⟨fun h => ?_, fun h => absurd h e2⟩
      split at h <;> cases h
section TokC
variable {σ τ : St} {T : DT}
theorem c_byte (hT : CT σ T) (wT : WTp T) {i : Nat} (hi : i < T.1) : X7_byteAt (nI i) σ = some (sb_b (T.2 i)) := by
  have h200 := wT.1
  unfold X7_byteAt
  rw [if_neg (nI_pos (by omega)), hT.1, if_pos (nI_lt hi (by omega)), chk_nI (by omega) (by decide), nI_cl (by omega), hT.2 i hi]
theorem sb_lo : ∀ b, b < 128 → sb_b b = nI b := by decide +kernel
theorem sb_hi : ∀ b, b < 256 → 128 ≤ b → sb_b b < 0 ∧ sb_b b < 97 ∧ sb_b b < 48 ∧ ¬ sb_b b = 59 := by decide +kernel
theorem sb_32 : ∀ b, b < 256 → (sb_b b = 32 ↔ b = 32) := by decide +kernel
theorem m_byte (hT : MT τ T) (wT : WTp T) {i : Nat} (hi : i ≤ 200) : X11_byteAt (nI i) τ = some (if i < T.1 then nI (T.2 i) else -4) := by
  have h200 := wT.1
  unfold X11_byteAt
  rw [hT.1]
  simp only [leI (show T.1 < 2 ^ 31 by omega) (show i < 2 ^ 31 by omega)]
  by_cases e : i < T.1
  · rw [if_neg (by omega), if_pos e, chk_nI (by omega) (by decide), nI_cl (by omega), hT.2 i e]
  · rw [if_pos (by omega), if_neg e]
theorem c_kind {b : Nat} (hb' : b < 256) : X8_kindOf (sb_b b) σ = some (nI (kd b)) := by
  by_cases h128 : 128 ≤ b
  · obtain ⟨h1, h2, h3, h4⟩ := sb_hi b hb' h128
    unfold X8_kindOf X8_kindOf_B14 kd
    rw [if_pos h2, if_pos h3, if_neg h4, if_neg (by omega), if_neg (by omega), if_neg (by omega)]
    rfl
  have hb : b < 128 := by omega
  rw [sb_lo b hb]
  unfold X8_kindOf X8_kindOf_B14
  simp only [show (97 : Int32) = nI 97 from rfl, show (122 : Int32) = nI 122 from rfl, show (48 : Int32) = nI 48 from rfl, show (57 : Int32) = nI 57 from rfl, show (59 : Int32) = nI 59 from rfl, ltI (show b < 2 ^ 31 by omega) (show 97 < 2 ^ 31 by decide), ltI (show 122 < 2 ^ 31 by decide) (show b < 2 ^ 31 by omega), ltI (show b < 2 ^ 31 by omega) (show 48 < 2 ^ 31 by decide), ltI (show 57 < 2 ^ 31 by decide) (show b < 2 ^ 31 by omega), eqI (show b < 2 ^ 31 by omega) (show 59 < 2 ^ 31 by decide)]
  unfold kd
  by_cases e1 : 97 ≤ b ∧ b ≤ 122
  · rw [if_neg (by omega), if_neg (by omega), if_pos e1]; rfl
  · rw [if_neg e1]
    have hB : (if b < 48 then (if b = 59 then some (3 : Int32) else some 4) else (if 57 < b then (if b = 59 then some 3 else some 4) else some 2)) = some (nI (if 48 ≤ b ∧ b ≤ 57 then 2 else if b = 59 then 3 else 4)) := by
      by_cases e2 : 48 ≤ b ∧ b ≤ 57
      · rw [if_neg (by omega), if_neg (by omega), if_pos e2]; rfl
      · rw [if_neg e2]
        by_cases e3 : b = 59
        · rw [if_pos e3, if_pos e3, if_neg (by omega), if_pos (by omega)]; rfl
        · rw [if_neg e3, if_neg e3]
          by_cases e4 : b < 48
          · rw [if_pos e4]; rfl
          · rw [if_neg e4, if_pos (by omega)]; rfl
    by_cases e5 : b < 97
    · rw [if_pos e5]; exact hB
    · rw [if_neg e5, if_pos (by omega)]; exact hB
end TokC
