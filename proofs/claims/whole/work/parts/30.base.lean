/-! LAYER 2: what the functions answer. Small rows first -/
theorem gI_sI (σ : St) (q j : Nat) (v : Int32) (q' j' : Nat) : gI (sI σ q j v) q' j' = if q' = q ∧ j' = j then v else gI σ q' j' := by
  simp only [gI, sI]
  by_cases h : q' = q
  · subst h; simp only [if_true, upd, true_and]
  · simp [h]
theorem gI_sIn {σ : St} {q j : Nat} {v : Int32} {q' : Nat} (h : q' ≠ q) : gI (sI σ q j v) q' = gI σ q' := by funext a; simp [gI, sI, h]
theorem gI_sJ (σ : St) (q j : Nat) (v : Int64) : gI (sJ σ q j v) = gI σ := rfl
theorem gI_sR (σ : St) (q j v : Nat) : gI (sR σ q j v) = gI σ := rfl
theorem gJ_sI (σ : St) (q j : Nat) (v : Int32) : gJ (sI σ q j v) = gJ σ := rfl
theorem gJ_sR (σ : St) (q j v : Nat) : gJ (sR σ q j v) = gJ σ := rfl
theorem gR_sI (σ : St) (q j : Nat) (v : Int32) : gR (sI σ q j v) = gR σ := rfl
theorem gR_sJ (σ : St) (q j : Nat) (v : Int64) : gR (sJ σ q j v) = gR σ := rfl
theorem gJ_sIf (σ : St) (q : Nat) (f : Nat → Int32) : gJ (sIf σ q f) = gJ σ := rfl
theorem gR_sIf (σ : St) (q : Nat) (f : Nat → Int32) : gR (sIf σ q f) = gR σ := rfl
theorem gI_sIfn {σ : St} {q : Nat} {f : Nat → Int32} {q' : Nat} (h : q' ≠ q) : gI (sIf σ q f) q' = gI σ q' := by funext a; simp [gI, sIf, h]
theorem gJ_sJ (σ : St) (q j : Nat) (v : Int64) (q' j' : Nat) : gJ (sJ σ q j v) q' j' = if q' = q ∧ j' = j then v else gJ σ q' j' := by
  simp only [gJ, sJ]
  by_cases h : q' = q
  · subst h; simp only [if_true, vp_updL, true_and]
  · simp [h]
theorem gJ_sJn {σ : St} {q j : Nat} {v : Int64} {q' : Nat} (h : q' ≠ q) : gJ (sJ σ q j v) q' = gJ σ q' := by funext a; simp [gJ, sJ, h]
theorem gR_sR (σ : St) (q j v q' j' : Nat) : gR (sR σ q j v) q' j' = if q' = q ∧ j' = j then v else gR σ q' j' := by
  simp only [gR, sR]
  by_cases h : q' = q
  · subst h; simp
  · simp [h]
theorem gR_sRn {σ : St} {q j v q' : Nat} (h : q' ≠ q) : gR (sR σ q j v) q' = gR σ q' := by funext a; simp [gR, sR, h]
/-- numbers: small ones -/
theorem chk_nI {ρ : Type} {j n : Nat} {k : Option ρ} (h : j < n) (hn : n < 2 ^ 31) : chk (nI j) n k = k := by
  unfold chk
  rw [if_pos ⟨nI_pos' (by omega), by rw [nI_clamp (by omega)]; exact h⟩]
theorem nI_cl {j : Nat} (h : j < 2 ^ 31) : (nI j).toNatClampNeg = j := nI_clamp h
theorem chkN_lt {ρ : Type} {i n : Nat} {k : Option ρ} (h : i < n) : chkN i n k = k := by unfold chkN; rw [if_pos h]
theorem nI_lit (n : Nat) : (OfNat.ofNat n : Int32) = nI n := rfl
theorem ltI {a b : Nat} (ha : a < 2 ^ 31) (hb : b < 2 ^ 31) : (nI a < nI b) = (a < b) := propext (nI_ltI ha hb)
theorem leI {a b : Nat} (ha : a < 2 ^ 31) (hb : b < 2 ^ 31) : (nI a ≤ nI b) = (a ≤ b) := propext (nI_leI ha hb)
theorem eqI {a b : Nat} (ha : a < 2 ^ 31) (hb : b < 2 ^ 31) : (nI a = nI b) = (a = b) := propext (nI_eq ha hb)
theorem subI {a b : Nat} (h : b ≤ a) : nI a - nI b = nI (a - b) := pk_sub h
theorem ltI0 {a : Nat} (h : a < 2 ^ 31) : (nI a < 0) = False := eq_false (nI_pos h)
theorem neI4 {a : Nat} (h : a < 2 ^ 31) : (nI a = (-4)) = False := eq_false (fun e => by
  have h1 := congrArg Int32.toInt e
  rw [nI_toInt h] at h1
  have h2 : (-4 : Int32).toInt = -4 := by decide
  omega)
theorem neI1 {a : Nat} (h : a < 2 ^ 31) : (nI a = (-1)) = False := eq_false (fun e => by
  have h1 := congrArg Int32.toInt e
  rw [nI_toInt h] at h1
  have h2 : (-1 : Int32).toInt = -1 := by decide
  omega)
/-- an argument: a number below n, or none -/
theorem ixc (x : Int32) (n : Nat) (hn : n < 2 ^ 31) : (∃ j, j < n ∧ x = nI j) ∨ (x < 0 ∨ nI n ≤ x) := by
  rcases pk_ix x hn with h | h | ⟨j, h1, h2⟩
  · exact Or.inr (Or.inl h)
  · exact Or.inr (Or.inr h)
  · exact Or.inl ⟨j, h1, h2⟩
/-- a loop that comes, from 0 on, to its end at N, with what is carried told by acc -/
theorem loop_acc {α ρ : Type} (L : Nat → Nat → α → Option ρ) (N : Nat) (acc : Nat → α) (ex : Option ρ) (hs : ∀ n k, k < N → L (n + 1) k (acc k) = L n (k + 1) (acc (k + 1))) (hx : ∀ n, L (n + 1) N (acc N) = ex) : ∀ d k n, k + d = N → d < n → L n k (acc k) = ex := by
  intro d
  induction d with
  | zero =>
    intro k n hk hn
    obtain ⟨n, rfl⟩ : ∃ m, n = m + 1 := ⟨n - 1, by omega⟩
    have : k = N := by omega
    subst this
    exact hx n
  | succ d ih =>
    intro k n hk hn
    obtain ⟨n, rfl⟩ : ∃ m, n = m + 1 := ⟨n - 1, by omega⟩
    rw [hs n k (by omega)]
    exact ih (k + 1) n (by omega) (by omega)
theorem loop0 {α ρ : Type} (L : Nat → Nat → α → Option ρ) (N : Nat) (acc : Nat → α) (ex : Option ρ) (hN : N < 1000000) (hs : ∀ n k, k < N → L (n + 1) k (acc k) = L n (k + 1) (acc (k + 1))) (hx : ∀ n, L (n + 1) N (acc N) = ex) : L FU 0 (acc 0) = ex :=
  loop_acc L N acc ex hs hx N 0 FU (by omega) hN
def b2 (b : Bool) : Int32 := if b then 1 else 0
theorem b2_t : b2 true = 1 := rfl
theorem b2_f : b2 false = 0 := rfl
theorem b2_0 (b : Bool) : (b2 b = 0) = (b = false) := by cases b <;> simp [b2]
theorem chkB_b2 {ρ : Type} {b : Bool} {k : Option ρ} : chkB (b2 b) k = k := by unfold chkB; rw [if_pos (by cases b <;> simp [b2])]
/-- the reference's in(), of small numbers -/
theorem toInt64_toInt (x : Int32) : x.toInt64.toInt = x.toInt := by simp
theorem in_eq (x lo hi : Int32) (τ : St) : X11_in x.toInt64 lo.toInt64 hi.toInt64 τ = some (b2 (decide (lo ≤ x) && decide (x ≤ hi))) := by
  unfold X11_in
  have e1 : (x.toInt64 < lo.toInt64) ↔ x < lo := by rw [Int64.lt_iff_toInt_lt, Int32.lt_iff_toInt_lt]; simp
  have e2 : (hi.toInt64 < x.toInt64) ↔ hi < x := by rw [Int64.lt_iff_toInt_lt, Int32.lt_iff_toInt_lt]; simp
  by_cases h1 : x < lo
  · rw [if_pos (e1.mpr h1)]
    have : ¬ lo ≤ x := by rw [Int32.not_le]; exact h1
    simp [this, b2]
  · rw [if_neg (fun h => h1 (e1.mp h))]
    have h1' : lo ≤ x := Int32.not_lt.mp h1
    by_cases h2 : hi < x
    · rw [if_pos (e2.mpr h2)]
      have : ¬ x ≤ hi := by rw [Int32.not_le]; exact h2
      simp [this, b2]
    · rw [if_neg (fun h => h2 (e2.mp h))]
      have h2' : x ≤ hi := Int32.not_lt.mp h2
      simp [h1', h2', b2]
