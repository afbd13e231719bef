/-! bits of a long: a book's holes -/
def bq (h : Int64) (k : Nat) : Bool := h.toBitVec.getLsbD k
theorem sh_k : ∀ k, k < 64 → (((nI k).toInt64 &&& 63).toBitVec.smod 64).toNat = k := by decide
theorem bit_k : ∀ k, k < 64 → ((1 : Int64) <<< ((nI k).toInt64 &&& 63)).toBitVec = (1#64 <<< k) := by decide
theorem bq_ext {x y : Int64} (h : ∀ k, k < 64 → bq x k = bq y k) : x = y := by
  apply Int64.toBitVec_inj.mp
  apply BitVec.eq_of_getLsbD_eq
  intro i hi
  exact h i hi
theorem bq_or (x y : Int64) (k : Nat) : bq (x ||| y) k = (bq x k || bq y k) := by simp [bq]
theorem bq_and (x y : Int64) (k : Nat) : bq (x &&& y) k = (bq x k && bq y k) := by simp [bq]
theorem bq_xor (x y : Int64) (k : Nat) : bq (x ^^^ y) k = (bq x k ^^ bq y k) := by simp [bq]
theorem bq_m1 {k : Nat} (hk : k < 64) : bq (-1) k = true := by
  have : ∀ k, k < 64 → bq (-1) k = true := by decide
  exact this k hk
theorem bq_0 (k : Nat) : bq 0 k = false := by simp [bq]
theorem bq_1k {k j : Nat} (hk : k < 64) (hj : j < 64) : bq ((1 : Int64) <<< ((nI k).toInt64 &&& 63)) j = decide (j = k) := by
  unfold bq
  rw [bit_k k hk]
  have : ∀ k, k < 64 → ∀ j, j < 64 → (1#64 <<< k).getLsbD j = decide (j = k) := by decide
  exact this k hk j hj
theorem isH_bq (h : Int64) {k : Nat} (hk : k < 64) : isH h (nI k) = bq h k := by
  unfold isH
  have e : (h >>> ((nI k).toInt64 &&& 63)).toBitVec = h.toBitVec.sshiftRight k := by
    rw [Int64.toBitVec_shiftRight]
    show h.toBitVec.sshiftRight (((nI k).toInt64 &&& 63).toBitVec.smod 64).toNat = _
    rw [sh_k k hk]
  have b0 : ((h >>> ((nI k).toInt64 &&& 63)) &&& 1).toBitVec = (h.toBitVec.sshiftRight k) &&& 1#64 := by
    rw [Int64.toBitVec_and, e]; rfl
  have b1 : (h.toBitVec.sshiftRight k).getLsbD 0 = bq h k := by
    rw [BitVec.getLsbD_sshiftRight]
    simp [bq, hk]
  cases hb : bq h k with
  | true =>
    rw [hb] at b1
    apply decide_eq_true
    apply Int64.toBitVec_inj.mp
    rw [b0]
    apply BitVec.eq_of_getLsbD_eq
    intro i hi
    rw [BitVec.getLsbD_and]
    by_cases h0 : i = 0
    · subst h0; rw [b1]; rfl
    · have : (1#64).getLsbD i = false := by rw [BitVec.getLsbD_one]; simp [h0]
      rw [this, Bool.and_false]
      exact this.symm
  | false =>
    rw [hb] at b1
    apply decide_eq_false
    intro hc
    have := congrArg (fun z : Int64 => z.toBitVec.getLsbD 0) hc
    simp only [b0, BitVec.getLsbD_and, b1, Bool.false_and] at this
    exact absurd this (by decide)
/-- a hole made, a hole filled -/
theorem hole_or {h : Int64} {k : Nat} (hk : k < 64) (hb : bq h k = true) : h ||| ((1 : Int64) <<< ((nI k).toInt64 &&& 63)) = h := bq_ext fun j hj => by
  rw [bq_or, bq_1k hk hj]
  by_cases e : j = k
  · subst e; simp [hb]
  · simp [e]
theorem hole_orx {h : Int64} {k : Nat} (hk : k < 64) (hb : bq h k = false) : h ||| ((1 : Int64) <<< ((nI k).toInt64 &&& 63)) = h ^^^ ((1 : Int64) <<< ((nI k).toInt64 &&& 63)) := bq_ext fun j hj => by
  rw [bq_or, bq_xor, bq_1k hk hj]
  by_cases e : j = k
  · subst e; simp [hb]
  · simp [e]
theorem hole_an {h : Int64} {k : Nat} (hk : k < 64) (hb : bq h k = false) : h &&& (((1 : Int64) <<< ((nI k).toInt64 &&& 63)) ^^^ (-1)) = h := bq_ext fun j hj => by
  rw [bq_and, bq_xor, bq_1k hk hj, bq_m1 hj]
  by_cases e : j = k
  · subst e; simp [hb]
  · simp [e]
theorem hole_anx {h : Int64} {k : Nat} (hk : k < 64) (hb : bq h k = true) : h &&& (((1 : Int64) <<< ((nI k).toInt64 &&& 63)) ^^^ (-1)) = h ^^^ ((1 : Int64) <<< ((nI k).toInt64 &&& 63)) := bq_ext fun j hj => by
  rw [bq_and, bq_xor, bq_xor, bq_1k hk hj, bq_m1 hj]
  by_cases e : j = k
  · subst e; simp [hb]
  · simp [e]
