/-! longs and ints as numbers: shifts, masks -/
theorem lN_and (a b : Nat) : lN a &&& lN b = lN (a &&& b) := by
  apply Int64.toBitVec_inj.mp
  rw [Int64.toBitVec_and]
  show BitVec.ofNat 64 a &&& BitVec.ofNat 64 b = BitVec.ofNat 64 (a &&& b)
  rw [BitVec.ofNat_and]
theorem lN_or (a b : Nat) : lN a ||| lN b = lN (a ||| b) := by
  apply Int64.toBitVec_inj.mp
  rw [Int64.toBitVec_or]
  show BitVec.ofNat 64 a ||| BitVec.ofNat 64 b = BitVec.ofNat 64 (a ||| b)
  rw [BitVec.ofNat_or]
theorem nI_and (a b : Nat) : nI a &&& nI b = nI (a &&& b) := by
  apply Int32.toBitVec_inj.mp
  rw [Int32.toBitVec_and]
  show BitVec.ofNat 32 a &&& BitVec.ofNat 32 b = BitVec.ofNat 32 (a &&& b)
  rw [BitVec.ofNat_and]
theorem nI_or (a b : Nat) : nI a ||| nI b = nI (a ||| b) := by
  apply Int32.toBitVec_inj.mp
  rw [Int32.toBitVec_or]
  show BitVec.ofNat 32 a ||| BitVec.ofNat 32 b = BitVec.ofNat 32 (a ||| b)
  rw [BitVec.ofNat_or]
theorem lN_shr {n k : Nat} (hn : n < 2 ^ 63) (hk : k < 64) : lN n >>> ((nI k).toInt64 &&& 63) = lN (n / 2 ^ k) := by
  apply Int64.toInt_inj.mp
  have e : (lN n >>> ((nI k).toInt64 &&& 63)).toBitVec = (lN n).toBitVec.sshiftRight k := by
    rw [Int64.toBitVec_shiftRight]
    show (lN n).toBitVec.sshiftRight (((nI k).toInt64 &&& 63).toBitVec.smod 64).toNat = _
    rw [sh_k k hk]
  rw [← Int64.toInt_toBitVec, e, BitVec.toInt_sshiftRight, Int64.toInt_toBitVec, pk_lT hn, pk_lT (Nat.lt_of_le_of_lt (Nat.div_le_self _ _) hn), Int.shiftRight_eq_div_pow]
  simp
theorem one_shl : ∀ k, k < 63 → (1 : Int64) <<< ((nI k).toInt64 &&& 63) = lN (2 ^ k) := by decide
theorem one_shl32 : ∀ k, k < 31 → (1 : Int32) <<< (nI k &&& 31) = nI (2 ^ k) := by decide
theorem sh5 (n : Nat) (hn : n < 2 ^ 58) : lN n <<< ((5 : Int32).toInt64 &&& 63) = lN (32 * n) := by
  apply Int64.toBitVec_inj.mp
  rw [Int64.toBitVec_shiftLeft]
  show (BitVec.ofNat 64 n) <<< (((5 : Int32).toInt64 &&& 63).toBitVec.smod 64) = BitVec.ofNat 64 (32 * n)
  rw [show ((((5 : Int32).toInt64 &&& 63).toBitVec.smod 64)) = 5#64 by decide]
  apply BitVec.eq_of_toNat_eq
  simp [BitVec.toNat_shiftLeft, Nat.shiftLeft_eq]
  omega
theorem nI_sh_k : ∀ k, k < 32 → ((nI k &&& 31).toBitVec.smod 32).toNat = k := by decide
theorem nI_shr {n k : Nat} (hn : n < 2 ^ 31) (hk : k < 32) : nI n >>> (nI k &&& 31) = nI (n / 2 ^ k) := pk_shrN hn _ k (nI_sh_k k hk)
/-- is a bit set -/
theorem bit32 {n k : Nat} (hn : n < 2 ^ 31) (hk : k < 32) : (((nI n >>> (nI k &&& 31)) &&& 1) = 1) ↔ n.testBit k = true := by
  rw [nI_shr hn hk, show (1 : Int32) = nI 1 from rfl, nI_and, nI_eq (by have : n / 2 ^ k &&& 1 ≤ 1 := Nat.and_le_right; omega) (by decide), Nat.and_one_is_mod, Nat.testBit_eq_decide_div_mod_eq]
  simp
theorem bit32_0 {n k : Nat} (hn : n < 2 ^ 31) (hk : k < 32) : (((nI n >>> (nI k &&& 31)) &&& 1) = 0) ↔ n.testBit k = false := by
  rw [nI_shr hn hk, show (1 : Int32) = nI 1 from rfl, show (0 : Int32) = nI 0 from rfl, nI_and, nI_eq (by have : n / 2 ^ k &&& 1 ≤ 1 := Nat.and_le_right; omega) (by decide), Nat.and_one_is_mod, Nat.testBit_eq_decide_div_mod_eq]
  have : n / 2 ^ k % 2 < 2 := Nat.mod_lt _ (by decide)
  simp
theorem nI_xm {a b : Nat} (ha : a < 65536) (hb : b < 65536) : nI a &&& (nI b ^^^ (-1)) = nI (a &&& (b ^^^ 65535)) := by
  apply Int32.toBitVec_inj.mp
  rw [Int32.toBitVec_and, Int32.toBitVec_xor]
  show BitVec.ofNat 32 a &&& (BitVec.ofNat 32 b ^^^ (-1 : Int32).toBitVec) = BitVec.ofNat 32 (a &&& (b ^^^ 65535))
  apply BitVec.eq_of_getLsbD_eq
  intro i hi
  rw [BitVec.getLsbD_and, BitVec.getLsbD_xor, BitVec.getLsbD_ofNat, BitVec.getLsbD_ofNat, BitVec.getLsbD_ofNat, Nat.testBit_and, Nat.testBit_xor]
  have h1 : (-1 : Int32).toBitVec.getLsbD i = true := by
    have : ∀ i, i < 32 → (-1 : Int32).toBitVec.getLsbD i = true := by decide
    exact this i hi
  rw [h1]
  simp only [hi, decide_true, Bool.true_and]
  by_cases h16 : i < 16
  · have : (65535 : Nat).testBit i = true := by
      have : ∀ i, i < 16 → (65535 : Nat).testBit i = true := by decide
      exact this i h16
    rw [this]
  · have : a.testBit i = false := Nat.testBit_lt_two_pow (Nat.lt_of_lt_of_le (show a < 2 ^ 16 from ha) (Nat.pow_le_pow_right (n := 2) (by decide) (show 16 ≤ i by omega)))
    rw [this]; simp
/-! sets as bits -/
theorem bs_lt (p : Nat → Bool) : ∀ n, bs p n < 2 ^ n
  | 0 => by simp [bs]
  | n + 1 => by
    have := bs_lt p n
    unfold bs
    rw [Nat.pow_succ]
    split <;> omega
theorem bs_bit (p : Nat → Bool) : ∀ n k, (bs p n).testBit k = (decide (k < n) && p k)
  | 0, k => by simp [bs]
  | n + 1, k => by
    have hl := bs_lt p n
    have ih := bs_bit p n k
    unfold bs
    by_cases hp : p n = true
    · rw [if_pos hp, Nat.add_comm]
      rcases Nat.lt_trichotomy k n with hk | hk | hk
      · rw [Nat.testBit_two_pow_add_gt hk, ih]
        simp [hk, show k < n + 1 by omega]
      · subst hk
        rw [Nat.testBit_two_pow_add_eq, Nat.testBit_lt_two_pow hl]
        simp [hp]
      · rw [Nat.testBit_lt_two_pow]
        · simp [show ¬ k < n + 1 by omega]
        · have : 2 ^ (n + 1) ≤ 2 ^ k := Nat.pow_le_pow_right (n := 2) (by decide) (by omega)
          rw [Nat.pow_succ] at this
          omega
    · rw [if_neg hp, Nat.add_zero, ih]
      by_cases hk : k < n
      · simp [hk, show k < n + 1 by omega]
      · by_cases e : k = n
        · subst e; simp [hp]
        · simp [hk, show ¬ k < n + 1 by omega]
/-! letters packed -/
theorem pk_app (l : List Nat) (x : Nat) : pk (l ++ [x]) = 32 * pk l + x := by simp [pk]
theorem pk_nil : pk [] = 0 := rfl
theorem pk_foldl (l : List Nat) (a : Nat) : l.foldl (fun a x => 32 * a + x) a = a * 32 ^ l.length + pk l := by
  induction l generalizing a with
  | nil => simp [pk]
  | cons x l ih =>
    simp only [List.foldl_cons, List.length_cons]
    rw [ih, show pk (x :: l) = l.foldl (fun a x => 32 * a + x) (32 * 0 + x) from rfl, ih]
    rw [Nat.pow_succ]
    simp only [Nat.mul_zero, Nat.zero_add]
    rw [Nat.add_mul, Nat.mul_comm 32 a, Nat.mul_assoc, Nat.mul_comm 32 (32 ^ l.length)]
    omega
theorem pk_append (l m : List Nat) : pk (l ++ m) = pk l * 32 ^ m.length + pk m := by
  unfold pk
  rw [List.foldl_append]
  exact pk_foldl m _
theorem pk_cons (x : Nat) (l : List Nat) : pk (x :: l) = x * 32 ^ l.length + pk l := by
  have := pk_append [x] l
  simpa [pk] using this
theorem pkl_lt {l : List Nat} (h : LTR l) : pk l < 32 ^ l.length := by
  induction l with
  | nil => simp [pk]
  | cons x l ih =>
    rw [pk_cons, List.length_cons, Nat.pow_succ]
    have h1 := ih (fun y hy => h y (List.mem_cons_of_mem _ hy))
    have h2 := (h x List.mem_cons_self).2
    have : x * 32 ^ l.length ≤ 26 * 32 ^ l.length := Nat.mul_le_mul_right _ h2
    omega
theorem pkl_pos {l : List Nat} (h : LTR l) (hl : l ≠ []) : 0 < pk l := by
  cases l with
  | nil => exact absurd rfl hl
  | cons x l =>
    rw [pk_cons]
    have h2 := (h x List.mem_cons_self).1
    have : 0 < 32 ^ l.length := Nat.pow_pos (by decide)
    have : 1 * 32 ^ l.length ≤ x * 32 ^ l.length := Nat.mul_le_mul_right _ h2
    omega
