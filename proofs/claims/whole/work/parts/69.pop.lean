/-! how many bits are set: the machine's way by halves, byte by byte -/
def bc (x n : Nat) : Nat := sumTo (fun i => if x.testBit i = true then 1 else 0) n
def bym (f : Nat → Nat) : Nat → Nat → Nat
  | 0, _ => 0
  | n + 1, x => f (x % 256) + 256 * bym f n (x / 256)
def rp (c : Nat) : Nat → Nat
  | 0 => 0
  | n + 1 => c + 256 * rp c n
theorem bym_lt {f : Nat → Nat} (hf : ∀ b, b < 256 → f b < 256) : ∀ n x, bym f n x < 256 ^ n
  | 0, x => by simp [bym]
  | n + 1, x => by
    have h1 := bym_lt hf n (x / 256)
    have h2 := hf (x % 256) (by omega)
    unfold bym
    rw [Nat.pow_succ]
    omega
theorem bym_id : ∀ n x, x < 256 ^ n → bym (fun b => b) n x = x
  | 0, x, h => by simp at h; subst h; rfl
  | n + 1, x, h => by
    rw [Nat.pow_succ] at h
    unfold bym
    rw [bym_id n (x / 256) (by omega)]
    show x % 256 + 256 * (x / 256) = x
    omega
theorem bym_ext {f g : Nat → Nat} (h : ∀ b, b < 256 → f b = g b) : ∀ n x, bym f n x = bym g n x
  | 0, x => rfl
  | n + 1, x => by
    unfold bym
    rw [bym_ext h n, h _ (by omega)]
theorem bym_add {f g : Nat → Nat} : ∀ n x, bym f n x + bym g n x = bym (fun b => f b + g b) n x
  | 0, x => rfl
  | n + 1, x => by
    have := bym_add (f := f) (g := g) n (x / 256)
    unfold bym
    omega
theorem bym_sub {f g : Nat → Nat} (h : ∀ b, b < 256 → g b ≤ f b) : ∀ n x, bym g n x ≤ bym f n x ∧ bym f n x - bym g n x = bym (fun b => f b - g b) n x
  | 0, x => ⟨Nat.le_refl _, rfl⟩
  | n + 1, x => by
    have h1 := bym_sub h n (x / 256)
    have h2 := h (x % 256) (by omega)
    unfold bym
    omega
theorem bym_comp {f g : Nat → Nat} (hg : ∀ b, b < 256 → g b < 256) : ∀ n x, bym f n (bym g n x) = bym (fun b => f (g b)) n x
  | 0, x => rfl
  | n + 1, x => by
    have h2 := hg (x % 256) (by omega)
    have e1 : bym g (n + 1) x % 256 = g (x % 256) := by unfold bym; omega
    have e2 : bym g (n + 1) x / 256 = bym g n (x / 256) := by
      show (g (x % 256) + 256 * bym g n (x / 256)) / 256 = _
      omega
    show f (bym g (n + 1) x % 256) + 256 * bym f n (bym g (n + 1) x / 256) = f (g (x % 256)) + 256 * bym (fun b => f (g b)) n (x / 256)
    rw [e1, e2, bym_comp hg n]
theorem and_split {a c y z : Nat} (ha : a < 256) (hc : c < 256) : (a + 256 * y) &&& (c + 256 * z) = (a &&& c) + 256 * (y &&& z) := by
  have h1 : ((a + 256 * y) &&& (c + 256 * z)) / 2 ^ 8 = (a + 256 * y) / 2 ^ 8 &&& (c + 256 * z) / 2 ^ 8 := Nat.and_div_two_pow
  have h2 : ((a + 256 * y) &&& (c + 256 * z)) % 2 ^ 8 = (a + 256 * y) % 2 ^ 8 &&& (c + 256 * z) % 2 ^ 8 := Nat.and_mod_two_pow
  rw [show (2 : Nat) ^ 8 = 256 from rfl, show (a + 256 * y) / 256 = y by omega, show (c + 256 * z) / 256 = z by omega] at h1
  rw [show (2 : Nat) ^ 8 = 256 from rfl, show (a + 256 * y) % 256 = a by omega, show (c + 256 * z) % 256 = c by omega] at h2
  have h3 := Nat.div_add_mod ((a + 256 * y) &&& (c + 256 * z)) 256
  rw [h1, h2] at h3
  rw [← h3, Nat.add_comm]
theorem bym_and {c : Nat} (hc : c < 256) : ∀ n y, y &&& rp c n = bym (fun b => b &&& c) n y
  | 0, y => by simp [rp, bym]
  | n + 1, y => by
    have e : y = y % 256 + 256 * (y / 256) := by omega
    show y &&& (c + 256 * rp c n) = (y % 256 &&& c) + 256 * bym (fun b => b &&& c) n (y / 256)
    rw [← bym_and hc n (y / 256), ← and_split (by omega) hc, ← e]
theorem d85 : ∀ b, b < 256 → ∀ t, t < 2 → (b / 2 + 128 * t) &&& 85 = (b / 2) &&& 85 := by decide +kernel
theorem d51 : ∀ b, b < 256 → ∀ t, t < 4 → (b / 4 + 64 * t) &&& 51 = (b / 4) &&& 51 := by decide +kernel
theorem bym_h1 : ∀ n y, (y / 2) &&& rp 85 n = bym (fun b => (b / 2) &&& 85) n y
  | 0, y => by simp [rp, bym]
  | n + 1, y => by
    have e : y / 2 = (y % 256 / 2 + 128 * (y / 256 % 2)) + 256 * (y / 256 / 2) := by omega
    show (y / 2) &&& (85 + 256 * rp 85 n) = ((y % 256 / 2) &&& 85) + 256 * bym (fun b => (b / 2) &&& 85) n (y / 256)
    rw [← bym_h1 n (y / 256), ← d85 (y % 256) (by omega) (y / 256 % 2) (by omega), ← and_split (by omega) (by decide), ← e]
theorem bym_h2 : ∀ n y, (y / 4) &&& rp 51 n = bym (fun b => (b / 4) &&& 51) n y
  | 0, y => by simp [rp, bym]
  | n + 1, y => by
    have e : y / 4 = (y % 256 / 4 + 64 * (y / 256 % 4)) + 256 * (y / 256 / 4) := by omega
    show (y / 4) &&& (51 + 256 * rp 51 n) = ((y % 256 / 4) &&& 51) + 256 * bym (fun b => (b / 4) &&& 51) n (y / 256)
    rw [← bym_h2 n (y / 256), ← d51 (y % 256) (by omega) (y / 256 % 4) (by omega), ← and_split (by omega) (by decide), ← e]
/-- every byte's halves are at most 4 -/
def nib : Nat → Nat → Prop
  | 0, y => y = 0
  | n + 1, y => y % 16 ≤ 4 ∧ y % 256 / 16 ≤ 4 ∧ nib n (y / 256)
theorem nib_lo {n y : Nat} (h : nib n y) : y % 16 ≤ 4 := by
  cases n with
  | zero => have : y = 0 := h; omega
  | succ n => exact h.1
theorem d15 : ∀ b, b < 256 → b % 16 ≤ 4 → b / 16 ≤ 4 → ∀ t, t < 5 → (b + b / 16 + 16 * t) &&& 15 = (b + b / 16) &&& 15 := by decide +kernel
theorem bym_h4 : ∀ n y, nib n y → (y + y / 16) &&& rp 15 n = bym (fun b => (b + b / 16) &&& 15) n y
  | 0, y, h => by have : y = 0 := h; subst this; simp [rp, bym]
  | n + 1, y, h => by
    obtain ⟨h1, h2, h3⟩ := h
    have h4 := nib_lo h3
    have e : y + y / 16 = (y % 256 + y % 256 / 16 + 16 * (y / 256 % 16)) + 256 * (y / 256 + y / 256 / 16) := by omega
    show (y + y / 16) &&& (15 + 256 * rp 15 n) = ((y % 256 + y % 256 / 16) &&& 15) + 256 * bym (fun b => (b + b / 16) &&& 15) n (y / 256)
    rw [← bym_h4 n (y / 256) h3, ← d15 (y % 256) (by omega) (by omega) h2 (y / 256 % 16) (by omega), ← and_split (by omega) (by decide), ← e]
theorem bym_nib {f : Nat → Nat} (hf : ∀ b, b < 256 → f b % 16 ≤ 4 ∧ f b / 16 ≤ 4) : ∀ n x, nib n (bym f n x)
  | 0, x => rfl
  | n + 1, x => by
    have h2 := hf (x % 256) (by omega)
    have hl : f (x % 256) < 256 := by omega
    have e2 : bym f (n + 1) x / 256 = bym f n (x / 256) := by
      show (f (x % 256) + 256 * bym f n (x / 256)) / 256 = _
      omega
    refine ⟨?_, ?_, by rw [e2]; exact bym_nib hf n _⟩
    · show (f (x % 256) + 256 * bym f n (x / 256)) % 16 ≤ 4
      omega
    · show (f (x % 256) + 256 * bym f n (x / 256)) % 256 / 16 ≤ 4
      omega
def p1 (b : Nat) : Nat := b - ((b / 2) &&& 85)
def p2 (b : Nat) : Nat := (p1 b &&& 51) + ((p1 b / 4) &&& 51)
def p3 (b : Nat) : Nat := (p2 b + p2 b / 16) &&& 15
theorem q1 : ∀ b, b < 256 → ((b / 2) &&& 85) ≤ b ∧ p1 b < 256 ∧ p2 b < 256 ∧ p2 b % 16 ≤ 4 ∧ p2 b / 16 ≤ 4 ∧ p3 b ≤ 8 := by decide +kernel
def bc8 (b : Nat) : Nat := b % 2 + b / 2 % 2 + b / 4 % 2 + b / 8 % 2 + b / 16 % 2 + b / 32 % 2 + b / 64 % 2 + b / 128 % 2
theorem q3 : ∀ b, b < 256 → p3 b = bc8 b := by decide +kernel
theorem st1 {n x : Nat} (hx : x < 256 ^ n) : ((x / 2) &&& rp 85 n) ≤ x ∧ x - ((x / 2) &&& rp 85 n) = bym p1 n x := by
  have h := bym_sub (f := fun b => b) (g := fun b => (b / 2) &&& 85) (fun b hb => (q1 b hb).1) n x
  rw [bym_id n x hx] at h
  rw [bym_h1]
  exact h
theorem st2 (n x : Nat) : (bym p1 n x &&& rp 51 n) + ((bym p1 n x / 4) &&& rp 51 n) = bym p2 n x := by
  rw [bym_and (by decide), bym_h2, bym_add, bym_comp (fun b hb => (q1 b hb).2.1)]
  rfl
theorem st3 (n x : Nat) : (bym p2 n x + bym p2 n x / 16) &&& rp 15 n = bym p3 n x := by
  rw [bym_h4 n _ (bym_nib (fun b hb => ⟨(q1 b hb).2.2.2.1, (q1 b hb).2.2.2.2.1⟩) n x), bym_comp (fun b hb => (q1 b hb).2.2.1)]
  rfl
theorem bc_8 (x k : Nat) : bc x (k + 8) = bc x k + bc8 (x / 2 ^ k % 256) := by
  have e : ∀ i, (if x.testBit (k + i) = true then 1 else 0) = x / 2 ^ k / 2 ^ i % 2 := fun i => by
    rw [Nat.testBit_eq_decide_div_mod_eq, Nat.pow_add, Nat.div_div_eq_div_mul]
    have : x / (2 ^ k * 2 ^ i) % 2 < 2 := Nat.mod_lt _ (by decide)
    by_cases h : x / (2 ^ k * 2 ^ i) % 2 = 1
    · simp [h]
    · have h0 : x / (2 ^ k * 2 ^ i) % 2 = 0 := by omega
      simp [h0]
  have sS : ∀ (g : Nat → Nat) n, sumTo g (n + 1) = sumTo g n + g n := fun _ _ => rfl
  have e0 : (if x.testBit k = true then 1 else 0) = _ := e 0
  have e1 : (if x.testBit (k + 1) = true then 1 else 0) = _ := e 1
  have e2 : (if x.testBit (k + 1 + 1) = true then 1 else 0) = _ := e 2
  have e3 : (if x.testBit (k + 1 + 1 + 1) = true then 1 else 0) = _ := e 3
  have e4 : (if x.testBit (k + 1 + 1 + 1 + 1) = true then 1 else 0) = _ := e 4
  have e5 : (if x.testBit (k + 1 + 1 + 1 + 1 + 1) = true then 1 else 0) = _ := e 5
  have e6 : (if x.testBit (k + 1 + 1 + 1 + 1 + 1 + 1) = true then 1 else 0) = _ := e 6
  have e7 : (if x.testBit (k + 1 + 1 + 1 + 1 + 1 + 1 + 1) = true then 1 else 0) = _ := e 7
  show sumTo _ (k + 1 + 1 + 1 + 1 + 1 + 1 + 1 + 1) = _
  rw [sS, sS, sS, sS, sS, sS, sS, sS, e0, e1, e2, e3, e4, e5, e6, e7]
  show bc x k + _ + _ + _ + _ + _ + _ + _ + _ = _
  generalize x / 2 ^ k = y
  unfold bc8
  simp only [Nat.reducePow, Nat.div_one]
  omega
/-- the sum of the bytes -/
def sby (f : Nat → Nat) : Nat → Nat → Nat
  | 0, _ => 0
  | n + 1, x => f (x % 256) + sby f n (x / 256)
theorem bc_sby : ∀ n x k, bc x (k + 8 * n) = bc x k + sby bc8 n (x / 2 ^ k)
  | 0, x, k => by simp [sby]
  | n + 1, x, k => by
    rw [show k + 8 * (n + 1) = (k + 8) + 8 * n by omega, bc_sby n x (k + 8), bc_8]
    show _ = bc x k + (bc8 (x / 2 ^ k % 256) + sby bc8 n (x / 2 ^ k / 256))
    rw [Nat.div_div_eq_div_mul, show (256 : Nat) = 2 ^ 8 from rfl, ← Nat.pow_add]
    omega
theorem sby_ext {f g : Nat → Nat} (h : ∀ b, b < 256 → f b = g b) : ∀ n x, sby f n x = sby g n x
  | 0, x => rfl
  | n + 1, x => by
    unfold sby
    rw [sby_ext h n, h _ (by omega)]
theorem bc_le (x n : Nat) : bc x n ≤ n := by
  have := sum_le (g := fun i => if x.testBit i = true then 1 else 0) (b := 1) n (fun k _ => by split <;> omega)
  unfold bc
  omega
theorem sby8 (f : Nat → Nat) (x : Nat) : sby f 8 x = f (x % 256) + (f (x / 256 % 256) + (f (x / 256 / 256 % 256) + (f (x / 256 / 256 / 256 % 256) + (f (x / 256 / 256 / 256 / 256 % 256) + (f (x / 256 / 256 / 256 / 256 / 256 % 256) + (f (x / 256 / 256 / 256 / 256 / 256 / 256 % 256) + (f (x / 256 / 256 / 256 / 256 / 256 / 256 / 256 % 256) + 0))))))) := rfl
theorem sby4 (f : Nat → Nat) (x : Nat) : sby f 4 x = f (x % 256) + (f (x / 256 % 256) + (f (x / 256 / 256 % 256) + (f (x / 256 / 256 / 256 % 256) + 0))) := rfl
theorem dvk {k a X : Nat} (h : a < k) : (a + k * X) / k = X := by
  rw [Nat.add_mul_div_left _ _ (by omega), Nat.div_eq_of_lt h, Nat.zero_add]
theorem sw8 {c0 c1 c2 c3 c4 c5 c6 c7 X1 X2 X3 X4 X5 X6 X7 y : Nat} (h0 : c0 ≤ 8) (h1 : c1 ≤ 8) (h2 : c2 ≤ 8) (h3 : c3 ≤ 8) (h4 : c4 ≤ 8) (h5 : c5 ≤ 8) (h6 : c6 ≤ 8) (h7 : c7 ≤ 8) (e0 : y = c0 + 256 * X1) (e1 : X1 = c1 + 256 * X2) (e2 : X2 = c2 + 256 * X3) (e3 : X3 = c3 + 256 * X4) (e4 : X4 = c4 + 256 * X5) (e5 : X5 = c5 + 256 * X6) (e6 : X6 = c6 + 256 * X7) (e7 : X7 = c7) : y < 2 ^ 60 ∧ y + y / 256 < 2 ^ 61 ∧ (y + y / 256) + (y + y / 256) / 65536 < 2 ^ 62 ∧ (y + y / 256) + (y + y / 256) / 65536 + ((y + y / 256) + (y + y / 256) / 65536) / 4294967296 < 2 ^ 63 ∧ ((y + y / 256) + (y + y / 256) / 65536 + ((y + y / 256) + (y + y / 256) / 65536) / 4294967296) % 128 = c0 + (c1 + (c2 + (c3 + (c4 + (c5 + (c6 + (c7 + 0))))))) := by
  have y1 : y / 256 = X1 := by rw [e0]; exact dvk (by omega)
  have U : y + y / 256 = (c0 + c1) + 256 * (X1 + X2) := by rw [y1]; omega
  have u1 : (y + y / 256) / 65536 = X2 + X3 := by
    rw [U, show (c0 + c1) + 256 * (X1 + X2) = ((c0 + c1) + 256 * (c1 + c2)) + 65536 * (X2 + X3) by omega]
    exact dvk (by omega)
  have V0 : (y + y / 256) + (y + y / 256) / 65536 = (c0 + c1 + c2 + c3) + 256 * (X1 + X2 + X3 + X4) := by rw [u1, U]; omega
  have V1 : X1 + X2 + X3 + X4 = (c1 + c2 + c3 + c4) + 256 * (X2 + X3 + X4 + X5) := by omega
  have V2 : X2 + X3 + X4 + X5 = (c2 + c3 + c4 + c5) + 256 * (X3 + X4 + X5 + X6) := by omega
  have V3 : X3 + X4 + X5 + X6 = (c3 + c4 + c5 + c6) + 256 * (X4 + X5 + X6 + X7) := by omega
  have V4 : X4 + X5 + X6 + X7 = (c4 + c5 + c6 + c7) + 256 * (X5 + X6 + X7) := by omega
  have v1 : ((y + y / 256) + (y + y / 256) / 65536) / 4294967296 = X4 + X5 + X6 + X7 := by
    rw [V0, V1, V2, V3, show (c0 + c1 + c2 + c3) + 256 * ((c1 + c2 + c3 + c4) + 256 * ((c2 + c3 + c4 + c5) + 256 * ((c3 + c4 + c5 + c6) + 256 * (X4 + X5 + X6 + X7)))) = ((c0 + c1 + c2 + c3) + 256 * (c1 + c2 + c3 + c4) + 65536 * (c2 + c3 + c4 + c5) + 16777216 * (c3 + c4 + c5 + c6)) + 4294967296 * (X4 + X5 + X6 + X7) by omega]
    exact dvk (by omega)
  have b7 : X7 ≤ 8 := by omega
  have b6 : X6 ≤ 2056 := by omega
  have b5 : X5 ≤ 526344 := by omega
  have b4 : X4 ≤ 134744072 := by omega
  have b3 : X3 ≤ 34494482440 := by omega
  have b2 : X2 ≤ 8830587504648 := by omega
  have b1 : X1 ≤ 2260630401189896 := by omega
  have b0 : y ≤ 578721382704613384 := by omega
  rw [v1, u1, y1]
  refine ⟨by omega, by omega, by omega, by omega, ?_⟩
  have F : y + X1 + (X2 + X3) = (c0 + c1 + c2 + c3) + 256 * (X1 + X2 + X3 + X4) := by rw [← V0, u1, y1]
  rw [F, V4]
  generalize X1 + X2 + X3 + X4 = P
  generalize X5 + X6 + X7 = Q
  clear e0 e1 e2 e3 e4 e5 e6 e7 y1 U u1 V0 V1 V2 V3 V4 v1 F b0 b1 b2 b3 b4 b5 b6 b7
  omega
theorem sw4 {c0 c1 c2 c3 X1 X2 X3 y : Nat} (h0 : c0 ≤ 8) (h1 : c1 ≤ 8) (h2 : c2 ≤ 8) (h3 : c3 ≤ 8) (e0 : y = c0 + 256 * X1) (e1 : X1 = c1 + 256 * X2) (e2 : X2 = c2 + 256 * X3) (e3 : X3 = c3) : y < 2 ^ 28 ∧ y + y / 256 < 2 ^ 29 ∧ (y + y / 256) + (y + y / 256) / 65536 < 2 ^ 30 ∧ ((y + y / 256) + (y + y / 256) / 65536) % 64 = c0 + (c1 + (c2 + (c3 + 0))) := by
  have y1 : y / 256 = X1 := by rw [e0]; exact dvk (by omega)
  have U : y + y / 256 = (c0 + c1) + 256 * (X1 + X2) := by rw [y1]; omega
  have u1 : (y + y / 256) / 65536 = X2 + X3 := by
    rw [U, show (c0 + c1) + 256 * (X1 + X2) = ((c0 + c1) + 256 * (c1 + c2)) + 65536 * (X2 + X3) by omega]
    exact dvk (by omega)
  have V0 : (y + y / 256) + (y + y / 256) / 65536 = (c0 + c1 + c2 + c3) + 256 * (X1 + X2 + X3) := by rw [u1, U]; omega
  have b3 : X3 ≤ 8 := by omega
  have b2 : X2 ≤ 2056 := by omega
  have b1 : X1 ≤ 526344 := by omega
  have b0 : y ≤ 134744072 := by omega
  refine ⟨by omega, by rw [y1]; omega, by rw [u1, y1]; omega, ?_⟩
  rw [V0]
  omega
theorem st6 (x : Nat) (y : Nat) (hy : y = bym p3 8 x) : y < 2 ^ 60 ∧ y + y / 256 < 2 ^ 61 ∧ (y + y / 256) + (y + y / 256) / 65536 < 2 ^ 62 ∧ (y + y / 256) + (y + y / 256) / 65536 + ((y + y / 256) + (y + y / 256) / 65536) / 4294967296 < 2 ^ 63 ∧ ((y + y / 256) + (y + y / 256) / 65536 + ((y + y / 256) + (y + y / 256) / 65536) / 4294967296) % 128 = bc x 64 := by
  have e := bc_sby 8 x 0
  rw [show bc x 0 = 0 from rfl, Nat.pow_zero, Nat.div_one, ← sby_ext q3 8 x, Nat.zero_add, Nat.zero_add, sby8] at e
  have b : ∀ z : Nat, p3 (z % 256) ≤ 8 := fun z => (q1 (z % 256) (by omega)).2.2.2.2.2
  have e7 : bym p3 1 (x / 256 / 256 / 256 / 256 / 256 / 256 / 256) = p3 (x / 256 / 256 / 256 / 256 / 256 / 256 / 256 % 256) := by
    show p3 (x / 256 / 256 / 256 / 256 / 256 / 256 / 256 % 256) + 256 * 0 = _
    rw [Nat.mul_zero, Nat.add_zero]
  have k := sw8 (X1 := bym p3 7 (x / 256)) (X2 := bym p3 6 (x / 256 / 256)) (X3 := bym p3 5 (x / 256 / 256 / 256)) (X4 := bym p3 4 (x / 256 / 256 / 256 / 256)) (X5 := bym p3 3 (x / 256 / 256 / 256 / 256 / 256)) (X6 := bym p3 2 (x / 256 / 256 / 256 / 256 / 256 / 256)) (X7 := bym p3 1 (x / 256 / 256 / 256 / 256 / 256 / 256 / 256)) (b (x)) (b (x / 256)) (b (x / 256 / 256)) (b (x / 256 / 256 / 256)) (b (x / 256 / 256 / 256 / 256)) (b (x / 256 / 256 / 256 / 256 / 256)) (b (x / 256 / 256 / 256 / 256 / 256 / 256)) (b (x / 256 / 256 / 256 / 256 / 256 / 256 / 256)) hy rfl rfl rfl rfl rfl rfl e7
  rw [show bc x 64 = bc x (8 * 8) from rfl, e]
  exact k
def tn (x : Int64) : Nat := x.toBitVec.toNat
def tm (x : Int32) : Nat := x.toBitVec.toNat
theorem tn_and (x y : Int64) : tn (x &&& y) = tn x &&& tn y := by
  unfold tn
  rw [Int64.toBitVec_and, BitVec.toNat_and]
theorem tn_add {x y : Int64} (h : tn x + tn y < 2 ^ 64) : tn (x + y) = tn x + tn y := by
  unfold tn at *
  rw [Int64.toBitVec_add, BitVec.toNat_add, Nat.mod_eq_of_lt h]
theorem tn_sub {x y : Int64} (h : tn y ≤ tn x) : tn (x - y) = tn x - tn y := by
  unfold tn at *
  rw [Int64.toBitVec_sub, BitVec.toNat_sub_of_le (BitVec.le_def.mpr h)]
theorem tn_shr (x : Int64) (k : Nat) (s : UInt64) (hs : s.toNat % 64 = k) : tn ((x.toUInt64 >>> s).toInt64) = tn x / 2 ^ k := by
  show (x.toUInt64 >>> s).toNat = x.toUInt64.toNat / 2 ^ k
  rw [UInt64.toNat_shiftRight, hs, Nat.shiftRight_eq_div_pow]
theorem tm_and (x y : Int32) : tm (x &&& y) = tm x &&& tm y := by
  unfold tm
  rw [Int32.toBitVec_and, BitVec.toNat_and]
theorem tm_add {x y : Int32} (h : tm x + tm y < 2 ^ 32) : tm (x + y) = tm x + tm y := by
  unfold tm at *
  rw [Int32.toBitVec_add, BitVec.toNat_add, Nat.mod_eq_of_lt h]
theorem tm_sub {x y : Int32} (h : tm y ≤ tm x) : tm (x - y) = tm x - tm y := by
  unfold tm at *
  rw [Int32.toBitVec_sub, BitVec.toNat_sub_of_le (BitVec.le_def.mpr h)]
theorem tm_shr (x : Int32) (k : Nat) (s : UInt32) (hs : s.toNat % 32 = k) : tm ((x.toUInt32 >>> s).toInt32) = tm x / 2 ^ k := by
  show (x.toUInt32 >>> s).toNat = x.toUInt32.toNat / 2 ^ k
  rw [UInt32.toNat_shiftRight, hs, Nat.shiftRight_eq_div_pow]
theorem tm_nI {n : Nat} (h : n < 2 ^ 32) : tm (nI n) = n := by
  show (BitVec.ofNat 32 n).toNat = n
  rw [BitVec.toNat_ofNat, Nat.mod_eq_of_lt h]
theorem tm_inj {x y : Int32} (h : tm x = tm y) : x = y := Int32.toBitVec_inj.mp (BitVec.eq_of_toNat_eq h)
theorem c_pop64 (x : Int64) (σ : St) : J13_bitCount_95d88 x σ = some (nI (bc (tn x) 64)) := by
  have hX : tn x < 256 ^ 8 := x.toBitVec.isLt
  obtain ⟨g1, g2⟩ := st1 hX
  unfold J13_bitCount_95d88
  have s1 : tn (x - (((x.toUInt64 >>> ((1 : Int32).toInt64.toUInt64 &&& Int64.toUInt64 63)).toInt64) &&& 6148914691236517205)) = bym p1 8 (tn x) := by
    have e : tn (((x.toUInt64 >>> ((1 : Int32).toInt64.toUInt64 &&& Int64.toUInt64 63)).toInt64) &&& 6148914691236517205) = (tn x / 2) &&& rp 85 8 := by
      rw [tn_and, tn_shr x 1 _ (by decide +kernel), show tn 6148914691236517205 = rp 85 8 by decide +kernel, Nat.pow_one]
    rw [tn_sub (by rw [e]; exact g1), e, g2]
  generalize (x - (((x.toUInt64 >>> ((1 : Int32).toInt64.toUInt64 &&& Int64.toUInt64 63)).toInt64) &&& 6148914691236517205)) = x1 at *
  rw [bnd]
  have l2 : bym p2 8 (tn x) < 256 ^ 8 := bym_lt (fun b hb => (q1 b hb).2.2.1) 8 _
  have s2 : tn ((x1 &&& 3689348814741910323) + (((x1.toUInt64 >>> ((2 : Int32).toInt64.toUInt64 &&& Int64.toUInt64 63)).toInt64) &&& 3689348814741910323)) = bym p2 8 (tn x) := by
    have e1 : tn (x1 &&& 3689348814741910323) = bym p1 8 (tn x) &&& rp 51 8 := by
      rw [tn_and, s1, show tn 3689348814741910323 = rp 51 8 by decide +kernel]
    have e2 : tn (((x1.toUInt64 >>> ((2 : Int32).toInt64.toUInt64 &&& Int64.toUInt64 63)).toInt64) &&& 3689348814741910323) = (bym p1 8 (tn x) / 4) &&& rp 51 8 := by
      rw [tn_and, tn_shr x1 2 _ (by decide +kernel), s1, show tn 3689348814741910323 = rp 51 8 by decide +kernel]
    rw [tn_add (by rw [e1, e2, st2]; exact l2), e1, e2, st2]
  generalize ((x1 &&& 3689348814741910323) + (((x1.toUInt64 >>> ((2 : Int32).toInt64.toUInt64 &&& Int64.toUInt64 63)).toInt64) &&& 3689348814741910323)) = x2 at *
  rw [bnd]
  have s3 : tn ((x2 + ((x2.toUInt64 >>> ((4 : Int32).toInt64.toUInt64 &&& Int64.toUInt64 63)).toInt64)) &&& 1085102592571150095) = bym p3 8 (tn x) := by
    have e1 : tn ((x2.toUInt64 >>> ((4 : Int32).toInt64.toUInt64 &&& Int64.toUInt64 63)).toInt64) = bym p2 8 (tn x) / 16 := by
      rw [tn_shr x2 4 _ (by decide +kernel), s2]
    have nb := bym_nib (f := p2) (fun b hb => ⟨(q1 b hb).2.2.2.1, (q1 b hb).2.2.2.2.1⟩) 8 (tn x)
    have hb : bym p2 8 (tn x) < 2 ^ 63 := by
      obtain ⟨-, -, -, -, -, -, -, -, -, -, -, -, -, -, n1, n2, n3⟩ := nb
      have : bym p2 8 (tn x) / 256 / 256 / 256 / 256 / 256 / 256 / 256 / 256 = 0 := n3
      omega
    rw [tn_and, tn_add (by rw [e1, s2]; omega), e1, s2, show tn 1085102592571150095 = rp 15 8 by decide +kernel, st3]
  generalize ((x2 + ((x2.toUInt64 >>> ((4 : Int32).toInt64.toUInt64 &&& Int64.toUInt64 63)).toInt64)) &&& 1085102592571150095) = x3 at *
  rw [bnd]
  obtain ⟨t1, t2, t3, t4, t5⟩ := st6 (tn x) _ rfl
  have s4 : tn (x3 + ((x3.toUInt64 >>> ((8 : Int32).toInt64.toUInt64 &&& Int64.toUInt64 63)).toInt64)) = bym p3 8 (tn x) + bym p3 8 (tn x) / 256 := by
    have e1 := tn_shr x3 8 ((8 : Int32).toInt64.toUInt64 &&& Int64.toUInt64 63) (by decide +kernel)
    rw [s3, show (2 : Nat) ^ 8 = 256 from rfl] at e1
    rw [tn_add (by rw [e1, s3]; omega), e1, s3]
  generalize (x3 + ((x3.toUInt64 >>> ((8 : Int32).toInt64.toUInt64 &&& Int64.toUInt64 63)).toInt64)) = x4 at *
  rw [bnd]
  obtain ⟨u, hu⟩ : ∃ u, bym p3 8 (tn x) + bym p3 8 (tn x) / 256 = u := ⟨_, rfl⟩
  rw [hu] at t2 t3 t4 t5 s4
  have s5 : tn (x4 + ((x4.toUInt64 >>> ((16 : Int32).toInt64.toUInt64 &&& Int64.toUInt64 63)).toInt64)) = u + u / 65536 := by
    have e1 := tn_shr x4 16 ((16 : Int32).toInt64.toUInt64 &&& Int64.toUInt64 63) (by decide +kernel)
    rw [s4, show (2 : Nat) ^ 16 = 65536 from rfl] at e1
    rw [tn_add (by rw [e1, s4]; omega), e1, s4]
  generalize (x4 + ((x4.toUInt64 >>> ((16 : Int32).toInt64.toUInt64 &&& Int64.toUInt64 63)).toInt64)) = x5 at *
  rw [bnd]
  obtain ⟨v, hv⟩ : ∃ v, u + u / 65536 = v := ⟨_, rfl⟩
  rw [hv] at t3 t4 t5 s5
  have s6 : tn (x5 + ((x5.toUInt64 >>> ((32 : Int32).toInt64.toUInt64 &&& Int64.toUInt64 63)).toInt64)) = v + v / 4294967296 := by
    have e1 := tn_shr x5 32 ((32 : Int32).toInt64.toUInt64 &&& Int64.toUInt64 63) (by decide +kernel)
    rw [s5, show (2 : Nat) ^ 32 = 4294967296 from rfl] at e1
    rw [tn_add (by rw [e1, s5]; omega), e1, s5]
  generalize (x5 + ((x5.toUInt64 >>> ((32 : Int32).toInt64.toUInt64 &&& Int64.toUInt64 63)).toInt64)) = x6 at *
  rw [bnd]
  have hle := bc_le (tn x) 64
  congr 1
  apply tm_inj
  rw [tm_nI (by omega), tm_and, show tm 127 = 2 ^ 7 - 1 by decide +kernel, Nat.and_two_pow_sub_one_eq_mod, ← t5]
  have e7 : tm x6.toInt32 = tn x6 % 2 ^ 32 := by
    unfold tm tn
    rw [Int64.toBitVec_toInt32, BitVec.signExtend_eq_setWidth_of_le _ (by decide), BitVec.toNat_setWidth]
  rw [e7, s6]
  omega
theorem st4b (x : Nat) (y : Nat) (hy : y = bym p3 4 x) : y < 2 ^ 28 ∧ y + y / 256 < 2 ^ 29 ∧ (y + y / 256) + (y + y / 256) / 65536 < 2 ^ 30 ∧ ((y + y / 256) + (y + y / 256) / 65536) % 64 = bc x 32 := by
  have e := bc_sby 4 x 0
  rw [show bc x 0 = 0 from rfl, Nat.pow_zero, Nat.div_one, ← sby_ext q3 4 x, Nat.zero_add, Nat.zero_add, sby4] at e
  have b : ∀ z : Nat, p3 (z % 256) ≤ 8 := fun z => (q1 (z % 256) (by omega)).2.2.2.2.2
  have e7 : bym p3 1 (x / 256 / 256 / 256) = p3 (x / 256 / 256 / 256 % 256) := by
    show p3 (x / 256 / 256 / 256 % 256) + 256 * 0 = _
    rw [Nat.mul_zero, Nat.add_zero]
  have k := sw4 (X1 := bym p3 3 (x / 256)) (X2 := bym p3 2 (x / 256 / 256)) (X3 := bym p3 1 (x / 256 / 256 / 256)) (b (x)) (b (x / 256)) (b (x / 256 / 256)) (b (x / 256 / 256 / 256)) hy rfl rfl e7
  rw [show bc x 32 = bc x (8 * 4) from rfl, e]
  exact k
theorem c_pop32 {n : Nat} (hn : n < 2 ^ 31) (σ : St) : J6_bitCount_0f7a4 (nI n) σ = some (nI (bc n 32)) := by
  have hT : tm (nI n) = n := tm_nI (by omega)
  have hX : n < 256 ^ 4 := by omega
  obtain ⟨g1, g2⟩ := st1 hX
  unfold J6_bitCount_0f7a4
  generalize nI n = x at *
  have s1 : tm (x - (((x.toUInt32 >>> ((1 : Int32).toUInt32 &&& Int32.toUInt32 31)).toInt32) &&& 1431655765)) = bym p1 4 n := by
    have e : tm (((x.toUInt32 >>> ((1 : Int32).toUInt32 &&& Int32.toUInt32 31)).toInt32) &&& 1431655765) = (n / 2) &&& rp 85 4 := by
      rw [tm_and, tm_shr x 1 _ (by decide +kernel), hT, show tm 1431655765 = rp 85 4 by decide +kernel, Nat.pow_one]
    rw [tm_sub (by rw [e, hT]; exact g1), e, hT, g2]
  generalize (x - (((x.toUInt32 >>> ((1 : Int32).toUInt32 &&& Int32.toUInt32 31)).toInt32) &&& 1431655765)) = x1 at *
  rw [bnd]
  have l2 : bym p2 4 n < 256 ^ 4 := bym_lt (fun b hb => (q1 b hb).2.2.1) 4 _
  have s2 : tm ((x1 &&& 858993459) + (((x1.toUInt32 >>> ((2 : Int32).toUInt32 &&& Int32.toUInt32 31)).toInt32) &&& 858993459)) = bym p2 4 n := by
    have e1 : tm (x1 &&& 858993459) = bym p1 4 n &&& rp 51 4 := by
      rw [tm_and, s1, show tm 858993459 = rp 51 4 by decide +kernel]
    have e2 : tm (((x1.toUInt32 >>> ((2 : Int32).toUInt32 &&& Int32.toUInt32 31)).toInt32) &&& 858993459) = (bym p1 4 n / 4) &&& rp 51 4 := by
      rw [tm_and, tm_shr x1 2 _ (by decide +kernel), s1, show tm 858993459 = rp 51 4 by decide +kernel]
    rw [tm_add (by rw [e1, e2, st2]; exact l2), e1, e2, st2]
  generalize ((x1 &&& 858993459) + (((x1.toUInt32 >>> ((2 : Int32).toUInt32 &&& Int32.toUInt32 31)).toInt32) &&& 858993459)) = x2 at *
  rw [bnd]
  have s3 : tm ((x2 + ((x2.toUInt32 >>> ((4 : Int32).toUInt32 &&& Int32.toUInt32 31)).toInt32)) &&& 252645135) = bym p3 4 n := by
    have e1 : tm ((x2.toUInt32 >>> ((4 : Int32).toUInt32 &&& Int32.toUInt32 31)).toInt32) = bym p2 4 n / 16 := by
      rw [tm_shr x2 4 _ (by decide +kernel), s2]
    have nb := bym_nib (f := p2) (fun b hb => ⟨(q1 b hb).2.2.2.1, (q1 b hb).2.2.2.2.1⟩) 4 n
    have hb : bym p2 4 n < 2 ^ 31 := by
      obtain ⟨-, -, -, -, -, -, n1, n2, n3⟩ := nb
      have : bym p2 4 n / 256 / 256 / 256 / 256 = 0 := n3
      omega
    rw [tm_and, tm_add (by rw [e1, s2]; omega), e1, s2, show tm 252645135 = rp 15 4 by decide +kernel, st3]
  generalize ((x2 + ((x2.toUInt32 >>> ((4 : Int32).toUInt32 &&& Int32.toUInt32 31)).toInt32)) &&& 252645135) = x3 at *
  rw [bnd]
  obtain ⟨t1, t2, t3, t5⟩ := st4b n _ rfl
  have s4 : tm (x3 + ((x3.toUInt32 >>> ((8 : Int32).toUInt32 &&& Int32.toUInt32 31)).toInt32)) = bym p3 4 n + bym p3 4 n / 256 := by
    have e1 := tm_shr x3 8 ((8 : Int32).toUInt32 &&& Int32.toUInt32 31) (by decide +kernel)
    rw [s3, show (2 : Nat) ^ 8 = 256 from rfl] at e1
    rw [tm_add (by rw [e1, s3]; omega), e1, s3]
  generalize (x3 + ((x3.toUInt32 >>> ((8 : Int32).toUInt32 &&& Int32.toUInt32 31)).toInt32)) = x4 at *
  rw [bnd]
  obtain ⟨u, hu⟩ : ∃ u, bym p3 4 n + bym p3 4 n / 256 = u := ⟨_, rfl⟩
  rw [hu] at t2 t3 t5 s4
  have s5 : tm (x4 + ((x4.toUInt32 >>> ((16 : Int32).toUInt32 &&& Int32.toUInt32 31)).toInt32)) = u + u / 65536 := by
    have e1 := tm_shr x4 16 ((16 : Int32).toUInt32 &&& Int32.toUInt32 31) (by decide +kernel)
    rw [s4, show (2 : Nat) ^ 16 = 65536 from rfl] at e1
    rw [tm_add (by rw [e1, s4]; omega), e1, s4]
  generalize (x4 + ((x4.toUInt32 >>> ((16 : Int32).toUInt32 &&& Int32.toUInt32 31)).toInt32)) = x5 at *
  rw [bnd]
  have hle := bc_le n 32
  congr 1
  apply tm_inj
  rw [tm_nI (by omega), tm_and, show tm 63 = 2 ^ 6 - 1 by decide +kernel, Nat.and_two_pow_sub_one_eq_mod, ← t5, s5]
