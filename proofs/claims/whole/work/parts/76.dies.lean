/-! dies: reduced by steps, or at the end -/
section Dies
variable {σ τ : St}
theorem euc_lt {a b : Nat} (hb : 0 < b) (hc : 0 < a % b) : 2 * (b % (a % b)) < b := by
  have h1 : a % b < b := Nat.mod_lt _ hb
  have h2 : b % (a % b) < a % b := Nat.mod_lt _ hc
  have h3 : b % (a % b) + a % b ≤ b := by
    have h4 := Nat.div_add_mod b (a % b)
    have h5 : 1 ≤ b / (a % b) := (Nat.one_le_div_iff hc).mpr (by omega)
    have h6 : (a % b) * 1 ≤ (a % b) * (b / (a % b)) := Nat.mul_le_mul_left _ h5
    omega
  omega
theorem gcd_st (a b : Nat) : Nat.gcd a b = Nat.gcd b (a % b) := by
  rw [Nat.gcd_comm a b, Nat.gcd_rec b a, Nat.gcd_comm]
theorem c_gcd : ∀ k a b i m, a < 2 ^ 63 → b < 2 ^ k → k ≤ 45 → i + 2 * k + 1 ≤ 100 → 2 * k + 1 < m → X2_greatestDivisor_L9 σ m (lN a) (lN b) (nI i) = some (lN (Nat.gcd a b)) := by
  intro k
  induction k with
  | zero =>
    intro a b i m ha hb hk hi hm
    obtain ⟨m, rfl⟩ : ∃ q, m = q + 1 := ⟨m - 1, by omega⟩
    have : b = 0 := by omega
    subst this
    rw [X2_greatestDivisor_L9, if_neg (show ¬ (100 : Int32) ≤ nI i from nI_ge (b := 100) (by omega) (by decide)), if_pos (show lN 0 = 0 from rfl), Nat.gcd_zero_right]
  | succ k ih =>
    intro a b i m ha hb hk hi hm
    have hp : 2 ^ (k + 1) ≤ 2 ^ 46 := Nat.pow_le_pow_right (n := 2) (by decide) (by omega)
    have hz : ∀ z : Nat, z < 2 ^ 63 → (lN z = (0 : Int64)) = (z = 0) := fun z h => propext (pk_lEQ h (show 0 < 2 ^ 63 by decide))
    obtain ⟨m, rfl⟩ : ∃ q, m = q + 1 := ⟨m - 1, by omega⟩
    rw [X2_greatestDivisor_L9, if_neg (show ¬ (100 : Int32) ≤ nI i from nI_ge (b := 100) (by omega) (by decide))]
    simp only [hz b (by omega)]
    by_cases e : b = 0
    · subst e
      rw [if_pos rfl, Nat.gcd_zero_right]
    · have hab : a % b < b := Nat.mod_lt _ (by omega)
      unfold chkzl
      simp only [hz b (by omega)]
      rw [if_neg e, if_neg e, pk_lRem ha (by omega) (by omega), bnd, nI_1, gcd_st a b]
      obtain ⟨m, rfl⟩ : ∃ q, m = q + 1 := ⟨m - 1, by omega⟩
      rw [X2_greatestDivisor_L9, if_neg (show ¬ (100 : Int32) ≤ nI (i + 1) from nI_ge (b := 100) (by omega) (by decide))]
      simp only [hz (a % b) (by omega)]
      by_cases e2 : a % b = 0
      · rw [if_pos e2, e2, Nat.gcd_zero_right]
      · have hl := euc_lt (a := a) (b := b) (by omega) (by omega)
        unfold chkzl
        simp only [hz (a % b) (by omega)]
        rw [if_neg e2, if_neg e2, pk_lRem (by omega) (by omega) (by omega), bnd, nI_1, gcd_st b (a % b)]
        rw [Nat.pow_succ] at hb
        exact ih (a % b) (b % (a % b)) (i + 1 + 1) m (by omega) (by omega) (by omega) (by omega) (by omega)
theorem m_gcd (x2 : Int32) (N D : Int64) : ∀ k a b m, a < 2 ^ 63 → b < 2 ^ k → k ≤ 62 → 2 * k + 1 < m → 0 < Nat.gcd a b → Nat.gcd a b < 2 ^ 63 → X11_dies_L179 τ m x2 N D (lN a) (lN b) = some (if x2 = 0 then N / lN (Nat.gcd a b) else D / lN (Nat.gcd a b)) := by
  have hz : ∀ z : Nat, z < 2 ^ 63 → (lN z = (0 : Int64)) = (z = 0) := fun z h => propext (pk_lEQ h (show 0 < 2 ^ 63 by decide))
  have last : ∀ m a, 0 < a → a < 2 ^ 63 → X11_dies_L179 τ (m + 1) x2 N D (lN a) (lN 0) = some (if x2 = 0 then N / lN a else D / lN a) := fun m a h0 h1 => by
    rw [X11_dies_L179, if_pos (show lN 0 = 0 from rfl)]
    unfold chkzl
    simp only [hz a h1]
    rw [if_neg (show ¬ a = 0 by omega), if_neg (show ¬ a = 0 by omega)]
    by_cases e : x2 = 0
    · rw [if_pos e, if_pos e]
    · rw [if_neg e, if_neg e]
  intro k
  induction k with
  | zero =>
    intro a b m ha hb hk hm hg hg'
    obtain ⟨m, rfl⟩ : ∃ q, m = q + 1 := ⟨m - 1, by omega⟩
    have : b = 0 := by omega
    subst this
    rw [Nat.gcd_zero_right] at hg hg' ⊢
    exact last m a hg hg'
  | succ k ih =>
    intro a b m ha hb hk hm hg hg'
    have hp : 2 ^ (k + 1) ≤ 2 ^ 62 := Nat.pow_le_pow_right (n := 2) (by decide) (by omega)
    obtain ⟨m, rfl⟩ : ∃ q, m = q + 1 := ⟨m - 1, by omega⟩
    by_cases e : b = 0
    · subst e
      rw [Nat.gcd_zero_right] at hg hg' ⊢
      exact last m a hg hg'
    · have hab : a % b < b := Nat.mod_lt _ (by omega)
      rw [gcd_st a b] at hg hg' ⊢
      rw [X11_dies_L179]
      unfold chkzl
      simp only [hz b (by omega)]
      rw [if_neg e, if_neg e, pk_lRem ha (by omega) (by omega), bnd]
      obtain ⟨m, rfl⟩ : ∃ q, m = q + 1 := ⟨m - 1, by omega⟩
      by_cases e2 : a % b = 0
      · rw [e2, Nat.gcd_zero_right] at hg hg' ⊢
        exact last m b hg hg'
      · have hl := euc_lt (a := a) (b := b) (by omega) (by omega)
        rw [gcd_st b (a % b)] at hg hg' ⊢
        rw [X11_dies_L179]
        unfold chkzl
        simp only [hz (a % b) (by omega)]
        rw [if_neg e2, if_neg e2, pk_lRem (by omega) (by omega) (by omega), bnd]
        rw [Nat.pow_succ] at hb
        exact ih (a % b) (b % (a % b)) m (by omega) (by omega) (by omega) (by omega) hg hg'
theorem c_power (a : Nat) {k : Nat} (hk : k ≤ 3) : X2_power (lN a) (nI k) σ = some (lN (a ^ k)) := by
  have key := loop0 (fun m i (o : Nat) => X2_power_L5 σ m (lN a) (nI k) (lN o) (nI i)) k (fun i => a ^ i) (some (lN (a ^ k))) (by omega) (fun m i hi => ?_) (fun m => ?_)
  · exact key
  · show X2_power_L5 σ (m + 1) (lN a) (nI k) (lN (a ^ i)) (nI i) = X2_power_L5 σ m (lN a) (nI k) (lN (a ^ (i + 1))) (nI (i + 1))
    rw [X2_power_L5, if_neg (nI_ge hi (by omega)), lN_mul, bnd, nI_1, Nat.pow_succ]
  · show X2_power_L5 σ (m + 1) (lN a) (nI k) (lN (a ^ k)) (nI k) = _
    rw [X2_power_L5, if_pos (nI_le (Nat.le_refl _) (by omega))]
def gS (w : Nat → Nat) (a b : Nat) : Nat := w 0 * a ^ 0 * b ^ 3 + w 1 * a ^ 1 * b ^ 2 + w 2 * a ^ 2 * b ^ 1 + w 3 * a ^ 3 * b ^ 0
def gW (w : Nat → Nat) : Nat := w 0 + w 1 + w 2 + w 3
theorem gS_le (w : Nat → Nat) {a b : Nat} (h : a ≤ b) : gS w a b ≤ gW w * b ^ 3 := by
  have t : ∀ v i j, i + j = 3 → v * a ^ i * b ^ j ≤ v * b ^ 3 := fun v i j e => by
    rw [Nat.mul_assoc, ← e, Nat.pow_add]
    exact Nat.mul_le_mul_left _ (Nat.mul_le_mul_right _ (Nat.pow_le_pow_left h i))
  have t0 := t (w 0) 0 3 rfl
  have t1 := t (w 1) 1 2 rfl
  have t2 := t (w 2) 2 1 rfl
  have t3 := t (w 3) 3 0 rfl
  unfold gS gW
  rw [Nat.add_mul, Nat.add_mul, Nat.add_mul]
  omega
theorem gS_mul (w : Nat → Nat) (G a b : Nat) : gS w (G * a) (G * b) = G ^ 3 * gS w a b := by
  have t : ∀ v i j, i + j = 3 → v * (G * a) ^ i * (G * b) ^ j = G ^ 3 * (v * a ^ i * b ^ j) := fun v i j e => by
    rw [Nat.mul_pow, Nat.mul_pow, ← e, Nat.pow_add]
    ac_rfl
  unfold gS
  rw [t (w 0) 0 3 rfl, t (w 1) 1 2 rfl, t (w 2) 2 1 rfl, t (w 3) 3 0 rfl, Nat.mul_add, Nat.mul_add, Nat.mul_add]
/-- not reduced -/
def uNM (w : Nat → Nat) : Nat → Nat × Nat
  | 0 => (0, 1)
  | g + 1 => (gS w (uNM w g).1 (uNM w g).2, gW w * (uNM w g).2 ^ 3)
def uD : Nat → Nat
  | 0 => 1
  | g + 1 => 9 * uD g ^ 3
theorem uNM_le {w : Nat → Nat} (hw : gW w ≤ 9) (h1 : 1 ≤ gW w) : ∀ g, (uNM w g).1 ≤ (uNM w g).2 ∧ 1 ≤ (uNM w g).2 ∧ (uNM w g).2 ≤ uD g
  | 0 => ⟨Nat.zero_le 1, Nat.le_refl 1, Nat.le_refl 1⟩
  | g + 1 => by
    obtain ⟨i1, i2, i3⟩ := uNM_le hw h1 g
    refine ⟨gS_le w i1, ?_, ?_⟩
    · show 1 ≤ gW w * (uNM w g).2 ^ 3
      exact Nat.mul_pos h1 (Nat.pow_pos i2)
    · show gW w * (uNM w g).2 ^ 3 ≤ 9 * uD g ^ 3
      exact Nat.mul_le_mul hw (Nat.pow_le_pow_left i3 3)
theorem uD_lt : ∀ g, g ≤ 3 → uD g < 2 ^ 42 := by decide +kernel
/-- a generation more, reduced -/
theorem gen_red {w : Nat → Nat} (hw : gW w ≤ 9) (h1 : 1 ≤ gW w) {g G a b : Nat} (hG : 0 < G) (hN : (uNM w g).1 = G * a) (hM : (uNM w g).2 = G * b) : 0 < b ∧ a ≤ b ∧ b ≤ uD g ∧ 0 < Nat.gcd (gS w a b) (gW w * b ^ 3) ∧ ∃ G', 0 < G' ∧ (uNM w (g + 1)).1 = G' * (gS w a b / Nat.gcd (gS w a b) (gW w * b ^ 3)) ∧ (uNM w (g + 1)).2 = G' * (gW w * b ^ 3 / Nat.gcd (gS w a b) (gW w * b ^ 3)) ∧ Nat.gcd (gS w a b / Nat.gcd (gS w a b) (gW w * b ^ 3)) (gW w * b ^ 3 / Nat.gcd (gS w a b) (gW w * b ^ 3)) = 1 ∧ gS w a b ≤ gW w * b ^ 3 ∧ gW w * b ^ 3 ≤ uD (g + 1) := by
  obtain ⟨i1, i2, i3⟩ := uNM_le hw h1 g
  have hb : 0 < b := by
    rcases Nat.eq_zero_or_pos b with e | e
    · rw [hM, e, Nat.mul_zero] at i2; omega
    · exact e
  have hab : a ≤ b := Nat.le_of_mul_le_mul_left (by rw [← hN, ← hM]; exact i1) hG
  have hbD : b ≤ uD g := by
    have : 1 * b ≤ G * b := Nat.mul_le_mul_right _ hG
    omega
  have hp : 0 < gW w * b ^ 3 := Nat.mul_pos h1 (Nat.pow_pos hb)
  have hg : 0 < Nat.gcd (gS w a b) (gW w * b ^ 3) := Nat.gcd_pos_of_pos_right _ hp
  have d1 := Nat.div_mul_cancel (Nat.gcd_dvd_left (gS w a b) (gW w * b ^ 3))
  have d2 := Nat.div_mul_cancel (Nat.gcd_dvd_right (gS w a b) (gW w * b ^ 3))
  refine ⟨hb, hab, hbD, hg, G ^ 3 * Nat.gcd (gS w a b) (gW w * b ^ 3), Nat.mul_pos (Nat.pow_pos hG) hg, ?_, ?_, Nat.coprime_div_gcd_div_gcd hg, gS_le w hab, ?_⟩
  · show gS w (uNM w g).1 (uNM w g).2 = _
    rw [hN, hM, gS_mul, Nat.mul_assoc, Nat.mul_comm (Nat.gcd _ _), d1]
  · show gW w * (uNM w g).2 ^ 3 = _
    rw [hM, Nat.mul_pow, Nat.mul_assoc, Nat.mul_comm (Nat.gcd _ _), d2, ← Nat.mul_assoc, ← Nat.mul_assoc, Nat.mul_comm (gW w)]
  · show gW w * b ^ 3 ≤ 9 * uD g ^ 3
    exact Nat.mul_le_mul hw (Nat.pow_le_pow_left hbD 3)
/-- the class: a generation -/
theorem c_gen {r : Nat} {w : Nat → Nat} (hw : ∀ k, k < 4 → gI σ (6 + r) (4 + k) = nI (w k) ∧ w k ≤ 9) {a b : Nat} (ha : gJ σ 49 0 = lN a) (hb : gJ σ 49 1 = lN b) (hS : gS w a b < 2 ^ 63) (hW : gW w * b ^ 3 < 2 ^ 42) (hg : 0 < Nat.gcd (gS w a b) (gW w * b ^ 3)) (hgl : Nat.gcd (gS w a b) (gW w * b ^ 3) < 2 ^ 63) : X2_addGeneration r σ = some (sJ (sJ σ 49 0 (lN (gS w a b / Nat.gcd (gS w a b) (gW w * b ^ 3)))) 49 1 (lN (gW w * b ^ 3 / Nat.gcd (gS w a b) (gW w * b ^ 3)))) := by
  have st : ∀ k n al su, k < 4 → X2_addGeneration_L8 r (n + 1) (lN al) (lN su) (nI k) σ = X2_addGeneration_L8 r n (lN (al + w k)) (lN (su + w k * a ^ k * b ^ (3 - k))) (nI (k + 1)) σ := fun k n al su hk => by
    obtain ⟨h1, h2⟩ := hw k hk
    have e4 : (4 : Int32) + nI k = nI (4 + k) := nI_add 4 k
    have e3 : (3 : Int32) - nI k = nI (3 - k) := subI (a := 3) (by omega)
    rw [X2_addGeneration_L8, if_neg (show ¬ (4 : Int32) ≤ nI k from nI_ge (b := 4) hk (by decide)), e4, chk_nI (by omega) (by decide), nI_cl (by omega), h1, bnd, nI_l (by omega), lN_add, bnd, ha, c_power a (by omega), Option.bind_some, hb, e3, c_power b (by omega), Option.bind_some, lN_mul, lN_mul, lN_add, bnd, nI_1]
  obtain ⟨n, hn⟩ : ∃ n, FU = n + 1 + 1 + 1 + 1 + 1 := ⟨999995, rfl⟩
  have hz : ∀ z : Nat, z < 2 ^ 63 → (lN z = (0 : Int64)) = (z = 0) := fun z h => propext (pk_lEQ h (show 0 < 2 ^ 63 by decide))
  have hz' : ∀ z : Nat, z < 2 ^ 63 → (lN z ≤ (0 : Int64)) = (z ≤ 0) := fun z h => propext (pk_lLE h (show 0 < 2 ^ 63 by decide))
  unfold X2_addGeneration
  rw [hn, show (0 : Int64) = lN 0 from rfl, show (0 : Int32) = nI 0 from rfl, st 0 _ _ _ (by decide), st 1 _ _ _ (by decide), st 2 _ _ _ (by decide), st 3 _ _ _ (by decide)]
  have eS : 0 + w 0 * a ^ 0 * b ^ (3 - 0) + w 1 * a ^ 1 * b ^ (3 - 1) + w 2 * a ^ 2 * b ^ (3 - 2) + w 3 * a ^ 3 * b ^ (3 - 3) = gS w a b := by
    unfold gS
    rw [Nat.zero_add]
  have eW : 0 + w 0 + w 1 + w 2 + w 3 = gW w := by
    unfold gW
    rw [Nat.zero_add]
  have p3 : X2_power (lN b) 3 σ = some (lN (b ^ 3)) := c_power (σ := σ) b (k := 3) (by decide)
  have hgc := c_gcd (σ := σ) 42 (gS w a b) (gW w * b ^ 3) 0 FU hS hW (by decide) (by decide) (by decide)
  rw [eS, eW, X2_addGeneration_L8, if_pos (show (4 : Int32) ≤ nI (3 + 1) by decide), hb, p3, Option.bind_some, lN_mul, bnd]
  unfold X2_greatestDivisor
  rw [show (0 : Int32) = nI 0 from rfl, hgc, Option.bind_some]
  unfold chkzl
  simp only [hz _ hgl, hz' _ hgl]
  rw [if_neg (by omega), if_neg (by omega), pk_lDiv hS hg hgl]
  unfold X2_addGeneration_B105 chkzl
  simp only [hz _ hgl, hz' _ hgl]
  rw [bnd, if_neg (by omega), if_neg (by omega), pk_lDiv (by omega) hg hgl, bnd]
end Dies
