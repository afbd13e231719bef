/-! bearers: readable years, worth -/
theorem sum_add {f g : Nat → Nat} : ∀ n, sumTo (fun k => f k + g k) n = sumTo f n + sumTo g n
  | 0 => rfl
  | n + 1 => by unfold sumTo; rw [sum_add n]; omega
theorem sum_zero : ∀ n, sumTo (fun _ => 0) n = 0
  | 0 => rfl
  | n + 1 => by unfold sumTo; rw [sum_zero n]
theorem sum_one {a v : Nat} : ∀ n, a < n → sumTo (fun k => if k = a then v else 0) n = v
  | 0, h => by omega
  | n + 1, h => by
    unfold sumTo
    by_cases e : a = n
    · subst e
      rw [sum_ext (g' := fun _ => 0) a (fun k hk => by simp [Nat.ne_of_lt hk]), sum_zero]
      simp
    · rw [sum_one n (by omega), if_neg (show ¬ n = a from fun h => e h.symm), Nat.add_zero]
/-- how many from lo to hi -/
def iv (lo hi : Nat) (q : Nat → Bool) : Nat := sumTo (fun y => if lo ≤ y ∧ y ≤ hi ∧ q y = true then 1 else 0) 2000
theorem iv_nil {lo hi : Nat} {q : Nat → Bool} (h : hi < lo) : iv lo hi q = 0 := by
  unfold iv
  rw [sum_ext (g' := fun _ => 0) 2000 (fun k hk => by rw [if_neg (by omega)]), sum_zero]
theorem iv_step {lo hi : Nat} {q : Nat → Bool} (h : lo ≤ hi) (hh : hi < 2000) : iv lo hi q = (if q lo = true then 1 else 0) + iv (lo + 1) hi q := by
  unfold iv
  rw [sum_ext (g' := fun y => (if y = lo then (if q lo = true then 1 else 0) else 0) + (if lo + 1 ≤ y ∧ y ≤ hi ∧ q y = true then 1 else 0)) 2000 (fun k hk => ?_), sum_add, sum_one _ (by omega)]
  by_cases e : k = lo
  · subst e
    rw [if_pos rfl, if_neg (show ¬ (k + 1 ≤ k ∧ k ≤ hi ∧ q k = true) from fun h => by omega)]
    by_cases hq : q k = true
    · rw [if_pos ⟨Nat.le_refl _, h, hq⟩, if_pos hq]
    · rw [if_neg (fun h => hq h.2.2), if_neg hq]
  · rw [if_neg e]
    by_cases hq : lo ≤ k ∧ k ≤ hi ∧ q k = true
    · rw [if_pos hq, if_pos ⟨by omega, hq.2⟩]
    · rw [if_neg hq, if_neg (fun h => hq ⟨by omega, h.2⟩)]
theorem iv_le (lo hi : Nat) (q : Nat → Bool) : iv lo hi q ≤ 2000 := by
  have := sum_le (g := fun y => if lo ≤ y ∧ y ≤ hi ∧ q y = true then 1 else 0) (b := 1) 2000 (fun k _ => by split <;> omega)
  unfold iv
  omega
theorem iv_ext {lo hi lo' hi' : Nat} {q q' : Nat → Bool} (h : ∀ y, (lo ≤ y ∧ y ≤ hi ∧ q y = true) ↔ (lo' ≤ y ∧ y ≤ hi' ∧ q' y = true)) : iv lo hi q = iv lo' hi' q' := by
  unfold iv
  refine sum_ext 2000 (fun k _ => ?_)
  by_cases e : lo ≤ k ∧ k ≤ hi ∧ q k = true
  · rw [if_pos e, if_pos ((h k).mp e)]
  · rw [if_neg e, if_neg (fun h' => e ((h k).mpr h'))]
section Bear
variable {σ τ : St} {B : DB} {L : DL} {np : Nat}
def nh (B : DB) (b y : Nat) : Bool := !(isH (B.2.2.2.2 b) (nI y - nI (B.2.2.1 b)))
theorem c_rdL (hB : CB σ B) (w : B.1 ≤ 8) {b : Nat} (hb : b < B.1) {hi : Nat} (hh : hi < 2000) : ∀ d m lo a, lo + d = hi + 1 ∨ (hi < lo ∧ lo < 2000 ∧ d = 0) → d < m → X0_readableYearsOf_L27 σ m (nI b) (nI a) (nI hi) (nI lo) = some (nI (a + iv lo hi (nh B b))) := by
  intro d
  induction d with
  | zero =>
    intro m lo a hd hm
    obtain ⟨m, rfl⟩ : ∃ q, m = q + 1 := ⟨m - 1, by omega⟩
    rw [X0_readableYearsOf_L27, if_pos (by rw [ltI (by omega) (by omega)]; omega), iv_nil (by omega), Nat.add_zero]
  | succ d ih =>
    intro m lo a hd hm
    obtain ⟨m, rfl⟩ : ∃ q, m = q + 1 := ⟨m - 1, by omega⟩
    rw [X0_readableYearsOf_L27, if_neg (by rw [ltI (by omega) (by omega)]; omega), c_isHole hB w hb, Option.bind_some, iv_step (by omega) hh, nI_1, nI_1]
    simp only [b2_0]
    by_cases e : isH (B.2.2.2.2 b) (nI lo - nI (B.2.2.1 b)) = false
    · rw [if_pos e, ih m (lo + 1) (a + 1) (by omega) (by omega), if_pos (show nh B b lo = true by unfold nh; rw [e]; rfl)]
      congr 2; omega
    · rw [if_neg e, ih m (lo + 1) a (by omega) (by omega), if_neg (show ¬ nh B b lo = true by unfold nh; simpa using e)]
      congr 2; omega
def rdq (B : DB) (p y1 y2 b y : Nat) : Bool := decide (B.2.1 b = p) && (decide (y1 ≤ y) && (decide (y ≤ y2) && nh B b y))
def rdF (B : DB) (p y1 y2 b : Nat) : Nat := iv (B.2.2.1 b) (B.2.2.2.1 b) (rdq B p y1 y2 b)
theorem c_rdOf (hB : CB σ B) (wb : WB np B) {b : Nat} (hb : b < B.1) {p y1 y2 : Nat} (hp : B.2.1 b = p) (h1 : y1 ≤ 1899) (h2 : y2 ≤ 1899) : X0_readableYearsOf (nI b) (nI y1) (nI y2) σ = some (nI (rdF B p y1 y2 b)) := by
  have w := wb.1
  obtain ⟨-, q1, q2, q3, -⟩ := wb.2 b hb
  unfold X0_readableYearsOf
  rw [chk_nI (by omega) (by decide), nI_cl (by omega), hB.2.2.2.1 b hb, c_min _ _ (by omega) (by omega), Option.bind_some, chk_nI (by omega) (by decide), hB.2.2.1 b hb, c_max _ _ (by omega) (by omega), Option.bind_some]
  have := c_rdL hB w hb (hi := min y2 (B.2.2.2.1 b)) (by omega) (min y2 (B.2.2.2.1 b) + 1 - max y1 (B.2.2.1 b)) FU (max y1 (B.2.2.1 b)) 0 (by omega) (by show _ < 1000000; omega)
  have e : iv (max y1 (B.2.2.1 b)) (min y2 (B.2.2.2.1 b)) (nh B b) = rdF B p y1 y2 b := ?_
  · rw [show (0 : Int32) = nI 0 from rfl, this, Nat.zero_add, e]
  refine iv_ext fun y => ?_
  unfold rdq
  simp only [Bool.and_eq_true, decide_eq_true_eq, hp]
  constructor
  · rintro ⟨a, b, c⟩
    exact ⟨by omega, by omega, trivial, by omega, by omega, c⟩
  · rintro ⟨a, b, -, c, d, e⟩
    exact ⟨by omega, by omega, e⟩
theorem rdF_0 {p y1 y2 b : Nat} (h : ¬ B.2.1 b = p) : rdF B p y1 y2 b = 0 := by
  unfold rdF
  rw [iv_ext (lo' := 1) (hi' := 0) (q' := fun _ => true) (fun y => by unfold rdq; simp [h]; omega), iv_nil (by omega)]
theorem c_rdYears (hB : CB σ B) (wb : WB np B) (hnp : np ≤ 8) {p y1 y2 : Nat} (hp : p < 2 ^ 31) (h1 : y1 ≤ 1899) (h2 : y2 ≤ 1899) : X0_readableYears (nI p) (nI y1) (nI y2) σ = some (nI (sumTo (rdF B p y1 y2) B.1)) := by
  have w := wb.1
  have key := loop0 (fun m k (a : Nat) => X0_readableYears_L6 σ m (nI p) (nI y1) (nI y2) (nI a) (nI k)) B.1 (fun k => sumTo (rdF B p y1 y2) k) (some (nI (sumTo (rdF B p y1 y2) B.1))) (by omega) (fun m b hb => ?_) (fun m => ?_)
  · exact key
  · show X0_readableYears_L6 σ (m + 1) (nI p) (nI y1) (nI y2) (nI (sumTo (rdF B p y1 y2) b)) (nI b) = X0_readableYears_L6 σ m (nI p) (nI y1) (nI y2) (nI (sumTo (rdF B p y1 y2) b + rdF B p y1 y2 b)) (nI (b + 1))
    have hbp := (wb.2 b hb).1
    rw [X0_readableYears_L6, hB.1, if_neg (nI_ge hb (by omega)), chk_nI (by omega) (by decide), nI_cl (by omega), hB.2.1 b hb, nI_1]
    by_cases e : B.2.1 b = p
    · rw [if_pos (by rw [e]), c_rdOf hB wb hb e h1 h2, Option.bind_some, bnd, nI_add]
    · rw [show sumTo (rdF B p y1 y2) b + rdF B p y1 y2 b = sumTo (rdF B p y1 y2) b by rw [rdF_0 e]; rfl]
      by_cases e2 : nI (B.2.1 b) = nI p
      · exact absurd ((nI_eq (by omega) hp).mp e2) e
      · rw [if_neg e2]
  · show X0_readableYears_L6 σ (m + 1) (nI p) (nI y1) (nI y2) (nI (sumTo (rdF B p y1 y2) B.1)) (nI B.1) = _
    rw [X0_readableYears_L6, hB.1, if_pos (nI_le (Nat.le_refl _) (by omega))]
end Bear
