/-! where a name began: how far, who lets whom come -/
def ad (a b : Nat) : Nat := (a - b) + (b - a)
theorem adI : ∀ a, a < 100 → ∀ b, b < 100 → (0 ≤ nI a - nI b ∧ nI a - nI b = nI (ad a b)) ∨ (¬ 0 ≤ nI a - nI b ∧ -(nI a - nI b) = nI (ad a b) ∧ 0 - (nI a - nI b) = nI (ad a b)) := by decide +kernel
theorem dvI : ∀ d, d < 199 → ∀ m, m < 21 → m ≠ 0 → ((nI d * 10 + nI m) - 1) / nI m = nI ((10 * d + m - 1) / m) ∧ ((10 * nI d + nI m) - 1) / nI m = nI ((10 * d + m - 1) / m) := by decide +kernel
def dst (P : DP) (p q : Nat) : Nat := ad (P.2.1 p) (P.2.1 q) + ad (P.2.2 p) (P.2.2 q)
theorem dst_lt {P : DP} (w : WP P) {p q : Nat} (hp : p < P.1) (hq : q < P.1) : dst P p q < 199 := by
  have h1 := w.2 p hp
  have h2 := w.2 q hq
  unfold dst ad
  omega
def prs (f : Nat → Option Nat) (q : Nat) : Bool := (f q).isSome
def ltM (P : DP) (f : Nat → Option Nat) (m p q : Nat) : Bool := match f p, f q with
  | some a, some b => decide (a + (10 * dst P p q + m - 1) / m ≤ b)
  | _, _ => false
def rch (P : DP) (f : Nat → Option Nat) (m p q : Nat) : Bool := decide (q = p) || (prs f q && ltM P f m p q)
def FY (f : Nat → Option Nat) : Prop := ∀ p y, f p = some y → 1500 ≤ y ∧ y ≤ 1899
theorem yrs_le {P : DP} (w : WP P) {p q m : Nat} (hp : p < P.1) (hq : q < P.1) : (10 * dst P p q + m - 1) / m ≤ 2000 := by
  have := dst_lt w hp hq
  cases m with
  | zero => simp
  | succ m =>
    have : (10 * dst P p q + (m + 1) - 1) / (m + 1) ≤ 10 * dst P p q := by
      rw [show 10 * dst P p q + (m + 1) - 1 = 10 * dst P p q + m by omega]
      rw [Nat.div_le_iff_le_mul_add_pred (by omega)]
      have : 10 * dst P p q ≤ (m + 1) * (10 * dst P p q) := Nat.le_mul_of_pos_left _ (by omega)
      omega
    omega
theorem bs_set {p : Nat → Bool} {k : Nat} (h : p k = true) : bs p k ||| 2 ^ k = bs p (k + 1) := by
  apply Nat.eq_of_testBit_eq
  intro i
  rw [Nat.testBit_or, bs_bit, bs_bit, Nat.testBit_two_pow]
  by_cases e : i = k
  · subst e; simp [h]
  · by_cases h1 : i < k
    · simp [h1, show i < k + 1 by omega, show ¬ k = i from fun h => e h.symm]
    · simp [h1, show ¬ i < k + 1 by omega, show ¬ k = i from fun h => e h.symm]
theorem bs_no {p : Nat → Bool} {k : Nat} (h : p k = false) : bs p (k + 1) = bs p k := by
  show bs p k + (if p k then 2 ^ k else 0) = bs p k
  rw [h]; rfl
theorem bs_lt8 (p : Nat → Bool) {n : Nat} (hn : n ≤ 8) : bs p n < 256 := Nat.lt_of_lt_of_le (bs_lt p n) (Nat.pow_le_pow_right (n := 2) (by decide) hn)
section Orig
variable {σ τ : St} {P : DP} {f : Nat → Option Nat}
def OC (σ : St) (P : DP) (f : Nat → Option Nat) : Prop := CP σ P ∧ gI σ 46 4 = nI (bs (prs f) P.1) ∧ ∀ p, p < P.1 → gI σ 47 p = oI (f p)
def OM (τ : St) (P : DP) (f : Nat → Option Nat) : Prop := MP τ P ∧ ∀ p, p < P.1 → gI τ 44 p = oI (f p)
theorem c_far (h : CP σ P) (w : WP P) {p q : Nat} (hp : p < P.1) (hq : q < P.1) : X0_howFar (nI p) (nI q) σ = some (nI (dst P p q)) := by
  have h8 := w.1
  have h1 := w.2 p hp
  have h2 := w.2 q hq
  unfold X0_howFar J9_abs_0f7a4
  simp only [chk_nI (show p < 8 by omega) (show 8 < 2 ^ 31 by decide), chk_nI (show q < 8 by omega) (show 8 < 2 ^ 31 by decide), nI_cl (show p < 2 ^ 31 by omega), nI_cl (show q < 2 ^ 31 by omega), h.2.1 p hp, h.2.1 q hq, h.2.2 p hp, h.2.2 q hq, Option.bind_some]
  have e : ∀ a b, a < 100 → b < 100 → (if 0 ≤ nI a - nI b then nI a - nI b else 0 - (nI a - nI b)) = nI (ad a b) := fun a b ha hb => by
    rcases adI a ha b hb with ⟨c1, c2⟩ | ⟨c1, c2, c3⟩
    · rw [if_pos c1, c2]
    · rw [if_neg c1, c3]
  rw [e _ _ (by omega) (by omega), e _ _ (by omega) (by omega), nI_add]
  rfl
theorem c_isPr (h : OC σ P f) (w : P.1 ≤ 8) {p : Nat} (hp : p < P.1) : X4_isPresent (nI p) σ = some (b2 (prs f p)) := by
  have hb := bs_lt8 (prs f) w
  unfold X4_isPresent
  rw [h.2.1]
  have e := bit32 (n := bs (prs f) P.1) (k := p) (by omega) (by omega)
  rw [bs_bit] at e
  simp only [hp, decide_true, Bool.true_and] at e
  cases hq : prs f p with
  | true => rw [if_pos (e.mpr hq)]; rfl
  | false => rw [if_neg (fun h => by rw [e.mp h] at hq; cases hq)]; rfl
theorem c_reach (h : OC σ P f) (w : WP P) (hf : FY f) {m p : Nat} (hm : m < 21) (hm0 : m ≠ 0) (hp : p < P.1) (hpr : prs f p = true) : X4_reachOf (nI p) (nI m) σ = some (nI (bs (rch P f m p) P.1)) := by
  have h8 := w.1
  obtain ⟨a, ha⟩ : ∃ a, f p = some a := by
    unfold prs at hpr
    cases e : f p with
    | none => rw [e] at hpr; cases hpr
    | some a => exact ⟨a, rfl⟩
  have hya := hf p a ha
  have h2p : 2 ^ p < 256 := Nat.lt_of_lt_of_le (Nat.pow_lt_pow_right (by decide) (show p < 8 by omega)) (by decide)
  have key := loop0 (fun n k (o : Nat) => X4_reachOf_L7 σ n (nI p) (nI m) (nI o) (nI k)) P.1 (fun k => 2 ^ p ||| bs (fun q => prs f q && ltM P f m p q) k) (some (nI (2 ^ p ||| bs (fun q => prs f q && ltM P f m p q) P.1))) (by omega) (fun n k hk => ?_) (fun n => ?_)
  · unfold X4_reachOf
    rw [bnd, one_shl32 p (by omega)]
    have e0 : (2 ^ p ||| bs (fun q => prs f q && ltM P f m p q) 0) = 2 ^ p := by
      show 2 ^ p ||| 0 = 2 ^ p
      rw [Nat.or_zero]
    rw [e0] at key
    rw [show X4_reachOf_L7 σ FU (nI p) (nI m) (nI (2 ^ p)) 0 = _ from key]
    congr 2
    rw [bs_one hp, bs_or]
    rfl
  · show X4_reachOf_L7 σ (n + 1) (nI p) (nI m) (nI (2 ^ p ||| bs (fun q => prs f q && ltM P f m p q) k)) (nI k) = X4_reachOf_L7 σ n (nI p) (nI m) (nI (2 ^ p ||| bs (fun q => prs f q && ltM P f m p q) (k + 1))) (nI (k + 1))
    have hd := dst_lt w hp hk
    have hdv : X10_divideUp (nI (dst P p k) * 10) (nI m) σ = some (nI ((10 * dst P p k + m - 1) / m)) := by
      unfold X10_divideUp
      rw [if_pos (show (0 : Int32) < nI m by rw [show (0 : Int32) = nI 0 from rfl, ltI (by decide) (by omega)]; omega)]
      unfold chkz
      rw [if_neg (show ¬ nI m = (0 : Int32) from fun e => hm0 ((nI_eq (b := 0) (by omega) (by decide)).mp e)), (dvI _ hd m hm hm0).1]
    have hyl := yrs_le (m := m) w hp hk
    rw [X4_reachOf_L7, h.1.1, if_neg (nI_ge hk (by omega)), c_far h.1 w hp hk, Option.bind_some, hdv, Option.bind_some, c_isPr h h8 hk, Option.bind_some, nI_1]
    cases hk' : f k with
    | none =>
      have e1 : prs f k = false := by unfold prs; rw [hk']; rfl
      rw [e1, if_pos (show b2 false = 0 from rfl), bs_no (by rw [e1]; rfl)]
    | some b =>
      have hyb := hf k b hk'
      have e1 : prs f k = true := by unfold prs; rw [hk']; rfl
      have e2 : ltM P f m p k = decide (a + (10 * dst P p k + m - 1) / m ≤ b) := by unfold ltM; rw [ha, hk']
      rw [e1, if_neg (show ¬ b2 true = 0 from n10), chk_nI (by omega) (by decide), chk_nI (by omega) (by decide), nI_cl (show p < 2 ^ 31 by omega), nI_cl (show k < 2 ^ 31 by omega), h.2.2 p hp, h.2.2 k hk, ha, hk', oI_some, oI_some, nI_add]
      simp only [ltI (show b < 2 ^ 31 by omega) (show a + (10 * dst P p k + m - 1) / m < 2 ^ 31 by omega)]
      by_cases hle : a + (10 * dst P p k + m - 1) / m ≤ b
      · rw [if_neg (by omega), one_shl32 k (by omega), nI_or, bnd, Nat.or_assoc, bs_set (by rw [e1, e2]; simp [hle])]
      · rw [if_pos (by omega), bs_no (by rw [e1, e2]; simp [hle])]
  · show X4_reachOf_L7 σ (n + 1) (nI p) (nI m) (nI (2 ^ p ||| bs (fun q => prs f q && ltM P f m p q) P.1)) (nI P.1) = _
    rw [X4_reachOf_L7, h.1.1, if_pos (nI_le (Nat.le_refl _) (by omega))]
/-- the class's scratch of origins -/
def FrO (σ σ' : St) : Prop := (∀ q, q ≠ 46 → q ≠ 47 → q ≠ 48 → gI σ' q = gI σ q) ∧ gJ σ' = gJ σ ∧ gR σ' = gR σ
theorem FrO.rf {σ : St} : FrO σ σ := ⟨fun _ _ _ _ => rfl, rfl, rfl⟩
theorem FrO.tr {σ σ' σ'' : St} (h : FrO σ σ') (h' : FrO σ' σ'') : FrO σ σ'' := ⟨fun q a b c => (h'.1 q a b c).trans (h.1 q a b c), h'.2.1.trans h.2.1, h'.2.2.trans h.2.2⟩
theorem FrO.sI {σ σ' : St} {q j : Nat} {v : Int32} (h : FrO σ σ') (hq : q = 46 ∨ q = 47 ∨ q = 48) : FrO σ (sI σ' q j v) := ⟨fun p a b c => (gI_sIn (by omega)).trans (h.1 p a b c), h.2.1, h.2.2⟩
theorem FrO.sc {σ σ' : St} (h : FrO σ σ') : ScC σ σ' := ⟨fun q _ _ _ d => h.1 q (by omega) (by omega) (by omega), fun q _ => by rw [h.2.1], by rw [h.2.2], by rw [h.2.2]⟩
theorem FrO.off {σ σ' : St} (h : FrO σ σ') {lo hi : Nat} (hh : hi ≤ 46) : Off lo hi σ σ' := fun q _ b => h.1 q (by omega) (by omega) (by omega)
theorem FrO.cp {σ σ' : St} {P : DP} (e : FrO σ σ') (h : CP σ P) : CP σ' P := h.fr (e.off (by omega))
/-- what spread lays -/
def OR_ (σ : St) (P : DP) (f : Nat → Option Nat) (m : Nat) : Prop := ∀ p, p < P.1 → gI σ 48 p = if prs f p = true then nI (bs (rch P f m p) P.1) else 0
theorem c_spread (h : OC σ P f) (w : WP P) (hf : FY f) {m : Nat} (hm : m < 21) (hm0 : m ≠ 0) : ∃ σ', X4_spread (nI m) σ = some σ' ∧ FrO σ σ' ∧ OC σ' P f ∧ OR_ σ' P f m := by
  have h8 := w.1
  have key : ∀ d n k σ1, k + d = P.1 → d < n → FrO σ σ1 → OC σ1 P f → (∀ p, p < k → gI σ1 48 p = if prs f p = true then nI (bs (rch P f m p) P.1) else 0) → ∃ σ', X4_spread_L2 n (nI m) (nI k) σ1 = some σ' ∧ FrO σ σ' ∧ OC σ' P f ∧ OR_ σ' P f m := by
    intro d
    induction d with
    | zero =>
      intro n k σ1 hk hn g1 g2 g3
      obtain ⟨n, rfl⟩ : ∃ q, n = q + 1 := ⟨n - 1, by omega⟩
      have : k = P.1 := by omega
      subst this
      exact ⟨σ1, by rw [X4_spread_L2, g2.1.1, if_pos (nI_le (Nat.le_refl _) (by omega))], g1, g2, g3⟩
    | succ d ih =>
      intro n k σ1 hk hn g1 g2 g3
      obtain ⟨n, rfl⟩ : ∃ q, n = q + 1 := ⟨n - 1, by omega⟩
      have hkp : k < P.1 := by omega
      have go : ∀ v, v = (if prs f k = true then nI (bs (rch P f m k) P.1) else 0) → ∃ σ', X4_spread_L2 n (nI m) (nI (k + 1)) (sI σ1 48 k v) = some σ' ∧ FrO σ σ' ∧ OC σ' P f ∧ OR_ σ' P f m := fun v hv => by
        refine ih n (k + 1) _ (by omega) (by omega) (g1.sI (by omega)) ⟨(FrO.rf.sI (by omega)).cp g2.1, ?_, ?_⟩ ?_
        · rw [gI_sIn (by decide)]; exact g2.2.1
        · intro p hp; rw [gI_sIn (by decide)]; exact g2.2.2 p hp
        · intro p hp
          rw [gI_sI]
          by_cases e : p = k
          · subst e; rw [if_pos ⟨rfl, rfl⟩]; exact hv
          · rw [if_neg (fun h => e h.2)]; exact g3 p (by omega)
      rw [X4_spread_L2, g2.1.1, if_neg (nI_ge hkp (by omega)), c_isPr g2 h8 hkp, Option.bind_some, nI_1]
      cases e : prs f k with
      | true =>
        rw [if_neg (show ¬ b2 true = 0 from n10), c_reach g2 w hf hm hm0 hkp e, Option.bind_some, chk_nI (by omega) (by decide), bnd, nI_cl (by omega)]
        exact go _ (by rw [if_pos e])
      | false =>
        rw [if_pos (show b2 false = 0 from rfl), chk_nI (by omega) (by decide), bnd, nI_cl (by omega)]
        exact go _ (by rw [if_neg (by rw [e]; decide)])
  exact key P.1 FU 0 σ (by omega) (by show _ < 1000000; omega) FrO.rf h (fun p hp => by omega)
/-- a set of places lets all come -/
def cvq (P : DP) (f : Nat → Option Nat) (m S : Nat) (k q : Nat) : Bool := (List.range k).any fun p => S.testBit p && rch P f m p q
def cov (P : DP) (f : Nat → Option Nat) (m S : Nat) : Bool := (List.range P.1).all fun q => !prs f q || cvq P f m S P.1 q
theorem cvq_s (P : DP) (f : Nat → Option Nat) (m S k q : Nat) : cvq P f m S (k + 1) q = (cvq P f m S k q || (S.testBit k && rch P f m k q)) := by
  unfold cvq
  rw [List.range_succ, List.any_append]
  simp
theorem cov_iff {P : DP} {f : Nat → Option Nat} {m S : Nat} : cov P f m S = true ↔ ∀ q, q < P.1 → prs f q = true → ∃ p, p < P.1 ∧ S.testBit p = true ∧ rch P f m p q = true := by
  unfold cov cvq
  rw [List.all_eq_true]
  constructor
  · intro h q hq hp
    have := h q (List.mem_range.mpr hq)
    rw [hp] at this
    simp only [Bool.not_true, Bool.false_or, List.any_eq_true, List.mem_range, Bool.and_eq_true] at this
    exact this
  · intro h q hq
    have hq := List.mem_range.mp hq
    cases hp : prs f q with
    | false => rfl
    | true =>
      simp only [Bool.not_true, Bool.false_or, List.any_eq_true, List.mem_range, Bool.and_eq_true]
      exact h q hq hp
theorem c_lets (h : OC σ P f) (w : WP P) {m S : Nat} (hr : OR_ σ P f m) (hS : S < 2 ^ 31) (hs : ∀ i, S.testBit i = true → i < P.1 ∧ prs f i = true) : X4_letsAllCome (nI S) σ = some (b2 (cov P f m S)) := by
  have h8 := w.1
  have key := loop0 (fun n k (o : Nat) => X4_letsAllCome_L4 σ n (nI S) (nI o) (nI k)) P.1 (fun k => bs (cvq P f m S k) P.1) (some (b2 (cov P f m S))) (by omega) (fun n k hk => ?_) (fun n => ?_)
  · unfold X4_letsAllCome
    rw [← key]
    show X4_letsAllCome_L4 σ FU (nI S) 0 0 = X4_letsAllCome_L4 σ FU (nI S) (nI (bs (fun _ => false) P.1)) (nI 0)
    rw [bs_0]
    rfl
  · show X4_letsAllCome_L4 σ (n + 1) (nI S) (nI (bs (cvq P f m S k) P.1)) (nI k) = X4_letsAllCome_L4 σ n (nI S) (nI (bs (cvq P f m S (k + 1)) P.1)) (nI (k + 1))
    rw [X4_letsAllCome_L4, h.1.1, if_neg (nI_ge hk (by omega)), nI_1]
    by_cases e : S.testBit k = true
    · rw [if_pos ((bit32 hS (show k < 32 by omega)).mpr e), chk_nI (by omega) (by decide), bnd, nI_cl (by omega), hr k hk, if_pos (hs k e).2, nI_or, bs_or]
      congr 2
      apply bs_ext
      intro q _
      rw [cvq_s, e, Bool.true_and]
    · rw [if_neg (fun h => e ((bit32 hS (show k < 32 by omega)).mp h))]
      congr 2
      apply bs_ext
      intro q _
      rw [cvq_s]
      simp [e]
  · show X4_letsAllCome_L4 σ (n + 1) (nI S) (nI (bs (cvq P f m S P.1) P.1)) (nI P.1) = _
    have b1 := bs_lt8 (cvq P f m S P.1) h8
    have b2' := bs_lt8 (prs f) h8
    rw [X4_letsAllCome_L4, h.1.1, if_pos (nI_le (Nat.le_refl _) (by omega)), h.2.1]
    simp only [eqI (show bs (cvq P f m S P.1) P.1 < 2 ^ 31 by omega) (show bs (prs f) P.1 < 2 ^ 31 by omega)]
    cases hc : cov P f m S with
    | true =>
      rw [if_pos]
      · rfl
      · apply bs_ext
        intro q hq
        have h1 := cov_iff.mp hc q hq
        cases hp : prs f q with
        | true =>
          obtain ⟨p, p1, p2, p3⟩ := h1 hp
          unfold cvq
          rw [List.any_eq_true]
          exact ⟨p, List.mem_range.mpr p1, by rw [p2, p3]; rfl⟩
        | false =>
          unfold cvq
          rw [List.any_eq_false]
          intro p hpm hh
          have hp1 := List.mem_range.mp hpm
          rw [Bool.and_eq_true] at hh
          have hpp := (hs p hh.1).2
          have := hh.2
          unfold rch at this
          rw [hp, Bool.false_and, Bool.or_false, decide_eq_true_eq] at this
          rw [this, hpp] at hp
          cases hp
    | false =>
      rw [if_neg]
      · rfl
      · intro he
        have h1 := bs_inj he
        have : cov P f m S = true := cov_iff.mpr (fun q hq hp => by
          have h2 := h1 q hq
          rw [hp] at h2
          unfold cvq at h2
          rw [List.any_eq_true] at h2
          obtain ⟨p, p1, p2⟩ := h2
          rw [Bool.and_eq_true] at p2
          exact ⟨p, List.mem_range.mp p1, p2.1, p2.2⟩)
        rw [hc] at this
        cases this
end Orig
