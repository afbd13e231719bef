/-! coverings: lists, masks -/
section Cover
variable {n : Nat} {J : Nat → Nat → Bool}
/-- some of A, at most e of them, cover O -/
def Cvr (J : Nat → Nat → Bool) (n : Nat) (A O : Nat → Bool) (e : Nat) : Prop := ∃ l : List Nat, l.length ≤ e ∧ (∀ s, s ∈ l → s < n ∧ A s = true) ∧ ∀ o, o < n → O o = true → ∃ s, s ∈ l ∧ J s o = true
theorem Cvr.mono {A O : Nat → Bool} {e e' : Nat} (h : Cvr J n A O e) (he : e ≤ e') : Cvr J n A O e' := by
  obtain ⟨l, h1, h2, h3⟩ := h
  exact ⟨l, by omega, h2, h3⟩
theorem Cvr.nil {A O : Nat → Bool} {e : Nat} (h : ∀ o, o < n → O o = false) : Cvr J n A O e := ⟨[], by simp, fun s h => by simp at h, fun o ho hO => by rw [h o ho] at hO; cases hO⟩
theorem Cvr.zero {A O : Nat → Bool} (h : Cvr J n A O 0) : ∀ o, o < n → O o = false := fun o ho => by
  obtain ⟨l, h1, h2, h3⟩ := h
  have hl : l = [] := List.eq_nil_of_length_eq_zero (by omega)
  subst hl
  cases hO : O o with
  | false => rfl
  | true =>
    obtain ⟨s, hs, _⟩ := h3 o ho hO
    simp at hs
/-- one must cover o -/
theorem Cvr.step (hJ : ∀ x y, J x y = J y x) {A O : Nat → Bool} {e o : Nat} (ho : o < n) (hO : O o = true) : Cvr J n A O (e + 1) ↔ ∃ s, s < n ∧ A s = true ∧ J o s = true ∧ Cvr J n A (fun q => O q && !J s q) e := by
  constructor
  · rintro ⟨l, h1, h2, h3⟩
    obtain ⟨s, hs, hj⟩ := h3 o ho hO
    refine ⟨s, (h2 s hs).1, (h2 s hs).2, by rw [hJ]; exact hj, l.erase s, ?_, ?_, ?_⟩
    · rw [List.length_erase_of_mem hs]; omega
    · intro x hx; exact h2 x (List.mem_of_mem_erase hx)
    · intro q hq hOq
      rw [Bool.and_eq_true, Bool.not_eq_true'] at hOq
      obtain ⟨x, hx, hxj⟩ := h3 q hq hOq.1
      refine ⟨x, (List.mem_erase_of_ne ?_).mpr hx, hxj⟩
      intro e
      rw [e, hOq.2] at hxj
      cases hxj
  · rintro ⟨s, h1, h2, h3, l, l1, l2, l3⟩
    refine ⟨s :: l, by simp; omega, fun x hx => ?_, fun q hq hOq => ?_⟩
    · rcases List.mem_cons.mp hx with e | e
      · rw [e]; exact ⟨h1, h2⟩
      · exact l2 x e
    · cases hj : J s q with
      | true => exact ⟨s, List.mem_cons_self, hj⟩
      | false =>
        obtain ⟨x, hx, hxj⟩ := l3 q hq (by show (O q && !J s q) = true; rw [hOq, hj]; rfl)
        exact ⟨x, List.mem_cons_of_mem _ hx, hxj⟩
def cvM (J : Nat → Nat → Bool) (S k q : Nat) : Bool := (List.range k).any fun p => S.testBit p && J p q
theorem cvM_s (S k q : Nat) : cvM J S (k + 1) q = (cvM J S k q || (S.testBit k && J k q)) := by
  unfold cvM
  rw [List.range_succ, List.any_append]
  simp
def covM (J : Nat → Nat → Bool) (n S : Nat) : Bool := (List.range n).all (cvM J S n)
theorem covM_iff {S : Nat} : covM J n S = true ↔ ∀ q, q < n → ∃ p, p < n ∧ S.testBit p = true ∧ J p q = true := by
  unfold covM cvM
  simp only [List.all_eq_true, List.any_eq_true, List.mem_range, Bool.and_eq_true]
theorem bc_cnt (x : Nat) : ∀ n, bc x n = (List.range n).countP x.testBit
  | 0 => rfl
  | n + 1 => by
    rw [bc_s, bc_cnt x n, List.range_succ, List.countP_append, List.countP_singleton]
theorem cnt_mem : ∀ (l : List Nat) n, (List.range n).countP (fun x => l.contains x) ≤ l.length
  | [], n => by simp
  | a :: l, n => by
    have h1 := cnt_mem l n
    have h2 : ∀ n, (List.range n).countP (fun x => (a :: l).contains x) ≤ (List.range n).countP (fun x => l.contains x) + (List.range n).countP (fun x => decide (x = a)) := fun n => by
      induction n with
      | zero => simp
      | succ n ih =>
        simp only [List.range_succ, List.countP_append, List.countP_singleton]
        have : (if (a :: l).contains n = true then 1 else 0) ≤ (if l.contains n = true then 1 else 0) + (if decide (n = a) = true then 1 else 0) := by
          by_cases e : n = a
          · subst e; simp
          · simp [e]
        omega
    have h3 : ∀ n, (List.range n).countP (fun x => decide (x = a)) ≤ 1 ∧ (n ≤ a → (List.range n).countP (fun x => decide (x = a)) = 0) := fun n => by
      induction n with
      | zero => simp
      | succ n ih =>
        simp only [List.range_succ, List.countP_append, List.countP_singleton]
        by_cases e : n = a
        · have := ih.2 (by omega)
          rw [this]
          simp [e]
        · simp only [e, decide_false]
          refine ⟨by simpa using ih.1, fun h => by simpa using ih.2 (by omega)⟩
    have h4 := h2 n
    have h5 := (h3 n).1
    simp only [List.length_cons]
    omega
/-- a covering as a mask -/
theorem Cvr_mask {A : Nat → Bool} {e : Nat} (hn : n ≤ 16) : Cvr J n A (fun _ => true) e ↔ ∃ T, T < 2 ^ n ∧ covM J n T = true ∧ bc T 16 ≤ e ∧ ∀ i, T.testBit i = true → A i = true := by
  constructor
  · rintro ⟨l, h1, h2, h3⟩
    have hb : ∀ i, (bs (fun x => l.contains x) n).testBit i = (decide (i < n) && l.contains i) := fun i => bs_bit _ n i
    refine ⟨bs (fun x => l.contains x) n, bs_lt _ n, covM_iff.mpr (fun q hq => ?_), ?_, fun i hi => ?_⟩
    · obtain ⟨s, s1, s2⟩ := h3 q hq rfl
      refine ⟨s, (h2 s s1).1, ?_, s2⟩
      rw [hb]
      simp [(h2 s s1).1, s1]
    · have h4 := cnt_mem l n
      have h5 : bc (bs (fun x => l.contains x) n) 16 = bc (bs (fun x => l.contains x) n) n := by
        have := bc_hi (x := bs (fun x => l.contains x) n) (n := n) (fun i hi => by rw [hb]; simp [show ¬ i < n by omega]) (16 - n)
        rw [show n + (16 - n) = 16 by omega] at this
        exact this
      rw [h5, bc_cnt]
      have h6 := (cnt_lt (p := (bs (fun x => l.contains x) n).testBit) (q := fun x => l.contains x) (n := n) (fun k hk hp => by
        rw [hb] at hp
        rw [Bool.and_eq_true] at hp
        exact hp.2)).1
      omega
    · rw [hb, Bool.and_eq_true] at hi
      exact (h2 i (by simpa using hi.2)).2
  · rintro ⟨T, t1, t2, t3, t4⟩
    refine ⟨(List.range n).filter T.testBit, ?_, fun s hs => ?_, fun o ho _ => ?_⟩
    · have h5 : bc T 16 = bc T n := by
        have := bc_hi (x := T) (n := n) (fun i hi => Nat.testBit_lt_two_pow (Nat.lt_of_lt_of_le t1 (Nat.pow_le_pow_right (n := 2) (by decide) hi))) (16 - n)
        rw [show n + (16 - n) = 16 by omega] at this
        exact this
      rw [← List.countP_eq_length_filter, ← bc_cnt, ← h5]
      exact t3
    · rw [List.mem_filter, List.mem_range] at hs
      exact ⟨hs.1, t4 s hs.2⟩
    · obtain ⟨p, p1, p2, p3⟩ := covM_iff.mp t2 o ho
      exact ⟨p, List.mem_filter.mpr ⟨List.mem_range.mpr p1, p2⟩, p3⟩
/-- the lowest bit -/
theorem low_bit {x k : Nat} (hx : x < 65536) (hk : x.testBit k = true) (hl : ∀ i, i < k → x.testBit i = false) : (x - 1) &&& (x ^^^ 65535) = 2 ^ k - 1 := by
  have hk16 : k < 16 := by
    by_cases h : k < 16
    · exact h
    · have : x.testBit k = false := Nat.testBit_lt_two_pow (Nat.lt_of_lt_of_le (show x < 2 ^ 16 from hx) (Nat.pow_le_pow_right (n := 2) (by decide) (show 16 ≤ k by omega)))
      rw [this] at hk
      cases hk
  have hm : x % 2 ^ k = 0 := by
    apply Nat.eq_of_testBit_eq
    intro i
    rw [Nat.testBit_mod_two_pow, Nat.zero_testBit]
    by_cases h : i < k
    · simp [hl i h]
    · simp [h]
  have hp : 0 < 2 ^ k := Nat.pow_pos (by decide)
  obtain ⟨y, hy⟩ : ∃ y, x = 2 ^ k * y := ⟨x / 2 ^ k, by
    have := Nat.div_add_mod x (2 ^ k)
    omega⟩
  have hodd : y % 2 = 1 := by
    have h1 := hk
    rw [Nat.testBit_eq_decide_div_mod_eq, decide_eq_true_eq, hy, Nat.mul_div_cancel_left _ hp] at h1
    exact h1
  obtain ⟨m, hm2⟩ : ∃ m, y = 2 * m + 1 := ⟨y / 2, by omega⟩
  have e1 : x = 2 ^ (k + 1) * m + 2 ^ k := by
    rw [hy, hm2, Nat.mul_add, Nat.mul_one, Nat.pow_succ, Nat.mul_assoc]
  have hp1 : 2 ^ k < 2 ^ (k + 1) := by rw [Nat.pow_succ]; omega
  have e2 : x - 1 = 2 ^ (k + 1) * m + (2 ^ k - 1) := by omega
  apply Nat.eq_of_testBit_eq
  intro i
  rw [Nat.testBit_and, Nat.testBit_xor, Nat.testBit_two_pow_sub_one]
  have f1 : (x - 1).testBit i = if i < k + 1 then (2 ^ k - 1).testBit i else m.testBit (i - (k + 1)) := by
    rw [e2]
    exact Nat.testBit_two_pow_mul_add m (by omega) i
  have f2 : x.testBit i = if i < k + 1 then (2 ^ k).testBit i else m.testBit (i - (k + 1)) := by
    rw [e1]
    exact Nat.testBit_two_pow_mul_add m hp1 i
  rw [f1, f2, Nat.testBit_two_pow_sub_one, Nat.testBit_two_pow]
  have h65 : i < 16 → (65535 : Nat).testBit i = true := fun h => by
    have : ∀ i, i < 16 → (65535 : Nat).testBit i = true := by decide
    exact this i h
  by_cases h1 : i < k + 1
  · rw [if_pos h1, if_pos h1, h65 (by omega)]
    by_cases h2 : i < k
    · simp [h2, show ¬ k = i by omega]
    · simp [h2]
  · rw [if_neg h1, if_neg h1]
    by_cases h16 : i < 16
    · rw [h65 h16]
      simp [show ¬ i < k by omega]
    · have h3 : x.testBit i = false := Nat.testBit_lt_two_pow (Nat.lt_of_lt_of_le (show x < 2 ^ 16 from hx) (Nat.pow_le_pow_right (n := 2) (by decide) (show 16 ≤ i by omega)))
      rw [f2, if_neg h1] at h3
      rw [h3]
      simp [show ¬ i < k by omega]
theorem c_ntz {σ : St} {x k : Nat} (hx : x < 65536) (hk : x.testBit k = true) (hl : ∀ i, i < k → x.testBit i = false) : J6_numberOfTrailingZeros_0f7a4 (nI x) σ = some (nI k) := by
  have hk16 : k < 16 := by
    by_cases h : k < 16
    · exact h
    · have : x.testBit k = false := Nat.testBit_lt_two_pow (Nat.lt_of_lt_of_le (show x < 2 ^ 16 from hx) (Nat.pow_le_pow_right (n := 2) (by decide) (show 16 ≤ k by omega)))
      rw [this] at hk
      cases hk
  have hx1 : 1 ≤ x := by
    rcases Nat.eq_zero_or_pos x with e | e
    · subst e
      rw [Nat.zero_testBit] at hk
      cases hk
    · exact e
  have e1 : (nI x ^^^ (-1)) &&& (nI x - 1) = nI (2 ^ k - 1) := by
    rw [Int32.and_comm, show nI x - 1 = nI (x - 1) from subI (b := 1) hx1, nI_xm (by omega) hx, low_bit hx hk hl]
  unfold J6_numberOfTrailingZeros_0f7a4
  rw [e1, bnd]
  rcases (by omega : k = 0 ∨ k = 1 ∨ k = 2 ∨ k = 3 ∨ k = 4 ∨ k = 5 ∨ k = 6 ∨ k = 7 ∨ k = 8 ∨ k = 9 ∨ k = 10 ∨ k = 11 ∨ k = 12 ∨ k = 13 ∨ k = 14 ∨ k = 15) with rfl | rfl | rfl | rfl | rfl | rfl | rfl | rfl | rfl | rfl | rfl | rfl | rfl | rfl | rfl | rfl
  all_goals rfl
end Cover
