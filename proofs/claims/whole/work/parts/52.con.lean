/-! chains: what is joined over others; the least of a chain -/
section Chains
variable {J : Nat → Nat → Bool} {n : Nat}
theorem pth_tr : ∀ {k m s u t}, pth J n k s u → pth J n m u t → pth J n (k + m) s t
  | 0, m, s, u, t, h, h' => by
    have : s = u := h
    subst this
    rwa [Nat.zero_add]
  | k + 1, m, s, u, t, ⟨v, hv, hj, h⟩, h' => by
    rw [show k + 1 + m = (k + m) + 1 by omega]
    exact ⟨v, hv, hj, pth_tr h h'⟩
theorem Con_n.rf {s : Nat} : Con_n J n s s := ⟨0, rfl⟩
theorem Con_n.tr {s u t : Nat} (h : Con_n J n s u) (h' : Con_n J n u t) : Con_n J n s t := by
  obtain ⟨k, hk⟩ := h
  obtain ⟨m, hm⟩ := h'
  exact ⟨k + m, pth_tr hk hm⟩
theorem Con_n.st {s t : Nat} (ht : t < n) (h : J s t = true) : Con_n J n s t := ⟨1, t, ht, h, rfl⟩
theorem pth_sym (hJ : ∀ x y, J x y = J y x) : ∀ {k s t}, s < n → pth J n k s t → Con_n J n t s
  | 0, s, t, _, h => by
    have : s = t := h
    subst this
    exact Con_n.rf
  | k + 1, s, t, hs, ⟨v, hv, hj, h⟩ => (pth_sym hJ hv h).tr (Con_n.st hs (by rw [hJ]; exact hj))
theorem Con_n.sy (hJ : ∀ x y, J x y = J y x) {s t : Nat} (hs : s < n) (h : Con_n J n s t) : Con_n J n t s := by
  obtain ⟨k, hk⟩ := h
  exact pth_sym hJ hs hk
/-- what a set that is closed holds -/
theorem Con_n.cl {p : Nat → Prop} (hp : ∀ s t, s < n → t < n → p s → J s t = true → p t) : ∀ {k s t}, s < n → p s → pth J n k s t → p t
  | 0, s, t, _, h, e => by
    have : s = t := e
    subst this
    exact h
  | k + 1, s, t, hs, h, ⟨v, hv, hj, e⟩ => Con_n.cl hp hv (hp s v hs hv h hj) e
theorem least_ex {P : Nat → Prop} : ∀ m, P m → ∃ k, P k ∧ ∀ t, P t → k ≤ t := by
  intro m
  induction m using Nat.strongRecOn with
  | ind m ih =>
    intro h
    by_cases hx : ∃ k, k < m ∧ P k
    · obtain ⟨k, hk, hp⟩ := hx
      exact ih k hk hp
    · exact ⟨m, h, fun t ht => by
        rcases Nat.lt_or_ge t m with h1 | h1
        · exact absurd ⟨t, h1, ht⟩ hx
        · exact h1⟩
theorem NM_ex (J : Nat → Nat → Bool) (n : Nat) : ∃ nm, NM J n nm := by
  have : ∀ s, ∃ k, s < n → k < n ∧ Con_n J n s k ∧ ∀ t, t < n → Con_n J n s t → k ≤ t := fun s => by
    by_cases hs : s < n
    · obtain ⟨k, hk, hl⟩ := least_ex (P := fun t => t < n ∧ Con_n J n s t) s ⟨hs, Con_n.rf⟩
      exact ⟨k, fun _ => ⟨hk.1, hk.2, fun t h1 h2 => hl t ⟨h1, h2⟩⟩⟩
    · exact ⟨0, fun h => absurd h hs⟩
  exact ⟨fun s => Classical.choose (this s), fun s hs => Classical.choose_spec (this s) hs⟩
theorem NM_un {nm nm' : Nat → Nat} (h : NM J n nm) (h' : NM J n nm') {s : Nat} (hs : s < n) : nm s = nm' s := by
  obtain ⟨a1, a2, a3⟩ := h s hs
  obtain ⟨b1, b2, b3⟩ := h' s hs
  exact Nat.le_antisymm (a3 _ b1 b2) (b3 _ a1 a2)
end Chains
/-! sets as bits, joined -/
theorem bs_ext {p q : Nat → Bool} {n : Nat} (h : ∀ k, k < n → p k = q k) : bs p n = bs q n := by
  apply Nat.eq_of_testBit_eq
  intro k
  rw [bs_bit, bs_bit]
  by_cases hk : k < n
  · rw [h k hk]
  · simp [hk]
theorem bs_inj {p q : Nat → Bool} {n : Nat} (h : bs p n = bs q n) : ∀ k, k < n → p k = q k := fun k hk => by
  have := congrArg (fun x => x.testBit k) h
  simp only [bs_bit, hk, decide_true, Bool.true_and] at this
  exact this
theorem bs_or (p q : Nat → Bool) (n : Nat) : bs p n ||| bs q n = bs (fun k => p k || q k) n := by
  apply Nat.eq_of_testBit_eq
  intro k
  rw [Nat.testBit_or, bs_bit, bs_bit, bs_bit]
  by_cases hk : k < n <;> simp [hk]
theorem bs_one {k n : Nat} (hk : k < n) : 2 ^ k = bs (fun j => decide (j = k)) n := by
  apply Nat.eq_of_testBit_eq
  intro j
  rw [bs_bit, Nat.testBit_two_pow]
  by_cases h : j = k
  · subst h; simp [hk]
  · simp [h]; omega
theorem bs_lt16 (p : Nat → Bool) {n : Nat} (hn : n ≤ 16) : bs p n < 65536 := Nat.lt_of_lt_of_le (bs_lt p n) (Nat.pow_le_pow_right (n := 2) (by decide) hn)
theorem bs_0 (n : Nat) : bs (fun _ => false) n = 0 := by
  induction n with
  | zero => rfl
  | succ n ih => unfold bs; rw [ih]; rfl
/-- more members -/
theorem cnt_lt {p q : Nat → Bool} : ∀ {n : Nat}, (∀ k, k < n → p k = true → q k = true) → (List.range n).countP p ≤ (List.range n).countP q ∧ ((∃ k, k < n ∧ p k ≠ q k) → (List.range n).countP p < (List.range n).countP q)
  | 0, _ => ⟨by simp, fun ⟨k, hk, _⟩ => by omega⟩
  | n + 1, h => by
    obtain ⟨h1, h2⟩ := @cnt_lt p q n (fun k hk => h k (by omega))
    have hn := h n (by omega)
    simp only [List.range_succ, List.countP_append, List.countP_singleton]
    refine ⟨?_, fun ⟨k, hk, he⟩ => ?_⟩
    · cases hp : p n
      · simp; omega
      · simp [hn hp]; omega
    · by_cases e : k = n
      · subst e
        cases hp : p k
        · cases hq : q k
          · exact absurd (hp.trans hq.symm) he
          · simp; omega
        · exact absurd (hp.trans (hn hp).symm) he
      · have := h2 ⟨k, by omega, he⟩
        cases hp : p n
        · simp; omega
        · simp [hn hp]; omega
theorem cnt_le (p : Nat → Bool) (n : Nat) : (List.range n).countP p ≤ n := by
  have := List.countP_le_length (p := p) (l := List.range n)
  rwa [List.length_range] at this
