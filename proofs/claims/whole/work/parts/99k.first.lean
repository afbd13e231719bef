/-! the first tie -/
def s0I : Nat → Nat → Int32 := fun q j => if q = 6 ∨ q = 7 then (if j < 8 then tFirst j else 0) else if q = 16 ∨ q = 17 then (if j < 729 then -1 else 0) else if (51 ≤ q ∧ q ≤ 54) ∧ j = 2 then -4 else 0
def σ0 : St := (s0I, fun _ _ => 0, fun q j => if q = 0 ∧ j = 9 then 1 else if q = 3 ∧ j = 1 then 2 else 0)
def t0I : Nat → Nat → Int32 := fun q j => if q = 5 then nI (([0, 3, 7, 11, 15, 20, 24, 29, 33] : List Nat).getD j 0) else if q = 6 then nI (([115, 97, 121, 109, 117, 116, 101, 108, 105, 107, 101, 100, 114, 111, 112, 111, 116, 104, 101, 114, 106, 111, 105, 110, 109, 105, 108, 101, 115, 115, 111, 110, 115] : List Nat).getD j 0) else if q = 7 then nI (nF j) else if q = 45 then (if j < 4 then -4 else 0) else 0
def τ0 : St := (t0I, fun _ _ => 0, fun _ _ => 0)
def A0 : ABS := ((0, fun _ => 0, fun _ => 0), (0, fun _ => 0, fun _ => 0, fun _ => 0, fun _ => 0), (0, fun _ => 0, fun _ => 0, fun _ => 0, fun _ => 0, fun _ => 0, fun _ => 0, fun _ => 0, fun _ => none), (0, fun _ => 0, fun _ => 0, fun _ => 0), (0, 0, 0), (fun _ => none, fun _ _ => 0), (0, fun _ => 0), (0, fun _ => []), U0, fun _ => 0)
theorem n0 {P : Prop} {k : Nat} (h : k < 0) : P := by omega
theorem s0_0 {q j : Nat} (h1 : q ≠ 6) (h2 : q ≠ 7) (h3 : q ≠ 16) (h4 : q ≠ 17) (h5 : ¬ ((51 ≤ q ∧ q ≤ 54) ∧ j = 2)) : gI σ0 q j = 0 := by
  show s0I q j = 0
  unfold s0I
  rw [if_neg (by omega), if_neg (by omega), if_neg h5]
theorem t0_0 {q j : Nat} (h1 : q ≠ 5) (h2 : q ≠ 6) (h3 : q ≠ 7) (h4 : q ≠ 45) : gI τ0 q j = 0 := by
  show t0I q j = 0
  unfold t0I
  rw [if_neg h1, if_neg h2, if_neg h3, if_neg h4]
theorem Rel_0 : Rel σ0 τ0 := by
  refine ⟨A0, ?_, ?_, ?_⟩
  · refine ⟨⟨s0_0 (by decide) (by decide) (by decide) (by decide) (by decide), fun p hp => n0 hp, fun p hp => n0 hp⟩, ⟨s0_0 (by decide) (by decide) (by decide) (by decide) (by decide), fun p hp => n0 hp, fun p hp => n0 hp, fun p hp => n0 hp, fun p hp => n0 hp, fun _ _ => rfl⟩, ⟨s0_0 (by decide) (by decide) (by decide) (by decide) (by decide), fun p hp => n0 hp, fun p hp => n0 hp, fun p hp => n0 hp, fun p hp => n0 hp, fun p hp => n0 hp, fun p hp => n0 hp, fun p hp => n0 hp, fun p hp => n0 hp⟩, ⟨s0_0 (by decide) (by decide) (by decide) (by decide) (by decide), fun p hp => n0 hp, fun p hp => n0 hp, fun p hp => n0 hp⟩, ⟨s0_0 (by decide) (by decide) (by decide) (by decide) (by decide), s0_0 (by decide) (by decide) (by decide) (by decide) (by decide), s0_0 (by decide) (by decide) (by decide) (by decide) (by decide)⟩, fun k hk => ⟨fun i hi => s0_0 (by omega) (by omega) (by omega) (by omega) (by omega), fun _ => ?_, fun l n h => (by cases h)⟩, ⟨s0_0 (by decide) (by decide) (by decide) (by decide) (by decide), fun p hp => n0 hp⟩, ⟨s0_0 (by decide) (by decide) (by decide) (by decide) (by decide), fun p hp => n0 hp, fun p hp => n0 hp, fun p i hp => n0 hp, fun p t hp => n0 hp, fun s hs => s0_0 (by decide) (by decide) (by decide) (by decide) (by omega), fun p hp => n0 hp, fun p hp => n0 hp⟩, 0, ⟨by decide, rfl, rfl, rfl⟩, ?_⟩
    · show s0I (51 + k) 2 = -4
      unfold s0I
      rw [if_neg (by omega), if_neg (by omega), if_pos (by omega)]
    · refine ⟨s0_0 (by decide) (by decide) (by decide) (by decide) (by decide), s0_0 (by decide) (by decide) (by decide) (by decide) (by decide), fun j hj => ?_, fun c hc => n0 hc, fun a b ha hb => ?_⟩
      · show s0I 6 j = nI (nF j)
        unfold s0I
        rw [if_pos (Or.inl rfl), if_pos hj, tF_ok j hj]
      · show s0I 16 (27 * a + b) = -1
        unfold s0I
        rw [if_neg (by decide), if_pos (Or.inl rfl), if_pos (by omega)]
  · refine ⟨⟨t0_0 (by decide) (by decide) (by decide) (by decide), fun p hp => n0 hp, fun p hp => n0 hp⟩, ⟨t0_0 (by decide) (by decide) (by decide) (by decide), fun p hp => n0 hp, fun p hp => n0 hp, fun p hp => n0 hp, fun p hp => n0 hp⟩, ⟨t0_0 (by decide) (by decide) (by decide) (by decide), fun p hp => n0 hp, fun p hp => n0 hp, fun p hp => n0 hp, fun p hp => n0 hp, fun p hp => n0 hp, fun p hp => n0 hp, fun p hp => n0 hp, fun p hp => n0 hp⟩, ⟨t0_0 (by decide) (by decide) (by decide) (by decide), fun p hp => n0 hp, fun p hp => n0 hp, fun p hp => n0 hp⟩, ⟨t0_0 (by decide) (by decide) (by decide) (by decide), t0_0 (by decide) (by decide) (by decide) (by decide), t0_0 (by decide) (by decide) (by decide) (by decide)⟩, fun k hk => ⟨fun i hi => t0_0 (by decide) (by decide) (by decide) (by decide), fun _ => ?_, fun l n h => (by cases h)⟩, ⟨t0_0 (by decide) (by decide) (by decide) (by decide), fun p hp => n0 hp⟩, ⟨t0_0 (by decide) (by decide) (by decide) (by decide), fun p hp => n0 hp, fun p i hp => n0 hp⟩, ⟨t0_0 (by decide) (by decide) (by decide) (by decide), t0_0 (by decide) (by decide) (by decide) (by decide), fun j hj => rfl, fun c x hc => n0 hc, fun c x hc => n0 hc, fun k hk => n0 hk⟩, ⟨fun j hj => rfl, fun j hj => rfl⟩⟩
    show t0I 45 k = -4
    unfold t0I
    rw [if_neg (by decide), if_neg (by decide), if_neg (by decide), if_pos rfl, if_pos hk]
  · obtain ⟨x1, x2, x3, x4, x5⟩ := U0_ok
    exact ⟨⟨Nat.zero_le 8, fun p hp => n0 hp⟩, ⟨Nat.zero_le 8, fun p hp => n0 hp⟩, ⟨Nat.zero_le 40, fun p hp => n0 hp⟩, ⟨Nat.zero_le 60, fun p hp => n0 hp, fun p hp => n0 hp⟩, ⟨Nat.zero_le 999, Nat.zero_le 3, Nat.zero_le 5⟩, fun k l n h => (by cases h), ⟨Nat.zero_le 200, fun p hp => n0 hp⟩, ⟨Nat.zero_le 16, fun p hp => n0 hp, fun p t hp => n0 hp⟩, ⟨x1, x2, x3, by decide, x5⟩, fun s hs => n0 hs⟩
