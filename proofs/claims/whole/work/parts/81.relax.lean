/-! chains: the cheapest way to t, by rounds -/
section Relax
variable {n t : Nat} {E : Nat → Nat → Bool} {wt : Nat → Nat → Nat}
def INF : Nat := 1048576
theorem INF_eq : INF = 1048576 := rfl
def mnk (E : Nat → Nat → Bool) (wt : Nat → Nat → Nat) (v : Nat → Nat) (s : Nat) : Nat → Nat
  | 0 => INF
  | u + 1 => if E s u = true then min (mnk E wt v s u) (v u + wt s u) else mnk E wt v s u
theorem mnk_inf (v : Nat → Nat) (s : Nat) : ∀ k, mnk E wt v s k ≤ INF
  | 0 => Nat.le_refl _
  | k + 1 => by
    have := mnk_inf v s k
    show (if E s k = true then min (mnk E wt v s k) (v k + wt s k) else mnk E wt v s k) ≤ INF
    split <;> omega
theorem mnk_le {v : Nat → Nat} {s : Nat} : ∀ k u, u < k → E s u = true → mnk E wt v s k ≤ v u + wt s u
  | 0, u, h, _ => by omega
  | k + 1, u, h, e => by
    show (if E s k = true then min (mnk E wt v s k) (v k + wt s k) else mnk E wt v s k) ≤ v u + wt s u
    by_cases hk : u = k
    · subst hk
      rw [if_pos e]
      omega
    · have := @mnk_le v s k u (by omega) e
      split <;> omega
theorem mnk_at {v : Nat → Nat} {s : Nat} : ∀ k, mnk E wt v s k < INF → ∃ u, u < k ∧ E s u = true ∧ mnk E wt v s k = v u + wt s u
  | 0, h => by
    have : INF < INF := h
    omega
  | k + 1, h => by
    have h' : (if E s k = true then min (mnk E wt v s k) (v k + wt s k) else mnk E wt v s k) < INF := h
    show ∃ u, u < k + 1 ∧ E s u = true ∧ (if E s k = true then min (mnk E wt v s k) (v k + wt s k) else mnk E wt v s k) = v u + wt s u
    by_cases e : E s k = true
    · rw [if_pos e] at h' ⊢
      by_cases hm : mnk E wt v s k ≤ v k + wt s k
      · rw [Nat.min_eq_left hm] at h' ⊢
        obtain ⟨u, u1, u2, u3⟩ := mnk_at k h'
        exact ⟨u, by omega, u2, u3⟩
      · rw [Nat.min_eq_right (by omega)]
        exact ⟨k, by omega, e, rfl⟩
    · rw [if_neg e] at h' ⊢
      obtain ⟨u, u1, u2, u3⟩ := mnk_at k h'
      exact ⟨u, by omega, u2, u3⟩
theorem mnk_ext {v v' : Nat → Nat} {s : Nat} : ∀ k, (∀ u, u < k → E s u = true → v u = v' u) → mnk E wt v s k = mnk E wt v' s k
  | 0, _ => rfl
  | k + 1, h => by
    show (if E s k = true then min (mnk E wt v s k) (v k + wt s k) else mnk E wt v s k) = (if E s k = true then min (mnk E wt v' s k) (v' k + wt s k) else mnk E wt v' s k)
    rw [mnk_ext k (fun u hu => h u (by omega))]
    by_cases e : E s k = true
    · rw [if_pos e, if_pos e, h k (by omega) e]
    · rw [if_neg e, if_neg e]
def rlx (E : Nat → Nat → Bool) (wt : Nat → Nat → Nat) (n : Nat) (v : Nat → Nat) (s : Nat) : Nat → Nat := fun x => if x = s then min (v s) (mnk E wt v s n) else v x
theorem rlx_le (v : Nat → Nat) (s x : Nat) : rlx E wt n v s x ≤ v x := by
  unfold rlx
  by_cases e : x = s
  · rw [if_pos e, e]; omega
  · rw [if_neg e]; exact Nat.le_refl _
def rdk (E : Nat → Nat → Bool) (wt : Nat → Nat → Nat) (n : Nat) (v : Nat → Nat) : Nat → Nat → Nat
  | 0 => v
  | s + 1 => rlx E wt n (rdk E wt n v s) s
theorem rdk_le (v : Nat → Nat) (x : Nat) : ∀ d k, rdk E wt n v (k + d) x ≤ rdk E wt n v k x
  | 0, k => Nat.le_refl _
  | d + 1, k => Nat.le_trans (rlx_le (rdk E wt n v (k + d)) (k + d) x) (rdk_le v x d k)
def chF (E : Nat → Nat → Bool) (wt : Nat → Nat → Nat) (n : Nat) (v : Nat → Nat) : Nat → Bool
  | 0 => false
  | s + 1 => chF E wt n v s || decide (mnk E wt (rdk E wt n v s) s n < rdk E wt n v s s)
def Fixd (E : Nat → Nat → Bool) (wt : Nat → Nat → Nat) (n : Nat) (v : Nat → Nat) : Prop := ∀ s, s < n → v s ≤ mnk E wt v s n
theorem rlx_same {v : Nat → Nat} {s : Nat} (h : v s ≤ mnk E wt v s n) : rlx E wt n v s = v := by
  funext x
  unfold rlx
  by_cases e : x = s
  · rw [if_pos e, e]; omega
  · rw [if_neg e]
theorem Fixd.rd {v : Nat → Nat} (h : Fixd E wt n v) : ∀ k, k ≤ n → rdk E wt n v k = v ∧ chF E wt n v k = false
  | 0, _ => ⟨rfl, rfl⟩
  | k + 1, hk => by
    obtain ⟨h1, h2⟩ := h.rd k (by omega)
    have h3 := h k (by omega)
    refine ⟨?_, ?_⟩
    · show rlx E wt n (rdk E wt n v k) k = v
      rw [h1]
      exact rlx_same h3
    · show (chF E wt n v k || decide (mnk E wt (rdk E wt n v k) k n < rdk E wt n v k k)) = false
      rw [h1, h2]
      simp
      omega
theorem chF_no {v : Nat → Nat} : ∀ k, chF E wt n v k = false → rdk E wt n v k = v ∧ ∀ s, s < k → v s ≤ mnk E wt v s n
  | 0, _ => ⟨rfl, fun s h => by omega⟩
  | k + 1, h => by
    have h' : (chF E wt n v k || decide (mnk E wt (rdk E wt n v k) k n < rdk E wt n v k k)) = false := h
    rw [Bool.or_eq_false_iff, decide_eq_false_iff_not] at h'
    obtain ⟨h1, h2⟩ := chF_no k h'.1
    have h3 := h'.2
    rw [h1] at h3
    refine ⟨?_, fun s hs => ?_⟩
    · show rlx E wt n (rdk E wt n v k) k = v
      rw [h1]
      exact rlx_same (by omega)
    · by_cases e : s = k
      · subst e; omega
      · exact h2 s (by omega)
theorem chF_yes {v : Nat → Nat} : ∀ k, k ≤ n → chF E wt n v k = true → ∃ x, x < n ∧ rdk E wt n v k x < v x
  | 0, _, h => by cases h
  | k + 1, hk, h => by
    have h' : (chF E wt n v k || decide (mnk E wt (rdk E wt n v k) k n < rdk E wt n v k k)) = true := h
    rw [Bool.or_eq_true, decide_eq_true_eq] at h'
    rcases h' with h' | h'
    · obtain ⟨x, x1, x2⟩ := chF_yes k (by omega) h'
      exact ⟨x, x1, Nat.lt_of_le_of_lt (rdk_le v x 1 k) x2⟩
    · refine ⟨k, by omega, ?_⟩
      have h1 : rdk E wt n v (0 + k) k ≤ rdk E wt n v 0 k := rdk_le v k k 0
      rw [Nat.zero_add] at h1
      have h2 : rdk E wt n v 0 k = v k := rfl
      show rlx E wt n (rdk E wt n v k) k k < v k
      unfold rlx
      rw [if_pos rfl]
      omega
theorem sum_lt {g g' : Nat → Nat} : ∀ m, (∀ x, x < m → g x ≤ g' x) → (∃ x, x < m ∧ g x < g' x) → sumTo g m < sumTo g' m
  | 0, _, ⟨x, hx, _⟩ => by omega
  | m + 1, h, ⟨x, hx, hl⟩ => by
    have hle : sumTo g m ≤ sumTo g' m := by
      have : ∀ j, j ≤ m → sumTo g j ≤ sumTo g' j := fun j => by
        induction j with
        | zero => intro _; exact Nat.le_refl _
        | succ j ih =>
          intro hj
          have h1 := ih (by omega)
          have h2 := h j (by omega)
          show sumTo g j + g j ≤ sumTo g' j + g' j
          omega
      exact this m (Nat.le_refl _)
    have h2 := h m (by omega)
    show sumTo g m + g m < sumTo g' m + g' m
    by_cases e : x = m
    · subst e; omega
    · have := sum_lt m (fun y hy => h y (by omega)) ⟨x, by omega, hl⟩
      omega
def it (E : Nat → Nat → Bool) (wt : Nat → Nat → Nat) (n : Nat) (v : Nat → Nat) : Nat → Nat → Nat
  | 0 => v
  | r + 1 => rdk E wt n (it E wt n v r) n
theorem it_le (v : Nat → Nat) (x : Nat) : ∀ d r, it E wt n v (r + d) x ≤ it E wt n v r x
  | 0, r => Nat.le_refl _
  | d + 1, r => by
    have h1 := rdk_le (E := E) (wt := wt) (n := n) (it E wt n v (r + d)) x n 0
    rw [Nat.zero_add] at h1
    exact Nat.le_trans h1 (it_le v x d r)
theorem ex_fix (v : Nat → Nat) : ∃ R, Fixd E wt n (it E wt n v R) := by
  obtain ⟨m, ⟨R, hR⟩, hl⟩ := least_ex (P := fun m => ∃ r, sumTo (it E wt n v r) n = m) _ ⟨0, rfl⟩
  refine ⟨R, fun s hs => ?_⟩
  cases hc : chF E wt n (it E wt n v R) n with
  | false => exact (chF_no n hc).2 s hs
  | true =>
    have h1 := chF_yes n (Nat.le_refl _) hc
    have h2 := sum_lt (g := rdk E wt n (it E wt n v R) n) (g' := it E wt n v R) n (fun x _ => by
      have := rdk_le (E := E) (wt := wt) (n := n) (it E wt n v R) x n 0
      rw [Nat.zero_add] at this
      exact this) h1
    have h3 := hl _ ⟨R + 1, rfl⟩
    have h4 : sumTo (it E wt n v (R + 1)) n = sumTo (rdk E wt n (it E wt n v R) n) n := rfl
    omega
def cn (n : Nat) (v : Nat → Nat) (s : Nat) : Nat := (List.range n).countP fun x => decide (v x < v s)
theorem cn_lt {v : Nat → Nat} {s : Nat} (hs : s < n) : cn n v s < n := by
  have h := (cnt_lt (p := fun x => decide (v x < v s)) (q := fun _ => true) (n := n) (fun _ _ _ => rfl)).2 ⟨s, hs, by simp⟩
  have h2 := cnt_le (fun _ => true) n
  unfold cn
  omega
def INV (E : Nat → Nat → Bool) (wt : Nat → Nat → Nat) (n t : Nat) (v : Nat → Nat) : Prop := v t = 0 ∧ (∀ s, s < n → v s ≤ INF) ∧ (∀ s, s < n → v s ≠ INF → v s % 32 ≤ cn n v s ∧ v s ≤ 641 * cn n v s) ∧ ∀ s, s < n → s ≠ t → v s ≠ INF → ∃ u, u < n ∧ E s u = true ∧ v u + wt s u ≤ v s
/-- what is told of edges -/
def EOK (E : Nat → Nat → Bool) (wt : Nat → Nat → Nat) (n t : Nat) : Prop := n ≤ 16 ∧ t < n ∧ ∀ s u, s < n → u < n → E s u = true → s ≠ u ∧ wt s u % 32 = 1 ∧ wt s u ≤ 641
theorem INV.rx (hE : EOK E wt n t) {v : Nat → Nat} (h : INV E wt n t v) {s : Nat} (hs : s < n) : INV E wt n t (rlx E wt n v s) := by
  obtain ⟨hn, ht, hE⟩ := hE
  by_cases hm : v s ≤ mnk E wt v s n
  · rw [rlx_same hm]; exact h
  · obtain ⟨h1, h2, h3, h4⟩ := h
    have hi := h2 s hs
    obtain ⟨u, u1, u2, u3⟩ := mnk_at (E := E) (wt := wt) (v := v) (s := s) n (by omega)
    obtain ⟨e1, e2, e3⟩ := hE s u hs u1 u2
    have hx : ∀ x, rlx E wt n v s x = if x = s then v u + wt s u else v x := fun x => by
      unfold rlx
      by_cases e : x = s
      · rw [if_pos e, if_pos e]; omega
      · rw [if_neg e, if_neg e]
    have hs' : rlx E wt n v s s = v u + wt s u := by rw [hx, if_pos rfl]
    have ho : ∀ x, x ≠ s → rlx E wt n v s x = v x := fun x e => by rw [hx, if_neg e]
    have hle : ∀ x, rlx E wt n v s x ≤ v x := fun x => rlx_le v s x
    have hst : s ≠ t := fun e => by subst e; omega
    have hui := h3 u u1 (by omega)
    have hcu := cn_lt (v := v) u1
    have hmono : ∀ y, y ≠ s → cn n v y ≤ cn n (rlx E wt n v s) y := fun y e => (cnt_lt (fun x _ hp => by
      rw [decide_eq_true_eq] at hp ⊢
      rw [ho y e]
      have := hle x
      omega)).1
    have hcs : cn n v u < cn n (rlx E wt n v s) s := (cnt_lt (fun x _ hp => by
      rw [decide_eq_true_eq] at hp ⊢
      rw [hs']
      have := hle x
      omega)).2 ⟨u, u1, by
        rw [hs', ho u (fun h => e1 h.symm)]
        simp
        omega⟩
    refine ⟨?_, fun y hy => Nat.le_trans (hle y) (h2 y hy), fun y hy hyI => ?_, fun y hy hyt hyI => ?_⟩
    · rw [ho t (fun h => hst h.symm)]; exact h1
    · by_cases e : y = s
      · subst e
        rw [hs']
        omega
      · rw [ho y e] at hyI ⊢
        have := h3 y hy hyI
        have := hmono y e
        omega
    · by_cases e : y = s
      · subst e
        exact ⟨u, u1, u2, by rw [hs', ho u (fun h => e1 h.symm)]; exact Nat.le_refl _⟩
      · rw [ho y e] at hyI ⊢
        obtain ⟨q, q1, q2, q3⟩ := h4 y hy hyt hyI
        exact ⟨q, q1, q2, by have := hle q; omega⟩
theorem INV.rk (hE : EOK E wt n t) {v : Nat → Nat} (h : INV E wt n t v) : ∀ k, k ≤ n → INV E wt n t (rdk E wt n v k)
  | 0, _ => h
  | k + 1, hk => (h.rk hE k (by omega)).rx hE (by omega)
theorem INV.im (hE : EOK E wt n t) {v : Nat → Nat} (h : INV E wt n t v) : ∀ r, INV E wt n t (it E wt n v r)
  | 0 => h
  | r + 1 => (h.im hE r).rk hE n (Nat.le_refl _)
theorem it_fix {v : Nat → Nat} {R : Nat} (h : Fixd E wt n (it E wt n v R)) : ∀ d, it E wt n v (R + d) = it E wt n v R
  | 0 => rfl
  | d + 1 => by
    show rdk E wt n (it E wt n v (R + d)) n = _
    rw [it_fix h d]
    exact (h.rd n (Nat.le_refl _)).1
/-- fifteen rounds are enough -/
theorem it_15 (hE : EOK E wt n t) {v : Nat → Nat} (h : INV E wt n t v) {r : Nat} (hr : 15 ≤ r) : Fixd E wt n (it E wt n v r) := by
  obtain ⟨R, hR⟩ := ex_fix (E := E) (wt := wt) (n := n) v
  obtain ⟨hn, ht, hEE⟩ := id hE
  have hf := h.im hE R
  have low : ∀ r x, it E wt n v R x ≤ it E wt n v r x := fun r x => by
    rcases Nat.le_total r R with e | e
    · have := it_le (E := E) (wt := wt) (n := n) v x (R - r) r
      rw [show r + (R - r) = R by omega] at this
      exact this
    · have := it_fix hR (r - R)
      rw [show R + (r - R) = r by omega] at this
      rw [this]
      exact Nat.le_refl _
  have up : ∀ r s, s < n → it E wt n v R s ≠ INF → cn n (it E wt n v R) s ≤ r → it E wt n v r s ≤ it E wt n v R s := by
    intro r
    induction r with
    | zero =>
      intro s hs hI hc
      by_cases e : s = t
      · subst e
        rw [show it E wt n v 0 s = v s from rfl, h.1]
        exact Nat.zero_le _
      · obtain ⟨u, u1, u2, u3⟩ := hf.2.2.2 s hs e hI
        have hw := (hEE s u hs u1 u2).2.1
        have := (cnt_lt (p := fun _ => false) (q := fun x => decide (it E wt n v R x < it E wt n v R s)) (n := n) (fun _ _ h => by cases h)).2 ⟨u, u1, by simp; omega⟩
        unfold cn at hc
        omega
    | succ r ih =>
      intro s hs hI hc
      by_cases e : s = t
      · subst e
        rw [(h.im hE (r + 1)).1]
        exact Nat.zero_le _
      · obtain ⟨u, u1, u2, u3⟩ := hf.2.2.2 s hs e hI
        obtain ⟨x1, x2, x3⟩ := hEE s u hs u1 u2
        have hcu : cn n (it E wt n v R) u < cn n (it E wt n v R) s := (cnt_lt (fun x _ hp => by
          rw [decide_eq_true_eq] at hp ⊢
          omega)).2 ⟨u, u1, by simp; omega⟩
        have hi := hf.2.1 s hs
        have h1 := ih u u1 (by omega) (by omega)
        have h2 := rdk_le (E := E) (wt := wt) (n := n) (it E wt n v r) u s 0
        rw [Nat.zero_add] at h2
        have h2' : rdk E wt n (it E wt n v r) s u ≤ it E wt n v r u := h2
        have h3 := rdk_le (E := E) (wt := wt) (n := n) (it E wt n v r) s (n - (s + 1)) (s + 1)
        rw [show s + 1 + (n - (s + 1)) = n by omega] at h3
        have h4 := mnk_le (E := E) (wt := wt) (v := rdk E wt n (it E wt n v r) s) (s := s) n u u1 u2
        have h5 : rdk E wt n (it E wt n v r) (s + 1) s ≤ mnk E wt (rdk E wt n (it E wt n v r) s) s n := by
          show rlx E wt n (rdk E wt n (it E wt n v r) s) s s ≤ _
          unfold rlx
          rw [if_pos rfl]
          omega
        show rdk E wt n (it E wt n v r) n s ≤ _
        omega
  have eq : ∀ s, s < n → it E wt n v r s = it E wt n v R s := fun s hs => by
    have h1 := low r s
    by_cases hI : it E wt n v R s = INF
    · have := (h.im hE r).2.1 s hs
      omega
    · have hc := cn_lt (v := it E wt n v R) hs
      have h2 := up r s hs hI (by omega)
      omega
  intro s hs
  rw [eq s hs, mnk_ext n (fun u hu _ => eq u hu)]
  exact hR s hs
end Relax
