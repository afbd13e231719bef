/-! how far apart: the class measures with one row, the reference with a table -/
theorem c_min (x y : Nat) (hx : x < 2 ^ 31) (hy : y < 2 ^ 31) (σ : St) : J9_min_7cf53 (nI x) (nI y) σ = some (nI (min x y)) := by
  unfold J9_min_7cf53
  simp only [ltI hy hx]
  by_cases h : y < x
  · rw [if_pos h, Nat.min_eq_right (by omega)]
  · rw [if_neg h, Nat.min_eq_left (by omega)]
theorem m_less (x y : Nat) (hx : x < 2 ^ 31) (hy : y < 2 ^ 31) (τ : St) : X11_less (nI x) (nI y) τ = some (nI (min x y)) := by
  unfold X11_less
  simp only [leI hy hx]
  by_cases h : y ≤ x
  · rw [if_pos h, Nat.min_eq_right h]
  · rw [if_neg h, Nat.min_eq_left (by omega)]
/-- the sounds of s stand in the cells -/
def sndC (σ : St) (s : Nat) (a : List Nat) : Prop := gI σ 22 s = nI a.length ∧ ∀ i, i < a.length → gI σ 23 (20 * s + i) = nI (a.getD i 0)
def sndM (τ : St) (s : Nat) (a : List Nat) : Prop := gI τ 19 s = nI a.length ∧ ∀ i, i < a.length → gI τ 20 (20 * s + i) = nI (a.getD i 0)
def ed (U : DU) (a b : List Nat) (i j : Nat) : Nat := edR (cst U) (uN U 0) (fun i => a.getD i 0) (fun j => b.getD j 0) i j
theorem ed_lt {U : DU} (wU : WU U) (a b : List Nat) {i j : Nat} (hi : i ≤ 21) (hj : j ≤ 21) : ed U a b i j ≤ 840 := by
  have h1 := edR_le (cst U) (uN U 0) (fun i => a.getD i 0) (fun j => b.getD j 0) i j
  have h2 := wU.2.2.2.2.2.1 0 (by decide)
  have h3 : uN U 0 * (i + j) ≤ 20 * 42 := Nat.mul_le_mul h2 (by omega)
  exact Nat.le_trans h1 h3
section Meas
variable {σ τ : St} {U : DU} {W : DW} {r : Nat}
theorem mulr20 (a b : Nat) : nI a * 20 + nI b = nI (20 * a + b) := by rw [Int32.mul_comm, mul20]
theorem c_mesIn (hU : CU σ r U) (wU : WU U) (hr : r < 2) (hq : gR σ 18 5 = r) {s t : Nat} {a b : List Nat} (hs : s < 16) (ht : t < 16) (hb : LTR b) (hbl : b.length ≤ 20) (Ht : sndC σ t b) {i : Nat} (hi : i < a.length) (hal : a.length ≤ 20) (ha : LTR a) (kq : Int32 → Int32 → Int32 → Int32 → Int32 → St → Option (Int32 × St)) :
    ∀ d m j f, j + d = b.length → d < m → (∀ q, q ≤ j → f q = nI (ed U a b (i + 1) q)) → (∀ q, j < q → q ≤ b.length → f q = nI (ed U a b i q)) → ∃ f', X9_measure_L94 kq m (nI s) (nI t) (nI (uN U 0)) (nI b.length) (nI i) (nI (ed U a b i j)) (nI (a.getD i 0)) (nI j) (sIf σ 26 f) = kq (nI s) (nI t) (nI (uN U 0)) (nI b.length) (nI (i + 1)) (sIf σ 26 f') ∧ ∀ q, q ≤ b.length → f' q = nI (ed U a b (i + 1) q) := by
  intro d
  induction d with
  | zero =>
    intro m j f hj hm h1 h2
    obtain ⟨m, rfl⟩ : ∃ q, m = q + 1 := ⟨m - 1, by omega⟩
    have : j = b.length := by omega
    subst this
    exact ⟨f, by rw [X9_measure_L94, if_pos (nI_le (Nat.le_refl _) (by omega)), nI_1], h1⟩
  | succ d ih =>
    intro m j f hj hm h1 h2
    obtain ⟨m, rfl⟩ : ∃ q, m = q + 1 := ⟨m - 1, by omega⟩
    have hjl : j < b.length := by omega
    have qa := ha.get hi
    have qb := hb.get hjl
    have l1 := ed_lt wU a b (i := i) (j := j) (by omega) (by omega)
    have l2 := ed_lt wU a b (i := i) (j := j + 1) (by omega) (by omega)
    have l3 := ed_lt wU a b (i := i + 1) (j := j) (by omega) (by omega)
    have l4 := cst_le wU (a.getD i 0) (b.getD j 0)
    have l5 := wU.2.2.2.2.2.1 0 (by decide)
    have hstep : ed U a b (i + 1) (j + 1) = min (ed U a b i j + cst U (a.getD i 0) (b.getD j 0)) (min (ed U a b i (j + 1)) (ed U a b (i + 1) j) + uN U 0) := by
      show edR _ _ _ _ _ _ = _
      rw [edR_ss, Nat.add_comm (uN U 0)]
      rfl
    have l6 : min (ed U a b i (j + 1)) (ed U a b (i + 1) j) ≤ 840 := Nat.le_trans (Nat.min_le_left _ _) l2
    obtain ⟨f', hf1, hf2⟩ := ih m (j + 1) (upd f (j + 1) (nI (ed U a b (i + 1) (j + 1)))) (by omega) (by omega) (fun q hq => by
      unfold upd
      by_cases e : q = j + 1
      · subst e; simp
      · rw [if_neg e]; exact h1 q (by omega)) (fun q hq1 hq2 => by
      unfold upd
      rw [if_neg (by omega)]; exact h2 q (by omega) hq2)
    refine ⟨f', ?_, hf2⟩
    rw [← hf1, X9_measure_L94, if_neg (nI_ge hjl (by omega)), gR_sIf, hq, chkN_lt hr, mulr20, chk_nI (by omega) (by decide), nI_cl (by omega), gI_sIfn (by decide), Ht.2 j hjl, c_swap (hU.fr hr (fun q _ _ => gI_sIfn (by omega))) wU (by omega) (by omega), Option.bind_some, bnd, nI_add, nI_1, chk_nI (by omega) (by decide), bnd, gI_sIf, nI_cl (by omega), h2 (j + 1) (by omega) (by omega), chk_nI (by omega) (by decide), nI_cl (by omega), h1 j (Nat.le_refl _), c_min _ _ (by omega) (by omega), Option.bind_some, nI_add, c_min _ _ (by omega) (by omega), Option.bind_some, chk_nI (by omega) (by decide), bnd, sI_sIf, hstep]
theorem c_measure (hU : CU σ r U) (wU : WU U) (hr : r < 2) (hq : gR σ 18 5 = r) {s t : Nat} {a b : List Nat} (hs : s < 16) (ht : t < 16) (ha : LTR a) (hal : a.length ≤ 20) (hb : LTR b) (hbl : b.length ≤ 20) (Hs : sndC σ s a) (Ht : sndC σ t b) : ∃ f, X9_measure (nI s) (nI t) σ = some (nI (apl U a b), sIf σ 26 f) := by
  have l5 := wU.2.2.2.2.2.1 0 (by decide)
  have rows : ∀ d m i f, i + d = a.length → d < m → (∀ q, q ≤ b.length → f q = nI (ed U a b i q)) → ∃ f', X9_measure_L48 m (nI s) (nI t) (nI (uN U 0)) (nI b.length) (nI i) (sIf σ 26 f) = some (nI (ed U a b a.length b.length), sIf σ 26 f') := by
    intro d
    induction d with
    | zero =>
      intro m i f hi hm h1
      obtain ⟨m, rfl⟩ : ∃ q, m = q + 1 := ⟨m - 1, by omega⟩
      have : i = a.length := by omega
      subst this
      exact ⟨f, by rw [X9_measure_L48, chk_nI hs (by decide), nI_cl (by omega), gI_sIfn (by decide), Hs.1, if_pos (nI_le (Nat.le_refl _) (by omega)), chk_nI (by omega) (by decide), nI_cl (by omega), gI_sIf, h1 _ (Nat.le_refl _)]⟩
    | succ d ih =>
      intro m i f hi hm h1
      obtain ⟨m, rfl⟩ : ∃ q, m = q + 1 := ⟨m - 1, by omega⟩
      have hil : i < a.length := by omega
      have e0 : f 0 = nI (ed U a b i 0) := h1 0 (by omega)
      have e1 : nI (ed U a b i 0) + nI (uN U 0) = nI (ed U a b (i + 1) 0) := by
        rw [nI_add]
        congr 1
        show edR _ _ _ _ _ _ + _ = edR _ _ _ _ _ _
        rw [edR_i0, edR_i0, Nat.mul_add, Nat.mul_one]
      obtain ⟨f', hf1, hf2⟩ := c_mesIn hU wU hr hq hs ht hb hbl Ht hil hal ha (X9_measure_L48 m) b.length FU 0 (upd f 0 (nI (ed U a b (i + 1) 0))) (by omega) (by show _ < 1000000; omega) (fun q hq => by
        have : q = 0 := by omega
        subst this
        simp [upd]) (fun q hq1 hq2 => by
        unfold upd
        rw [if_neg (by omega)]; exact h1 q hq2)
      obtain ⟨f'', hf3⟩ := ih m (i + 1) f' (by omega) (by omega) hf2
      refine ⟨f'', ?_⟩
      rw [← hf3, ← hf1, X9_measure_L48, chk_nI hs (by decide), nI_cl (by omega), gI_sIfn (by decide), Hs.1, if_neg (nI_ge hil (by omega)), bnd, bnd, gI_sIf, e0, e1, sI_sIf, mulr20, chk_nI (by omega) (by decide), bnd, nI_cl (by omega), gI_sIfn (by decide), Hs.2 i hil]
      rfl
  have first : ∀ d m j f, j + d = b.length + 1 → d < m → (∀ q, q < j → f q = nI (ed U a b 0 q)) → ∃ f', X9_measure_L21 m (nI s) (nI t) (nI (uN U 0)) (nI b.length) (nI j) (sIf σ 26 f) = some (nI (ed U a b a.length b.length), sIf σ 26 f') := by
    intro d
    induction d with
    | zero =>
      intro m j f hj hm h1
      obtain ⟨m, rfl⟩ : ∃ q, m = q + 1 := ⟨m - 1, by omega⟩
      obtain ⟨f', hf⟩ := rows a.length FU 0 f (by omega) (by show _ < 1000000; omega) (fun q hq => h1 q (by omega))
      exact ⟨f', by rw [X9_measure_L21, if_pos (by rw [ltI (by omega) (by omega)]; omega)]; exact hf⟩
    | succ d ih =>
      intro m j f hj hm h1
      obtain ⟨m, rfl⟩ : ∃ q, m = q + 1 := ⟨m - 1, by omega⟩
      obtain ⟨f', hf⟩ := ih m (j + 1) (upd f j (nI (ed U a b 0 j))) (by omega) (by omega) (fun q hq => by
        unfold upd
        by_cases e : q = j
        · subst e; simp
        · rw [if_neg e]; exact h1 q (by omega))
      refine ⟨f', ?_⟩
      have e : nI j * nI (uN U 0) = nI (ed U a b 0 j) := by
        rw [pk_mul, Nat.mul_comm]
        rfl
      rw [← hf, X9_measure_L21, if_neg (by rw [ltI (by omega) (by omega)]; omega), chk_nI (by omega) (by decide), bnd, nI_cl (by omega), sI_sIf, e, nI_1]
  obtain ⟨f', hf⟩ := first (b.length + 1) FU 0 (gI σ 26) (by omega) (by show _ < 1000000; omega) (fun q hq => by omega)
  rw [sIf_self] at hf
  refine ⟨f', ?_⟩
  unfold X9_measure
  rw [hq, chkN_lt hr, bnd, hU.2.2.1 0 (by decide), chk_nI ht (by decide), bnd, nI_cl (by omega), Ht.1]
  exact hf
end Meas
