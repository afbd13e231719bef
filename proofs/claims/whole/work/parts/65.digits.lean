/-! a word out of a number -/
theorem ltL {a b : Nat} (ha : a < 2 ^ 63) (hb : b < 2 ^ 63) : (lN a < lN b) = (a < b) := by
  rw [Int64.lt_iff_toInt_lt, pk_lT ha, pk_lT hb]
  exact propext ⟨fun h => by omega, fun h => by omega⟩
theorem leL {a b : Nat} (ha : a < 2 ^ 63) (hb : b < 2 ^ 63) : (lN a ≤ lN b) = (a ≤ b) := by
  rw [Int64.le_iff_toInt_le, pk_lT ha, pk_lT hb]
  exact propext ⟨fun h => by omega, fun h => by omega⟩
def dg : Nat → Nat → Option (List Nat)
  | 0, n => if n = 0 then some [] else none
  | k + 1, n => if n = 0 then some [] else if 1 ≤ n % 32 ∧ n % 32 ≤ 26 then (dg k (n / 32)).map (· ++ [n % 32]) else none
theorem dg_spec : ∀ k n w, dg k n = some w → LTR w ∧ pk w = n ∧ w.length ≤ k
  | 0, n, w, h => by
    unfold dg at h
    by_cases e : n = 0
    · rw [if_pos e] at h
      cases h
      exact ⟨fun x hx => (by cases hx), by rw [e]; rfl, Nat.le_refl _⟩
    · rw [if_neg e] at h; cases h
  | k + 1, n, w, h => by
    unfold dg at h
    by_cases e : n = 0
    · rw [if_pos e] at h
      cases h
      exact ⟨fun x hx => (by cases hx), by rw [e]; rfl, by simp⟩
    · rw [if_neg e] at h
      by_cases c : 1 ≤ n % 32 ∧ n % 32 ≤ 26
      · rw [if_pos c, Option.map_eq_some_iff] at h
        obtain ⟨v, hv, rfl⟩ := h
        obtain ⟨a, b, d⟩ := dg_spec k (n / 32) v hv
        refine ⟨fun x hx => ?_, ?_, ?_⟩
        · rcases List.mem_append.mp hx with hx | hx
          · exact a x hx
          · simp at hx; subst hx; exact c
        · rw [pk_app, b]; omega
        · simp; omega
      · rw [if_neg c] at h; cases h
theorem dg_pk : ∀ k w, LTR w → w.length ≤ k → dg k (pk w) = some w := by
  intro k
  induction k with
  | zero =>
    intro w _ h
    have : w = [] := List.length_eq_zero_iff.mp (by omega)
    subst this
    rfl
  | succ k ih =>
    intro w hw h
    rcases List.eq_nil_or_concat w with rfl | ⟨v, x, rfl⟩
    · rfl
    · have hw' : LTR v := fun y hy => hw y (by simp [hy])
      have hx := hw x (by simp)
      rw [List.concat_eq_append] at *
      have e1 : pk (v ++ [x]) % 32 = x := by rw [pk_app]; omega
      have e2 : pk (v ++ [x]) / 32 = pk v := by rw [pk_app]; omega
      have e3 : pk (v ++ [x]) ≠ 0 := by rw [pk_app]; omega
      unfold dg
      rw [if_neg e3, e1, e2, if_pos hx, ih v hw' (by simp at h; omega)]
      rfl
theorem pk_inj {w v : List Nat} (hw : LTR w) (hv : LTR v) (h1 : w.length ≤ 10) (h2 : v.length ≤ 10) (h : pk w = pk v) : w = v := by
  have a := dg_pk 10 w hw h1
  have b := dg_pk 10 v hv h2
  rw [h, b] at a
  cases a; rfl
section Digits
variable {σ τ : St}
theorem l31 (n : Nat) : lN n &&& 31 = lN (n % 32) := by
  rw [show (31 : Int64) = lN (2 ^ 5 - 1) from rfl, lN_and, Nat.and_two_pow_sub_one_eq_mod]
theorem l5 {n : Nat} (h : n < 2 ^ 63) : lN n >>> ((5 : Int32).toInt64 &&& 63) = lN (n / 32) := lN_shr (k := 5) h (by decide)
theorem c_isWordL : ∀ d m k n, k + d = 10 → d < m → n < 32 ^ d → X9_isWord_L21 σ m (lN n) (nI k) = some (b2 (dg d n).isSome) := by
  intro d
  induction d with
  | zero =>
    intro m k n hk hm hn
    obtain ⟨m, rfl⟩ : ∃ q, m = q + 1 := ⟨m - 1, by omega⟩
    have : k = 10 := by omega
    subst this
    have : n = 0 := by simp at hn; omega
    subst this
    rw [X9_isWord_L21, if_pos (by decide)]
    rfl
  | succ d ih =>
    intro m k n hk hm hn
    obtain ⟨m, rfl⟩ : ∃ q, m = q + 1 := ⟨m - 1, by omega⟩
    have hn50 : n < 2 ^ 50 := Nat.lt_of_lt_of_le hn (Nat.pow_le_pow_right (n := 32) (j := 10) (by decide) (by omega))
    rw [X9_isWord_L21, if_neg (show ¬ (10 : Int32) ≤ nI k from nI_ge (b := 10) (by omega) (by decide)), l31, bnd, l5 (by omega), bnd, nI_1, show (0 : Int64) = lN 0 from rfl, show (1 : Int64) = lN 1 from rfl, show (26 : Int64) = lN 26 from rfl]
    simp only [leL (show n < 2 ^ 63 by omega) (show 0 < 2 ^ 63 by decide), ltL (show n % 32 < 2 ^ 63 by omega) (show 1 < 2 ^ 63 by decide), leL (show n % 32 < 2 ^ 63 by omega) (show 26 < 2 ^ 63 by decide)]
    unfold dg
    by_cases e : n = 0
    · rw [if_pos (by omega), if_pos e]; rfl
    · rw [if_neg (by omega), if_neg e]
      by_cases c1 : n % 32 < 1
      · rw [if_pos c1, if_neg (fun h => by omega)]; rfl
      · rw [if_neg c1]
        by_cases c2 : n % 32 ≤ 26
        · rw [if_pos c2, if_pos ⟨by omega, c2⟩, ih m (k + 1) (n / 32) (by omega) (by omega) (by rw [Nat.pow_succ] at hn; omega)]
          cases dg d (n / 32) <;> rfl
        · rw [if_neg c2, if_neg (fun h => c2 h.2)]; rfl
/-- a number as a word, or none -/
def wd (x : Int64) : Option (List Nat) := if x ≤ 0 then none else if x < 1125899906842624 then dg 10 x.toInt.toNat else none
theorem x_lN {x : Int64} (h : ¬ x ≤ 0) (h2 : x < 1125899906842624) : x = lN x.toInt.toNat ∧ 0 < x.toInt.toNat ∧ x.toInt.toNat < 2 ^ 50 := by
  have t : (1125899906842624 : Int64).toInt = 1125899906842624 := by decide
  have t0 : (0 : Int64).toInt = 0 := by decide
  rw [Int64.le_iff_toInt_le, t0] at h
  rw [Int64.lt_iff_toInt_lt, t] at h2
  refine ⟨?_, by omega, by omega⟩
  apply Int64.toInt_inj.mp
  rw [pk_lT (by omega)]
  omega
theorem c_isWord (x : Int64) : X9_isWord x σ = some (b2 (wd x).isSome) := by
  unfold X9_isWord wd
  by_cases h : x ≤ 0
  · rw [if_pos h, if_pos h]; rfl
  · rw [if_neg h, if_neg h]
    by_cases h2 : x < 1125899906842624
    · rw [if_pos h2, if_pos h2]
      obtain ⟨e, -, e3⟩ := x_lN h h2
      have := c_isWordL (σ := σ) 10 FU 0 x.toInt.toNat rfl (by decide) e3
      rw [← e] at this
      exact this
    · rw [if_neg h2, if_neg h2]; rfl
theorem wd_spec {x : Int64} {w : List Nat} (h : wd x = some w) : x = lN (pk w) ∧ LTR w ∧ 1 ≤ w.length ∧ w.length ≤ 10 := by
  unfold wd at h
  by_cases h1 : x ≤ 0
  · rw [if_pos h1] at h; cases h
  · rw [if_neg h1] at h
    by_cases h2 : x < 1125899906842624
    · rw [if_pos h2] at h
      obtain ⟨e, e2, e3⟩ := x_lN h1 h2
      obtain ⟨a, b, c⟩ := dg_spec _ _ _ h
      refine ⟨by rw [b]; exact e, a, ?_, c⟩
      cases w with
      | nil => rw [show pk [] = 0 from rfl] at b; omega
      | cons y t => simp
    · rw [if_neg h2] at h; cases h
/-- the reference reads it from behind -/
theorem m_spellL : ∀ d m k n f, k + d = 10 → d < m → n < 32 ^ d → ∃ f', (∀ j, j < k → f' j = f j) ∧ ((∃ w, dg d n = some w ∧ X11_spelling_L26 m (nI k) (lN n) 1 (sIf τ 3 f) = X11_spelling_L82 FU (nI (k + w.length)) 1 0 (sIf τ 3 f') ∧ ∀ i, i < w.length → f' (k + w.length - 1 - i) = nI (w.getD i 0)) ∨ (dg d n = none ∧ ∃ x3, X11_spelling_L26 m (nI k) (lN n) 1 (sIf τ 3 f) = X11_spelling_L82 FU x3 0 0 (sIf τ 3 f'))) := by
  intro d
  induction d with
  | zero =>
    intro m k n f hk hm hn
    obtain ⟨m, rfl⟩ : ∃ q, m = q + 1 := ⟨m - 1, by omega⟩
    have : n = 0 := by simp at hn; omega
    subst this
    exact ⟨f, fun _ _ => rfl, Or.inl ⟨[], rfl, by rw [X11_spelling_L26, if_neg (by decide), if_pos (show lN 0 ≤ 0 by decide)]; rfl, fun i hi => by simp at hi⟩⟩
  | succ d ih =>
    intro m k n f hk hm hn
    obtain ⟨m, rfl⟩ : ∃ q, m = q + 1 := ⟨m - 1, by omega⟩
    have hn50 : n < 2 ^ 50 := Nat.lt_of_lt_of_le hn (Nat.pow_le_pow_right (n := 32) (j := 10) (by decide) (by omega))
    rw [X11_spelling_L26, if_neg (by decide)]
    by_cases e : n = 0
    · subst e
      exact ⟨f, fun _ _ => rfl, Or.inl ⟨[], rfl, by rw [if_pos (show lN 0 ≤ 0 by decide)]; rfl, fun i hi => by simp at hi⟩⟩
    · have h0 : ¬ lN n ≤ 0 := by
        rw [show (0 : Int64) = lN 0 from rfl, leL (by omega) (by decide)]
        omega
      have hin : X11_in (nI (n % 32)).toInt64 1 26 (sIf τ 3 (upd f k (nI (n % 32)))) = some (b2 (decide (1 ≤ n % 32) && decide (n % 32 ≤ 26))) := in_nI (n % 32) 1 26 (by omega) (by decide) (by decide) _
      rw [if_neg h0, chk_nI (by omega) (by decide), bnd, nI_cl (by omega), l31, lN_i, sI_sIf, chk_nI (by omega) (by decide), gI_sIf, upd_at, hin, Option.bind_some, l5 (by omega), bnd, nI_1]
      unfold dg
      rw [if_neg e]
      by_cases c : 1 ≤ n % 32 ∧ n % 32 ≤ 26
      · obtain ⟨f', g1, g2⟩ := ih m (k + 1) (n / 32) (upd f k (nI (n % 32))) (by omega) (by omega) (by rw [Nat.pow_succ] at hn; omega)
        have hk' : f' k = nI (n % 32) := by rw [g1 k (by omega), upd_at]
        refine ⟨f', fun j hj => by rw [g1 j (by omega)]; unfold upd; rw [if_neg (by omega)], ?_⟩
        rw [if_pos c]
        simp only [c.1, c.2, decide_true, Bool.and_self, b2_t]
        rcases g2 with ⟨w, g3, g4, g5⟩ | ⟨g3, x3, g4⟩
        · refine Or.inl ⟨w ++ [n % 32], by rw [g3]; rfl, ?_, fun i hi => ?_⟩
          · rw [g4]
            congr 2
            simp; omega
          · simp only [List.length_append, List.length_singleton] at hi ⊢
            by_cases ei : i < w.length
            · have := g5 i ei
              rw [show k + (w.length + 1) - 1 - i = k + 1 + w.length - 1 - i by omega, this, List.getD_eq_getElem?_getD, List.getD_eq_getElem?_getD, List.getElem?_append_left ei]
            · have : i = w.length := by omega
              subst this
              rw [show k + (w.length + 1) - 1 - w.length = k by omega, hk']
              simp [List.getD_eq_getElem?_getD]
        · exact Or.inr ⟨by rw [g3]; rfl, x3, g4⟩
      · refine ⟨upd f k (nI (n % 32)), fun j hj => by unfold upd; rw [if_neg (by omega)], Or.inr ⟨by rw [if_neg c], nI (k + 1), ?_⟩⟩
        have hb : (decide (1 ≤ n % 32) && decide (n % 32 ≤ 26)) = false := by
          by_cases c1 : 1 ≤ n % 32
          · have : ¬ n % 32 ≤ 26 := fun h => c ⟨c1, h⟩
            simp [this]
          · simp [c1]
        obtain ⟨m, rfl⟩ : ∃ q, m = q + 1 := ⟨m - 1, by omega⟩
        rw [hb, b2_f, X11_spelling_L26, if_pos rfl]
end Digits
