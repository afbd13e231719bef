/-! spelling -/
theorem eqL {a b : Nat} (ha : a < 2 ^ 63) (hb : b < 2 ^ 63) (h : lN a = lN b) : a = b := by
  have h1 := congrArg Int64.toInt h
  rw [pk_lT ha, pk_lT hb] at h1
  omega
section Spell
variable {σ τ : St} {W : DW}
def newW (W : DW) (w : List Nat) : DW := (W.1 + 1, fun j => if j = W.1 then w else W.2 j)
def hldW (W : DW) (w : List Nat) : Bool := (List.range W.1).any fun k => decide (W.2 k = w)
theorem c_holds (h1 : gI σ 18 1 = nI W.1) (h2 : ∀ s, s < W.1 → gJ σ 19 s = lN (pk (W.2 s))) (wW : WW W) {w : List Nat} (hw : LTR w) (hl : w.length ≤ 10) : X9_holds (lN (pk w)) σ = some (b2 (hldW W w)) := by
  have hn := wW.1
  have hb : ∀ v, LTR v → v.length ≤ 10 → pk v < 2 ^ 63 := fun v hv hl => by
    have h1 := pkl_lt hv
    have h2 : (32 : Nat) ^ v.length ≤ 32 ^ 10 := Nat.pow_le_pow_right (by decide) hl
    omega
  refine any_loop (fun m k => X9_holds_L2 σ m (lN (pk w)) (nI k)) W.1 _ (by omega) (fun m k hk => ?_) (fun m => ?_)
  · show X9_holds_L2 σ (m + 1) (lN (pk w)) (nI k) = _
    obtain ⟨g1, g2, g3⟩ := wW.2.1 k hk
    rw [X9_holds_L2, h1, if_neg (nI_ge hk (by omega)), chk_nI (by omega) (by decide), nI_cl (by omega), h2 k hk, nI_1]
    by_cases e : W.2 k = w
    · rw [if_pos (by rw [e]), if_pos (decide_eq_true e)]
    · rw [if_neg (fun h => e (pk_inj g3 hw g2 hl (eqL (hb _ g3 g2) (hb _ hw hl) h))), if_neg (by simpa using e)]
  · show X9_holds_L2 σ (m + 1) (lN (pk w)) (nI W.1) = _
    rw [X9_holds_L2, h1, if_pos (nI_le (Nat.le_refl _) (by omega))]
/-- the reference compares with one spelling -/
theorem m_cmpL (mW : MW τ W) (wW : WW W) {w : List Nat} (hw : LTR w) (hl : w.length ≤ 10) (hc : ∀ i, i < w.length → gI τ 3 (w.length - 1 - i) = nI (w.getD i 0)) {k : Nat} (hk : k < W.1) (he : (W.2 k).length = w.length) (kq : Int32 → Int32 → Int32 → St → Option (Int32 × St)) : ∀ d m j, j + d = w.length → d < m → ∀ b : Bool, (b = true ↔ (W.2 k).take j = w.take j) → X11_spelling_L117 kq m (nI w.length) (nI k) (b2 b) (nI j) τ = kq (nI w.length) (b2 (decide (¬ W.2 k = w))) (nI (k + 1)) τ := by
  have hn := wW.1
  obtain ⟨g1, g2, g3⟩ := wW.2.1 k hk
  have hfin : ∀ b : Bool, (b = true ↔ W.2 k = w) → X11_spelling_B168 kq (nI w.length) (nI k) (b2 b) τ = kq (nI w.length) (b2 (decide (¬ W.2 k = w))) (nI (k + 1)) τ := fun b hb => by
    unfold X11_spelling_B168
    cases b
    · have : ¬ W.2 k = w := fun h => by have := hb.mpr h; cases this
      rw [if_pos (show b2 false = 0 from rfl), nI_1]
      simp only [this, not_false_eq_true, decide_true, b2_t]
    · have : W.2 k = w := hb.mp rfl
      rw [if_neg (show ¬ b2 true = 0 by decide), nI_1]
      simp only [this, not_true_eq_false, decide_false, b2_f]
  intro d
  induction d with
  | zero =>
    intro m j hj hm b hb
    obtain ⟨m, rfl⟩ : ∃ q, m = q + 1 := ⟨m - 1, by omega⟩
    have : j = w.length := by omega
    subst this
    rw [List.take_of_length_le (by omega), List.take_length] at hb
    rw [X11_spelling_L117, if_pos (nI_le (Nat.le_refl _) (by omega)), hfin b hb]
  | succ d ih =>
    intro m j hj hm b hb
    obtain ⟨m, rfl⟩ : ∃ q, m = q + 1 := ⟨m - 1, by omega⟩
    have hjl : j < w.length := by omega
    rw [X11_spelling_L117, if_neg (nI_ge hjl (by omega))]
    cases b
    · rw [if_pos (show b2 false = 0 from rfl)]
      have hne : ¬ (W.2 k).take j = w.take j := fun h => by have := hb.mpr h; cases this
      exact hfin false ⟨fun h => (by cases h), fun h => absurd (by rw [h]) hne⟩
    · have q1 := g3.get (show j < (W.2 k).length by omega)
      have q2 := hw.get hjl
      have hpre := hb.mp rfl
      have hst := @take_step (W.2 k) w j (by omega)
      rw [if_neg (show ¬ b2 true = 0 by decide), mul10, chk_nI (by omega) (by decide), show nI w.length - 1 = nI (w.length - 1) from subI (b := 1) (by omega), subI (by omega), chk_nI (by omega) (by decide), nI_cl (by omega), nI_cl (by omega), mW.2.2 k j hk (by omega), hc j hjl, nI_1]
      simp only [eqI (show (W.2 k).getD j 0 < 2 ^ 31 by omega) (show w.getD j 0 < 2 ^ 31 by omega)]
      by_cases e : (W.2 k).getD j 0 = w.getD j 0
      · rw [if_pos e]
        exact ih m (j + 1) (by omega) (by omega) true ⟨fun _ => hst.mpr ⟨hpre, hjl, e.symm⟩, fun _ => rfl⟩
      · rw [if_neg e]
        exact ih m (j + 1) (by omega) (by omega) false ⟨fun h => (by cases h), fun h => absurd (hst.mp h).2.2.symm e⟩
theorem m_heldL (mW : MW τ W) (wW : WW W) {w : List Nat} (hw : LTR w) (hl : w.length ≤ 10) (hc : ∀ i, i < w.length → gI τ 3 (w.length - 1 - i) = nI (w.getD i 0)) : ∀ d m k, k + d = W.1 → d < m → X11_spelling_L82 m (nI w.length) 1 (nI k) τ = X11_spelling_B186 (nI w.length) (b2 (!((List.range' k d).any fun k => decide (W.2 k = w)))) τ := by
  have hn := wW.1
  intro d
  induction d with
  | zero =>
    intro m k hk hm
    obtain ⟨m, rfl⟩ : ∃ q, m = q + 1 := ⟨m - 1, by omega⟩
    have : k = W.1 := by omega
    subst this
    rw [X11_spelling_L82, mW.1, if_pos (nI_le (Nat.le_refl _) (by omega))]
    rfl
  | succ d ih =>
    intro m k hk hm
    obtain ⟨m, rfl⟩ : ∃ q, m = q + 1 := ⟨m - 1, by omega⟩
    have hkn : k < W.1 := by omega
    obtain ⟨g1, g2, g3⟩ := wW.2.1 k hkn
    rw [X11_spelling_L82, mW.1, if_neg (nI_ge hkn (by omega)), if_neg n10, chk_nI (by omega) (by decide), nI_cl (by omega), mW.2.1 k hkn]
    simp only [eqI (show (W.2 k).length < 2 ^ 31 by omega) (show w.length < 2 ^ 31 by omega)]
    have hnext : X11_spelling_L82 m (nI w.length) (b2 (decide (¬ W.2 k = w))) (nI (k + 1)) τ = X11_spelling_B186 (nI w.length) (b2 (!((List.range' k (d + 1)).any fun k => decide (W.2 k = w)))) τ := by
      rw [List.range'_succ, List.any_cons]
      by_cases e : W.2 k = w
      · obtain ⟨m, rfl⟩ : ∃ q, m = q + 1 := ⟨m - 1, by omega⟩
        simp only [e, not_true_eq_false, decide_false, decide_true, Bool.true_or, Bool.not_true, b2_f]
        rw [X11_spelling_L82, if_pos (show (0 : Int32) = 0 from rfl), ite_self]
      · simp only [e, not_false_eq_true, decide_false, decide_true, Bool.false_or, b2_t]
        exact ih m (k + 1) (by omega) (by omega)
    by_cases he : (W.2 k).length = w.length
    · rw [if_pos he]
      have := m_cmpL mW wW hw hl hc hkn he (X11_spelling_L82 m) w.length FU 0 (by omega) (by show _ < 1000000; omega) true (by simp)
      rw [← hnext, ← this]
      rfl
    · rw [if_neg he]
      have hne : ¬ W.2 k = w := fun h => he (by rw [h])
      have hB : X11_spelling_L117 (X11_spelling_L82 m) FU (nI w.length) (nI k) 0 0 τ = X11_spelling_L82 m (nI w.length) 1 (nI (k + 1)) τ := by
        obtain ⟨n, hn'⟩ : ∃ n, FU = n + 1 := ⟨999999, rfl⟩
        rw [hn', X11_spelling_L117, if_pos (show (0 : Int32) = 0 from rfl), ite_self]
        unfold X11_spelling_B168
        rw [if_pos rfl, nI_1]
      rw [hB, ← hnext]
      simp only [hne, not_false_eq_true, decide_true, b2_t]
/-- the reference writes the letters down -/
theorem m_writeL {w : List Nat} (hl : w.length ≤ 10) {n : Nat} (hn : n < 16) (h0 : gI τ 0 0 = nI n) (hc : ∀ i, i < w.length → gI τ 3 (w.length - 1 - i) = nI (w.getD i 0)) : ∀ d m j f, j + d = w.length → d < m → (∀ i, i < j → f (10 * n + i) = nI (w.getD i 0)) → ∃ f', X11_spelling_L218 m (nI w.length) (nI j) (sIf τ 2 f) = some (nI n, sI (sIf τ 2 f') 0 0 (nI (n + 1))) ∧ (∀ i, i < w.length → f' (10 * n + i) = nI (w.getD i 0)) ∧ ∀ q, q < 10 * n → f' q = f q := by
  intro d
  induction d with
  | zero =>
    intro m j f hj hm hf
    obtain ⟨m, rfl⟩ : ∃ q, m = q + 1 := ⟨m - 1, by omega⟩
    have : j = w.length := by omega
    subst this
    refine ⟨f, ?_, hf, fun _ _ => rfl⟩
    rw [X11_spelling_L218, if_pos (nI_le (Nat.le_refl _) (by omega)), gI_sIfn (by decide), h0, nI_1, bnd, gI_at, show nI (n + 1) - 1 = nI n from subE (b := 1) (by omega)]
  | succ d ih =>
    intro m j f hj hm hf
    obtain ⟨m, rfl⟩ : ∃ q, m = q + 1 := ⟨m - 1, by omega⟩
    have hjl : j < w.length := by omega
    obtain ⟨f', e1, e2, e3⟩ := ih m (j + 1) (upd f (10 * n + j) (nI (w.getD j 0))) (by omega) (by omega) (fun i hi => by
      unfold upd
      by_cases e : i = j
      · subst e; simp
      · rw [if_neg (by omega)]; exact hf i (by omega))
    refine ⟨f', ?_, e2, fun q hq => by rw [e3 q hq]; unfold upd; rw [if_neg (by omega)]⟩
    rw [← e1, X11_spelling_L218, if_neg (nI_ge hjl (by omega)), show nI w.length - 1 = nI (w.length - 1) from subI (b := 1) (by omega), subI (by omega), chk_nI (by omega) (by decide), gI_sIfn (by decide), h0, mul10, chk_nI (by omega) (by decide), bnd, nI_cl (by omega), nI_cl (by omega), gI_sIfn (by decide), hc j hjl, sI_sIf, nI_1]
end Spell
