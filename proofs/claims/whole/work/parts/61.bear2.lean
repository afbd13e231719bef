/-! bearers -/
def wth (j : Nat) : Nat := [2, 1, 2, 0, 1].getD j 0
def wrq (L : DL) (B : DB) (nm : Nat → Nat) (s p y1 y2 k : Nat) : Bool := decide (B.2.1 (lB L k) = p) && (decide (y1 ≤ lY L k) && (decide (lY L k ≤ y2) && decide (nm (lN_ L k) = nm s)))
def wrF (L : DL) (B : DB) (nm : Nat → Nat) (s p y1 y2 k : Nat) : Nat := if wrq L B nm s p y1 y2 k = true then wth (lK L k) else 0
section Bear2
variable {σ τ : St} {B : DB} {L : DL} {W : DW} {U : DU} {nm : Nat → Nat} {np : Nat}
theorem c_worth (hB : CB σ B) (wb : WB np B) (hnp : np ≤ 8) (hL : CL σ L) (wl : WL W.1 B L) (hWd : CW σ W U nm) (wW : WW W) {J : Nat → Nat → Bool} (hN : NM J W.1 nm) {s p y1 y2 : Nat} (hs : s < W.1) (hp : p < 2 ^ 31) (h1 : y1 ≤ 1899) (h2 : y2 ≤ 1899) : X3_worth (nI (nm s)) (nI p) (nI y1) (nI y2) σ = some (nI (sumTo (wrF L B nm s p y1 y2) L.1)) := by
  have hl := wl.1
  have hw := wW.1
  have hb8 := wb.1
  have ns := nm_lt hN hs
  have key := loop0 (fun m k (a : Nat) => X3_worth_L6 σ m (nI (nm s)) (nI p) (nI y1) (nI y2) (nI a) (nI k)) L.1 (fun k => sumTo (wrF L B nm s p y1 y2) k) (some (nI (sumTo (wrF L B nm s p y1 y2) L.1))) (by omega) (fun m k hk => ?_) (fun m => ?_)
  · exact key
  · show X3_worth_L6 σ (m + 1) (nI (nm s)) (nI p) (nI y1) (nI y2) (nI (sumTo (wrF L B nm s p y1 y2) k)) (nI k) = X3_worth_L6 σ m (nI (nm s)) (nI p) (nI y1) (nI y2) (nI (sumTo (wrF L B nm s p y1 y2) k + wrF L B nm s p y1 y2 k)) (nI (k + 1))
    obtain ⟨q1, q2, q3, q4, q5, q6, -⟩ := wl.2 k hk
    obtain ⟨r1, r2, r3, r4, -⟩ := wb.2 _ q1
    have nk := nm_lt hN q6
    have ew : tWorth (lK L k) = nI (wth (lK L k)) := by
      have : ∀ j, j ≤ 4 → tWorth j = nI (wth j) := by decide
      exact this _ q4
    rw [X3_worth_L6, hL.1, if_neg (nI_ge hk (by omega)), chk_nI (by omega) (by decide), nI_cl (by omega), hL.2.2.1 k hk, chk_nI (by omega) (by decide), chk_nI (by omega) (by decide), hL.2.2.2.1 k hk, chk_nI (by omega) (by decide), nI_cl (by omega), ew, nI_add, nI_1]
    unfold X3_isAt
    rw [chk_nI (by omega) (by decide), nI_cl (by omega), hL.2.1 k hk, chk_nI (by omega) (by decide), nI_cl (by omega), hB.2.1 _ q1, c_nameLn hL wl hWd wW hk, Option.bind_some]
    simp only [ltI (show lY L k < 2 ^ 31 by omega) (show y1 < 2 ^ 31 by omega), ltI (show y2 < 2 ^ 31 by omega) (show lY L k < 2 ^ 31 by omega), eqI (show B.2.1 (lB L k) < 2 ^ 31 by omega) hp, eqI (show nm (lN_ L k) < 2 ^ 31 by omega) (show nm s < 2 ^ 31 by omega), bnd]
    unfold wrF wrq
    by_cases e1 : lY L k < y1
    · have : ¬ y1 ≤ lY L k := by omega
      simp [e1, this]
    · have e1' : y1 ≤ lY L k := by omega
      by_cases e2 : y2 < lY L k
      · have : ¬ lY L k ≤ y2 := by omega
        simp [e1, e2, this]
      · have e2' : lY L k ≤ y2 := by omega
        by_cases e3 : B.2.1 (lB L k) = p
        · by_cases e4 : nm (lN_ L k) = nm s
          · simp [e1, e2, e1', e2', e3, e4]
          · simp [e1, e2, e3, e4]
        · simp [e1, e2, e3]
  · show X3_worth_L6 σ (m + 1) (nI (nm s)) (nI p) (nI y1) (nI y2) (nI (sumTo (wrF L B nm s p y1 y2) L.1)) (nI L.1) = _
    rw [X3_worth_L6, hL.1, if_pos (nI_le (Nat.le_refl _) (by omega))]
theorem in_nI (a lo hi : Nat) (h1 : a < 2 ^ 31) (h2 : lo < 2 ^ 31) (h3 : hi < 2 ^ 31) (τ : St) : X11_in (nI a).toInt64 (nI lo).toInt64 (nI hi).toInt64 τ = some (b2 (decide (lo ≤ a) && decide (a ≤ hi))) := by
  rw [in_eq]
  simp only [leI h2 h1, leI h1 h3]
theorem m_worthOf (j : Nat) (hj : j ≤ 4) (τ : St) : X11_worthOf (nI j) τ = some (nI (wth j)) := by
  unfold X11_worthOf
  rcases (by omega : j = 0 ∨ j = 1 ∨ j = 2 ∨ j = 3 ∨ j = 4) with rfl | rfl | rfl | rfl | rfl <;> rfl
/-- the reference: lines -/
theorem m_bearL (hB : MB τ B) (wb : WB np B) (hnp : np ≤ 8) (hL : ML τ L) (wl : WL W.1 B L) (wW : WW W) (h5 : ∀ s, s < W.1 → gI τ 22 s = nI (nm s)) {J : Nat → Nat → Bool} (hN : NM J W.1 nm) {s p y1 y2 : Nat} (hs : s < W.1) (hp : p < 2 ^ 31) (h1 : y1 ≤ 1899) (h2 : y2 ≤ 1899) (x5 : Int32) : X11_bearers_L72 FU (nI s) (nI p) (nI y1) (nI y2) x5 0 0 0 τ = X11_bearers_L177 FU (nI p) (nI y1) (nI y2) x5 (nI (sumTo (wrF L B nm s p y1 y2) L.1)) 0 0 τ := by
  have hl := wl.1
  have hw := wW.1
  have hb8 := wb.1
  have ns := nm_lt hN hs
  have key := loop0 (fun m k (a : Nat) => X11_bearers_L72 m (nI s) (nI p) (nI y1) (nI y2) x5 (nI a) 0 (nI k) τ) L.1 (fun k => sumTo (wrF L B nm s p y1 y2) k) (X11_bearers_L177 FU (nI p) (nI y1) (nI y2) x5 (nI (sumTo (wrF L B nm s p y1 y2) L.1)) 0 0 τ) (by omega) (fun m k hk => ?_) (fun m => ?_)
  · exact key
  · show X11_bearers_L72 (m + 1) (nI s) (nI p) (nI y1) (nI y2) x5 (nI (sumTo (wrF L B nm s p y1 y2) k)) 0 (nI k) τ = X11_bearers_L72 m (nI s) (nI p) (nI y1) (nI y2) x5 (nI (sumTo (wrF L B nm s p y1 y2) k + wrF L B nm s p y1 y2 k)) 0 (nI (k + 1)) τ
    obtain ⟨q1, q2, q3, q4, q5, q6, -⟩ := wl.2 k hk
    obtain ⟨r1, r2, r3, r4, -⟩ := wb.2 _ q1
    have nk := nm_lt hN q6
    rw [X11_bearers_L72, hL.1, if_neg (nI_ge hk (by omega)), chk_nI (by omega) (by decide), nI_cl (show k < 2 ^ 31 by omega), hL.2.1 k hk, chk_nI (by omega) (by decide), nI_cl (show lB L k < 2 ^ 31 by omega), hB.2.1 _ q1, chk_nI (by omega) (by decide), chk_nI (by omega) (by decide), hL.2.2.1 k hk, in_nI _ _ _ (by omega) (by omega) (by omega), Option.bind_some, hL.2.2.2.2.2.1 k hk, chk_nI (by omega) (by decide), chk_nI (by omega) (by decide), nI_cl (show lN_ L k < 2 ^ 31 by omega), nI_cl (show s < 2 ^ 31 by omega), h5 _ q6, h5 _ hs]
    unfold X11_bearers_B142
    rw [chk_nI (by omega) (by decide), nI_cl (show k < 2 ^ 31 by omega), hL.2.2.2.1 k hk, m_worthOf _ q4, Option.bind_some]
    simp only [eqI (show B.2.1 (lB L k) < 2 ^ 31 by omega) hp, eqI (show nm (lN_ L k) < 2 ^ 31 by omega) (show nm s < 2 ^ 31 by omega), bnd, nI_add, nI_1, b2_0, if_true, one0, if_false, Int32.add_zero]
    unfold wrF wrq
    by_cases e1 : B.2.1 (lB L k) = p
    · by_cases e2 : y1 ≤ lY L k
      · by_cases e3 : lY L k ≤ y2
        · by_cases e4 : nm (lN_ L k) = nm s
          · simp [e1, e2, e3, e4]
          · simp [e1, e2, e3, e4]
        · simp [e1, e2, e3]
      · simp [e1, e2]
    · simp [e1]
  · show X11_bearers_L72 (m + 1) (nI s) (nI p) (nI y1) (nI y2) x5 (nI (sumTo (wrF L B nm s p y1 y2) L.1)) 0 (nI L.1) τ = _
    rw [X11_bearers_L72, hL.1, if_pos (nI_le (Nat.le_refl _) (by omega))]
/-- the reference: the years of a book -/
theorem m_bearY (hB : MB τ B) (wb : WB np B) (hnp : np ≤ 8) {b p y1 y2 : Nat} (hb : b < B.1) (hp : p < 2 ^ 31) (h1 : y1 ≤ 1899) (h2 : y2 ≤ 1899) (x5 x6 : Int32) (kq : Int32 → Int32 → Int32 → Int32 → Int32 → Int32 → Int32 → St → Option (Int32 × St)) : ∀ d m y a, y + d = B.2.2.2.1 b + 1 → d < m → X11_bearers_L195 kq m (nI p) (nI y1) (nI y2) x5 x6 (nI a) (nI b) (nI y) τ = kq (nI p) (nI y1) (nI y2) x5 x6 (nI (a + iv y (B.2.2.2.1 b) (rdq B p y1 y2 b))) (nI (b + 1)) τ := by
  have hb8 := wb.1
  obtain ⟨r1, r2, r3, r4, -⟩ := wb.2 _ hb
  intro d
  induction d with
  | zero =>
    intro m y a hy hm
    obtain ⟨m, rfl⟩ : ∃ q, m = q + 1 := ⟨m - 1, by omega⟩
    rw [X11_bearers_L195, chk_nI (by omega) (by decide), nI_cl (by omega), hB.2.2.2.1 b hb, if_pos (by rw [ltI (by omega) (by omega)]; omega), iv_nil (by omega), Nat.add_zero, nI_1]
  | succ d ih =>
    intro m y a hy hm
    obtain ⟨m, rfl⟩ : ∃ q, m = q + 1 := ⟨m - 1, by omega⟩
    rw [X11_bearers_L195, chk_nI (by omega) (by decide), nI_cl (by omega), hB.2.2.2.1 b hb, if_neg (by rw [ltI (by omega) (by omega)]; omega), chk_nI (by omega) (by decide), hB.2.1 b hb, in_nI _ _ _ (by omega) (by omega) (by omega), Option.bind_some, m_isHole hB hb8 hb, Option.bind_some, iv_step (by omega) (by omega)]
    simp only [eqI (show B.2.1 b < 2 ^ 31 by omega) hp, bnd, nI_1, b2_0, Int32.add_zero]
    have i0 := ih m (y + 1) a (by omega) (by omega)
    have i1 := ih m (y + 1) (a + 1) (by omega) (by omega)
    rw [Nat.add_assoc] at i1
    rw [i0, i1]
    unfold rdq nh
    by_cases e1 : B.2.1 b = p
    · by_cases e2 : y1 ≤ y
      · by_cases e3 : y ≤ y2
        · by_cases e4 : isH (B.2.2.2.2 b) (nI y - nI (B.2.2.1 b)) = false
          · simp [e1, e2, e3, e4]
          · simp [e1, e2, e3, e4]
        · simp [e1, e2, e3]
      · simp [e1, e2]
    · simp [e1]
theorem m_bearB (hB : MB τ B) (wb : WB np B) (hnp : np ≤ 8) {p y1 y2 : Nat} (hp : p < 2 ^ 31) (h1 : y1 ≤ 1899) (h2 : y2 ≤ 1899) (x5 x6 : Int32) : X11_bearers_L177 FU (nI p) (nI y1) (nI y2) x5 x6 0 0 τ = if nI y2 - nI y1 + 1 ≤ nI (sumTo (rdF B p y1 y2) B.1) then X11_bearers_B287 x5 x6 (nI (sumTo (rdF B p y1 y2) B.1)) (nI (sumTo (rdF B p y1 y2) B.1)) τ else X11_bearers_B287 x5 x6 (nI (sumTo (rdF B p y1 y2) B.1)) (nI y2 - nI y1 + 1) τ := by
  have hb8 := wb.1
  have key := loop0 (fun m k (a : Nat) => X11_bearers_L177 m (nI p) (nI y1) (nI y2) x5 x6 (nI a) (nI k) τ) B.1 (fun k => sumTo (rdF B p y1 y2) k) (if nI y2 - nI y1 + 1 ≤ nI (sumTo (rdF B p y1 y2) B.1) then X11_bearers_B287 x5 x6 (nI (sumTo (rdF B p y1 y2) B.1)) (nI (sumTo (rdF B p y1 y2) B.1)) τ else X11_bearers_B287 x5 x6 (nI (sumTo (rdF B p y1 y2) B.1)) (nI y2 - nI y1 + 1) τ) (by omega) (fun m b hb => ?_) (fun m => ?_)
  · exact key
  · show X11_bearers_L177 (m + 1) (nI p) (nI y1) (nI y2) x5 x6 (nI (sumTo (rdF B p y1 y2) b)) (nI b) τ = X11_bearers_L177 m (nI p) (nI y1) (nI y2) x5 x6 (nI (sumTo (rdF B p y1 y2) b + rdF B p y1 y2 b)) (nI (b + 1)) τ
    obtain ⟨r1, r2, r3, r4, -⟩ := wb.2 _ hb
    rw [X11_bearers_L177, hB.1, if_neg (nI_ge hb (by omega)), chk_nI (by omega) (by decide), bnd, nI_cl (by omega), hB.2.2.1 b hb]
    exact m_bearY hB wb hnp hb hp h1 h2 x5 x6 _ (B.2.2.2.1 b + 1 - B.2.2.1 b) FU _ _ (by omega) (by show _ < 1000000; omega)
  · show X11_bearers_L177 (m + 1) (nI p) (nI y1) (nI y2) x5 x6 (nI (sumTo (rdF B p y1 y2) B.1)) (nI B.1) τ = _
    rw [X11_bearers_L177, hB.1, if_pos (nI_le (Nat.le_refl _) (by omega))]
end Bear2
