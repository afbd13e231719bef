/-! the first year of a name at a place -/
abbrev fq (L : DL) (B : DB) (nm : Nat → Nat) (s p k : Nat) : Prop := lK L k ≠ 3 ∧ B.2.1 (lB L k) = p ∧ nm (lN_ L k) = nm s
def fyU (o : Option Nat) (y : Nat) : Option Nat := match o with
  | none => some y
  | some z => if z ≤ y then some z else some y
def fyk (L : DL) (B : DB) (nm : Nat → Nat) (s p : Nat) : Nat → Option Nat
  | 0 => none
  | k + 1 => if fq L B nm s p k then fyU (fyk L B nm s p k) (lY L k) else fyk L B nm s p k
theorem fyk_y {L : DL} {B : DB} {nm : Nat → Nat} {s p k : Nat} (h : fq L B nm s p k) : fyk L B nm s p (k + 1) = fyU (fyk L B nm s p k) (lY L k) := by
  show (if fq L B nm s p k then _ else _) = _
  rw [if_pos h]
theorem fyk_n {L : DL} {B : DB} {nm : Nat → Nat} {s p k : Nat} (h : ¬ fq L B nm s p k) : fyk L B nm s p (k + 1) = fyk L B nm s p k := by
  show (if fq L B nm s p k then _ else _) = _
  rw [if_neg h]
theorem fyk_le {L : DL} {B : DB} {nm : Nat → Nat} {s p : Nat} {b : Nat} : ∀ k, (∀ j, j < k → 1500 ≤ lY L j ∧ lY L j ≤ b) → ∀ y, fyk L B nm s p k = some y → 1500 ≤ y ∧ y ≤ b
  | 0, _, y, h => by cases h
  | k + 1, hb, y, h => by
    have ih := fyk_le (s := s) (p := p) (B := B) (nm := nm) k (fun j hj => hb j (by omega))
    have hk := hb k (by omega)
    by_cases e : fq L B nm s p k
    · rw [fyk_y e] at h
      unfold fyU at h
      cases ho : fyk L B nm s p k with
      | none => rw [ho] at h; cases h; exact hk
      | some z =>
        rw [ho] at h
        by_cases hz : z ≤ lY L k
        · simp only [if_pos hz] at h; rw [← Option.some.inj h]; exact ih z ho
        · simp only [if_neg hz] at h; rw [← Option.some.inj h]; exact hk
    · rw [fyk_n e] at h
      exact ih y h
section First
variable {σ τ : St} {B : DB} {L : DL} {W : DW} {U : DU} {nm : Nat → Nat} {np : Nat}
theorem c_isAt (hB : CB σ B) (wb : WB np B) (hnp : np ≤ 8) (hL : CL σ L) (wl : WL W.1 B L) (hWd : CW σ W U nm) (wW : WW W) {J : Nat → Nat → Bool} (hN : NM J W.1 nm) {s p k : Nat} (hs : s < W.1) (hp : p < 2 ^ 31) (hk : k < L.1) : X3_isAt (nI k) (nI (nm s)) (nI p) σ = some (b2 (decide (B.2.1 (lB L k) = p) && decide (nm (lN_ L k) = nm s))) := by
  have hl := wl.1
  have hw := wW.1
  have hb8 := wb.1
  have ns := nm_lt hN hs
  obtain ⟨q1, q2, q3, q4, q5, q6, -⟩ := wl.2 k hk
  obtain ⟨r1, r2, r3, r4, -⟩ := wb.2 _ q1
  have nk := nm_lt hN q6
  unfold X3_isAt
  rw [chk_nI (by omega) (by decide), nI_cl (by omega), hL.2.1 k hk, chk_nI (by omega) (by decide), nI_cl (by omega), hB.2.1 _ q1, c_nameLn hL wl hWd wW hk, Option.bind_some]
  simp only [eqI (show B.2.1 (lB L k) < 2 ^ 31 by omega) hp, eqI (show nm (lN_ L k) < 2 ^ 31 by omega) (show nm s < 2 ^ 31 by omega)]
  by_cases e3 : B.2.1 (lB L k) = p
  · by_cases e4 : nm (lN_ L k) = nm s
    · simp [e3, e4, b2]
    · simp [e3, e4, b2]
  · simp [e3, b2]
theorem c_firstYear (hB : CB σ B) (wb : WB np B) (hnp : np ≤ 8) (hL : CL σ L) (wl : WL W.1 B L) (hWd : CW σ W U nm) (wW : WW W) {J : Nat → Nat → Bool} (hN : NM J W.1 nm) {s p : Nat} (hs : s < W.1) (hp : p < 2 ^ 31) : X3_firstYear (nI (nm s)) (nI p) σ = some (oI (fyk L B nm s p L.1)) := by
  have hl := wl.1
  have hyr : ∀ j, j < L.1 → 1500 ≤ lY L j ∧ lY L j ≤ 1899 := fun j hj => year_lt wl wb hj
  have key := loop0 (fun m k (o : Option Nat) => X3_firstYear_L6 σ m (nI (nm s)) (nI p) (oI o) (nI k)) L.1 (fun k => fyk L B nm s p k) (some (oI (fyk L B nm s p L.1))) (by omega) (fun m k hk => ?_) (fun m => ?_)
  · exact key
  · show X3_firstYear_L6 σ (m + 1) (nI (nm s)) (nI p) (oI (fyk L B nm s p k)) (nI k) = X3_firstYear_L6 σ m (nI (nm s)) (nI p) (oI (fyk L B nm s p (k + 1))) (nI (k + 1))
    have q4 := (wl.2 k hk).2.2.2.1
    have hy := hyr k hk
    have hB1 : X3_firstYear_B37 (X3_firstYear_L6 σ m) σ (nI (nm s)) (nI p) (oI (fyk L B nm s p k)) (nI k) 1 = X3_firstYear_L6 σ m (nI (nm s)) (nI p) (oI (if fq L B nm s p k then some (lY L k) else fyk L B nm s p k)) (nI (k + 1)) := by
      unfold X3_firstYear_B37
      rw [if_neg n10, chk_nI (by omega) (by decide), nI_cl (by omega), hL.2.2.2.1 k hk, c_isAt hB wb hnp hL wl hWd wW hN hs hp hk, Option.bind_some, chk_nI (by omega) (by decide), hL.2.2.1 k hk, bnd, nI_1]
      simp only [b2_0, show (3 : Int32) = nI 3 from rfl, eqI (show lK L k < 2 ^ 31 by omega) (show 3 < 2 ^ 31 by decide)]
      by_cases e1 : lK L k = 3
      · rw [if_pos e1, if_neg (fun h => h.1 e1)]
      · rw [if_neg e1]
        by_cases e2 : B.2.1 (lB L k) = p ∧ nm (lN_ L k) = nm s
        · rw [if_neg (by simp [e2.1, e2.2]), if_pos (show fq L B nm s p k from ⟨e1, e2⟩)]
          rfl
        · rw [if_pos (by
            by_cases e3 : B.2.1 (lB L k) = p
            · have : ¬ nm (lN_ L k) = nm s := fun h => e2 ⟨e3, h⟩
              simp [this]
            · simp [e3]), if_neg (fun h => e2 h.2)]
    have hB0 : X3_firstYear_B37 (X3_firstYear_L6 σ m) σ (nI (nm s)) (nI p) (oI (fyk L B nm s p k)) (nI k) 0 = X3_firstYear_L6 σ m (nI (nm s)) (nI p) (oI (fyk L B nm s p k)) (nI (k + 1)) := by
      unfold X3_firstYear_B37
      rw [if_pos rfl, nI_1]
    rw [X3_firstYear_L6, hL.1, if_neg (nI_ge hk (by omega)), hB0, hB1]
    cases ho : fyk L B nm s p k with
    | none =>
      rw [if_pos (show oI none = -4 from rfl)]
      by_cases e : fq L B nm s p k
      · rw [if_pos e, fyk_y e, ho]; rfl
      · rw [if_neg e, fyk_n e, ho]
    | some z =>
      have hz := fyk_le k (fun j hj => hyr j (by omega)) z ho
      rw [oI_some]
      simp only [neI4 (show z < 2 ^ 31 by omega), if_false]
      rw [chk_nI (by omega) (by decide), nI_cl (by omega), hL.2.2.1 k hk]
      simp only [leI (show z < 2 ^ 31 by omega) (show lY L k < 2 ^ 31 by omega)]
      by_cases hle : z ≤ lY L k
      · rw [if_pos hle]
        by_cases e : fq L B nm s p k
        · rw [fyk_y e, ho]
          show _ = X3_firstYear_L6 σ m (nI (nm s)) (nI p) (oI (if z ≤ lY L k then some z else some (lY L k))) (nI (k + 1))
          rw [if_pos hle]
          rfl
        · rw [fyk_n e, ho]; rfl
      · rw [if_neg hle]
        by_cases e : fq L B nm s p k
        · rw [if_pos e, fyk_y e, ho]
          show _ = X3_firstYear_L6 σ m (nI (nm s)) (nI p) (oI (if z ≤ lY L k then some z else some (lY L k))) (nI (k + 1))
          rw [if_neg hle]
        · rw [if_neg e, fyk_n e, ho]
  · show X3_firstYear_L6 σ (m + 1) (nI (nm s)) (nI p) (oI (fyk L B nm s p L.1)) (nI L.1) = _
    rw [X3_firstYear_L6, hL.1, if_pos (nI_le (Nat.le_refl _) (by omega))]
theorem m_firstsL (hB : MB τ B) (wb : WB np B) (hnp : np ≤ 8) (hL : ML τ L) (wl : WL W.1 B L) (wW : WW W) (h5 : ∀ s, s < W.1 → gI τ 22 s = nI (nm s)) {J : Nat → Nat → Bool} (hN : NM J W.1 nm) {s : Nat} (hs : s < W.1) : ∀ d m k g, k + d = L.1 → d < m → (∀ p, p < 8 → g p = oI (fyk L B nm s p k)) → ∃ g', X11_layFirsts_L24 m (nI s) (nI k) (sIf τ 44 g) = some (sIf τ 44 g') ∧ ∀ p, p < 8 → g' p = oI (fyk L B nm s p L.1) := by
  have hl := wl.1
  have hw := wW.1
  have hb8 := wb.1
  have ns := nm_lt hN hs
  have hyr : ∀ j, j < L.1 → 1500 ≤ lY L j ∧ lY L j ≤ 1899 := fun j hj => year_lt wl wb hj
  intro d
  induction d with
  | zero =>
    intro m k g hk hm hg
    obtain ⟨m, rfl⟩ : ∃ q, m = q + 1 := ⟨m - 1, by omega⟩
    have : k = L.1 := by omega
    subst this
    exact ⟨g, by rw [X11_layFirsts_L24, gI_sIfn (by decide), hL.1, if_pos (nI_le (Nat.le_refl _) (by omega))], hg⟩
  | succ d ih =>
    intro m k g hk hm hg
    obtain ⟨m, rfl⟩ : ∃ q, m = q + 1 := ⟨m - 1, by omega⟩
    have hkl : k < L.1 := by omega
    obtain ⟨q1, q2, q3, q4, q5, q6, -⟩ := wl.2 k hkl
    obtain ⟨r1, r2, r3, r4, -⟩ := wb.2 _ q1
    have nk := nm_lt hN q6
    have hy := hyr k hkl
    have o : ∀ q, q ≠ 44 → gI (sIf τ 44 g) q = gI τ q := fun q h => gI_sIfn h
    have skp : (∀ p, ¬ fq L B nm s p k) → ∃ g', X11_layFirsts_L24 m (nI s) (nI (k + 1)) (sIf τ 44 g) = some (sIf τ 44 g') ∧ ∀ p, p < 8 → g' p = oI (fyk L B nm s p L.1) := fun hno => ih m (k + 1) g (by omega) (by omega) (fun p hp => by rw [fyk_n (hno p)]; exact hg p hp)
    have wrt : fq L B nm s (B.2.1 (lB L k)) k → ∀ v, v = oI (fyk L B nm s (B.2.1 (lB L k)) (k + 1)) → ∃ g', X11_layFirsts_L24 m (nI s) (nI (k + 1)) (sIf τ 44 (upd g (B.2.1 (lB L k)) v)) = some (sIf τ 44 g') ∧ ∀ p, p < 8 → g' p = oI (fyk L B nm s p L.1) := fun hq v hv => ih m (k + 1) _ (by omega) (by omega) (fun p hp => by
      unfold upd
      by_cases e : p = B.2.1 (lB L k)
      · subst e; rw [if_pos rfl, hv]
      · rw [if_neg e, fyk_n (fun h => e h.2.1.symm)]; exact hg p hp)
    rw [X11_layFirsts_L24, o 0 (by decide), o 33 (by decide), o 29 (by decide), o 35 (by decide), o 37 (by decide), o 22 (by decide), o 34 (by decide), hL.1, if_neg (nI_ge hkl (by omega)), chk_nI (by omega) (by decide), nI_cl (show k < 2 ^ 31 by omega), hL.2.1 k hkl, chk_nI (by omega) (by decide), nI_cl (show lB L k < 2 ^ 31 by omega), bnd, hB.2.1 _ q1, chk_nI (by omega) (by decide), hL.2.2.2.1 k hkl, nI_1]
    simp only [show (3 : Int32) = nI 3 from rfl, eqI (show lK L k < 2 ^ 31 by omega) (show 3 < 2 ^ 31 by decide)]
    by_cases e1 : lK L k = 3
    · rw [if_pos e1]
      exact skp (fun p h => h.1 e1)
    · rw [if_neg e1, chk_nI (by omega) (by decide), hL.2.2.2.2.2.1 k hkl, chk_nI (by omega) (by decide), chk_nI (by omega) (by decide), nI_cl (show lN_ L k < 2 ^ 31 by omega), nI_cl (show s < 2 ^ 31 by omega), h5 _ q6, h5 _ hs]
      simp only [eqI (show nm (lN_ L k) < 2 ^ 31 by omega) (show nm s < 2 ^ 31 by omega)]
      by_cases e2 : nm (lN_ L k) = nm s
      · have hq : fq L B nm s (B.2.1 (lB L k)) k := ⟨e1, rfl, e2⟩
        rw [if_pos e2, chk_nI (by omega) (by decide), nI_cl (show B.2.1 (lB L k) < 2 ^ 31 by omega), gI_sIf, hg _ (by omega), chk_nI (by omega) (by decide), chk_nI (by omega) (by decide), bnd, hL.2.2.1 k hkl, sI_sIf]
        cases ho : fyk L B nm s (B.2.1 (lB L k)) k with
        | none =>
          rw [if_pos (show oI none = -4 from rfl)]
          exact wrt hq _ (by rw [fyk_y hq, ho]; rfl)
        | some z =>
          have hz := fyk_le k (fun j hj => hyr j (by omega)) z ho
          rw [oI_some]
          simp only [neI4 (show z < 2 ^ 31 by omega), if_false]
          rw [chk_nI (by omega) (by decide), chk_nI (by omega) (by decide)]
          simp only [leI (show z < 2 ^ 31 by omega) (show lY L k < 2 ^ 31 by omega)]
          have hU : fyk L B nm s (B.2.1 (lB L k)) (k + 1) = if z ≤ lY L k then some z else some (lY L k) := by rw [fyk_y hq, ho]; rfl
          by_cases hle : z ≤ lY L k
          · rw [if_pos hle, chk_nI (by omega) (by decide), chk_nI (by omega) (by decide), bnd, sI_sIf]
            exact wrt hq _ (by rw [hU, if_pos hle]; rfl)
          · rw [if_neg hle]
            exact wrt hq _ (by rw [hU, if_neg hle]; rfl)
      · rw [if_neg e2]
        exact skp (fun p h => e2 h.2.2)
theorem m_layFirsts (hB : MB τ B) (wb : WB np B) (hnp : np ≤ 8) (hL : ML τ L) (wl : WL W.1 B L) (wW : WW W) (h5 : ∀ s, s < W.1 → gI τ 22 s = nI (nm s)) {J : Nat → Nat → Bool} (hN : NM J W.1 nm) {s : Nat} (hs : s < W.1) : ∃ g, X11_layFirsts (nI s) τ = some (sIf τ 44 g) ∧ ∀ p, p < 8 → g p = oI (fyk L B nm s p L.1) := by
  have hl := wl.1
  have zr : ∀ d m k g, k + d = 8 → d < m → (∀ p, p < k → g p = -4) → ∃ g', X11_layFirsts_L2 m (nI s) (nI k) (sIf τ 44 g) = X11_layFirsts_L24 FU (nI s) 0 (sIf τ 44 g') ∧ ∀ p, p < 8 → g' p = -4 := by
    intro d
    induction d with
    | zero =>
      intro m k g hk hm hg
      obtain ⟨m, rfl⟩ : ∃ q, m = q + 1 := ⟨m - 1, by omega⟩
      have : k = 8 := by omega
      subst this
      exact ⟨g, by rw [X11_layFirsts_L2, if_pos (by decide)], hg⟩
    | succ d ih =>
      intro m k g hk hm hg
      obtain ⟨m, rfl⟩ : ∃ q, m = q + 1 := ⟨m - 1, by omega⟩
      rw [X11_layFirsts_L2, if_neg (show ¬ (8 : Int32) ≤ nI k from nI_ge (b := 8) (by omega) (by decide)), chk_nI (by omega) (by decide), bnd, nI_cl (by omega), sI_sIf, nI_1]
      exact ih m (k + 1) _ (by omega) (by omega) (fun p hp => by
        unfold upd
        by_cases e : p = k
        · rw [if_pos e]
        · rw [if_neg e]; exact hg p (by omega))
  obtain ⟨g, e1, e2⟩   := zr 8 FU 0 (gI τ 44) rfl (by decide) (fun p hp => by omega)
  rw [sIf_self] at e1
  obtain ⟨g', e3, e4⟩ := m_firstsL hB wb hnp hL wl wW h5 hN hs L.1 FU 0 g (by omega) (by show _ < 1000000; omega) e2
  exact ⟨g', by rw [← e3]; exact e1, e4⟩
theorem eq_first (h : Rel σ τ) (x y : Int32) : Eq2 (pu (X10_first x y σ) σ) (X11_first x y τ) := by
  have h0 := h
  obtain ⟨A, hC, hM, hW⟩ := h
  obtain ⟨hP, hB, hL, hR, hZ, hS, hT, hWd, r, hQ, hU⟩ := hC
  obtain ⟨mP, mB, mL, mR, mZ, mS, mT, mWd, mU, mK⟩ := hM
  obtain ⟨w1, w2, w3, w4, w5, w6, w7, w8, w9, w10⟩ := hW
  have hn := w8.1
  have hnp := w1.1
  unfold X10_first X11_first
  rcases ixc x (aW A).1 (by omega) with ⟨s, hs, rfl⟩ | hx
  · rw [c_word_in hWd.1 hn hs, m_word_in mWd.1 hn hs, Option.bind_some, Option.bind_some, if_neg n10, if_neg n10]
    rcases ixc y (aP A).1 (by omega) with ⟨p, hp, rfl⟩ | hy
    · rw [c_place_in hP.1 hnp hp, m_place_in mP.1 hnp hp, Option.bind_some, Option.bind_some, if_neg n10, if_neg n10]
      obtain ⟨τ', f1, f2, f3, f4, f5⟩ := m_layNames mU w9 mWd w8 w10
      obtain ⟨g, e1, e2⟩ := m_layFirsts (mB.frN f2) w2 hnp (mL.fr f2) w3 w8 f5 w10 hs
      have hsc : ScM τ' (sIf τ' 44 g) := ⟨fun q _ _ h3 => gI_sIfn h3, rfl⟩
      refine Eq2.pt (r := oI (fyk (aL A) (aB A) (aN A) s p (aL A).1)) (τ' := sIf τ' 44 g) ?_ ?_ (h0.fr ScC.rf (f2.sc.tr hsc))
      · rw [chk_nI (by omega) (by decide), nI_cl (by omega), hWd.2.2.2.2.2.2.2 s hs, c_firstYear hB w2 hnp hL w3 hWd w8 w10 hs (by omega)]
        rfl
      · rw [f1, Option.bind_some, e1, Option.bind_some, chk_nI (by omega) (by decide), nI_cl (by omega), gI_sIf, e2 p (by omega)]
    · rw [c_place_out hP.1 hy, m_place_out mP.1 hnp hy, Option.bind_some, Option.bind_some, if_pos rfl, if_pos rfl]
      exact Eq2.pt rfl rfl h0
  · rw [c_word_out hWd.1 hx, m_word_out mWd.1 hn hx, Option.bind_some, Option.bind_some, if_pos rfl, if_pos rfl]
    exact Eq2.pt rfl rfl h0
end First
