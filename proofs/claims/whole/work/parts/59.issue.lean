/-! issue -/
section Issue
variable {σ τ : St} {L : DL} {B : DB} {np : Nat}
def dsF (L : DL) (x z a : Nat) : Nat := if z = x then a else if st L 27 z x = none then a else a + 1
def rnF (L : DL) (nm : Nat → Nat) (x z a : Nat) : Nat := if nm (lN_ L z) = nm (lN_ L x) then a else if st L 27 z x = none then a else a + 1
def lgF (L : DL) (x z a : Nat) : Nat := match st L 27 z x with
  | none => a
  | some p => max a p
theorem fold3 {f g h : Nat → Nat → Nat} : ∀ (l : List Nat) (a b c : Nat), l.foldl (fun (t : Nat × Nat × Nat) z => (f z t.1, g z t.2.1, h z t.2.2)) (a, b, c) = (l.foldl (fun a z => f z a) a, l.foldl (fun a z => g z a) b, l.foldl (fun a z => h z a) c)
  | [], _, _, _ => rfl
  | z :: l, a, b, c => fold3 l (f z a) (g z b) (h z c)
theorem oI_4 {o : Option Nat} (h : ∀ v, o = some v → v < 2 ^ 31) : (oI o = -4) = (o = none) := by
  cases o with
  | none => simp [oI_none]
  | some v => rw [oI_some, neI4 (h v rfl)]; simp
theorem st4 {n x y : Nat} (hn : n ≤ 27) : (oI (st L n x y) = -4) = (st L n x y = none) := oI_4 (fun v h => by have := st_lt h; omega)
theorem c_desc {ns : Nat} (hL : CL σ L) (wl : WL ns B L) (wb : WB np B) {x : Nat} (hx : x < L.1) : X3_descendants (nI x) σ = some (nI ((List.range L.1).foldl (fun a z => dsF L x z a) 0)) := by
  have hl := wl.1
  refine fold0 (fun m k (a : Nat) => X3_descendants_L4 σ m (nI x) (nI a) (nI k)) L.1 (fun z a => dsF L x z a) (fun a => some (nI a)) (by omega) (fun m z a hz => ?_) (fun m a => ?_) 0
  · show X3_descendants_L4 σ (m + 1) (nI x) (nI a) (nI z) = X3_descendants_L4 σ m (nI x) (nI (dsF L x z a)) (nI (z + 1))
    rw [X3_descendants_L4, hL.1, if_neg (nI_ge hz (by omega)), c_stepsUp hL wl wb hz hx, Option.bind_some, nI_1, nI_1]
    simp only [eqI (show z < 2 ^ 31 by omega) (show x < 2 ^ 31 by omega), st4 (Nat.le_refl 27)]
    unfold dsF
    by_cases e : z = x
    · rw [if_pos e, if_pos e]
    · rw [if_neg e, if_neg e]
      by_cases e2 : st L 27 z x = none
      · rw [if_pos e2, if_pos e2]
      · rw [if_neg e2, if_neg e2]
  · show X3_descendants_L4 σ (m + 1) (nI x) (nI a) (nI L.1) = _
    rw [X3_descendants_L4, hL.1, if_pos (nI_le (Nat.le_refl _) (by omega))]
theorem c_ren {W : DW} {U : DU} {nm : Nat → Nat} (hL : CL σ L) (wl : WL W.1 B L) (wb : WB np B) (hWd : CW σ W U nm) (wW : WW W) {J : Nat → Nat → Bool} (hN : NM J W.1 nm) {x : Nat} (hx : x < L.1) : X3_renamedDescendants (nI x) σ = some (nI ((List.range L.1).foldl (fun a z => rnF L nm x z a) 0)) := by
  have hl := wl.1
  have hw := wW.1
  have nx := nm_lt hN ((wl.2 x hx).2.2.2.2.2.1)
  refine fold0 (fun m k (a : Nat) => X3_renamedDescendants_L4 σ m (nI x) (nI a) (nI k)) L.1 (fun z a => rnF L nm x z a) (fun a => some (nI a)) (by omega) (fun m z a hz => ?_) (fun m a => ?_) 0
  · show X3_renamedDescendants_L4 σ (m + 1) (nI x) (nI a) (nI z) = X3_renamedDescendants_L4 σ m (nI x) (nI (rnF L nm x z a)) (nI (z + 1))
    have nz := nm_lt hN ((wl.2 z hz).2.2.2.2.2.1)
    rw [X3_renamedDescendants_L4, hL.1, if_neg (nI_ge hz (by omega)), c_nameLn hL wl hWd wW hz, c_nameLn hL wl hWd wW hx, Option.bind_some, Option.bind_some, c_stepsUp hL wl wb hz hx, Option.bind_some, nI_1, nI_1]
    simp only [eqI (show nm (lN_ L z) < 2 ^ 31 by omega) (show nm (lN_ L x) < 2 ^ 31 by omega), st4 (Nat.le_refl 27)]
    unfold rnF
    by_cases e : nm (lN_ L z) = nm (lN_ L x)
    · rw [if_pos e, if_pos e]
    · rw [if_neg e, if_neg e]
      by_cases e2 : st L 27 z x = none
      · rw [if_pos e2, if_pos e2]
      · rw [if_neg e2, if_neg e2]
  · show X3_renamedDescendants_L4 σ (m + 1) (nI x) (nI a) (nI L.1) = _
    rw [X3_renamedDescendants_L4, hL.1, if_pos (nI_le (Nat.le_refl _) (by omega))]
theorem c_max (x y : Nat) (hx : x < 2 ^ 31) (hy : y < 2 ^ 31) (σ : St) : J9_max_7cf53 (nI x) (nI y) σ = some (nI (max x y)) := by
  unfold J9_max_7cf53
  simp only [ltI hx hy]
  by_cases h : x < y
  · rw [if_pos h, Nat.max_eq_right (by omega)]
  · rw [if_neg h, Nat.max_eq_left (by omega)]
theorem lgF_le {x z a : Nat} (h : a ≤ 27) : lgF L x z a ≤ 27 := by
  unfold lgF
  cases hs : st L 27 z x with
  | none => exact h
  | some p =>
    have := st_lt hs
    exact Nat.max_le.mpr ⟨h, by omega⟩
theorem c_long {ns : Nat} (hL : CL σ L) (wl : WL ns B L) (wb : WB np B) {x : Nat} (hx : x < L.1) : X3_longestDescent (nI x) σ = some (nI ((List.range L.1).foldl (fun a z => lgF L x z a) 0)) := by
  have hl := wl.1
  refine (fold0I (fun m k (a : Nat) => X3_longestDescent_L4 σ m (nI x) (nI a) (nI k)) L.1 (fun z a => lgF L x z a) (fun a => some (nI a)) (fun _ a => a ≤ 27) (by omega) (fun m z a hz ha => ⟨?_, lgF_le ha⟩) (fun m a _ => ?_) 0 (by omega)).1
  · show X3_longestDescent_L4 σ (m + 1) (nI x) (nI a) (nI z) = X3_longestDescent_L4 σ m (nI x) (nI (lgF L x z a)) (nI (z + 1))
    rw [X3_longestDescent_L4, hL.1, if_neg (nI_ge hz (by omega)), c_stepsUp hL wl wb hz hx, Option.bind_some, nI_1]
    unfold lgF
    cases hs : st L 27 z x with
    | none =>
      have : ¬ nI a < -4 := fun h => by
        have h1 := Int32.lt_iff_toInt_lt.mp h
        rw [nI_toInt (by omega)] at h1
        have h2 : (-4 : Int32).toInt = -4 := by decide
        omega
      unfold J9_max_7cf53
      rw [oI_none, if_neg this, Option.bind_some]
    | some p =>
      have := st_lt hs
      rw [oI_some, c_max _ _ (by omega) (by omega), Option.bind_some]
  · show X3_longestDescent_L4 σ (m + 1) (nI x) (nI a) (nI L.1) = _
    rw [X3_longestDescent_L4, hL.1, if_pos (nI_le (Nat.le_refl _) (by omega))]
theorem m_issueL {W : DW} {nm : Nat → Nat} (mL : ML τ L) (wl : WL W.1 B L) (wb : WB np B) (wW : WW W) (h5 : ∀ s, s < W.1 → gI τ 22 s = nI (nm s)) {J : Nat → Nat → Bool} (hN : NM J W.1 nm) {x : Nat} (hx : x < L.1) (y : Int32) : X11_issue_L37 FU (nI x) y 0 0 0 0 τ = if y = 0 then some (nI ((List.range L.1).foldl (fun a z => dsF L x z a) 0), τ) else if y = 1 then some (nI ((List.range L.1).foldl (fun a z => rnF L nm x z a) 0), τ) else some (nI ((List.range L.1).foldl (fun a z => lgF L x z a) 0), τ) := by
  have hl := wl.1
  have hw := wW.1
  have sx := (wl.2 x hx).2.2.2.2.2.1
  have nx := nm_lt hN sx
  have key := (fold0I (fun m k (a : Nat × Nat × Nat) => X11_issue_L37 m (nI x) y (nI a.1) (nI a.2.1) (nI a.2.2) (nI k) τ) L.1 (fun z t => (dsF L x z t.1, rnF L nm x z t.2.1, lgF L x z t.2.2)) (fun t => if y = 0 then some (nI t.1, τ) else if y = 1 then some (nI t.2.1, τ) else some (nI t.2.2, τ)) (fun _ t => t.2.2 ≤ 27) (by omega) (fun m z t hz ht => ⟨?_, lgF_le ht⟩) (fun m t _ => ?_) (0, 0, 0) (by show 0 ≤ 27; omega)).1
  · rw [fold3] at key
    exact key
  · show X11_issue_L37 (m + 1) (nI x) y (nI t.1) (nI t.2.1) (nI t.2.2) (nI z) τ = X11_issue_L37 m (nI x) y (nI (dsF L x z t.1)) (nI (rnF L nm x z t.2.1)) (nI (lgF L x z t.2.2)) (nI (z + 1)) τ
    have sz := (wl.2 z hz).2.2.2.2.2.1
    have nz := nm_lt hN sz
    rw [X11_issue_L37, mL.1, if_neg (nI_ge hz (by omega))]
    simp only [eqI (show z < 2 ^ 31 by omega) (show x < 2 ^ 31 by omega)]
    by_cases e : z = x
    · subst e
      rw [if_pos rfl]
      unfold X11_issue_B64 dsF rnF lgF
      have hs : st L 27 z z = some 0 := by unfold st; rw [if_pos rfl]
      rw [if_pos rfl, if_pos rfl, if_pos rfl, hs, nI_1]
      show _ = X11_issue_L37 m (nI z) y (nI t.1) (nI t.2.1) (nI (max t.2.2 0)) (nI (z + 1)) τ
      rw [Nat.max_zero]
    · rw [if_neg e, m_stepsTo mL wl wb hz hx, Option.bind_some]
      unfold X11_issue_B64
      simp only [st4 (Nat.le_refl 27)]
      unfold dsF rnF lgF
      rw [if_neg e]
      cases hs : st L 27 z x with
      | none =>
        rw [if_pos rfl, if_pos rfl, if_pos rfl, ite_self, nI_1]
      | some p =>
        have hp := st_lt hs
        have e3 : ¬ ((some p : Option Nat) = none) := by simp
        rw [if_neg e3, if_neg e3, if_neg e3, chk_nI (by omega) (by decide), nI_cl (show z < 2 ^ 31 by omega), nI_cl (show x < 2 ^ 31 by omega), mL.2.2.2.2.2.1 z hz, mL.2.2.2.2.2.1 x hx, chk_nI (by omega) (by decide), chk_nI (by omega) (by decide), chk_nI (by omega) (by decide), nI_cl (show lN_ L z < 2 ^ 31 by omega), nI_cl (show lN_ L x < 2 ^ 31 by omega), h5 _ sz, h5 _ sx, oI_some]
        unfold X11_issue_B109
        simp only [eqI (show nm (lN_ L z) < 2 ^ 31 by omega) (show nm (lN_ L x) < 2 ^ 31 by omega), bnd, nI_1, leI (show p < 2 ^ 31 by omega) (show t.2.2 < 2 ^ 31 by omega), Int32.add_zero]
        by_cases hle : p ≤ t.2.2
        · rw [Nat.max_eq_left hle]
          by_cases en : nm (lN_ L z) = nm (lN_ L x)
          · simp only [if_pos en, if_pos hle]
          · simp only [if_neg en, if_pos hle]
        · rw [Nat.max_eq_right (by omega)]
          by_cases en : nm (lN_ L z) = nm (lN_ L x)
          · simp only [if_pos en, if_neg hle]
          · simp only [if_neg en, if_neg hle]
  · show X11_issue_L37 (m + 1) (nI x) y (nI t.1) (nI t.2.1) (nI t.2.2) (nI L.1) τ = _
    rw [X11_issue_L37, mL.1, if_pos (nI_le (Nat.le_refl _) (by omega))]
theorem eq_issue (h : Rel σ τ) (x y : Int32) : Eq2 (pu (X10_issue x y σ) σ) (X11_issue x y τ) := by
  have h0 := h
  obtain ⟨A, hC, hM, hW⟩ := h
  obtain ⟨hP, hB, hL, hR, hZ, hS, hT, hWd, r, hQ, hU⟩ := hC
  obtain ⟨mP, mB, mL, mR, mZ, mS, mT, mWd, mU, mK⟩ := hM
  obtain ⟨w1, w2, w3, w4, w5, w6, w7, w8, w9, w10⟩ := hW
  have hn := w3.1
  unfold X10_issue X11_issue
  rcases ixc x (aL A).1 (by omega) with ⟨i, hi, rfl⟩ | hx
  · rw [c_line_in hL.1 hn hi, m_line_in mL.1 hn hi, Option.bind_some, Option.bind_some, if_neg (by decide), if_neg (by decide), show (0 : Int64) = (0 : Int32).toInt64 from rfl, show (2 : Int64) = (2 : Int32).toInt64 from rfl, in_eq, Option.bind_some]
    obtain ⟨τ', f1, f2, f3, f4, f5⟩ := m_layNames mU w9 mWd w8 w10
    have hrel := h0.fr ScC.rf f2.sc
    rw [f1, Option.bind_some, m_issueL (mL.fr f2) w3 w2 w8 f5 w10 hi, c_desc hL w3 w2 hi, c_ren hL w3 w2 hWd w8 w10 hi, c_long hL w3 w2 hi, Option.bind_some, Option.bind_some, Option.bind_some]
    rcases rngc y 2 2 (by decide) with ⟨j, hj, rfl, c1, c2, c3, c4⟩ | ⟨c1, c2⟩ | ⟨c1, c2, c3, c4⟩
    · simp only [c2, c4, decide_true, Bool.and_self, b2_t, one0, if_false]
      rcases (by omega : j = 0 ∨ j = 1 ∨ j = 2) with rfl | rfl | rfl
      · rw [if_pos (show nI 0 = 0 from rfl)]
        exact Eq2.pt rfl rfl hrel
      · rw [if_neg (show ¬ nI 1 = 0 by decide), if_pos (show nI 1 = 1 from rfl)]
        exact Eq2.pt rfl rfl hrel
      · rw [if_neg (show ¬ nI 2 = 0 by decide), if_neg (show ¬ nI 2 = 1 by decide)]
        exact Eq2.pt rfl rfl hrel
    · have n0 : ¬ y = nI 0 := fun e => by subst e; exact absurd c1 (by decide)
      have n1 : ¬ y = nI (0 + 1) := fun e => by subst e; exact absurd c1 (by decide)
      have n2 : ¬ y = nI (0 + 1 + 1) := fun e => by subst e; exact absurd c1 (by decide)
      simp only [swk, n0, n1, n2, c2, decide_false, Bool.false_and, b2_f, if_true, if_false]
      exact Eq2.pt rfl rfl h0
    · have n0 : ¬ y = nI 0 := fun e => by subst e; exact absurd c3 (by decide)
      have n1 : ¬ y = nI (0 + 1) := fun e => by subst e; exact absurd c3 (by decide)
      have n2 : ¬ y = nI (0 + 1 + 1) := fun e => by subst e; exact absurd c3 (by decide)
      simp only [swk, n0, n1, n2, c4, decide_false, Bool.and_false, b2_f, if_true, if_false]
      exact Eq2.pt rfl rfl h0
  · rw [c_line_out hL.1 hx, m_line_out mL.1 hn hx, Option.bind_some, Option.bind_some, if_pos rfl, if_pos rfl]
    exact Eq2.pt rfl rfl h0
end Issue
