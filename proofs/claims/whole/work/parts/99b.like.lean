/-! like -/
def addK (U : DU) (a b c : Nat) : DU := (uN U, uM U, uF U, uI U, uK U + 1, up_ (uA U) (uK U) a, up_ (uB U) (uK U) b, up_ (uC U) (uK U) c)
def lkP (U : DU) (a b k : Nat) : Bool := (uA U k == a && uB U k == b) || (uA U k == b && uB U k == a)
def lkA (U : DU) (a b : Nat) : Bool := (List.range (uK U)).any (lkP U a b)
theorem fnd_is (U : DU) (a b : Nat) : (fnd U a b).isSome = lkA U a b := by
  unfold fnd lkA
  rw [Option.isSome_map, Bool.eq_iff_iff, List.find?_isSome, List.any_eq_true]
  exact Iff.rfl
theorem find_ext {q q' : Nat → Bool} : ∀ l : List Nat, (∀ k, k ∈ l → q k = q' k) → l.find? q = l.find? q'
  | [], _ => rfl
  | x :: l, h => by
    rw [List.find?_cons, List.find?_cons, h x List.mem_cons_self, find_ext l (fun k hk => h k (List.mem_cons_of_mem _ hk))]
theorem fnd_add {U : DU} {a b c : Nat} (hn : fnd U a b = none) (x y : Nat) : fnd (addK U a b c) x y = if (x = a ∧ y = b) ∨ (x = b ∧ y = a) then some c else fnd U x y := by
  have hold : ((List.range (uK U)).find? fun k => (up_ (uA U) (uK U) a k == x && up_ (uB U) (uK U) b k == y) || (up_ (uA U) (uK U) a k == y && up_ (uB U) (uK U) b k == x)) = ((List.range (uK U)).find? fun k => (uA U k == x && uB U k == y) || (uA U k == y && uB U k == x)) := by
    apply find_ext
    intro k hk
    have hk' := List.mem_range.mp hk
    unfold up_
    rw [if_neg (by omega), if_neg (by omega)]
  have he : fnd (addK U a b c) x y = (((List.range (uK U)).find? fun k => (uA U k == x && uB U k == y) || (uA U k == y && uB U k == x)).or (if ((a == x && b == y) || (a == y && b == x)) = true then some (uK U) else none)).map (up_ (uC U) (uK U) c) := by
    show ((List.range (uK U + 1)).find? fun k => (up_ (uA U) (uK U) a k == x && up_ (uB U) (uK U) b k == y) || (up_ (uA U) (uK U) a k == y && up_ (uB U) (uK U) b k == x)).map (up_ (uC U) (uK U) c) = _
    rw [List.range_succ, List.find?_append, hold]
    congr 2
    have u1 : up_ (uA U) (uK U) a (uK U) = a := by unfold up_; rw [if_pos rfl]
    have u2 : up_ (uB U) (uK U) b (uK U) = b := by unfold up_; rw [if_pos rfl]
    rw [List.find?_singleton, u1, u2]
  rw [he]
  by_cases e : (x = a ∧ y = b) ∨ (x = b ∧ y = a)
  · rw [if_pos e]
    have hnn : fnd U x y = none := by
      rcases e with ⟨rfl, rfl⟩ | ⟨rfl, rfl⟩
      · exact hn
      · rw [fnd_sym]; exact hn
    have h0 : ((List.range (uK U)).find? fun k => (uA U k == x && uB U k == y) || (uA U k == y && uB U k == x)) = none := by
      unfold fnd at hnn
      exact Option.map_eq_none_iff.mp hnn
    rw [h0, Option.none_or, if_pos (by
      rcases e with ⟨rfl, rfl⟩ | ⟨rfl, rfl⟩
      · simp
      · simp)]
    show some (up_ (uC U) (uK U) c (uK U)) = some c
    unfold up_
    rw [if_pos rfl]
  · rw [if_neg e, if_neg (by
      intro h
      apply e
      simp only [Bool.or_eq_true, Bool.and_eq_true, beq_iff_eq] at h
      rcases h with h | h
      · exact Or.inl ⟨h.1.symm, h.2.symm⟩
      · exact Or.inr ⟨h.2.symm, h.1.symm⟩), Option.or_none]
    unfold fnd
    cases hf : ((List.range (uK U)).find? fun k => (uA U k == x && uB U k == y) || (uA U k == y && uB U k == x)) with
    | none => rfl
    | some k =>
      have hk := List.mem_range.mp (List.mem_of_find?_eq_some hf)
      show some (up_ (uC U) (uK U) c k) = some (uC U k)
      unfold up_
      rw [if_neg (by omega)]
section Like
variable {σ τ : St} {T : DT} {ρ p : Nat} {U : DU} {tb tm : Nat}
theorem oC_m1 {U : DU} {a b : Nat} (hW : WUp U p) : (oC (fnd U a b) = -1) = (fnd U a b = none) := by
  cases h : fnd U a b with
  | none => simp [oC]
  | some c =>
    have hc : c ≤ 20 := by
      unfold fnd at h
      rw [Option.map_eq_some_iff] at h
      obtain ⟨k, hk, rfl⟩ := h
      exact (hW.2.2.2.2.1 k (List.mem_range.mp (List.mem_of_find?_eq_some hk))).2.2.2.2.2
    show (nI c = -1) = _
    rw [neI1 (by omega)]
    simp
theorem c_isLk (hU : CU σ ρ U) (hW : WUp U p) {a b : Nat} (ha : a ≤ 26) (hb : b ≤ 26) : X5_isLike ρ (nI a) (nI b) σ = some (b2 (lkA U a b)) := by
  unfold X5_isLike
  rw [mul27, chk_nI (by omega) (by decide), nI_cl (by omega), hU.2.2.2.2 a b (by omega) (by omega), ← fnd_is]
  simp only [oC_m1 hW]
  cases h : fnd U a b with
  | none => rw [if_pos rfl]; rfl
  | some c => rw [if_neg (by simp)]; rfl
theorem c_appL (hr : ρ < 2) (hC : SC σ T ρ U tb) (hW : WUp U p) (hK : uK U < 1000) {a b c : Nat} (ha : a ≤ 26) (hb : b ≤ 26) (hn : lkA U a b = false) : ∃ σ', X5_appendLike ρ (nI a) (nI b) (nI c) σ = some σ' ∧ SC σ' T ρ (addK U a b c) tb ∧ FrG ρ σ σ' ∧ gI σ' 3 = gI σ 3 := by
  obtain ⟨c1, c2, c3, c4, c5⟩ := hC
  obtain ⟨a1, a2, a3, a4, a5⟩ := c3
  have hnn : fnd U a b = none := by
    have := fnd_is U a b
    rw [hn] at this
    cases h : fnd U a b with
    | none => rfl
    | some c => rw [h] at this; cases this
  unfold X5_appendLike
  rw [mul27, chk_nI (by omega) (by decide), nI_cl (by omega), bnd, mul27, chk_nI (by omega) (by decide), nI_cl (by omega), bnd, gI_sIn (by omega), gI_sIn (by omega), a2, nI_1, bnd]
  have hfr : FrG ρ σ (sI (sI (sI σ (16 + ρ) (27 * a + b) (nI c)) (16 + ρ) (27 * b + a) (nI c)) (4 + ρ) 7 (nI (uK U + 1))) := ((FrG.rf.s (Or.inr (by unfold spr; omega))).s (Or.inr (by unfold spr; omega))).s (Or.inr (by unfold spr; omega))
  have h3 : gI (sI (sI (sI σ (16 + ρ) (27 * a + b) (nI c)) (16 + ρ) (27 * b + a) (nI c)) (4 + ρ) 7 (nI (uK U + 1))) 3 = gI σ 3 := by
    rw [gI_sIn (by omega), gI_sIn (by omega), gI_sIn (by omega)]
  refine ⟨_, rfl, ⟨c1.fr (fun q h1 h2 => hfr.1 q (by omega) (by unfold spr; omega)), c2, ⟨?_, ?_, fun j hj => ?_, fun k hk => ?_, fun x y hx hy => ?_⟩, by rw [h3]; exact c4, by rw [h3]; exact c5⟩, hfr, h3⟩
  · rw [gI_sI, if_neg (by omega), gI_sIn (by omega), gI_sIn (by omega)]; exact a1
  · rw [gI_sI, if_pos ⟨rfl, rfl⟩]; rfl
  · rw [gI_sIn (by omega), gI_sIn (by omega), gI_sIn (by omega)]; exact a3 j hj
  · have := a4 k hk
    rw [gI_sIn (by omega), gI_sIn (by omega), gI_sIn (by omega), gI_sIn (by omega), gI_sIn (by omega), gI_sIn (by omega), gI_sIn (by omega), gI_sIn (by omega), gI_sIn (by omega), gI_sIn (by omega), gI_sIn (by omega), gI_sIn (by omega)]; exact this
  · rw [gI_sIn (by omega), gI_sI, gI_sI, fnd_add hnn]
    by_cases e1 : x = b ∧ y = a
    · rw [if_pos ⟨rfl, by rw [e1.1, e1.2]⟩, if_pos (Or.inr e1)]; rfl
    · rw [if_neg (fun h => e1 (by omega))]
      by_cases e2 : x = a ∧ y = b
      · rw [if_pos ⟨rfl, by rw [e2.1, e2.2]⟩, if_pos (Or.inl e2)]; rfl
      · rw [if_neg (fun h => e2 (by omega)), if_neg (fun h => by
          rcases h with h | h
          · exact e2 h
          · exact e1 h)]
        exact a5 x y hx hy
theorem SM.addK (h : SM τ T U tm) {a b c : Nat} : SM (sI (sI (sI (sI τ 16 (uK U) (nI a)) 17 (uK U) (nI b)) 18 (uK U) (nI c)) 0 28 (nI (uK U + 1))) T (addK U a b c) tm := by
  obtain ⟨b1, b2, b3, b4, a1, a2, a3, a4, a5, a6⟩ := h
  refine ⟨b1, b2, b3, b4, a1, rfl, a3, a4, a5, fun k hk => ?_⟩
  have hk' : k < uK U + 1 := hk
  show gI (sI τ 16 (uK U) (nI a)) 16 k = nI (if k = uK U then a else uA U k) ∧ gI (sI τ 17 (uK U) (nI b)) 17 k = nI (if k = uK U then b else uB U k) ∧ gI (sI τ 18 (uK U) (nI c)) 18 k = nI (if k = uK U then c else uC U k)
  rw [gI_sI, gI_sI, gI_sI]
  by_cases e : k = uK U
  · simp [e]
  · simp only [e, and_false, if_false]
    exact a6 k (by omega)
theorem ps_B137 {f : Nat} (h7 : gI τ 0 7 = nI f) (h1 : 1 ≤ f) (h5 : f ≤ 5) (a b : Int32) : X11_readLike_B137 a b τ = some τ := by
  obtain ⟨n1, n2⟩ := nI_n0 h1 h5
  unfold X11_readLike_B137
  rw [m_next1 (by rw [h7]; exact n2), Option.bind_some, ps_num h7 h1 h5, Option.bind_some, m_next1 (by rw [h7]; exact n2), Option.bind_some, h7, if_neg n1]
theorem ps_L71 {f : Nat} (h7 : gI τ 0 7 = nI f) (h1 : 1 ≤ f) (h5 : f ≤ 5) (m : Nat) (a b k : Int32) : X11_readLike_L71 (m + 1) a b k τ = some τ := by
  obtain ⟨n1, n2⟩ := nI_n0 h1 h5
  rw [X11_readLike_L71, h7, if_neg n1, ps_B137 h7 h1 h5, ite_self]
theorem ps_B51 {f : Nat} (h7 : gI τ 0 7 = nI f) (h1 : 1 ≤ f) (h5 : f ≤ 5) (a b : Int32) : X11_readLike_B51 a b τ = some τ := by
  obtain ⟨n1, n2⟩ := nI_n0 h1 h5
  obtain ⟨z, hz⟩ : ∃ n, FU = n + 1 := ⟨999999, rfl⟩
  unfold X11_readLike_B51
  rw [h7, if_neg n1, hz, ps_L71 h7 h1 h5]
theorem ps_B25 {f : Nat} (h7 : gI τ 0 7 = nI f) (h1 : 1 ≤ f) (h5 : f ≤ 5) (a : Int32) : X11_readLike_B25 a τ = some τ := by
  obtain ⟨n1, n2⟩ := nI_n0 h1 h5
  unfold X11_readLike_B25
  rw [m_next1 (by rw [h7]; exact n2), Option.bind_some, ps_want h7 h1 h5, Option.bind_some, h7, if_neg n1, ps_B51 h7 h1 h5]
theorem m_L71 (hM : SM τ T U tm) (hW : WUp U p) (hK : uK U ≤ 40) (h7 : gI τ 0 7 = 0) {a b : Nat} (ha : a ≤ 26) (hb : b ≤ 26) : ∀ d m k, k + d = uK U → d + 1 < m → X11_readLike_L71 m (nI a) (nI b) (nI k) τ = if ((List.range' k d).any (lkP U a b)) = true then some (sIf τ 0 (upd (upd (gI τ 0) 7 (nI 4)) 8 (gI τ 0 10))) else X11_readLike_B137 (nI a) (nI b) τ := by
  intro d
  induction d with
  | zero =>
    intro m k hk hm
    obtain ⟨m, rfl⟩ : ∃ q, m = q + 1 := ⟨m - 1, by omega⟩
    have : k = uK U := by omega
    subst this
    rw [X11_readLike_L71, hM.2.2.2.2.2.1, if_pos (nI_le (Nat.le_refl _) (by omega)), if_neg (by simp)]
  | succ d ih =>
    intro m k hk hm
    obtain ⟨m, rfl⟩ : ∃ q, m = q + 1 := ⟨m - 1, by omega⟩
    have hkk : k < uK U := by omega
    have ih' := ih m (k + 1) (by omega) (by omega)
    obtain ⟨c1, c2, c3, c4, c5, c6⟩ := hW.2.2.2.2.1 k hkk
    obtain ⟨g1, g2, g3⟩ := hM.2.2.2.2.2.2.2.2.2 k hkk
    obtain ⟨m', rfl⟩ : ∃ q, m = q + 1 := ⟨m - 1, by omega⟩
    have hfl : X11_readLike_L71 (m' + 1) (nI a) (nI b) (nI (k + 1)) (sIf τ 0 (upd (upd (gI τ 0) 7 (nI 4)) 8 (gI τ 0 10))) = some (sIf τ 0 (upd (upd (gI τ 0) 7 (nI 4)) 8 (gI τ 0 10))) := ps_L71 (f := 4) (by rw [gI_sIf]; rfl) (by decide) (by decide) m' _ _ _
    rw [X11_readLike_L71, hM.2.2.2.2.2.1, if_neg (nI_ge hkk (by omega)), h7, if_pos rfl]
    unfold X11_readLike_B106
    rw [chk_nI (show k < 40 by omega) (by decide), chk_nI (show k < 40 by omega) (by decide), chk_nI (show k < 40 by omega) (by decide), chk_nI (show k < 40 by omega) (by decide), nI_cl (show k < 2 ^ 31 by omega), g1, g2, show (4 : Int32) = nI 4 from rfl, m_fail0 h7, Option.bind_some, nI_1, hfl, ih', List.range'_succ, List.any_cons]
    simp only [eqI (show uA U k < 2 ^ 31 by omega) (show a < 2 ^ 31 by omega), eqI (show uA U k < 2 ^ 31 by omega) (show b < 2 ^ 31 by omega), eqI (show uB U k < 2 ^ 31 by omega) (show a < 2 ^ 31 by omega), eqI (show uB U k < 2 ^ 31 by omega) (show b < 2 ^ 31 by omega)]
    by_cases e : lkP U a b k = true
    · rw [e, Bool.true_or, if_pos rfl]
      have e' := e
      unfold lkP at e'
      simp only [Bool.or_eq_true, Bool.and_eq_true, beq_iff_eq] at e'
      by_cases q1 : uA U k = a
      · rw [if_pos q1]
        by_cases q2 : uB U k = b
        · rw [if_pos q2]
        · rw [if_neg q2, if_pos (by omega), if_pos (by omega)]
      · rw [if_neg q1, if_pos (by omega), if_pos (by omega)]
    · have e' : ¬ ((uA U k = a ∧ uB U k = b) ∨ (uA U k = b ∧ uB U k = a)) := fun h => e (by
        unfold lkP
        simp only [Bool.or_eq_true, Bool.and_eq_true, beq_iff_eq]
        exact h)
      rw [Bool.not_eq_true] at e
      rw [e, Bool.false_or]
      have hB : (if uA U k = b then (if uB U k = a then some (sIf τ 0 (upd (upd (gI τ 0) 7 (nI 4)) 8 (gI τ 0 10))) else (if ((List.range' (k + 1) d).any (lkP U a b)) = true then some (sIf τ 0 (upd (upd (gI τ 0) 7 (nI 4)) 8 (gI τ 0 10))) else X11_readLike_B137 (nI a) (nI b) τ)) else (if ((List.range' (k + 1) d).any (lkP U a b)) = true then some (sIf τ 0 (upd (upd (gI τ 0) 7 (nI 4)) 8 (gI τ 0 10))) else X11_readLike_B137 (nI a) (nI b) τ)) = (if ((List.range' (k + 1) d).any (lkP U a b)) = true then some (sIf τ 0 (upd (upd (gI τ 0) 7 (nI 4)) 8 (gI τ 0 10))) else X11_readLike_B137 (nI a) (nI b) τ) := by
        by_cases q3 : uA U k = b
        · rw [if_pos q3, if_neg (by omega)]
        · rw [if_neg q3]
      by_cases q1 : uA U k = a
      · rw [if_pos q1, if_neg (by omega)]
        exact hB
      · rw [if_neg q1]
        exact hB
end Like
