/-! the class settles all, and names all -/
section Follow
variable {σ : St} {U : DU} {W : DW} {r : Nat}
theorem c_settle (hU : CU σ r U) (wU : WU U) (wW : WW W) (hr : r < 2) (hq : gR σ 18 5 = r) {s : Nat} (hs : s < W.1) (h : CWk σ W U s W.1) : ∃ σ', X9_settle (nI s) σ = some σ' ∧ FrS σ σ' ∧ CWk σ' W U (s + 1) W.1 := by
  have hn := wW.1
  obtain ⟨g1, g2, g3⟩ := wW.2.1 s hs
  obtain ⟨h1, h2, h3, h4, h5, h6⟩ := h
  have hl20 := sw_len wU wW hs
  have e0 := c_hear hU wU hr hq (show s < 16 by omega) g3 g2 (h2 s hs)
  unfold X9_settle
  rw [e0, Option.bind_some, chk_nI (by omega) (by decide), bnd, nI_cl (by omega)]
  have hU2 : CU (sI (hrd σ s (snd U (W.2 s))) 20 s ((1 : Int32) <<< (nI s &&& 31))) r U := hU.fr hr (fun q _ _ => by rw [gI_sIn (by omega), hrd_o (by omega) (by omega)])
  have hS : ∀ t, t ≤ s → sndC (sI (hrd σ s (snd U (W.2 s))) 20 s ((1 : Int32) <<< (nI s &&& 31))) t (snd U (W.2 t)) ∧ (snd U (W.2 t)).length ≤ 20 ∧ LTR (snd U (W.2 t)) := fun t ht => by
    refine ⟨?_, sw_len wU wW (by omega)⟩
    unfold sndC
    rw [gI_sIn (by decide), gI_sIn (by decide), hrd_22, hrd_23]
    by_cases e : t = s
    · subst e
      exact ⟨upd_at _ _ _, fun i hi => row_in hi⟩
    · obtain ⟨a1, a2⟩ := h3 t (by omega)
      have := (sw_len wU wW (show t < W.1 by omega)).1
      exact ⟨by unfold upd; rw [if_neg e]; exact a1, fun i hi => by rw [row_out (by omega)]; exact a2 i hi⟩
  obtain ⟨σ', e1, i1, i2, i3, i4, i5, i6, i7, i8⟩ := c_settleL (W := W) hU2 wU hr (by rw [gR_sI, hrd_R]; exact hq) (show s < 16 by omega) hS s FU 0 _ (by omega) (by show _ < 1000000; omega) ⟨fun _ _ _ _ => rfl, rfl, rfl, fun p q hp hq => by
      rw [gI_sIn (by decide), hrd_o (by decide) (by decide)]; exact h4 p q hp hq, fun q hq => by
      rw [gI_sIn (by decide), hrd_o (by decide) (by decide)]; exact h5 q hq, fun q hq => by omega, fun p hp => by
      rw [if_neg (by omega), gI_sI, if_neg (fun h => by omega), hrd_o (by decide) (by decide)]; exact h6 p hp, by
      rw [gI_at, one_shl32 s (by omega), bs_one (show s < s + 1 by omega)]
      congr 1
      refine bs_ext fun k _ => ?_
      simp⟩
  refine ⟨σ', e1, ⟨fun q q1 q2 q3 q4 q5 => ?_, ?_, ?_⟩, ?_, ?_, ?_, ?_, i5, ?_⟩
  · rw [i1 q q1 q4 q5, gI_sIn q1, hrd_o q2 q3]
  · rw [i2]; rfl
  · rw [i3]; rfl
  · rw [i1 18 (by decide) (by decide) (by decide), gI_sIn (by decide), hrd_o (by decide) (by decide)]; exact h1
  · rw [i2]; exact h2
  · intro t ht
    unfold sndC
    rw [i1 22 (by decide) (by decide) (by decide), i1 23 (by decide) (by decide) (by decide)]
    exact (hS t (by omega)).1
  · intro p q hp hq
    by_cases e1 : p = s
    · subst e1
      by_cases e2 : q = p
      · subst e2
        have := i5 q (by omega)
        rw [show 16 * q + q = 17 * q by omega, this]
        unfold ap
        rw [if_pos rfl]; rfl
      · exact (i6 q (by omega)).1
    · by_cases e2 : q = s
      · subst e2
        exact (i6 p (by omega)).2
      · exact i4 p q (by omega) (by omega)
  · intro p hp
    by_cases e1 : p = s
    · subst e1
      rw [i8]
      congr 1
      refine bs_ext fun k hk => ?_
      by_cases e : k = p
      · subst e; simp [jn_self]
      · simp [e, show k < p by omega]
    · rw [i7 p (by omega), if_pos (by omega)]
theorem CWk.done {nm : Nat → Nat} {f : Nat → Int32} (h : CWk σ W U W.1 W.1) (hf : ∀ t, t < W.1 → f t = nI (nm t)) : CW (sIf σ 21 f) W U nm := by
  obtain ⟨h1, h2, h3, h4, h5, h6⟩ := h
  unfold CW
  rw [gI_sIfn (by decide), gI_sIfn (by decide), gI_sIfn (by decide), gI_sIfn (by decide), gI_sIfn (by decide), gI_sIf]
  exact ⟨h1, h2, fun s hs => (h3 s hs).1, fun s i hs hi => (h3 s hs).2 i hi, h4, h5, h6, hf⟩
theorem FrS.tr {σ σ' σ'' : St} (h : FrS σ σ') (h' : FrS σ' σ'') : FrS σ σ'' := ⟨fun q a b c d e => (h'.1 q a b c d e).trans (h.1 q a b c d e), h'.2.1.trans h.2.1, h'.2.2.trans h.2.2⟩
theorem FrS.cu {σ' : St} (h : FrS σ σ') (hr : r < 2) (hU : CU σ r U) : CU σ' r U := hU.fr hr (fun q _ _ => h.1 q (by omega) (by omega) (by omega) (by omega) (by omega))
theorem c_followL (hU : CU σ r U) (wU : WU U) (wW : WW W) (hr : r < 2) (hq : gR σ 18 5 = r) {nm : Nat → Nat} (hN : NM (jn U W) W.1 nm) (t1 : Nat) : ∀ d m s σ', s + d = W.1 → d < m → FrS σ σ' → CWk σ' W U s W.1 → ∃ σ'' f, X9_follow_L7 t1 m (nI s) σ' = some (sIf σ'' 21 f) ∧ FrS σ σ'' ∧ CW (sIf σ'' 21 f) W U nm := by
  have hn := wW.1
  intro d
  induction d with
  | zero =>
    intro m s σ' hs hm hF h
    obtain ⟨m, rfl⟩ : ∃ q, m = q + 1 := ⟨m - 1, by omega⟩
    have : s = W.1 := by omega
    subst this
    obtain ⟨f, e1, e2⟩ := c_nameAll (jn_sym U W) hn h.1 h.2.2.2.2.2 hN
    exact ⟨σ', f, by rw [X9_follow_L7, h.1, if_pos (nI_le (Nat.le_refl _) (by omega)), e1, Option.bind_some], hF, h.done e2⟩
  | succ d ih =>
    intro m s σ' hs hm hF h
    obtain ⟨m, rfl⟩ : ∃ q, m = q + 1 := ⟨m - 1, by omega⟩
    obtain ⟨σ1, e1, e2, e3⟩ := c_settle (hF.cu hr hU) wU wW hr (by rw [hF.2.2]; exact hq) (show s < W.1 by omega) h
    rw [X9_follow_L7, h.1, if_neg (nI_ge (by omega) (by omega)), e1, Option.bind_some, nI_1]
    exact ih m (s + 1) σ1 (by omega) (by omega) (hF.tr e2) e3
/-- other rules, the same spellings -/
theorem c_follow (hr : r < 2) (hU : CU σ r U) (wU : WU U) (wW : WW W) {nm : Nat → Nat} (hN : NM (jn U W) W.1 nm) (h1 : gI σ 18 1 = nI W.1) (h2 : ∀ t, t < W.1 → gJ σ 19 t = lN (pk (W.2 t))) (h5 : ∀ q, q < 16 → gI σ 24 (17 * q) = 0) : ∃ σ'' f, X9_follow r σ = some (sIf σ'' 21 f) ∧ FrS (sR σ 18 5 r) σ'' ∧ CW (sIf σ'' 21 f) W U nm := by
  have hn := wW.1
  unfold X9_follow
  rw [bnd]
  exact c_followL (σ := sR σ 18 5 r) (hU.fr hr (fun _ _ _ => rfl)) wU wW hr (by rw [gR_sR, if_pos ⟨rfl, rfl⟩]) hN r W.1 FU 0 _ (by omega) (by show _ < 1000000; omega) ⟨fun _ _ _ _ _ _ => rfl, rfl, rfl⟩ ⟨h1, h2, fun t ht => by omega, fun p q hp => by omega, h5, fun p hp => by omega⟩
end Follow
