/-! chain: both -/
section Chain3
variable {σ τ : St}
def chR (U : DU) (W : DW) (nm f : Nat → Nat) (s t j : Nat) : Int32 := if nm s = nm t then (if j = 0 then nI (f s % 32 + 1) else if j = 1 then nI (f s / 32) else if j - 10 < f s % 32 + 1 then nI (wkN U W f (j - 10) s) else -4) else -4
theorem c_B57 {U : DU} {W : DW} {nm : Nat → Nat} {J : Nat → Nat → Bool} (hW : CW σ W U nm) (wW : WW W) (wU : WU U) (hN : NM (jn U W) W.1 nm) {s t j : Nat} (hs : s < W.1) (ht : t < W.1) (m : Bool) (hj : (m = false ∧ j ≤ 1) ∨ (m = true ∧ 10 ≤ j ∧ j ≤ 25)) {f : Nat → Nat} (hf : SET U W t f) (hfr : ∃ r, f = it (edg U W) (wgt U W) W.1 (v0 t) r) : ∃ σ', X10_chain_B57 (nI s) (nI t) (nI j) (b2 m) σ = some (chR U W nm f s t j, σ') ∧ ScC σ σ' := by
  have h16 := wW.1
  have hINF := INF_eq
  have n1 := nm_lt hN hs
  have n2 := nm_lt hN ht
  unfold X10_chain_B57 chR
  rw [chk_nI (by omega) (by decide), chk_nI (by omega) (by decide), nI_cl (show s < 2 ^ 31 by omega), nI_cl (show t < 2 ^ 31 by omega), hW.2.2.2.2.2.2.2 s hs, hW.2.2.2.2.2.2.2 t ht]
  simp only [eqI (show nm s < 2 ^ 31 by omega) (show nm t < 2 ^ 31 by omega)]
  by_cases e : nm s = nm t
  · rw [if_pos e, if_pos e]
    obtain ⟨g, r, e1, e2, e3⟩ := c_walkTo hW wW wU ht
    obtain ⟨r', er⟩ := hfr
    have hfe : it (edg U W) (wgt U W) W.1 (v0 t) r = f := by
      rw [er]
      exact it_un e3 (by rw [← er]; exact hf.2)
    rw [hfe] at e2
    have hsI : f s ≠ INF := by
      obtain ⟨k, hk⟩ := (nm_con hN hs ht).mp e
      exact hf.fin wU wW ht k s hs hk
    obtain ⟨f1, f2⟩ := fin15 wU wW ht hf.1 hs hsI
    have hsc : ScC σ (sIf σ 25 g) := ⟨fun q _ h2 _ _ => gI_sIfn h2, fun _ _ => rfl, rfl, rfl⟩
    have hlen : X9_chainLength (nI s) (sIf σ 25 g) = some (nI (f s % 32 + 1)) := by
      unfold X9_chainLength
      rw [chk_nI (by omega) (by decide), nI_cl (by omega), gI_sIf, e2 s hs, show (32 : Int32) = nI 32 from rfl, pk_rem (by omega) (by decide) (by decide), nI_1]
    have hsum : X9_chainSum (nI s) (sIf σ 25 g) = some (nI (f s / 32)) := by
      unfold X9_chainSum
      rw [chk_nI (by omega) (by decide), nI_cl (by omega), gI_sIf, e2 s hs, show (32 : Int32) = nI 32 from rfl, pk_div (by omega) (by decide) (by decide)]
    rw [e1, Option.bind_some]
    rcases hj with ⟨rfl, hj⟩ | ⟨rfl, hj1, hj2⟩
    · rw [if_pos (show b2 false = 0 from rfl)]
      rcases (by omega : j = 0 ∨ j = 1) with rfl | rfl
      · rw [if_pos (show nI 0 = 0 from rfl), hlen, Option.bind_some, if_pos rfl]
        exact ⟨_, rfl, hsc⟩
      · rw [if_neg (show ¬ nI 1 = 0 by decide), hsum, Option.bind_some, if_neg (by decide), if_pos rfl]
        exact ⟨_, rfl, hsc⟩
    · rw [if_neg (show ¬ b2 true = 0 from n10), if_neg (by omega), if_neg (by omega), show nI j - 10 = nI (j - 10) from subI (b := 10) hj1]
      unfold X9_chainMember
      rw [hlen, Option.bind_some]
      simp only [ltI (show j - 10 < 2 ^ 31 by omega) (show f s % 32 + 1 < 2 ^ 31 by omega)]
      by_cases el : j - 10 < f s % 32 + 1
      · have h17 := c_L17 hW wW wU ht hf e2 (ix := j - 10) (by omega) (j - 10) FU 0 s (by omega) (by show _ < 1000000; omega) hs
        rw [if_pos el, if_pos el, show (0 : Int32) = nI 0 from rfl, h17, Option.bind_some]
        exact ⟨_, rfl, hsc⟩
      · rw [if_neg el, if_neg el, Option.bind_some]
        exact ⟨_, rfl, hsc⟩
  · rw [if_neg e, if_neg e]
    exact ⟨σ, rfl, ScC.rf⟩
theorem m_B42 {U : DU} {W : DW} {nm : Nat → Nat} (mU : MU τ U) (wU : WU U) (mW : MW τ W) (wW : WW W) (hN : NM (jn U W) W.1 nm) {s t j : Nat} (hs : s < W.1) (ht : t < W.1) (hj : j ≤ 1 ∨ (10 ≤ j ∧ j ≤ 25)) : ∃ f, SET U W t f ∧ (∃ r, f = it (edg U W) (wgt U W) W.1 (v0 t) r) ∧ ∃ τ', X11_chain_B42 (nI s) (nI t) (nI j) τ = some (chR U W nm f s t j, τ') ∧ ScM τ τ' := by
  have h16 := wW.1
  have hINF := INF_eq
  obtain ⟨τ1, f1, f2, f3, f4, f5⟩ := m_layNames mU wU mW wW hN
  have hMC : MC τ1 U W := ⟨by rw [f2.1 0 (by omega)]; exact mW.1, by rw [f2.1 7 (by omega)]; exact mU.2.2.1 2 (by decide), f4⟩
  obtain ⟨gs, gm, r, e1, e2, e3⟩ := m_layChains hMC wU wW ht
  obtain ⟨f, ef⟩ : ∃ f, f = it (edg U W) (wgt U W) W.1 (v0 t) r := ⟨_, rfl⟩
  rw [← ef] at e2 e3
  have hI : INV (edg U W) (wgt U W) W.1 t f := by
    rw [ef]
    exact (v0_inv).im (edg_ok wU wW ht) r
  have hSET : SET U W t f := ⟨hI, e3⟩
  have hsc : ScM τ (two τ1 gs gm) := f2.sc.tr ⟨fun q _ h2 _ => two_o τ1 gs gm (by omega) (by omega), rfl⟩
  refine ⟨f, hSET, ⟨r, ef⟩, two τ1 gs gm, ?_, hsc⟩
  unfold X11_chain_B42
  rw [f1, Option.bind_some, e1, Option.bind_some, chk_nI (by omega) (by decide), chk_nI (by omega) (by decide), chk_nI (by omega) (by decide), nI_cl (show s < 2 ^ 31 by omega), two_24, two_25]
  unfold chR
  have hsI := hI.2.1 s hs
  rcases e2 s hs with ⟨s1, s2, s3⟩ | ⟨s1, s2, s3⟩
  · have hne : ¬ nm s = nm t := fun e => by
      obtain ⟨k, hk⟩ := (nm_con hN hs ht).mp e
      exact hSET.fin wU wW ht k s hs hk s1
    rw [s2, if_pos (show nI 1000000 = 1000000 from rfl), if_neg hne]
  · have hfi : f s ≠ INF := by omega
    have heq : nm s = nm t := (nm_con hN hs ht).mpr (hSET.con (f s) s (Nat.le_refl _) hs hfi)
    obtain ⟨q1, q2⟩ := fin15 wU wW ht hI hs hfi
    have hnm : ¬ nI (f s / 32) = 1000000 := by
      rw [show (1000000 : Int32) = nI 1000000 from rfl, eqI (by omega) (by decide)]
      omega
    rw [s2, s3, if_neg hnm, if_pos heq]
    rcases hj with hj | ⟨hj1, hj2⟩
    · rw [if_neg (show ¬ (10 : Int32) ≤ nI j from nI_ge (b := 10) (by omega) (by decide))]
      rcases (by omega : j = 0 ∨ j = 1) with rfl | rfl
      · rw [if_pos (show nI 0 = 0 from rfl), if_pos rfl]
      · rw [if_neg (show ¬ nI 1 = 0 by decide), if_neg (by decide), if_pos rfl, chk_nI (show s < 16 by omega) (by decide)]
    · rw [if_pos (show (10 : Int32) ≤ nI j from nI_le (a := 10) hj1 (by omega)), if_neg (show ¬ j = 0 by omega), if_neg (show ¬ j = 1 by omega), show nI j - 10 = nI (j - 10) from subI (b := 10) hj1]
      simp only [ltI (show j - 10 < 2 ^ 31 by omega) (show f s % 32 + 1 < 2 ^ 31 by omega)]
      by_cases el : j - 10 < f s % 32 + 1
      · have h115 := m_L115 hMC wU wW ht hSET e2 (ix := j - 10) (by omega) (j - 10) FU 0 s (by omega) (by show _ < 1000000; omega) hs hfi (by omega)
        rw [show 10 + (j - 10) = j by omega] at h115
        rw [if_pos el, if_pos el]
        exact h115
      · rw [if_neg el, if_neg el]
theorem eq_chain (h : Rel σ τ) (x y z : Int32) : Eq2 (X10_chain x y z σ) (X11_chain x y z τ) := by
  have hA := h
  have h0 := h
  obtain ⟨A, hC, hM, hW⟩ := h
  obtain ⟨hP, hB, hL, hR, hZ, hS, hT, hWd, r, hQ, hU⟩ := hC
  obtain ⟨mP, mB, mL, mR, mZ, mS, mT, mWd, mU, mK⟩ := hM
  obtain ⟨w1, w2, w3, w4, w5, w6, w7, w8, w9, w10⟩ := hW
  have hn := w8.1
  have hin := in_eq z 0 1 τ
  have hin2 := in_eq z 10 25 τ
  have bad : ∀ s0, (x < 0 ∨ nI (aW A).1 ≤ x) ∨ (y < 0 ∨ nI (aW A).1 ≤ y) → X10_chain_B17 x y z s0 σ = some (-1, σ) := fun s0 hb => by
    unfold X10_chain_B17
    rcases ixc x (aW A).1 (by omega) with ⟨s, hs, rfl⟩ | hx
    · rw [c_word_in hWd.1 hn hs, Option.bind_some, if_neg n10]
      rcases hb with hb | hb
      · exfalso
        rcases hb with hb | hb
        · exact absurd hb (nI_pos (by omega))
        · exact absurd hb (nI_ge hs (by omega))
      · rw [c_word_out hWd.1 hb, Option.bind_some, if_pos rfl]
    · rw [c_word_out hWd.1 hx, Option.bind_some, if_pos rfl]
  have badc : (x < 0 ∨ nI (aW A).1 ≤ x) ∨ (y < 0 ∨ nI (aW A).1 ≤ y) → X10_chain x y z σ = some (-1, σ) := fun hb => by
    unfold X10_chain
    rw [bad _ hb, bad _ hb]
    split
    · rfl
    · split <;> rfl
  unfold X11_chain
  rw [show (0 : Int64) = (0 : Int32).toInt64 from rfl, show (1 : Int64) = (1 : Int32).toInt64 from rfl, show (10 : Int64) = (10 : Int32).toInt64 from rfl, show (25 : Int64) = (25 : Int32).toInt64 from rfl, hin, hin2, Option.bind_some, Option.bind_some]
  rcases ixc x (aW A).1 (by omega) with ⟨s, hs, rfl⟩ | hx
  · rw [m_word_in mWd.1 hn hs, Option.bind_some, if_neg n10]
    rcases ixc y (aW A).1 (by omega) with ⟨t, ht, rfl⟩ | hy
    · rw [m_word_in mWd.1 hn ht, Option.bind_some, if_neg n10]
      have b17 : ∀ s0, X10_chain_B17 (nI s) (nI t) z s0 σ = if z = 0 then X10_chain_B57 (nI s) (nI t) z s0 σ else if z = 1 then X10_chain_B57 (nI s) (nI t) z s0 σ else if s0 = 0 then some (-1, σ) else X10_chain_B57 (nI s) (nI t) z s0 σ := fun s0 => by
        unfold X10_chain_B17
        rw [c_word_in hWd.1 hn hs, c_word_in hWd.1 hn ht, Option.bind_some, Option.bind_some, if_neg n10, if_neg n10]
      unfold X10_chain
      rw [b17, b17]
      have fin : ∀ j m, z = nI j → ((m = false ∧ j ≤ 1) ∨ (m = true ∧ 10 ≤ j ∧ j ≤ 25)) → Eq2 (X10_chain_B57 (nI s) (nI t) z (b2 m) σ) (X11_chain_B42 (nI s) (nI t) z τ) := fun j m hz hj => by
        obtain ⟨f, q1, q2, τ', q3, q4⟩ := m_B42 mU w9 mWd w8 w10 hs ht (j := j) (by omega)
        obtain ⟨σ', p1, p2⟩ := c_B57 (J := jn (aU A) (aW A)) hWd w8 w9 w10 hs ht m hj q1 q2
        rw [hz, p1, q3]
        exact Eq2.of rfl rfl (hA.fr p2 q4)
      rcases rngc z 25 25 (by decide) with ⟨j, hj, rfl, c1, c2, c3, c4⟩ | ⟨c1, c2⟩ | ⟨c1, c2, c3, c4⟩
      · rcases (by omega : j = 0 ∨ j = 1 ∨ (2 ≤ j ∧ j ≤ 9) ∨ 10 ≤ j) with rfl | rfl | hj' | hj'
        · rw [if_pos (show nI 0 < (10 : Int32) by decide), if_pos (show nI 0 = 0 from rfl), if_neg (show ¬ b2 (decide (0 ≤ nI 0) && decide (nI 0 ≤ 1)) = 0 by decide)]
          exact fin 0 false rfl (Or.inl ⟨rfl, by decide⟩)
        · rw [if_pos (show nI 1 < (10 : Int32) by decide), if_neg (show ¬ nI 1 = 0 by decide), if_pos (show nI 1 = 1 from rfl), if_neg (show ¬ b2 (decide (0 ≤ nI 1) && decide (nI 1 ≤ 1)) = 0 by decide)]
          exact fin 1 false rfl (Or.inl ⟨rfl, by decide⟩)
        · have z0 : ¬ nI j = 0 := fun h => by have := (nI_eq (b := 0) (by omega) (by decide)).mp h; omega
          have z1 : ¬ nI j = 1 := fun h => by have := (nI_eq (b := 1) (by omega) (by decide)).mp h; omega
          have z2 : ¬ nI j ≤ 1 := nI_ge (a := 1) (by omega) (by omega)
          have z3 : ¬ (10 : Int32) ≤ nI j := nI_ge (b := 10) (by omega) (by decide)
          rw [if_pos (show nI j < (10 : Int32) from nI_lt (b := 10) (by omega) (by decide)), if_neg z0, if_neg z1, if_pos rfl]
          simp only [z2, z3, decide_false, Bool.and_false, Bool.false_and, b2_f, if_true]
          exact Eq2.same h0 _
        · have z0 : ¬ nI j = 0 := fun h => by have := (nI_eq (b := 0) (by omega) (by decide)).mp h; omega
          have z1 : ¬ nI j = 1 := fun h => by have := (nI_eq (b := 1) (by omega) (by decide)).mp h; omega
          have z2 : ¬ nI j ≤ 1 := nI_ge (a := 1) (by omega) (by omega)
          have z3 : (10 : Int32) ≤ nI j := nI_le (a := 10) hj' (by omega)
          have z4 : ¬ (26 : Int32) ≤ nI j := nI_ge (b := 26) (by omega) (by decide)
          rw [if_neg (Int32.not_lt.mpr z3), if_neg z4, if_neg z0, if_neg z1, if_neg n10]
          simp only [z2, z3, c4, decide_true, decide_false, Bool.and_false, Bool.and_self, b2_f, b2_t, one0, if_true, if_false]
          exact fin j true rfl (Or.inr ⟨rfl, hj', hj⟩)
      · have z10 : z < (10 : Int32) := by
          have h1 := Int32.lt_iff_toInt_lt.mp c1
          apply Int32.lt_iff_toInt_lt.mpr
          have : (0 : Int32).toInt = 0 := by decide
          have : (10 : Int32).toInt = 10 := by decide
          omega
        have z0 : ¬ z = 0 := fun e => by subst e; exact absurd c1 (by decide)
        have z1 : ¬ z = 1 := fun e => by subst e; exact absurd c1 (by decide)
        have z3 : ¬ (10 : Int32) ≤ z := by rw [Int32.not_le]; exact z10
        rw [if_pos z10, if_neg z0, if_neg z1, if_pos rfl]
        simp only [c2, z3, decide_false, Bool.false_and, b2_f, if_true]
        exact Eq2.same h0 _
      · have z10 : ¬ z < (10 : Int32) := fun h => by
          have h1 := Int32.lt_iff_toInt_lt.mp c3
          have h2 := Int32.lt_iff_toInt_lt.mp h
          have : (25 : Int32).toInt = 25 := by decide
          have : (10 : Int32).toInt = 10 := by decide
          omega
        have z26 : (26 : Int32) ≤ z := by
          have h1 := Int32.lt_iff_toInt_lt.mp c3
          apply Int32.le_iff_toInt_le.mpr
          have : (25 : Int32).toInt = 25 := by decide
          have : (26 : Int32).toInt = 26 := by decide
          omega
        have z0 : ¬ z = 0 := fun e => by subst e; exact absurd c3 (by decide)
        have z1 : ¬ z = 1 := fun e => by subst e; exact absurd c3 (by decide)
        have z2 : ¬ z ≤ 1 := fun h => by
          have h1 := Int32.lt_iff_toInt_lt.mp c3
          have h2 := Int32.le_iff_toInt_le.mp h
          have : (25 : Int32).toInt = 25 := by decide
          have : (1 : Int32).toInt = 1 := by decide
          omega
        rw [if_neg z10, if_pos z26, if_neg z0, if_neg z1, if_pos rfl]
        simp only [c4, z2, decide_false, Bool.and_false, b2_f, if_true]
        exact Eq2.same h0 _
    · rw [m_word_out mWd.1 hn hy, Option.bind_some, if_pos rfl, badc (Or.inr hy)]
      exact Eq2.same h0 _
  · rw [m_word_out mWd.1 hn hx, Option.bind_some, if_pos rfl, badc (Or.inl hx)]
    exact Eq2.same h0 _
end Chain3
