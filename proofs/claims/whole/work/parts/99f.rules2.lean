/-! rules: both -/
section Rules2
variable {σ τ : St}
theorem eq_rules (h : Rel σ τ) : Eq2 (X10_rules σ) (X11_rules τ) := by
  have h0 := h
  obtain ⟨A, hC, hM, hW⟩ := h
  obtain ⟨hP, hB, hL, hR, hZ, hS, hT, hWd, r, hQ, hU⟩ := hC
  obtain ⟨mP, mB, mL, mR, mZ, mS, mT, mWd, mU, mK⟩ := hM
  obtain ⟨w1, w2, w3, w4, w5, w6, w7, w8, w9, w10⟩ := hW
  have hr2 := hQ.1
  obtain ⟨ρ, eρ⟩ : ∃ ρ, ρ = 1 - r := ⟨_, rfl⟩
  have hρ : ρ < 2 := by omega
  have hρr : ρ ≠ r := by omega
  have h200 := w7.1
  have hQ9 : gR σ 0 9 = ρ := by rw [eρ]; exact hQ.2.2.1
  obtain ⟨σ7, c1, c2, c3, c4⟩ := c_init hT hρ
  obtain ⟨τ7, m1, m2, m3, m4, m5, m6⟩ := m_init mT mK
  obtain ⟨g8, n1, n2, n3⟩ := m_next m2.1 w7 (Nat.zero_le _) m2.2.1 m3 m4
  have M8 := m2.o n3
  have T8 : TM (gI (sIf τ7 0 g8) 0) (aT A) 0 := by rw [gI_sIf]; exact n2
  have hres := RS_all (σ0 := σ) (τ0 := τ) hρ w7 ρ (aT A).1 FU FU 0 0 σ7 (sIf τ7 0 g8) U0 0 0 (by omega) (by show _ < 1000000; omega) (by show _ < 1000000; omega) (by decide) c2 c3 M8 ⟨by decide, by decide, fun w _ => by simp⟩ T8 U0_ok (by rw [gI_sIf, n3 23 (by omega)]; exact m5) c4 (m6.o n3)
  have hm : X11_rules τ = X11_rules_L81 FU (sIf τ7 0 g8) := by rw [m1, n1, Option.bind_some]
  have hc : X8_readInto ρ σ = X8_readInto_L36 ρ FU (nI 0) (nI 0) σ7 := c1
  unfold X10_rules
  rw [hQ9, chkN_lt hρ, hm, hc]
  -- the class's told part stays
  have keep : ∀ σ', FrG ρ σ σ' → ∀ v, (∀ q, 18 ≤ q → gI (sI (sI σ' 1 1 0) 0 10 v) q = gI σ q) ∧ gI (sI (sI σ' 1 1 0) 0 10 v) 0 12 = gI σ 0 12 ∧ gI (sI (sI σ' 1 1 0) 0 10 v) 0 11 = gI σ 0 11 ∧ gI (sI (sI σ' 1 1 0) 0 10 v) 0 10 = v ∧ gI (sI (sI σ' 1 1 0) 0 10 v) 1 1 = 0 := fun σ' f v => by
    refine ⟨fun q hq => ?_, ?_, ?_, ?_, ?_⟩
    · rw [gI_sIn (by omega), gI_sIn (by omega)]
      exact f.1 q (by omega) (by unfold spr; omega)
    · rw [gI_sI, if_neg (by decide), gI_sIn (by decide), f.1 0 (by decide) (by unfold spr; omega)]
    · rw [gI_sI, if_neg (by decide), gI_sIn (by decide), f.1 0 (by decide) (by unfold spr; omega)]
    · rw [gI_sI, if_pos ⟨rfl, rfl⟩]
    · rw [gI_sIn (by decide), gI_sI, if_pos ⟨rfl, rfl⟩]
  -- the reference's told part stays
  have keepM : ∀ τ', FrK τ τ' → (∀ q, q ≠ 0 → ¬ (13 ≤ q ∧ q ≤ 18) → gI τ' q = gI τ q) ∧ (∀ j, (j < 7 ∨ 12 < j) → j ≠ 23 → j ≠ 25 → j ≠ 28 → j ≠ 32 → gI τ' 0 j = gI τ 0 j) ∧ gJ τ' = gJ τ := fun τ' f => f
  rcases hres with ⟨σ', τ', U', tb', tm', p', n, a1, a2, a3, a4, a5, a6, a7, a8, a9, a10⟩ | ⟨σ', τ', f, q, x, a1, a2, a3, a4, a5, a6, a7, a8, a9, a10, a11⟩
  · rw [a1, Option.bind_some, a2, bnd, bnd]
    dsimp only
    have h38 : gI (sI σ' 1 1 0) 3 8 = 0 := by rw [gI_sIn (by decide)]; exact a3.2.2.2.2
    obtain ⟨k1, k2, k3, k4, k5⟩ := keep σ' a9 0
    rw [h38, k4, if_pos rfl]
    obtain ⟨σ4, e4⟩ : ∃ s, s = sI (sI σ' 1 1 0) 0 10 0 := ⟨_, rfl⟩
    rw [← e4] at k1 k2 k3 k4 k5 ⊢
    have gR4 : ∀ q, q ≠ 3 → gR σ4 q = gR σ q := fun q hq => by rw [e4]; exact a9.2.2 q hq
    have gJ4 : gJ σ4 = gJ σ := by rw [e4]; exact a9.2.1
    have hR8 : gR σ4 0 8 = r := by rw [gR4 0 (by decide)]; exact hQ.2.1
    have hR9 : gR σ4 0 9 = ρ := by rw [gR4 0 (by decide)]; exact hQ9
    rw [hR8, hR9, chkN_lt hr2, chkN_lt hρ, bnd, bnd]
    have hR8' : gR (sR (sR σ4 0 8 ρ) 0 9 r) 0 8 = ρ := by rw [gR_sR, if_neg (by decide), gR_sR, if_pos ⟨rfl, rfl⟩]
    rw [hR8', chkN_lt hρ]
    have hWU : WU U' := by
      obtain ⟨x1, x2, x3, x4, x5⟩ := a7
      exact ⟨x1, x2, x3, by omega, x5⟩
    obtain ⟨nm, hN⟩ := NM_ex (jn U' (aW A)) (aW A).1
    have hU4 : CU (sR (sR σ4 0 8 ρ) 0 9 r) ρ U' := by
      have : CU σ4 ρ U' := by
        rw [e4]
        exact a3.2.2.1.fr hρ ((Off.rf.sI (by omega)).sI (by omega))
      exact this
    obtain ⟨σ5, ff, f1, f2, f3⟩ := c_follow hρ hU4 hWU w8 hN (by show gI σ4 18 1 = _; rw [k1 18 (by omega)]; exact hWd.1) (fun t ht => by show gJ σ4 19 t = _; rw [gJ4]; exact hWd.2.1 t ht) (fun q hq => by show gI σ4 24 (17 * q) = 0; rw [k1 24 (by omega)]; exact hWd.2.2.2.2.2.1 q hq)
    rw [f1, Option.bind_some]
    -- the reference
    unfold X11_rules_B112
    rw [bnd, bnd]
    have h7 : gI (sI τ' 0 5 0) 0 7 = 0 := by rw [gI_sI, if_neg (by decide)]; exact a5
    rw [h7]
    obtain ⟨τ9, e9⟩ : ∃ t, t = sI (sI τ' 0 5 0) 0 6 0 := ⟨_, rfl⟩
    have g97 : gI τ9 0 7 = 0 := by rw [e9, gI_sI, if_neg (by decide)]; exact h7
    have g925 : gI τ9 0 25 = nI (uM U') := by rw [e9, gI_sI, if_neg (by decide), gI_sI, if_neg (by decide)]; exact a4.2.2.2.2.1
    have g928 : gI τ9 0 28 = nI (uK U') := by rw [e9, gI_sI, if_neg (by decide), gI_sI, if_neg (by decide)]; exact a4.2.2.2.2.2.1
    rw [← e9, g97, if_pos (by decide), bnd, bnd, g925, gI_sI, if_neg (by decide), g928]
    obtain ⟨τa, ea⟩ : ∃ t, t = sI (sI τ9 0 16 (nI (uM U'))) 0 19 (nI (uK U')) := ⟨_, rfl⟩
    rw [← ea]
    obtain ⟨ga, q1, q2⟩ := m_158 τa
    obtain ⟨gb, q3, q4⟩ := m_184 (sIf τa 7 ga)
    obtain ⟨gc, q5, q6⟩ := m_210 (sIf (sIf τa 7 ga) 8 gb)
    obtain ⟨τf, q7, q8, q9, q10⟩ := m_236 (sIf (sIf (sIf τa 7 ga) 8 gb) 9 gc) 40 FU 0 _ (by decide) (by decide) (fun _ _ _ _ => rfl) rfl (fun j hj => by omega)
    have q7' : X11_rules_L236 FU 0 (sIf (sIf (sIf τa 7 ga) 8 gb) 9 gc) = _ := q7
    rw [q1, q3, q5, q7']
    have oa : ∀ q, q ≠ 0 → gI τa q = gI τ' q := fun q hq => by rw [ea, gI_sIn hq, gI_sIn hq, e9, gI_sIn hq, gI_sIn hq]
    have of : ∀ q, q ≠ 7 → q ≠ 8 → q ≠ 9 → q ≠ 10 → q ≠ 11 → q ≠ 12 → gI τf q = gI τa q := fun q b1 b2 b3 b4 b5 b6 => by rw [q8 q b4 b5 b6, gI_sIfn b3, gI_sIfn b2, gI_sIfn b1]
    have o3 : ∀ q, q ≠ 7 → q ≠ 8 → q ≠ 9 → gI (sIf (sIf (sIf τa 7 ga) 8 gb) 9 gc) q = gI τa q := fun q b1 b2 b3 => by rw [gI_sIfn b3, gI_sIfn b2, gI_sIfn b1]
    have ot : ∀ q, q ≠ 0 → ¬ (7 ≤ q ∧ q ≤ 18) → gI τf q = gI τ q := fun q b1 b2 => by
      rw [of q (by omega) (by omega) (by omega) (by omega) (by omega) (by omega), oa q b1]
      exact a10.1 q b1 (by omega)
    have f0 : gI τf 0 = gI τa 0 := of 0 (by decide) (by decide) (by decide) (by decide) (by decide) (by decide)
    have z0 : ∀ j, (j < 7 ∨ 12 < j) → j ≠ 5 → j ≠ 6 → j ≠ 16 → j ≠ 19 → j ≠ 23 → j ≠ 25 → j ≠ 28 → j ≠ 32 → gI τf 0 j = gI τ 0 j := fun j b0 b1 b2 b3 b4 b5 b6 b7 b8 => by
      rw [f0, ea, gI_sI, if_neg (by omega), gI_sI, if_neg (by omega), e9, gI_sI, if_neg (by omega), gI_sI, if_neg (by omega)]
      exact a10.2.1 j b0 b5 b6 b7 b8
    have hans : gI (sIf (sIf (sIf τa 7 ga) 8 gb) 9 gc) 0 23 = nI n := by
      rw [o3 0 (by decide) (by decide) (by decide), ea, gI_sI, if_neg (by decide), gI_sI, if_neg (by decide), e9, gI_sI, if_neg (by decide), gI_sI, if_neg (by decide)]
      exact a6
    have hJf : gJ τf = gJ τ := by
      rw [q9]
      show gJ τa = gJ τ
      rw [ea, e9]
      exact a10.2.2
    rw [hans]
    refine Eq2.of rfl rfl ⟨(aP A, aB A, aL A, aR A, ((aZ A).1, (aZ A).2.1, 0), aS A, (0, (aT A).2), aW A, U', nm), ?_, ?_, ?_⟩
    · have of5 : ∀ q, q ≠ 20 → q ≠ 21 → q ≠ 22 → q ≠ 23 → q ≠ 24 → q ≠ 26 → gI (sIf σ5 21 ff) q = gI σ4 q := fun q b1 b2 b3 b4 b5 b6 => by
        rw [gI_sIfn b2, f2.1 q b1 b3 b4 b5 b6]
        rfl
      have o5 : ∀ lo hi, (∀ q, lo ≤ q → q < hi → 27 ≤ q) → Off lo hi σ (sIf σ5 21 ff) := fun lo hi hh q b1 b2 => by
        have := hh q b1 b2
        rw [of5 q (by omega) (by omega) (by omega) (by omega) (by omega) (by omega), k1 q (by omega)]
      have hJ5 : gJ (sIf σ5 21 ff) = gJ σ := by
        show gJ σ5 = gJ σ
        rw [f2.2.1]
        exact gJ4
      have hR5 : ∀ q, gR (sIf σ5 21 ff) q = gR (sR (sR (sR σ4 0 8 ρ) 0 9 r) 18 5 ρ) q := fun q => by
        show gR σ5 q = _
        rw [f2.2.2]
      refine ⟨hP.fr (o5 _ _ fun q _ _ => by omega), hB.fr (o5 _ _ fun q _ _ => by omega) (by rw [hJ5]), hL.fr (o5 _ _ fun q _ _ => by omega), hR.fr (o5 _ _ fun q _ _ => by omega), ?_, hS.fr (o5 _ _ fun q _ _ => by omega), ?_, f3, ρ, ⟨hρ, ?_, ?_, ?_⟩, ?_⟩
      · refine ⟨?_, ?_, ?_⟩
        · rw [of5 0 (by decide) (by decide) (by decide) (by decide) (by decide) (by decide), k2]; exact hZ.1
        · rw [of5 0 (by decide) (by decide) (by decide) (by decide) (by decide) (by decide), k3]; exact hZ.2.1
        · rw [of5 0 (by decide) (by decide) (by decide) (by decide) (by decide) (by decide), k4]; rfl
      · refine ⟨?_, fun i hi => by have : i < 0 := hi; omega⟩
        rw [of5 1 (by decide) (by decide) (by decide) (by decide) (by decide) (by decide), k5]; rfl
      · rw [hR5, gR_sR, if_neg (by decide)]; exact hR8'
      · rw [hR5, gR_sR, if_neg (by decide), gR_sR, if_pos ⟨rfl, rfl⟩]; omega
      · rw [hR5, gR_sR, if_pos ⟨rfl, rfl⟩]
      · exact hU4.fr hρ (fun q b1 b2 => of5 q (by omega) (by omega) (by omega) (by omega) (by omega) (by omega))
    · have u3 := a4.2.2.2.2.2.2.1
      have u4 := a4.2.2.2.2.2.2.2.1
      have u5 := a4.2.2.2.2.2.2.2.2.1
      have u6 := a4.2.2.2.2.2.2.2.2.2
      have hM12 := a7.1
      have hK40 := hWU.2.2.2.1
      refine ⟨?_, ?_, ?_, ?_, ?_, ?_, ?_, ?_, ?_, ?_⟩
      · unfold MP; rw [z0 41 (by omega) (by decide) (by decide) (by decide) (by decide) (by decide) (by decide) (by decide) (by decide), ot 27 (by decide) (by omega), ot 28 (by decide) (by omega)]; exact mP
      · unfold MB; rw [z0 44 (by omega) (by decide) (by decide) (by decide) (by decide) (by decide) (by decide) (by decide) (by decide), ot 29 (by decide) (by omega), ot 30 (by decide) (by omega), ot 31 (by decide) (by omega), hJf]; exact mB
      · unfold ML; rw [z0 49 (by omega) (by decide) (by decide) (by decide) (by decide) (by decide) (by decide) (by decide) (by decide), ot 33 (by decide) (by omega), ot 34 (by decide) (by omega), ot 35 (by decide) (by omega), ot 36 (by decide) (by omega), ot 37 (by decide) (by omega), ot 38 (by decide) (by omega), ot 39 (by decide) (by omega), ot 40 (by decide) (by omega)]; exact mL
      · unfold MR; rw [z0 58 (by omega) (by decide) (by decide) (by decide) (by decide) (by decide) (by decide) (by decide) (by decide), ot 41 (by decide) (by omega), ot 42 (by decide) (by omega), ot 43 (by decide) (by omega)]; exact mR
      · refine ⟨?_, ?_, ?_⟩
        · rw [z0 62 (by omega) (by decide) (by decide) (by decide) (by decide) (by decide) (by decide) (by decide) (by decide)]; exact mZ.1
        · rw [z0 67 (by omega) (by decide) (by decide) (by decide) (by decide) (by decide) (by decide) (by decide) (by decide)]; exact mZ.2.1
        · rw [f0, ea, gI_sI, if_neg (by decide), gI_sI, if_neg (by decide), e9, gI_sI, if_pos ⟨rfl, rfl⟩]; rfl
      · unfold MS; rw [ot 45 (by decide) (by omega), ot 46 (by decide) (by omega), ot 47 (by decide) (by omega)]; exact mS
      · refine ⟨?_, fun i hi => by have : i < 0 := hi; omega⟩
        rw [f0, ea, gI_sI, if_neg (by decide), gI_sI, if_neg (by decide), e9, gI_sI, if_neg (by decide), gI_sI, if_pos ⟨rfl, rfl⟩]; rfl
      · unfold MW; rw [z0 0 (by omega) (by decide) (by decide) (by decide) (by decide) (by decide) (by decide) (by decide) (by decide), ot 1 (by decide) (by omega), ot 2 (by decide) (by omega)]; exact mWd
      · refine ⟨?_, ?_, fun j hj => ?_, fun c x hc hx => ?_, fun c x hc hx => ?_, fun k hk => ?_⟩
        · rw [f0, ea, gI_sI, if_neg (by decide), gI_sI, if_pos ⟨rfl, rfl⟩]
        · rw [f0, ea, gI_sI, if_pos ⟨rfl, rfl⟩]
        · rw [q8 7 (by decide) (by decide) (by decide), gI_sIfn (by decide), gI_sIfn (by decide), gI_sIf, q2 j hj, oa 13 (by decide)]; exact u3 j hj
        · have hc' : c < uM U' := hc
          rw [q8 8 (by decide) (by decide) (by decide), gI_sIfn (by decide), gI_sIf, q4 _ (by omega), gI_sIfn (by decide), oa 14 (by decide)]; exact u4 c x hc hx
        · have hc' : c < uM U' := hc
          rw [q8 9 (by decide) (by decide) (by decide), gI_sIf, q6 _ (by omega), gI_sIfn (by decide), gI_sIfn (by decide), oa 15 (by decide)]; exact u5 c x hc hx
        · have hk' : k < uK U' := hk
          obtain ⟨b1, b2, b3⟩ := q10 k (by omega)
          rw [b1, b2, b3, o3 16 (by decide) (by decide) (by decide), o3 17 (by decide) (by decide) (by decide), o3 18 (by decide) (by decide) (by decide), oa 16 (by decide), oa 17 (by decide), oa 18 (by decide)]
          exact u6 k hk
      · unfold MK; rw [ot 5 (by decide) (by omega), ot 6 (by decide) (by omega)]; exact mK
    · exact ⟨w1, w2, w3, w4, ⟨w5.1, w5.2.1, Nat.zero_le 5⟩, w6, ⟨Nat.zero_le 200, fun i hi => by have : i < 0 := hi; omega⟩, w8, hWU, hN⟩
  · obtain ⟨n1', n2'⟩ := nI_n0 a7 a8
    rw [a1, Option.bind_some, a2, bnd, bnd]
    dsimp only
    have h38 : gI (sI σ' 1 1 0) 3 8 = nI f := by rw [gI_sIn (by decide)]; exact a3
    obtain ⟨k1, k2, k3, k4, k5⟩ := keep σ' a10 (nI f)
    rw [h38, k4, if_neg n1']
    have h39 : gI (sI (sI σ' 1 1 0) 0 10 (nI f)) 3 9 = nI q := by rw [gI_sIn (by decide), gI_sIn (by decide)]; exact a4
    rw [h39]
    unfold X11_rules_B112
    rw [bnd, bnd]
    have h7 : gI (sI τ' 0 5 0) 0 7 = nI f := by rw [gI_sI, if_neg (by decide)]; exact a5
    rw [h7]
    obtain ⟨τ9, e9⟩ : ∃ t, t = sI (sI τ' 0 5 0) 0 6 (nI f) := ⟨_, rfl⟩
    have g97 : gI τ9 0 7 = nI f := by rw [e9, gI_sI, if_neg (by decide)]; exact h7
    have g98 : gI τ9 0 8 = nI q := by rw [e9, gI_sI, if_neg (by decide), gI_sI, if_neg (by decide)]; exact a6
    rw [← e9, g97, if_neg n2', g98]
    have ot : ∀ q, q ≠ 0 → ¬ (13 ≤ q ∧ q ≤ 18) → gI τ9 q = gI τ q := fun q b1 b2 => by
      rw [e9, gI_sIn b1, gI_sIn b1]
      exact a11.1 q b1 b2
    have z0 : ∀ j, (j < 7 ∨ 12 < j) → j ≠ 5 → j ≠ 6 → j ≠ 23 → j ≠ 25 → j ≠ 28 → j ≠ 32 → gI τ9 0 j = gI τ 0 j := fun j b0 b1 b2 b5 b6 b7 b8 => by
      rw [e9, gI_sI, if_neg (by omega), gI_sI, if_neg (by omega)]
      exact a11.2.1 j b0 b5 b6 b7 b8
    have hJ9 : gJ τ9 = gJ τ := by rw [e9]; exact a11.2.2
    refine Eq2.of rfl rfl ⟨(aP A, aB A, aL A, aR A, ((aZ A).1, (aZ A).2.1, f), aS A, (0, (aT A).2), aW A, aU A, aN A), ?_, ?_, ?_⟩
    · have o5 : ∀ lo hi, (∀ q, lo ≤ q → q < hi → 18 ≤ q) → Off lo hi σ (sI (sI σ' 1 1 0) 0 10 (nI f)) := fun lo hi hh q b1 b2 => k1 q (hh q b1 b2)
      have hne : ∀ q, q ≠ 0 → q ≠ 1 → q ≠ 3 → ¬ spr ρ q → gI (sI (sI σ' 1 1 0) 0 10 (nI f)) q = gI σ q := fun q b0 b1 b2 b3 => by
        rw [gI_sIn b0, gI_sIn b1]
        exact a10.1 q b2 b3
      refine ⟨hP.fr (o5 _ _ fun q _ _ => by omega), hB.fr (o5 _ _ fun q _ _ => by omega) (by show gJ σ' 33 = _; rw [a10.2.1]), hL.fr (o5 _ _ fun q _ _ => by omega), hR.fr (o5 _ _ fun q _ _ => by omega), ⟨by rw [k2]; exact hZ.1, by rw [k3]; exact hZ.2.1, k4⟩, hS.fr (o5 _ _ fun q _ _ => by omega), ⟨by rw [k5]; rfl, fun i hi => by have : i < 0 := hi; omega⟩, hWd.fr (o5 _ _ fun q _ _ => by omega) (by show gJ σ' 19 = _; rw [a10.2.1]), r, hQ.fr (a10.2.2 0 (by decide)) (a10.2.2 18 (by decide)), ?_⟩
      unfold CU
      rw [hne (4 + r) (by omega) (by omega) (by omega) (by unfold spr; omega), hne (6 + r) (by omega) (by omega) (by omega) (by unfold spr; omega), hne (8 + r) (by omega) (by omega) (by omega) (by unfold spr; omega), hne (10 + r) (by omega) (by omega) (by omega) (by unfold spr; omega), hne (12 + r) (by omega) (by omega) (by omega) (by unfold spr; omega), hne (14 + r) (by omega) (by omega) (by omega) (by unfold spr; omega), hne (16 + r) (by omega) (by omega) (by omega) (by unfold spr; omega)]
      exact hU
    · refine ⟨?_, ?_, ?_, ?_, ?_, ?_, ?_, ?_, ?_, ?_⟩
      · unfold MP; rw [z0 41 (by omega) (by decide) (by decide) (by decide) (by decide) (by decide) (by decide), ot 27 (by decide) (by omega), ot 28 (by decide) (by omega)]; exact mP
      · unfold MB; rw [z0 44 (by omega) (by decide) (by decide) (by decide) (by decide) (by decide) (by decide), ot 29 (by decide) (by omega), ot 30 (by decide) (by omega), ot 31 (by decide) (by omega), hJ9]; exact mB
      · unfold ML; rw [z0 49 (by omega) (by decide) (by decide) (by decide) (by decide) (by decide) (by decide), ot 33 (by decide) (by omega), ot 34 (by decide) (by omega), ot 35 (by decide) (by omega), ot 36 (by decide) (by omega), ot 37 (by decide) (by omega), ot 38 (by decide) (by omega), ot 39 (by decide) (by omega), ot 40 (by decide) (by omega)]; exact mL
      · unfold MR; rw [z0 58 (by omega) (by decide) (by decide) (by decide) (by decide) (by decide) (by decide), ot 41 (by decide) (by omega), ot 42 (by decide) (by omega), ot 43 (by decide) (by omega)]; exact mR
      · refine ⟨?_, ?_, ?_⟩
        · rw [z0 62 (by omega) (by decide) (by decide) (by decide) (by decide) (by decide) (by decide)]; exact mZ.1
        · rw [z0 67 (by omega) (by decide) (by decide) (by decide) (by decide) (by decide) (by decide)]; exact mZ.2.1
        · rw [e9, gI_sI, if_pos ⟨rfl, rfl⟩]
      · unfold MS; rw [ot 45 (by decide) (by omega), ot 46 (by decide) (by omega), ot 47 (by decide) (by omega)]; exact mS
      · refine ⟨?_, fun i hi => by have : i < 0 := hi; omega⟩
        rw [e9, gI_sI, if_neg (by decide), gI_sI, if_pos ⟨rfl, rfl⟩]; rfl
      · unfold MW; rw [z0 0 (by omega) (by decide) (by decide) (by decide) (by decide) (by decide) (by decide), ot 1 (by decide) (by omega), ot 2 (by decide) (by omega)]; exact mWd
      · unfold MU; rw [z0 16 (by omega) (by decide) (by decide) (by decide) (by decide) (by decide) (by decide), z0 19 (by omega) (by decide) (by decide) (by decide) (by decide) (by decide) (by decide), ot 7 (by decide) (by omega), ot 8 (by decide) (by omega), ot 9 (by decide) (by omega), ot 10 (by decide) (by omega), ot 11 (by decide) (by omega), ot 12 (by decide) (by omega)]; exact mU
      · unfold MK; rw [ot 5 (by decide) (by omega), ot 6 (by decide) (by omega)]; exact mK
    · exact ⟨w1, w2, w3, w4, ⟨w5.1, w5.2.1, a8⟩, w6, ⟨Nat.zero_le 200, fun i hi => by have : i < 0 := hi; omega⟩, w8, w9, w10⟩
end Rules2
