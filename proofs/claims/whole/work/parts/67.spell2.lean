/-! spelling, whole -/
def setW (A : ABS) (W : DW) (nm : Nat → Nat) : ABS := (aP A, aB A, aL A, aR A, aZ A, aS A, aT A, W, aU A, nm)
theorem RM.frW {τ τ' : St} {A : ABS} {W : DW} {nm : Nat → Nat} (h : RM τ A) (e : ∀ q, 4 ≤ q → gI τ' q = gI τ q) (e0 : ∀ j, j ≠ 0 → gI τ' 0 j = gI τ 0 j) (eJ : gJ τ' = gJ τ) (mW : MW τ' W) : RM τ' (setW A W nm) := by
  obtain ⟨mP, mB, mL, mR, mZ, mS, mT, mWd, mU, mK⟩ := h
  refine ⟨?_, ?_, ?_, ?_, ?_, ?_, ?_, mW, ?_, ?_⟩
  · unfold MP; rw [e0 41 (by decide), e 27 (by omega), e 28 (by omega)]; exact mP
  · unfold MB; rw [e0 44 (by decide), e 29 (by omega), e 30 (by omega), e 31 (by omega), eJ]; exact mB
  · unfold ML; rw [e0 49 (by decide), e 33 (by omega), e 34 (by omega), e 35 (by omega), e 36 (by omega), e 37 (by omega), e 38 (by omega), e 39 (by omega), e 40 (by omega)]; exact mL
  · unfold MR; rw [e0 58 (by decide), e 41 (by omega), e 42 (by omega), e 43 (by omega)]; exact mR
  · unfold MZ; rw [e0 62 (by decide), e0 67 (by decide), e0 6 (by decide)]; exact mZ
  · unfold MS; rw [e 45 (by omega), e 46 (by omega), e 47 (by omega)]; exact mS
  · unfold MT; rw [e0 5 (by decide), e 4 (by omega)]; exact mT
  · unfold MU; rw [e0 16 (by decide), e0 19 (by decide), e 7 (by omega), e 8 (by omega), e 9 (by omega), e 10 (by omega), e 11 (by omega), e 12 (by omega)]; exact mU
  · unfold MK; rw [e 5 (by omega), e 6 (by omega)]; exact mK
theorem WL.mono {ns ns' : Nat} {B : DB} {L : DL} (h : WL ns B L) (hn : ns ≤ ns') : WL ns' B L := ⟨h.1, fun k hk => by
  obtain ⟨a, b, c, d, e, f, g⟩ := h.2 k hk
  exact ⟨a, b, c, d, by omega, by omega, g⟩⟩
theorem WR.mono {ns ns' : Nat} {L : DL} {R : DR} (h : WR ns L R) (hn : ns ≤ ns') : WR ns' L R := ⟨h.1, fun k hk => by
  obtain ⟨a, b, c⟩ := h.2.1 k hk
  exact ⟨a, by omega, c⟩, h.2.2⟩
section Spell2
variable {σ τ : St} {W : DW} {U : DU}
theorem newW_o {w : List Nat} {t : Nat} (h : t < W.1) : (newW W w).2 t = W.2 t := by
  unfold newW
  simp only [if_neg (Nat.ne_of_lt h)]
theorem newW_n {w : List Nat} : (newW W w).2 W.1 = w := by
  unfold newW
  simp only [if_true]
theorem newW_ap {w : List Nat} {p q : Nat} (hp : p < W.1) (hq : q < W.1) : ap U (newW W w) p q = ap U W p q := by
  unfold ap
  rw [newW_o hp, newW_o hq]
theorem newW_WW (wW : WW W) (hn : W.1 < 16) {w : List Nat} (hw : LTR w) (h1 : 1 ≤ w.length) (h2 : w.length ≤ 10) (hh : hldW W w = false) : WW (newW W w) := by
  have hno : ∀ s, s < W.1 → ¬ W.2 s = w := fun s hs e => by
    have : hldW W w = true := List.any_eq_true.mpr ⟨s, List.mem_range.mpr hs, decide_eq_true e⟩
    rw [hh] at this
    cases this
  refine ⟨by show W.1 + 1 ≤ 16; omega, fun s hs => ?_, fun s t hs ht he => ?_⟩
  · by_cases e : s = W.1
    · subst e; rw [newW_n]; exact ⟨h1, h2, hw⟩
    · have hs' : s < W.1 := by
        have : s < W.1 + 1 := hs
        omega
      rw [newW_o hs']; exact wW.2.1 s hs'
  · have hs2 : s < W.1 + 1 := hs
    have ht2 : t < W.1 + 1 := ht
    by_cases e1 : s = W.1
    · by_cases e2 : t = W.1
      · omega
      · subst e1
        rw [newW_n, newW_o (show t < W.1 by omega)] at he
        exact absurd he.symm (hno t (by omega))
    · by_cases e2 : t = W.1
      · subst e2
        rw [newW_n, newW_o (show s < W.1 by omega)] at he
        exact absurd he (hno s (by omega))
      · rw [newW_o (show s < W.1 by omega), newW_o (show t < W.1 by omega)] at he
        exact wW.2.2 s t (by omega) (by omega) he
theorem c_appendW {nm nm' : Nat → Nat} {r : Nat} (hr : r < 2) (hU : CU σ r U) (wU : WU U) (hq : gR σ 18 5 = r) (h : CW σ W U nm) (hn : W.1 < 16) {w : List Nat} (wW : WW (newW W w)) (hN : NM (jn U (newW W w)) (newW W w).1 nm') : ∃ σ' f, X9_append (lN (pk w)) σ = some (nI W.1, sIf σ' 21 f) ∧ FrS (sI (sJ σ 19 W.1 (lN (pk w))) 18 1 (nI (W.1 + 1))) σ' ∧ CW (sIf σ' 21 f) (newW W w) U nm' := by
  obtain ⟨h1, h2, h3, h4, h5, h6, h7, h8⟩ := h
  have hk : CWk (sI (sJ σ 19 W.1 (lN (pk w))) 18 1 (nI (W.1 + 1))) (newW W w) U W.1 (newW W w).1 := by
    refine ⟨gI_at _ _ _ _, fun t ht => ?_, fun t ht => ?_, fun p q hp hq => ?_, fun q hq => ?_, fun p hp => ?_⟩
    · have ht' : t < W.1 + 1 := ht
      rw [gJ_sI, gJ_sJ]
      by_cases e : t = W.1
      · subst e; rw [if_pos ⟨rfl, rfl⟩, newW_n]
      · rw [if_neg (fun h => e h.2), newW_o (by omega)]; exact h2 t (by omega)
    · rw [newW_o ht]
      exact ⟨by rw [gI_sIn (by decide), gI_sJ]; exact h3 t ht, fun i hi => by rw [gI_sIn (by decide), gI_sJ]; exact h4 t i ht hi⟩
    · rw [newW_ap hp hq, gI_sIn (by decide), gI_sJ]; exact h5 p q hp hq
    · rw [gI_sIn (by decide), gI_sJ]; exact h6 q hq
    · rw [gI_sIn (by decide), gI_sJ, h7 p hp]
      congr 1
      refine bs_ext fun k hk => ?_
      unfold jn
      rw [newW_ap hp hk]
  have hU2 : CU (sI (sJ σ 19 W.1 (lN (pk w))) 18 1 (nI (W.1 + 1))) r U := hU.fr hr (fun q _ _ => by rw [gI_sIn (by omega), gI_sJ])
  obtain ⟨σ', e1, e2, e3⟩ := c_settle hU2 wU wW hr (by rw [gR_sI, gR_sJ]; exact hq) (show W.1 < (newW W w).1 from Nat.lt_succ_self _) hk
  obtain ⟨f, e4, e5⟩ := c_nameAll (jn_sym U (newW W w)) wW.1 e3.1 e3.2.2.2.2.2 hN
  refine ⟨σ', f, ?_, e2, CWk.done e3 e5⟩
  unfold X9_append
  rw [h1, if_pos (by rw [show (16 : Int32) = nI 16 from rfl, ltI (by omega) (by decide)]; exact hn), chk_nI hn (by decide), bnd, nI_cl (by omega), gI_sJ, h1, nI_1, bnd, gI_at, show nI (W.1 + 1) - 1 = nI W.1 from subE (b := 1) rfl, e1, Option.bind_some, e4, Option.bind_some, gI_sIfn (by decide), e3.1, show nI (newW W w).1 - 1 = nI W.1 from subE (b := 1) rfl]
theorem m_spell_no (x3 : Int32) (m : Nat) : X11_spelling_L82 (m + 1) x3 0 0 τ = some (-1, τ) := by
  rw [X11_spelling_L82, if_pos (show (0 : Int32) = 0 from rfl), ite_self]
  unfold X11_spelling_B186
  rw [if_pos rfl]
theorem m_spellW (x : Int64) : ∃ f, (∃ w, wd x = some w ∧ X11_spelling x τ = X11_spelling_L82 FU (nI w.length) 1 0 (sIf τ 3 f) ∧ ∀ i, i < w.length → f (w.length - 1 - i) = nI (w.getD i 0)) ∨ (wd x = none ∧ X11_spelling x τ = some (-1, sIf τ 3 f)) := by
  have hno : ∀ f x3, X11_spelling_L82 FU x3 0 0 (sIf τ 3 f) = some (-1, sIf τ 3 f) := fun f x3 => by
    obtain ⟨n, hn'⟩ : ∃ n, FU = n + 1 := ⟨999999, rfl⟩
    rw [hn', m_spell_no]
  have hbad : X11_spelling_L26 FU 0 x 0 τ = some (-1, sIf τ 3 (gI τ 3)) := by
    have : X11_spelling_L26 FU 0 x 0 τ = X11_spelling_L82 FU 0 0 0 (sIf τ 3 (gI τ 3)) := by
      obtain ⟨n, hn'⟩ : ∃ n, FU = n + 1 := ⟨999999, rfl⟩
      rw [sIf_self]
      conv => lhs; rw [hn']
      rw [X11_spelling_L26, if_pos rfl]
    rw [this, hno]
  unfold X11_spelling wd
  by_cases h : x ≤ 0
  · rw [if_pos h, if_pos h]
    exact ⟨_, Or.inr ⟨rfl, hbad⟩⟩
  · rw [if_neg h, if_neg h]
    by_cases h2 : x < 1125899906842624
    · rw [if_neg (show ¬ (1125899906842624 : Int64) ≤ x by rw [Int64.not_le]; exact h2), if_pos h2]
      obtain ⟨e, -, e3⟩ := x_lN h h2
      obtain ⟨f', -, g⟩ := m_spellL (τ := τ) 10 FU 0 x.toInt.toNat (gI τ 3) rfl (by decide) e3
      rw [sIf_self, ← e] at g
      refine ⟨f', ?_⟩
      rcases g with ⟨w, g1, g2, g3⟩ | ⟨g1, x3, g2⟩
      · refine Or.inl ⟨w, g1, ?_, ?_⟩
        · rw [Nat.zero_add] at g2; exact g2
        · rw [Nat.zero_add] at g3; exact g3
      · exact Or.inr ⟨g1, by rw [show (0 : Int32) = nI 0 from rfl, g2]; exact hno _ _⟩
    · rw [if_pos (show (1125899906842624 : Int64) ≤ x from Int64.not_lt.mp h2), if_neg h2]
      exact ⟨_, Or.inr ⟨rfl, hbad⟩⟩
theorem sc3 {f : Nat → Int32} : ScM τ (sIf τ 3 f) := ⟨fun q h1 _ _ => gI_sIfn h1, rfl⟩
theorem eq_spelling (h : Rel σ τ) (x : Int64) : Eq2 (X10_spelling x σ) (X11_spelling x τ) := by
  have h0 := h
  obtain ⟨A, hC, hM, hW⟩ := h
  obtain ⟨hP, hB, hL, hR, hZ, hS, hT, hWd, r, hQ, hU⟩ := hC
  obtain ⟨mP, mB, mL, mR, mZ, mS, mT, mWd, mU, mK⟩ := hM
  obtain ⟨w1, w2, w3, w4, w5, w6, w7, w8, w9, w10⟩ := hW
  have hn := w8.1
  unfold X10_spelling
  rw [c_isWord, Option.bind_some]
  obtain ⟨f, ⟨w, g1, g2, g3⟩ | ⟨g1, g2⟩⟩ := m_spellW (τ := τ) x
  · obtain ⟨rfl, k1, k2, k3⟩ := wd_spec g1
    have mW3 : MW (sIf τ 3 f) (aW A) := by
      unfold MW
      rw [gI_sIfn (by decide), gI_sIfn (by decide), gI_sIfn (by decide)]
      exact mWd
    have hc3 : ∀ i, i < w.length → gI (sIf τ 3 f) 3 (w.length - 1 - i) = nI (w.getD i 0) := fun i hi => by rw [gI_sIf]; exact g3 i hi
    have hh := m_heldL mW3 w8 k1 k3 hc3 (aW A).1 FU 0 (by omega) (by show _ < 1000000; omega)
    rw [← List.range_eq_range'] at hh
    rw [g1, g2, show (0 : Int32) = nI 0 from rfl, hh, show ((List.range (aW A).1).any fun k => decide ((aW A).2 k = w)) = hldW (aW A) w from rfl, c_holds hWd.1 hWd.2.1 w8 k1 k3, Option.bind_some]
    rw [if_neg (show ¬ b2 (some w).isSome = nI 0 from (show ¬ b2 true = nI 0 by decide))]
    unfold X11_spelling_B186
    cases hd : hldW (aW A) w with
    | true =>
      rw [if_neg (show ¬ b2 true = nI 0 by decide), if_pos (show b2 (!true) = 0 from rfl)]
      exact Eq2.of rfl rfl (h0.fr ScC.rf sc3)
    | false =>
      rw [if_pos (show b2 false = nI 0 from rfl), if_neg (show ¬ b2 (!false) = 0 by decide), mW3.1]
      by_cases e16 : (aW A).1 = 16
      · have hf : X9_append (lN (pk w)) σ = some (-3, σ) := by
          unfold X9_append
          rw [hWd.1, e16]
          exact if_neg (by decide)
        rw [hf, Option.bind_some, if_pos (show nI (aW A).1 = 16 by rw [e16]; rfl)]
        exact Eq2.of rfl rfl (h0.fr ScC.rf sc3)
      · have hn' : (aW A).1 < 16 := by omega
        have hne : ¬ nI (aW A).1 = 16 := by
          rw [show (16 : Int32) = nI 16 from rfl, eqI (by omega) (by decide)]; exact e16
        rw [if_neg hne]
        have wWn := newW_WW w8 hn' k1 k2 k3 hd
        obtain ⟨nm', hN'⟩ := NM_ex (jn (aU A) (newW (aW A) w)) (newW (aW A) w).1
        obtain ⟨σ', f1, e1, e2, e3⟩ := c_appendW hQ.1 hU w9 hQ.2.2.2 hWd hn' wWn hN'
        obtain ⟨f2, d1, d2, d3⟩ := m_writeL (τ := sI (sIf τ 3 f) 1 (aW A).1 (nI w.length)) k3 hn' (by rw [gI_sIn (by decide)]; exact mW3.1) (fun i hi => by rw [gI_sIn (by decide)]; exact hc3 i hi) w.length FU 0 (gI τ 2) (by omega) (by show _ < 1000000; omega) (fun i hi => by omega)
        have es : sIf (sI (sIf τ 3 f) 1 (aW A).1 (nI w.length)) 2 (gI τ 2) = sI (sIf τ 3 f) 1 (aW A).1 (nI w.length) := by
          have : gI τ 2 = gI (sI (sIf τ 3 f) 1 (aW A).1 (nI w.length)) 2 := by rw [gI_sIn (by decide), gI_sIfn (by decide)]
          rw [this, sIf_self]
        rw [es] at d1
        rw [e1, Option.bind_some, chk_nI hn' (by decide), bnd, nI_cl (by omega)]
        refine Eq2.of rfl d1 ⟨setW A (newW (aW A) w) nm', ?_, ?_, ?_⟩
        · have o : ∀ q, q ≠ 18 ∧ q ≠ 20 ∧ q ≠ 21 ∧ q ≠ 22 ∧ q ≠ 23 ∧ q ≠ 24 ∧ q ≠ 26 → gI (sIf σ' 21 f1) q = gI σ q := fun q hq => by
            rw [gI_sIfn hq.2.2.1, e2.1 q hq.2.1 hq.2.2.2.1 hq.2.2.2.2.1 hq.2.2.2.2.2.1 hq.2.2.2.2.2.2, gI_sIn hq.1, gI_sJ]
          have oJ : gJ (sIf σ' 21 f1) 33 = gJ σ 33 := by rw [gJ_sIf, e2.2.1, gJ_sI, gJ_sJn (by decide)]
          have oR : gR (sIf σ' 21 f1) = gR σ := by rw [gR_sIf, e2.2.2]; rfl
          exact ⟨hP.fr (fun q a b => o q (by omega)), hB.fr (fun q a b => o q (by omega)) oJ, hL.fr (fun q a b => o q (by omega)), hR.fr (fun q a b => o q (by omega)), hZ.fr (fun q a b => o q (by omega)), hS.fr (fun q a b => o q (by omega)), hT.fr (fun q a b => o q (by omega)), e3, r, hQ.fr (by rw [oR]) (by rw [oR]), hU.fr hQ.1 (fun q a b => o q (by omega))⟩
        · refine RM.frW (τ := τ) (A := A) ⟨mP, mB, mL, mR, mZ, mS, mT, mWd, mU, mK⟩ (fun q hq => ?_) (fun j hj => ?_) rfl ⟨gI_at _ _ _ _, fun s hs => ?_, fun s i hs hi => ?_⟩
          · rw [gI_sIn (by omega), gI_sIfn (by omega), gI_sIn (by omega), gI_sIfn (by omega)]
          · rw [gI_sI, if_neg (fun h => hj h.2), gI_sIfn (by decide), gI_sIn (by decide), gI_sIfn (by decide)]
          · have hs' : s < (aW A).1 + 1 := hs
            rw [gI_sIn (by decide), gI_sIfn (by decide), gI_sI, gI_sIfn (by decide)]
            by_cases e : s = (aW A).1
            · subst e; rw [if_pos ⟨rfl, rfl⟩, newW_n]
            · rw [if_neg (fun h => e h.2), newW_o (by omega)]; exact mWd.2.1 s (by omega)
          · have hs' : s < (aW A).1 + 1 := hs
            rw [gI_sIn (by decide), gI_sIf]
            by_cases e : s = (aW A).1
            · subst e
              rw [newW_n] at hi ⊢
              exact d2 i hi
            · rw [newW_o (show s < (aW A).1 by omega)] at hi ⊢
              have := (w8.2.1 s (by omega)).2.1
              rw [d3 _ (by omega)]
              exact mWd.2.2 s i (by omega) hi
        · exact ⟨w1, w2, w3.mono (Nat.le_succ _), w4.mono (Nat.le_succ _), w5, w6, w7, wWn, w9, hN'⟩
  · rw [g1, g2, if_pos (show b2 (none : Option (List Nat)).isSome = 0 from rfl)]
    exact Eq2.of rfl rfl (h0.fr ScC.rf sc3)
end Spell2
