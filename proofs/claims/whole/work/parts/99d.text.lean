/-! a line, all lines -/
section Text
variable {σ τ : St} {T : DT} {ρ p : Nat} {U : DU} {tb tm : Nat}
theorem isK_1 {w : Nat} (h : isK T p w = true) : tK T p = 1 ∧ tE T p - tS T p = (kB.getD w []).length := by
  unfold isK at h
  rw [Bool.and_eq_true, decide_eq_true_eq, Bool.and_eq_true, decide_eq_true_eq] at h
  exact ⟨h.1, h.2.1⟩
theorem LN.same {a a' : Option (Int32 × St)} {b b' : Option St} (ha : a = a') (hb : b = b') (h : LN σ τ T ρ p a' b') : LN σ τ T ρ p a b := by
  rw [ha, hb]; exact h
theorem LN_line (hr : ρ < 2) (wT : WTp T) (hp : p ≤ T.1) (hC : SC σ T ρ U tb) (hTC : TC (gI σ 3) T p) (hM : SM τ T U tm) (hb : BT tb tm) (hT : TM (gI τ 0) T p) (h0 : tK T p ≠ 0) (h4 : tK T p ≠ 4) (hW : WUp U p) : LN σ τ T ρ p (X8_takeLine σ) (X11_readLine τ) := by
  have h200 := wT.1
  have hk := tK_le T p
  obtain ⟨hs1, hs2⟩ := tS_le hp
  obtain ⟨he1, he2, he3⟩ := tE_le hp
  obtain ⟨q7, q11, -⟩ := hT.2.2.1 h4
  have hmt : MT τ T := ⟨hM.2.1, hM.1⟩
  have w : ∀ i, i < 8 → X8_isWord i σ = some (b2 (isK T p i)) := fun i hi => c_isKw hC.1 wT hp hTC hi
  have hfs : fsF (isK T p) 8 0 = if isK T p 0 = true then some 0 else if isK T p 1 = true then some 1 else if isK T p 2 = true then some 2 else if isK T p 3 = true then some 3 else if isK T p 4 = true then some 4 else if isK T p 5 = true then some 5 else if isK T p 6 = true then some 6 else if isK T p 7 = true then some 7 else none := rfl
  have hk4 : ¬ nI (tK T p) = 4 := fun h => h4 ((nI_eq (b := 4) (by omega) (by decide)).mp h)
  unfold X8_takeLine X11_readLine X8_takeLine_B32
  rw [hTC.2.1, if_neg hk4, m_lineAt hmt wT hM.2.2.1 hp hT h4, Option.bind_some, hfs, w 0 (by decide), Option.bind_some, Option.bind_some, w 1 (by decide), Option.bind_some, w 2 (by decide), Option.bind_some, w 3 (by decide), Option.bind_some, w 4 (by decide), Option.bind_some, w 5 (by decide), Option.bind_some, w 6 (by decide), Option.bind_some, w 7 (by decide), Option.bind_some]
  have ny : ¬ b2 true = 0 := n10
  have yn : b2 false = 0 := rfl
  cases i0 : isK T p 0 with
  | true =>
    rw [if_neg ny, if_pos (show true = true from rfl)]
    refine LN.same rfl ?_ (LNno.cb (LN_say hr wT hp hC hTC hM hb hT (isK_1 i0).1 hW true))
    rw [if_neg (show ¬ oI (some 0) = -4 by decide), if_pos (show oI (some 0) < 3 by decide)]
    rfl
  | false =>
    rw [if_pos yn, if_neg (show ¬ false = true by decide)]
    cases i1 : isK T p 1 with
    | true =>
      rw [if_neg ny, if_pos (show true = true from rfl)]
      refine LN.same rfl ?_ (LNno.cb (LN_say hr wT hp hC hTC hM hb hT (isK_1 i1).1 hW false))
      rw [if_neg (show ¬ oI (some 1) = -4 by decide), if_pos (show oI (some 1) < 3 by decide)]
      rfl
    | false =>
      rw [if_pos yn, if_neg (show ¬ false = true by decide)]
      cases i2 : isK T p 2 with
      | true =>
        have hl := (isK_1 i2).2
        have hl' : tE T p - tS T p = 4 := hl
        rw [if_neg ny, if_pos (show true = true from rfl)]
        refine LN.same rfl ?_ (LNno.cb (LN_like hr wT hp hC hTC hM hb hT (isK_1 i2).1 (by omega) hW))
        rw [if_neg (show ¬ oI (some 2) = -4 by decide), if_pos (show oI (some 2) < 3 by decide)]
        rfl
      | false =>
        rw [if_pos yn, if_neg (show ¬ false = true by decide)]
        cases i3 : isK T p 3 with
        | true =>
          rw [if_neg ny, if_pos (show true = true from rfl)]
          refine LN.same rfl ?_ (LNno.cb (LN_num hr wT hp hC hTC hM hb hT (isK_1 i3).1 hW (w := 0) (lo := 0) (by decide) rfl))
          rw [if_neg (show ¬ oI (some 3) = -4 by decide), if_neg (show ¬ oI (some 3) < 3 by decide)]
          rfl
        | false =>
          rw [if_pos yn, if_neg (show ¬ false = true by decide)]
          cases i4 : isK T p 4 with
          | true =>
            rw [if_neg ny, if_pos (show true = true from rfl)]
            refine LN.same rfl ?_ (LNno.cb (LN_num hr wT hp hC hTC hM hb hT (isK_1 i4).1 hW (w := 1) (lo := 0) (by decide) rfl))
            rw [if_neg (show ¬ oI (some 4) = -4 by decide), if_neg (show ¬ oI (some 4) < 3 by decide)]
            rfl
          | false =>
            rw [if_pos yn, if_neg (show ¬ false = true by decide)]
            cases i5 : isK T p 5 with
            | true =>
              rw [if_neg ny, if_pos (show true = true from rfl)]
              refine LN.same rfl ?_ (LNno.cb (LN_num hr wT hp hC hTC hM hb hT (isK_1 i5).1 hW (w := 2) (lo := 0) (by decide) rfl))
              rw [if_neg (show ¬ oI (some 5) = -4 by decide), if_neg (show ¬ oI (some 5) < 3 by decide)]
              rfl
            | false =>
              rw [if_pos yn, if_neg (show ¬ false = true by decide)]
              cases i6 : isK T p 6 with
              | true =>
                rw [if_neg ny, if_pos (show true = true from rfl)]
                refine LN.same rfl ?_ (LNno.cb (LN_num hr wT hp hC hTC hM hb hT (isK_1 i6).1 hW (w := 3) (lo := 1) (by decide) rfl))
                rw [if_neg (show ¬ oI (some 6) = -4 by decide), if_neg (show ¬ oI (some 6) < 3 by decide)]
                rfl
              | false =>
                rw [if_pos yn, if_neg (show ¬ false = true by decide)]
                cases i7 : isK T p 7 with
                | true =>
                  rw [if_neg ny, if_pos (show true = true from rfl)]
                  refine LN.same rfl ?_ (LNno.cb (LN_sons hr wT hp hC hTC hM hb hT (isK_1 i7).1 hW))
                  rw [if_neg (show ¬ oI (some 7) = -4 by decide), if_neg (show ¬ oI (some 7) < 3 by decide)]
                  rfl
                | false =>
                  rw [if_pos yn, if_neg (show ¬ false = true by decide), c_ref0, Option.bind_some, if_pos oI_none, show (2 : Int32) = nI 2 from rfl, m_fail0 q7, Option.bind_some]
                  unfold X11_readLine_B41
                  rw [gI_sIf, if_neg (show ¬ upd (upd (gI τ 0) 7 (nI 2)) 8 (gI τ 0 10) 7 ≤ 0 from (by decide : ¬ nI 2 ≤ 0))]
                  exact Or.inr ⟨_, _, 2, tS T p, rfl, rfl, by rw [gI_sIf]; rfl, by rw [gI_sIf]; exact hTC.2.2.1, by rw [gI_sIf]; rfl, by rw [gI_sIf]; exact hT.2.1, by decide, by decide, by omega, FrG.rf.g _, FrK.rf.o (o12_f _ _ _)⟩
def RSok (σ τ : St) (T : DT) (ρ : Nat) (a : Option (Int32 × St)) (b : Option (Int32 × St)) : Prop := ∃ σ' τ' U tb tm p n, a = some (nI n, σ') ∧ b = X11_rules_B112 τ' ∧ SC σ' T ρ U tb ∧ SM τ' T U tm ∧ gI τ' 0 7 = 0 ∧ gI τ' 0 23 = nI n ∧ WUp U p ∧ p ≤ T.1 ∧ FrG ρ σ σ' ∧ FrK τ τ'
def RSno (σ τ : St) (ρ : Nat) (a : Option (Int32 × St)) (b : Option (Int32 × St)) : Prop := ∃ σ' τ' f q x, a = some (x, σ') ∧ b = X11_rules_B112 τ' ∧ gI σ' 3 8 = nI f ∧ gI σ' 3 9 = nI q ∧ gI τ' 0 7 = nI f ∧ gI τ' 0 8 = nI q ∧ 1 ≤ f ∧ f ≤ 5 ∧ q ≤ 200 ∧ FrG ρ σ σ' ∧ FrK τ τ'
theorem RS_all {σ0 τ0 : St} (hr : ρ < 2) (wT : WTp T) (t1 : Nat) : ∀ d m m' p i σ τ U tb tm, p + d = T.1 → d + 1 < m → d + 1 < m' → i ≤ p → SC σ T ρ U tb → gI σ 3 3 = nI p → SM τ T U tm → BT tb tm → TM (gI τ 0) T p → WUp U p → gI τ 0 23 = nI i → FrG ρ σ0 σ → FrK τ0 τ → RSok σ0 τ0 T ρ (X8_readInto_L36 t1 m (nI i) (nI i) σ) (X11_rules_L81 m' τ) ∨ RSno σ0 τ0 ρ (X8_readInto_L36 t1 m (nI i) (nI i) σ) (X11_rules_L81 m' τ) := by
  have h200 := wT.1
  intro d
  induction d using Nat.strongRecOn with
  | ind d ih =>
    intro m m' p i σ τ U tb tm hp hm hm' hi hC h3 hM hb hT hW h23 fC fM
    obtain ⟨m, rfl⟩ : ∃ q, m = q + 1 := ⟨m - 1, by omega⟩
    obtain ⟨m', rfl⟩ : ∃ q, m' = q + 1 := ⟨m' - 1, by omega⟩
    have hpl : p ≤ T.1 := by omega
    have hk := tK_le T p
    obtain ⟨hs1, hs2⟩ := tS_le hpl
    obtain ⟨g1, a1, a2, a3, a4, a5⟩ := c_token hC.1 wT hpl h3
    rw [sIf_self] at a1
    have hC1 : SC (sIf σ 3 g1) T ρ U tb := hC.g hr (by rw [a3]; exact hC.2.2.2.1) (by rw [a4]; exact hC.2.2.2.2)
    have hTC1 : TC (gI (sIf σ 3 g1) 3) T p := by rw [gI_sIf]; exact a2
    have e0' : (nI (tK T p) = (0 : Int32)) = (tK T p = 0) := eqI (b := 0) (by omega) (by decide)
    rw [X8_readInto_L36, if_neg (show ¬ (200 : Int32) < nI i by rw [show (200 : Int32) = nI 200 from rfl, ltI (by decide) (by omega)]; omega), a1, Option.bind_some, gI_sIf, a2.2.1, X11_rules_L81]
    simp only [e0']
    by_cases e4 : tK T p = 4
    · obtain ⟨q1, q2⟩ := hT.2.2.2 e4
      refine Or.inr ⟨sIf σ 3 (upd (upd g1 8 1) 9 (g1 5)), τ, 1, tS T p, nI i, ?_, by rw [if_neg (show ¬ gI τ 0 7 = 0 by rw [q1]; decide)], by rw [gI_sIf]; rfl, by rw [gI_sIf]; exact a2.2.2.1, q1, q2, by decide, by decide, by omega, fC.g _, fM⟩
      rw [if_neg (by omega)]
      unfold X8_takeLine
      rw [gI_sIf, a2.2.1, if_pos (by rw [e4]; rfl), c_refuse, Option.bind_some]
      rfl
    · obtain ⟨q1, q2, -⟩ := hT.2.2.1 e4
      rw [q1, if_pos rfl, q2]
      simp only [e0']
      by_cases e0 : tK T p = 0
      · rw [if_pos e0, if_pos e0]
        exact Or.inl ⟨_, τ, U, tb, tm, p, i, rfl, rfl, hC1, hM, q1, h23, hW, hpl, fC.g _, fM⟩
      · rw [if_neg e0, if_neg e0]
        rcases LN_line hr wT hpl hC1 hTC1 hM hb hT e0 e4 hW with ⟨σ', τ', U', tb', tm', p', l1, l2, l3, l4, l5, l6, l7, l8, l9, l10, l11, l12, l13⟩ | ⟨σ', τ', f, q, l1, l2, l3, l4, l5, l6, l7, l8, l9, l10, l11⟩
        · rw [l1, Option.bind_some, if_neg n10, l2, Option.bind_some, bnd, l13, h23, nI_1]
          refine ih (T.1 - p') (by omega) m m' p' (i + 1) σ' _ U' tb' tm' (by omega) (by omega) (by omega) (by omega) l3 l4 ?_ l6 ?_ l8 ?_ ((fC.g _).tr l11) ((fM.tr l12).z (by omega))
          · exact ⟨l5.1, l5.2.1, l5.2.2.1, l5.2.2.2.1, l5.2.2.2.2⟩
          · exact l7
          · rw [gI_sI, if_pos ⟨rfl, rfl⟩]
        · obtain ⟨n1, n2⟩ := nI_n0 l7 l8
          obtain ⟨m', rfl⟩ : ∃ q, m' = q + 1 := ⟨m' - 1, by omega⟩
          rw [l1, Option.bind_some, if_pos rfl, l2, Option.bind_some, bnd, X11_rules_L81, if_neg (show ¬ gI (sI τ' 0 23 (gI τ' 0 23 + 1)) 0 7 = 0 by rw [gI_sI, if_neg (by decide), l5]; exact n1)]
          exact Or.inr ⟨σ', _, f, q, nI i, rfl, rfl, l3, l4, by rw [gI_sI, if_neg (by decide)]; exact l5, by rw [gI_sI, if_neg (by decide)]; exact l6, l7, l8, l9, (fC.g _).tr l10, (fM.tr l11).z (by omega)⟩
end Text
