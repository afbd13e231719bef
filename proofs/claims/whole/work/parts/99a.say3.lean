/-! say and mute: both sides -/
section Say3
variable {σ τ : St} {T : DT} {ρ p : Nat} {U : DU} {tb tm : Nat}
theorem bt_low {v : Nat} (hv : v < 3) (hb : BT tb tm) : BT tb (tm ||| 2 ^ v) := by
  obtain ⟨b1, b2, b3⟩ := hb
  refine ⟨b1, Nat.or_lt_two_pow (n := 8) b2 (Nat.pow_lt_pow_right (by decide) (by omega)), fun i hi => ?_⟩
  rw [Nat.testBit_or, Nat.testBit_two_pow, b3 i hi]
  simp [show ¬ v = i + 3 by omega]
/-- the end of such a line -/
theorem say_end {σ0 τ0 σ1 τ1 : St} {p0 p1 : Nat} (hr : ρ < 2) (wT : WTp T) (hp : p0 < p1) (hp1 : p1 ≤ T.1) (hC : SC σ1 T ρ U tb) (h3 : gI σ1 3 3 = nI p1) (h12 : uM U < 12) {l li : List Nat} (hM : SM τ1 T (addU U l li) tm) (hb : BT tb tm) (hT : TM (gI τ1 0) T p1) (hW : WUp (addU U l li) p1) (fC : FrG ρ σ0 σ1) (fM : FrK τ0 τ1) (h23 : gI τ1 0 23 = gI τ0 0 23) : LN σ0 τ0 T ρ p0 (X8_takeChange_B98 (nI (pk l)) (nI l.length) (nI (pk li)) (nI li.length) σ1) (X11_readLine_B141 τ1) := by
  have h200 := wT.1
  obtain ⟨he1, he2, he3⟩ := tE_le hp1
  obtain ⟨hs1, hs2⟩ := tS_le hp1
  obtain ⟨g', a1, a2, a3⟩ := c_take hC.1 wT hp1 h3 (w := 3) (by decide)
  obtain ⟨g2, b1, b2', b3, b4⟩ := m_stop hM.1 wT hp1 hM.2.1 hT
  have a1' : X8_takeToken 3 σ1 = _ := a1
  unfold X8_takeChange_B98
  rw [a1', Option.bind_some]
  by_cases e : tK T p1 = 3
  · obtain ⟨c1, c2, c3⟩ := a2 (decide_eq_true e)
    have hC2 : SC (sIf σ1 3 g') T ρ U tb := hC.g hr (by rw [c2]; exact hC.2.2.2.1) (by rw [c3]; exact hC.2.2.2.2)
    obtain ⟨σ2, d1, d2, d3, d4⟩ := c_app hr hC2 h12 (l := l) (li := li)
    rw [decide_eq_true e, if_neg (show ¬ b2 true = 0 from n10), show gR (sIf σ1 3 g') 3 1 = ρ from hC2.2.1, chkN_lt hr, d1, Option.bind_some]
    exact Or.inl ⟨σ2, sIf τ1 0 g2, addU U l li, tb, tm, tE T p1, rfl, b1, d2, by rw [d4, gI_sIf]; exact c1.1, hM.o b2', hb, by rw [gI_sIf]; exact b3 e, hW.mono (by omega), by omega, he2, (fC.g _).tr d3, fM.o b2', by rw [gI_sIf, b2' 23 (by omega)]; exact h23⟩
  · obtain ⟨c1, c2⟩ := a3 (decide_eq_false e)
    obtain ⟨d1, d2⟩ := b4 e
    obtain ⟨f1, f2⟩ := fN_b T p1
    rw [decide_eq_false e, if_pos (show b2 false = 0 from rfl)]
    exact Or.inr ⟨sIf σ1 3 g', sIf τ1 0 g2, fN T p1, tS T p1, rfl, b1, by rw [gI_sIf]; exact c1, by rw [gI_sIf]; exact c2, by rw [gI_sIf]; exact d1, by rw [gI_sIf]; exact d2, f1, f2, by omega, fC.g _, fM.o b2'⟩
theorem k1_lt {q : Nat} (hq : q ≤ T.1) (h : tK T q = 1) : q < tE T q ∧ tE T q ≤ T.1 := by
  obtain ⟨a, b, c⟩ := tE_le hq
  obtain ⟨d, e⟩ := tS_le hq
  have := c (fun h0 => by unfold tK at h; rw [h0, if_neg (fun h => by omega)] at h; omega)
  exact ⟨by omega, b⟩
theorem LN_say (hr : ρ < 2) (wT : WTp T) (hp : p ≤ T.1) (hC : SC σ T ρ U tb) (hTC : TC (gI σ 3) T p) (hM : SM τ T U tm) (hb : BT tb tm) (hT : TM (gI τ 0) T p) (h1 : tK T p = 1) (hW : WUp U p) (sd : Bool) : LN σ τ T ρ p (X8_takeChange (b2 sd) σ) (X11_readLine_B41 (nI (if sd = true then 0 else 1)) τ) := by
  have h200 := wT.1
  have hu12 := hW.1
  obtain ⟨hpe, he2⟩ := k1_lt hp h1
  obtain ⟨hs1, hs2⟩ := tS_le hp
  obtain ⟨m9, m10, m11, -⟩ := id hT
  obtain ⟨q7, q11, -⟩ := m11 (by omega)
  obtain ⟨vv, hv⟩ : ∃ v, v = if sd = true then 0 else 1 := ⟨_, rfl⟩
  have hv1 : vv ≤ 1 := by rw [hv]; split <;> decide
  have hM1 : SM (sI τ 0 32 (nI (tm ||| 2 ^ vv))) T U (tm ||| 2 ^ vv) := hM.told _
  have hb1 : BT tb (tm ||| 2 ^ vv) := bt_low (by omega) hb
  have hT1 : TM (gI (sI τ 0 32 (nI (tm ||| 2 ^ vv))) 0) T p := hT
  have fM1 : FrK τ (sI τ 0 32 (nI (tm ||| 2 ^ vv))) := FrK.rf.z (by omega)
  have hRL : X11_readLine_B41 (nI vv) τ = (X11_readSay (nI vv) (sI τ 0 32 (nI (tm ||| 2 ^ vv)))).bind fun σ13 => X11_readLine_B141 σ13 := by
    unfold X11_readLine_B41
    rw [q7, if_pos (by decide), hM.2.2.2.1, one_shl32 vv (by omega), nI_or, bnd, if_neg (show ¬ (2 : Int32) ≤ nI vv from nI_ge (b := 2) (by omega) (by decide))]
    rcases (by omega : vv = 0 ∨ vv = 1) with e | e
    · rw [e, if_neg (show ¬ nI 0 = 1 by decide)]; rfl
    · rw [e, if_pos (show nI 1 = 1 from rfl)]; rfl
  rw [← hv, hRL]
  unfold X8_takeChange X11_readSay
  rw [hC.2.1, chkN_lt hr, hC.2.2.1.1, hM1.2.2.2.2.1]
  simp only [show (nI (uM U) = (12 : Int32)) = (uM U = 12) from eqI (b := 12) (by omega) (by decide)]
  by_cases e12 : uM U = 12
  · rw [if_pos e12, if_pos e12, c_ref0, Option.bind_some, show (5 : Int32) = nI 5 from rfl, m_fail0 (τ := sI τ 0 32 (nI (tm ||| 2 ^ vv))) q7, Option.bind_some, ps_B14 (f := 5) (by rw [gI_sIf]; rfl) (by decide) (by decide), Option.bind_some, ps_B141 (f := 5) (by rw [gI_sIf]; rfl) (by decide) (by decide)]
    exact Or.inr ⟨_, _, 5, tS T p, rfl, rfl, by rw [gI_sIf]; rfl, by rw [gI_sIf]; exact hTC.2.2.1, by rw [gI_sIf]; rfl, by rw [gI_sIf]; exact m10, by decide, by decide, by omega, FrG.rf.g _, fM1.o (o12_f _ _ _)⟩
  · rw [if_neg e12, if_neg e12]
    obtain ⟨g1, a1, a2, a3⟩ := c_takeName hC.1 wT he2 hTC.1 (L := 3) (by decide)
    have a1' : X8_takeName 3 σ = _ := a1
    obtain ⟨g2, b1, b2', b3⟩ := m_nextT hM1 wT hp hT1 (by omega)
    have hM2 := hM1.o b3
    have hT2 : TM (gI (sIf (sI τ 0 32 (nI (tm ||| 2 ^ vv))) 0 g2) 0) T (tE T p) := by rw [gI_sIf]; exact b2'
    have fM2 := fM1.o b3
    have z23 : gI (sIf (sI τ 0 32 (nI (tm ||| 2 ^ vv))) 0 g2) 0 23 = gI τ 0 23 := by rw [gI_sIf, b3 23 (by omega), gI_sI, if_neg (by decide)]
    obtain ⟨τ2, eτ2⟩ : ∃ t, t = sIf (sI τ 0 32 (nI (tm ||| 2 ^ vv))) 0 g2 := ⟨_, rfl⟩
    rw [← eτ2] at hM2 hT2 fM2 z23 b1
    obtain ⟨g3, c1, c2, c3, c4⟩ := m_want wT he2 hT2 (L := 3) (by decide)
    have c1' : X11_wantName 3 τ2 = _ := c1
    unfold X11_readSay_B14
    rw [a1', Option.bind_some, b1, Option.bind_some, c1', Option.bind_some]
    obtain ⟨z, hz⟩ : ∃ n, FU = n + 1 := ⟨999999, rfl⟩
    by_cases eo : tK T (tE T p) = 1 ∧ tE T (tE T p) - tS T (tE T p) ≤ 3
    · obtain ⟨d1, d2, d3⟩ := a2 (decide_eq_true eo)
      obtain ⟨k1, k2, k3, k4, k5⟩ := ltk_ok he2 eo.1
      obtain ⟨pe, pe2⟩ := k1_lt he2 eo.1
      obtain ⟨l1, l2⟩ := tS_le he2
      have hl3 : (ltk T (tE T p)).length ≤ 3 := by omega
      rw [c3 (decide_eq_true eo), sIf_self]
      have hL25 := m_L25 hM2 wT he2 hT2 eo.1 hl3 (hW.mono (by omega)) (nI vv) (uM U) FU 0 (by omega) (by show _ < 1000000; omega)
      have hL25' : X11_readSay_L25 FU (nI vv) (0 : Int32) τ2 = _ := hL25
      have hC2 : SC (sIf σ 3 g1) T ρ U tb := hC.g hr (by rw [d2]; exact hC.2.2.2.1) (by rw [d3]; exact hC.2.2.2.2)
      rw [hL25', decide_eq_true eo, if_neg (show ¬ b2 true = 0 from n10), show gR (sIf σ 3 g1) 3 1 = ρ from hC2.2.1, chkN_lt hr, gI_sIf, d1.2.2.2.2, k4, c_isCh hC2.2.2.1 hW k3 hl3, Option.bind_some, ← List.range_eq_range']
      have hsd : ((List.range (uM U)).any fun c => decide (uF U c = ltk T (tE T p))) = sdA U (ltk T (tE T p)) := rfl
      rw [hsd]
      cases es : sdA U (ltk T (tE T p)) with
      | true =>
        rw [if_neg (show ¬ b2 true = 0 from n10), if_pos rfl, c_refuse, Option.bind_some, Option.bind_some, ps_B141 (f := 4) (by rw [gI_sIf]; rfl) (by decide) (by decide)]
        exact Or.inr ⟨_, _, 4, tS T (tE T p), rfl, rfl, by rw [gI_sIf]; rfl, by rw [gI_sIf]; exact d1.2.2.1, by rw [gI_sIf]; rfl, by rw [gI_sIf]; exact hT2.2.1, by decide, by decide, by omega, FrG.rf.g _, fM2.o (o12_f _ _ _)⟩
      | false =>
        rw [if_pos (show b2 false = 0 from rfl), if_neg (by decide), bnd, bnd, d1.2.2.2.1, ← k1]
        -- the reference writes
        obtain ⟨l, el⟩ : ∃ l, l = ltk T (tE T p) := ⟨_, rfl⟩
        rw [← el] at k1 k2 k3 k4 hl3 es ⊢
        have q7' := (hT2.2.2.1 (by omega)).1
        have w14 : ∃ τ4, SM τ4 T U (tm ||| 2 ^ vv) ∧ TM (gI τ4 0) T (tE T p) ∧ FrK τ τ4 ∧ gI τ4 0 23 = gI τ 0 23 ∧ (∀ x, x < 3 → gI τ4 14 (3 * uM U + x) = nI (l.getD x 0)) ∧ (∀ x, x < 2 → gI τ4 15 (2 * uM U + x) = 0) ∧ X11_readSay_L113 FU (nI vv) 0 τ2 = (X11_next τ4).bind fun σ5 => if nI vv = 0 then ((X11_wantName 2 σ5).bind fun σ7 => if (gI σ7 0 7) = 0 then ((X11_letter 0 σ7).bind fun v10 => chk (2 * (gI σ7 0 25)) 24 (bnd (sI σ7 15 (2 * (gI σ7 0 25)).toNatClampNeg v10) fun σ11 => (X11_letter 1 σ11).bind fun v12 => chk ((2 * (gI σ11 0 25)) + 1) 24 (bnd (sI σ11 15 ((2 * (gI σ11 0 25)) + 1).toNatClampNeg v12) fun σ13 => X11_readSay_B222 σ13))) else (X11_readSay_B222 σ7)) else (bnd (sI σ5 0 25 ((gI σ5 0 25) + 1)) fun σ6 => some σ6) := by
          have st : ∀ m x τ', x < 3 → SM τ' T U (tm ||| 2 ^ vv) → TM (gI τ' 0) T (tE T p) → X11_readSay_L113 (m + 1) (nI vv) (nI x) τ' = X11_readSay_L113 m (nI vv) (nI (x + 1)) (sI τ' 14 (3 * uM U + x) (nI (l.getD x 0))) := fun m x τ' hx h1' h2' => by
            rw [X11_readSay_L113, if_neg (show ¬ (3 : Int32) ≤ nI x from nI_ge (b := 3) hx (by decide)), m_letter h1'.1 wT h1'.2.1 he2 h2' eo.1 (by omega), Option.bind_some, h1'.2.2.2.2.1, mul3, chk_nI (by omega) (by decide), nI_cl (by omega), bnd, nI_1, el]
          obtain ⟨z4, hz4⟩ : ∃ n, FU = n + 1 + 1 + 1 + 1 := ⟨999996, rfl⟩
          have s1 := hM2.s14 (x := 0) (v := nI (l.getD 0 0))
          have t1 : TM (gI (sI τ2 14 (3 * uM U + 0) (nI (l.getD 0 0))) 0) T (tE T p) := by rw [gI_sIn (by decide)]; exact hT2
          have s2 := s1.s14 (x := 1) (v := nI (l.getD 1 0))
          have t2 : TM (gI (sI (sI τ2 14 (3 * uM U + 0) (nI (l.getD 0 0))) 14 (3 * uM U + 1) (nI (l.getD 1 0))) 0) T (tE T p) := by rw [gI_sIn (by decide)]; exact t1
          have s3 := s2.s14 (x := 2) (v := nI (l.getD 2 0))
          have t3 : TM (gI (sI (sI (sI τ2 14 (3 * uM U + 0) (nI (l.getD 0 0))) 14 (3 * uM U + 1) (nI (l.getD 1 0))) 14 (3 * uM U + 2) (nI (l.getD 2 0))) 0) T (tE T p) := by rw [gI_sIn (by decide)]; exact t2
          have s4 := s3.s15 (x := 0) (v := 0)
          have s5 := s4.s15 (x := 1) (v := 0)
          refine ⟨_, s5, ?_, ((((fM2.s (by omega)).s (by omega)).s (by omega)).s (by omega)).s (by omega), ?_, fun x hx => ?_, fun x hx => ?_, ?_⟩
          · rw [gI_sIn (by decide), gI_sIn (by decide)]; exact t3
          · rw [gI_sIn (by decide), gI_sIn (by decide), gI_sIn (by decide), gI_sIn (by decide), gI_sIn (by decide)]; exact z23
          · rw [gI_sIn (by decide), gI_sIn (by decide), gI_sI, gI_sI, gI_sI]
            rcases (by omega : x = 0 ∨ x = 1 ∨ x = 2) with rfl | rfl | rfl
            · rw [if_neg (by omega), if_neg (by omega), if_pos ⟨rfl, rfl⟩]
            · rw [if_neg (by omega), if_pos ⟨rfl, rfl⟩]
            · rw [if_pos ⟨rfl, rfl⟩]
          · rw [gI_sI, gI_sI]
            rcases (by omega : x = 0 ∨ x = 1) with rfl | rfl
            · rw [if_neg (by omega), if_pos ⟨rfl, rfl⟩]
            · rw [if_pos ⟨rfl, rfl⟩]
          · rw [show X11_readSay_L113 FU (nI vv) 0 τ2 = X11_readSay_L113 FU (nI vv) (nI 0) τ2 from rfl, hz4, st _ 0 _ (by decide) hM2 hT2, st _ 1 _ (by decide) s1 t1, st _ 2 _ (by decide) s2 t2, X11_readSay_L113, if_pos (show (3 : Int32) ≤ nI (2 + 1) by decide), s3.2.2.2.2.1, show (2 : Int32) * nI (uM U) = nI (2 * uM U) from pk_mul 2 _, chk_nI (by omega) (by decide), nI_cl (show 2 * uM U < 2 ^ 31 by omega), bnd, show gI (sI (sI (sI (sI τ2 14 (3 * uM U + 0) (nI (l.getD 0 0))) 14 (3 * uM U + 1) (nI (l.getD 1 0))) 14 (3 * uM U + 2) (nI (l.getD 2 0))) 15 (2 * uM U) 0) 0 25 = nI (uM U) from s4.2.2.2.2.1, show (2 : Int32) * nI (uM U) = nI (2 * uM U) from pk_mul 2 _, nI_1, chk_nI (by omega) (by decide), nI_cl (show 2 * uM U + 1 < 2 ^ 31 by omega), bnd]
            rfl
        obtain ⟨τ4, M4, T4, F4, V4, E14, E15, EL⟩ := w14
        rw [EL]
        obtain ⟨g5, n1, n2, n3⟩ := m_nextT M4 wT he2 T4 (by omega)
        have M5 := M4.o n3
        have T5 : TM (gI (sIf τ4 0 g5) 0) T (tE T (tE T p)) := by rw [gI_sIf]; exact n2
        have F5 := F4.o n3
        have V5 : gI (sIf τ4 0 g5) 0 23 = gI τ 0 23 := by rw [gI_sIf, n3 23 (by omega)]; exact V4
        rw [n1, Option.bind_some]
        cases sd with
        | false =>
          have hv' : vv = 1 := by rw [hv]; rfl
          rw [hv', if_neg (show ¬ nI 1 = 0 by decide), if_pos (show b2 false = 0 from rfl), bnd, M5.2.2.2.2.1, nI_1, Option.bind_some]
          unfold X8_takeChange_B72
          rw [if_pos (show b2 false = 0 from rfl), if_pos (show b2 false = 0 from rfl)]
          have M6 := M5.add (l := l) (li := []) (fun x hx => by rw [gI_sIfn (by decide)]; exact E14 x hx) (fun x hx => by rw [gI_sIfn (by decide), E15 x hx]; rfl)
          rw [hv'] at M6 hb1
          exact say_end (li := []) hr wT (show p < tE T (tE T p) by omega) pe2 hC2 (by rw [gI_sIf]; exact d1.1) (by omega) M6 hb1 T5 (hW.add (by omega) (by omega) k2 hl3 k3 (by decide) (fun x hx => by simp at hx) es) (FrG.rf.g _) (F5.z (by omega)) (by rw [gI_sI, if_neg (by decide)]; exact V5)
        | true =>
          have hv' : vv = 0 := by rw [hv]; rfl
          obtain ⟨g6, r1, r2, r3⟩ := c_takeName hC2.1 wT pe2 (by rw [gI_sIf]; exact d1.1) (L := 2) (by decide)
          have r1' : X8_takeName 2 (sIf σ 3 g1) = _ := r1
          obtain ⟨g7, u1, u2, u3, u4⟩ := m_want wT pe2 T5 (L := 2) (by decide)
          have u1' : X11_wantName 2 (sIf τ4 0 g5) = _ := u1
          rw [hv', if_pos (show nI 0 = 0 from rfl), if_neg (show ¬ b2 true = 0 from n10), r1', Option.bind_some, u1', Option.bind_some]
          by_cases e2 : tK T (tE T (tE T p)) = 1 ∧ tE T (tE T (tE T p)) - tS T (tE T (tE T p)) ≤ 2
          · obtain ⟨v1, v2, v3⟩ := r2 (decide_eq_true e2)
            obtain ⟨j1, j2, j3, j4, j5⟩ := ltk_ok pe2 e2.1
            obtain ⟨x1, x2⟩ := k1_lt pe2 e2.1
            have q75 := (T5.2.2.1 (by omega)).1
            have hself : sIf (sIf τ4 0 g5) 0 g7 = sIf τ4 0 g5 := by rw [u3 (decide_eq_true e2), sIf_self]
            rw [hself, decide_eq_true e2, if_neg (show ¬ b2 true = 0 from n10), q75, if_pos rfl, show (0 : Int32) = nI 0 from rfl, m_letter M5.1 wT M5.2.1 pe2 T5 e2.1 (by decide), Option.bind_some, M5.2.2.2.2.1, show (2 : Int32) * nI (uM U) = nI (2 * uM U) from pk_mul 2 _, chk_nI (by omega) (by decide), nI_cl (show 2 * uM U < 2 ^ 31 by omega), bnd]
            have M6 := M5.s15 (x := 0) (v := nI ((ltk T (tE T (tE T p))).getD 0 0))
            have T6 : TM (gI (sI (sIf τ4 0 g5) 15 (2 * uM U + 0) (nI ((ltk T (tE T (tE T p))).getD 0 0))) 0) T (tE T (tE T p)) := by rw [gI_sIn (by decide)]; exact T5
            have L1 := m_letter M6.1 wT M6.2.1 pe2 T6 e2.1 (x := 1) (by decide)
            have M7 := M6.s15 (x := 1) (v := nI ((ltk T (tE T (tE T p))).getD 1 0))
            have T7 : TM (gI (sI (sI (sIf τ4 0 g5) 15 (2 * uM U + 0) (nI ((ltk T (tE T (tE T p))).getD 0 0))) 15 (2 * uM U + 1) (nI ((ltk T (tE T (tE T p))).getD 1 0))) 0) T (tE T (tE T p)) := by rw [gI_sIn (by decide)]; exact T6
            have L1' : X11_letter 1 (sI (sIf τ4 0 g5) 15 (2 * uM U) (nI ((ltk T (tE T (tE T p))).getD 0 0))) = _ := L1
            rw [L1', Option.bind_some, show gI (sI (sIf τ4 0 g5) 15 (2 * uM U) (nI ((ltk T (tE T (tE T p))).getD 0 0))) 0 25 = nI (uM U) from M6.2.2.2.2.1, show (2 : Int32) * nI (uM U) = nI (2 * uM U) from pk_mul 2 _, nI_1, chk_nI (by omega) (by decide), nI_cl (show 2 * uM U + 1 < 2 ^ 31 by omega), bnd]
            obtain ⟨g8, o1, o2, o3⟩ := m_nextT M7 wT pe2 T7 (by omega)
            have M8 := M7.o o3
            have T8 : TM (gI (sIf (sI (sI (sIf τ4 0 g5) 15 (2 * uM U + 0) (nI ((ltk T (tE T (tE T p))).getD 0 0))) 15 (2 * uM U + 1) (nI ((ltk T (tE T (tE T p))).getD 1 0))) 0 g8) 0) T (tE T (tE T (tE T p))) := by rw [gI_sIf]; exact o2
            have o1' : X11_next (sI (sI (sIf τ4 0 g5) 15 (2 * uM U) (nI ((ltk T (tE T (tE T p))).getD 0 0))) 15 (2 * uM U + 1) (nI ((ltk T (tE T (tE T p))).getD 1 0))) = _ := o1
            unfold X11_readSay_B222
            rw [o1', Option.bind_some, M8.2.2.2.2.1, nI_1, bnd, Option.bind_some]
            unfold X8_takeChange_B72
            rw [if_neg (show ¬ b2 true = 0 from n10), bnd, if_neg (show ¬ b2 true = 0 from n10)]
            dsimp only
            rw [gI_sIf, v1.2.2.2.2, v1.2.2.2.1, j4, ← j1]
            have hC3 : SC (sIf (sIf σ 3 g1) 3 g6) T ρ U tb := hC2.g hr (by rw [v2]; exact hC2.2.2.2.1) (by rw [v3]; exact hC2.2.2.2.2)
            have M9 := M8.add (l := l) (li := ltk T (tE T (tE T p))) (fun x hx => by
              rw [gI_sIfn (by decide), gI_sIn (by decide), gI_sIn (by decide), gI_sIfn (by decide)]; exact E14 x hx) (fun x hx => by
              rw [gI_sIfn (by decide), gI_sI, gI_sI]
              rcases (by omega : x = 0 ∨ x = 1) with rfl | rfl
              · rw [if_neg (by omega), if_pos ⟨rfl, rfl⟩]
              · rw [if_pos ⟨rfl, rfl⟩])
            rw [hv'] at M9 hb1
            exact say_end hr wT (show p < tE T (tE T (tE T p)) by omega) x2 hC3 (by rw [gI_sIf]; exact v1.1) (by omega) M9 hb1 T8 (hW.add (by omega) (by omega) k2 hl3 k3 (by omega) j3 es) ((FrG.rf.g _).g _) ((((F5.s (by omega)).s (by omega)).o o3).z (by omega)) (by rw [gI_sI, if_neg (by decide), gI_sIf, o3 23 (by omega), gI_sIn (by decide), gI_sIn (by decide)]; exact V5)
          · obtain ⟨v1, v2⟩ := r3 (decide_eq_false e2)
            obtain ⟨w1, w2⟩ := u4 (decide_eq_false e2)
            obtain ⟨f1, f2⟩ := fN_b T (tE T (tE T p))
            obtain ⟨y1, y2⟩ := nI_n0 f1 f2
            obtain ⟨ts1, ts2⟩ := tS_le pe2
            rw [decide_eq_false e2, if_pos (show b2 false = 0 from rfl), gI_sIf, w1, if_neg y1]
            unfold X11_readSay_B222
            rw [m_next1 (by rw [gI_sIf, w1]; exact y2), Option.bind_some, bnd, Option.bind_some, ps_B141 (f := fN T (tE T (tE T p))) (by rw [gI_sI, if_neg (by decide), gI_sIf]; exact w1) f1 f2]
            exact Or.inr ⟨_, _, fN T (tE T (tE T p)), tS T (tE T (tE T p)), rfl, rfl, by rw [gI_sIf]; exact v1, by rw [gI_sIf]; exact v2, by rw [gI_sI, if_neg (by decide), gI_sIf]; exact w1, by rw [gI_sI, if_neg (by decide), gI_sIf]; exact w2, f1, f2, by omega, (FrG.rf.g _).g _, (F5.o u2).z (by omega)⟩
    · obtain ⟨d1, d2⟩ := a3 (decide_eq_false eo)
      obtain ⟨d3, d4⟩ := c4 (decide_eq_false eo)
      obtain ⟨f1, f2⟩ := fN_b T (tE T p)
      obtain ⟨l1, l2⟩ := tS_le he2
      rw [decide_eq_false eo, if_pos (show b2 false = 0 from rfl), hz, ps_L25 (f := fN T (tE T p)) (by rw [gI_sIf]; exact d3) f1 f2, Option.bind_some, ps_B141 (f := fN T (tE T p)) (by rw [gI_sIf]; exact d3) f1 f2]
      exact Or.inr ⟨_, _, fN T (tE T p), tS T (tE T p), rfl, rfl, by rw [gI_sIf]; exact d1, by rw [gI_sIf]; exact d2, by rw [gI_sIf]; exact d3, by rw [gI_sIf]; exact d4, f1, f2, by omega, FrG.rf.g _, fM2.o c2⟩
end Say3
