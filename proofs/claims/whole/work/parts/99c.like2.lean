/-! like: both sides -/
section Like2
variable {σ τ : St} {T : DT} {ρ p : Nat} {U : DU} {tb tm : Nat}
theorem one_l {l : List Nat} (h : l.length = 1) (hl : LTR l) : pk l = l.getD 0 0 ∧ 1 ≤ l.getD 0 0 ∧ l.getD 0 0 ≤ 26 := by
  match l, h, hl with
  | [a], _, hl =>
    have := hl a (by simp)
    exact ⟨by show 32 * 0 + a = a; omega, this.1, this.2⟩
theorem WUp.addK {p' : Nat} (h : WUp U p) (hp : p + 5 ≤ p') {a b c : Nat} (ha1 : 1 ≤ a) (ha : a ≤ 26) (hb1 : 1 ≤ b) (hb : b ≤ 26) (hab : a ≠ b) (hc : c ≤ 20) : WUp (addK U a b c) p' := by
  obtain ⟨x1, x2, x3, x4, x5, x6⟩ := h
  refine ⟨x1, x2, x3, by show 5 * (uK U + 1) ≤ p'; omega, fun k hk => ?_, x6⟩
  have hk' : k < uK U + 1 := hk
  show 1 ≤ (if k = uK U then a else uA U k) ∧ (if k = uK U then a else uA U k) ≤ 26 ∧ 1 ≤ (if k = uK U then b else uB U k) ∧ (if k = uK U then b else uB U k) ≤ 26 ∧ (if k = uK U then a else uA U k) ≠ (if k = uK U then b else uB U k) ∧ (if k = uK U then c else uC U k) ≤ 20
  by_cases e : k = uK U
  · simp only [if_pos e]
    exact ⟨ha1, ha, hb1, hb, hab, hc⟩
  · simp only [if_neg e]
    exact x5 k (by omega)
theorem LN_like (hr : ρ < 2) (wT : WTp T) (hp : p ≤ T.1) (hC : SC σ T ρ U tb) (hTC : TC (gI σ 3) T p) (hM : SM τ T U tm) (hb : BT tb tm) (hT : TM (gI τ 0) T p) (h1 : tK T p = 1) (hlen : p + 4 ≤ tE T p) (hW : WUp U p) : LN σ τ T ρ p (X8_takeLike σ) (X11_readLine_B41 (nI 2) τ) := by
  have h200 := wT.1
  have hK5 := hW.2.2.2.1
  obtain ⟨hpe, he2⟩ := k1_lt hp h1
  obtain ⟨m9, m10, m11, -⟩ := id hT
  obtain ⟨q7, q11, -⟩ := m11 (by omega)
  obtain ⟨e0, h_e0⟩ : ∃ e, e = tE T p := ⟨_, rfl⟩
  rw [← h_e0] at hlen hpe he2
  have hM1 : SM (sI τ 0 32 (nI (tm ||| 2 ^ 2))) T U (tm ||| 2 ^ 2) := hM.told _
  have hb1 : BT tb (tm ||| 2 ^ 2) := bt_low (by decide) hb
  have hT1 : TM (gI (sI τ 0 32 (nI (tm ||| 2 ^ 2))) 0) T p := hT
  have fM1 : FrK τ (sI τ 0 32 (nI (tm ||| 2 ^ 2))) := FrK.rf.z (by omega)
  obtain ⟨g2, b1, b2', b3⟩ := m_nextT hM1 wT hp hT1 (by omega)
  have M2 := hM1.o b3
  have T2 : TM (gI (sIf (sI τ 0 32 (nI (tm ||| 2 ^ 2))) 0 g2) 0) T e0 := by rw [gI_sIf, h_e0]; exact b2'
  have F2 := fM1.o b3
  have V2 : gI (sIf (sI τ 0 32 (nI (tm ||| 2 ^ 2))) 0 g2) 0 23 = gI τ 0 23 := by rw [gI_sIf, b3 23 (by omega), gI_sI, if_neg (by decide)]
  obtain ⟨τ2, eτ2⟩ : ∃ t, t = sIf (sI τ 0 32 (nI (tm ||| 2 ^ 2))) 0 g2 := ⟨_, rfl⟩
  rw [← eτ2] at M2 T2 F2 V2 b1
  have hRL : X11_readLine_B41 (nI 2) τ = ((X11_wantName 1 τ2).bind fun σ2 => if (gI σ2 0 7) = 0 then ((X11_letter 0 σ2).bind fun v16 => X11_readLike_B25 v16 σ2) else (X11_readLike_B25 (0 : Int32) σ2)).bind fun σ12 => X11_readLine_B141 σ12 := by
    unfold X11_readLine_B41
    rw [q7, if_pos (by decide), hM.2.2.2.1, one_shl32 2 (by decide), nI_or, bnd, if_pos (by decide), if_pos (show nI 2 = 2 from rfl)]
    unfold X11_readLike
    rw [b1, Option.bind_some]
  rw [hRL]
  obtain ⟨g1, a1, a2, a3⟩ := c_takeName hC.1 wT he2 (by rw [h_e0]; exact hTC.1) (L := 1) (by decide)
  have a1' : X8_takeName 1 σ = _ := a1
  obtain ⟨g3, c1, c2, c3, c4⟩ := m_want wT he2 T2 (L := 1) (by decide)
  have c1' : X11_wantName 1 τ2 = _ := c1
  unfold X8_takeLike
  rw [a1', Option.bind_some, c1', Option.bind_some]
  by_cases eo : tK T e0 = 1 ∧ tE T e0 - tS T e0 ≤ 1
  · obtain ⟨d1, d2, d3⟩ := a2 (decide_eq_true eo)
    obtain ⟨k1, k2, k3, k4, k5⟩ := ltk_ok he2 eo.1
    obtain ⟨pe, pe2⟩ := k1_lt he2 eo.1
    obtain ⟨o1, o2, o3⟩ := one_l (by omega) k3
    obtain ⟨a, ea⟩ : ∃ a, a = (ltk T e0).getD 0 0 := ⟨_, rfl⟩
    rw [← ea] at o1 o2 o3
    have q72 := (T2.2.2.1 (by omega)).1
    have hC2 : SC (sIf σ 3 g1) T ρ U tb := hC.g hr (by rw [d2]; exact hC.2.2.2.1) (by rw [d3]; exact hC.2.2.2.2)
    have h32 : gI (sIf σ 3 g1) 3 3 = nI (tE T e0) := by rw [gI_sIf]; exact d1.1
    rw [c3 (decide_eq_true eo), sIf_self, decide_eq_true eo, if_neg (show ¬ b2 true = 0 from n10), q72, if_pos rfl, show X11_letter 0 τ2 = X11_letter (nI 0) τ2 from rfl, m_letter M2.1 wT M2.2.1 he2 T2 eo.1 (by decide), Option.bind_some, ← ea, bnd]
    dsimp only
    rw [gI_sIf, d1.2.2.2.2, k4, o1]
    obtain ⟨e1, h_e1⟩ : ∃ e, e = tE T e0 := ⟨_, rfl⟩
    rw [← h_e1] at pe pe2 h32
    -- the second letter
    obtain ⟨g4, n1, n2, n3⟩ := m_nextT M2 wT he2 T2 (by omega)
    have M3 := M2.o n3
    have T3 : TM (gI (sIf τ2 0 g4) 0) T e1 := by rw [gI_sIf, h_e1]; exact n2
    have F3 := F2.o n3
    have V3 : gI (sIf τ2 0 g4) 0 23 = gI τ 0 23 := by rw [gI_sIf, n3 23 (by omega)]; exact V2
    obtain ⟨τ3, eτ3⟩ : ∃ t, t = sIf τ2 0 g4 := ⟨_, rfl⟩
    rw [← eτ3] at M3 T3 F3 V3 n1
    obtain ⟨g5, r1, r2, r3⟩ := c_takeName hC2.1 wT pe2 h32 (L := 1) (by decide)
    have r1' : X8_takeName 1 (sIf σ 3 g1) = _ := r1
    obtain ⟨g6, u1, u2, u3, u4⟩ := m_want wT pe2 T3 (L := 1) (by decide)
    have u1' : X11_wantName 1 τ3 = _ := u1
    unfold X11_readLike_B25
    rw [n1, Option.bind_some, r1', Option.bind_some, u1', Option.bind_some]
    by_cases e2 : tK T e1 = 1 ∧ tE T e1 - tS T e1 ≤ 1
    · obtain ⟨v1, v2, v3⟩ := r2 (decide_eq_true e2)
      obtain ⟨j1, j2, j3, j4, j5⟩ := ltk_ok pe2 e2.1
      obtain ⟨x1, x2⟩ := k1_lt pe2 e2.1
      obtain ⟨y1, y2, y3⟩ := one_l (by omega) j3
      obtain ⟨b, eb⟩ : ∃ b, b = (ltk T e1).getD 0 0 := ⟨_, rfl⟩
      rw [← eb] at y1 y2 y3
      have q73 := (T3.2.2.1 (by omega)).1
      have hC3 : SC (sIf (sIf σ 3 g1) 3 g5) T ρ U tb := hC2.g hr (by rw [v2]; exact hC2.2.2.2.1) (by rw [v3]; exact hC2.2.2.2.2)
      obtain ⟨σ3, eσ3⟩ : ∃ s, s = sIf (sIf σ 3 g1) 3 g5 := ⟨_, rfl⟩
      have fC3 : FrG ρ σ σ3 := by rw [eσ3]; exact (FrG.rf.g _).g _
      have h33 : gI σ3 3 3 = nI (tE T e1) := by rw [eσ3, gI_sIf]; exact v1.1
      have h35 : gI σ3 3 5 = nI (tS T e1) := by rw [eσ3, gI_sIf]; exact v1.2.2.1
      have h37 : gI σ3 3 7 = nI b := by rw [eσ3, gI_sIf, v1.2.2.2.2, j4, y1]
      rw [← eσ3] at hC3 ⊢
      obtain ⟨ts1, ts2⟩ := tS_le pe2
      rw [u3 (decide_eq_true e2), sIf_self, decide_eq_true e2, if_neg (show ¬ b2 true = 0 from n10), q73, if_pos rfl, show X11_letter 0 τ3 = X11_letter (nI 0) τ3 from rfl, m_letter M3.1 wT M3.2.1 pe2 T3 e2.1 (by decide), Option.bind_some, ← eb, bnd]
      dsimp only
      rw [h37]
      unfold X11_readLike_B51
      rw [q73, if_pos rfl]
      obtain ⟨z, hz⟩ : ∃ n, FU = n + 1 := ⟨999999, rfl⟩
      simp only [eqI (show a < 2 ^ 31 by omega) (show b < 2 ^ 31 by omega)]
      by_cases eab : a = b
      · rw [if_pos eab, if_pos eab, c_ref0, Option.bind_some, show (3 : Int32) = nI 3 from rfl, m_fail0 q73, Option.bind_some, hz, ps_L71 (f := 3) (by rw [gI_sIf]; rfl) (by decide) (by decide), Option.bind_some, ps_B141 (f := 3) (by rw [gI_sIf]; rfl) (by decide) (by decide)]
        exact Or.inr ⟨_, _, 3, tS T e1, rfl, rfl, by rw [gI_sIf]; rfl, by rw [gI_sIf]; exact h35, by rw [gI_sIf]; rfl, by rw [gI_sIf]; exact T3.2.1, by decide, by decide, by omega, fC3.g _, F3.o (o12_f _ _ _)⟩
      · have h71 := m_L71 M3 hW (by omega) q73 o3 y3 (uK U) FU 0 (by omega) (by show _ < 1000000; omega)
        have h71' : X11_readLike_L71 FU (nI a) (nI b) (0 : Int32) τ3 = _ := h71
        rw [if_neg eab, if_neg eab, hC3.2.1, chkN_lt hr, c_isLk hC3.2.2.1 hW o3 y3, Option.bind_some, h71', ← List.range_eq_range', show ((List.range (uK U)).any (lkP U a b)) = lkA U a b from rfl]
        cases ek : lkA U a b with
        | true =>
          rw [if_neg (show ¬ b2 true = 0 from n10), if_pos rfl, c_ref0, Option.bind_some, Option.bind_some, ps_B141 (f := 4) (by rw [gI_sIf]; rfl) (by decide) (by decide)]
          exact Or.inr ⟨_, _, 4, tS T e1, rfl, rfl, by rw [gI_sIf]; rfl, by rw [gI_sIf]; exact h35, by rw [gI_sIf]; rfl, by rw [gI_sIf]; exact T3.2.1, by decide, by decide, by omega, fC3.g _, F3.o (o12_f _ _ _)⟩
        | false =>
          rw [if_pos (show b2 false = 0 from rfl), if_neg (by decide)]
          obtain ⟨e2', h_e2⟩ : ∃ e, e = tE T e1 := ⟨_, rfl⟩
          rw [← h_e2] at x1 x2 h33
          obtain ⟨g7, s1, s2, s3⟩ := m_nextT M3 wT pe2 T3 (by omega)
          have M4 := M3.o s3
          have T4 : TM (gI (sIf τ3 0 g7) 0) T e2' := by rw [gI_sIf, h_e2]; exact s2
          have F4 := F3.o s3
          have V4 : gI (sIf τ3 0 g7) 0 23 = gI τ 0 23 := by rw [gI_sIf, s3 23 (by omega)]; exact V3
          obtain ⟨τ4, eτ4⟩ : ∃ t, t = sIf τ3 0 g7 := ⟨_, rfl⟩
          rw [← eτ4] at M4 T4 F4 V4 s1
          obtain ⟨g8, w1, w2, w3⟩ := c_takeBetween hC3.1 wT x2 h33 (lo := 0) (hi := 20) (by decide) (by decide)
          have w1' : X8_takeBetween 0 20 σ3 = _ := w1
          obtain ⟨v, τ5, z1, ⟨g9, z2, z3, z4, z5⟩, z6⟩ := m_number wT x2 T4 (lo := 0) (hi := 20) (by decide) (by decide)
          have z1' : X11_number 0 20 τ4 = _ := z1
          have hτ5 := Option.some.inj z2
          unfold X11_readLike_B137
          rw [s1, Option.bind_some, w1', Option.bind_some, z1', Option.bind_some]
          by_cases eb3 : tK T e2' = 2 ∧ 0 ≤ tV T e2' ∧ tV T e2' ≤ 20
          · obtain ⟨p1, p2, p3⟩ := w2 (decide_eq_true eb3)
            rw [z4 (decide_eq_true eb3), sIf_self] at hτ5
            obtain ⟨he31, he32, he33⟩ := tE_le x2
            have hk02 : tK0 T e2' ≠ 0 := fun h => by
              have := eb3.1
              unfold tK at this
              rw [h, if_neg (fun h => by omega)] at this
              omega
            have hpe3 := he33 hk02
            obtain ⟨ts3, ts4⟩ := tS_le x2
            have hC4 : SC (sIf σ3 3 g8) T ρ U tb := hC3.g hr (by rw [p2]; exact hC3.2.2.2.1) (by rw [p3]; exact hC3.2.2.2.2)
            obtain ⟨σ5, i1, i2, i3, i4⟩ := c_appL hr hC4 hW (by omega) o3 y3 ek (c := tV T e2')
            rw [decide_eq_true eb3, if_neg (show ¬ b2 true = 0 from n10)]
            dsimp only
            rw [show gR (sIf σ3 3 g8) 3 1 = ρ from hC4.2.1, chkN_lt hr, gI_sIf, p1.2.2.2.2, i1, Option.bind_some, hτ5, z6 eb3]
            have fC5 : FrG ρ σ σ5 := (fC3.g _).tr i3
            have h35' : gI σ5 3 3 = nI (tE T e2') := by rw [i4, gI_sIf]; exact p1.1
            obtain ⟨g10, l1, l2, l3⟩ := m_nextT M4 wT x2 T4 (by omega)
            have M6 := M4.o l3
            have T6 : TM (gI (sIf τ4 0 g10) 0) T (tE T e2') := by rw [gI_sIf]; exact l2
            have F6 := F4.o l3
            have V6 : gI (sIf τ4 0 g10) 0 23 = gI τ 0 23 := by rw [gI_sIf, l3 23 (by omega)]; exact V4
            rw [l1, Option.bind_some]
            by_cases e4 : tK T (tE T e2') = 4
            · obtain ⟨y7, y8⟩ := T6.2.2.2 e4
              obtain ⟨ga, b5, b6, b7⟩ := c_take i2.1 wT he32 h35' (w := 3) (by decide)
              have b5' : X8_takeToken 3 σ5 = _ := b5
              obtain ⟨b8, b9⟩ := b7 (decide_eq_false (by omega))
              obtain ⟨tq1, tq2⟩ := tS_le he32
              rw [if_neg (show ¬ gI (sIf τ4 0 g10) 0 7 = 0 by rw [y7]; decide), Option.bind_some, ps_B141 (f := 1) y7 (by decide) (by decide), b5', Option.bind_some, decide_eq_false (by omega)]
              refine Or.inr ⟨_, _, 1, tS T (tE T e2'), rfl, rfl, ?_, by rw [gI_sIf]; exact b9, y7, y8, by decide, by decide, by omega, fC5.g _, F6⟩
              rw [gI_sIf, b8]
              unfold fN
              rw [if_pos e4]
            · have q76 := (T6.2.2.1 e4).1
              have hK40 : uK U < 40 := by omega
              rw [q76, if_pos rfl, M6.2.2.2.2.2.1, chk_nI hK40 (by decide), nI_cl (by omega), bnd, gI_sIn (q' := 0) (by decide), M6.2.2.2.2.2.1, chk_nI hK40 (by decide), nI_cl (by omega), bnd, gI_sIn (q' := 0) (by decide), gI_sIn (q' := 0) (by decide), M6.2.2.2.2.2.1, chk_nI hK40 (by decide), nI_cl (by omega), bnd, gI_sIn (q' := 0) (by decide), gI_sIn (q' := 0) (by decide), gI_sIn (q' := 0) (by decide), M6.2.2.2.2.2.1, bnd, nI_1, Option.bind_some]
              refine LNno.cb (LN_stop hr wT (show p < tE T e2' by omega) he32 i2 h35' M6.addK hb1 ?_ (hW.addK (by omega) o2 o3 y2 y3 eab eb3.2.2) fC5 ((((F6.s (by omega)).s (by omega)).s (by omega)).z (by omega)) ?_)
              · exact T6
              · exact V6
          · obtain ⟨p1, p2⟩ := w3 (decide_eq_false eb3)
            obtain ⟨p3, p4⟩ := z5 (decide_eq_false eb3)
            obtain ⟨f1, f2⟩ := fB_b T e2'
            obtain ⟨n1', n2'⟩ := nI_n0 f1 f2
            obtain ⟨ts3, ts4⟩ := tS_le x2
            have h7' : gI τ5 0 7 = nI (fB T e2') := by rw [hτ5, gI_sIf]; exact p3
            have h8' : gI τ5 0 8 = nI (tS T e2') := by rw [hτ5, gI_sIf]; exact p4
            rw [decide_eq_false eb3, if_pos (show b2 false = 0 from rfl), m_next1 (by rw [h7']; exact n2'), Option.bind_some, h7', if_neg n1', Option.bind_some, ps_B141 h7' f1 f2]
            exact Or.inr ⟨_, _, fB T e2', tS T e2', rfl, rfl, by rw [gI_sIf]; exact p1, by rw [gI_sIf]; exact p2, h7', h8', f1, f2, by omega, fC3.g _, by rw [hτ5]; exact F4.o z3⟩
    · obtain ⟨v1, v2⟩ := r3 (decide_eq_false e2)
      obtain ⟨w1, w2⟩ := u4 (decide_eq_false e2)
      obtain ⟨f1, f2⟩ := fN_b T e1
      obtain ⟨y1, y2⟩ := nI_n0 f1 f2
      obtain ⟨ts1, ts2⟩ := tS_le pe2
      rw [decide_eq_false e2, if_pos (show b2 false = 0 from rfl), gI_sIf, w1, if_neg y1, ps_B51 (f := fN T e1) (by rw [gI_sIf]; exact w1) f1 f2, Option.bind_some, ps_B141 (f := fN T e1) (by rw [gI_sIf]; exact w1) f1 f2]
      exact Or.inr ⟨_, _, fN T e1, tS T e1, rfl, rfl, by rw [gI_sIf]; exact v1, by rw [gI_sIf]; exact v2, by rw [gI_sIf]; exact w1, by rw [gI_sIf]; exact w2, f1, f2, by omega, (FrG.rf.g _).g _, F3.o u2⟩
  · obtain ⟨v1, v2⟩ := a3 (decide_eq_false eo)
    obtain ⟨w1, w2⟩ := c4 (decide_eq_false eo)
    obtain ⟨f1, f2⟩ := fN_b T e0
    obtain ⟨y1, y2⟩ := nI_n0 f1 f2
    obtain ⟨ts1, ts2⟩ := tS_le he2
    rw [decide_eq_false eo, if_pos (show b2 false = 0 from rfl), gI_sIf, w1, if_neg y1, ps_B25 (f := fN T e0) (by rw [gI_sIf]; exact w1) f1 f2, Option.bind_some, ps_B141 (f := fN T e0) (by rw [gI_sIf]; exact w1) f1 f2]
    exact Or.inr ⟨_, _, fN T e0, tS T e0, rfl, rfl, by rw [gI_sIf]; exact v1, by rw [gI_sIf]; exact v2, by rw [gI_sIf]; exact w1, by rw [gI_sIf]; exact w2, f1, f2, by omega, FrG.rf.g _, F2.o c2⟩
end Like2
