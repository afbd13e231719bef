/-! the line of sons -/
section Sons
variable {σ τ : St} {T : DT} {ρ p : Nat} {U : DU} {tb tm : Nat}
theorem ps_num {f : Nat} (h7 : gI τ 0 7 = nI f) (h1 : 1 ≤ f) (h5 : f ≤ 5) (a b : Int32) : X11_number a b τ = some (gI τ 0 12, τ) := by
  obtain ⟨n1, n2⟩ := nI_n0 h1 h5
  unfold X11_number X11_number_B20
  rw [h7, if_neg n1, if_neg n1]
theorem ps_B63 {f q : Nat} (h7 : gI τ 0 7 = nI f) (h8 : gI τ 0 8 = nI q) (h1 : 1 ≤ f) (h5 : f ≤ 5) : ∀ d m i x1 x3 τ, i + d = 3 → d + 1 < m → gI τ 0 7 = nI f → gI τ 0 8 = nI q → ∃ τ', X11_readSons_B63 (X11_readSons_L8 m) x1 (nI i) x3 τ = some τ' ∧ gI τ' 0 7 = nI f ∧ gI τ' 0 8 = nI q ∧ FrK τ τ' := by
  obtain ⟨n1, n2⟩ := nI_n0 h1 h5
  intro d
  induction d with
  | zero =>
    intro m i x1 x3 τ hi hm h7 h8
    obtain ⟨m, rfl⟩ : ∃ q, m = q + 1 := ⟨m - 1, by omega⟩
    have : i = 3 := by omega
    subst this
    unfold X11_readSons_B63
    rw [show (4 : Int32) + nI 3 = nI 7 from rfl, chk_nI (by decide) (by decide), bnd, nI_cl (by decide), m_next1 (by rw [gI_sIn (by decide), h7]; exact n2), Option.bind_some, nI_1, X11_readSons_L8, if_pos (by decide)]
    exact ⟨_, rfl, by rw [gI_sIn (by decide)]; exact h7, by rw [gI_sIn (by decide)]; exact h8, FrK.rf.s (by omega)⟩
  | succ d ih =>
    intro m i x1 x3 τ hi hm h7 h8
    obtain ⟨m, rfl⟩ : ∃ q, m = q + 1 := ⟨m - 1, by omega⟩
    unfold X11_readSons_B63
    have e7 : gI (sI τ 13 (4 + i) x3) 0 7 = nI f := by rw [gI_sIn (by decide)]; exact h7
    have e8 : gI (sI τ 13 (4 + i) x3) 0 8 = nI q := by rw [gI_sIn (by decide)]; exact h8
    rw [show (4 : Int32) + nI i = nI (4 + i) from nI_add 4 i, chk_nI (by omega) (by decide), bnd, nI_cl (by omega), m_next1 (by rw [e7]; exact n2), Option.bind_some, nI_1, X11_readSons_L8, if_neg (show ¬ (4 : Int32) ≤ nI (i + 1) from nI_ge (b := 4) (by omega) (by decide)), ps_num e7 h1 h5, Option.bind_some, e7, if_neg n1]
    unfold X11_readSons_B34
    rw [bnd, e7, if_neg n1]
    obtain ⟨τ', q1, q2, q3, q4⟩ := ih m (i + 1) (x1 + 0) (gI (sI τ 13 (4 + i) x3) 0 12) (sI τ 13 (4 + i) x3) (by omega) (by omega) e7 e8
    exact ⟨τ', q1, q2, q3, (FrK.rf.s (by omega)).tr q4⟩
theorem LN_sonsL (hr : ρ < 2) (wT : WTp T) (hW : WUp U p) (hb : BT tb tm) : ∀ d m m' i s σ1 τ1 (n1 : Nat → Nat) p1, i + d = 4 → d < m → d + 1 < m' → p < p1 → p1 ≤ T.1 → SC σ1 T ρ (n1, U.2) tb → gI σ1 3 3 = nI p1 → SM τ1 T (n1, U.2) tm → TM (gI τ1 0) T p1 → FrG ρ σ σ1 → FrK τ τ1 → gI τ1 0 23 = gI τ 0 23 → (∀ j, j < 4 → n1 j = uN U j) → (∀ j, j < 8 → n1 j ≤ 20) → s = sumTo (fun j => n1 (4 + j)) i → s ≤ 9 → (i = 4 → 1 ≤ s) → LN σ τ T ρ p (X8_takeSons_L14 m (nI s) (nI i) σ1) ((X11_readSons_L8 m' (nI s) (nI i) τ1).bind fun σ11 => X11_readLine_B141 σ11) := by
  have h200 := wT.1
  intro d
  induction d with
  | zero =>
    intro m m' i s σ1 τ1 n1 p1 hi hm hm' hp hp1 hC h3 hM hT fC fM h23 hn hn20 hs hs9 hs1
    obtain ⟨m, rfl⟩ : ∃ q, m = q + 1 := ⟨m - 1, by omega⟩
    obtain ⟨m', rfl⟩ : ∃ q, m' = q + 1 := ⟨m' - 1, by omega⟩
    have : i = 4 := by omega
    subst this
    have h1s := hs1 rfl
    have hsum : s = n1 4 + n1 5 + n1 6 + n1 7 := by
      rw [hs]
      show 0 + n1 4 + n1 5 + n1 6 + n1 7 = _
      omega
    rw [X8_takeSons_L14, if_pos (by decide), X11_readSons_L8, if_pos (by decide), Option.bind_some]
    refine LNno.cb (LN_stop hr wT hp hp1 hC h3 hM hb hT ?_ fC fM h23)
    obtain ⟨x1, x2, x3, x4, x5, x6, x7, x8, x9⟩ := hW
    refine ⟨x1, x2, x3, by show 5 * uK U ≤ p1; omega, x5, hn20, ?_, ?_, ?_⟩
    · show 1 ≤ n1 3
      rw [hn 3 (by decide)]; exact x7
    · show 1 ≤ n1 4 + n1 5 + n1 6 + n1 7
      omega
    · show n1 4 + n1 5 + n1 6 + n1 7 ≤ 9
      omega
  | succ d ih =>
    intro m m' i s σ1 τ1 n1 p1 hi hm hm' hp hp1 hC h3 hM hT fC fM h23 hn hn20 hs hs9 hs1
    obtain ⟨m, rfl⟩ : ∃ q, m = q + 1 := ⟨m - 1, by omega⟩
    obtain ⟨m', rfl⟩ : ∃ q, m' = q + 1 := ⟨m' - 1, by omega⟩
    obtain ⟨he1, he2, he3⟩ := tE_le hp1
    obtain ⟨l1, l2⟩ := tS_le hp1
    obtain ⟨g1, a1, a2, a3⟩ := c_takeBetween hC.1 wT hp1 h3 (lo := 0) (hi := 9) (by decide) (by decide)
    have a1' : X8_takeBetween 0 9 σ1 = _ := a1
    obtain ⟨v, τ3, c1, ⟨g3, c2, c3, c4, c5⟩, c6⟩ := m_number wT hp1 hT (lo := 0) (hi := 9) (by decide) (by decide)
    have c1' : X11_number 0 9 τ1 = _ := c1
    have hτ3 := Option.some.inj c2
    rw [X8_takeSons_L14, if_neg (show ¬ (4 : Int32) ≤ nI i from nI_ge (b := 4) (by omega) (by decide)), X11_readSons_L8, if_neg (show ¬ (4 : Int32) ≤ nI i from nI_ge (b := 4) (by omega) (by decide)), a1', Option.bind_some, c1', Option.bind_some]
    -- a fault: the reference goes on without effect
    have flt_ : ∀ f q τ4 x1 x3 σ4, gI τ4 0 7 = nI f → gI τ4 0 8 = nI q → 1 ≤ f → f ≤ 5 → q ≤ 200 → FrK τ τ4 → FrG ρ σ σ4 → gI σ4 3 8 = nI f → gI σ4 3 9 = nI q → LN σ τ T ρ p (some (0, σ4)) ((X11_readSons_B63 (X11_readSons_L8 m') x1 (nI i) x3 τ4).bind fun σ11 => X11_readLine_B141 σ11) := fun f q τ4 x1 x3 σ4 h7 h8 hf1 hf5 hq fk fg k8 k9 => by
      obtain ⟨τ5, q1, q2, q3, q4⟩ := ps_B63 h7 h8 hf1 hf5 (3 - i) m' i x1 x3 τ4 (by omega) (by omega) h7 h8
      rw [q1, Option.bind_some, ps_B141 q2 hf1 hf5]
      exact Or.inr ⟨_, _, f, q, rfl, rfl, k8, k9, q2, q3, hf1, hf5, hq, fg, fk.tr q4⟩
    by_cases eo : tK T p1 = 2 ∧ 0 ≤ tV T p1 ∧ tV T p1 ≤ 9
    · obtain ⟨d1, d2, d3⟩ := a2 (decide_eq_true eo)
      have hg3 := c4 (decide_eq_true eo)
      rw [hg3, sIf_self] at hτ3
      have q7 := (hT.2.2.1 (by omega)).1
      have hk02 : tK0 T p1 ≠ 0 := fun h => by
        have := eo.1
        unfold tK at this
        rw [h, if_neg (fun h => by omega)] at this
        omega
      have hpe := he3 hk02
      rw [hτ3, decide_eq_true eo, if_neg (show ¬ b2 true = 0 from n10), q7, if_pos rfl, c6 eo]
      have hC2 : SC (sIf σ1 3 g1) T ρ (n1, U.2) tb := hC.g hr (by rw [d2]; exact hC.2.2.2.1) (by rw [d3]; exact hC.2.2.2.2)
      unfold X11_readSons_B34
      rw [bnd, bnd, gI_sIf, d1.2.2.2.2, nI_add, q7, if_pos rfl]
      dsimp only
      have e9 : ((9 : Int32) < nI (s + tV T p1)) = (9 < s + tV T p1) := ltI (a := 9) (by decide) (by omega)
      have hcl : ∀ s0 : Int32, X8_takeSons_B48 (X8_takeSons_L14 m) (nI (s + tV T p1)) (nI i) s0 (sIf σ1 3 g1) = if 9 < s + tV T p1 then some (0, sIf σ1 3 (upd (upd g1 8 3) 9 (g1 5))) else (if s0 = 0 then (X8_takeSons_B69 (X8_takeSons_L14 m) (nI (s + tV T p1)) (nI i) (sIf σ1 3 g1)) else (if nI (s + tV T p1) = 0 then some (0, sIf σ1 3 (upd (upd g1 8 3) 9 (g1 5))) else (X8_takeSons_B69 (X8_takeSons_L14 m) (nI (s + tV T p1)) (nI i) (sIf σ1 3 g1)))) := fun s0 => by
        unfold X8_takeSons_B48
        rw [c_refuse, Option.bind_some]
        simp only [e9]
        rfl
      rw [hcl, hcl]
      simp only [e9]
      have hbad : LN σ τ T ρ p (some (0, sIf σ1 3 (upd (upd g1 8 3) 9 (g1 5)))) (((X11_fails 3 τ1).bind fun σ6 => X11_readSons_B63 (X11_readSons_L8 m') (nI (s + tV T p1)) (nI i) (nI (tV T p1)) σ6).bind fun σ11 => X11_readLine_B141 σ11) := by
        rw [show (3 : Int32) = nI 3 from rfl, m_fail0 q7, Option.bind_some]
        exact flt_ 3 (tS T p1) _ _ _ _ (by rw [gI_sIf]; rfl) (by rw [gI_sIf]; exact hT.2.1) (by decide) (by decide) (by omega) (fM.o (o12_f _ _ _)) (fC.g _) (by rw [gI_sIf]; rfl) (by rw [gI_sIf]; exact d1.2.2.1)
      have hgood : s + tV T p1 ≤ 9 → (i = 3 → 1 ≤ s + tV T p1) → LN σ τ T ρ p (X8_takeSons_B69 (X8_takeSons_L14 m) (nI (s + tV T p1)) (nI i) (sIf σ1 3 g1)) ((X11_readSons_B63 (X11_readSons_L8 m') (nI (s + tV T p1)) (nI i) (nI (tV T p1)) τ1).bind fun σ11 => X11_readLine_B141 σ11) := fun hle hge => by
        unfold X8_takeSons_B69 X11_readSons_B63
        rw [show gR (sIf σ1 3 g1) 3 1 = ρ from hC2.2.1, chkN_lt hr, show (4 : Int32) + nI i = nI (4 + i) from nI_add 4 i, chk_nI (by omega) (by decide), nI_cl (by omega), bnd, gI_sIf, d1.2.2.2.2, chk_nI (by omega) (by decide), bnd, nI_1]
        have hC3 := hC2.s6 hr (w := 4 + i) (v := tV T p1) (by omega)
        have hM3 := hM.s13 (w := 4 + i) (v := tV T p1)
        have hT3 : TM (gI (sI τ1 13 (4 + i) (nI (tV T p1))) 0) T p1 := by
          rw [gI_sIn (by decide)]
          exact hT
        obtain ⟨g4, f1, f2, f3⟩ := m_nextT hM3 wT hp1 hT3 (by omega)
        rw [f1, Option.bind_some]
        refine ih m m' (i + 1) (s + tV T p1) _ _ (up_ n1 (4 + i) (tV T p1)) (tE T p1) (by omega) (by omega) (by omega) (by omega) he2 hC3 ?_ (hM3.o f3) (by rw [gI_sIf]; exact f2) ((fC.g _).s (Or.inr (by unfold spr; omega))) ((fM.s (by omega)).o f3) ?_ ?_ ?_ ?_ hle (fun h => hge (by omega))
        · rw [gI_sIn (by omega), gI_sIf]; exact d1.1
        · rw [gI_sIf, f3 23 (by omega), gI_sIn (by decide)]; exact h23
        · intro j hj
          unfold up_
          rw [if_neg (by omega)]
          exact hn j hj
        · intro j hj
          unfold up_
          by_cases ej : j = 4 + i
          · rw [if_pos ej]; omega
          · rw [if_neg ej]; exact hn20 j hj
        · show s + tV T p1 = sumTo (fun j => up_ n1 (4 + i) (tV T p1) (4 + j)) i + up_ n1 (4 + i) (tV T p1) (4 + i)
          rw [sum_ext (g' := fun j => n1 (4 + j)) i (fun j hj => by unfold up_; rw [if_neg (by omega)]), ← hs]
          unfold up_
          rw [if_pos rfl]
      by_cases e1 : 9 < s + tV T p1
      · simp only [if_pos e1, ite_self]
        exact hbad
      · simp only [if_neg e1]
        by_cases e3 : i = 3
        · have e3' : nI i = 3 := by rw [e3]; rfl
          have ez : (nI (s + tV T p1) = (0 : Int32)) = (s + tV T p1 = 0) := eqI (b := 0) (by omega) (by decide)
          simp only [if_pos e3', if_neg n10, ez]
          by_cases e0 : s + tV T p1 = 0
          · simp only [if_pos e0]
            exact hbad
          · simp only [if_neg e0]
            exact hgood (by omega) (fun _ => by omega)
        · have e3' : ¬ nI i = 3 := fun h => e3 ((nI_eq (b := 3) (by omega) (by decide)).mp h)
          simp only [if_neg e3', if_true]
          exact hgood (by omega) (fun h => absurd h e3)
    · obtain ⟨d1, d2⟩ := a3 (decide_eq_false eo)
      obtain ⟨d3, d4⟩ := c5 (decide_eq_false eo)
      obtain ⟨f1, f2⟩ := fB_b T p1
      obtain ⟨n1', n2'⟩ := nI_n0 f1 f2
      have h7' : gI τ3 0 7 = nI (fB T p1) := by rw [hτ3, gI_sIf]; exact d3
      have h8' : gI τ3 0 8 = nI (tS T p1) := by rw [hτ3, gI_sIf]; exact d4
      rw [decide_eq_false eo, if_pos (show b2 false = 0 from rfl), h7', if_neg n1']
      unfold X11_readSons_B34
      rw [bnd, h7', if_neg n1']
      exact flt_ (fB T p1) (tS T p1) τ3 _ _ _ h7' h8' f1 f2 (by omega) (by rw [hτ3]; exact fM.o c3) (fC.g _) (by rw [gI_sIf]; exact d1) (by rw [gI_sIf]; exact d2)
theorem LN_sons (hr : ρ < 2) (wT : WTp T) (hp : p ≤ T.1) (hC : SC σ T ρ U tb) (hTC : TC (gI σ 3) T p) (hM : SM τ T U tm) (hb : BT tb tm) (hT : TM (gI τ 0) T p) (h1 : tK T p = 1) (hW : WUp U p) : LN σ τ T ρ p (X8_takeSons σ) (if (((gI τ 0 32) >>> (nI 7 &&& 31)) &&& 1) = 1 then ((X11_fails 4 τ).bind fun σ15 => X11_readLine_B41 (nI 7) σ15) else X11_readLine_B41 (nI 7) τ) := by
  have h200 := wT.1
  obtain ⟨he1, he2, he3⟩ := tE_le hp
  obtain ⟨hs1, hs2⟩ := tS_le hp
  obtain ⟨m9, m10, m11, -⟩ := id hT
  obtain ⟨q7, q11, -⟩ := m11 (by omega)
  have hbw := hb.2.2 4 (by decide)
  have hk0 : tK0 T p ≠ 0 := fun h => by
    unfold tK at h1
    rw [h, if_neg (fun h => by omega)] at h1
    omega
  have hpe := he3 hk0
  unfold X8_takeSons
  rw [show (4 : Int32) = nI 4 from rfl, c_tell hC hb.1 (show 4 < 5 by decide), hM.2.2.2.1]
  by_cases e : tb.testBit 4 = true
  · rw [if_pos e, Option.bind_some, if_pos rfl, if_pos ((bit32 (by have := hb.2.1; omega) (by decide)).mpr (by rw [← hbw]; exact e)), m_fail0 q7, Option.bind_some]
    unfold X11_readLine_B41
    rw [gI_sIf, if_neg (show ¬ upd (upd (gI τ 0) 7 (nI 4)) 8 (gI τ 0 10) 7 ≤ 0 from (by decide : ¬ nI 4 ≤ 0))]
    exact Or.inr ⟨_, _, 4, tS T p, rfl, rfl, by rw [gI_sIf]; rfl, by rw [gI_sIf]; exact hTC.2.2.1, by rw [gI_sIf]; rfl, by rw [gI_sIf]; exact m10, by decide, by decide, by omega, FrG.rf.g _, FrK.rf.o (o12_f _ _ _)⟩
  · rw [if_neg e, Option.bind_some, if_neg n10, if_neg (fun h => e (by rw [hbw]; exact (bit32 (by have := hb.2.1; omega) (by decide)).mp h))]
    have hC1 : SC (sI σ 3 2 (nI (tb ||| 2 ^ 4))) T ρ U (tb ||| 2 ^ 4) := by
      rw [sI_as]
      exact hC.g hr rfl hC.2.2.2.2
    have h31 : gI (sI σ 3 2 (nI (tb ||| 2 ^ 4))) 3 3 = nI (tE T p) := by
      rw [gI_sI, if_neg (by decide)]
      exact hTC.1
    have hM1 : SM (sI τ 0 32 (nI (tm ||| 2 ^ (4 + 3)))) T U (tm ||| 2 ^ (4 + 3)) := hM.told _
    have hT1 : TM (gI (sI τ 0 32 (nI (tm ||| 2 ^ (4 + 3)))) 0) T p := hT
    obtain ⟨g2, b1, b2', b3⟩ := m_nextT hM1 wT hp hT1 (by omega)
    have hRL : X11_readLine_B41 (nI 7) τ = (X11_readSons_L8 FU 0 0 (sIf (sI τ 0 32 (nI (tm ||| 2 ^ (4 + 3)))) 0 g2)).bind fun σ11 => X11_readLine_B141 σ11 := by
      unfold X11_readLine_B41
      rw [q7, if_pos (by decide), hM.2.2.2.1, one_shl32 7 (by decide), nI_or, bnd, if_pos (by decide), if_neg (by decide), if_pos (show nI 7 = 7 from rfl)]
      unfold X11_readSons
      rw [b1, Option.bind_some]
    rw [hRL]
    exact LN_sonsL hr wT hW (bt_set (w := 4) (by decide) hb) 4 FU FU 0 0 _ _ (uN U) (tE T p) (by decide) (by decide) (by show _ < 1000000; decide) (by omega) he2 hC1 h31 (hM1.o b3) (by rw [gI_sIf]; exact b2') (FrG.rf.s (Or.inl rfl)) ((FrK.rf.z (by omega)).o b3) (by rw [gI_sIf, b3 23 (by omega), gI_sI, if_neg (by decide)]) (fun _ _ => rfl) hW.2.2.2.2.2.1 rfl (by decide) (fun h => by cases h)
end Sons
