/-! a number's line -/
section Num
variable {σ τ : St} {T : DT} {ρ p : Nat} {U : DU} {tb tm : Nat}
theorem c_ref0 (σ : St) (f : Int32) : X8_refuse f σ = some (0, sIf σ 3 (upd (upd (gI σ 3) 8 f) 9 (gI σ 3 5))) := by
  have := c_refuse σ (gI σ 3) f
  rw [sIf_self] at this
  exact this
theorem m_nextT (hM : SM τ T U tm) (wT : WTp T) (hp : p ≤ T.1) (hT : TM (gI τ 0) T p) (h4 : tK T p ≠ 4) : ∃ g', X11_next τ = some (sIf τ 0 g') ∧ TM g' T (tE T p) ∧ o12 (gI τ 0) g' := by
  obtain ⟨he1, he2, he3⟩ := tE_le hp
  obtain ⟨m9, m10, m11, m4⟩ := hT
  exact m_next hM.1 wT he2 hM.2.1 (m11 h4).1 m9
theorem SM.told (h : SM τ T U tm) (tm' : Nat) : SM (sI τ 0 32 (nI tm')) T U tm' := ⟨h.1, h.2.1, h.2.2.1, rfl, h.2.2.2.2⟩
theorem SM.s13 (h : SM τ T U tm) {w v : Nat} : SM (sI τ 13 w (nI v)) T (up_ (uN U) w v, U.2) tm := ⟨h.1, h.2.1, h.2.2.1, h.2.2.2.1, h.2.2.2.2.num⟩
theorem SC.s6 (hr : ρ < 2) (h : SC σ T ρ U tb) {w v : Nat} (hw : w < 8) : SC (sI σ (6 + ρ) w (nI v)) T ρ (up_ (uN U) w v, U.2) tb := ⟨h.1.fr (Off.sI (by omega) Off.rf), h.2.1, h.2.2.1.num hr hw, by rw [gI_sIn (by omega)]; exact h.2.2.2.1, by rw [gI_sIn (by omega)]; exact h.2.2.2.2⟩
theorem c_tell (hC : SC σ T ρ U tb) (htb : tb < 32) {w : Nat} (hw : w < 5) : X8_tellOnce (nI w) σ = if tb.testBit w = true then some (0, sIf σ 3 (upd (upd (gI σ 3) 8 4) 9 (gI σ 3 5))) else some (1, sI σ 3 2 (nI (tb ||| 2 ^ w))) := by
  unfold X8_tellOnce
  rw [hC.2.2.2.1, c_ref0, Option.bind_some, one_shl32 w (by omega), nI_or]
  by_cases e : tb.testBit w = true
  · rw [if_pos ((bit32 (by omega) (by omega)).mpr e), if_pos e]
    rfl
  · rw [if_neg (fun h => e ((bit32 (by omega) (by omega)).mp h)), if_neg e]
    rfl
theorem LN_num (hr : ρ < 2) (wT : WTp T) (hp : p ≤ T.1) (hC : SC σ T ρ U tb) (hTC : TC (gI σ 3) T p) (hM : SM τ T U tm) (hb : BT tb tm) (hT : TM (gI τ 0) T p) (h1 : tK T p = 1) (hW : WUp U p) {w lo : Nat} (hw : w ≤ 3) (hlo : lo = if w = 3 then 1 else 0) : LN σ τ T ρ p (X8_takeNumber (nI w) (nI lo) σ) (if (((gI τ 0 32) >>> (nI (w + 3) &&& 31)) &&& 1) = 1 then ((X11_fails 4 τ).bind fun σ15 => X11_readLine_B41 (nI (w + 3)) σ15) else X11_readLine_B41 (nI (w + 3)) τ) := by
  have h200 := wT.1
  obtain ⟨he1, he2, he3⟩ := tE_le hp
  obtain ⟨hs1, hs2⟩ := tS_le hp
  obtain ⟨m9, m10, m11, -⟩ := id hT
  obtain ⟨q7, q11, -⟩ := m11 (by omega)
  have hbw := hb.2.2 w (by omega)
  have hlo1 : lo ≤ 1 := by rw [hlo]; split <;> decide
  have hk0 : tK0 T p ≠ 0 := fun h => by
    unfold tK at h1
    rw [h, if_neg (fun h => by omega)] at h1
    omega
  have hpe : p < tE T p := by have := he3 hk0; omega
  unfold X8_takeNumber
  rw [c_tell hC hb.1 (show w < 5 by omega), hM.2.2.2.1]
  by_cases e : tb.testBit w = true
  · rw [if_pos e, Option.bind_some, if_pos rfl, if_pos ((bit32 (by have := hb.2.1; omega) (by omega)).mpr (by rw [← hbw]; exact e)), show (4 : Int32) = nI 4 from rfl, m_fail0 q7, Option.bind_some]
    unfold X11_readLine_B41
    rw [gI_sIf, if_neg (show ¬ upd (upd (gI τ 0) 7 (nI 4)) 8 (gI τ 0 10) 7 ≤ 0 from (by decide : ¬ nI 4 ≤ 0))]
    exact Or.inr ⟨_, _, 4, tS T p, rfl, rfl, by rw [gI_sIf]; rfl, by rw [gI_sIf]; exact hTC.2.2.1, by rw [gI_sIf]; rfl, by rw [gI_sIf]; exact m10, by decide, by decide, by omega, FrG.rf.g _, FrK.rf.o (o12_f _ _ _)⟩
  · rw [if_neg e, Option.bind_some, if_neg n10, if_neg (fun h => e (by rw [hbw]; exact (bit32 (by have := hb.2.1; omega) (by omega)).mp h))]
    -- the class
    have hC1 : SC (sI σ 3 2 (nI (tb ||| 2 ^ w))) T ρ U (tb ||| 2 ^ w) := by
      rw [sI_as]
      exact hC.g hr rfl hC.2.2.2.2
    have h31 : gI (sI σ 3 2 (nI (tb ||| 2 ^ w))) 3 3 = nI (tE T p) := by
      rw [gI_sI, if_neg (by decide)]
      exact hTC.1
    have fC1 : FrG ρ σ (sI σ 3 2 (nI (tb ||| 2 ^ w))) := FrG.rf.s (Or.inl rfl)
    obtain ⟨g1, a1, a2, a3⟩ := c_takeBetween hC1.1 wT he2 h31 hlo1 (show 20 ≤ 20 from Nat.le_refl _)
    have a1' : X8_takeBetween (nI lo) 20 (sI σ 3 2 (nI (tb ||| 2 ^ w))) = _ := a1
    -- the reference
    have hM1 : SM (sI τ 0 32 (nI (tm ||| 2 ^ (w + 3)))) T U (tm ||| 2 ^ (w + 3)) := hM.told _
    have hT1 : TM (gI (sI τ 0 32 (nI (tm ||| 2 ^ (w + 3)))) 0) T p := hT
    have fM1 : FrK τ (sI τ 0 32 (nI (tm ||| 2 ^ (w + 3)))) := FrK.rf.z (by omega)
    obtain ⟨g2, b1, b2', b3⟩ := m_nextT hM1 wT hp hT1 (by omega)
    have hM2 := hM1.o b3
    have hT2 : TM (gI (sIf (sI τ 0 32 (nI (tm ||| 2 ^ (w + 3)))) 0 g2) 0) T (tE T p) := by rw [gI_sIf]; exact b2'
    obtain ⟨v, τ3, c1, ⟨g3, c2, c3, c4, c5⟩, c6⟩ := m_number wT he2 hT2 hlo1 (show 20 ≤ 20 from Nat.le_refl _)
    have hτ3 := Option.some.inj c2
    have hRL : X11_readLine_B41 (nI (w + 3)) τ = (X11_next (sI τ3 13 w v)).bind fun σ6 => X11_readLine_B141 σ6 := by
      unfold X11_readLine_B41
      have z2 : (2 : Int32) ≤ nI (w + 3) := nI_le (a := 2) (by omega) (by omega)
      have z3 : ¬ nI (w + 3) = 2 := fun h => by have := (nI_eq (b := 2) (by omega) (by decide)).mp h; omega
      have z7 : ¬ nI (w + 3) = 7 := fun h => by have := (nI_eq (b := 7) (by omega) (by decide)).mp h; omega
      rw [q7, if_pos (by decide), hM.2.2.2.1, one_shl32 (w + 3) (by omega), nI_or, bnd, if_pos z2, if_neg z3, if_neg z7, b1, Option.bind_some, show nI (w + 3) - 3 = nI w from subI (a := w + 3) (b := 3) (by omega)]
      have hB : ∀ s0 : Int32, s0 = nI lo → X11_readLine_B131 s0 (nI w) (sIf (sI τ 0 32 (nI (tm ||| 2 ^ (w + 3)))) 0 g2) = (X11_next (sI τ3 13 w v)).bind fun σ6 => X11_readLine_B141 σ6 := fun s0 hs => by
        unfold X11_readLine_B131
        rw [hs, show (20 : Int32) = nI 20 from rfl, c1, Option.bind_some, chk_nI (by omega) (by decide), nI_cl (by omega), bnd]
      by_cases e6 : w = 3
      · rw [if_pos (show nI (w + 3) = 6 by rw [e6]; rfl)]
        exact hB _ (by rw [hlo, if_pos e6]; rfl)
      · rw [if_neg (show ¬ nI (w + 3) = 6 from fun h => by have := (nI_eq (b := 6) (by omega) (by decide)).mp h; omega)]
        exact hB _ (by rw [hlo, if_neg e6]; rfl)
    rw [hRL, show (20 : Int32) = nI 20 from rfl, a1, Option.bind_some]
    by_cases eo : tK T (tE T p) = 2 ∧ lo ≤ tV T (tE T p) ∧ tV T (tE T p) ≤ 20
    · obtain ⟨d1, d2, d3⟩ := a2 (decide_eq_true eo)
      have hg3 := c4 (decide_eq_true eo)
      rw [hg3, sIf_self] at hτ3
      have hτ3' : τ3 = sIf (sI τ 0 32 (nI (tm ||| 2 ^ (w + 3)))) 0 g2 := hτ3
      obtain ⟨k1, k2, k3⟩ := tE_le he2
      have hk02 : tK0 T (tE T p) ≠ 0 := fun h => by
        have := eo.1
        unfold tK at this
        rw [h, if_neg (fun h => by omega)] at this
        omega
      have := k3 hk02
      obtain ⟨l1, l2⟩ := tS_le he2
      rw [decide_eq_true eo, if_neg (show ¬ b2 true = 0 from n10)]
      have hC2 : SC (sIf (sI σ 3 2 (nI (tb ||| 2 ^ w))) 3 g1) T ρ U (tb ||| 2 ^ w) := hC1.g hr (by rw [d2]; exact hC1.2.2.2.1) (by rw [d3]; exact hC1.2.2.2.2)
      rw [show gR (sIf (sI σ 3 2 (nI (tb ||| 2 ^ w))) 3 g1) 3 1 = ρ from hC2.2.1, chkN_lt hr, chk_nI (by omega) (by decide), nI_cl (by omega), bnd, gI_sIf, d1.2.2.2.2]
      rw [c6 eo, hτ3']
      have hC3 := hC2.s6 hr (w := w) (v := tV T (tE T p)) (by omega)
      have hM3 := hM2.s13 (w := w) (v := tV T (tE T p))
      have hT3 : TM (gI (sI (sIf (sI τ 0 32 (nI (tm ||| 2 ^ (w + 3)))) 0 g2) 13 w (nI (tV T (tE T p)))) 0) T (tE T p) := by
        rw [gI_sIn (by decide)]
        exact hT2
      obtain ⟨g4, f1, f2, f3⟩ := m_nextT hM3 wT he2 hT3 (by omega)
      rw [f1, Option.bind_some]
      refine LNno.cb (LN_stop hr wT (show p < tE T (tE T p) by omega) k2 hC3 ?_ (hM3.o f3) (bt_set (by omega) hb) (by rw [gI_sIf]; exact f2) ?_ ((fC1.g _).s (Or.inr (by unfold spr; omega))) (((fM1.o b3).s (by omega)).o f3) ?_)
      · rw [gI_sIn (by omega), gI_sIf]; exact d1.1
      · obtain ⟨x1, x2, x3, x4, x5, x6, x7, x8, x9⟩ := hW
        refine ⟨x1, x2, x3, by show 5 * uK U ≤ _; omega, x5, fun j hj => ?_, ?_, ?_, ?_⟩
        · show up_ (uN U) w (tV T (tE T p)) j ≤ 20
          unfold up_
          by_cases ej : j = w
          · rw [if_pos ej]; exact eo.2.2
          · rw [if_neg ej]; exact x6 j hj
        · show 1 ≤ up_ (uN U) w (tV T (tE T p)) 3
          unfold up_
          by_cases ej : 3 = w
          · rw [if_pos ej]
            have := eo.2.1
            rw [hlo, if_pos ej.symm] at this
            exact this
          · rw [if_neg ej]; exact x7
        · show 1 ≤ up_ (uN U) w _ 4 + up_ (uN U) w _ 5 + up_ (uN U) w _ 6 + up_ (uN U) w _ 7
          unfold up_
          rw [if_neg (by omega), if_neg (by omega), if_neg (by omega), if_neg (by omega)]
          exact x8
        · show up_ (uN U) w _ 4 + up_ (uN U) w _ 5 + up_ (uN U) w _ 6 + up_ (uN U) w _ 7 ≤ 9
          unfold up_
          rw [if_neg (by omega), if_neg (by omega), if_neg (by omega), if_neg (by omega)]
          exact x9
      · rw [gI_sIf, f3 23 (by omega), gI_sIn (by decide), gI_sIf, b3 23 (by omega), gI_sI, if_neg (by decide)]
    · obtain ⟨d1, d2⟩ := a3 (decide_eq_false eo)
      obtain ⟨d3, d4⟩ := c5 (decide_eq_false eo)
      obtain ⟨f1, f2⟩ := fB_b T (tE T p)
      obtain ⟨l1, l2⟩ := tS_le he2
      obtain ⟨n1, n2⟩ := nI_n0 f1 f2
      have h7' : gI (sI τ3 13 w v) 0 7 = nI (fB T (tE T p)) := by rw [gI_sIn (by decide), hτ3, gI_sIf]; exact d3
      have h8' : gI (sI τ3 13 w v) 0 8 = nI (tS T (tE T p)) := by rw [gI_sIn (by decide), hτ3, gI_sIf]; exact d4
      rw [decide_eq_false eo, if_pos (show b2 false = 0 from rfl), m_next1 (by rw [h7']; exact n2), Option.bind_some, ps_B141 h7' f1 f2]
      refine Or.inr ⟨_, _, fB T (tE T p), tS T (tE T p), rfl, rfl, by rw [gI_sIf]; exact d1, by rw [gI_sIf]; exact d2, h7', h8', f1, f2, by omega, fC1.g _, ?_⟩
      rw [hτ3]
      exact ((fM1.o b3).o c3).s (by omega)
end Num
