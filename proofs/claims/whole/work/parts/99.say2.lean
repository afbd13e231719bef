/-! say and mute: the lines -/
def addU (U : DU) (l li : List Nat) : DU := (uN U, uM U + 1, up_ (uF U) (uM U) l, up_ (uI U) (uM U) li, uK U, uA U, uB U, uC U)
section Say2
variable {σ τ : St} {T : DT} {ρ p : Nat} {U : DU} {tb tm : Nat}
theorem c_app (hr : ρ < 2) (hC : SC σ T ρ U tb) (h12 : uM U < 12) {l li : List Nat} : ∃ σ', X5_appendChange ρ (nI (pk l)) (nI l.length) (nI (pk li)) (nI li.length) σ = some σ' ∧ SC σ' T ρ (addU U l li) tb ∧ FrG ρ σ σ' ∧ gI σ' 3 = gI σ 3 := by
  obtain ⟨c1, c2, c3, c4, c5⟩ := hC
  obtain ⟨a1, a2, a3, a4, a5⟩ := c3
  have g46 : ∀ (s : St) q j v, q ≠ 4 + ρ → gI (sI s q j v) (4 + ρ) 6 = gI s (4 + ρ) 6 := fun s q j v h => congrFun (gI_sIn (by omega)) 6
  unfold X5_appendChange
  rw [a1, if_neg (show ¬ (12 : Int32) ≤ nI (uM U) from nI_ge (b := 12) h12 (by decide)), chk_nI h12 (by decide), nI_cl (by omega), bnd, g46 _ _ _ _ (by omega), a1, chk_nI h12 (by decide), nI_cl (by omega), bnd, g46 _ _ _ _ (by omega), g46 _ _ _ _ (by omega), a1, chk_nI h12 (by decide), nI_cl (by omega), bnd, g46 _ _ _ _ (by omega), g46 _ _ _ _ (by omega), g46 _ _ _ _ (by omega), a1, chk_nI h12 (by decide), nI_cl (by omega), bnd, g46 _ _ _ _ (by omega), g46 _ _ _ _ (by omega), g46 _ _ _ _ (by omega), g46 _ _ _ _ (by omega), a1, bnd, nI_1]
  have hfr : FrG ρ σ (sI (sI (sI (sI (sI σ (8 + ρ) (uM U) (nI (pk l))) (10 + ρ) (uM U) (nI l.length)) (12 + ρ) (uM U) (nI (pk li))) (14 + ρ) (uM U) (nI li.length)) (4 + ρ) 6 (nI (uM U + 1))) := ((((FrG.rf.s (Or.inr (by unfold spr; omega))).s (Or.inr (by unfold spr; omega))).s (Or.inr (by unfold spr; omega))).s (Or.inr (by unfold spr; omega))).s (Or.inr (by unfold spr; omega))
  have h3 : gI (sI (sI (sI (sI (sI σ (8 + ρ) (uM U) (nI (pk l))) (10 + ρ) (uM U) (nI l.length)) (12 + ρ) (uM U) (nI (pk li))) (14 + ρ) (uM U) (nI li.length)) (4 + ρ) 6 (nI (uM U + 1))) 3 = gI σ 3 := by
    rw [gI_sIn (by omega), gI_sIn (by omega), gI_sIn (by omega), gI_sIn (by omega), gI_sIn (by omega)]
  refine ⟨_, rfl, ⟨c1.fr (fun q h1 h2 => hfr.1 q (by omega) (by unfold spr; omega)), c2, ⟨?_, ?_, fun j hj => ?_, fun c hc => ?_, fun a b ha hb => ?_⟩, by rw [h3]; exact c4, by rw [h3]; exact c5⟩, hfr, h3⟩
  · rw [gI_sI, if_pos ⟨rfl, rfl⟩]; rfl
  · rw [gI_sI, if_neg (by omega), gI_sIn (by omega), gI_sIn (by omega), gI_sIn (by omega), gI_sIn (by omega)]; exact a2
  · rw [gI_sIn (by omega), gI_sIn (by omega), gI_sIn (by omega), gI_sIn (by omega), gI_sIn (by omega)]; exact a3 j hj
  · have hc' : c < uM U + 1 := hc
    have hf : uF (addU U l li) c = if c = uM U then l else uF U c := rfl
    have hi : uI (addU U l li) c = if c = uM U then li else uI U c := rfl
    rw [hf, hi]
    have e8 : gI (sI (sI (sI (sI (sI σ (8 + ρ) (uM U) (nI (pk l))) (10 + ρ) (uM U) (nI l.length)) (12 + ρ) (uM U) (nI (pk li))) (14 + ρ) (uM U) (nI li.length)) (4 + ρ) 6 (nI (uM U + 1))) (8 + ρ) c = if c = uM U then nI (pk l) else gI σ (8 + ρ) c := by
      rw [gI_sIn (by omega), gI_sIn (by omega), gI_sIn (by omega), gI_sIn (by omega), gI_sI]
      by_cases e : c = uM U
      · rw [if_pos ⟨rfl, e⟩, if_pos e]
      · rw [if_neg (fun h => e h.2), if_neg e]
    have e10 : gI (sI (sI (sI (sI (sI σ (8 + ρ) (uM U) (nI (pk l))) (10 + ρ) (uM U) (nI l.length)) (12 + ρ) (uM U) (nI (pk li))) (14 + ρ) (uM U) (nI li.length)) (4 + ρ) 6 (nI (uM U + 1))) (10 + ρ) c = if c = uM U then nI l.length else gI σ (10 + ρ) c := by
      rw [gI_sIn (by omega), gI_sIn (by omega), gI_sIn (by omega), gI_sI]
      by_cases e : c = uM U
      · rw [if_pos ⟨rfl, e⟩, if_pos e]
      · rw [if_neg (fun h => e h.2), if_neg e, gI_sIn (by omega)]
    have e12 : gI (sI (sI (sI (sI (sI σ (8 + ρ) (uM U) (nI (pk l))) (10 + ρ) (uM U) (nI l.length)) (12 + ρ) (uM U) (nI (pk li))) (14 + ρ) (uM U) (nI li.length)) (4 + ρ) 6 (nI (uM U + 1))) (12 + ρ) c = if c = uM U then nI (pk li) else gI σ (12 + ρ) c := by
      rw [gI_sIn (by omega), gI_sIn (by omega), gI_sI]
      by_cases e : c = uM U
      · rw [if_pos ⟨rfl, e⟩, if_pos e]
      · rw [if_neg (fun h => e h.2), if_neg e, gI_sIn (by omega), gI_sIn (by omega)]
    have e14 : gI (sI (sI (sI (sI (sI σ (8 + ρ) (uM U) (nI (pk l))) (10 + ρ) (uM U) (nI l.length)) (12 + ρ) (uM U) (nI (pk li))) (14 + ρ) (uM U) (nI li.length)) (4 + ρ) 6 (nI (uM U + 1))) (14 + ρ) c = if c = uM U then nI li.length else gI σ (14 + ρ) c := by
      rw [gI_sIn (by omega), gI_sI]
      by_cases e : c = uM U
      · rw [if_pos ⟨rfl, e⟩, if_pos e]
      · rw [if_neg (fun h => e h.2), if_neg e, gI_sIn (by omega), gI_sIn (by omega), gI_sIn (by omega)]
    rw [e8, e10, e12, e14]
    by_cases e : c = uM U
    · refine ⟨?_, ?_, ?_, ?_⟩ <;> rw [if_pos e, if_pos e]
    · simp only [if_neg e]
      exact a4 c (by omega)
  · rw [gI_sIn (by omega), gI_sIn (by omega), gI_sIn (by omega), gI_sIn (by omega), gI_sIn (by omega)]; exact a5 a b ha hb
theorem SM.s14 (h : SM τ T U tm) {x : Nat} {v : Int32} : SM (sI τ 14 (3 * uM U + x) v) T U tm := by
  obtain ⟨b1, b2, b3, b4, a1, a2, a3, a4, a5, a6⟩ := h
  refine ⟨b1, b2, b3, b4, a1, a2, a3, fun c y hc hy => ?_, a5, a6⟩
  rw [gI_sI, if_neg (fun h => by omega)]
  exact a4 c y hc hy
theorem SM.s15 (h : SM τ T U tm) {x : Nat} {v : Int32} : SM (sI τ 15 (2 * uM U + x) v) T U tm := by
  obtain ⟨b1, b2, b3, b4, a1, a2, a3, a4, a5, a6⟩ := h
  refine ⟨b1, b2, b3, b4, a1, a2, a3, a4, fun c y hc hy => ?_, a6⟩
  rw [gI_sI, if_neg (fun h => by omega)]
  exact a5 c y hc hy
theorem SM.add (h : SM τ T U tm) {l li : List Nat} (h14 : ∀ x, x < 3 → gI τ 14 (3 * uM U + x) = nI (l.getD x 0)) (h15 : ∀ x, x < 2 → gI τ 15 (2 * uM U + x) = nI (li.getD x 0)) : SM (sI τ 0 25 (nI (uM U + 1))) T (addU U l li) tm := by
  obtain ⟨b1, b2, b3, b4, a1, a2, a3, a4, a5, a6⟩ := h
  refine ⟨b1, b2, b3, b4, rfl, a2, a3, fun c y hc hy => ?_, fun c y hc hy => ?_, a6⟩
  · have hc' : c < uM U + 1 := hc
    show gI τ 14 (3 * c + y) = nI ((if c = uM U then l else uF U c).getD y 0)
    by_cases e : c = uM U
    · rw [if_pos e, e]; exact h14 y hy
    · rw [if_neg e]; exact a4 c y (by omega) hy
  · have hc' : c < uM U + 1 := hc
    show gI τ 15 (2 * c + y) = nI ((if c = uM U then li else uI U c).getD y 0)
    by_cases e : c = uM U
    · rw [if_pos e, e]; exact h15 y hy
    · rw [if_neg e]; exact a5 c y (by omega) hy
theorem WUp.add {p' : Nat} (h : WUp U p) (hp : p ≤ p') (h12 : uM U < 12) {l li : List Nat} (hl1 : 1 ≤ l.length) (hl3 : l.length ≤ 3) (hl : LTR l) (hi2 : li.length ≤ 2) (hi : LTR li) (hn : sdA U l = false) : WUp (addU U l li) p' := by
  obtain ⟨x1, x2, x3, x4, x5⟩ := h
  have hnew : ∀ c, c < uM U → uF U c ≠ l := fun c hc e => by
    have : sdA U l = true := by
      unfold sdA
      rw [List.any_eq_true]
      exact ⟨c, List.mem_range.mpr hc, decide_eq_true e⟩
    rw [hn] at this
    cases this
  refine ⟨by show uM U + 1 ≤ 12; omega, fun c hc => ?_, fun c c' hc hc' e => ?_, by show 5 * uK U ≤ p'; omega, x5⟩
  · have hc' : c < uM U + 1 := hc
    show 1 ≤ (if c = uM U then l else uF U c).length ∧ (if c = uM U then l else uF U c).length ≤ 3 ∧ LTR (if c = uM U then l else uF U c) ∧ (if c = uM U then li else uI U c).length ≤ 2 ∧ LTR (if c = uM U then li else uI U c)
    by_cases e : c = uM U
    · simp only [if_pos e]
      exact ⟨hl1, hl3, hl, hi2, hi⟩
    · simp only [if_neg e]
      exact x2 c (by omega)
  · have k1 : c < uM U + 1 := hc
    have k2 : c' < uM U + 1 := hc'
    have e' : (if c = uM U then l else uF U c) = (if c' = uM U then l else uF U c') := e
    by_cases e1 : c = uM U
    · by_cases e2 : c' = uM U
      · omega
      · rw [if_pos e1, if_neg e2] at e'
        exact absurd e'.symm (hnew c' (by omega))
    · by_cases e2 : c' = uM U
      · rw [if_neg e1, if_pos e2] at e'
        exact absurd e' (hnew c (by omega))
      · rw [if_neg e1, if_neg e2] at e'
        exact x3 c c' (by omega) (by omega) e'
theorem ps_L25 {f : Nat} (h7 : gI τ 0 7 = nI f) (h1 : 1 ≤ f) (h5 : f ≤ 5) (m : Nat) (x c : Int32) : X11_readSay_L25 (m + 1) x c τ = some τ := by
  obtain ⟨n1, n2⟩ := nI_n0 h1 h5
  rw [X11_readSay_L25, h7, if_neg n1, if_neg n2, ite_self]
theorem ps_want {f : Nat} (h7 : gI τ 0 7 = nI f) (h1 : 1 ≤ f) (h5 : f ≤ 5) (L : Int32) : X11_wantName L τ = some τ := by
  obtain ⟨n1, n2⟩ := nI_n0 h1 h5
  unfold X11_wantName
  rw [h7, if_neg n1]
theorem ps_B14 {f : Nat} (h7 : gI τ 0 7 = nI f) (h1 : 1 ≤ f) (h5 : f ≤ 5) (x : Int32) : X11_readSay_B14 x τ = some τ := by
  obtain ⟨n1, n2⟩ := nI_n0 h1 h5
  obtain ⟨z, hz⟩ : ∃ n, FU = n + 1 := ⟨999999, rfl⟩
  unfold X11_readSay_B14
  rw [m_next1 (by rw [h7]; exact n2), Option.bind_some, ps_want h7 h1 h5, Option.bind_some, hz, ps_L25 h7 h1 h5]
theorem m_L25 (hM : SM τ T U tm) (wT : WTp T) (hp : p ≤ T.1) (hT : TM (gI τ 0) T p) (h1 : tK T p = 1) (hl3 : (ltk T p).length ≤ 3) (hW : WUp U p) (x : Int32) : ∀ d m c, c + d = uM U → d + 1 < m → X11_readSay_L25 m x (nI c) τ = if ((List.range' c d).any fun c => decide (uF U c = ltk T p)) = true then some (sIf τ 0 (upd (upd (gI τ 0) 7 (nI 4)) 8 (gI τ 0 10))) else X11_readSay_L113 FU x 0 τ := by
  have h12 := hW.1
  obtain ⟨q7, -, -⟩ := hT.2.2.1 (by omega)
  obtain ⟨k1, k2, k3, k4, k5⟩ := ltk_ok hp h1
  intro d
  induction d with
  | zero =>
    intro m c hc hm
    obtain ⟨m, rfl⟩ : ∃ q, m = q + 1 := ⟨m - 1, by omega⟩
    have : c = uM U := by omega
    subst this
    rw [X11_readSay_L25, hM.2.2.2.2.1, if_pos (nI_le (Nat.le_refl _) (by omega)), q7, if_pos (by decide), if_neg (by simp)]
  | succ d ih =>
    intro m c hc hm
    obtain ⟨m, rfl⟩ : ∃ q, m = q + 1 := ⟨m - 1, by omega⟩
    have hcm : c < uM U := by omega
    have ih' := ih m (c + 1) (by omega) (by omega)
    obtain ⟨c1, c2, c3, c4, c5⟩ := hW.2.1 c hcm
    have g0 := hM.2.2.2.2.2.2.2.1 c 0 hcm (by decide)
    have g1 := hM.2.2.2.2.2.2.2.1 c 1 hcm (by decide)
    have g2 := hM.2.2.2.2.2.2.2.1 c 2 hcm (by decide)
    have b27 : ∀ l : List Nat, LTR l → ∀ x, l.getD x 0 ≤ 26 := fun l hl x => by
      rw [List.getD_eq_getElem?_getD]
      by_cases hx : x < l.length
      · rw [List.getElem?_eq_getElem hx]
        exact (hl _ (List.getElem_mem hx)).2
      · rw [List.getElem?_eq_none (by omega)]
        exact Nat.zero_le _
    have b0 := b27 _ c3 0
    have b1 := b27 _ c3 1
    have b2' := b27 _ c3 2
    have d0 := b27 _ k3 0
    have d1 := b27 _ k3 1
    have d2 := b27 _ k3 2
    have m0 := m_letter hM.1 wT hM.2.1 hp hT h1 (x := 0) (by decide)
    have m1 := m_letter hM.1 wT hM.2.1 hp hT h1 (x := 1) (by decide)
    have m2 := m_letter hM.1 wT hM.2.1 hp hT h1 (x := 2) (by decide)
    obtain ⟨m', rfl⟩ : ∃ q, m = q + 1 := ⟨m - 1, by omega⟩
    have hfl : X11_readSay_L25 (m' + 1) x (nI (c + 1)) (sIf τ 0 (upd (upd (gI τ 0) 7 (nI 4)) 8 (gI τ 0 10))) = some (sIf τ 0 (upd (upd (gI τ 0) 7 (nI 4)) 8 (gI τ 0 10))) := ps_L25 (f := 4) (by rw [gI_sIf]; rfl) (by decide) (by decide) m' _ _
    rw [X11_readSay_L25, hM.2.2.2.2.1, if_neg (nI_ge hcm (by omega)), q7, if_pos rfl, show (3 : Int32) * nI c = nI (3 * c) from pk_mul 3 c, chk_nI (by omega) (by decide), nI_cl (show 3 * c < 2 ^ 31 by omega), show gI τ 14 (3 * c) = nI ((uF U c).getD 0 0) from g0, show (0 : Int32) = nI 0 from rfl, m0, Option.bind_some, show nI (3 * c) + 1 = nI (3 * c + 1) from nI_1 _, chk_nI (by omega) (by decide), nI_cl (show 3 * c + 1 < 2 ^ 31 by omega), g1, show (1 : Int32) = nI 1 from rfl, m1, Option.bind_some, show nI (3 * c) + 2 = nI (3 * c + 2) from nI_add _ 2, chk_nI (by omega) (by decide), nI_cl (show 3 * c + 2 < 2 ^ 31 by omega), g2, show (2 : Int32) = nI 2 from rfl, m2, Option.bind_some, show (4 : Int32) = nI 4 from rfl, m_fail0 q7, Option.bind_some, show nI c + nI 1 = nI (c + 1) from nI_add _ _, hfl, ih', List.range'_succ, List.any_cons]
    simp only [eqI (show (uF U c).getD 0 0 < 2 ^ 31 by omega) (show (ltk T p).getD 0 0 < 2 ^ 31 by omega), eqI (show (uF U c).getD 1 0 < 2 ^ 31 by omega) (show (ltk T p).getD 1 0 < 2 ^ 31 by omega), eqI (show (uF U c).getD 2 0 < 2 ^ 31 by omega) (show (ltk T p).getD 2 0 < 2 ^ 31 by omega)]
    by_cases e : uF U c = ltk T p
    · rw [if_pos (by rw [e]), if_pos (by rw [e]), if_pos (by rw [e]), decide_eq_true e, Bool.true_or, if_pos rfl]
    · rw [decide_eq_false e, Bool.false_or]
      by_cases e0 : (uF U c).getD 0 0 = (ltk T p).getD 0 0
      · rw [if_pos e0]
        by_cases e1 : (uF U c).getD 1 0 = (ltk T p).getD 1 0
        · rw [if_pos e1]
          by_cases e2 : (uF U c).getD 2 0 = (ltk T p).getD 2 0
          · exact absurd (l3_ext c3 k3 c2 hl3 (fun x hx => by
              rcases (by omega : x = 0 ∨ x = 1 ∨ x = 2) with rfl | rfl | rfl
              · exact e0
              · exact e1
              · exact e2)) e
          · rw [if_neg e2]; rfl
        · rw [if_neg e1]; rfl
      · rw [if_neg e0]; rfl
end Say2
