/-! kin, related, issue -/
def Kn (L : DL) (x y : Nat) (o : Option Nat) : Prop := (∀ v, o = some v → v < 100 ∧ (∃ i j z, anc L i x = some z ∧ anc L j y = some z ∧ v = i + j) ∧ ∀ p q z, anc L p x = some z → anc L q y = some z → v ≤ p + q) ∧ (o = none → ∀ p q z, anc L p x = some z → anc L q y = some z → False)
theorem Kn.un {L : DL} {x y : Nat} {o o' : Option Nat} (h : Kn L x y o) (h' : Kn L x y o') : o = o' := by
  cases o with
  | none =>
    cases o' with
    | none => rfl
    | some v =>
      obtain ⟨i, j, z, h1, h2, -⟩ := (h'.1 v rfl).2.1
      exact absurd (h.2 rfl i j z h1 h2) id
  | some v =>
    obtain ⟨-, ⟨i, j, z, h1, h2, h3⟩, h4⟩ := h.1 v rfl
    cases o' with
    | none => exact absurd (h'.2 rfl i j z h1 h2) id
    | some w =>
      obtain ⟨-, ⟨i', j', z', g1, g2, g3⟩, g4⟩ := h'.1 w rfl
      have a := h4 i' j' z' g1 g2
      have b := g4 i j z h1 h2
      congr 1
      omega
section Kin2
variable {σ τ : St} {L : DL} {B : DB} {ns np : Nat}
theorem st_lt {L : DL} {n x y p : Nat} (h : st L n x y = some p) : p < n := (st_anc n x y p h).2
theorem c_betw (hL : CL σ L) (wl : WL ns B L) (wb : WB np B) {x y : Nat} (hx : x < L.1) (hy : y < L.1) : ∀ n m c k, c < L.1 → lY L c < 1500 + 15 * n → n < m → k + n ≤ 40 → anc L k x = some c → (∀ i z, i < k → anc L i x = some z → st L 27 y z = none) → ∃ o, X3_stepsBetween_L5 σ m (nI y) (nI c) (nI k) = some (oI o) ∧ Kn L x y o := by
  have hl := wl.1
  intro n
  induction n with
  | zero =>
    intro m c k hc hY
    have := year_lt wl wb hc
    omega
  | succ n ih =>
    intro m c k hc hY hm hk hcx hno
    obtain ⟨m, rfl⟩ : ∃ q, m = q + 1 := ⟨m - 1, by omega⟩
    rw [X3_stepsBetween_L5, if_neg (show ¬ (40 : Int32) ≤ nI k from nI_ge (b := 40) (by omega) (by decide))]
    simp only [neI4 (show c < 2 ^ 31 by omega), if_false]
    rw [c_stepsUp hL wl wb hy hc, Option.bind_some]
    cases hs : st L 27 y c with
    | some v =>
      have hv := st_lt hs
      rw [oI_some]
      simp only [neI4 (show v < 2 ^ 31 by omega), if_false]
      refine ⟨some (k + v), by rw [nI_add]; rfl, fun w hw => ?_, fun h => by cases h⟩
      cases hw
      have hvc := (st_iff wl wb hy).mp hs
      refine ⟨by omega, ⟨k, v, c, hcx, hvc, rfl⟩, fun p q z hp hq => ?_⟩
      have hpk : k ≤ p := Classical.byContradiction fun h => by
        have h1 := hno p z (by omega) hp
        have h2 := (st_iff wl wb hy).mpr hq
        rw [h1] at h2
        cases h2
      obtain ⟨d, rfl⟩ : ∃ d, p = k + d := ⟨p - k, by omega⟩
      rw [anc_add, hcx] at hp
      have hp' : anc L d c = some z := hp
      have hq2 : anc L (v + d) y = some z := by rw [anc_add, hvc]; exact hp'
      have := anc_inj wl hy hq hq2
      omega
    | none =>
      rw [oI_none, if_pos rfl, chk_nI (by omega) (by decide), bnd, nI_cl (by omega), hL.2.2.2.2.2.2.2.2 c hc, nI_1]
      have hno' : ∀ i z, i < k + 1 → anc L i x = some z → st L 27 y z = none := fun i z hi hz => by
        by_cases e : i = k
        · subst e
          rw [hcx] at hz
          cases hz
          exact hs
        · exact hno i z (by omega) hz
      cases ha : lA L c with
      | none =>
        obtain ⟨m, rfl⟩ : ∃ q, m = q + 1 := ⟨m - 1, by omega⟩
        refine ⟨none, by rw [X3_stepsBetween_L5, oI_none, if_pos (show (-4 : Int32) = -4 from rfl), ite_self], fun v h => (by cases h), fun _ p q z hp hq => ?_⟩
        by_cases hpk : p < k + 1
        · have h1 := hno' p z hpk hp
          have h2 := (st_iff wl wb hy).mpr hq
          rw [h1] at h2
          cases h2
        · obtain ⟨d, rfl⟩ : ∃ d, p = k + (d + 1) := ⟨p - k - 1, by omega⟩
          rw [anc_add, hcx] at hp
          have hp' : anc L (d + 1) c = some z := hp
          unfold anc at hp'
          rw [ha] at hp'
          cases hp'
      | some z =>
        obtain ⟨z1, z2⟩ := (wl.2 c hc).2.2.2.2.2.2.2.2.2 z ha
        rw [oI_some]
        refine ih m z (k + 1) z1 (by omega) (by omega) (by omega) ?_ hno'
        rw [anc_add, hcx]
        show anc L 1 c = some z
        unfold anc
        rw [ha]
        rfl
theorem c_between (hL : CL σ L) (wl : WL ns B L) (wb : WB np B) {x y : Nat} (hx : x < L.1) (hy : y < L.1) : ∃ o, X3_stepsBetween (nI x) (nI y) σ = some (oI o) ∧ Kn L x y o := by
  have hyr := year_lt wl wb hx
  exact c_betw hL wl wb hx hy 27 FU x 0 hx (by omega) (by decide) (by omega) rfl (fun i z h => by omega)
def knF (L : DL) (x y z : Nat) (o : Option Nat) : Option Nat := match st L 27 x z, st L 27 y z with
  | some p, some q => (match o with
    | none => some (p + q)
    | some w => if w ≤ p + q then o else some (p + q))
  | _, _ => o
theorem m_kinOf (mL : ML τ L) (wl : WL ns B L) (wb : WB np B) {x y : Nat} (hx : x < L.1) (hy : y < L.1) : ∃ o, X11_kinOf (nI x) (nI y) τ = some (oI o) ∧ Kn L x y o := by
  have hl := wl.1
  have key := fold0I (fun m k (o : Option Nat) => X11_kinOf_L6 τ m (nI x) (nI y) (oI o) (nI k)) L.1 (fun z o => knF L x y z o) (fun o => some (oI o)) (fun k o => (∀ v, o = some v → v < 100 ∧ ∃ i j z, anc L i x = some z ∧ anc L j y = some z ∧ v = i + j) ∧ ∀ z p q, z < k → st L 27 x z = some p → st L 27 y z = some q → ∃ v, o = some v ∧ v ≤ p + q) (by omega) (fun m z o hz hI => ?_) (fun m o hI => ?_) none ⟨fun v h => (by cases h), fun z p q h => by omega⟩
  · refine ⟨_, key.1, ?_⟩
    obtain ⟨-, k1, k2⟩ := key
    generalize (List.range L.1).foldl (fun a k => knF L x y k a) none = o at *
    refine ⟨fun v hv => ⟨(k1 v hv).1, (k1 v hv).2, fun p q z hp hq => ?_⟩, fun ho p q z hp hq => ?_⟩
    · obtain ⟨w, hw1, hw2⟩ := k2 z p q (anc_year wl _ _ _ hx hp).1 ((st_iff wl wb hx).mpr hp) ((st_iff wl wb hy).mpr hq)
      rw [hv] at hw1
      cases hw1
      exact hw2
    · obtain ⟨w, hw1, -⟩ := k2 z p q (anc_year wl _ _ _ hx hp).1 ((st_iff wl wb hx).mpr hp) ((st_iff wl wb hy).mpr hq)
      rw [ho] at hw1
      cases hw1
  · obtain ⟨I1, I2⟩ := hI
    have step : X11_kinOf_L6 τ (m + 1) (nI x) (nI y) (oI o) (nI z) = X11_kinOf_L6 τ m (nI x) (nI y) (oI (knF L x y z o)) (nI (z + 1)) := by
      rw [X11_kinOf_L6, mL.1, if_neg (nI_ge hz (by omega)), m_stepsTo mL wl wb hx hz, m_stepsTo mL wl wb hy hz, Option.bind_some, Option.bind_some, nI_1]
      unfold knF
      cases hp : st L 27 x z with
      | none => rw [oI_none, if_pos rfl]
      | some p =>
        have hp' := st_lt hp
        rw [oI_some]
        simp only [neI4 (show p < 2 ^ 31 by omega), if_false]
        cases hq : st L 27 y z with
        | none => rw [oI_none, if_pos rfl]
        | some q =>
          have hq' := st_lt hq
          rw [oI_some]
          simp only [neI4 (show q < 2 ^ 31 by omega), if_false, nI_add, bnd]
          cases o with
          | none => rw [oI_none, if_pos rfl]; rfl
          | some w =>
            have hw := (I1 w rfl).1
            rw [oI_some]
            simp only [neI4 (show w < 2 ^ 31 by omega), if_false, leI (show w < 2 ^ 31 by omega) (show p + q < 2 ^ 31 by omega)]
            by_cases hle : w ≤ p + q
            · rw [if_pos hle, if_pos hle]; rfl
            · rw [if_neg hle, if_neg hle]; rfl
    refine ⟨step, ?_⟩
    unfold knF
    cases hp : st L 27 x z with
    | none =>
      refine ⟨I1, fun z' p q hz' h1 h2 => ?_⟩
      by_cases e : z' = z
      · subst e; rw [hp] at h1; cases h1
      · exact I2 z' p q (by omega) h1 h2
    | some p =>
      have hp' := st_lt hp
      cases hq : st L 27 y z with
      | none =>
        refine ⟨I1, fun z' p q hz' h1 h2 => ?_⟩
        by_cases e : z' = z
        · subst e; rw [hq] at h2; cases h2
        · exact I2 z' p q (by omega) h1 h2
      | some q =>
        have hq' := st_lt hq
        have new : ∃ i j z, anc L i x = some z ∧ anc L j y = some z ∧ p + q = i + j := ⟨p, q, z, (st_iff wl wb hx).mp hp, (st_iff wl wb hy).mp hq, rfl⟩
        cases o with
        | none =>
          refine ⟨fun v hv => by cases hv; exact ⟨by omega, new⟩, fun z' p' q' hz' h1 h2 => ?_⟩
          by_cases e : z' = z
          · subst e
            rw [hp] at h1; rw [hq] at h2
            cases h1; cases h2
            exact ⟨_, rfl, Nat.le_refl _⟩
          · obtain ⟨v, hv, -⟩ := I2 z' p' q' (by omega) h1 h2
            cases hv
        | some w =>
          by_cases hle : w ≤ p + q
          · simp only [if_pos hle]
            refine ⟨I1, fun z' p' q' hz' h1 h2 => ?_⟩
            by_cases e : z' = z
            · subst e
              rw [hp] at h1; rw [hq] at h2
              cases h1; cases h2
              exact ⟨w, rfl, hle⟩
            · exact I2 z' p' q' (by omega) h1 h2
          · simp only [if_neg hle]
            refine ⟨fun v hv => by cases hv; exact ⟨by omega, new⟩, fun z' p' q' hz' h1 h2 => ?_⟩
            by_cases e : z' = z
            · subst e
              rw [hp] at h1; rw [hq] at h2
              cases h1; cases h2
              exact ⟨_, rfl, Nat.le_refl _⟩
            · obtain ⟨v, hv, hv2⟩ := I2 z' p' q' (by omega) h1 h2
              cases hv
              exact ⟨_, rfl, by omega⟩
  · show X11_kinOf_L6 τ (m + 1) (nI x) (nI y) (oI o) (nI L.1) = _
    rw [X11_kinOf_L6, mL.1, if_pos (nI_le (Nat.le_refl _) (by omega))]
theorem eq_kin (h : Rel σ τ) (x y : Int32) : Eq2 (pu (X10_kin x y σ) σ) (pu (X11_kin x y τ) τ) := by
  have h0 := h
  obtain ⟨A, hC, hM, hW⟩ := h
  obtain ⟨hP, hB, hL, hR, hZ, hS, hT, hWd, r, hQ, hU⟩ := hC
  obtain ⟨mP, mB, mL, mR, mZ, mS, mT, mWd, mU, mK⟩ := hM
  obtain ⟨w1, w2, w3, w4, w5, w6, w7, w8, w9, w10⟩ := hW
  have hn := w3.1
  unfold X10_kin X11_kin
  rcases ixc x (aL A).1 (by omega) with ⟨i, hi, rfl⟩ | hx
  · rw [c_line_in hL.1 hn hi, m_line_in mL.1 hn hi, Option.bind_some, Option.bind_some, if_neg (by decide), if_neg (by decide)]
    rcases ixc y (aL A).1 (by omega) with ⟨j, hj, rfl⟩ | hy
    · rw [c_line_in hL.1 hn hj, m_line_in mL.1 hn hj, Option.bind_some, Option.bind_some, if_neg (by decide), if_neg (by decide)]
      obtain ⟨o, e1, e2⟩ := c_between hL w3 w2 hi hj
      obtain ⟨o', e3, e4⟩ := m_kinOf mL w3 w2 hi hj
      rw [e1, e3, e2.un e4]
      exact Eq2.pp rfl rfl h0
    · rw [c_line_out hL.1 hy, m_line_out mL.1 hn hy, Option.bind_some, Option.bind_some, if_pos rfl, if_pos rfl]
      exact Eq2.pp rfl rfl h0
  · rw [c_line_out hL.1 hx, m_line_out mL.1 hn hx, Option.bind_some, Option.bind_some, if_pos rfl, if_pos rfl]
    exact Eq2.pp rfl rfl h0
theorem ML.fr {τ' : St} (h : ML τ L) (e : FrN τ τ') : ML τ' L := by
  unfold ML
  rw [e.1 0 (by omega), e.1 33 (by omega), e.1 34 (by omega), e.1 35 (by omega), e.1 36 (by omega), e.1 37 (by omega), e.1 38 (by omega), e.1 39 (by omega), e.1 40 (by omega)]
  exact h
theorem nm_lt {J : Nat → Nat → Bool} {n : Nat} {nm : Nat → Nat} (h : NM J n nm) {s : Nat} (hs : s < n) : nm s < n := (h s hs).1
theorem eq_related (h : Rel σ τ) (x y : Int32) : Eq2 (pu (X10_related x y σ) σ) (X11_related x y τ) := by
  have h0 := h
  obtain ⟨A, hC, hM, hW⟩ := h
  obtain ⟨hP, hB, hL, hR, hZ, hS, hT, hWd, r, hQ, hU⟩ := hC
  obtain ⟨mP, mB, mL, mR, mZ, mS, mT, mWd, mU, mK⟩ := hM
  obtain ⟨w1, w2, w3, w4, w5, w6, w7, w8, w9, w10⟩ := hW
  have hn := w3.1
  have hns := w8.1
  unfold X10_related X11_related
  rcases ixc x (aL A).1 (by omega) with ⟨i, hi, rfl⟩ | hx
  · rw [c_line_in hL.1 hn hi, m_line_in mL.1 hn hi, Option.bind_some, Option.bind_some, if_neg (by decide), if_neg (by decide)]
    rcases ixc y (aL A).1 (by omega) with ⟨j, hj, rfl⟩ | hy
    · rw [c_line_in hL.1 hn hj, m_line_in mL.1 hn hj, Option.bind_some, Option.bind_some, if_neg (by decide), if_neg (by decide), c_nameLn hL w3 hWd w8 hi, c_nameLn hL w3 hWd w8 hj, Option.bind_some, Option.bind_some]
      obtain ⟨τ', f1, f2, f3, f4, f5⟩ := m_layNames mU w9 mWd w8 w10
      have mL' := mL.fr f2
      obtain ⟨o, e1, e2⟩ := c_between hL w3 w2 hi hj
      obtain ⟨o', e3, e4⟩ := m_kinOf mL' w3 w2 hi hj
      have ho := e2.un e4
      subst ho
      have si := (w3.2 i hi).2.2.2.2.2.1
      have sj := (w3.2 j hj).2.2.2.2.2.1
      have ni := nm_lt w10 si
      have nj := nm_lt w10 sj
      have hrel := h0.fr ScC.rf f2.sc
      rw [f1, Option.bind_some, chk_nI (by omega) (by decide), nI_cl (show i < 2 ^ 31 by omega), nI_cl (show j < 2 ^ 31 by omega), mL'.2.2.2.2.2.1 i hi, mL'.2.2.2.2.2.1 j hj, chk_nI (by omega) (by decide), chk_nI (by omega) (by decide), chk_nI (by omega) (by decide), nI_cl (show lN_ (aL A) i < 2 ^ 31 by omega), nI_cl (show lN_ (aL A) j < 2 ^ 31 by omega), f5 _ si, f5 _ sj]
      unfold X10_related_B48 X11_related_B52
      rw [e1, e3, Option.bind_some, Option.bind_some, Option.bind_some, Option.bind_some]
      by_cases hnm : nI (aN A (lN_ (aL A) i)) = nI (aN A (lN_ (aL A) j))
      · rw [if_pos hnm, if_pos hnm]
        by_cases ho : oI o = -4
        · rw [if_pos ho, if_pos ho]; exact Eq2.pt rfl rfl hrel
        · rw [if_neg ho, if_neg ho]; exact Eq2.pt rfl rfl hrel
      · rw [if_neg hnm, if_neg hnm]
        by_cases ho : oI o = -4
        · rw [if_pos ho, if_pos ho]; exact Eq2.pt rfl rfl hrel
        · rw [if_neg ho, if_neg ho]; exact Eq2.pt rfl rfl hrel
    · rw [c_line_out hL.1 hy, m_line_out mL.1 hn hy, Option.bind_some, Option.bind_some, if_pos rfl, if_pos rfl]
      exact Eq2.pt rfl rfl h0
  · rw [c_line_out hL.1 hx, m_line_out mL.1 hn hx, Option.bind_some, Option.bind_some, if_pos rfl, if_pos rfl]
    exact Eq2.pt rfl rfl h0
end Kin2
