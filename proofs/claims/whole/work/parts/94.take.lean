/-! taking tokens, on both sides -/
def fN (T : DT) (p : Nat) : Nat := if tK T p = 4 then 1 else 2
def fB (T : DT) (p : Nat) : Nat := if tK T p = 4 then 1 else if tK T p = 2 then 3 else 2
theorem tK_le (T : DT) (p : Nat) : tK T p ≤ 4 := by
  have := tK0_le T p
  unfold tK
  split <;> omega
section TakeC
variable {σ : St} {T : DT} {p : Nat}
def CO (σ : St) (T : DT) (p : Nat) (ok : Bool) (f : Nat) (a : Option (Int32 × St)) : Prop := ∃ g', a = some (b2 ok, sIf σ 3 g') ∧ (ok = true → TC g' T p ∧ g' 2 = gI σ 3 2 ∧ g' 8 = gI σ 3 8) ∧ (ok = false → g' 8 = nI f ∧ g' 9 = nI (tS T p))
theorem c_refuse (σ : St) (g : Nat → Int32) (f : Int32) : X8_refuse f (sIf σ 3 g) = some (0, sIf σ 3 (upd (upd g 8 f) 9 (g 5))) := by
  unfold X8_refuse
  rw [bnd, sI_sIf, bnd, gI_sIf, sI_sIf]
  rfl
theorem c_take (hT : CT σ T) (wT : WTp T) (hp : p ≤ T.1) (h3 : gI σ 3 3 = nI p) {w : Nat} (hw : w ≤ 3) : CO σ T p (decide (tK T p = w)) (fN T p) (X8_takeToken (nI w) σ) := by
  have hk := tK_le T p
  obtain ⟨g', a1, a2, a3, a4, a5⟩ := c_token hT wT hp h3
  rw [sIf_self] at a1
  unfold X8_takeToken
  rw [a1, Option.bind_some, gI_sIf, a2.2.1]
  simp only [show (nI (tK T p) = (4 : Int32)) = (tK T p = 4) from eqI (b := 4) (by omega) (by decide), eqI (show tK T p < 2 ^ 31 by omega) (show w < 2 ^ 31 by omega)]
  by_cases e4 : tK T p = 4
  · rw [if_pos e4, c_refuse, Option.bind_some, decide_eq_false (by omega)]
    refine ⟨_, rfl, fun h => (by cases h), fun _ => ⟨?_, a2.2.2.1⟩⟩
    unfold fN
    rw [if_pos e4]
    rfl
  · rw [if_neg e4]
    by_cases ew : tK T p = w
    · rw [if_pos ew, decide_eq_true ew]
      exact ⟨g', rfl, fun _ => ⟨a2, a3, a4⟩, fun h => (by cases h)⟩
    · rw [if_neg ew, c_refuse, Option.bind_some, decide_eq_false ew]
      refine ⟨_, rfl, fun h => (by cases h), fun _ => ⟨?_, a2.2.2.1⟩⟩
      unfold fN
      rw [if_neg e4]
      rfl
theorem c_takeName (hT : CT σ T) (wT : WTp T) (hp : p ≤ T.1) (h3 : gI σ 3 3 = nI p) {L : Nat} (hL : L ≤ 3) : CO σ T p (decide (tK T p = 1 ∧ tE T p - tS T p ≤ L)) (fN T p) (X8_takeName (nI L) σ) := by
  have h200 := wT.1
  obtain ⟨he1, he2, -⟩ := tE_le hp
  obtain ⟨g', a1, a2, a3⟩ := c_take hT wT hp h3 (w := 1) (by decide)
  have a1' : X8_takeToken 1 σ = _ := a1
  unfold X8_takeName
  rw [a1', Option.bind_some]
  by_cases e1 : tK T p = 1
  · obtain ⟨b1, b2', b3⟩ := a2 (decide_eq_true e1)
    rw [decide_eq_true e1, if_neg (show ¬ b2 true = 0 from n10), gI_sIf, b1.2.2.2.1]
    simp only [leI (show tE T p - tS T p < 2 ^ 31 by omega) (show L < 2 ^ 31 by omega)]
    by_cases e2 : tE T p - tS T p ≤ L
    · rw [if_pos e2, decide_eq_true (show tK T p = 1 ∧ tE T p - tS T p ≤ L from ⟨e1, e2⟩)]
      exact ⟨g', rfl, fun _ => ⟨b1, b2', b3⟩, fun h => (by cases h)⟩
    · rw [if_neg e2, c_refuse, Option.bind_some, decide_eq_false (fun h => e2 h.2)]
      refine ⟨_, rfl, fun h => (by cases h), fun _ => ⟨?_, b1.2.2.1⟩⟩
      unfold fN
      rw [if_neg (by omega)]
      rfl
  · rw [decide_eq_false e1, if_pos (show b2 false = 0 from rfl), decide_eq_false (fun h => e1 h.1)]
    exact ⟨g', rfl, fun h => (by cases h), fun _ => a3 (decide_eq_false e1)⟩
theorem tV_lt {T : DT} (wT : WTp T) {p : Nat} (hp : p ≤ T.1) (h : tK T p = 2) : tV T p < 100 := by
  obtain ⟨he1, he2, -⟩ := tE_le hp
  have hk0 : tK0 T p = 2 := by
    unfold tK at h
    split at h
    · cases h
    · exact h
  have hl : ¬ 2 < tE T p - tS T p := fun hl => by
    unfold tK at h
    rw [if_pos ⟨hk0, hl⟩] at h
    cases h
  have hE : tE T p = rnT T 2 (T.1 - tS T p) (tS T p) := by unfold tE; rw [hk0, if_pos (Or.inr rfl)]
  obtain ⟨-, -, hall⟩ := rnT_le (T := T) (k := 2) (T.1 - tS T p) (tS T p)
  rw [← hE] at hall
  have hd : ∀ i, i < tE T p - tS T p → T.2 (tS T p + i) - 48 ≤ 9 := fun i hi => by
    have := kd_2.mp (hall (tS T p + i) (by omega) (by omega)).2
    omega
  unfold tV
  rw [hk0, if_neg (by decide), if_pos rfl]
  rcases (by omega : tE T p - tS T p = 0 ∨ tE T p - tS T p = 1 ∨ tE T p - tS T p = 2) with e | e | e
  · rw [e]; show 0 < 100; decide
  · have h0 := hd 0 (by omega)
    rw [e]
    show 10 * 0 + (T.2 (tS T p + 0) - 48) < 100
    omega
  · have h0 := hd 0 (by omega)
    have h1 := hd 1 (by omega)
    rw [e]
    show 10 * (10 * 0 + (T.2 (tS T p + 0) - 48)) + (T.2 (tS T p + 1) - 48) < 100
    omega
theorem c_takeBetween (hT : CT σ T) (wT : WTp T) (hp : p ≤ T.1) (h3 : gI σ 3 3 = nI p) {lo hi : Nat} (hlo : lo ≤ 1) (hhi : hi ≤ 20) : CO σ T p (decide (tK T p = 2 ∧ lo ≤ tV T p ∧ tV T p ≤ hi)) (fB T p) (X8_takeBetween (nI lo) (nI hi) σ) := by
  have h200 := wT.1
  obtain ⟨g', a1, a2, a3⟩ := c_take hT wT hp h3 (w := 2) (by decide)
  have a1' : X8_takeToken 2 σ = _ := a1
  unfold X8_takeBetween
  rw [a1', Option.bind_some]
  by_cases e1 : tK T p = 2
  · obtain ⟨b1, b2', b3⟩ := a2 (decide_eq_true e1)
    have hv := tV_lt wT hp e1
    have hbad : ∀ g'' : Nat → Int32, g'' 5 = nI (tS T p) → ¬ (lo ≤ tV T p ∧ tV T p ≤ hi) → CO σ T p (decide (tK T p = 2 ∧ lo ≤ tV T p ∧ tV T p ≤ hi)) (fB T p) (X8_takeBetween_B24 (sIf σ 3 g'')) := fun g'' h5 hn => by
      unfold X8_takeBetween_B24
      rw [c_refuse, Option.bind_some, decide_eq_false (fun h => hn h.2)]
      refine ⟨_, rfl, fun h => (by cases h), fun _ => ⟨?_, h5⟩⟩
      unfold fB
      rw [if_neg (by omega), if_pos e1]
      rfl
    rw [decide_eq_true e1, if_neg (show ¬ b2 true = 0 from n10), gI_sIf, b1.2.2.2.2]
    simp only [ltI (show tV T p < 2 ^ 31 by omega) (show lo < 2 ^ 31 by omega), leI (show tV T p < 2 ^ 31 by omega) (show hi < 2 ^ 31 by omega)]
    by_cases e2 : tV T p < lo
    · rw [if_pos e2]
      exact hbad g' b1.2.2.1 (fun h => by omega)
    · rw [if_neg e2]
      by_cases e3 : tV T p ≤ hi
      · rw [if_pos e3, decide_eq_true (show tK T p = 2 ∧ lo ≤ tV T p ∧ tV T p ≤ hi from ⟨e1, by omega, e3⟩)]
        exact ⟨g', rfl, fun _ => ⟨b1, b2', b3⟩, fun h => (by cases h)⟩
      · rw [if_neg e3]
        exact hbad g' b1.2.2.1 (fun h => by omega)
  · rw [decide_eq_false e1, if_pos (show b2 false = 0 from rfl), decide_eq_false (fun h => e1 h.1)]
    refine ⟨g', rfl, fun h => (by cases h), fun _ => ?_⟩
    have := a3 (decide_eq_false e1)
    unfold fN at this
    unfold fB
    by_cases e4 : tK T p = 4
    · rw [if_pos e4] at this ⊢; exact this
    · rw [if_neg e4] at this
      rw [if_neg e4, if_neg e1]; exact this
end TakeC
section TakeM
variable {τ : St} {T : DT} {p : Nat}
def RO (τ : St) (T : DT) (p : Nat) (ok : Bool) (f : Nat) (b : Option St) : Prop := ∃ g', b = some (sIf τ 0 g') ∧ o12 (gI τ 0) g' ∧ (ok = true → g' = gI τ 0) ∧ (ok = false → g' 7 = nI f ∧ g' 8 = nI (tS T p))
theorem m_fail0 (h7 : gI τ 0 7 = 0) (f : Nat) : X11_fails (nI f) τ = some (sIf τ 0 (upd (upd (gI τ 0) 7 (nI f)) 8 (gI τ 0 10))) := by
  have := m_fails (τ := τ) (g := gI τ 0) h7 f
  rw [sIf_self] at this
  exact this
theorem o12_f (g : Nat → Int32) (a b : Int32) : o12 g (upd (upd g 7 a) 8 b) := fun j hj => by
  unfold upd
  rw [if_neg (by omega), if_neg (by omega)]
theorem m_fail1 (h7 : ¬ gI τ 0 7 = 0) (f : Int32) : X11_fails f τ = some τ := by
  unfold X11_fails
  rw [if_neg h7]
theorem RO.id {ok : Bool} {f : Nat} (h : ok = false → gI τ 0 7 = nI f ∧ gI τ 0 8 = nI (tS T p)) : RO τ T p ok f (some τ) := ⟨gI τ 0, by rw [sIf_self], fun _ _ => rfl, fun _ => rfl, h⟩
theorem m_want (wT : WTp T) (hp : p ≤ T.1) (hM : TM (gI τ 0) T p) {L : Nat} (hL : L ≤ 3) : RO τ T p (decide (tK T p = 1 ∧ tE T p - tS T p ≤ L)) (fN T p) (X11_wantName (nI L) τ) := by
  have h200 := wT.1
  have hk := tK_le T p
  obtain ⟨he1, he2, -⟩ := tE_le hp
  obtain ⟨m9, m10, m11, m4⟩ := hM
  unfold X11_wantName fN
  by_cases e4 : tK T p = 4
  · obtain ⟨q1, q2⟩ := m4 e4
    rw [if_neg (show ¬ gI τ 0 7 = 0 by rw [q1]; decide), if_pos e4]
    exact RO.id (fun _ => ⟨q1, q2⟩)
  · obtain ⟨q1, q2, -⟩ := m11 e4
    rw [if_pos q1, if_neg e4, q2, m9, m10, subI he1, show (2 : Int32) = nI 2 from rfl, m_fail0 q1, Option.bind_some, m10]
    simp only [show (nI (tK T p) = (1 : Int32)) = (tK T p = 1) from eqI (b := 1) (by omega) (by decide), leI (show tE T p - tS T p < 2 ^ 31 by omega) (show L < 2 ^ 31 by omega)]
    by_cases e1 : tK T p = 1
    · rw [if_pos e1]
      by_cases e2 : tE T p - tS T p ≤ L
      · rw [if_pos e2, decide_eq_true (show tK T p = 1 ∧ tE T p - tS T p ≤ L from ⟨e1, e2⟩)]
        exact RO.id (fun h => (by cases h))
      · rw [if_neg e2, decide_eq_false (fun h => e2 h.2)]
        exact ⟨_, rfl, o12_f _ _ _, fun h => (by cases h), fun _ => ⟨rfl, rfl⟩⟩
    · rw [if_neg e1, decide_eq_false (fun h => e1 h.1)]
      exact ⟨_, rfl, o12_f _ _ _, fun h => (by cases h), fun _ => ⟨rfl, rfl⟩⟩
theorem m_number (wT : WTp T) (hp : p ≤ T.1) (hM : TM (gI τ 0) T p) {lo hi : Nat} (hlo : lo ≤ 1) (hhi : hi ≤ 20) : ∃ v τ', X11_number (nI lo) (nI hi) τ = some (v, τ') ∧ RO τ T p (decide (tK T p = 2 ∧ lo ≤ tV T p ∧ tV T p ≤ hi)) (fB T p) (some τ') ∧ ((tK T p = 2 ∧ lo ≤ tV T p ∧ tV T p ≤ hi) → v = nI (tV T p)) := by
  have h200 := wT.1
  have hk := tK_le T p
  obtain ⟨m9, m10, m11, m4⟩ := hM
  unfold X11_number fB
  by_cases e4 : tK T p = 4
  · obtain ⟨q1, q2⟩ := m4 e4
    have h7 : ¬ gI τ 0 7 = 0 := by rw [q1]; decide
    rw [if_neg h7, if_pos e4]
    unfold X11_number_B20
    rw [if_neg h7]
    exact ⟨_, _, rfl, RO.id (fun _ => ⟨q1, q2⟩), fun h => by omega⟩
  · obtain ⟨q1, q2, q3⟩ := m11 e4
    rw [if_pos q1, if_neg e4, q2, show (2 : Int32) = nI 2 from rfl]
    simp only [eqI (show tK T p < 2 ^ 31 by omega) (show 2 < 2 ^ 31 by decide)]
    by_cases e1 : tK T p = 2
    · have hv := tV_lt wT hp e1
      rw [if_pos e1, if_pos e1]
      unfold X11_number_B20
      rw [if_pos q1, q3 e1, in_eq, Option.bind_some]
      simp only [leI (show lo < 2 ^ 31 by omega) (show tV T p < 2 ^ 31 by omega), leI (show tV T p < 2 ^ 31 by omega) (show hi < 2 ^ 31 by omega)]
      by_cases e2 : lo ≤ tV T p ∧ tV T p ≤ hi
      · rw [decide_eq_true e2.1, decide_eq_true e2.2, if_neg (show ¬ b2 (true && true) = 0 from n10), decide_eq_true (show tK T p = 2 ∧ lo ≤ tV T p ∧ tV T p ≤ hi from ⟨e1, e2⟩)]
        exact ⟨_, _, rfl, RO.id (fun h => (by cases h)), fun _ => rfl⟩
      · have hf : (decide (lo ≤ tV T p) && decide (tV T p ≤ hi)) = false := by
          rw [Bool.and_eq_false_iff, decide_eq_false_iff_not, decide_eq_false_iff_not]
          omega
        rw [hf, if_pos (show b2 false = 0 from rfl), show (3 : Int32) = nI 3 from rfl, m_fail0 q1, Option.bind_some, decide_eq_false (fun h => e2 h.2), m10]
        exact ⟨_, _, rfl, ⟨_, rfl, o12_f _ _ _, fun h => (by cases h), fun _ => ⟨rfl, rfl⟩⟩, fun h => absurd h.2 e2⟩
    · rw [if_neg e1, if_neg e1, m_fail0 q1, Option.bind_some, decide_eq_false (fun h => e1 h.1), m10]
      unfold X11_number_B20
      rw [gI_sIf, if_neg (show ¬ upd (upd (gI τ 0) 7 (nI 2)) 8 (nI (tS T p)) 7 = 0 from (by decide : ¬ nI 2 = 0))]
      exact ⟨_, _, rfl, ⟨_, rfl, o12_f _ _ _, fun h => (by cases h), fun _ => ⟨rfl, rfl⟩⟩, fun h => absurd h.1 e1⟩
theorem m_stop (hB : B4 τ T) (wT : WTp T) (hp : p ≤ T.1) (h5 : gI τ 0 5 = nI T.1) (hM : TM (gI τ 0) T p) : ∃ g', X11_readLine_B141 τ = some (sIf τ 0 g') ∧ o12 (gI τ 0) g' ∧ (tK T p = 3 → TM g' T (tE T p)) ∧ (tK T p ≠ 3 → g' 7 = nI (fN T p) ∧ g' 8 = nI (tS T p)) := by
  have hk := tK_le T p
  obtain ⟨he1, he2, -⟩ := tE_le hp
  obtain ⟨m9, m10, m11, m4⟩ := hM
  unfold X11_readLine_B141 fN
  by_cases e4 : tK T p = 4
  · obtain ⟨q1, q2⟩ := m4 e4
    rw [if_neg (show ¬ gI τ 0 7 = 0 by rw [q1]; decide), m_next1 (by rw [q1]; decide), Option.bind_some, if_pos e4]
    exact ⟨gI τ 0, by rw [sIf_self], fun _ _ => rfl, fun h => by omega, fun _ => ⟨q1, q2⟩⟩
  · obtain ⟨q1, q2, -⟩ := m11 e4
    rw [if_pos q1, q2, if_neg e4]
    simp only [show (nI (tK T p) = (3 : Int32)) = (tK T p = 3) from eqI (b := 3) (by omega) (by decide)]
    by_cases e3 : tK T p = 3
    · obtain ⟨g', a1, a2, a3⟩ := m_next hB wT he2 h5 q1 m9
      rw [if_pos e3, a1, Option.bind_some]
      exact ⟨g', rfl, a3, fun _ => a2, fun h => absurd e3 h⟩
    · rw [if_neg e3, show (2 : Int32) = nI 2 from rfl, m_fail0 q1, Option.bind_some, m_next1 (by rw [gI_sIf]; show ¬ nI 2 ≤ 0; decide), Option.bind_some, m10]
      exact ⟨_, rfl, o12_f _ _ _, fun h => absurd h e3, fun _ => ⟨rfl, rfl⟩⟩
end TakeM
