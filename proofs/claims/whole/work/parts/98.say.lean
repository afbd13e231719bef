/-! say and mute -/
def ltk (T : DT) (p : Nat) : List Nat := ltT T (tS T p) (tE T p)
theorem ltk_ok {T : DT} {p : Nat} (hp : p ≤ T.1) (h : tK T p = 1) : (ltk T p).length = tE T p - tS T p ∧ 1 ≤ (ltk T p).length ∧ LTR (ltk T p) ∧ tV T p = pk (ltk T p) ∧ ∀ x, (ltk T p).getD x 0 = if tS T p + x < tE T p then T.2 (tS T p + x) - 96 else 0 := by
  obtain ⟨he1, he2, he3⟩ := tE_le hp
  have hk0 : tK0 T p = 1 := by
    unfold tK at h
    split at h
    · cases h
    · exact h
  have hE : tE T p = rnT T 1 (T.1 - tS T p) (tS T p) := by unfold tE; rw [hk0, if_pos (Or.inl rfl)]
  obtain ⟨-, -, hall⟩ := rnT_le (T := T) (k := 1) (T.1 - tS T p) (tS T p)
  rw [← hE] at hall
  have hpos := he3 (by omega)
  have hl : (ltk T p).length = tE T p - tS T p := by unfold ltk ltT; simp
  refine ⟨hl, by omega, ?_, by unfold tV; rw [if_pos hk0]; rfl, fun x => ?_⟩
  · intro y hy
    unfold ltk ltT at hy
    rw [List.mem_map] at hy
    obtain ⟨i, hi, rfl⟩ := hy
    rw [List.mem_range'] at hi
    obtain ⟨j, j1, j2⟩ := hi
    have := kd_1.mp (hall i (by omega) (by omega)).2
    omega
  · by_cases hx : tS T p + x < tE T p
    · rw [if_pos hx]
      unfold ltk ltT
      rw [List.getD_eq_getElem?_getD, List.getElem?_map, List.getElem?_range' (by omega)]
      simp
    · rw [if_neg hx, List.getD_eq_getElem?_getD, List.getElem?_eq_none (by omega)]
      rfl
theorem l3_ext : ∀ {l l' : List Nat}, LTR l → LTR l' → l.length ≤ 3 → l'.length ≤ 3 → (∀ x, x < 3 → l.getD x 0 = l'.getD x 0) → l = l' := by
  intro l l' h h' hl hl' he
  have hlen : l.length = l'.length := by
    rcases Nat.lt_trichotomy l.length l'.length with hlt | heq | hgt
    · have h1 := he l.length (by omega)
      rw [List.getD_eq_getElem?_getD, List.getElem?_eq_none (Nat.le_refl _), List.getD_eq_getElem?_getD, List.getElem?_eq_getElem hlt] at h1
      have h2 := (h' _ (List.getElem_mem hlt)).1
      simp at h1
      omega
    · exact heq
    · have h1 := he l'.length (by omega)
      rw [List.getD_eq_getElem?_getD, List.getElem?_eq_getElem hgt, List.getD_eq_getElem?_getD, List.getElem?_eq_none (Nat.le_refl _)] at h1
      have h2 := (h _ (List.getElem_mem hgt)).1
      simp at h1
      omega
  apply List.ext_getElem hlen
  intro i h1 h2
  have h3 := he i (by omega)
  rw [List.getD_eq_getElem?_getD, List.getD_eq_getElem?_getD, List.getElem?_eq_getElem h1, List.getElem?_eq_getElem h2] at h3
  simpa using h3
section Say
variable {σ τ : St} {T : DT} {ρ p : Nat} {U : DU} {tb tm : Nat}
theorem m_letter (hB : B4 τ T) (wT : WTp T) (h5 : gI τ 0 5 = nI T.1) (hp : p ≤ T.1) (hT : TM (gI τ 0) T p) (h1 : tK T p = 1) {x : Nat} (hx : x ≤ 2) : X11_letter (nI x) τ = some (nI ((ltk T p).getD x 0)) := by
  have h200 := wT.1
  obtain ⟨he1, he2, he3⟩ := tE_le hp
  obtain ⟨k1, k2, k3, k4, k5⟩ := ltk_ok hp h1
  have hmt : MT τ T := ⟨h5, hB⟩
  unfold X11_letter
  rw [hT.1, hT.2.1, nI_add, k5 x]
  simp only [leI (show tE T p < 2 ^ 31 by omega) (show tS T p + x < 2 ^ 31 by omega)]
  by_cases e : tS T p + x < tE T p
  · have hb : 97 ≤ T.2 (tS T p + x) := by
      have h6 := k3 ((ltk T p).getD x 0) (by
        rw [List.getD_eq_getElem?_getD, List.getElem?_eq_getElem (by omega)]
        exact List.getElem_mem _)
      rw [k5 x, if_pos e] at h6
      omega
    rw [if_neg (by omega), if_pos e, m_byte hmt wT (by omega), Option.bind_some, if_pos (show tS T p + x < T.1 by omega), show nI (T.2 (tS T p + x)) - 97 = nI (T.2 (tS T p + x) - 97) from subI (b := 97) hb, nI_1]
    congr 2
    omega
  · rw [if_pos (by omega), if_neg e]
    rfl
/-- is it said already -/
def sdA (U : DU) (l : List Nat) : Bool := (List.range (uM U)).any fun c => decide (uF U c = l)
theorem c_isCh (hU : CU σ ρ U) (hW : WUp U p) {l : List Nat} (hl : LTR l) (hl3 : l.length ≤ 3) : X5_isChanged ρ (nI (pk l)) σ = some (b2 (sdA U l)) := by
  have h12 := hW.1
  have hp3 : ∀ m : List Nat, LTR m → m.length ≤ 3 → pk m < 32768 := fun m h h3 => Nat.lt_of_lt_of_le (pkl_lt h) (Nat.pow_le_pow_right (n := 32) (by decide) h3)
  refine any_loop (fun m k => X5_isChanged_L2 ρ σ m (nI (pk l)) (nI k)) (uM U) _ (by omega) (fun m k hk => ?_) (fun m => ?_)
  · show X5_isChanged_L2 ρ σ (m + 1) (nI (pk l)) (nI k) = _
    obtain ⟨c1, c2, c3, c4, c5⟩ := hW.2.1 k hk
    have b1 := hp3 l hl hl3
    have b2' := hp3 _ c3 c2
    rw [X5_isChanged_L2, hU.1, if_neg (nI_ge hk (by omega)), chk_nI (by omega) (by decide), nI_cl (by omega), (hU.2.2.2.1 k hk).1, nI_1]
    simp only [eqI (show pk (uF U k) < 2 ^ 31 by omega) (show pk l < 2 ^ 31 by omega)]
    by_cases e : uF U k = l
    · rw [if_pos (by rw [e]), if_pos (decide_eq_true e)]
    · rw [if_neg (fun h => e (pk_inj c3 hl (by omega) (by omega) h)), if_neg (by rw [decide_eq_false e]; decide)]
  · show X5_isChanged_L2 ρ σ (m + 1) (nI (pk l)) (nI (uM U)) = _
    rw [X5_isChanged_L2, hU.1, if_pos (nI_le (Nat.le_refl _) (by omega))]
end Say
