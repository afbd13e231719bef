/-! which say or mute stands at a place: the class -/
theorem pkl_inj : ∀ {l m : List Nat}, LTR l → LTR m → l.length = m.length → pk l = pk m → l = m
  | [], [], _, _, _, _ => rfl
  | [], _ :: _, _, _, h, _ => by simp at h
  | _ :: _, [], _, _, h, _ => by simp at h
  | x :: l, y :: m, hl, hm, h, he => by
    rw [pk_cons, pk_cons] at he
    have hlen : l.length = m.length := by simpa using h
    rw [hlen] at he
    have h1 : pk l < 32 ^ m.length := by rw [← hlen]; exact pkl_lt (fun z hz => hl z (List.mem_cons_of_mem _ hz))
    have h2 : pk m < 32 ^ m.length := pkl_lt (fun z hz => hm z (List.mem_cons_of_mem _ hz))
    have hx : x = y := by
      have e1 : (x * 32 ^ m.length + pk l) / 32 ^ m.length = x := by
        rw [Nat.add_comm, Nat.add_mul_div_right _ _ (Nat.pow_pos (by decide)), Nat.div_eq_of_lt h1]; omega
      have e2 : (y * 32 ^ m.length + pk m) / 32 ^ m.length = y := by
        rw [Nat.add_comm, Nat.add_mul_div_right _ _ (Nat.pow_pos (by decide)), Nat.div_eq_of_lt h2]; omega
      rw [← e1, ← e2, he]
    subst hx
    have : l = m := pkl_inj (fun z hz => hl z (List.mem_cons_of_mem _ hz)) (fun z hz => hm z (List.mem_cons_of_mem _ hz)) hlen (by omega)
    rw [this]
theorem LTR.take {l : List Nat} (h : LTR l) (n : Nat) : LTR (l.take n) := fun x hx => h x (List.mem_of_mem_take hx)
theorem LTR.drop {l : List Nat} (h : LTR l) (n : Nat) : LTR (l.drop n) := fun x hx => h x (List.mem_of_mem_drop hx)
/-- the k letters that stand behind i ones, out of the packed number -/
theorem pk_mid {w : List Nat} (h : LTR w) {i k : Nat} (hik : i + k ≤ w.length) : pk w / 32 ^ (w.length - i - k) % 32 ^ k = pk ((w.drop i).take k) := by
  have e : w = w.take i ++ ((w.drop i).take k ++ w.drop (i + k)) := by
    rw [← List.drop_drop, List.take_append_drop, List.take_append_drop]
  have l1 : ((w.drop i).take k).length = k := by simp; omega
  have l2 : (w.drop (i + k)).length = w.length - i - k := by simp; omega
  have hp : pk w = (pk (w.take i) * 32 ^ k + pk ((w.drop i).take k)) * 32 ^ (w.length - i - k) + pk (w.drop (i + k)) := by
    conv => lhs; rw [e]
    rw [pk_append, pk_append, List.length_append, l1, l2, Nat.pow_add, Nat.add_mul, ← Nat.mul_assoc]
    omega
  have h1 : pk (w.drop (i + k)) < 32 ^ (w.length - i - k) := by
    have := pkl_lt (h.drop (i + k)); rwa [l2] at this
  have h2 : pk ((w.drop i).take k) < 32 ^ k := by
    have := pkl_lt ((h.drop i).take k); rwa [l1] at this
  rw [hp, Nat.add_comm, Nat.add_mul_div_right _ _ (Nat.pow_pos (by decide)), Nat.div_eq_of_lt h1, Nat.zero_add, Nat.add_comm, Nat.add_mul_mod_self_right, Nat.mod_eq_of_lt h2]
theorem pow32 (k : Nat) : (32 : Nat) ^ k = 2 ^ (5 * k) := by rw [Nat.pow_mul]
theorem mul5 (k : Nat) : (5 : Int32) * nI k = nI (5 * k) := pk_mul 5 k
section Chg
variable {σ : St} {U : DU} {r : Nat}
theorem c_standsAt (hU : CU σ r U) (wU : WU U) {w : List Nat} (hw : LTR w) (hl : w.length ≤ 10) {c i : Nat} (hc : c < uM U) (hi : i + (uF U c).length ≤ w.length) : X5_standsAt r (nI c) (lN (pk w)) (nI (w.length - i)) σ = some (b2 (decide (uF U c = (w.drop i).take (uF U c).length))) := by
  obtain ⟨e1, e2, -, -⟩ := hU.2.2.2.1 c hc
  obtain ⟨f1, f2, f3, -, -⟩ := wU.2.1 c hc
  have hm := wU.1
  have hpk : pk w < 2 ^ 50 := by
    have := pkl_lt hw
    have h2 : (32 : Nat) ^ w.length ≤ 32 ^ 10 := Nat.pow_le_pow_right (by decide) hl
    omega
  unfold X5_standsAt
  simp only [chk_nI (show c < 12 by omega) (by decide), nI_cl (show c < 2 ^ 31 by omega), e1, e2, bnd, mul5, subI (show (uF U c).length ≤ w.length - i by omega)]
  rw [one_shl _ (by omega), show (1 : Int64) = lN 1 from rfl, lN_sub (Nat.one_le_two_pow), lN_shr (by omega) (by omega), lN_and, Nat.and_two_pow_sub_one_eq_mod, ← pow32, ← pow32, pk_mid hw hi, nI_l (by have := pkl_lt f3; have : (32 : Nat) ^ (uF U c).length ≤ 32 ^ 3 := Nat.pow_le_pow_right (by decide) f2; omega)]
  have l1 : ((w.drop i).take (uF U c).length).length = (uF U c).length := by simp; omega
  have b1 : pk ((w.drop i).take (uF U c).length) < 2 ^ 31 := by
    have := pkl_lt ((hw.drop i).take (uF U c).length)
    rw [l1] at this
    have h2 : (32 : Nat) ^ (uF U c).length ≤ 32 ^ 3 := Nat.pow_le_pow_right (by decide) f2
    omega
  have b2' : pk (uF U c) < 2 ^ 31 := by
    have := pkl_lt f3
    have h2 : (32 : Nat) ^ (uF U c).length ≤ 32 ^ 3 := Nat.pow_le_pow_right (by decide) f2
    omega
  by_cases e : uF U c = (w.drop i).take (uF U c).length
  · rw [if_pos (by rw [← e])]
    simp [e.symm, b2, ← e]
  · rw [if_neg]
    · simp [e, b2]
    · intro he
      have he2 := (lN_eq b1 b2').mp he
      exact e (pkl_inj f3 ((hw.drop i).take _) l1.symm he2.symm)
theorem c_changeAt (hU : CU σ r U) (wU : WU U) {w : List Nat} (hw : LTR w) (hl : w.length ≤ 10) {i : Nat} (hi : i ≤ w.length) : X5_changeAt r (lN (pk w)) (nI (w.length - i)) σ = some (oI (chg U (w.drop i))) ∧ ∀ d, chg U (w.drop i) = some d → d < uM U ∧ uF U d = (w.drop i).take (uF U d).length := by
  have hm := wU.1
  have key := fold0I (fun m c (best : Option Nat) => X5_changeAt_L7 r σ m (lN (pk w)) (nI (w.length - i)) (oI best) (nI c)) (uM U) (fun c best => if uF U c = (w.drop i).take (uF U c).length ∧ blen U best < (uF U c).length then some c else best) (fun best => some (oI best)) (fun c best => ∀ d, best = some d → d < uM U ∧ uF U d = (w.drop i).take (uF U d).length) (by omega) (fun m c best hc hI => ?_) (fun m best hI => ?_) none (fun d hd => by cases hd)
  · exact key
  · refine ⟨?_, fun d hd => ?_⟩
    · obtain ⟨e1, e2, -, -⟩ := hU.2.2.2.1 c hc
      obtain ⟨f1, f2, f3, -, -⟩ := wU.2.1 c hc
      show X5_changeAt_L7 r σ (m + 1) (lN (pk w)) (nI (w.length - i)) (oI best) (nI c) = _
      have hB : X5_changeAt_B45 (X5_changeAt_L7 r σ m) r σ (lN (pk w)) (nI (w.length - i)) (oI best) (nI c) 1 = X5_changeAt_L7 r σ m (lN (pk w)) (nI (w.length - i)) (oI (if uF U c = (w.drop i).take (uF U c).length then some c else best)) (nI (c + 1)) := by
        unfold X5_changeAt_B45
        rw [if_neg (by decide), chk_nI (by omega) (by decide), nI_cl (by omega), e2, nI_1]
        simp only [ltI (show w.length - i < 2 ^ 31 by omega) (show (uF U c).length < 2 ^ 31 by omega)]
        by_cases hlt : w.length - i < (uF U c).length
        · have hne : ¬ uF U c = (w.drop i).take (uF U c).length := fun e => by
            have := congrArg List.length e
            simp at this
            omega
          rw [if_pos hlt, if_neg hne]
        · rw [if_neg hlt, c_standsAt hU wU hw hl hc (by omega)]
          simp only [Option.bind_some, b2_0]
          by_cases e : uF U c = (w.drop i).take (uF U c).length
          · rw [if_neg (by simp [← e]), if_pos e]; rfl
          · rw [if_pos (by simp [e]), if_neg e]
      have hB0 : X5_changeAt_B45 (X5_changeAt_L7 r σ m) r σ (lN (pk w)) (nI (w.length - i)) (oI best) (nI c) 0 = X5_changeAt_L7 r σ m (lN (pk w)) (nI (w.length - i)) (oI best) (nI (c + 1)) := by
        unfold X5_changeAt_B45
        rw [if_pos rfl, nI_1]
      rw [X5_changeAt_L7, hU.1, if_neg (nI_ge hc (by omega))]
      cases best with
      | none =>
        rw [if_pos (show oI none = -4 from rfl)]
        have : blen U none < (uF U c).length := by show 0 < _; omega
        simp only [this, and_true]
        exact hB
      | some d =>
        obtain ⟨hd, -⟩ := hI d rfl
        obtain ⟨g1, g2, -, -⟩ := hU.2.2.2.1 d hd
        obtain ⟨k1, k2, -⟩ := wU.2.1 d hd
        rw [show oI (some d) = nI d from rfl] at hB hB0 ⊢
        simp only [neI4 (show d < 2 ^ 31 by omega), if_false, chk_nI (show c < 12 by omega) (by decide), chk_nI (show d < 12 by omega) (by decide), nI_cl (show c < 2 ^ 31 by omega), nI_cl (show d < 2 ^ 31 by omega), e2, g2, leI (show (uF U c).length < 2 ^ 31 by omega) (show (uF U d).length < 2 ^ 31 by omega)]
        by_cases hle : (uF U c).length ≤ (uF U d).length
        · have : ¬ blen U (some d) < (uF U c).length := by show ¬ (uF U d).length < _; omega
          simp only [hle, if_true, this, and_false, if_false]
          exact hB0
        · have : blen U (some d) < (uF U c).length := by show (uF U d).length < _; omega
          simp only [hle, if_false, this, and_true]
          exact hB
    · by_cases e : uF U c = (w.drop i).take (uF U c).length ∧ blen U best < (uF U c).length
      · rw [if_pos e] at hd
        cases hd
        exact ⟨hc, e.1⟩
      · rw [if_neg e] at hd
        exact hI d hd
  · show X5_changeAt_L7 r σ (m + 1) (lN (pk w)) (nI (w.length - i)) (oI best) (nI (uM U)) = _
    rw [X5_changeAt_L7, hU.1, if_pos (nI_le (Nat.le_refl _) (by omega))]
end Chg
