/-! what a spelling sounds like: the class hears it, the reference lays it -/
section Hear
variable {σ : St} {U : DU} {r : Nat}
/-- the class's memory with the sounds l of the spelling s -/
def hrd (σ : St) (s : Nat) (l : List Nat) : St := sIf (sIf σ 23 (row (gI σ 23) (20 * s) l)) 22 (upd (gI σ 22) s (nI l.length))
theorem hrd_o {σ : St} {s : Nat} {l : List Nat} {q : Nat} (h1 : q ≠ 22) (h2 : q ≠ 23) : gI (hrd σ s l) q = gI σ q := by
  unfold hrd
  rw [gI_sIfn h1, gI_sIfn h2]
theorem hrd_22 {σ : St} {s : Nat} {l : List Nat} : gI (hrd σ s l) 22 = upd (gI σ 22) s (nI l.length) := by
  unfold hrd
  rw [gI_sIf]
theorem hrd_23 {σ : St} {s : Nat} {l : List Nat} : gI (hrd σ s l) 23 = row (gI σ 23) (20 * s) l := by
  unfold hrd
  rw [gI_sIfn (by decide), gI_sIf]
theorem hrd_J {σ : St} {s : Nat} {l : List Nat} : gJ (hrd σ s l) = gJ σ := rfl
theorem hrd_R {σ : St} {s : Nat} {l : List Nat} : gR (hrd σ s l) = gR σ := rfl
theorem upd_same (f : Nat → Int32) (j : Nat) (v w : Int32) : upd (upd f j v) j w = upd f j w := by
  funext i; unfold upd; by_cases h : i = j <;> simp [h]
theorem upd_at (f : Nat → Int32) (j : Nat) (v : Int32) : upd f j v j = v := by simp [upd]
theorem hrd_step (σ : St) (s : Nat) (l : List Nat) (x : Nat) : sI (sI (hrd σ s l) 23 (20 * s + l.length) (nI x)) 22 s (nI (l.length + 1)) = hrd σ s (l ++ [x]) := by
  unfold hrd
  rw [sI_as (sIf _ 22 _) 23, gI_sIfn (by decide), gI_sIf, upd_row, sIf_comm _ (by decide), sIf_sIf, sI_sIf, upd_same]
  simp
theorem c_app1 {s x : Nat} {l : List Nat} (hs : s < 16) (hl : l.length < 20) (n : Nat) (x2 x4 : Int32) (h4 : ¬ x4 < 0) (hx : (x2 >>> (x4 &&& 31)) &&& 31 = nI x) : X9_appendSounds_L7 (n + 1) (nI s) x2 x4 (hrd σ s l) = X9_appendSounds_L7 n (nI s) x2 (x4 + (-5)) (hrd σ s (l ++ [x])) := by
  have e22 : gI (hrd σ s l) 22 s = nI l.length := by rw [hrd_22, upd_at]
  have em : nI s * 20 + nI l.length = nI (20 * s + l.length) := by rw [Int32.mul_comm, mul20]
  rw [X9_appendSounds_L7, if_neg h4, chk_nI hs (by decide), nI_cl (by omega), e22, if_neg (show ¬ (20 : Int32) ≤ nI l.length from nI_ge (b := 20) hl (by decide)), chk_nI hs (by decide), em, chk_nI (by omega) (by decide), nI_cl (by omega), hx, bnd, chk_nI hs (by decide), chk_nI hs (by decide), gI_sIn (by decide), e22, nI_1, bnd, hrd_step]
theorem c_appS {s : Nat} {l m : List Nat} (hs : s < 16) (hm : LTR m) (h2 : m.length ≤ 2) (hl : l.length + m.length ≤ 20) : X9_appendSounds (nI s) (nI (pk m)) (nI m.length) (hrd σ s l) = some (hrd σ s (l ++ m)) := by
  unfold X9_appendSounds
  simp only [bnd]
  obtain ⟨n, hn⟩ : ∃ n, FU = n + 1 + 1 + 1 := ⟨999997, rfl⟩
  rw [hn]
  have hend : ∀ n l x2, X9_appendSounds_L7 (n + 1) (nI s) x2 (-5) (hrd σ s l) = some (hrd σ s l) := fun n l x2 => by
    rw [X9_appendSounds_L7, if_pos (by decide)]
  match m, hm, h2, hl with
  | [], _, _, _ =>
    rw [show (5 : Int32) * (nI ([] : List Nat).length - 1) = -5 by decide, hend (n + 1 + 1), List.append_nil]
  | [a], hm, _, hl =>
    have ha := (hm a List.mem_cons_self).2
    have e : pk [a] = a := by simp [pk]
    simp only [List.length_singleton] at hl ⊢
    rw [e, show (5 : Int32) * (nI 1 - 1) = nI 0 by decide, c_app1 (x := a) hs (by omega) (n + 1 + 1) (nI a) (nI 0) (by decide) ?_, show nI 0 + (-5) = -5 by decide, hend (n + 1)]
    rw [nI_shr (by omega) (by decide), show (31 : Int32) = nI 31 from rfl, nI_and, show (31 : Nat) = 2 ^ 5 - 1 from rfl, Nat.and_two_pow_sub_one_eq_mod]
    congr 1
    omega
  | [a, b], hm, _, hl =>
    have ha := (hm a List.mem_cons_self).2
    have hb := (hm b (List.mem_cons_of_mem _ List.mem_cons_self)).2
    have e : pk [a, b] = 32 * a + b := by simp [pk]
    simp only [List.length_cons, List.length_nil] at hl ⊢
    rw [e, show (5 : Int32) * (nI (0 + 1 + 1) - 1) = nI 5 by decide, c_app1 (x := a) hs (by omega) (n + 1 + 1) (nI (32 * a + b)) (nI 5) (by decide) ?_, show nI 5 + (-5) = nI 0 by decide, c_app1 (x := b) hs (by simp; omega) (n + 1) (nI (32 * a + b)) (nI 0) (by decide) ?_, show nI 0 + (-5) = -5 by decide, hend n, List.append_assoc]
    · rfl
    · rw [nI_shr (by omega) (by decide), show (31 : Int32) = nI 31 from rfl, nI_and, show (31 : Nat) = 2 ^ 5 - 1 from rfl, Nat.and_two_pow_sub_one_eq_mod]
      congr 1
      omega
    · rw [nI_shr (by omega) (by decide), show (31 : Int32) = nI 31 from rfl, nI_and, show (31 : Nat) = 2 ^ 5 - 1 from rfl, Nat.and_two_pow_sub_one_eq_mod]
      congr 1
      omega
  | a :: b :: c :: t, _, h2, _ => simp at h2
theorem CU.hrd {s : Nat} {l : List Nat} (hr : r < 2) (hU : CU σ r U) : CU (hrd σ s l) r U := hU.fr hr (fun q _ _ => hrd_o (by omega) (by omega))
theorem c_hearL (hU : CU σ r U) (wU : WU U) (hr : r < 2) (hq : gR σ 18 5 = r) {w : List Nat} {s : Nat} (hs : s < 16) (hw : LTR w) (hl : w.length ≤ 10) (hJ : gJ σ 19 s = lN (pk w)) : ∀ d m i j l, w.length - i ≤ d → d < m → j ≤ i → i ≤ w.length → l.length ≤ 2 * i → X9_hear_L40 m (nI s) (nI (w.length - i)) (nI j) (hrd σ s l) = some (hrd σ s (l ++ snd U (w.drop i))) := by
  intro d
  induction d with
  | zero =>
    intro m i j l hd hm hj hi hll
    obtain ⟨m, rfl⟩ : ∃ q, m = q + 1 := ⟨m - 1, by omega⟩
    have : i = w.length := by omega
    subst this
    rw [X9_hear_L40, Nat.sub_self, if_pos (show nI 0 ≤ 0 by decide), ite_self, List.drop_length, snd_nil, List.append_nil]
  | succ d ih =>
    intro m i j l hd hm hj hi hll
    obtain ⟨m, rfl⟩ : ∃ q, m = q + 1 := ⟨m - 1, by omega⟩
    rcases Nat.eq_or_lt_of_le hi with he | hlt
    · subst he
      rw [X9_hear_L40, Nat.sub_self, if_pos (show nI 0 ≤ 0 by decide), ite_self, List.drop_length, snd_nil, List.append_nil]
    · have hpk : pk w < 2 ^ 50 := by
        have := pkl_lt hw
        have h2 : (32 : Nat) ^ w.length ≤ 32 ^ 10 := Nat.pow_le_pow_right (by decide) hl
        omega
      rw [X9_hear_L40, if_neg (show ¬ (10 : Int32) ≤ nI j from nI_ge (b := 10) (by omega) (by decide)), if_neg (show ¬ nI (w.length - i) ≤ 0 from nI_ge (a := 0) (by omega) (by omega)), hrd_R, hq, chkN_lt hr, chk_nI hs (by decide), nI_cl (by omega), hrd_J, hJ, (c_changeAt (hU.hrd hr) wU hw hl hi).1, Option.bind_some, snd_at wU hlt]
      cases hc : chg U (w.drop i) with
      | none =>
        have hx := hw.get hlt
        have e1 : (lN (pk w) >>> (((5 : Int32) * (nI (w.length - i) - 1)).toInt64 &&& 63) &&& 31).toInt32 = nI (pk [w.getD i 0]) := by
          rw [show nI (w.length - i) - 1 = nI (w.length - i - 1) from subI (b := 1) (by omega), mul5, lN_shr (by omega) (by omega), show (31 : Int64) = lN 31 from rfl, lN_and, show (31 : Nat) = 2 ^ 5 - 1 from rfl, Nat.and_two_pow_sub_one_eq_mod, ← pow32, show (2 : Nat) ^ 5 = 32 ^ 1 from rfl, pk_mid hw (by omega)]
          have : (w.drop i).take 1 = [w.getD i 0] := by
            rw [List.getD_eq_getElem?_getD, List.getElem?_eq_getElem hlt]
            simp [List.take_one, List.head?_drop, List.getElem?_eq_getElem hlt]
          rw [this, lN_i]
        rw [if_pos (show oI none = -4 from rfl), chk_nI hs (by decide), e1, show (1 : Int32) = nI [w.getD i 0].length from rfl, c_appS hs (fun x hx' => by simp at hx'; subst hx'; exact hx) (by simp) (by simp; omega), Option.bind_some]
        rw [show nI [w.getD i 0].length = (1 : Int32) from rfl, nI_1, show nI (w.length - i) + (-1) = nI (w.length - (i + 1)) by
          rw [show nI (w.length - i) + (-1) = nI (w.length - i) - 1 from (Int32.sub_eq_add_neg ..).symm, show nI (w.length - i) - 1 = nI (w.length - i - 1) from subI (b := 1) (by omega)]; congr 1, ih m (i + 1) (j + 1) (l ++ [w.getD i 0]) (by omega) (by omega) (by omega) (by omega) (by simp; omega), List.append_assoc]
        rfl
      | some c =>
        obtain ⟨k1, k2⟩ := chg_spec hc
        obtain ⟨f1, f2, f3, f4, f5⟩ := wU.2.1 c k1
        have hcl := chg_len wU hc
        have hm12 := wU.1
        obtain ⟨e1, e2, e3, e4⟩ := (hU.hrd (s := s) (l := l) hr).2.2.2.1 c k1
        rw [if_neg (show ¬ oI (some c) = -4 from fun e => by rw [show oI (some c) = nI c from rfl, neI4 (by omega)] at e; exact e), show oI (some c) = nI c from rfl, chk_nI (by omega) (by decide), chkN_lt hr, chk_nI (by omega) (by decide), nI_cl (by omega), e3, e4, c_appS hs f5 f4 (by omega), Option.bind_some, hrd_R, hq, chkN_lt hr, chk_nI (by omega) (by decide)]
        have e2' := ((hU.hrd (s := s) (l := l ++ uI U c) hr).2.2.2.1 c k1).2.1
        rw [e2', bnd, subI (by omega), nI_1, show w.length - i - (uF U c).length = w.length - (i + (uF U c).length) by omega, ih m (i + (uF U c).length) (j + 1) (l ++ uI U c) (by omega) (by omega) (by omega) (by omega) (by simp; omega), List.append_assoc, chkN_lt hr]
/-- how many letters -/
theorem c_hearN (hw0 : True) {w : List Nat} {s : Nat} (hs : s < 16) (hw : LTR w) (hl : w.length ≤ 10) : ∀ d m k, k + d = w.length → d < m → X9_hear_L9 m (nI s) (nI k) (lN (pk (w.take d))) σ = bnd (sI σ 22 s 0) fun σ2 => X9_hear_L40 FU (nI s) (nI w.length) 0 σ2 := by
  intro d
  induction d with
  | zero =>
    intro m k hk hm
    obtain ⟨m, rfl⟩ : ∃ q, m = q + 1 := ⟨m - 1, by omega⟩
    have : k = w.length := by omega
    subst this
    rw [X9_hear_L9, List.take_zero, pk_nil, if_pos (show lN 0 ≤ 0 by decide), chk_nI hs (by decide), nI_cl (by omega)]
  | succ d ih =>
    intro m k hk hm
    obtain ⟨m, rfl⟩ : ∃ q, m = q + 1 := ⟨m - 1, by omega⟩
    have hlt : d < w.length := by omega
    have hx := hw.get hlt
    have e : w.take (d + 1) = w.take d ++ [w.getD d 0] := by
      rw [List.take_succ, List.getD_eq_getElem?_getD, List.getElem?_eq_getElem hlt]; rfl
    have hp : pk (w.take (d + 1)) < 2 ^ 50 := by
      have := pkl_lt (hw.take (d + 1))
      have h2 : (32 : Nat) ^ (w.take (d + 1)).length ≤ 32 ^ 10 := Nat.pow_le_pow_right (by decide) (by simp; omega)
      omega
    have hpos : 0 < pk (w.take (d + 1)) := by rw [e, pk_app]; omega
    rw [X9_hear_L9, if_neg (show ¬ lN (pk (w.take (d + 1))) ≤ 0 from ?_), if_neg (show ¬ (10 : Int32) ≤ nI k from nI_ge (b := 10) (by omega) (by decide)), show (5 : Int32) = nI 5 from rfl, lN_shr (by omega) (by decide), bnd, nI_1]
    · have : pk (w.take (d + 1)) / 2 ^ 5 = pk (w.take d) := by rw [e, pk_app]; omega
      rw [this]
      exact ih m (k + 1) (by omega) (by omega)
    · rw [Int64.le_iff_toInt_le, pk_lT (by omega)]
      simp
      omega
theorem c_hear (hU : CU σ r U) (wU : WU U) (hr : r < 2) (hq : gR σ 18 5 = r) {w : List Nat} {s : Nat} (hs : s < 16) (hw : LTR w) (hl : w.length ≤ 10) (hJ : gJ σ 19 s = lN (pk w)) : X9_hear (nI s) σ = some (hrd σ s (snd U w)) := by
  unfold X9_hear
  have e := c_hearN (σ := σ) trivial hs hw hl w.length FU 0 (by omega) (by show w.length < 1000000; omega)
  rw [List.take_length] at e
  rw [chk_nI hs (by decide), bnd, nI_cl (by omega), hJ]
  rw [show (0 : Int32) = nI 0 from rfl] at *
  rw [e, bnd]
  have h2 : sI σ 22 s (nI 0) = hrd σ s [] := by
    unfold hrd
    rw [row_nil, sIf_self, sI_as]
    rfl
  rw [h2]
  have := c_hearL hU wU hr hq hs hw hl hJ w.length FU 0 0 [] (by omega) (by show w.length < 1000000; omega) (by omega) (by omega) (by simp)
  simpa using this
end Hear
