/-! how far apart: the reference -/
theorem subE {a b c : Nat} (h : a = c + b) : nI a - nI b = nI c := by subst h; rw [subI (by omega), Nat.add_sub_cancel]
section Far
variable {τ : St} {U : DU}
theorem mul21 (c x : Nat) : (21 : Int32) * nI c + nI x = nI (21 * c + x) := by rw [show (21 : Int32) * nI c = nI (21 * c) from pk_mul 21 c, nI_add]
theorem eqI0 {a : Nat} (h : a < 2 ^ 31) : (nI a = 0) = (a = 0) := eqI (b := 0) h (by decide)
def tabI (U : DU) (a b : List Nat) (i j : Nat) (f : Nat → Int32) : Prop := ∀ p q, q ≤ b.length → (p < i ∨ (p = i ∧ q < j)) → f (21 * p + q) = nI (ed U a b p q)
theorem tabI.st {a b : List Nat} {i j : Nat} {f : Nat → Int32} (hb : b.length ≤ 20) (hj : j ≤ b.length) (h : tabI U a b i j f) : tabI U a b i (j + 1) (upd f (21 * i + j) (nI (ed U a b i j))) := by
  intro p q hq hp
  unfold upd
  by_cases e : p = i ∧ q = j
  · obtain ⟨rfl, rfl⟩ := e
    simp
  · rw [if_neg (by omega)]
    exact h p q hq (by omega)
theorem m_farIn (mU : MU τ U) (wU : WU U) {s t : Nat} {a b : List Nat} (hs : s < 16) (ht : t < 16) (ha : LTR a) (hal : a.length ≤ 20) (hb : LTR b) (hbl : b.length ≤ 20) (Hs : sndM τ s a) (Ht : sndM τ t b) {i : Nat} (hi : i ≤ a.length) (kq : Int32 → Int32 → Int32 → Int32 → Int32 → St → Option (Int32 × St)) :
    ∀ d m j f, j + d = b.length + 1 → d < m → tabI U a b i j f → ∃ f', X11_farOf_L27 kq m (nI s) (nI t) (nI a.length) (nI b.length) (nI i) (nI j) (sIf τ 23 f) = kq (nI s) (nI t) (nI a.length) (nI b.length) (nI (i + 1)) (sIf τ 23 f') ∧ tabI U a b (i + 1) 0 f' := by
  have l5 := wU.2.2.2.2.2.1 0 (by decide)
  have hm0 := mU.2.2.1 0 (by decide)
  intro d
  induction d with
  | zero =>
    intro m j f hj hm h1
    obtain ⟨m, rfl⟩ : ∃ q, m = q + 1 := ⟨m - 1, by omega⟩
    exact ⟨f, by rw [X11_farOf_L27, if_pos (by rw [ltI (by omega) (by omega)]; omega), nI_1], fun p q hq hp => h1 p q hq (by omega)⟩
  | succ d ih =>
    intro m j f hj hm h1
    obtain ⟨m, rfl⟩ : ∃ q, m = q + 1 := ⟨m - 1, by omega⟩
    obtain ⟨f', hf1, hf2⟩ := ih m (j + 1) _ (by omega) (by omega) (h1.st hbl (by omega))
    refine ⟨f', ?_, hf2⟩
    rw [← hf1, X11_farOf_L27, if_neg (by rw [ltI (by omega) (by omega)]; omega), mul21, bnd]
    have hB : ∀ (e : ed U a b i j = uN U 0 * (i + j)), X11_farOf_B54 (X11_farOf_L27 kq m) (nI s) (nI t) (nI a.length) (nI b.length) (nI i) (nI j) (nI (21 * i + j)) (sIf τ 23 f) = X11_farOf_L27 kq m (nI s) (nI t) (nI a.length) (nI b.length) (nI i) (nI (j + 1)) (sIf τ 23 (upd f (21 * i + j) (nI (ed U a b i j)))) := fun e => by
      unfold X11_farOf_B54
      rw [chk_nI (by omega) (by decide), bnd, nI_cl (by omega), gI_sIfn (by decide), hm0, nI_add, pk_mul, ← e, sI_sIf, nI_1]
    simp only [eqI0 (show i < 2 ^ 31 by omega), eqI0 (show j < 2 ^ 31 by omega)]
    by_cases ei : i = 0
    · rw [if_pos ei, hB (by subst ei; show edR _ _ _ _ _ _ = _; rw [edR_0, Nat.zero_add])]
    · rw [if_neg ei]
      by_cases ej : j = 0
      · rw [if_pos ej, hB (by subst ej; show edR _ _ _ _ _ _ = _; rw [edR_i0, Nat.add_zero])]
      · rw [if_neg ej]
        obtain ⟨i', rfl⟩ : ∃ q, i = q + 1 := ⟨i - 1, by omega⟩
        obtain ⟨j', rfl⟩ : ∃ q, j = q + 1 := ⟨j - 1, by omega⟩
        have qa := ha.get (show i' < a.length by omega)
        have qb := hb.get (show j' < b.length by omega)
        have l1 := ed_lt wU a b (i := i') (j := j') (by omega) (by omega)
        have l2 := ed_lt wU a b (i := i') (j := j' + 1) (by omega) (by omega)
        have l3 := ed_lt wU a b (i := i' + 1) (j := j') (by omega) (by omega)
        have l4 := cst_le wU (a.getD i' 0) (b.getD j' 0)
        have hstep : ed U a b (i' + 1) (j' + 1) = min (ed U a b i' j' + cst U (a.getD i' 0) (b.getD j' 0)) (uN U 0 + min (ed U a b i' (j' + 1)) (ed U a b (i' + 1) j')) := edR_ss _ _ _ _ _ _
        have l6 : min (ed U a b i' (j' + 1)) (ed U a b (i' + 1) j') ≤ 840 := Nat.le_trans (Nat.min_le_left _ _) l2
        have x1 : nI (21 * (i' + 1) + (j' + 1)) - 22 = nI (21 * i' + j') := subE (b := 22) (by omega)
        have x2 : nI (21 * (i' + 1) + (j' + 1)) - 21 = nI (21 * i' + (j' + 1)) := subE (b := 21) (by omega)
        have x3 : nI (21 * (i' + 1) + (j' + 1)) - 1 = nI (21 * (i' + 1) + j') := subE (b := 1) (by omega)
        have x4 : (20 : Int32) * nI s + nI (i' + 1) - 1 = nI (20 * s + i') := by rw [mul20]; exact subE (b := 1) (by omega)
        have x5 : (20 : Int32) * nI t + nI (j' + 1) - 1 = nI (20 * t + j') := by rw [mul20]; exact subE (b := 1) (by omega)
        rw [x1, x2, x3, x4, x5, chk_nI (by omega) (by decide), chk_nI (by omega) (by decide), chk_nI (by omega) (by decide), nI_cl (show 20 * s + i' < 2 ^ 31 by omega), nI_cl (show 20 * t + j' < 2 ^ 31 by omega), gI_sIfn (by decide), Hs.2 i' (by omega), Ht.2 j' (by omega), m_changed (mU.fr20 (fun q _ => gI_sIfn (by omega))) wU (by omega) (by omega), Option.bind_some, bnd, gI_sIf, nI_cl (show 21 * i' + j' < 2 ^ 31 by omega), h1 i' j' (by omega) (by omega), nI_add, chk_nI (by omega) (by decide), chk_nI (by omega) (by decide), nI_cl (show 21 * i' + (j' + 1) < 2 ^ 31 by omega), nI_cl (show 21 * (i' + 1) + j' < 2 ^ 31 by omega), h1 i' (j' + 1) (by omega) (by omega), h1 (i' + 1) j' (by omega) (by omega), m_less _ _ (by omega) (by omega), Option.bind_some, gI_sIfn (by decide), hm0, nI_add, m_less _ _ (by omega) (by omega), Option.bind_some, chk_nI (by omega) (by decide), bnd, nI_cl (show 21 * (i' + 1) + (j' + 1) < 2 ^ 31 by omega), sI_sIf, nI_1, hstep]
theorem m_farOf (mU : MU τ U) (wU : WU U) {s t : Nat} {a b : List Nat} (hs : s < 16) (ht : t < 16) (ha : LTR a) (hal : a.length ≤ 20) (hb : LTR b) (hbl : b.length ≤ 20) (Hs : sndM τ s a) (Ht : sndM τ t b) : ∃ f, X11_farOf (nI s) (nI t) τ = some (nI (apl U a b), sIf τ 23 f) := by
  have rows : ∀ d m i f, i + d = a.length + 1 → d < m → tabI U a b i 0 f → ∃ f', X11_farOf_L18 m (nI s) (nI t) (nI a.length) (nI b.length) (nI i) (sIf τ 23 f) = some (nI (ed U a b a.length b.length), sIf τ 23 f') := by
    intro d
    induction d with
    | zero =>
      intro m i f hi hm h1
      obtain ⟨m, rfl⟩ : ∃ q, m = q + 1 := ⟨m - 1, by omega⟩
      exact ⟨f, by rw [X11_farOf_L18, if_pos (by rw [ltI (by omega) (by omega)]; omega), mul21, chk_nI (by omega) (by decide), nI_cl (by omega), gI_sIf, h1 _ _ (Nat.le_refl _) (by omega)]⟩
    | succ d ih =>
      intro m i f hi hm h1
      obtain ⟨m, rfl⟩ : ∃ q, m = q + 1 := ⟨m - 1, by omega⟩
      obtain ⟨f', hf1, hf2⟩ := m_farIn mU wU hs ht ha hal hb hbl Hs Ht (i := i) (by omega) (X11_farOf_L18 m) (b.length + 1) FU 0 f (by omega) (by show _ < 1000000; omega) h1
      obtain ⟨f'', hf3⟩ := ih m (i + 1) f' (by omega) (by omega) hf2
      refine ⟨f'', ?_⟩
      rw [← hf3, ← hf1, X11_farOf_L18, if_neg (by rw [ltI (by omega) (by omega)]; omega)]
      rfl
  obtain ⟨f', hf⟩ := rows (a.length + 1) FU 0 (gI τ 23) (by omega) (by show _ < 1000000; omega) (fun p q _ h => by omega)
  rw [sIf_self] at hf
  refine ⟨f', ?_⟩
  unfold X11_farOf
  rw [chk_nI hs (by decide), bnd, nI_cl (show s < 2 ^ 31 by omega), Hs.1, chk_nI ht (by decide), bnd, nI_cl (show t < 2 ^ 31 by omega), Ht.1]
  exact hf
end Far
