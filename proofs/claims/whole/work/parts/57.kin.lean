/-! lineOf; fathers' fathers; kin, related, issue -/
def All2 {α β : Type} (R : α → β → Prop) : List α → List β → Prop
  | [], [] => True
  | a :: l, b :: l' => R a b ∧ All2 R l l'
  | _, _ => False
theorem swk_rel {α β : Type} {R : Option α → Option β → Prop} {d : Option α} {d' : Option β} (hd : R d d') (v : Int32) : ∀ (i : Nat) (l : List (Option α)) (l' : List (Option β)), All2 R l l' → R (swk v i l d) (swk v i l' d')
  | i, [], [], _ => hd
  | i, a :: l, b :: l', h => by
    unfold swk
    by_cases e : v = nI i
    · rw [if_pos e, if_pos e]; exact h.1
    · rw [if_neg e, if_neg e]; exact swk_rel hd v (i + 1) l l' h.2
theorem c_nameLn {σ : St} {W : DW} {U : DU} {nm : Nat → Nat} {L : DL} {B : DB} (hL : CL σ L) (wl : WL W.1 B L) (hWd : CW σ W U nm) (wW : WW W) {k : Nat} (hk : k < L.1) : X3_nameOfLine (nI k) σ = some (nI (nm (lN_ L k))) := by
  have h1 := wl.1
  have h2 := (wl.2 k hk).2.2.2.2.2.1
  have h3 := wW.1
  unfold X3_nameOfLine
  rw [chk_nI (by omega) (by decide), nI_cl (show k < 2 ^ 31 by omega), hL.2.2.2.2.2.1 k hk, chk_nI (by omega) (by decide), nI_cl (by omega), hWd.2.2.2.2.2.2.2 _ h2]
section Kin
variable {σ τ : St} {L : DL} {B : DB} {ns np : Nat}
theorem eq_lineOf (h : Rel σ τ) (x y : Int32) : Eq2 (pu (X10_lineOf x y σ) σ) (X11_lineOf x y τ) := by
  have h0 := h
  obtain ⟨A, hC, hM, hW⟩ := h
  obtain ⟨hP, hB, hL, hR, hZ, hS, hT, hWd, r, hQ, hU⟩ := hC
  obtain ⟨mP, mB, mL, mR, mZ, mS, mT, mWd, mU, mK⟩ := hM
  obtain ⟨w1, w2, w3, w4, w5, w6, w7, w8, w9, w10⟩ := hW
  have hn := w3.1
  rcases ixc x (aL A).1 (by omega) with ⟨k, hk, rfl⟩ | hx
  · unfold X10_lineOf X11_lineOf
    rw [c_line_in hL.1 hn hk, m_line_in mL.1 hn hk, Option.bind_some, Option.bind_some, if_neg (by decide), if_neg (by decide)]
    obtain ⟨a1, a2, a3, a4, a5, a6, a7, a8, a9⟩ := hL
    obtain ⟨b1, b2, b3, b4, b5, b6, b7, b8, b9⟩ := mL
    have hL' : CL σ (aL A) := ⟨a1, a2, a3, a4, a5, a6, a7, a8, a9⟩
    have e6 := (w3.2 k hk).2.2.2.2.2.1
    have hns := w8.1
    have hnm := eq_name h0 (nI (lN_ (aL A) k))
    have hcn : X10_name (nI (lN_ (aL A) k)) σ = X3_nameOfLine (nI k) σ := by
      rw [c_nameLn hL' w3 hWd w8 hk]
      unfold X10_name
      rw [c_word_in hWd.1 hns e6, Option.bind_some, if_neg (by decide), chk_nI (by omega) (by decide), nI_cl (by omega), hWd.2.2.2.2.2.2.2 _ e6]
    rw [hcn] at hnm
    refine swk_rel (R := fun a b => Eq2 (pu a σ) b) ?_ y 0 _ _ ?_
    · exact Eq2.pt rfl rfl h0
    · simp only [chk_nI (show k < 40 by omega) (show 40 < 2 ^ 31 by decide), nI_cl (show k < 2 ^ 31 by omega), a2 k hk, a3 k hk, a4 k hk, a6 k hk, a7 k hk, a8 k hk, a9 k hk, b2 k hk, b3 k hk, b4 k hk, b6 k hk, b7 k hk, b8 k hk, b9 k hk]
      refine ⟨Eq2.pt rfl rfl h0, Eq2.pt rfl rfl h0, Eq2.pt rfl rfl h0, Eq2.pt rfl rfl h0, ?_, Eq2.pt rfl rfl h0, Eq2.pt rfl rfl h0, Eq2.pt rfl rfl h0, trivial⟩
      obtain ⟨r, σ1, τ1, e1, e2, e3⟩ := hnm
      rw [c_nameLn hL' w3 hWd w8 hk] at e1 ⊢
      rw [e2]
      have e1' : some (nI (aN A (lN_ (aL A) k)), σ) = some (r, σ1) := e1
      cases e1'
      exact Eq2.pt rfl rfl e3
  · unfold X10_lineOf X11_lineOf
    rw [c_line_out hL.1 hx, m_line_out mL.1 hn hx, Option.bind_some, Option.bind_some, if_pos rfl, if_pos rfl]
    exact Eq2.pt rfl rfl h0
/-- steps up to an elder -/
def st (L : DL) : Nat → Nat → Nat → Option Nat
  | 0, _, _ => none
  | n + 1, x, y => if x = y then some 0 else match lA L x with
    | none => none
    | some z => (st L n z y).map (· + 1)
def anc (L : DL) : Nat → Nat → Option Nat
  | 0, x => some x
  | p + 1, x => match lA L x with
    | none => none
    | some z => anc L p z
theorem oI_some (k : Nat) : oI (some k) = nI k := rfl
theorem oI_none : oI none = -4 := rfl
theorem map_add (o : Option Nat) (k : Nat) : (o.map (· + 1)).map (· + k) = o.map (· + (k + 1)) := by
  cases o with
  | none => rfl
  | some v => show some (v + 1 + k) = some (v + (k + 1)); congr 1; omega
theorem c_stepsL (hL : CL σ L) (wl : WL ns B L) (wb : WB np B) {y : Nat} (hy : y < 2 ^ 31) : ∀ n m x k, x < L.1 → lY L x < 1500 + 15 * n → n < m → k + n ≤ 40 → X3_stepsUp_L5 σ m (nI y) (nI x) (nI k) = some (oI ((st L n x y).map (· + k))) := by
  have hl := wl.1
  intro n
  induction n with
  | zero =>
    intro m x k hx hY
    obtain ⟨q1, q2, -⟩ := wl.2 x hx
    have := (wb.2 _ q1).2.1
    omega
  | succ n ih =>
    intro m x k hx hY hm hk
    obtain ⟨m, rfl⟩ : ∃ q, m = q + 1 := ⟨m - 1, by omega⟩
    rw [X3_stepsUp_L5, if_neg (show ¬ (40 : Int32) ≤ nI k from nI_ge (b := 40) (by omega) (by decide))]
    simp only [neI4 (show x < 2 ^ 31 by omega), if_false, eqI (show x < 2 ^ 31 by omega) hy]
    unfold st
    by_cases e : x = y
    · rw [if_pos e, if_pos e]
      show _ = some (nI (0 + k))
      rw [Nat.zero_add]
    · rw [if_neg e, if_neg e, chk_nI (by omega) (by decide), bnd, nI_cl (by omega), hL.2.2.2.2.2.2.2.2 x hx, nI_1]
      cases ha : lA L x with
      | none =>
        obtain ⟨m, rfl⟩ : ∃ q, m = q + 1 := ⟨m - 1, by omega⟩
        rw [X3_stepsUp_L5, oI_none, if_pos (show (-4 : Int32) = -4 from rfl), ite_self]
        rfl
      | some z =>
        obtain ⟨z1, z2⟩ := (wl.2 x hx).2.2.2.2.2.2.2.2.2 z ha
        rw [oI_some, ih m z (k + 1) z1 (by omega) (by omega) (by omega)]
        show _ = some (oI (((st L n z y).map (· + 1)).map (· + k)))
        rw [map_add]
theorem year_lt (wl : WL ns B L) (wb : WB np B) {x : Nat} (hx : x < L.1) : 1500 ≤ lY L x ∧ lY L x ≤ 1899 := by
  obtain ⟨q1, q2, q3, -⟩ := wl.2 x hx
  obtain ⟨r1, r2, r3, r4, -⟩ := wb.2 _ q1
  omega
theorem map_0 (o : Option Nat) : o.map (· + 0) = o := by cases o <;> rfl
theorem c_stepsUp (hL : CL σ L) (wl : WL ns B L) (wb : WB np B) {x y : Nat} (hx : x < L.1) (hy : y < L.1) : X3_stepsUp (nI x) (nI y) σ = some (oI (st L 27 x y)) := by
  have hl := wl.1
  have hyr := year_lt wl wb hx
  have := c_stepsL hL wl wb (y := y) (by omega) 27 FU x 0 hx (by omega) (by decide) (by omega)
  rw [map_0] at this
  exact this
theorem m_stepsL (mL : ML τ L) (wl : WL ns B L) (wb : WB np B) {y : Nat} (hy : y < 2 ^ 31) : ∀ n m x k, x < L.1 → lY L x < 1500 + 15 * n → n < m → X11_stepsTo_L5 τ m (nI y) (nI k) (nI x) = some (oI ((st L n x y).map (· + k))) := by
  have hl := wl.1
  intro n
  induction n with
  | zero =>
    intro m x k hx hY
    have := year_lt wl wb hx
    omega
  | succ n ih =>
    intro m x k hx hY hm
    obtain ⟨m, rfl⟩ : ∃ q, m = q + 1 := ⟨m - 1, by omega⟩
    rw [X11_stepsTo_L5]
    simp only [neI4 (show x < 2 ^ 31 by omega), if_false, eqI (show x < 2 ^ 31 by omega) hy]
    unfold st
    by_cases e : x = y
    · rw [if_pos e, if_pos e]
      show _ = some (nI (0 + k))
      rw [Nat.zero_add]
    · rw [if_neg e, if_neg e, chk_nI (by omega) (by decide), bnd, nI_cl (by omega), mL.2.2.2.2.2.2.2.2 x hx, nI_1]
      cases ha : lA L x with
      | none =>
        obtain ⟨m, rfl⟩ : ∃ q, m = q + 1 := ⟨m - 1, by omega⟩
        rw [X11_stepsTo_L5, oI_none, if_pos (show (-4 : Int32) = -4 from rfl), if_pos (show (-4 : Int32) = -4 from rfl)]
        rfl
      | some z =>
        obtain ⟨z1, z2⟩ := (wl.2 x hx).2.2.2.2.2.2.2.2.2 z ha
        rw [oI_some, ih m z (k + 1) z1 (by omega) (by omega)]
        show _ = some (oI (((st L n z y).map (· + 1)).map (· + k)))
        rw [map_add]
theorem m_stepsTo (mL : ML τ L) (wl : WL ns B L) (wb : WB np B) {x y : Nat} (hx : x < L.1) (hy : y < L.1) : X11_stepsTo (nI x) (nI y) τ = some (oI (st L 27 x y)) := by
  have hl := wl.1
  have hyr := year_lt wl wb hx
  have := m_stepsL mL wl wb (y := y) (by omega) 27 FU x 0 hx (by omega) (by decide)
  rw [map_0] at this
  exact this
theorem st_anc : ∀ n x y p, st L n x y = some p → anc L p x = some y ∧ p < n
  | 0, _, _, _, h => by cases h
  | n + 1, x, y, p, h => by
    unfold st at h
    by_cases e : x = y
    · rw [if_pos e] at h
      cases h
      subst e
      exact ⟨rfl, by omega⟩
    · rw [if_neg e] at h
      cases ha : lA L x with
      | none => rw [ha] at h; cases h
      | some z =>
        rw [ha] at h
        replace h : (st L n z y).map (· + 1) = some p := h
        rw [Option.map_eq_some_iff] at h
        obtain ⟨q, hq, rfl⟩ := h
        obtain ⟨i1, i2⟩ := st_anc n z y q hq
        refine ⟨?_, by omega⟩
        unfold anc
        rw [ha]
        exact i1
theorem anc_year (wl : WL ns B L) : ∀ p x y, x < L.1 → anc L p x = some y → y < L.1 ∧ lY L y + 15 * p ≤ lY L x
  | 0, x, y, hx, h => by cases h; exact ⟨hx, by omega⟩
  | p + 1, x, y, hx, h => by
    unfold anc at h
    cases ha : lA L x with
    | none => rw [ha] at h; cases h
    | some z =>
      rw [ha] at h
      obtain ⟨z1, z2⟩ := (wl.2 x hx).2.2.2.2.2.2.2.2.2 z ha
      obtain ⟨i1, i2⟩ := anc_year wl p z y z1 h
      exact ⟨i1, by omega⟩
theorem anc_add : ∀ p q x, anc L (p + q) x = (anc L p x).bind (anc L q)
  | 0, q, x => by rw [Nat.zero_add]; rfl
  | p + 1, q, x => by
    rw [show p + 1 + q = (p + q) + 1 by omega]
    unfold anc
    cases lA L x with
    | none => rfl
    | some z => exact anc_add p q z
theorem anc_inj (wl : WL ns B L) {p q x y : Nat} (hx : x < L.1) (hp : anc L p x = some y) (hq : anc L q x = some y) : p = q := by
  rcases Nat.lt_trichotomy p q with h | h | h
  · obtain ⟨d, rfl⟩ : ∃ d, q = p + (d + 1) := ⟨q - p - 1, by omega⟩
    rw [anc_add, hp] at hq
    have hq' : anc L (d + 1) y = some y := hq
    have := (anc_year wl _ _ _ (anc_year wl _ _ _ hx hp).1 hq').2
    omega
  · exact h
  · obtain ⟨d, rfl⟩ : ∃ d, p = q + (d + 1) := ⟨p - q - 1, by omega⟩
    rw [anc_add, hq] at hp
    have hp' : anc L (d + 1) y = some y := hp
    have := (anc_year wl _ _ _ (anc_year wl _ _ _ hx hq).1 hp').2
    omega
theorem anc_st (wl : WL ns B L) : ∀ n p x y, x < L.1 → anc L p x = some y → p < n → st L n x y = some p
  | 0, _, _, _, _, _, h => by omega
  | n + 1, p, x, y, hx, h, hp => by
    unfold st
    by_cases e : x = y
    · subst e
      have := anc_inj wl hx h (show anc L 0 x = some x from rfl)
      subst this
      rw [if_pos rfl]
    · rw [if_neg e]
      obtain ⟨p, rfl⟩ : ∃ q, p = q + 1 := ⟨p - 1, by
        have : p ≠ 0 := fun h0 => by subst h0; cases h; exact e rfl
        omega⟩
      unfold anc at h
      cases ha : lA L x with
      | none => rw [ha] at h; cases h
      | some z =>
        rw [ha] at h
        obtain ⟨z1, z2⟩ := (wl.2 x hx).2.2.2.2.2.2.2.2.2 z ha
        show (st L n z y).map (· + 1) = some (p + 1)
        rw [anc_st wl n p z y z1 h (by omega)]
        rfl
theorem st_iff (wl : WL ns B L) (wb : WB np B) {x y p : Nat} (hx : x < L.1) : st L 27 x y = some p ↔ anc L p x = some y := by
  constructor
  · intro h
    exact (st_anc 27 x y p h).1
  · intro h
    obtain ⟨h1, h2⟩ := anc_year wl _ _ _ hx h
    have h3 := year_lt wl wb hx
    have h4 := year_lt wl wb h1
    exact anc_st wl 27 p x y hx h (by omega)
end Kin
