/-! bookOf and count -/
theorem nI_m1 {n : Nat} (h : 1 ≤ n) : nI n + (-1) = nI (n - 1) := by
  have e : nI n - 1 = nI (n - 1) := pk_sub (a := n) (b := 1) h
  rw [← e]
  rw [Int32.sub_eq_add_neg]
theorem bc_s (x n : Nat) : bc x (n + 1) = bc x n + if x.testBit n = true then 1 else 0 := rfl
theorem bc_hi {x n : Nat} (hx : ∀ i, n ≤ i → x.testBit i = false) : ∀ d, bc x (n + d) = bc x n
  | 0 => rfl
  | d + 1 => by
    rw [show n + (d + 1) = (n + d) + 1 by omega, bc_s, bc_hi hx d, hx (n + d) (by omega)]
    simp
theorem bq_tn (h : Int64) (k : Nat) : bq h k = (tn h).testBit k := rfl
theorem tn_hi (h : Int64) {k : Nat} (hk : 64 ≤ k) : (tn h).testBit k = false := Nat.testBit_lt_two_pow (Nat.lt_of_lt_of_le h.toBitVec.isLt (Nat.pow_le_pow_right (n := 2) (by decide) hk))
/-- the last one that is no hole, of the first k -/
def lastN (h : Int64) : Nat → Option Nat
  | 0 => none
  | k + 1 => if bq h k = true then lastN h k else some k
def lastY (f : Nat) (h : Int64) (k : Nat) : Option Nat := (lastN h k).map fun j => f + j
theorem lastY_h {f : Nat} {h : Int64} {k : Nat} (e : bq h k = true) : lastY f h (k + 1) = lastY f h k := by
  show ((if bq h k = true then lastN h k else some k).map _) = _
  rw [if_pos e]; rfl
theorem lastY_n {f : Nat} {h : Int64} {k : Nat} (e : ¬ bq h k = true) : lastY f h (k + 1) = some (f + k) := by
  show ((if bq h k = true then lastN h k else some k).map _) = _
  rw [if_neg e]; rfl
theorem ite2 {α β : Type} {R : α → β → Prop} {P : Prop} [Decidable P] {a a' : α} {b b' : β} (h1 : P → R a b) (h2 : ¬ P → R a' b') : R (if P then a else a') (if P then b else b') := by
  by_cases h : P
  · rw [if_pos h, if_pos h]; exact h1 h
  · rw [if_neg h, if_neg h]; exact h2 h
section BookOf
variable {σ τ : St} {B : DB} {np : Nat}
theorem c_lrL (hB : CB σ B) (wb : WB np B) {b : Nat} (hb : b < B.1) : ∀ k m, k < m → k ≤ 64 → X0_latestReadable_L7 σ m (nI b) (nI (B.2.2.1 b + k - 1)) = some (oI (lastY (B.2.2.1 b) (B.2.2.2.2 b) k)) := by
  have h8 := wb.1
  obtain ⟨r1, r2, r3, r4, r5, r6⟩ := wb.2 b hb
  intro k
  induction k with
  | zero =>
    intro m hm _
    obtain ⟨m, rfl⟩ : ∃ q, m = q + 1 := ⟨m - 1, by omega⟩
    rw [X0_latestReadable_L7, chk_nI (by omega) (by decide), nI_cl (by omega), hB.2.2.1 b hb, if_pos (by rw [ltI (by omega) (by omega)]; omega)]
    rfl
  | succ k ih =>
    intro m hm hk
    obtain ⟨m, rfl⟩ : ∃ q, m = q + 1 := ⟨m - 1, by omega⟩
    rw [show B.2.2.1 b + (k + 1) - 1 = B.2.2.1 b + k by omega]
    rw [X0_latestReadable_L7, chk_nI (by omega) (by decide), nI_cl (show b < 2 ^ 31 by omega), hB.2.2.1 b hb, if_neg (by rw [ltI (by omega) (by omega)]; omega), c_isHole hB h8 hb, Option.bind_some, subI (by omega), show B.2.2.1 b + k - B.2.2.1 b = k by omega, isH_bq _ (by omega)]
    by_cases e : bq (B.2.2.2.2 b) k = true
    · rw [e, if_neg (show ¬ b2 true = 0 from n10), lastY_h e, nI_m1 (by omega)]
      exact ih m (by omega) (by omega)
    · have e' : bq (B.2.2.2.2 b) k = false := by simpa using e
      rw [e', if_pos (show b2 false = 0 from rfl), lastY_n e]
      rfl
theorem m_bkL (hB : MB τ B) (wb : WB np B) {b : Nat} (hb : b < B.1) (x2 : Int32) : ∀ d m k, k + d = B.2.2.2.1 b - B.2.2.1 b + 1 → d < m → X11_bookOf_L24 τ m (nI b) x2 (nI (bc (tn (B.2.2.2.2 b)) k)) (oI (lastY (B.2.2.1 b) (B.2.2.2.2 b) k)) (nI (B.2.2.1 b + k)) = swk x2 0 [some (nI (B.2.1 b)), some (nI (B.2.2.1 b)), some (nI (B.2.2.2.1 b)), some (nI (bc (tn (B.2.2.2.2 b)) (B.2.2.2.1 b - B.2.2.1 b + 1))), (X11_linesOf (nI b) τ).bind fun v3 => some v3, some (oI (lastY (B.2.2.1 b) (B.2.2.2.2 b) (B.2.2.2.1 b - B.2.2.1 b + 1)))] (some (-1)) := by
  have h8 := wb.1
  obtain ⟨r1, r2, r3, r4, r5, r6⟩ := wb.2 b hb
  intro d
  induction d with
  | zero =>
    intro m k hk hm
    obtain ⟨m, rfl⟩ : ∃ q, m = q + 1 := ⟨m - 1, by omega⟩
    have : k = B.2.2.2.1 b - B.2.2.1 b + 1 := by omega
    subst this
    rw [X11_bookOf_L24]
    simp only [chk_nI (show b < 8 by omega) (show 8 < 2 ^ 31 by decide), nI_cl (show b < 2 ^ 31 by omega), hB.2.1 b hb, hB.2.2.1 b hb, hB.2.2.2.1 b hb]
    rw [if_pos (by rw [ltI (by omega) (by omega)]; omega)]
  | succ d ih =>
    intro m k hk hm
    obtain ⟨m, rfl⟩ : ∃ q, m = q + 1 := ⟨m - 1, by omega⟩
    have ih' := ih m (k + 1) (by omega) (by omega)
    have hq : isH (B.2.2.2.2 b) (nI (B.2.2.1 b + k) - nI (B.2.2.1 b)) = bq (B.2.2.2.2 b) k := by
      rw [subI (by omega), show B.2.2.1 b + k - B.2.2.1 b = k by omega, isH_bq _ (by omega)]
    rw [bc_s, ← bq_tn] at ih'
    rw [X11_bookOf_L24, chk_nI (by omega) (by decide), nI_cl (show b < 2 ^ 31 by omega), hB.2.2.2.1 b hb, if_neg (by rw [ltI (by omega) (by omega)]; omega), m_isHole hB h8 hb, Option.bind_some, hq]
    by_cases e : bq (B.2.2.2.2 b) k = true
    · rw [lastY_h e, if_pos e] at ih'
      rw [e, if_neg (show ¬ b2 true = 0 from n10)]
      unfold X11_bookOf_B51
      rw [bnd, m_isHole hB h8 hb, Option.bind_some, hq, e, if_neg (show ¬ b2 true = 0 from n10), nI_1, nI_1]
      exact ih'
    · have e' : bq (B.2.2.2.2 b) k = false := by simpa using e
      rw [lastY_n e, if_neg e, Nat.add_zero] at ih'
      rw [e', if_pos (show b2 false = 0 from rfl)]
      unfold X11_bookOf_B51
      rw [bnd, m_isHole hB h8 hb, Option.bind_some, hq, e', if_pos (show b2 false = 0 from rfl), nI_1, Int32.add_zero]
      exact ih'
theorem eq_bookOf (h : Rel σ τ) (x y : Int32) : Eq2 (pu (X10_bookOf x y σ) σ) (pu (X11_bookOf x y τ) τ) := by
  have h0 := h
  obtain ⟨A, hC, hM, hW⟩ := h
  obtain ⟨hP, hB, hL, hR, hZ, hS, hT, hWd, r, hQ, hU⟩ := hC
  obtain ⟨mP, mB, mL, mR, mZ, mS, mT, mWd, mU, mK⟩ := hM
  obtain ⟨w1, w2, w3, w4, w5, w6, w7, w8, w9, w10⟩ := hW
  have h8 := w2.1
  have hnp := w1.1
  unfold X10_bookOf X11_bookOf
  rcases ixc x (aB A).1 (by omega) with ⟨b, hb, rfl⟩ | hx
  · obtain ⟨r1, r2, r3, r4, r5, r6⟩ := w2.2 b hb
    have hbd : ∀ k, k < (aL A).1 → lB (aL A) k < 2 ^ 31 := fun k hk => by
      have := (w3.2 k hk).1
      omega
    have hm := m_bkL mB w2 hb y ((aB A).2.2.2.1 b - (aB A).2.2.1 b + 1) FU 0 (by omega) (by show _ < 1000000; omega)
    have hc := c_lrL hB w2 hb ((aB A).2.2.2.1 b - (aB A).2.2.1 b + 1) FU (by show _ < 1000000; omega) (by omega)
    have hbc : bc (tn ((aB A).2.2.2.2 b)) 64 = bc (tn ((aB A).2.2.2.2 b)) ((aB A).2.2.2.1 b - (aB A).2.2.1 b + 1) := by
      have := bc_hi (x := tn ((aB A).2.2.2.2 b)) (n := (aB A).2.2.2.1 b - (aB A).2.2.1 b + 1) (fun i hi => by
        by_cases h64 : i < 64
        · have := r6 i h64
          by_cases hb' : (tn ((aB A).2.2.2.2 b)).testBit i = true
          · have := this hb'
            omega
          · simpa using hb'
        · exact tn_hi _ (by omega)) (64 - ((aB A).2.2.2.1 b - (aB A).2.2.1 b + 1))
      rw [← this]
      congr 1
      omega
    rw [c_book_in hB.1 h8 hb, m_book_in mB.1 h8 hb, Option.bind_some, Option.bind_some, if_neg n10, if_neg n10]
    have hlr : X0_latestReadable (nI b) σ = some (oI (lastY ((aB A).2.2.1 b) ((aB A).2.2.2.2 b) ((aB A).2.2.2.1 b - (aB A).2.2.1 b + 1))) := by
      unfold X0_latestReadable
      rw [chk_nI (by omega) (by decide), bnd, nI_cl (by omega), hB.2.2.2.1 b hb, ← hc]
      congr 2
      omega
    simp only [chk_nI (show b < 8 by omega) (show 8 < 2 ^ 31 by decide), nI_cl (show b < 2 ^ 31 by omega), hB.2.1 b hb, hB.2.2.1 b hb, hB.2.2.2.1 b hb, hB.2.2.2.2.1 b hb, mB.2.2.1 b hb, hlr, c_pop64, hbc, c_cntLn hL w3 b (by omega) hbd, Option.bind_some]
    rw [m_cntLn mL w3 b (by omega) hbd, Option.bind_some] at hm
    have hm' : X11_bookOf_L24 τ FU (nI b) y (0 : Int32) (-4 : Int32) (nI ((aB A).2.2.1 b)) = _ := hm
    rw [bnd, hm']
    refine swk_rel (R := fun a b => Eq2 (pu a σ) (pu b τ)) ?_ y 0 _ _ ?_
    · exact Eq2.pp rfl rfl h0
    · exact ⟨Eq2.pp rfl rfl h0, Eq2.pp rfl rfl h0, Eq2.pp rfl rfl h0, Eq2.pp rfl rfl h0, Eq2.pp rfl rfl h0, Eq2.pp rfl rfl h0, trivial⟩
  · rw [c_book_out hB.1 hx, m_book_out mB.1 h8 hx, Option.bind_some, Option.bind_some, if_pos rfl, if_pos rfl]
    exact Eq2.pp rfl rfl h0
end BookOf
section Count
variable {σ τ : St} {B : DB} {L : DL} {W : DW} {U : DU} {nm : Nat → Nat}
/-- the names of the first lines, as bits -/
def nmk (L : DL) (nm : Nat → Nat) : Nat → Nat
  | 0 => 0
  | k + 1 => nmk L nm k ||| 2 ^ nm (lN_ L k)
theorem nmk_lt {L : DL} {nm : Nat → Nat} : ∀ k, (∀ j, j < k → nm (lN_ L j) < 16) → nmk L nm k < 2 ^ 16
  | 0, _ => by simp [nmk]
  | k + 1, h => by
    show (nmk L nm k ||| 2 ^ nm (lN_ L k)) < 2 ^ 16
    exact Nat.or_lt_two_pow (nmk_lt k (fun j hj => h j (by omega))) (Nat.pow_lt_pow_right (by decide) (h k (by omega)))
theorem bc16 {n : Nat} (hn : n < 2 ^ 16) : bc n 32 = bc n 16 := bc_hi (n := 16) (fun i hi => Nat.testBit_lt_two_pow (Nat.lt_of_lt_of_le hn (Nat.pow_le_pow_right (n := 2) (by decide) hi))) 16
theorem m_sizeOf {n : Nat} (hn : n < 2 ^ 31) : X11_sizeOf (nI n) τ = some (nI (bc n 16)) := by
  have key := loop0 (fun m k (o : Nat) => X11_sizeOf_L4 τ m (nI n) (nI o) (nI k)) 16 (fun k => bc n k) (some (nI (bc n 16))) (by decide) (fun m k hk => ?_) (fun m => ?_)
  · exact key
  · show X11_sizeOf_L4 τ (m + 1) (nI n) (nI (bc n k)) (nI k) = X11_sizeOf_L4 τ m (nI n) (nI (bc n (k + 1))) (nI (k + 1))
    have hk16 : ¬ (16 : Int32) ≤ nI k := nI_ge (b := 16) hk (by decide)
    rw [X11_sizeOf_L4, if_neg hk16, bnd, bc_s, nI_1]
    congr 1
    cases e : n.testBit k with
    | true => rw [(bit32 hn (show k < 32 by omega)).mpr e, nI_1, if_pos rfl]
    | false => rw [(bit32_0 hn (show k < 32 by omega)).mpr e, Int32.add_zero, if_neg (by decide), Nat.add_zero]
  · show X11_sizeOf_L4 τ (m + 1) (nI n) (nI (bc n 16)) (nI 16) = _
    rw [X11_sizeOf_L4, if_pos (by decide)]
theorem c_hmN (hL : CL σ L) (wl : WL W.1 B L) (hWd : CW σ W U nm) (wW : WW W) {J : Nat → Nat → Bool} (hN : NM J W.1 nm) : X3_howManyNames σ = some (nI (bc (nmk L nm L.1) 16)) := by
  have hl := wl.1
  have hw := wW.1
  have hb : ∀ j, j < L.1 → nm (lN_ L j) < 16 := fun j hj => by
    have := nm_lt hN ((wl.2 j hj).2.2.2.2.2.1)
    omega
  have key := loop0 (fun m k (o : Nat) => X3_howManyNames_L4 σ m (nI o) (nI k)) L.1 (fun k => nmk L nm k) (some (nI (bc (nmk L nm L.1) 16))) (by omega) (fun m k hk => ?_) (fun m => ?_)
  · exact key
  · show X3_howManyNames_L4 σ (m + 1) (nI (nmk L nm k)) (nI k) = X3_howManyNames_L4 σ m (nI (nmk L nm (k + 1))) (nI (k + 1))
    have := hb k hk
    rw [X3_howManyNames_L4, hL.1, if_neg (nI_ge hk (by omega)), c_nameLn hL wl hWd wW hk, Option.bind_some, one_shl32 _ (by omega), nI_or, bnd, nI_1]
    rfl
  · show X3_howManyNames_L4 σ (m + 1) (nI (nmk L nm L.1)) (nI L.1) = _
    have hlt := nmk_lt (L := L) (nm := nm) L.1 hb
    rw [X3_howManyNames_L4, hL.1, if_pos (nI_le (Nat.le_refl _) (by omega)), c_pop32 (by omega), Option.bind_some, bc16 hlt]
theorem m_hmN (hL : ML τ L) (wl : WL W.1 B L) (wW : WW W) {J : Nat → Nat → Bool} (hN : NM J W.1 nm) (h5 : ∀ s, s < W.1 → gI τ 22 s = nI (nm s)) (x1 : Int32) : X11_count_L14 FU x1 (0 : Int32) (0 : Int32) τ = X11_count_B44 x1 (nI (nmk L nm L.1)) τ := by
  have hl := wl.1
  have hw := wW.1
  have key := loop0 (fun m k (o : Nat) => X11_count_L14 m x1 (nI o) (nI k) τ) L.1 (fun k => nmk L nm k) (X11_count_B44 x1 (nI (nmk L nm L.1)) τ) (by omega) (fun m k hk => ?_) (fun m => ?_)
  · exact key
  · show X11_count_L14 (m + 1) x1 (nI (nmk L nm k)) (nI k) τ = X11_count_L14 m x1 (nI (nmk L nm (k + 1))) (nI (k + 1)) τ
    have q6 := (wl.2 k hk).2.2.2.2.2.1
    have := nm_lt hN q6
    rw [X11_count_L14, hL.1, if_neg (nI_ge hk (by omega)), chk_nI (by omega) (by decide), nI_cl (show k < 2 ^ 31 by omega), hL.2.2.2.2.2.1 k hk, chk_nI (by omega) (by decide), nI_cl (show lN_ L k < 2 ^ 31 by omega), h5 _ q6, one_shl32 _ (by omega), nI_or, bnd, nI_1]
    rfl
  · show X11_count_L14 (m + 1) x1 (nI (nmk L nm L.1)) (nI L.1) τ = _
    rw [X11_count_L14, hL.1, if_pos (nI_le (Nat.le_refl _) (by omega))]
theorem eq_count (h : Rel σ τ) (x : Int32) : Eq2 (pu (X10_count x σ) σ) (X11_count x τ) := by
  have h0 := h
  obtain ⟨A, hC, hM, hW⟩ := h
  obtain ⟨hP, hB, hL, hR, hZ, hS, hT, hWd, r, hQ, hU⟩ := hC
  obtain ⟨mP, mB, mL, mR, mZ, mS, mT, mWd, mU, mK⟩ := hM
  obtain ⟨w1, w2, w3, w4, w5, w6, w7, w8, w9, w10⟩ := hW
  unfold X10_count X11_count
  by_cases h6 : x = 6
  · subst h6
    obtain ⟨τ', f1, f2, f3, f4, f5⟩ := m_layNames mU w9 mWd w8 w10
    have hb : ∀ j, j < (aL A).1 → aN A (lN_ (aL A) j) < 16 := fun j hj => by
      have := nm_lt w10 ((w3.2 j hj).2.2.2.2.2.1)
      have := w8.1
      omega
    have hlt := nmk_lt (L := aL A) (nm := aN A) (aL A).1 hb
    rw [if_pos rfl, f1, Option.bind_some, m_hmN (mL.fr f2) w3 w8 w10 f5 6, c_hmN hL w3 hWd w8 w10]
    refine Eq2.pt (r := nI (bc (nmk (aL A) (aN A) (aL A).1) 16)) (τ' := τ') rfl ?_ (h0.fr ScC.rf f2.sc)
    unfold X11_count_B44
    rw [m_sizeOf (by omega), Option.bind_some]
    rfl
  · rw [if_neg h6]
    unfold X11_count_B44
    have h6' : ¬ x = nI 6 := h6
    simp only [swk, if_neg h6', hWd.1, mWd.1, hP.1, mP.1, hB.1, mB.1, hL.1, mL.1, hR.1, mR.1, hZ.1, mZ.1, hT.1, mT.1]
    refine ite2 (R := fun a b => Eq2 (pu a σ) b) (fun _ => Eq2.pt rfl rfl h0) (fun _ => ?_)
    refine ite2 (R := fun a b => Eq2 (pu a σ) b) (fun _ => Eq2.pt rfl rfl h0) (fun _ => ?_)
    refine ite2 (R := fun a b => Eq2 (pu a σ) b) (fun _ => Eq2.pt rfl rfl h0) (fun _ => ?_)
    refine ite2 (R := fun a b => Eq2 (pu a σ) b) (fun _ => Eq2.pt rfl rfl h0) (fun _ => ?_)
    refine ite2 (R := fun a b => Eq2 (pu a σ) b) (fun _ => Eq2.pt rfl rfl h0) (fun _ => ?_)
    refine ite2 (R := fun a b => Eq2 (pu a σ) b) (fun _ => Eq2.pt rfl rfl h0) (fun _ => ?_)
    refine ite2 (R := fun a b => Eq2 (pu a σ) b) (fun _ => Eq2.pt rfl rfl h0) (fun _ => ?_)
    refine ite2 (R := fun a b => Eq2 (pu a σ) b) (fun _ => ?_) (fun _ => Eq2.pt rfl rfl h0)
    obtain ⟨c1, c2, c3⟩ := hS 0 (by decide)
    obtain ⟨m1, m2, m3⟩ := mS 0 (by decide)
    rw [show (0 : Int32) = nI 0 from rfl, chk_nI (by decide) (by decide), nI_cl (by decide)]
    cases e : (aS A).1 0 with
    | none =>
      rw [if_pos (m2 e), show gI σ (51 + 0) 2 = -4 from c2 e]
      exact Eq2.pt rfl rfl h0
    | some z =>
      obtain ⟨l, n⟩ := z
      have hl := (w6 0 l n e).1
      rw [(m3 l n e).1, (m3 l n e).2, show gI σ (51 + 0) 2 = nI n from (c3 l n e).2]
      simp only [neI4 (show l < 2 ^ 31 by omega), if_false]
      exact Eq2.pt rfl rfl h0
end Count
