/-! keywords; taking tokens -/
def kB : List (List Nat) := [[115, 97, 121], [109, 117, 116, 101], [108, 105, 107, 101], [100, 114, 111, 112], [111, 116, 104, 101, 114], [106, 111, 105, 110], [109, 105, 108, 101, 115], [115, 111, 110, 115]]
/-- the token is keyword w -/
def isK (T : DT) (p w : Nat) : Bool := decide (tK T p = 1) && (decide (tE T p - tS T p = (kB.getD w []).length) && (List.range (kB.getD w []).length).all fun i => decide (T.2 (tS T p + i) = (kB.getD w []).getD i 0))
theorem chr_ok : ∀ w, w < 8 → ∀ i, i < (kB.getD w []).length → (J1_chr w (nI i)).bind (fun v => if (v.toUInt32 % 65536).toInt32 = v then some v else none) = some (nI ((kB.getD w []).getD i 0)) ∧ (kB.getD w []).getD i 0 < 128 := by decide +kernel
theorem len_ok : ∀ w, w < 8 → (Int32.ofNat (kLen.getD w 0) >>> ((0 : Int32) &&& 31)) = nI (kB.getD w []).length ∧ (kB.getD w []).length ≤ 5 := by decide +kernel
theorem sb_eq (b : Nat) (hb : b < 256) (c : Nat) (hc : c < 128) : sb_b b = nI c ↔ b = c := by
  by_cases h : 128 ≤ b
  · refine ⟨fun e => ?_, fun e => by omega⟩
    have := (sb_hi b hb h).1
    rw [e] at this
    exact absurd this (nI_pos (by omega))
  · rw [sb_lo b (by omega)]
    exact nI_eq (by omega) (by omega)
section Words
variable {σ τ : St} {T : DT} {p : Nat}
theorem all_loop (Lp : Nat → Nat → Option Int32) (n : Nat) (q : Nat → Bool) (hn : n < 1000000) (hs : ∀ m k, k < n → Lp (m + 1) k = if q k = true then Lp m (k + 1) else some 0) (hx : ∀ m, Lp (m + 1) n = some 1) : Lp FU 0 = some (b2 ((List.range n).all q)) := by
  have key : ∀ d k m, k + d = n → d < m → Lp m k = some (b2 ((List.range' k d).all q)) := by
    intro d
    induction d with
    | zero =>
      intro k m hk hm
      obtain ⟨m, rfl⟩ : ∃ q, m = q + 1 := ⟨m - 1, by omega⟩
      have : k = n := by omega
      subst this
      rw [hx m]; rfl
    | succ d ih =>
      intro k m hk hm
      obtain ⟨m, rfl⟩ : ∃ q, m = q + 1 := ⟨m - 1, by omega⟩
      rw [hs m k (by omega)]
      simp only [List.range'_succ, List.all_cons]
      by_cases hp : q k = true
      · rw [if_pos hp, hp, ih (k + 1) m (by omega) (by omega)]; rfl
      · rw [if_neg hp]
        rw [Bool.not_eq_true] at hp
        rw [hp]; rfl
  rw [key n 0 FU (by omega) hn, List.range_eq_range']
theorem c_isKw (hT : CT σ T) (wT : WTp T) (hp : p ≤ T.1) (hC : TC (gI σ 3) T p) {w : Nat} (hw : w < 8) : X8_isWord w σ = some (b2 (isK T p w)) := by
  have h200 := wT.1
  obtain ⟨he1, he2, he3⟩ := tE_le hp
  obtain ⟨l1, l2⟩ := len_ok w hw
  obtain ⟨c3, c4, c5, c6, c7⟩ := hC
  have hk4 : tK T p ≤ 4 := by
    have := tK0_le T p
    unfold tK
    split <;> omega
  unfold X8_isWord isK
  rw [c4, c6]
  simp only [show (nI (tK T p) = (1 : Int32)) = (tK T p = 1) from eqI (b := 1) (by omega) (by decide)]
  by_cases e1 : tK T p = 1
  · rw [if_pos e1]
    unfold J0_length_8abf5
    rw [Option.bind_some, l1]
    simp only [eqI (show tE T p - tS T p < 2 ^ 31 by omega) (show (kB.getD w []).length < 2 ^ 31 by omega)]
    by_cases e2 : tE T p - tS T p = (kB.getD w []).length
    · rw [if_pos e2, decide_eq_true e1, decide_eq_true e2, Bool.true_and, Bool.true_and]
      refine all_loop (fun m k => X8_isWord_L23 w σ m (nI k)) _ _ (by omega) (fun m k hk => ?_) (fun m => ?_)
      · show X8_isWord_L23 w σ (m + 1) (nI k) = _
        obtain ⟨q1, q2⟩ := chr_ok w hw k hk
        have hb := wT.2 (tS T p + k) (by omega)
        rw [X8_isWord_L23, c6, if_neg (nI_ge (by omega) (by omega)), c5, nI_add, c_byte hT wT (by omega), Option.bind_some]
        unfold J0_charAt_5068e
        rw [q1, Option.bind_some, nI_1]
        simp only [sb_eq _ hb _ q2]
        by_cases e3 : T.2 (tS T p + k) = (kB.getD w []).getD k 0
        · rw [if_pos e3, if_pos (decide_eq_true e3)]
        · rw [if_neg e3, if_neg (by rw [decide_eq_false e3]; decide)]
      · show X8_isWord_L23 w σ (m + 1) (nI (kB.getD w []).length) = _
        rw [X8_isWord_L23, c6, if_pos (nI_le (by omega) (by omega))]
    · rw [if_neg e2, decide_eq_false e2, Bool.false_and, Bool.and_false]
      rfl
  · rw [if_neg e1, decide_eq_false e1, Bool.false_and]
    rfl
theorem mk_ok : ∀ w, w < 8 → ([0, 3, 7, 11, 15, 20, 24, 29, 33] : List Nat).getD (w + 1) 0 - ([0, 3, 7, 11, 15, 20, 24, 29, 33] : List Nat).getD w 0 = (kB.getD w []).length ∧ ([0, 3, 7, 11, 15, 20, 24, 29, 33] : List Nat).getD w 0 ≤ ([0, 3, 7, 11, 15, 20, 24, 29, 33] : List Nat).getD (w + 1) 0 ∧ ([0, 3, 7, 11, 15, 20, 24, 29, 33] : List Nat).getD (w + 1) 0 ≤ 33 := by decide +kernel
theorem mw_ok : ∀ w, w < 8 → ∀ i, i < (kB.getD w []).length → ([0, 3, 7, 11, 15, 20, 24, 29, 33] : List Nat).getD w 0 + i < 33 ∧ ([115, 97, 121, 109, 117, 116, 101, 108, 105, 107, 101, 100, 114, 111, 112, 111, 116, 104, 101, 114, 106, 111, 105, 110, 109, 105, 108, 101, 115, 115, 111, 110, 115] : List Nat).getD (([0, 3, 7, 11, 15, 20, 24, 29, 33] : List Nat).getD w 0 + i) 0 = (kB.getD w []).getD i 0 := by decide +kernel
theorem m_lineAt (hT : MT τ T) (wT : WTp T) (hK : MK τ) (hp : p ≤ T.1) (hM : TM (gI τ 0) T p) (h4 : tK T p ≠ 4) : X11_lineAt τ = some (oI (fsF (isK T p) 8 0)) := by
  have h200 := wT.1
  obtain ⟨he1, he2, he3⟩ := tE_le hp
  obtain ⟨m9, m10, m11, -⟩ := hM
  obtain ⟨m7, m11, -⟩ := m11 h4
  have hk4 : tK T p ≤ 4 := by
    have := tK0_le T p
    unfold tK
    split <;> omega
  have inner : ∀ w, w < 8 → ∀ (kq : Int32 → Option Int32), tE T p - tS T p = (kB.getD w []).length → ∀ d m i, i + d = (kB.getD w []).length → d + 1 < m → X11_lineAt_L51 kq τ m (nI w) 1 (nI i) = if ((List.range' i d).all fun i => decide (T.2 (tS T p + i) = (kB.getD w []).getD i 0)) = true then some (nI w) else kq (nI (w + 1)) := by
    intro w hw kq hl d
    obtain ⟨q1, q2, q3⟩ := mk_ok w hw
    induction d with
    | zero =>
      intro m i hi hm
      obtain ⟨m, rfl⟩ : ∃ q, m = q + 1 := ⟨m - 1, by omega⟩
      rw [X11_lineAt_L51, if_neg n10, m9, m10, subI he1, if_pos (nI_le (by omega) (by omega)), if_neg n10, if_pos (by simp)]
    | succ d ih =>
      intro m i hi hm
      obtain ⟨m, rfl⟩ : ∃ q, m = q + 1 := ⟨m - 1, by omega⟩
      obtain ⟨r1, r2⟩ := mw_ok w hw i (by omega)
      obtain ⟨-, r3⟩ := chr_ok w hw i (by omega)
      have hb := wT.2 (tS T p + i) (by omega)
      have ih' := ih m (i + 1) (by omega) (by omega)
      have hz : X11_lineAt_L51 kq τ m (nI w) 0 (nI (i + 1)) = kq (nI (w + 1)) := by
        obtain ⟨m, rfl⟩ : ∃ q, m = q + 1 := ⟨m - 1, by omega⟩
        rw [X11_lineAt_L51, if_pos rfl, if_pos rfl, nI_1]
      rw [X11_lineAt_L51, if_neg n10, m9, m10, subI he1, if_neg (nI_ge (by omega) (by omega)), nI_add, m_byte hT wT (by omega), Option.bind_some, if_pos (show tS T p + i < T.1 by omega), chk_nI (show w < 9 by omega) (by decide), nI_cl (show w < 2 ^ 31 by omega), hK.1 w (by omega), nI_add, chk_nI r1 (by decide), nI_cl (by omega), hK.2 _ r1, r2, nI_1, hz, ih', List.range'_succ, List.all_cons]
      simp only [eqI (show T.2 (tS T p + i) < 2 ^ 31 by omega) (show (kB.getD w []).getD i 0 < 2 ^ 31 by omega)]
      by_cases e3 : T.2 (tS T p + i) = (kB.getD w []).getD i 0
      · rw [if_pos e3, decide_eq_true e3, Bool.true_and]
      · rw [if_neg e3, decide_eq_false e3, Bool.false_and, if_neg (by decide)]
  have outer : ∀ d m w, w + d = 8 → d < m → X11_lineAt_L2 τ m (nI w) = some (oI (fsF (isK T p) d w)) := by
    intro d
    induction d with
    | zero =>
      intro m w hw hm
      obtain ⟨m, rfl⟩ : ∃ q, m = q + 1 := ⟨m - 1, by omega⟩
      have : w = 8 := by omega
      subst this
      rw [X11_lineAt_L2, if_pos (by decide)]
      rfl
    | succ d ih =>
      intro m w hw hm
      obtain ⟨m, rfl⟩ : ∃ q, m = q + 1 := ⟨m - 1, by omega⟩
      obtain ⟨q1, q2, q3⟩ := mk_ok w (by omega)
      obtain ⟨-, l2⟩ := len_ok w (by omega)
      have ih' := ih m (w + 1) (by omega) (by omega)
      have hz : X11_lineAt_L51 (X11_lineAt_L2 τ m) τ FU (nI w) 0 0 = some (oI (fsF (isK T p) d (w + 1))) := by
        obtain ⟨z, hz⟩ : ∃ n, FU = n + 1 := ⟨999999, rfl⟩
        rw [hz, X11_lineAt_L51, if_pos rfl, if_pos rfl, nI_1, ih']
      show _ = some (oI (if isK T p w = true then some w else fsF (isK T p) d (w + 1)))
      rw [X11_lineAt_L2, if_neg (show ¬ (8 : Int32) ≤ nI w from nI_ge (b := 8) (by omega) (by decide)), m11, hz, nI_1, chk_nI (show w + 1 < 9 by omega) (by decide), chk_nI (show w < 9 by omega) (by decide), nI_cl (show w < 2 ^ 31 by omega), nI_cl (show w + 1 < 2 ^ 31 by omega), hK.1 w (by omega), hK.1 (w + 1) (by omega), m9, m10, subI he1, subI q2, q1]
      simp only [show (nI (tK T p) = (1 : Int32)) = (tK T p = 1) from eqI (b := 1) (by omega) (by decide), eqI (show tE T p - tS T p < 2 ^ 31 by omega) (show (kB.getD w []).length < 2 ^ 31 by omega)]
      have hK0 : isK T p w = (decide (tK T p = 1) && (decide (tE T p - tS T p = (kB.getD w []).length) && (List.range (kB.getD w []).length).all fun i => decide (T.2 (tS T p + i) = (kB.getD w []).getD i 0))) := rfl
      rw [hK0]
      by_cases e1 : tK T p = 1
      · rw [if_pos e1, decide_eq_true e1, Bool.true_and]
        by_cases e2 : tE T p - tS T p = (kB.getD w []).length
        · have hin := inner w (by omega) (X11_lineAt_L2 τ m) e2 (kB.getD w []).length FU 0 (by omega) (by show _ < 1000000; omega)
          have hin' : X11_lineAt_L51 (X11_lineAt_L2 τ m) τ FU (nI w) 1 0 = _ := hin
          rw [if_pos e2, decide_eq_true e2, Bool.true_and, hin', List.range_eq_range']
          by_cases e3 : ((List.range' 0 (kB.getD w []).length).all fun i => decide (T.2 (tS T p + i) = (kB.getD w []).getD i 0)) = true
          · rw [if_pos e3, if_pos e3]
            rfl
          · rw [if_neg e3, if_neg e3, ih']
        · rw [if_neg e2, decide_eq_false e2, Bool.false_and, if_neg (by decide)]
      · rw [if_neg e1, decide_eq_false e1, Bool.false_and, if_neg (by decide)]
  exact outer 8 FU 0 (by decide) (by decide)
end Words
