/-! read: the two answers -/
section Read3
variable {σ τ : St} {A : ABS} {b : Nat}
theorem RC.hole {h v : Int64} (hC : RC σ (setH A b h)) (hb : b < (aB A).1) : RC (sJ σ 33 b v) (setH A b v) := by
  obtain ⟨hP, hB, hL, hR, hZ, hS, hT, hWd, r, hQ, hU⟩ := hC
  refine ⟨hP, ⟨hB.1, hB.2.1, hB.2.2.1, hB.2.2.2.1, fun c hc => ?_, fun c hc => ?_⟩, hL, hR, hZ, hS, hT, hWd.fr Off.rf (gJ_sJn (by decide)), r, hQ, hU⟩
  · have h1 : gJ σ 33 c = up_ (aB A).2.2.2.2 b h c := hB.2.2.2.2.1 c hc
    show gJ (sJ σ 33 b v) 33 c = up_ (aB A).2.2.2.2 b v c
    rw [gJ_sJ]
    unfold up_ at h1 ⊢
    by_cases e : c = b
    · rw [if_pos ⟨rfl, e⟩, if_pos e]
    · rw [if_neg (fun h => e h.2), if_neg e, h1, if_neg e]
  · have hc' : (aB A).1 ≤ c := hc
    rw [gJ_sJ, if_neg (fun h => by omega)]
    exact hB.2.2.2.2.2 c hc
theorem RM.hole {h v : Int64} (hM : RM τ (setH A b h)) : RM (sJ τ 32 b v) (setH A b v) := by
  obtain ⟨mP, mB, mL, mR, mZ, mS, mT, mWd, mU, mK⟩ := hM
  refine ⟨mP, ⟨mB.1, mB.2.1, mB.2.2.1, mB.2.2.2.1, fun c hc => ?_⟩, mL, mR, mZ, mS, mT, mWd, mU, mK⟩
  have h1 : gJ τ 32 c = up_ (aB A).2.2.2.2 b h c := mB.2.2.2.2 c hc
  show gJ (sJ τ 32 b v) 32 c = up_ (aB A).2.2.2.2 b v c
  rw [gJ_sJ]
  unfold up_ at h1 ⊢
  by_cases e : c = b
  · rw [if_pos ⟨rfl, e⟩, if_pos e]
  · rw [if_neg (fun h => e h.2), if_neg e, h1, if_neg e]
theorem RC.torn (h : RC σ A) (v : Nat) : RC (sI σ 0 11 (nI v)) (setT A v) := by
  obtain ⟨hP, hB, hL, hR, hZ, hS, hT, hWd, r, hQ, hU⟩ := h
  exact ⟨hP, hB, hL, hR, ⟨hZ.1, rfl, hZ.2.2⟩, hS.fr (Off.rf.sI (by omega)), hT, hWd, r, hQ, hU.fr hQ.1 (Off.rf.sI (by omega))⟩
theorem RM.torn (h : RM τ A) (v : Nat) : RM (sI τ 0 67 (nI v)) (setT A v) := by
  obtain ⟨mP, mB, mL, mR, mZ, mS, mT, mWd, mU, mK⟩ := h
  exact ⟨mP, mB, mL, mR, ⟨mZ.1, rfl, mZ.2.2⟩, mS, mT, mWd, mU, mK⟩
theorem c_lose {ns : Nat} {B' : DB} (w8 : (aB A).1 ≤ 8) (wl : WL ns B' (aL A)) (hbd : ∀ k, k < (aL A).1 → lB (aL A) k < 2 ^ 31 ∧ lY (aL A) k < 2 ^ 31) (hb : b < (aB A).1) (hto : (aB A).2.2.2.1 b ≤ 1899) (hy : (aB A).2.2.2.1 b < (aB A).2.2.1 b + 64) : ∀ d i n h σ, (aB A).2.2.1 b + i + d = (aB A).2.2.2.1 b + 1 → d < n → RC σ (setH A b h) → ∃ σ', X10_loseYears_L12 n (nI b) (nI ((aB A).2.2.1 b + i)) σ = some σ' ∧ RC σ' (setH A b (lsF (fun i => hasLn (aL A) b ((aB A).2.2.1 b + i)) d i h)) := by
  intro d
  induction d with
  | zero =>
    intro i n h σ hi hn hC
    obtain ⟨n, rfl⟩ : ∃ q, n = q + 1 := ⟨n - 1, by omega⟩
    have ht : gI σ 32 b = nI ((aB A).2.2.2.1 b) := hC.2.1.2.2.2.1 b hb
    exact ⟨σ, by rw [X10_loseYears_L12, chk_nI (by omega) (by decide), nI_cl (by omega), ht, if_pos (by rw [ltI (by omega) (by omega)]; omega)], hC⟩
  | succ d ih =>
    intro i n h σ hi hn hC
    obtain ⟨n, rfl⟩ : ∃ q, n = q + 1 := ⟨n - 1, by omega⟩
    have ht : gI σ 32 b = nI ((aB A).2.2.2.1 b) := hC.2.1.2.2.2.1 b hb
    have hf : gI σ 31 b = nI ((aB A).2.2.1 b) := hC.2.1.2.2.1 b hb
    have hh : gJ σ 33 b = h := by
      have : gJ σ 33 b = up_ (aB A).2.2.2.2 b h b := hC.2.1.2.2.2.2.1 b hb
      rw [this]
      unfold up_
      rw [if_pos rfl]
    have ha : X3_areIn (nI b) (nI ((aB A).2.2.1 b + i)) σ = some (b2 (hasLn (aL A) b ((aB A).2.2.1 b + i))) := c_areIn (L := aL A) hC.2.2.1 wl b _ (by omega) (by omega) hbd
    rw [X10_loseYears_L12, chk_nI (by omega) (by decide), nI_cl (show b < 2 ^ 31 by omega), ht, if_neg (by rw [ltI (by omega) (by omega)]; omega), ha, Option.bind_some, nI_1]
    show ∃ σ', _ ∧ RC σ' (setH A b (lsF (fun i => hasLn (aL A) b ((aB A).2.2.1 b + i)) d (i + 1) (if hasLn (aL A) b ((aB A).2.2.1 b + i) = true then h else h ||| ((1 : Int64) <<< ((nI i).toInt64 &&& 63)))))
    cases hasLn (aL A) b ((aB A).2.2.1 b + i) with
    | true =>
      rw [if_neg (show ¬ b2 true = 0 from n10), if_pos rfl]
      exact ih (i + 1) n h σ (by omega) (by omega) hC
    | false =>
      rw [if_pos (show b2 false = 0 from rfl), if_neg (show ¬ false = true by decide)]
      have hs : X0_setHole (nI b) (nI ((aB A).2.2.1 b + i)) 1 σ = some (sJ σ 33 b (h ||| ((1 : Int64) <<< ((nI i).toInt64 &&& 63)))) := by
        unfold X0_setHole
        rw [chk_nI (by omega) (by decide), nI_cl (show b < 2 ^ 31 by omega), hf, subI (by omega), show (aB A).2.2.1 b + i - (aB A).2.2.1 b = i by omega, bnd, if_neg n10, chk_nI (by omega) (by decide), chk_nI (by omega) (by decide), bnd, hh]
      rw [hs, Option.bind_some]
      exact ih (i + 1) n _ _ (by omega) (by omega) (hC.hole hb)
theorem m_lose {ns : Nat} {B' : DB} (w8 : (aB A).1 ≤ 8) (wl : WL ns B' (aL A)) (hbd : ∀ k, k < (aL A).1 → lB (aL A) k < 2 ^ 31 ∧ lY (aL A) k < 2 ^ 31) (hb : b < (aB A).1) (hto : (aB A).2.2.2.1 b ≤ 1899) (hy : (aB A).2.2.2.1 b < (aB A).2.2.1 b + 64) (x6 x7 : Int32) : ∀ d i n h τ, i + d = (aB A).2.2.2.1 b - (aB A).2.2.1 b + 1 → (aB A).2.2.1 b ≤ (aB A).2.2.2.1 b → d < n → RM τ (setH A b h) → ∃ τ', X11_read_L260 n (nI b) (nI ((aB A).2.2.2.1 b - (aB A).2.2.1 b + 1)) x6 x7 (nI i) τ = some (x7, sI τ' 0 67 x6) ∧ RM τ' (setH A b (lsF (fun i => hasLn (aL A) b ((aB A).2.2.1 b + i)) d i h)) := by
  intro d
  induction d with
  | zero =>
    intro i n h τ hi hle hn hM
    obtain ⟨n, rfl⟩ : ∃ q, n = q + 1 := ⟨n - 1, by omega⟩
    exact ⟨τ, by rw [X11_read_L260, if_pos (nI_le (by omega) (by omega)), bnd], hM⟩
  | succ d ih =>
    intro i n h τ hi hle hn hM
    obtain ⟨n, rfl⟩ : ∃ q, n = q + 1 := ⟨n - 1, by omega⟩
    have hf : gI τ 30 b = nI ((aB A).2.2.1 b) := hM.2.1.2.2.1 b hb
    have hh : gJ τ 32 b = h := by
      have : gJ τ 32 b = up_ (aB A).2.2.2.2 b h b := hM.2.1.2.2.2.2 b hb
      rw [this]
      unfold up_
      rw [if_pos rfl]
    have ha : X11_hasLine (nI b) (nI ((aB A).2.2.1 b + i)) τ = some (b2 (hasLn (aL A) b ((aB A).2.2.1 b + i))) := m_hasLine (L := aL A) hM.2.2.1 wl b _ (by omega) (by omega) hbd
    rw [X11_read_L260, if_neg (nI_ge (by omega) (by omega)), chk_nI (by omega) (by decide), nI_cl (show b < 2 ^ 31 by omega), hf, nI_add, ha, Option.bind_some, nI_1]
    show ∃ τ', _ ∧ RM τ' (setH A b (lsF (fun i => hasLn (aL A) b ((aB A).2.2.1 b + i)) d (i + 1) (if hasLn (aL A) b ((aB A).2.2.1 b + i) = true then h else h ||| ((1 : Int64) <<< ((nI i).toInt64 &&& 63)))))
    cases hasLn (aL A) b ((aB A).2.2.1 b + i) with
    | true =>
      rw [if_neg (show ¬ b2 true = 0 from n10), if_pos rfl]
      exact ih (i + 1) n h τ (by omega) hle (by omega) hM
    | false =>
      rw [if_pos (show b2 false = 0 from rfl), if_neg (show ¬ false = true by decide), chk_nI (by omega) (by decide), chk_nI (by omega) (by decide), bnd, hh]
      exact ih (i + 1) n _ _ (by omega) hle (by omega) hM.hole
theorem lsF_bit {p : Nat → Bool} {j : Nat} (hj : j < 64) : ∀ d i h, i + d ≤ 64 → bq (lsF p d i h) j = true → bq h j = true ∨ (i ≤ j ∧ j < i + d)
  | 0, i, h, _, hb => Or.inl hb
  | d + 1, i, h, hd, hb => by
    have hb' : bq (lsF p d (i + 1) (if p i = true then h else h ||| ((1 : Int64) <<< ((nI i).toInt64 &&& 63)))) j = true := hb
    rcases lsF_bit hj d (i + 1) _ (by omega) hb' with h1 | h1
    · by_cases e : p i = true
      · rw [if_pos e] at h1; exact Or.inl h1
      · rw [if_neg e, bq_or, bq_1k (by omega) hj, Bool.or_eq_true, decide_eq_true_eq] at h1
        rcases h1 with h1 | h1
        · exact Or.inl h1
        · exact Or.inr (by omega)
    · exact Or.inr (by omega)
theorem fsF_none {p : Nat → Bool} : ∀ d i, fsF p d i = none → ∀ j, i ≤ j → j < i + d → p j = false
  | 0, i, _, j, h1, h2 => by omega
  | d + 1, i, h, j, h1, h2 => by
    have h' : (if p i = true then some i else fsF p d (i + 1)) = none := h
    by_cases e : p i = true
    · rw [if_pos e] at h'; cases h'
    · rw [if_neg e] at h'
      by_cases ej : j = i
      · subst ej; simpa using e
      · exact fsF_none d (i + 1) h' j (by omega) (by omega)
theorem fsF_lt {p : Nat → Bool} : ∀ d i j, fsF p d i = some j → j < i + d
  | 0, i, j, h => by cases h
  | d + 1, i, j, h => by
    have h' : (if p i = true then some i else fsF p d (i + 1)) = some j := h
    by_cases e : p i = true
    · rw [if_pos e] at h'
      rw [← Option.some.inj h']
      omega
    · rw [if_neg e] at h'
      have := fsF_lt d (i + 1) j h'
      omega
theorem fl_lt {S : DS} {k ns i s : Nat} {h : Int64} (hn : ns ≤ 16) (e : fl S k h ns i = some s) : s < ns := by
  unfold fl at e
  cases eq : bq h i with
  | true => rw [eq] at e; cases e
  | false =>
    rw [eq, if_neg (by decide)] at e
    rcases ixc (S.2 k i) ns (by omega) with ⟨s', hs', hx⟩ | hx
    · rw [hx, if_pos ⟨nI_pos' (by omega), nI_lt hs' (by omega)⟩, nI_cl (by omega)] at e
      rw [← Option.some.inj e]
      exact hs'
    · rw [if_neg (fun h => by
        rcases hx with hx | hx
        · exact absurd h.1 (by rw [Int32.not_le]; exact hx)
        · exact absurd h.2 (Int32.not_lt.mpr hx))] at e
      cases e
theorem setH_self (A : ABS) (b : Nat) : setH A b ((aB A).2.2.2.2 b) = A := by
  have : up_ (aB A).2.2.2.2 b ((aB A).2.2.2.2 b) = (aB A).2.2.2.2 := by
    funext c
    unfold up_
    by_cases e : c = b
    · rw [if_pos e, e]
    · rw [if_neg e]
  unfold setH
  rw [this]
theorem eq_read (h : Rel σ τ) (x y z : Int32) : Eq2 (X10_read x y z σ) (X11_read x y z τ) := by
  have h0 := h
  obtain ⟨A, hC, hM, hW⟩ := h
  have hC0 := hC
  have hM0 := hM
  obtain ⟨hP, hB, hL, hR, hZ, hS, hT, hWd, r, hQ, hU⟩ := hC
  obtain ⟨mP, mB, mL, mR, mZ, mS, mT, mWd, mU, mK⟩ := hM
  obtain ⟨w1, w2, w3, w4, w5, w6, w7, w8, w9, w10⟩ := hW
  have h8 := w2.1
  have hnp := w1.1
  have hn16 := w8.1
  have hl40 := w3.1
  have hin := in_eq y 0 3 τ
  have hin2 := in_eq z 0 2 τ
  unfold X10_read X11_read
  rw [show (3 : Int64) = (3 : Int32).toInt64 from rfl, show (2 : Int64) = (2 : Int32).toInt64 from rfl, show (0 : Int64) = (0 : Int32).toInt64 from rfl, hin, hin2, sheet_in, lane_eq, Option.bind_some, Option.bind_some, Option.bind_some, Option.bind_some]
  rcases ixc x (aB A).1 (by omega) with ⟨b, hb, rfl⟩ | hx
  · rw [c_book_in hB.1 h8 hb, m_book_in mB.1 h8 hb, Option.bind_some, Option.bind_some, if_neg n10, if_neg n10]
    rcases rngc y 3 3 (by decide) with ⟨k, hk, rfl, c1, c2, c3, c4⟩ | ⟨c1, c2⟩ | ⟨c1, c2, c3, c4⟩
    · simp only [c2, c4, decide_true, Bool.and_self, b2_t, one0, if_false]
      rcases rngc z 2 2 (by decide) with ⟨ln, hln, rfl, d1, d2, d3, d4⟩ | ⟨d1, d2⟩ | ⟨d1, d2, d3, d4⟩
      · simp only [d2, d4, decide_true, Bool.and_self, b2_t, one0, if_false]
        obtain ⟨r1, r2, r3, r4, r5, r6⟩ := w2.2 b hb
        have hk4 : k < 4 := by omega
        have hY : (aB A).2.2.2.1 b - (aB A).2.2.1 b + 1 ≤ 64 := by omega
        obtain ⟨Y, eY⟩ : ∃ Y, Y = (aB A).2.2.2.1 b - (aB A).2.2.1 b + 1 := ⟨_, rfl⟩
        obtain ⟨bad, ebad⟩ : ∃ bad, bad = badF (aS A) k ln ((aB A).2.2.2.2 b) := ⟨_, rfl⟩
        obtain ⟨wh, ewh⟩ : ∃ wh, wh = whF bad Y 0 := ⟨_, rfl⟩
        obtain ⟨v1, v2, v3, v4⟩ := whF_spec bad Y 0
        rw [← ewh] at v1 v2 v3 v4
        have hok : ∀ j, j < wh → badF (aS A) k ln ((aB A).2.2.2.2 b) j = false := fun j hj => by rw [← ebad]; exact v3 j (by omega) hj
        have hyo : ∀ σ1, RC σ1 A → X0_yearsOf (nI b) σ1 = some (nI Y) := fun σ1 hh => by
          unfold X0_yearsOf
          rw [chk_nI (by omega) (by decide), chk_nI (by omega) (by decide), nI_cl (by omega), hh.2.1.2.2.1 b hb, hh.2.1.2.2.2.1 b hb, subI r3, nI_1, eY]
        have hc1 : X10_wholeYears (nI b) k (nI ln) σ = some (nI wh) := by
          unfold X10_wholeYears
          rw [hyo σ hC0, Option.bind_some, ewh, ebad]
          exact c_whole hB w2 hS w6 hk4 (by omega) hb (Y := Y) (by omega) Y 0 FU (by omega) (by show _ < 1000000; omega)
        have hc2 : X10_wrongCell (nI b) k (nI wh) σ = some (oI (fsF (wrgF (aS A) k ((aB A).2.2.2.2 b) (aW A).1) wh 0)) := c_wrong hB w2 hS w6 hn16 hWd.1 hk4 hb (by omega) hok wh 0 FU (by omega) (by show _ < 1000000; omega)
        have hm1 := m_L64 (ns := (aW A).1) (ln := ln) mB w2 mS w6 hn16 mWd.1 hk4 (by omega) hb (Y := Y) (by omega) Y 0 FU (by omega) (by show _ < 1000000; omega)
        rw [← ebad, ← ewh, Nat.sub_zero] at hm1
        have hm1' : X11_read_L64 FU (nI b) (nI k) (nI ln) (nI Y) (nI Y) (0 : Int32) (0 : Int32) (0 : Int32) τ = _ := hm1
        rw [chk_nI (show k < 4 by omega) (by decide), nI_cl (show k < 2 ^ 31 by omega), hc1, Option.bind_some, chk_nI (show k < 4 by omega) (by decide), hc2, Option.bind_some, chk_nI (show b < 8 by omega) (by decide), chk_nI (show b < 8 by omega) (by decide), nI_cl (show b < 2 ^ 31 by omega), mB.2.2.1 b hb, mB.2.2.2.1 b hb, subI r3, nI_1, ← eY, bnd, hm1']
        cases ef : fsF (wrgF (aS A) k ((aB A).2.2.2.2 b) (aW A).1) wh 0 with
        | some j =>
          have hj := fsF_lt wh 0 j ef
          rw [oI_some]
          simp only [neI4 (show j < 2 ^ 31 by omega), if_false]
          exact Eq2.same h0 _
        | none =>
          have hwr : ∀ j, j < wh → wrgF (aS A) k ((aB A).2.2.2.2 b) (aW A).1 j = false := fun j hj => fsF_none wh 0 ef j (by omega) (by omega)
          have hcl := cnF_le (fl (aS A) k ((aB A).2.2.2.2 b) (aW A).1) wh
          rw [if_pos oI_none, chk_nI (show k < 4 by omega) (by decide), c_count hB h8 hS w6 hn16 hWd.1 hk4 hb (by omega) hok, Option.bind_some, hL.1, nI_add]
          show Eq2 _ (X11_read_B165 (nI b) (nI k) (nI Y) (nI wh) (nI (if wh < Y then flt (aS A) k ln wh else 0)) (nI (cnF (fl (aS A) k ((aB A).2.2.2.2 b) (aW A).1) wh)) τ)
          unfold X11_read_B165
          rw [mL.1, nI_add]
          have h40 : (nI ((aL A).1 + cnF (fl (aS A) k ((aB A).2.2.2.2 b) (aW A).1) wh) ≤ (40 : Int32)) = ((aL A).1 + cnF (fl (aS A) k ((aB A).2.2.2.2 b) (aW A).1) wh ≤ 40) := leI (b := 40) (by omega) (by decide)
          simp only [h40]
          by_cases e40 : (aL A).1 + cnF (fl (aS A) k ((aB A).2.2.2.2 b) (aW A).1) wh ≤ 40
          · rw [if_pos e40, if_pos e40, chk_nI (show k < 4 by omega) (by decide)]
            obtain ⟨σ1, s1, s2⟩ := c_copy (A := A) h8 w6 hn16 hk4 hb (by omega) hok wh 0 FU (aL A) σ (by omega) (by show _ < 1000000; omega) hC0 (by omega)
            obtain ⟨τ1, t1, t2⟩ := m_copy (A := A) h8 hn16 hk4 hb (show wh ≤ 64 by omega) hwr (nI Y) (nI (if wh < Y then flt (aS A) k ln wh else 0)) (nI (cnF (fl (aS A) k ((aB A).2.2.2.2 b) (aW A).1) wh)) wh 0 FU (aL A) τ (by omega) (by show _ < 1000000; omega) hM0 (by omega)
            obtain ⟨L', eL'⟩ : ∃ L', L' = cpL b ((aB A).2.2.1 b) (aZ A).1 (fl (aS A) k ((aB A).2.2.2.2 b) (aW A).1) wh 0 (aL A) := ⟨_, rfl⟩
            have hgood := cpL_ok (ns := (aW A).1) (b := b) (f := (aB A).2.2.1 b) (day := (aZ A).1) (B := aB A) (R := aR A) (fl := fl (aS A) k ((aB A).2.2.2.2 b) (aW A).1) hb rfl w5.1 (fun i s e => fl_lt hn16 e) wh 0 (aL A) (by omega) w3 w4 (by
              rw [Nat.zero_add]
              have : sumTo (fun j => if (fl (aS A) k ((aB A).2.2.2.2 b) (aW A).1 j).isSome = true then 1 else 0) wh = cnF (fl (aS A) k ((aB A).2.2.2.2 b) (aW A).1) wh := rfl
              rw [this]
              omega)
            rw [← eL'] at s2 t2 hgood
            obtain ⟨g1, g2⟩ := hgood
            have hbd : ∀ k, k < L'.1 → lB L' k < 2 ^ 31 ∧ lY L' k < 2 ^ 31 := fun j hj => by
              have q1 := (g1.2 j hj).1
              have q2 := year_lt g1 w2 hj
              omega
            obtain ⟨v, ev⟩ : ∃ v, v = if wh < Y then flt (aS A) k ln wh else 0 := ⟨_, rfl⟩
            have hv3 : v ≤ 3 := by
              rw [ev]
              split
              · exact flt_le _ _ _ _
              · decide
            rw [← ev] at t1 ⊢
            have t1' : X11_read_L183 FU (nI b) (nI k) (nI Y) (nI wh) (nI v) (nI (cnF (fl (aS A) k ((aB A).2.2.2.2 b) (aW A).1) wh)) (0 : Int32) τ = _ := t1
            have s1' : X10_copyYears (nI b) k (nI wh) σ = some σ1 := s1
            rw [t1', s1', Option.bind_some]
            have s3 := s2.torn v
            have s3' : RC (sI σ1 0 11 (nI v)) (setH (setT (setL A L') v) b ((aB A).2.2.2.2 b)) := by
              have := setH_self (setT (setL A L') v) b
              rw [show ((aB A).2.2.2.2 b) = (aB (setT (setL A L') v)).2.2.2.2 b from rfl, this]
              exact s3
            have t2' : RM τ1 (setH (setL A L') b ((aB A).2.2.2.2 b)) := by
              have := setH_self (setL A L') b
              rw [show ((aB A).2.2.2.2 b) = (aB (setL A L')).2.2.2.2 b from rfl, this]
              exact t2
            obtain ⟨σ2, s4, s5⟩ := c_lose (A := setT (setL A L') v) (b := b) h8 g1 hbd hb r4 r5 (Y - wh) wh FU _ _ (by show (aB A).2.2.1 b + wh + (Y - wh) = (aB A).2.2.2.1 b + 1; omega) (by show _ < 1000000; omega) s3'
            obtain ⟨τ2, t4, t5⟩ := m_lose (A := setL A L') (b := b) h8 g1 hbd hb r4 r5 (nI v) (nI (cnF (fl (aS A) k ((aB A).2.2.2.2 b) (aW A).1) wh)) (Y - wh) wh FU _ _ (by show wh + (Y - wh) = (aB A).2.2.2.1 b - (aB A).2.2.1 b + 1; omega) r3 (by show _ < 1000000; omega) t2'
            have t4' : X11_read_L260 FU (nI b) (nI Y) (nI v) (nI (cnF (fl (aS A) k ((aB A).2.2.2.2 b) (aW A).1) wh)) (nI wh) τ1 = some (nI (cnF (fl (aS A) k ((aB A).2.2.2.2 b) (aW A).1) wh), sI τ2 0 67 (nI v)) := by
              rw [eY]; exact t4
            rw [t4']
            have t6 := t5.torn v
            have hls : X10_loseYears (nI b) (nI wh) (sI σ1 0 11 (nI v)) = some σ2 := by
              unfold X10_loseYears
              have hfr : gI (sI σ1 0 11 (nI v)) 31 b = nI ((aB A).2.2.1 b) := s3.2.1.2.2.1 b hb
              rw [chk_nI (by omega) (by decide), nI_cl (by omega), hfr, nI_add, bnd]
              exact s4
            have hyo1 : X0_yearsOf (nI b) σ1 = some (nI Y) := by
              unfold X0_yearsOf
              have q1 : gI σ1 31 b = nI ((aB A).2.2.1 b) := s2.2.1.2.2.1 b hb
              have q2 : gI σ1 32 b = nI ((aB A).2.2.2.1 b) := s2.2.1.2.2.2.1 b hb
              rw [chk_nI (by omega) (by decide), chk_nI (by omega) (by decide), nI_cl (by omega), q1, q2, subI r3, nI_1, eY]
            rw [hyo1, Option.bind_some]
            simp only [leI (show Y < 2 ^ 31 by omega) (show wh < 2 ^ 31 by omega)]
            have hcl : (if Y ≤ wh then X10_read_B133 (nI b) (nI k) (nI ln) (nI wh) (nI (cnF (fl (aS A) k ((aB A).2.2.2.2 b) (aW A).1) wh)) 0 σ1 else X10_read_B133 (nI b) (nI k) (nI ln) (nI wh) (nI (cnF (fl (aS A) k ((aB A).2.2.2.2 b) (aW A).1) wh)) 1 σ1) = some (nI (cnF (fl (aS A) k ((aB A).2.2.2.2 b) (aW A).1) wh), σ2) := by
              by_cases eY2 : Y ≤ wh
              · have ev0 : v = 0 := by rw [ev, if_neg (by omega)]
                rw [if_pos eY2]
                unfold X10_read_B133
                rw [if_pos rfl, bnd]
                rw [ev0] at hls
                rw [show (0 : Int32) = nI 0 from rfl, hls, Option.bind_some]
              · have ev0 : v = flt (aS A) k ln wh := by rw [ev, if_pos (by omega)]
                rw [if_neg eY2]
                unfold X10_read_B133
                have hfa : X6_faultAt k (nI ln) (nI wh) σ1 = some (nI (flt (aS A) k ln wh)) := c_faultAt (S := aS A) s2.2.2.2.2.2.1 w6 hk4 (by omega) (by omega)
                rw [if_neg n10, chk_nI (show k < 4 by omega) (by decide), nI_cl (show k < 2 ^ 31 by omega), hfa, Option.bind_some, bnd, ← ev0, hls, Option.bind_some]
            rw [hcl]
            refine Eq2.of rfl rfl ⟨setT (setH (setL A L') b (lsF (fun i => hasLn L' b ((aB A).2.2.1 b + i)) (Y - wh) wh ((aB A).2.2.2.2 b))) v, s5, t6, ?_⟩
            refine ⟨w1, ⟨w2.1, fun c hc => ?_⟩, g1, g2, ⟨w5.1, hv3, w5.2.2⟩, w6, w7, w8, w9, w10⟩
            obtain ⟨q1, q2, q3, q4, q5, q6⟩ := w2.2 c hc
            refine ⟨q1, q2, q3, q4, q5, fun j hj hbit => ?_⟩
            have hbit' : bq (up_ (aB A).2.2.2.2 b (lsF (fun i => hasLn L' b ((aB A).2.2.1 b + i)) (Y - wh) wh ((aB A).2.2.2.2 b)) c) j = true := hbit
            unfold up_ at hbit'
            by_cases e : c = b
            · subst e
              rw [if_pos rfl] at hbit'
              rcases lsF_bit hj _ _ _ (by omega) hbit' with h1 | h1
              · exact q6 j hj h1
              · show (aB A).2.2.1 c + j ≤ (aB A).2.2.2.1 c
                omega
            · rw [if_neg e] at hbit'
              exact q6 j hj hbit'
          · rw [if_neg e40, if_neg e40]
            exact Eq2.same h0 _
      · simp only [d2, decide_false, Bool.false_and, b2_f, if_true]
        exact Eq2.same h0 _
      · simp only [d2, d4, decide_true, decide_false, Bool.and_false, b2_f, if_true]
        exact Eq2.same h0 _
    · simp only [c2, decide_false, Bool.false_and, b2_f, if_true]
      exact Eq2.same h0 _
    · simp only [c2, c4, decide_true, decide_false, Bool.and_false, b2_f, if_true]
      exact Eq2.same h0 _
  · rw [c_book_out hB.1 hx, m_book_out mB.1 h8 hx, Option.bind_some, Option.bind_some, if_pos rfl, if_pos rfl]
    exact Eq2.same h0 _
end Read3
