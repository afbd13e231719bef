/-! read: lines copied, years lost -/
def setL (A : ABS) (L : DL) : ABS := (aP A, aB A, L, aR A, aZ A, aS A, aT A, aW A, aU A, aN A)
def setH (A : ABS) (b : Nat) (h : Int64) : ABS := (aP A, ((aB A).1, (aB A).2.1, (aB A).2.2.1, (aB A).2.2.2.1, up_ (aB A).2.2.2.2 b h), aL A, aR A, aZ A, aS A, aT A, aW A, aU A, aN A)
def setT (A : ABS) (v : Nat) : ABS := (aP A, aB A, aL A, aR A, ((aZ A).1, v, (aZ A).2.2), aS A, aT A, aW A, aU A, aN A)
/-- the lines that are copied -/
def cpL (b f day : Nat) (fl : Nat → Option Nat) : Nat → Nat → DL → DL
  | 0, _, L => L
  | d + 1, i, L => cpL b f day fl d (i + 1) (match fl i with
    | none => L
    | some s => addL L b (f + i) s 0 day)
/-- the holes behind -/
def lsF (p : Nat → Bool) : Nat → Nat → Int64 → Int64
  | 0, _, h => h
  | d + 1, i, h => lsF p d (i + 1) (if p i = true then h else h ||| ((1 : Int64) <<< ((nI i).toInt64 &&& 63)))
section Read2
variable {σ τ : St} {A : ABS} {k ln b : Nat}
theorem RC.line {L : DL} (h : RC σ (setL A L)) {y s : Nat} (hn : L.1 < 40) : X3_append (nI b) (nI y) (nI s) 0 (gI σ 0 12) σ = some (nI L.1, cAdd σ L.1 (nI b) (nI y) (nI s) (nI 0) (nI (aZ A).1)) ∧ RC (cAdd σ L.1 (nI b) (nI y) (nI s) (nI 0) (nI (aZ A).1)) (setL A (addL L b y s 0 (aZ A).1)) := by
  obtain ⟨hP, hB, hL, hR, hZ, hS, hT, hWd, r, hQ, hU⟩ := h
  have e : gI σ 0 12 = nI (aZ A).1 := hZ.1
  rw [e]
  refine ⟨c_append hL.1 hn _ _ _ _ _, ?_⟩
  exact ⟨hP, hB, hL.add b y s 0 (aZ A).1, hR, hZ, hS.fr (Off.sI (by omega) (Off.sI (by omega) (Off.sI (by omega) (Off.sI (by omega) (Off.sI (by omega) (Off.sI (by omega) (Off.sI (by omega) (Off.sI (by omega) (Off.sI (by omega) Off.rf))))))))), hT, hWd, r, hQ, hU.fr hQ.1 (Off.sI (by omega) (Off.sI (by omega) (Off.sI (by omega) (Off.sI (by omega) (Off.sI (by omega) (Off.sI (by omega) (Off.sI (by omega) (Off.sI (by omega) (Off.sI (by omega) Off.rf)))))))))⟩
theorem RM.line {L : DL} (h : RM τ (setL A L)) {y s : Nat} (hn : L.1 < 40) : X11_addLine (nI b) (nI y) (nI s) 0 τ = some (mAdd τ L.1 (nI b) (nI y) (nI s) (nI 0) (nI (aZ A).1)) ∧ RM (mAdd τ L.1 (nI b) (nI y) (nI s) (nI 0) (nI (aZ A).1)) (setL A (addL L b y s 0 (aZ A).1)) := by
  obtain ⟨mP, mB, mL, mR, mZ, mS, mT, mWd, mU, mK⟩ := h
  refine ⟨m_append mL.1 hn _ _ _ _ _ mZ.1, ?_⟩
  exact ⟨mP, mB, mL.add b y s 0 (aZ A).1, mR, mZ, mS, mT, mWd, mU, mK⟩
theorem c_copy (w8 : (aB A).1 ≤ 8) (wS : WS (aS A)) (hn16 : (aW A).1 ≤ 16) (hk : k < 4) (hb : b < (aB A).1) {wh : Nat} (hw : wh ≤ 64) (hok : ∀ j, j < wh → badF (aS A) k ln ((aB A).2.2.2.2 b) j = false) : ∀ d i n L σ, i + d = wh → d < n → RC σ (setL A L) → L.1 + cnF (fl (aS A) k ((aB A).2.2.2.2 b) (aW A).1) wh ≤ 40 + cnF (fl (aS A) k ((aB A).2.2.2.2 b) (aW A).1) i → ∃ σ', X10_copyYears_L3 k n (nI b) (nI wh) (nI i) σ = some σ' ∧ RC σ' (setL A (cpL b ((aB A).2.2.1 b) (aZ A).1 (fl (aS A) k ((aB A).2.2.2.2 b) (aW A).1) d i L)) := by
  intro d
  induction d with
  | zero =>
    intro i n L σ hi hn h hc
    obtain ⟨n, rfl⟩ : ∃ q, n = q + 1 := ⟨n - 1, by omega⟩
    have : i = wh := by omega
    subst this
    exact ⟨σ, by rw [X10_copyYears_L3, if_pos (nI_le (Nat.le_refl _) (by omega))], h⟩
  | succ d ih =>
    intro i n L σ hi hn h hc
    obtain ⟨n, rfl⟩ : ∃ q, n = q + 1 := ⟨n - 1, by omega⟩
    have hi64 : i < 64 := by omega
    have h' := h
    obtain ⟨hP, hB, hL, hR, hZ, hS, hT, hWd, r, hQ, hU⟩ := h'
    have hmo := sum_mono (fun j => if (fl (aS A) k ((aB A).2.2.2.2 b) (aW A).1 j).isSome = true then 1 else 0) (wh - (i + 1)) (i + 1)
    rw [show i + 1 + (wh - (i + 1)) = wh by omega] at hmo
    have hmo' : cnF (fl (aS A) k ((aB A).2.2.2.2 b) (aW A).1) (i + 1) ≤ cnF (fl (aS A) k ((aB A).2.2.2.2 b) (aW A).1) wh := hmo
    have hcs := cnF_s (fl (aS A) k ((aB A).2.2.2.2 b) (aW A).1) i
    have hfi : X10_isFilled (nI b) k (nI i) σ = some (b2 (fl (aS A) k ((aB A).2.2.2.2 b) (aW A).1 i).isSome) := c_filled (B := aB A) (S := aS A) hB w8 hS wS hn16 hWd.1 hk hb hi64 (hok i (by omega))
    have hfrom : gI σ 31 b = nI ((aB A).2.2.1 b) := hB.2.2.1 b hb
    rw [X10_copyYears_L3, if_neg (nI_ge (by omega) (by omega)), hfi, Option.bind_some, nI_1]
    show ∃ σ', _ ∧ RC σ' (setL A (cpL b ((aB A).2.2.1 b) (aZ A).1 (fl (aS A) k ((aB A).2.2.2.2 b) (aW A).1) d (i + 1) (match fl (aS A) k ((aB A).2.2.2.2 b) (aW A).1 i with
      | none => L
      | some s => addL L b ((aB A).2.2.1 b + i) s 0 (aZ A).1)))
    cases e : fl (aS A) k ((aB A).2.2.2.2 b) (aW A).1 i with
    | none =>
      rw [e] at hcs
      rw [if_pos (show b2 (none : Option Nat).isSome = 0 from rfl)]
      exact ih (i + 1) n L σ (by omega) (by omega) h (by rw [hcs]; simpa using hc)
    | some s =>
      rw [e, if_pos (show (some s).isSome = true from rfl)] at hcs
      have hq : bq ((aB A).2.2.2.2 b) i = false := by
        unfold fl at e
        cases eq : bq ((aB A).2.2.2.2 b) i with
        | true => rw [eq] at e; cases e
        | false => rfl
      have ho := hok i (by omega)
      have e2 : flt (aS A) k ln i = 0 := by
        unfold badF at ho
        rw [hq] at ho
        simpa using ho
      have hcell : X6_cellAt k (nI i) σ = some ((aS A).2 k i) := c_cellAt (S := aS A) hS wS hk e2
      have hs : (aS A).2 k i = nI s := by
        rcases ixc ((aS A).2 k i) (aW A).1 (by omega) with ⟨s', hs', hx⟩ | hx
        · unfold fl at e
          rw [hq, hx, if_neg (by decide), if_pos ⟨nI_pos' (by omega), nI_lt hs' (by omega)⟩, nI_cl (by omega)] at e
          rw [hx, Option.some.inj e]
        · unfold fl at e
          rw [hq, if_neg (by decide), if_neg (fun h => by
            rcases hx with hx | hx
            · exact absurd h.1 (by rw [Int32.not_le]; exact hx)
            · exact absurd h.2 (Int32.not_lt.mpr hx))] at e
          cases e
      obtain ⟨q1, q2⟩ := h.line (b := b) (y := (aB A).2.2.1 b + i) (s := s) (by omega)
      rw [if_neg (show ¬ b2 (some s).isSome = 0 from n10), chk_nI (by omega) (by decide), nI_cl (show b < 2 ^ 31 by omega), hfrom, hcell, Option.bind_some, hs, nI_add, q1, Option.bind_some]
      exact ih (i + 1) n _ _ (by omega) (by omega) q2 (by rw [hcs]; show L.1 + 1 + _ ≤ _; omega)
theorem m_copy (w8 : (aB A).1 ≤ 8) (hn16 : (aW A).1 ≤ 16) (hk : k < 4) (hb : b < (aB A).1) {wh : Nat} (hw : wh ≤ 64) (hwr : ∀ j, j < wh → wrgF (aS A) k ((aB A).2.2.2.2 b) (aW A).1 j = false) (x4 x6 x7 : Int32) : ∀ d i n L τ, i + d = wh → d < n → RM τ (setL A L) → L.1 + cnF (fl (aS A) k ((aB A).2.2.2.2 b) (aW A).1) wh ≤ 40 + cnF (fl (aS A) k ((aB A).2.2.2.2 b) (aW A).1) i → ∃ τ', X11_read_L183 n (nI b) (nI k) x4 (nI wh) x6 x7 (nI i) τ = X11_read_L260 FU (nI b) x4 x6 x7 (nI wh) τ' ∧ RM τ' (setL A (cpL b ((aB A).2.2.1 b) (aZ A).1 (fl (aS A) k ((aB A).2.2.2.2 b) (aW A).1) d i L)) := by
  intro d
  induction d with
  | zero =>
    intro i n L τ hi hn h hc
    obtain ⟨n, rfl⟩ : ∃ q, n = q + 1 := ⟨n - 1, by omega⟩
    have : i = wh := by omega
    subst this
    exact ⟨τ, by rw [X11_read_L183, if_pos (nI_le (Nat.le_refl _) (by omega))], h⟩
  | succ d ih =>
    intro i n L τ hi hn h hc
    obtain ⟨n, rfl⟩ : ∃ q, n = q + 1 := ⟨n - 1, by omega⟩
    have hi64 : i < 64 := by omega
    have h' := h
    obtain ⟨mP, mB, mL, mR, mZ, mS, mT, mWd, mU, mK⟩ := h'
    have hmo := sum_mono (fun j => if (fl (aS A) k ((aB A).2.2.2.2 b) (aW A).1 j).isSome = true then 1 else 0) (wh - (i + 1)) (i + 1)
    rw [show i + 1 + (wh - (i + 1)) = wh by omega] at hmo
    have hmo' : cnF (fl (aS A) k ((aB A).2.2.2.2 b) (aW A).1) (i + 1) ≤ cnF (fl (aS A) k ((aB A).2.2.2.2 b) (aW A).1) wh := hmo
    have hcs := cnF_s (fl (aS A) k ((aB A).2.2.2.2 b) (aW A).1) i
    have hfrom : gI τ 30 b = nI ((aB A).2.2.1 b) := mB.2.2.1 b hb
    have hhl : X11_isHole (nI b) (nI ((aB A).2.2.1 b) + nI i) τ = some (b2 (bq ((aB A).2.2.2.2 b) i)) := m_hl (B := aB A) mB w8 hb hi64
    have hcell : gI τ 47 (64 * k + i) = (aS A).2 k i := (mS k hk).1 i hi64
    have hw' := hwr i (by omega)
    rw [X11_read_L183, if_neg (nI_ge (by omega) (by omega)), chk_nI (show b < 8 by omega) (by decide), nI_cl (show b < 2 ^ 31 by omega), hfrom, hhl, Option.bind_some, ix64, chk_nI (show 64 * k + i < 256 by omega) (by decide), nI_cl (show 64 * k + i < 2 ^ 31 by omega), hcell, nI_1]
    show ∃ τ', _ ∧ RM τ' (setL A (cpL b ((aB A).2.2.1 b) (aZ A).1 (fl (aS A) k ((aB A).2.2.2.2 b) (aW A).1) d (i + 1) (match fl (aS A) k ((aB A).2.2.2.2 b) (aW A).1 i with
      | none => L
      | some s => addL L b ((aB A).2.2.1 b + i) s 0 (aZ A).1)))
    cases eq : bq ((aB A).2.2.2.2 b) i with
    | true =>
      have hfl : fl (aS A) k ((aB A).2.2.2.2 b) (aW A).1 i = none := by unfold fl; rw [eq]; rfl
      rw [hfl] at hcs ⊢
      rw [if_neg (show ¬ b2 true = 0 from n10)]
      exact ih (i + 1) n L τ (by omega) (by omega) h (by rw [hcs]; simpa using hc)
    | false =>
      rw [if_pos (show b2 false = 0 from rfl)]
      by_cases e3 : (aS A).2 k i = -1
      · have hfl : fl (aS A) k ((aB A).2.2.2.2 b) (aW A).1 i = none := by
          unfold fl
          rw [eq, e3, if_neg (by decide), if_neg (fun h => absurd h.1 (by decide))]
        rw [hfl] at hcs ⊢
        rw [if_pos e3]
        exact ih (i + 1) n L τ (by omega) (by omega) h (by rw [hcs]; simpa using hc)
      · cases e : fl (aS A) k ((aB A).2.2.2.2 b) (aW A).1 i with
        | none =>
          unfold wrgF at hw'
          rw [eq, e] at hw'
          simp [e3] at hw'
        | some s =>
          rw [e, if_pos (show (some s).isSome = true from rfl)] at hcs
          have hs : (aS A).2 k i = nI s := by
            rcases ixc ((aS A).2 k i) (aW A).1 (by omega) with ⟨s', hs', hx⟩ | hx
            · unfold fl at e
              rw [eq, hx, if_neg (by decide), if_pos ⟨nI_pos' (by omega), nI_lt hs' (by omega)⟩, nI_cl (by omega)] at e
              rw [hx, Option.some.inj e]
            · unfold fl at e
              rw [eq, if_neg (by decide), if_neg (fun h => by
                rcases hx with hx | hx
                · exact absurd h.1 (by rw [Int32.not_le]; exact hx)
                · exact absurd h.2 (Int32.not_lt.mpr hx))] at e
              cases e
          obtain ⟨q1, q2⟩ := h.line (b := b) (y := (aB A).2.2.1 b + i) (s := s) (by omega)
          rw [if_neg e3, chk_nI (show b < 8 by omega) (by decide), chk_nI (show 64 * k + i < 256 by omega) (by decide), hs, nI_add, q1, Option.bind_some]
          exact ih (i + 1) n _ _ (by omega) (by omega) q2 (by rw [hcs]; show L.1 + 1 + _ ≤ _; omega)
/-- the lines copied are good -/
theorem cpL_ok {ns b f day : Nat} {B : DB} {R : DR} {fl : Nat → Option Nat} (hb : b < B.1) (hf : f = B.2.2.1 b) (hd : day ≤ 999) (hfl : ∀ i s, fl i = some s → s < ns) : ∀ d i L, f + i + d ≤ B.2.2.2.1 b + 1 → WL ns B L → WR ns L R → L.1 + (sumTo (fun j => if (fl j).isSome = true then 1 else 0) (i + d) - sumTo (fun j => if (fl j).isSome = true then 1 else 0) i) ≤ 40 → WL ns B (cpL b f day fl d i L) ∧ WR ns (cpL b f day fl d i L) R
  | 0, i, L, _, h1, h2, _ => ⟨h1, h2⟩
  | d + 1, i, L, hi, h1, h2, hc => by
    have hmo := sum_mono (fun j => if (fl j).isSome = true then 1 else 0) d (i + 1)
    have hst : sumTo (fun j => if (fl j).isSome = true then 1 else 0) (i + 1) = sumTo (fun j => if (fl j).isSome = true then 1 else 0) i + if (fl i).isSome = true then 1 else 0 := rfl
    rw [show i + (d + 1) = i + 1 + d by omega] at hc
    show WL ns B (cpL b f day fl d (i + 1) (match fl i with
      | none => L
      | some s => addL L b (f + i) s 0 day)) ∧ WR ns (cpL b f day fl d (i + 1) (match fl i with
      | none => L
      | some s => addL L b (f + i) s 0 day)) R
    cases e : fl i with
    | none =>
      rw [e, if_neg (by decide)] at hst
      exact cpL_ok hb hf hd hfl d (i + 1) L (by omega) h1 h2 (by omega)
    | some s =>
      rw [e, if_pos (show (some s).isSome = true from rfl)] at hst
      exact cpL_ok hb hf hd hfl d (i + 1) _ (by omega) (h1.add (by omega) hb (by omega) (by omega) (hfl i s e) (by decide) hd) h2.add (by show L.1 + 1 + _ ≤ 40; omega)
end Read2
