/-! read: a book from a sheet -/
def flt (S : DS) (k ln i : Nat) : Nat := match S.1 k with
  | none => 1
  | some (l, n) => if ln = l then (if i < n then 0 else 2) else 3
theorem flt_le (S : DS) (k ln i : Nat) : flt S k ln i ≤ 3 := by
  unfold flt
  split
  · decide
  · split
    · split <;> decide
    · decide
/-- the spelling told at a place of the sheet, where the book has no hole -/
def fl (S : DS) (k : Nat) (h : Int64) (ns i : Nat) : Option Nat := if bq h i = true then none else if 0 ≤ S.2 k i ∧ S.2 k i < nI ns then some (S.2 k i).toNatClampNeg else none
def badF (S : DS) (k ln : Nat) (h : Int64) (i : Nat) : Bool := !bq h i && decide (flt S k ln i ≠ 0)
def wrgF (S : DS) (k : Nat) (h : Int64) (ns i : Nat) : Bool := !bq h i && (decide (S.2 k i ≠ -1) && (fl S k h ns i).isNone)
def whF (bad : Nat → Bool) : Nat → Nat → Nat
  | 0, i => i
  | d + 1, i => if bad i = true then i else whF bad d (i + 1)
theorem whF_spec (bad : Nat → Bool) : ∀ d i, i ≤ whF bad d i ∧ whF bad d i ≤ i + d ∧ (∀ j, i ≤ j → j < whF bad d i → bad j = false) ∧ (whF bad d i < i + d → bad (whF bad d i) = true)
  | 0, i => ⟨Nat.le_refl _, Nat.le_refl _, fun j h1 h2 => by have : j < i := h2; omega, fun h => by have : i < i + 0 := h; omega⟩
  | d + 1, i => by
    by_cases e : bad i = true
    · have : whF bad (d + 1) i = i := by show (if bad i = true then i else _) = i; rw [if_pos e]
      rw [this]
      exact ⟨Nat.le_refl _, by omega, fun j h1 h2 => by omega, fun _ => e⟩
    · have hw : whF bad (d + 1) i = whF bad d (i + 1) := by show (if bad i = true then i else _) = _; rw [if_neg e]
      obtain ⟨a1, a2, a3, a4⟩ := whF_spec bad d (i + 1)
      rw [hw]
      refine ⟨by omega, by omega, fun j h1 h2 => ?_, fun h => a4 (by omega)⟩
      by_cases ej : j = i
      · subst ej; simpa using e
      · exact a3 j (by omega) h2
def fsF (p : Nat → Bool) : Nat → Nat → Option Nat
  | 0, _ => none
  | d + 1, i => if p i = true then some i else fsF p d (i + 1)
theorem sum_mono (g : Nat → Nat) : ∀ d i, sumTo g i ≤ sumTo g (i + d)
  | 0, i => Nat.le_refl _
  | d + 1, i => by
    have := sum_mono g d i
    show sumTo g i ≤ sumTo g (i + d) + g (i + d)
    omega
section Read
variable {σ τ : St} {S : DS} {B : DB} {k ln i b ns np : Nat}
theorem c_faultAt (hS : CS σ S) (wS : WS S) (hk : k < 4) (hl : ln < 2 ^ 31) (hi : i < 2 ^ 31) : X6_faultAt k (nI ln) (nI i) σ = some (nI (flt S k ln i)) := by
  obtain ⟨-, h2, h3⟩ := hS k hk
  unfold X6_faultAt flt
  cases e : S.1 k with
  | none => rw [if_pos (h2 e)]; rfl
  | some z =>
    obtain ⟨l, n⟩ := z
    obtain ⟨a1, a2⟩ := h3 l n e
    obtain ⟨b1, b2'⟩ := wS k l n e
    rw [a1, a2, if_neg (by rw [neI4 (by omega)]; exact id), if_neg (nI_pos hi)]
    simp only [eqI hl (show l < 2 ^ 31 by omega), ltI hi (show n < 2 ^ 31 by omega)]
    by_cases e1 : ln = l
    · rw [if_pos e1, if_pos e1]
      by_cases e2 : i < n
      · rw [if_pos e2, if_pos e2]; rfl
      · rw [if_neg e2, if_neg e2]; rfl
    · rw [if_neg e1, if_neg e1]; rfl
theorem m_faultAt (hS : MS τ S) (wS : WS S) (hk : k < 4) (hl : ln < 2 ^ 31) (hi : i < 2 ^ 31) : X11_faultAt (nI k) (nI ln) (nI i) τ = some (nI (flt S k ln i)) := by
  obtain ⟨-, h2, h3⟩ := hS k hk
  unfold X11_faultAt flt
  rw [chk_nI (by omega) (by decide), chk_nI (by omega) (by decide), chk_nI (by omega) (by decide), nI_cl (by omega)]
  cases e : S.1 k with
  | none => rw [if_pos (h2 e)]; rfl
  | some z =>
    obtain ⟨l, n⟩ := z
    obtain ⟨a1, a2⟩ := h3 l n e
    obtain ⟨b1, b2'⟩ := wS k l n e
    rw [a1, a2, if_neg (by rw [neI4 (by omega)]; exact id)]
    simp only [eqI (show l < 2 ^ 31 by omega) hl, ltI hi (show n < 2 ^ 31 by omega)]
    by_cases e1 : ln = l
    · rw [if_pos e1.symm, if_pos e1]
      by_cases e2 : i < n
      · rw [if_pos e2, if_pos e2]; rfl
      · rw [if_neg e2, if_neg e2]; rfl
    · rw [if_neg (fun h => e1 h.symm), if_neg e1]; rfl
/-- no fault: the cell can be read -/
theorem flt_0 (wS : WS S) (h : flt S k ln i = 0) : ∃ l n, S.1 k = some (l, n) ∧ i < n ∧ n ≤ 64 := by
  unfold flt at h
  cases e : S.1 k with
  | none => rw [e] at h; cases h
  | some z =>
    obtain ⟨l, n⟩ := z
    rw [e] at h
    obtain ⟨b1, b2'⟩ := wS k l n e
    refine ⟨l, n, rfl, ?_, b2'⟩
    by_cases e1 : ln = l
    · by_cases e2 : i < n
      · exact e2
      · simp [e1, e2] at h
    · simp [e1] at h
theorem c_cellAt (hS : CS σ S) (wS : WS S) (hk : k < 4) (h : flt S k ln i = 0) : X6_cellAt k (nI i) σ = some (S.2 k i) := by
  obtain ⟨l, n, e, hi, hn⟩ := flt_0 wS h
  obtain ⟨h1, h2, h3⟩ := hS k hk
  unfold X6_cellAt
  rw [(h3 l n e).2, if_neg (nI_pos (by omega)), if_neg (nI_ge hi (by omega)), chk_nI (by omega) (by decide), nI_cl (by omega), h1 i (by omega)]
theorem c_hl (hB : CB σ B) (w : B.1 ≤ 8) (hb : b < B.1) (hi : i < 64) : X0_isHole (nI b) (nI (B.2.2.1 b) + nI i) σ = some (b2 (bq (B.2.2.2.2 b) i)) := by
  rw [c_isHole hB w hb, nI_add, subI (by omega), show B.2.2.1 b + i - B.2.2.1 b = i by omega, isH_bq _ hi]
theorem m_hl (hB : MB τ B) (w : B.1 ≤ 8) (hb : b < B.1) (hi : i < 64) : X11_isHole (nI b) (nI (B.2.2.1 b) + nI i) τ = some (b2 (bq (B.2.2.2.2 b) i)) := by
  rw [m_isHole hB w hb, nI_add, subI (by omega), show B.2.2.1 b + i - B.2.2.1 b = i by omega, isH_bq _ hi]
theorem c_whole (hB : CB σ B) (wb : WB np B) (hS : CS σ S) (wS : WS S) (hk : k < 4) (hl : ln < 2 ^ 31) (hb : b < B.1) {Y : Nat} (hY : Y ≤ 64) : ∀ d i n, i + d = Y → d < n → X10_wholeYears_L13 k σ n (nI b) (nI ln) (nI Y) (nI i) = some (nI (whF (badF S k ln (B.2.2.2.2 b)) d i)) := by
  have h8 := wb.1
  intro d
  induction d with
  | zero =>
    intro i n hi hn
    obtain ⟨n, rfl⟩ : ∃ q, n = q + 1 := ⟨n - 1, by omega⟩
    have : i = Y := by omega
    subst this
    rw [X10_wholeYears_L13, if_pos (nI_le (Nat.le_refl _) (by omega))]
    rfl
  | succ d ih =>
    intro i n hi hn
    obtain ⟨n, rfl⟩ : ∃ q, n = q + 1 := ⟨n - 1, by omega⟩
    have ih' := ih (i + 1) n (by omega) (by omega)
    have hf := flt_le S k ln i
    rw [X10_wholeYears_L13, if_neg (nI_ge (by omega) (by omega)), chk_nI (by omega) (by decide), nI_cl (show b < 2 ^ 31 by omega), hB.2.2.1 b hb, c_hl hB h8 hb (by omega), Option.bind_some, c_faultAt hS wS hk hl (by omega), Option.bind_some, nI_1]
    show _ = some (nI (if badF S k ln (B.2.2.2.2 b) i = true then i else whF (badF S k ln (B.2.2.2.2 b)) d (i + 1)))
    unfold badF
    cases e : bq (B.2.2.2.2 b) i with
    | true =>
      rw [if_neg (show ¬ b2 true = 0 from n10), ih']
      rfl
    | false =>
      rw [if_pos (show b2 false = 0 from rfl)]
      by_cases e2 : flt S k ln i = 0
      · rw [e2, if_pos (show nI 0 = 0 from rfl), ih', if_neg (by simp)]
        rfl
      · rw [if_neg (show ¬ nI (flt S k ln i) = (0 : Int32) from fun h => e2 ((nI_eq (b := 0) (by omega) (by decide)).mp h)), if_pos (by simp [e2])]
theorem c_wrong (hB : CB σ B) (wb : WB np B) (hS : CS σ S) (wS : WS S) (hn16 : ns ≤ 16) (hns : gI σ 18 1 = nI ns) (hk : k < 4) (hb : b < B.1) {wh : Nat} (hw : wh ≤ 64) (hok : ∀ j, j < wh → badF S k ln (B.2.2.2.2 b) j = false) : ∀ d i n, i + d = wh → d < n → X10_wrongCell_L3 k σ n (nI b) (nI wh) (nI i) = some (oI (fsF (wrgF S k (B.2.2.2.2 b) ns) d i)) := by
  have h8 := wb.1
  intro d
  induction d with
  | zero =>
    intro i n hi hn
    obtain ⟨n, rfl⟩ : ∃ q, n = q + 1 := ⟨n - 1, by omega⟩
    have : i = wh := by omega
    subst this
    rw [X10_wrongCell_L3, if_pos (nI_le (Nat.le_refl _) (by omega))]
    rfl
  | succ d ih =>
    intro i n hi hn
    obtain ⟨n, rfl⟩ : ∃ q, n = q + 1 := ⟨n - 1, by omega⟩
    have ih' := ih (i + 1) n (by omega) (by omega)
    have ho := hok i (by omega)
    rw [X10_wrongCell_L3, if_neg (nI_ge (by omega) (by omega)), chk_nI (by omega) (by decide), nI_cl (show b < 2 ^ 31 by omega), hB.2.2.1 b hb, c_hl hB h8 hb (by omega), Option.bind_some]
    show _ = some (oI (if wrgF S k (B.2.2.2.2 b) ns i = true then some i else fsF (wrgF S k (B.2.2.2.2 b) ns) d (i + 1)))
    unfold badF at ho
    unfold X10_wrongCell_B37
    rw [nI_1]
    cases e : bq (B.2.2.2.2 b) i with
    | true =>
      rw [if_neg (show ¬ b2 true = 0 from n10), if_pos rfl, ih', if_neg (by unfold wrgF; rw [e]; simp)]
    | false =>
      rw [e] at ho
      have e2 : flt S k ln i = 0 := by simpa using ho
      rw [if_pos (show b2 false = 0 from rfl), if_neg n10, c_cellAt hS wS hk e2, Option.bind_some, Option.bind_some]
      by_cases e3 : S.2 k i = -1
      · rw [if_pos e3, ih', if_neg (by unfold wrgF; rw [e3]; simp)]
      · rw [if_neg e3]
        rcases ixc (S.2 k i) ns (by omega) with ⟨s, hs, hx⟩ | hx
        · have hfl : fl S k (B.2.2.2.2 b) ns i = some s := by
            unfold fl
            rw [e, hx, if_neg (by decide), if_pos ⟨nI_pos' (by omega), nI_lt hs (by omega)⟩, nI_cl (by omega)]
          rw [hx, c_word_in hns hn16 hs, Option.bind_some, if_neg n10, ih', if_neg (by unfold wrgF; rw [hfl]; simp)]
        · have hfl : fl S k (B.2.2.2.2 b) ns i = none := by
            unfold fl
            rw [e, if_neg (by decide), if_neg (fun h => by
              rcases hx with hx | hx
              · exact absurd h.1 (by rw [Int32.not_le]; exact hx)
              · exact absurd h.2 (Int32.not_lt.mpr hx))]
          rw [c_word_out hns hx, Option.bind_some, if_pos rfl, if_pos (by unfold wrgF; rw [hfl, e]; simp [e3])]
          rfl
/-- filled or not -/
theorem c_filled (hB : CB σ B) (w8 : B.1 ≤ 8) (hS : CS σ S) (wS : WS S) (hn16 : ns ≤ 16) (hns : gI σ 18 1 = nI ns) (hk : k < 4) (hb : b < B.1) (hi : i < 64) (ho : badF S k ln (B.2.2.2.2 b) i = false) : X10_isFilled (nI b) k (nI i) σ = some (b2 (fl S k (B.2.2.2.2 b) ns i).isSome) := by
  unfold X10_isFilled
  rw [chk_nI (by omega) (by decide), nI_cl (show b < 2 ^ 31 by omega), hB.2.2.1 b hb, c_hl hB w8 hb hi, Option.bind_some]
  unfold badF at ho
  cases e : bq (B.2.2.2.2 b) i with
  | true =>
    rw [if_neg (show ¬ b2 true = 0 from n10)]
    unfold fl
    rw [e]
    rfl
  | false =>
    rw [e] at ho
    have e2 : flt S k ln i = 0 := by simpa using ho
    rw [if_pos (show b2 false = 0 from rfl), c_cellAt hS wS hk e2, Option.bind_some]
    unfold fl
    rw [e, if_neg (by decide)]
    rcases ixc (S.2 k i) ns (by omega) with ⟨s, hs, hx⟩ | hx
    · rw [hx, c_word_in hns hn16 hs, Option.bind_some, if_neg n10, if_pos ⟨nI_pos' (by omega), nI_lt hs (by omega)⟩]
      rfl
    · rw [c_word_out hns hx, Option.bind_some, if_pos rfl, if_neg (fun h => by
        rcases hx with hx | hx
        · exact absurd h.1 (by rw [Int32.not_le]; exact hx)
        · exact absurd h.2 (Int32.not_lt.mpr hx))]
      rfl
def cnF (f : Nat → Option Nat) (i : Nat) : Nat := sumTo (fun j => if (f j).isSome = true then 1 else 0) i
theorem cnF_s (f : Nat → Option Nat) (i : Nat) : cnF f (i + 1) = cnF f i + if (f i).isSome = true then 1 else 0 := rfl
theorem cnF_le (f : Nat → Option Nat) (i : Nat) : cnF f i ≤ i := by
  have := sum_le (g := fun j => if (f j).isSome = true then 1 else 0) (b := 1) i (fun k _ => by split <;> omega)
  unfold cnF
  omega
theorem c_count (hB : CB σ B) (w8 : B.1 ≤ 8) (hS : CS σ S) (wS : WS S) (hn16 : ns ≤ 16) (hns : gI σ 18 1 = nI ns) (hk : k < 4) (hb : b < B.1) {wh : Nat} (hw : wh ≤ 64) (hok : ∀ j, j < wh → badF S k ln (B.2.2.2.2 b) j = false) : X10_filledYears (nI b) k (nI wh) σ = some (nI (cnF (fl S k (B.2.2.2.2 b) ns) wh)) := by
  have key := loop0 (fun n i (o : Nat) => X10_filledYears_L6 k σ n (nI b) (nI wh) (nI o) (nI i)) wh (fun i => cnF (fl S k (B.2.2.2.2 b) ns) i) (some (nI (cnF (fl S k (B.2.2.2.2 b) ns) wh))) (by omega) (fun n i hi => ?_) (fun n => ?_)
  · exact key
  · show X10_filledYears_L6 k σ (n + 1) (nI b) (nI wh) (nI (cnF (fl S k (B.2.2.2.2 b) ns) i)) (nI i) = X10_filledYears_L6 k σ n (nI b) (nI wh) (nI (cnF (fl S k (B.2.2.2.2 b) ns) (i + 1))) (nI (i + 1))
    rw [X10_filledYears_L6, if_neg (nI_ge hi (by omega)), c_filled hB w8 hS wS hn16 hns hk hb (by omega) (hok i hi), Option.bind_some, nI_1, nI_1, cnF_s]
    cases (fl S k (B.2.2.2.2 b) ns i).isSome with
    | true => rw [if_neg (show ¬ b2 true = 0 from n10), if_pos rfl]
    | false =>
      rw [if_pos (show b2 false = 0 from rfl), if_neg (by decide)]
      rfl
  · show X10_filledYears_L6 k σ (n + 1) (nI b) (nI wh) (nI (cnF (fl S k (B.2.2.2.2 b) ns) wh)) (nI wh) = _
    rw [X10_filledYears_L6, if_pos (nI_le (Nat.le_refl _) (by omega))]
/-- the reference's first pass -/
theorem m_L64 (hB : MB τ B) (wb : WB np B) (hS : MS τ S) (wS : WS S) (hn16 : ns ≤ 16) (hns : gI τ 0 0 = nI ns) (hk : k < 4) (hl : ln < 2 ^ 31) (hb : b < B.1) {Y : Nat} (hY : Y ≤ 64) : ∀ d i n, i + d = Y → d + 1 < n → X11_read_L64 n (nI b) (nI k) (nI ln) (nI Y) (nI Y) 0 (nI (cnF (fl S k (B.2.2.2.2 b) ns) i)) (nI i) τ = match fsF (wrgF S k (B.2.2.2.2 b) ns) (whF (badF S k ln (B.2.2.2.2 b)) d i - i) i with
    | some j => some ((-20) - nI j, τ)
    | none => X11_read_B165 (nI b) (nI k) (nI Y) (nI (whF (badF S k ln (B.2.2.2.2 b)) d i)) (nI (if whF (badF S k ln (B.2.2.2.2 b)) d i < Y then flt S k ln (whF (badF S k ln (B.2.2.2.2 b)) d i) else 0)) (nI (cnF (fl S k (B.2.2.2.2 b) ns) (whF (badF S k ln (B.2.2.2.2 b)) d i))) τ := by
  have h8 := wb.1
  intro d
  induction d with
  | zero =>
    intro i n hi hn
    obtain ⟨n, rfl⟩ : ∃ q, n = q + 1 := ⟨n - 1, by omega⟩
    have : i = Y := by omega
    subst this
    rw [X11_read_L64, if_pos (nI_le (Nat.le_refl _) (by omega))]
    show _ = match fsF (wrgF S k (B.2.2.2.2 b) ns) (i - i) i with
      | some j => _
      | none => _
    rw [Nat.sub_self]
    show _ = X11_read_B165 (nI b) (nI k) (nI i) (nI i) (nI (if i < i then flt S k ln i else 0)) (nI (cnF (fl S k (B.2.2.2.2 b) ns) i)) τ
    rw [if_neg (by omega)]
    rfl
  | succ d ih =>
    intro i n hi hn
    obtain ⟨n, rfl⟩ : ∃ q, n = q + 1 := ⟨n - 1, by omega⟩
    have ih' := ih (i + 1) n (by omega) (by omega)
    have hf := flt_le S k ln i
    obtain ⟨v1, v2, -, -⟩ := whF_spec (badF S k ln (B.2.2.2.2 b)) d (i + 1)
    rw [X11_read_L64, if_neg (nI_ge (by omega) (by omega)), if_pos rfl, chk_nI (by omega) (by decide), nI_cl (show b < 2 ^ 31 by omega), hB.2.2.1 b hb, m_hl hB h8 hb (by omega), Option.bind_some, m_faultAt hS wS hk hl (by omega), Option.bind_some, nI_1, ix64, chk_nI (by omega) (by decide), chk_nI (by omega) (by decide), nI_cl (show 64 * k + i < 2 ^ 31 by omega), (hS k hk).1 i (by omega)]
    have skip : badF S k ln (B.2.2.2.2 b) i = false → wrgF S k (B.2.2.2.2 b) ns i = false → whF (badF S k ln (B.2.2.2.2 b)) (d + 1) i = whF (badF S k ln (B.2.2.2.2 b)) d (i + 1) ∧ fsF (wrgF S k (B.2.2.2.2 b) ns) (whF (badF S k ln (B.2.2.2.2 b)) (d + 1) i - i) i = fsF (wrgF S k (B.2.2.2.2 b) ns) (whF (badF S k ln (B.2.2.2.2 b)) d (i + 1) - (i + 1)) (i + 1) := fun q1 q2 => by
      have e0 : whF (badF S k ln (B.2.2.2.2 b)) (d + 1) i = whF (badF S k ln (B.2.2.2.2 b)) d (i + 1) := by
        show (if badF S k ln (B.2.2.2.2 b) i = true then i else _) = _
        rw [q1, if_neg (by decide)]
      refine ⟨e0, ?_⟩
      rw [e0, show whF (badF S k ln (B.2.2.2.2 b)) d (i + 1) - i = (whF (badF S k ln (B.2.2.2.2 b)) d (i + 1) - (i + 1)) + 1 by omega]
      show (if wrgF S k (B.2.2.2.2 b) ns i = true then some i else _) = _
      rw [q2, if_neg (by decide)]
    cases e : bq (B.2.2.2.2 b) i with
    | true =>
      obtain ⟨s1, s2⟩ := skip (by unfold badF; rw [e]; rfl) (by unfold wrgF; rw [e]; rfl)
      have hfl : (fl S k (B.2.2.2.2 b) ns i).isSome = false := by unfold fl; rw [e]; rfl
      rw [if_neg (show ¬ b2 true = 0 from n10), s2, s1]
      rw [cnF_s, hfl, if_neg (by decide), Nat.add_zero] at ih'
      exact ih'
    | false =>
      rw [if_pos (show b2 false = 0 from rfl)]
      by_cases e2 : flt S k ln i = 0
      · have hbad : badF S k ln (B.2.2.2.2 b) i = false := by unfold badF; rw [e2]; simp
        rw [e2, if_pos (by decide)]
        by_cases e3 : S.2 k i = -1
        · obtain ⟨s1, s2⟩ := skip hbad (by unfold wrgF; rw [e3]; simp)
          have hfl : (fl S k (B.2.2.2.2 b) ns i).isSome = false := by
            unfold fl
            rw [e, e3, if_neg (by decide), if_neg (fun h => absurd h.1 (by decide))]
            rfl
          rw [if_pos e3, s2, s1]
          rw [cnF_s, hfl, if_neg (by decide), Nat.add_zero] at ih'
          exact ih'
        · rw [if_neg e3]
          rcases ixc (S.2 k i) ns (by omega) with ⟨s, hs, hx⟩ | hx
          · have hfl : fl S k (B.2.2.2.2 b) ns i = some s := by
              unfold fl
              rw [e, hx, if_neg (by decide), if_pos ⟨nI_pos' (by omega), nI_lt hs (by omega)⟩, nI_cl (by omega)]
            obtain ⟨s1, s2⟩ := skip hbad (by unfold wrgF; rw [hfl]; simp)
            rw [hx, m_word_in hns hn16 hs, Option.bind_some, if_neg n10, s2, s1, nI_1]
            rw [cnF_s, hfl, if_pos (show (some s).isSome = true from rfl)] at ih'
            exact ih'
          · have hfl : fl S k (B.2.2.2.2 b) ns i = none := by
              unfold fl
              rw [e, if_neg (by decide), if_neg (fun h => by
                rcases hx with hx | hx
                · exact absurd h.1 (by rw [Int32.not_le]; exact hx)
                · exact absurd h.2 (Int32.not_lt.mpr hx))]
            have hwr : wrgF S k (B.2.2.2.2 b) ns i = true := by unfold wrgF; rw [hfl, e]; simp [e3]
            have e0 : whF (badF S k ln (B.2.2.2.2 b)) (d + 1) i = whF (badF S k ln (B.2.2.2.2 b)) d (i + 1) := by
              show (if badF S k ln (B.2.2.2.2 b) i = true then i else _) = _
              rw [hbad, if_neg (by decide)]
            have e5 : fsF (wrgF S k (B.2.2.2.2 b) ns) (whF (badF S k ln (B.2.2.2.2 b)) (d + 1) i - i) i = some i := by
              rw [e0, show whF (badF S k ln (B.2.2.2.2 b)) d (i + 1) - i = (whF (badF S k ln (B.2.2.2.2 b)) d (i + 1) - (i + 1)) + 1 by omega]
              show (if wrgF S k (B.2.2.2.2 b) ns i = true then some i else _) = _
              rw [hwr, if_pos rfl]
            rw [m_word_out hns hn16 hx, Option.bind_some, if_pos rfl, e5]
      · have hbad : badF S k ln (B.2.2.2.2 b) i = true := by unfold badF; rw [e]; simp [e2]
        have e0 : whF (badF S k ln (B.2.2.2.2 b)) (d + 1) i = i := by
          show (if badF S k ln (B.2.2.2.2 b) i = true then i else _) = _
          rw [hbad, if_pos rfl]
        have h0 : ¬ nI (flt S k ln i) = 0 := fun h => e2 ((nI_eq (b := 0) (by omega) (by decide)).mp h)
        rw [if_neg (show ¬ nI (flt S k ln i) ≤ 0 by rw [show (0 : Int32) = nI 0 from rfl, leI (by omega) (by decide)]; omega), e0, Nat.sub_self]
        show _ = X11_read_B165 (nI b) (nI k) (nI Y) (nI i) (nI (if i < Y then flt S k ln i else 0)) (nI (cnF (fl S k (B.2.2.2.2 b) ns) i)) τ
        rw [if_pos (by omega)]
        obtain ⟨n, rfl⟩ : ∃ q, n = q + 1 := ⟨n - 1, by omega⟩
        rw [X11_read_L64, if_neg h0]
        by_cases hx : nI Y ≤ nI (i + 1)
        · rw [if_pos hx]
        · rw [if_neg hx]
end Read
