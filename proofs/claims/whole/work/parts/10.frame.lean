/-! THE FRAME: a memory of numbers over a fixed set of cells, and the machine's rows over it -/
abbrev St : Type := (Nat → Nat → Int32) × (Nat → Nat → Int64) × (Nat → Nat → Nat)
def gI (σ : St) (q j : Nat) : Int32 := σ.1 q j
def gJ (σ : St) (q j : Nat) : Int64 := σ.2.1 q j
def gR (σ : St) (q j : Nat) : Nat := σ.2.2 q j
def sI (σ : St) (q j : Nat) (v : Int32) : St := (fun q' => if q' = q then upd (σ.1 q) j v else σ.1 q', σ.2)
def sJ (σ : St) (q j : Nat) (v : Int64) : St := (σ.1, fun q' => if q' = q then vp_updL (σ.2.1 q) j v else σ.2.1 q', σ.2.2)
def sR (σ : St) (q j v : Nat) : St := (σ.1, σ.2.1, fun q' => if q' = q then (fun j' => if j' = j then v else σ.2.2 q j') else σ.2.2 q')
/-- a whole row of ints becomes f -/
def sIf (σ : St) (q : Nat) (f : Nat → Int32) : St := (fun q' => if q' = q then f else σ.1 q', σ.2)
abbrev Shp : Type := Nat → (Nat → Int32) → (Nat → Int64) → (Nat → Nat) → va_E
def cellAt (shp : Shp) (σ : St) (q : Nat) : va_E := shp q (σ.1 q) (σ.2.1 q) (σ.2.2 q)
def cells_ (ad : Nat → Nat) (shp : Shp) (n : Nat) (σ : St) : va_W := (List.range n).map fun q => (ad q, cellAt shp σ q)
theorem cells_at {ad : Nat → Nat} {shp : Shp} {n : Nat} {σ : St} {q : Nat} (h : q < n) : (cells_ ad shp n σ)[q]? = some (ad q, cellAt shp σ q) := by
  simp [cells_, h]
theorem cells_of {ad : Nat → Nat} {shp : Shp} {n : Nat} {σ : St} {k : Nat} {x : Nat × va_E} (h : (cells_ ad shp n σ)[k]? = some x) : k < n ∧ x = (ad k, cellAt shp σ k) := by
  by_cases hk : k < n
  · rw [cells_at hk] at h
    exact ⟨hk, (Option.some.inj h).symm⟩
  · exfalso
    have : (cells_ ad shp n σ)[k]? = none := by
      apply List.getElem?_eq_none
      simp [cells_]; omega
    rw [this] at h; cases h
theorem cells_set {ad : Nat → Nat} {shp : Shp} {n : Nat} {σ σ' : St} {q : Nat} {e : va_E} (he : cellAt shp σ' q = e) (ho : ∀ q', q' ≠ q → cellAt shp σ' q' = cellAt shp σ q') : (cells_ ad shp n σ).set q (ad q, e) = cells_ ad shp n σ' := by
  apply List.ext_getElem?
  intro k
  rw [List.getElem?_set]
  by_cases hk : k < n
  · rw [cells_at hk]
    by_cases hq : q = k
    · subst hq
      have hl : q < (cells_ ad shp n σ).length := by simp [cells_]; exact hk
      rw [if_pos rfl, if_pos hl, cells_at hk, he]
    · rw [if_neg hq, cells_at hk, ho k (fun h => hq h.symm)]
  · have h1 : (cells_ ad shp n σ)[k]? = none := by apply List.getElem?_eq_none; simp [cells_]; omega
    have h2 : (cells_ ad shp n σ')[k]? = none := by apply List.getElem?_eq_none; simp [cells_]; omega
    rw [h1, h2]
    by_cases hq : q = k
    · subst hq
      have hl : ¬ q < (cells_ ad shp n σ).length := by simp [cells_]; omega
      simp [hl]
    · rw [if_neg hq]
theorem cellAt_sI {shp : Shp} {σ : St} {q j : Nat} {v : Int32} : ∀ q', q' ≠ q → cellAt shp (sI σ q j v) q' = cellAt shp σ q' := fun q' h => by simp [cellAt, sI, h]
theorem cellAt_sJ {shp : Shp} {σ : St} {q j : Nat} {v : Int64} : ∀ q', q' ≠ q → cellAt shp (sJ σ q j v) q' = cellAt shp σ q' := fun q' h => by simp [cellAt, sJ, h]
theorem cellAt_sR {shp : Shp} {σ : St} {q j v : Nat} : ∀ q', q' ≠ q → cellAt shp (sR σ q j v) q' = cellAt shp σ q' := fun q' h => by simp [cellAt, sR, h]
theorem cellAt_sIf {shp : Shp} {σ : St} {q : Nat} {f : Nat → Int32} : ∀ q', q' ≠ q → cellAt shp (sIf σ q f) q' = cellAt shp σ q' := fun q' h => by simp [cellAt, sIf, h]
/-- what is asked of an index, of a divisor -/
def chk {ρ : Type} (i : Int32) (n : Nat) (k : Option ρ) : Option ρ := if 0 ≤ i ∧ i.toNatClampNeg < n then k else none
def chkN {ρ : Type} (i n : Nat) (k : Option ρ) : Option ρ := if i < n then k else none
def chkz {ρ : Type} (y : Int32) (k : Option ρ) : Option ρ := if y = 0 then none else k
def chkzl {ρ : Type} (y : Int64) (k : Option ρ) : Option ρ := if y = 0 then none else k
theorem chk_some {ρ : Type} {i : Int32} {n : Nat} {k : Option ρ} {r : ρ} (h : chk i n k = some r) : vp_in i n ∧ k = some r := by
  unfold chk at h
  split at h
  · rename_i hc
    refine ⟨?_, h⟩
    rintro (h1 | h1)
    · exact absurd hc.1 (by simpa [Int32.not_le] using h1)
    · omega
  · cases h
theorem chkN_some {ρ : Type} {i n : Nat} {k : Option ρ} {r : ρ} (h : chkN i n k = some r) : i < n ∧ k = some r := by
  unfold chkN at h
  split at h
  · exact ⟨by assumption, h⟩
  · cases h
theorem chkz_some {ρ : Type} {y : Int32} {k : Option ρ} {r : ρ} (h : chkz y k = some r) : ¬ y = 0 ∧ k = some r := by
  unfold chkz at h
  split at h
  · cases h
  · exact ⟨by assumption, h⟩
theorem chkzl_some {ρ : Type} {y : Int64} {k : Option ρ} {r : ρ} (h : chkzl y k = some r) : ¬ y = 0 ∧ k = some r := by
  unfold chkzl at h
  split at h
  · cases h
  · exact ⟨by assumption, h⟩
