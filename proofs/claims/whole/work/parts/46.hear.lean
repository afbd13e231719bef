/-! sounds are written down: class and reference -/
theorem sndF_fuel {U : DU} (wU : WU U) : ∀ n m l, l.length ≤ n → l.length ≤ m → sndF U n l = sndF U m l := by
  intro n
  induction n with
  | zero =>
    intro m l h1 h2
    have : l = [] := List.length_eq_zero_iff.mp (by omega)
    subst this
    cases m <;> rfl
  | succ n ih =>
    intro m l h1 h2
    cases l with
    | nil => cases m <;> rfl
    | cons x t =>
      obtain ⟨m, rfl⟩ : ∃ q, m = q + 1 := ⟨m - 1, by simp at h2; omega⟩
      simp only [List.length_cons] at h1 h2
      unfold sndF
      cases h : chg U (x :: t) with
      | none => simp only [ih m t (by omega) (by omega)]
      | some c =>
        have hc := (wU.2.1 c (chg_spec h).1).1
        have : ((x :: t).drop (uF U c).length).length ≤ t.length := by simp; omega
        simp only [ih m _ (Nat.le_trans this (by omega)) (Nat.le_trans this (by omega))]
theorem snd_nil {U : DU} : snd U [] = [] := rfl
theorem snd_cons {U : DU} (wU : WU U) (x : Nat) (t : List Nat) : snd U (x :: t) = match chg U (x :: t) with
    | none => x :: snd U t
    | some c => uI U c ++ snd U ((x :: t).drop (uF U c).length) := by
  show sndF U (t.length + 1) (x :: t) = _
  unfold sndF
  cases h : chg U (x :: t) with
  | none => rfl
  | some c =>
    have hc := (wU.2.1 c (chg_spec h).1).1
    have : ((x :: t).drop (uF U c).length).length ≤ t.length := by simp; omega
    simp only [snd]
    rw [sndF_fuel wU t.length ((x :: t).drop (uF U c).length).length _ this (Nat.le_refl _)]
theorem snd_at {U : DU} (wU : WU U) {w : List Nat} {i : Nat} (hi : i < w.length) : snd U (w.drop i) = match chg U (w.drop i) with
    | none => w.getD i 0 :: snd U (w.drop (i + 1))
    | some c => uI U c ++ snd U (w.drop (i + (uF U c).length)) := by
  have e : w.drop i = w.getD i 0 :: w.drop (i + 1) := by
    rw [List.getD_eq_getElem?_getD, List.getElem?_eq_getElem hi]
    simp
  have e2 := snd_cons wU (w.getD i 0) (w.drop (i + 1))
  rw [← e] at e2
  rw [e2]
  cases chg U (w.drop i) with
  | none => rfl
  | some c => simp only [List.drop_drop]
theorem chg_len {U : DU} (wU : WU U) {w : List Nat} {i d : Nat} (h : chg U (w.drop i) = some d) : i + (uF U d).length ≤ w.length := by
  obtain ⟨h1, h2⟩ := chg_spec h
  have := congrArg List.length h2
  have h3 := (wU.2.1 d h1).1
  simp at this
  omega
theorem snd_len {U : DU} (wU : WU U) : ∀ n l, l.length ≤ n → (snd U l).length ≤ 2 * l.length := by
  intro n
  induction n with
  | zero =>
    intro l h
    have : l = [] := List.length_eq_zero_iff.mp (by omega)
    subst this
    simp [snd, sndF]
  | succ n ih =>
    intro l h
    cases l with
    | nil => simp [snd, sndF]
    | cons x t =>
      simp only [List.length_cons] at h ⊢
      rw [snd_cons wU]
      cases hc : chg U (x :: t) with
      | none =>
        have := ih t (by omega)
        simp only [List.length_cons]
        omega
      | some c =>
        obtain ⟨g1, g2, g3, g4, g5⟩ := wU.2.1 c (chg_spec hc).1
        have := ih ((x :: t).drop (uF U c).length) (by simp; omega)
        simp only [List.length_append]
        simp at this
        omega
theorem snd_ltr {U : DU} (wU : WU U) : ∀ n l, l.length ≤ n → LTR l → LTR (snd U l) := by
  intro n
  induction n with
  | zero =>
    intro l h _
    have : l = [] := List.length_eq_zero_iff.mp (by omega)
    subst this
    intro x hx
    simp [snd, sndF] at hx
  | succ n ih =>
    intro l h hl
    cases l with
    | nil => intro x hx; simp [snd, sndF] at hx
    | cons x t =>
      simp only [List.length_cons] at h
      rw [snd_cons wU]
      cases hc : chg U (x :: t) with
      | none =>
        intro y hy
        rcases List.mem_cons.mp hy with e | hy
        · subst e; exact hl _ List.mem_cons_self
        · exact ih t (by omega) (fun z hz => hl z (List.mem_cons_of_mem _ hz)) y hy
      | some c =>
        obtain ⟨g1, g2, g3, g4, g5⟩ := wU.2.1 c (chg_spec hc).1
        intro y hy
        rcases List.mem_append.mp hy with hy | hy
        · exact g5 y hy
        · exact ih _ (by simp; omega) (hl.drop _) y hy
def row (f : Nat → Int32) (b : Nat) (l : List Nat) : Nat → Int32 := fun j => if b ≤ j ∧ j < b + l.length then nI (l.getD (j - b) 0) else f j
theorem row_in {f : Nat → Int32} {b i : Nat} {l : List Nat} (h : i < l.length) : row f b l (b + i) = nI (l.getD i 0) := by
  unfold row
  rw [if_pos ⟨by omega, by omega⟩, Nat.add_sub_cancel_left]
theorem row_out {f : Nat → Int32} {b j : Nat} {l : List Nat} (h : j < b ∨ b + l.length ≤ j) : row f b l j = f j := by
  unfold row
  rw [if_neg (by omega)]
theorem upd_row (f : Nat → Int32) (b : Nat) (l : List Nat) (x : Nat) : upd (row f b l) (b + l.length) (nI x) = row f b (l ++ [x]) := by
  funext j
  unfold upd row
  simp only [List.length_append, List.length_singleton]
  by_cases h : j = b + l.length
  · subst h
    rw [if_pos rfl, if_pos ⟨by omega, by omega⟩]
    simp [List.getD_eq_getElem?_getD]
  · rw [if_neg h]
    by_cases h2 : b ≤ j ∧ j < b + l.length
    · rw [if_pos h2, if_pos ⟨h2.1, by omega⟩, List.getD_eq_getElem?_getD, List.getD_eq_getElem?_getD, List.getElem?_append_left (by omega)]
    · rw [if_neg h2, if_neg (by omega)]
theorem row_nil (f : Nat → Int32) (b : Nat) : row f b [] = f := by
  funext j
  unfold row
  rw [if_neg (by simp)]
theorem sI_sIf (σ : St) (q j : Nat) (v : Int32) (f : Nat → Int32) : sI (sIf σ q f) q j v = sIf σ q (upd f j v) := by
  unfold sI sIf
  congr 1
  funext q'
  by_cases h : q' = q <;> simp [h]
theorem sIf_self (σ : St) (q : Nat) : sIf σ q (gI σ q) = σ := by
  unfold sIf gI
  congr 1
  funext q'
  by_cases h : q' = q <;> simp [h]
theorem gI_sIf (σ : St) (q : Nat) (f : Nat → Int32) : gI (sIf σ q f) q = f := by
  funext a; simp [gI, sIf]
theorem sI_as (σ : St) (q j : Nat) (v : Int32) : sI σ q j v = sIf σ q (upd (gI σ q) j v) := by
  unfold sI sIf gI
  congr 1
theorem sIf_sIf (σ : St) (q : Nat) (f g : Nat → Int32) : sIf (sIf σ q f) q g = sIf σ q g := by
  unfold sIf
  congr 1
  funext q'
  by_cases h : q' = q <;> simp [h]
theorem sIf_comm (σ : St) {q q' : Nat} (h : q ≠ q') (f g : Nat → Int32) : sIf (sIf σ q f) q' g = sIf (sIf σ q' g) q f := by
  unfold sIf
  congr 1
  funext p
  by_cases h1 : p = q
  · subst h1; simp [h]
  · by_cases h2 : p = q'
    · subst h2; simp [h1]
    · simp [h1, h2]
