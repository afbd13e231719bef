/-! the reference lays sounds, distances and names -/
section MNames
variable {τ : St} {J : Nat → Nat → Bool} {n : Nat}
/-- what the labels keep -/
def lab (J : Nat → Nat → Bool) (n : Nat) (g : Nat → Nat) : Prop := ∀ s, s < n → g s ≤ s ∧ Con_n J n s (g s)
def sumTo (g : Nat → Nat) : Nat → Nat
  | 0 => 0
  | n + 1 => sumTo g n + g n
theorem sum_ext {g g' : Nat → Nat} : ∀ n, (∀ k, k < n → g k = g' k) → sumTo g n = sumTo g' n
  | 0, _ => rfl
  | n + 1, h => by unfold sumTo; rw [sum_ext n (fun k hk => h k (by omega)), h n (by omega)]
theorem sum_upd {g : Nat → Nat} {k v : Nat} : ∀ n, k < n → v < g k → sumTo (fun j => if j = k then v else g j) n < sumTo g n
  | 0, h, _ => by omega
  | n + 1, h, hv => by
    unfold sumTo
    by_cases e : k = n
    · subst e
      rw [sum_ext (g' := g) k (fun j hj => by simp [Nat.ne_of_lt hj])]
      simp
      omega
    · have := @sum_upd g k v n (by omega) hv
      simp only [fun h : n = k => e h.symm, if_neg (show ¬ n = k from fun h => e h.symm)]
      omega
theorem sum_le {g : Nat → Nat} {b : Nat} : ∀ n, (∀ k, k < n → g k ≤ b) → sumTo g n ≤ n * b
  | 0, _ => by simp [sumTo]
  | n + 1, h => by
    have h1 := sum_le n (fun k hk => h k (by omega))
    have h2 := h n (by omega)
    unfold sumTo
    rw [Nat.add_mul]
    omega
def labM (g : Nat → Nat) (n : Nat) (f : Nat → Int32) : Prop := ∀ s, s < n → f s = nI (g s)
theorem lab.set {g : Nat → Nat} (h : lab J n g) {s t : Nat} (hs : s < n) (ht : t < n) (hj : J s t = true) (hlt : g t < g s) : lab J n (fun j => if j = s then g t else g j) := fun k hk => by
  by_cases e : k = s
  · subst e
    simp only [if_true]
    exact ⟨by have := (h k hk).1; omega, (Con_n.st ht hj).tr (h t ht).2⟩
  · simp only [if_neg e]
    exact h k hk
/-- one label against the others -/
theorem m_labIn (hn : n ≤ 16) (h0 : gI τ 0 0 = nI n) {D : Nat → Nat → Nat} {jm : Nat} (hjm : gI τ 7 2 = nI jm) (hjl : jm < 2 ^ 31) (hD : ∀ s t, s < n → t < n → gI τ 21 (16 * s + t) = nI (D s t) ∧ D s t < 2 ^ 31) (hJ : ∀ s t, J s t = decide (D s t ≤ jm)) {s : Nat} (hs : s < n) (kq : Int32 → Int32 → St → Option St) :
    ∀ d m t g f (c : Bool), t + d = n → d < m → lab J n g → labM g n f → ∃ g' f' c', X11_layNames_L106 kq m (b2 c) (nI s) (nI t) (sIf τ 22 f) = kq (b2 c') (nI (s + 1)) (sIf τ 22 f') ∧ lab J n g' ∧ labM g' n f' ∧ ((c' = c ∧ g' = g ∧ ∀ u, t ≤ u → u < n → J s u = true → g s ≤ g u) ∨ (c' = true ∧ sumTo g' n < sumTo g n)) := by
  intro d
  induction d with
  | zero =>
    intro m t g f c ht hm hl hM
    obtain ⟨m, rfl⟩ : ∃ q, m = q + 1 := ⟨m - 1, by omega⟩
    have : t = n := by omega
    subst this
    exact ⟨g, f, c, by rw [X11_layNames_L106, gI_sIfn (by decide), h0, if_pos (nI_le (Nat.le_refl _) (by omega)), nI_1], hl, hM, Or.inl ⟨rfl, rfl, fun u h1 h2 => by omega⟩⟩
  | succ d ih =>
    intro m t g f c ht hm hl hM
    obtain ⟨m, rfl⟩ : ∃ q, m = q + 1 := ⟨m - 1, by omega⟩
    have htn : t < n := by omega
    have b1 := (hl s hs).1
    have b2' := (hl t htn).1
    obtain ⟨d1, d2⟩ := hD s t hs htn
    have hskip : ∀ (hno : J s t = true → g s ≤ g t), ∃ g' f' c', X11_layNames_L106 kq m (b2 c) (nI s) (nI (t + 1)) (sIf τ 22 f) = kq (b2 c') (nI (s + 1)) (sIf τ 22 f') ∧ lab J n g' ∧ labM g' n f' ∧ ((c' = c ∧ g' = g ∧ ∀ u, t ≤ u → u < n → J s u = true → g s ≤ g u) ∨ (c' = true ∧ sumTo g' n < sumTo g n)) := fun hno => by
      obtain ⟨g', f', c', e1, e2, e3, e4⟩ := ih m (t + 1) g f c (by omega) (by omega) hl hM
      refine ⟨g', f', c', e1, e2, e3, ?_⟩
      rcases e4 with ⟨q1, q2, q3⟩ | q
      · exact Or.inl ⟨q1, q2, fun u hu1 hu2 hju => by
          by_cases eu : u = t
          · subst eu; exact hno hju
          · exact q3 u (by omega) hu2 hju⟩
      · exact Or.inr q
    rw [X11_layNames_L106, gI_sIfn (by decide), h0, if_neg (nI_ge htn (by omega)), chk_nI (by omega) (by decide), chk_nI (by omega) (by decide), gI_sIf, nI_cl (show s < 2 ^ 31 by omega), nI_cl (show t < 2 ^ 31 by omega), hM s hs, hM t htn, nI_1]
    simp only [leI (show g s < 2 ^ 31 by omega) (show g t < 2 ^ 31 by omega)]
    by_cases hle : g s ≤ g t
    · rw [if_pos hle]
      exact hskip (fun _ => hle)
    · rw [if_neg hle, mul16, chk_nI (by omega) (by decide), nI_cl (by omega), gI_sIfn (by decide), gI_sIfn (by decide), hjm, d1]
      simp only [ltI hjl d2]
      by_cases hlt : jm < D s t
      · rw [if_pos hlt]
        exact hskip (fun h => by
          rw [hJ] at h
          have := of_decide_eq_true h
          omega)
      · rw [if_neg hlt, chk_nI (by omega) (by decide), chk_nI (by omega) (by decide), bnd, sI_sIf]
        have hj : J s t = true := by rw [hJ]; exact decide_eq_true (by omega)
        obtain ⟨g', f', c', e1, e2, e3, e4⟩ := ih m (t + 1) (fun j => if j = s then g t else g j) (upd f s (nI (g t))) true (by omega) (by omega) (hl.set hs htn hj (by omega)) (fun k hk => by
          unfold upd
          by_cases e : k = s
          · simp [e]
          · simp only [if_neg e]; exact hM k hk)
        refine ⟨g', f', c', e1, e2, e3, Or.inr ?_⟩
        have hsum := @sum_upd g s (g t) n hs (by omega)
        rcases e4 with ⟨q1, q2, q3⟩ | ⟨q1, q2⟩
        · exact ⟨q1, by rw [q2]; exact hsum⟩
        · exact ⟨q1, by omega⟩
theorem m_labRow (hn : n ≤ 16) (h0 : gI τ 0 0 = nI n) {D : Nat → Nat → Nat} {jm : Nat} (hjm : gI τ 7 2 = nI jm) (hjl : jm < 2 ^ 31) (hD : ∀ s t, s < n → t < n → gI τ 21 (16 * s + t) = nI (D s t) ∧ D s t < 2 ^ 31) (hJ : ∀ s t, J s t = decide (D s t ≤ jm)) (kq : Int32 → St → Option St) :
    ∀ d m s g f (c : Bool), s + d = n → d < m → lab J n g → labM g n f → ∃ g' f' c', X11_layNames_L96 kq m (b2 c) (nI s) (sIf τ 22 f) = kq (b2 c') (sIf τ 22 f') ∧ lab J n g' ∧ labM g' n f' ∧ ((c' = c ∧ g' = g ∧ ∀ s', s ≤ s' → s' < n → ∀ u, u < n → J s' u = true → g s' ≤ g u) ∨ (c' = true ∧ sumTo g' n < sumTo g n)) := by
  intro d
  induction d with
  | zero =>
    intro m s g f c hs hm hl hM
    obtain ⟨m, rfl⟩ : ∃ q, m = q + 1 := ⟨m - 1, by omega⟩
    have : s = n := by omega
    subst this
    exact ⟨g, f, c, by rw [X11_layNames_L96, gI_sIfn (by decide), h0, if_pos (nI_le (Nat.le_refl _) (by omega))], hl, hM, Or.inl ⟨rfl, rfl, fun u h1 h2 => by omega⟩⟩
  | succ d ih =>
    intro m s g f c hs hm hl hM
    obtain ⟨m, rfl⟩ : ∃ q, m = q + 1 := ⟨m - 1, by omega⟩
    have hsn : s < n := by omega
    rw [X11_layNames_L96, gI_sIfn (by decide), h0, if_neg (nI_ge hsn (by omega))]
    obtain ⟨g1, f1, c1, e1, e2, e3, e4⟩ := m_labIn hn h0 hjm hjl hD hJ hsn (X11_layNames_L96 kq m) n FU 0 g f c (by omega) (by show _ < 1000000; omega) hl hM
    obtain ⟨g2, f2, c2, q1, q2, q3, q4⟩ := ih m (s + 1) g1 f1 c1 (by omega) (by omega) e2 e3
    refine ⟨g2, f2, c2, by rw [← q1, ← e1]; rfl, q2, q3, ?_⟩
    rcases e4 with ⟨x1, x2, x3⟩ | ⟨x1, x2⟩
    · subst x1 x2
      rcases q4 with ⟨y1, y2, y3⟩ | y
      · exact Or.inl ⟨y1, y2, fun s' hs1 hs2 u hu hju => by
          by_cases es : s' = s
          · subst es; exact x3 u (by omega) hu hju
          · exact y3 s' (by omega) hs2 u hu hju⟩
      · exact Or.inr y
    · rcases q4 with ⟨y1, y2, y3⟩ | ⟨y1, y2⟩
      · exact Or.inr ⟨by rw [y1]; exact x1, by rw [y2]; exact x2⟩
      · exact Or.inr ⟨y1, by omega⟩
theorem m_labAll (hn : n ≤ 16) (h0 : gI τ 0 0 = nI n) {D : Nat → Nat → Nat} {jm : Nat} (hjm : gI τ 7 2 = nI jm) (hjl : jm < 2 ^ 31) (hD : ∀ s t, s < n → t < n → gI τ 21 (16 * s + t) = nI (D s t) ∧ D s t < 2 ^ 31) (hJ : ∀ s t, J s t = decide (D s t ≤ jm)) :
    ∀ d m g f, sumTo g n ≤ d → d + 1 < m → lab J n g → labM g n f → ∃ g' f', X11_layNames_L88 m 1 (sIf τ 22 f) = some (sIf τ 22 f') ∧ labM g' n f' ∧ NM J n g' := by
  intro d
  induction d using Nat.strongRecOn with
  | ind d ih =>
    intro m g f hd hm hl hM
    obtain ⟨m, rfl⟩ : ∃ q, m = q + 1 := ⟨m - 1, by omega⟩
    rw [X11_layNames_L88, if_neg (by decide)]
    obtain ⟨g1, f1, c1, e1, e2, e3, e4⟩ := m_labRow hn h0 hjm hjl hD hJ (X11_layNames_L88 m) n FU 0 g f false (by omega) (by show _ < 1000000; omega) hl hM
    rcases e4 with ⟨x1, x2, x3⟩ | ⟨x1, x2⟩
    · subst x1 x2
      obtain ⟨m, rfl⟩ : ∃ q, m = q + 1 := ⟨m - 1, by omega⟩
      refine ⟨g1, f1, ?_, e3, fun s hs => ⟨by have := (e2 s hs).1; omega, (e2 s hs).2, fun t ht hc => ?_⟩⟩
      · have e5 : X11_layNames_L96 (X11_layNames_L88 (m + 1)) FU 0 0 (sIf τ 22 f) = X11_layNames_L88 (m + 1) 0 (sIf τ 22 f1) := e1
        rw [e5, X11_layNames_L88, if_pos rfl]
      · have hmono : ∀ k s t, s < n → t < n → pth J n k s t → g1 s ≤ g1 t := by
          intro k
          induction k with
          | zero =>
            intro s t _ _ h
            have : s = t := h
            subst this
            exact Nat.le_refl _
          | succ k ihk =>
            intro s t hs ht h
            obtain ⟨u, hu, hj, hp⟩ := h
            exact Nat.le_trans (x3 s (by omega) hs u hu hj) (ihk u t hu ht hp)
        obtain ⟨k, hk⟩ := hc
        exact Nat.le_trans (hmono k s t hs ht hk) (e2 t ht).1
    · subst x1
      obtain ⟨g2, f2, q1, q2, q3⟩ := ih (d - 1) (by omega) m g1 f1 (by omega) (by omega) e2 e3
      refine ⟨g2, f2, ?_, q2, q3⟩
      have e5 : X11_layNames_L96 (X11_layNames_L88 m) FU 0 0 (sIf τ 22 f) = X11_layNames_L88 m 1 (sIf τ 22 f1) := e1
      rw [e5, q1]
end MNames
