/-! loops over what is told, from 0 on -/
theorem fold_loop {α ρ : Type} (Lp : Nat → Nat → α → Option ρ) (n : Nat) (f : Nat → α → α) (ex : α → Option ρ) (I : Nat → α → Prop) (hs : ∀ m k a, k < n → I k a → Lp (m + 1) k a = Lp m (k + 1) (f k a) ∧ I (k + 1) (f k a)) (hx : ∀ m a, I n a → Lp (m + 1) n a = ex a) :
    ∀ d k m a, k + d = n → d < m → I k a → Lp m k a = ex ((List.range' k d).foldl (fun a k => f k a) a) ∧ I n ((List.range' k d).foldl (fun a k => f k a) a) := by
  intro d
  induction d with
  | zero =>
    intro k m a hk hm hI
    obtain ⟨m, rfl⟩ : ∃ q, m = q + 1 := ⟨m - 1, by omega⟩
    have : k = n := by omega
    subst this
    exact ⟨hx m a hI, hI⟩
  | succ d ih =>
    intro k m a hk hm hI
    obtain ⟨m, rfl⟩ : ∃ q, m = q + 1 := ⟨m - 1, by omega⟩
    obtain ⟨h1, h2⟩ := hs m k a (by omega) hI
    rw [h1]
    simp only [List.range'_succ, List.foldl_cons]
    exact ih (k + 1) m (f k a) (by omega) (by omega) h2
theorem fold0 {α ρ : Type} (Lp : Nat → Nat → α → Option ρ) (n : Nat) (f : Nat → α → α) (ex : α → Option ρ) (hn : n < 1000000) (hs : ∀ m k a, k < n → Lp (m + 1) k a = Lp m (k + 1) (f k a)) (hx : ∀ m a, Lp (m + 1) n a = ex a) (a : α) : Lp FU 0 a = ex ((List.range n).foldl (fun a k => f k a) a) := by
  have := (fold_loop Lp n f ex (fun _ _ => True) (fun m k a hk _ => ⟨hs m k a hk, trivial⟩) (fun m a _ => hx m a) n 0 FU a (by omega) hn trivial).1
  rw [this, List.range_eq_range']
theorem fold0I {α ρ : Type} (Lp : Nat → Nat → α → Option ρ) (n : Nat) (f : Nat → α → α) (ex : α → Option ρ) (I : Nat → α → Prop) (hn : n < 1000000) (hs : ∀ m k a, k < n → I k a → Lp (m + 1) k a = Lp m (k + 1) (f k a) ∧ I (k + 1) (f k a)) (hx : ∀ m a, I n a → Lp (m + 1) n a = ex a) (a : α) (h0 : I 0 a) : Lp FU 0 a = ex ((List.range n).foldl (fun a k => f k a) a) ∧ I n ((List.range n).foldl (fun a k => f k a) a) := by
  have := fold_loop Lp n f ex I hs hx n 0 FU a (by omega) hn h0
  rw [List.range_eq_range']
  exact this
theorem any_loop (Lp : Nat → Nat → Option Int32) (n : Nat) (p : Nat → Bool) (hn : n < 1000000) (hs : ∀ m k, k < n → Lp (m + 1) k = if p k = true then some 1 else Lp m (k + 1)) (hx : ∀ m, Lp (m + 1) n = some 0) : Lp FU 0 = some (b2 ((List.range n).any p)) := by
  have key : ∀ d k m, k + d = n → d < m → Lp m k = some (b2 ((List.range' k d).any p)) := by
    intro d
    induction d with
    | zero =>
      intro k m hk hm
      obtain ⟨m, rfl⟩ : ∃ q, m = q + 1 := ⟨m - 1, by omega⟩
      have : k = n := by omega
      subst this
      rw [hx m]; rfl
    | succ d ih =>
      intro k m hk hm
      obtain ⟨m, rfl⟩ : ∃ q, m = q + 1 := ⟨m - 1, by omega⟩
      rw [hs m k (by omega)]
      simp only [List.range'_succ, List.any_cons]
      by_cases hp : p k = true
      · rw [if_pos hp, hp]; rfl
      · rw [if_neg hp, ih (k + 1) m (by omega) (by omega)]
        rw [Bool.not_eq_true] at hp
        rw [hp]; rfl
  rw [key n 0 FU (by omega) hn, List.range_eq_range']
theorem any_fold (l : List Nat) (p : Nat → Bool) (b : Bool) : l.foldl (fun a k => a || p k) b = (b || l.any p) := by
  induction l generalizing b with
  | nil => simp
  | cons x l ih => simp only [List.foldl_cons, List.any_cons, ih, Bool.or_assoc]
/-- a row's sum by cases, as a number -/
theorem nI_fold (l : List Nat) (f : Nat → Nat → Nat) (a : Nat) : l.foldl (fun (a : Int32) k => nI (f k a.toNatClampNeg)) (nI a) = l.foldl (fun (a : Int32) k => nI (f k a.toNatClampNeg)) (nI a) := rfl
def hasLn (L : DL) (b y : Nat) : Bool := (List.range L.1).any fun k => (lB L k == b) && (lY L k == y)
def cntLn (L : DL) (b : Nat) : Nat := (List.range L.1).foldl (fun a k => if lB L k = b then a + 1 else a) 0
theorem eqb {a b : Nat} (ha : a < 2 ^ 31) (hb : b < 2 ^ 31) : (nI a = nI b) ↔ ((a == b) = true) := by
  rw [nI_eq ha hb]; simp
section LinesC
variable {σ τ : St} {ns : Nat} {P : DP} {B : DB} {L : DL} {R : DR}
theorem c_areIn (C : CL σ L) (W : WL ns B L) (b y : Nat) (hb : b < 2 ^ 31) (hy : y < 2 ^ 31) (hbd : ∀ k, k < L.1 → lB L k < 2 ^ 31 ∧ lY L k < 2 ^ 31) : X3_areIn (nI b) (nI y) σ = some (b2 (hasLn L b y)) := by
  obtain ⟨h0, h1, h2, -⟩ := C
  have hl := W.1
  refine any_loop (fun m k => X3_areIn_L2 σ m (nI b) (nI y) (nI k)) L.1 _ (by omega) (fun m k hk => ?_) (fun m => ?_)
  · show X3_areIn_L2 σ (m + 1) (nI b) (nI y) (nI k) = _
    rw [X3_areIn_L2, h0, if_neg (nI_ge hk (by omega)), chk_nI (by omega) (by decide), chk_nI (by omega) (by decide), nI_cl (by omega), h1 k hk, h2 k hk, nI_1]
    simp only [eqI (hbd k hk).1 hb, eqI (hbd k hk).2 hy]
    by_cases e1 : lB L k = b <;> by_cases e2 : lY L k = y <;> simp [e1, e2]
  · show X3_areIn_L2 σ (m + 1) (nI b) (nI y) (nI L.1) = _
    rw [X3_areIn_L2, h0, if_pos (nI_le (Nat.le_refl _) (by omega))]
theorem m_hasLine (C : ML τ L) (W : WL ns B L) (b y : Nat) (hb : b < 2 ^ 31) (hy : y < 2 ^ 31) (hbd : ∀ k, k < L.1 → lB L k < 2 ^ 31 ∧ lY L k < 2 ^ 31) : X11_hasLine (nI b) (nI y) τ = some (b2 (hasLn L b y)) := by
  obtain ⟨h0, h1, h2, -⟩ := C
  have hl := W.1
  have := fold0 (fun m k (a : Bool) => X11_hasLine_L5 τ m (nI b) (nI y) (b2 a) (nI k)) L.1 (fun k a => a || ((lB L k == b) && (lY L k == y))) (fun a => some (b2 a)) (by omega) (fun m k a hk => ?_) (fun m a => ?_) false
  · rw [show X11_hasLine (nI b) (nI y) τ = X11_hasLine_L5 τ FU (nI b) (nI y) (b2 false) (nI 0) from rfl, this, any_fold]
    rfl
  · show X11_hasLine_L5 τ (m + 1) (nI b) (nI y) (b2 a) (nI k) = _
    rw [X11_hasLine_L5, h0, if_neg (nI_ge hk (by omega)), chk_nI (by omega) (by decide), chk_nI (by omega) (by decide), nI_cl (by omega), h1 k hk, h2 k hk, nI_1]
    simp only [eqI (hbd k hk).1 hb, eqI (hbd k hk).2 hy]
    cases a
    · by_cases e1 : lB L k = b <;> by_cases e2 : lY L k = y <;> simp [e1, e2, b2]
    · simp [b2]
  · show X11_hasLine_L5 τ (m + 1) (nI b) (nI y) (b2 a) (nI L.1) = _
    rw [X11_hasLine_L5, h0, if_pos (nI_le (Nat.le_refl _) (by omega)), chkB_b2]
theorem c_cntLn (C : CL σ L) (W : WL ns B L) (b : Nat) (hb : b < 2 ^ 31) (hbd : ∀ k, k < L.1 → lB L k < 2 ^ 31) : X3_howManyIn (nI b) σ = some (nI (cntLn L b)) := by
  obtain ⟨h0, h1, -⟩ := C
  have hl := W.1
  refine fold0 (fun m k (a : Nat) => X3_howManyIn_L4 σ m (nI b) (nI a) (nI k)) L.1 (fun k a => if lB L k = b then a + 1 else a) (fun a => some (nI a)) (by omega) (fun m k a hk => ?_) (fun m a => ?_) 0
  · show X3_howManyIn_L4 σ (m + 1) (nI b) (nI a) (nI k) = _
    rw [X3_howManyIn_L4, h0, if_neg (nI_ge hk (by omega)), chk_nI (by omega) (by decide), nI_cl (by omega), h1 k hk, nI_1, nI_1]
    simp only [eqI (hbd k hk) hb]
    by_cases e1 : lB L k = b <;> simp [e1]
  · show X3_howManyIn_L4 σ (m + 1) (nI b) (nI a) (nI L.1) = _
    rw [X3_howManyIn_L4, h0, if_pos (nI_le (Nat.le_refl _) (by omega))]
theorem m_cntLn (C : ML τ L) (W : WL ns B L) (b : Nat) (hb : b < 2 ^ 31) (hbd : ∀ k, k < L.1 → lB L k < 2 ^ 31) : X11_linesOf (nI b) τ = some (nI (cntLn L b)) := by
  obtain ⟨h0, h1, -⟩ := C
  have hl := W.1
  refine fold0 (fun m k (a : Nat) => X11_linesOf_L4 τ m (nI b) (nI a) (nI k)) L.1 (fun k a => if lB L k = b then a + 1 else a) (fun a => some (nI a)) (by omega) (fun m k a hk => ?_) (fun m a => ?_) 0
  · show X11_linesOf_L4 τ (m + 1) (nI b) (nI a) (nI k) = _
    rw [X11_linesOf_L4, h0, if_neg (nI_ge hk (by omega)), chk_nI (by omega) (by decide), nI_cl (by omega), h1 k hk, nI_1, nI_1]
    simp only [eqI (hbd k hk) hb, bnd]
    by_cases e1 : lB L k = b
    · simp [e1]
    · simp only [e1, if_false]
      rw [show nI a + 0 = nI a from Int32.add_zero _]
  · show X11_linesOf_L4 τ (m + 1) (nI b) (nI a) (nI L.1) = _
    rw [X11_linesOf_L4, h0, if_pos (nI_le (Nat.le_refl _) (by omega))]
end LinesC
