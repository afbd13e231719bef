/-! chains: the class and the reference go the same rounds -/
def edg (U : DU) (W : DW) (s u : Nat) : Bool := decide (s ≠ u) && jn U W s u
def wgt (U : DU) (W : DW) (s u : Nat) : Nat := 32 * ap U W s u + 1
def v0 (t : Nat) : Nat → Nat := fun s => if s = t then 0 else INF
section ChainC
variable {σ τ : St} {U : DU} {W : DW} {nm : Nat → Nat} {t : Nat}
theorem edg_ok (wU : WU U) (wW : WW W) (ht : t < W.1) : EOK (edg U W) (wgt U W) W.1 t := by
  refine ⟨wW.1, ht, fun s u _ _ h => ?_⟩
  unfold edg at h
  rw [Bool.and_eq_true, decide_eq_true_eq] at h
  have hj := h.2
  unfold jn at hj
  rw [decide_eq_true_eq] at hj
  have := wU.2.2.2.2.2.1 2 (by decide)
  unfold wgt
  refine ⟨h.1, by omega, by omega⟩
theorem v0_inv {E : Nat → Nat → Bool} {wt : Nat → Nat → Nat} {n : Nat} : INV E wt n t (v0 t) := by
  refine ⟨by unfold v0; rw [if_pos rfl], fun s _ => ?_, fun s hs hI => ?_, fun s hs hst hI => ?_⟩
  · unfold v0
    split
    · exact Nat.zero_le _
    · exact Nat.le_refl _
  · by_cases e : s = t
    · have : v0 t s = 0 := by unfold v0; rw [if_pos e]
      rw [this]
      omega
    · exact absurd (show v0 t s = INF by unfold v0; rw [if_neg e]) hI
  · exact absurd (show v0 t s = INF by unfold v0; rw [if_neg hst]) hI
def mat (n : Nat) (g : Nat → Int32) (v : Nat → Nat) : Prop := ∀ s, s < n → g s = nI (v s)
theorem c_over (hW : CW σ W U nm) (wW : WW W) {g : Nat → Int32} {v : Nat → Nat} (hg : mat W.1 g v) {s u : Nat} (hs : s < W.1) (hu : u < W.1) : X9_costOver (nI s) (nI u) (sIf σ 25 g) = some (nI (v u + wgt U W s u)) := by
  have h16 := wW.1
  unfold X9_costOver
  rw [chk_nI (by omega) (by decide), mulr16, chk_nI (by omega) (by decide), nI_cl (show u < 2 ^ 31 by omega), nI_cl (show 16 * s + u < 2 ^ 31 by omega), gI_sIf, gI_sIfn (by decide), hg u hu, hW.2.2.2.2.1 s u hs hu, Int32.mul_comm, show (32 : Int32) * nI (ap U W s u) = nI (32 * ap U W s u) from pk_mul 32 _, nI_add, nI_1]
  rfl
theorem c_edge (hW : CW σ W U nm) (wW : WW W) {s u : Nat} (hs : s < W.1) (hu : u < W.1) : ((((gI σ 20 s) >>> (nI u &&& 31)) &&& 1) = 1) ↔ jn U W s u = true := by
  have h16 := wW.1
  have hb := bs_lt16 (jn U W s) h16
  rw [hW.2.2.2.2.2.2.1 s hs, bit32 (by omega) (by omega), bs_bit]
  simp [hu]
theorem c_cheap (hW : CW σ W U nm) (wW : WW W) (wU : WU U) {g : Nat → Int32} {v : Nat → Nat} (hg : mat W.1 g v) (hv : ∀ s, s < W.1 → v s ≤ INF) {s : Nat} (hs : s < W.1) : X9_cheapestStep (nI s) (sIf σ 25 g) = some (nI (mnk (edg U W) (wgt U W) v s W.1)) := by
  have h16 := wW.1
  have hINF := INF_eq
  have key := loop0 (fun m k (o : Nat) => X9_cheapestStep_L5 (sIf σ 25 g) m (nI s) (nI o) (nI k)) W.1 (fun k => mnk (edg U W) (wgt U W) v s k) (some (nI (mnk (edg U W) (wgt U W) v s W.1))) (by omega) (fun m k hk => ?_) (fun m => ?_)
  · exact key
  · show X9_cheapestStep_L5 (sIf σ 25 g) (m + 1) (nI s) (nI (mnk (edg U W) (wgt U W) v s k)) (nI k) = X9_cheapestStep_L5 (sIf σ 25 g) m (nI s) (nI (if edg U W s k = true then min (mnk (edg U W) (wgt U W) v s k) (v k + wgt U W s k) else mnk (edg U W) (wgt U W) v s k)) (nI (k + 1))
    have hm := mnk_inf (E := edg U W) (wt := wgt U W) v s k
    rw [X9_cheapestStep_L5, gI_sIfn (by decide), hW.1, if_neg (nI_ge hk (by omega)), nI_1]
    simp only [eqI (show k < 2 ^ 31 by omega) (show s < 2 ^ 31 by omega)]
    by_cases e : k = s
    · rw [if_pos e, if_neg (by unfold edg; simp [e])]
    · rw [if_neg e, chk_nI (by omega) (by decide), nI_cl (by omega), gI_sIfn (by decide)]
      by_cases ej : jn U W s k = true
      · have hap : ap U W s k ≤ 20 := by
          have h1 := ej
          unfold jn at h1
          rw [decide_eq_true_eq] at h1
          have := wU.2.2.2.2.2.1 2 (by decide)
          omega
        have hvk := hv k hk
        have hwt : wgt U W s k ≤ 641 := by unfold wgt; omega
        rw [if_pos ((c_edge hW wW hs hk).mpr ej), c_over hW wW hg hs hk, Option.bind_some, if_pos (by unfold edg; rw [ej]; simp; exact fun h => e h.symm)]
        unfold J9_min_7cf53
        rw [Option.bind_some]
        simp only [ltI (show v k + wgt U W s k < 2 ^ 31 by omega) (show mnk (edg U W) (wgt U W) v s k < 2 ^ 31 by omega)]
        by_cases hl : v k + wgt U W s k < mnk (edg U W) (wgt U W) v s k
        · rw [if_pos hl, Nat.min_eq_right (by omega)]
        · rw [if_neg hl, Nat.min_eq_left (by omega)]
      · rw [if_neg (fun h => ej ((c_edge hW wW hs hk).mp h)), if_neg (by unfold edg; simp [ej])]
  · show X9_cheapestStep_L5 (sIf σ 25 g) (m + 1) (nI s) (nI (mnk (edg U W) (wgt U W) v s W.1)) (nI W.1) = _
    rw [X9_cheapestStep_L5, gI_sIfn (by decide), hW.1, if_pos (nI_le (Nat.le_refl _) (by omega))]
theorem c_L35 (hW : CW σ W U nm) (wW : WW W) (wU : WU U) (ht : t < W.1) {v : Nat → Nat} (hI : INV (edg U W) (wgt U W) W.1 t v) (kq : Int32 → Int32 → St → Option St) (i : Nat) : ∀ d m s g, s + d = W.1 → d < m → mat W.1 g (rdk (edg U W) (wgt U W) W.1 v s) → ∃ g', X9_walkTo_L35 kq m (b2 (chF (edg U W) (wgt U W) W.1 v s)) (nI i) (nI s) (sIf σ 25 g) = kq (b2 (chF (edg U W) (wgt U W) W.1 v W.1)) (nI (i + 1)) (sIf σ 25 g') ∧ mat W.1 g' (rdk (edg U W) (wgt U W) W.1 v W.1) := by
  have h16 := wW.1
  have hINF := INF_eq
  have hE := edg_ok wU wW ht
  intro d
  induction d with
  | zero =>
    intro m s g hs hm hg
    obtain ⟨m, rfl⟩ : ∃ q, m = q + 1 := ⟨m - 1, by omega⟩
    have : s = W.1 := by omega
    subst this
    exact ⟨g, by rw [X9_walkTo_L35, gI_sIfn (by decide), hW.1, if_pos (nI_le (Nat.le_refl _) (by omega)), nI_1], hg⟩
  | succ d ih =>
    intro m s g hs hm hg
    obtain ⟨m, rfl⟩ : ∃ q, m = q + 1 := ⟨m - 1, by omega⟩
    have hsn : s < W.1 := by omega
    have hIs := hI.rk hE s (by omega)
    have hm1 := mnk_inf (E := edg U W) (wt := wgt U W) (rdk (edg U W) (wgt U W) W.1 v s) s W.1
    have hv1 := hIs.2.1 s hsn
    have hch : chF (edg U W) (wgt U W) W.1 v (s + 1) = (chF (edg U W) (wgt U W) W.1 v s || decide (mnk (edg U W) (wgt U W) (rdk (edg U W) (wgt U W) W.1 v s) s W.1 < rdk (edg U W) (wgt U W) W.1 v s s)) := rfl
    rw [X9_walkTo_L35, gI_sIfn (by decide), hW.1, if_neg (nI_ge hsn (by omega)), c_cheap hW wW wU hg hIs.2.1 hsn, Option.bind_some, chk_nI (by omega) (by decide), nI_cl (by omega), gI_sIf, hg s hsn, nI_1]
    simp only [leI (show rdk (edg U W) (wgt U W) W.1 v s s < 2 ^ 31 by omega) (show mnk (edg U W) (wgt U W) (rdk (edg U W) (wgt U W) W.1 v s) s W.1 < 2 ^ 31 by omega)]
    by_cases e : rdk (edg U W) (wgt U W) W.1 v s s ≤ mnk (edg U W) (wgt U W) (rdk (edg U W) (wgt U W) W.1 v s) s W.1
    · rw [if_pos e]
      have h2 : chF (edg U W) (wgt U W) W.1 v (s + 1) = chF (edg U W) (wgt U W) W.1 v s := by
        rw [hch, decide_eq_false (by omega), Bool.or_false]
      rw [← h2]
      refine ih m (s + 1) g (by omega) (by omega) ?_
      show mat W.1 g (rlx (edg U W) (wgt U W) W.1 (rdk (edg U W) (wgt U W) W.1 v s) s)
      rw [rlx_same e]
      exact hg
    · have h2 : chF (edg U W) (wgt U W) W.1 v (s + 1) = true := by
        rw [hch, decide_eq_true (by omega), Bool.or_true]
      rw [if_neg e, chk_nI (by omega) (by decide), bnd, sI_sIf, show (1 : Int32) = b2 (chF (edg U W) (wgt U W) W.1 v (s + 1)) by rw [h2]; rfl]
      refine ih m (s + 1) _ (by omega) (by omega) ?_
      intro x hx
      show upd g s _ x = nI (rlx (edg U W) (wgt U W) W.1 (rdk (edg U W) (wgt U W) W.1 v s) s x)
      unfold upd rlx
      by_cases ex : x = s
      · rw [if_pos ex, if_pos ex, Nat.min_eq_right (by omega)]
      · rw [if_neg ex, if_neg ex]; exact hg x hx
theorem c_L20 (hW : CW σ W U nm) (wW : WW W) (wU : WU U) (ht : t < W.1) : ∀ d m i g, i + d = 16 → d + 1 < m → mat W.1 g (it (edg U W) (wgt U W) W.1 (v0 t) i) → ∃ g' r, X9_walkTo_L20 m 1 (nI i) (sIf σ 25 g) = some (sIf σ 25 g') ∧ mat W.1 g' (it (edg U W) (wgt U W) W.1 (v0 t) r) ∧ Fixd (edg U W) (wgt U W) W.1 (it (edg U W) (wgt U W) W.1 (v0 t) r) := by
  have h16 := wW.1
  have hE := edg_ok wU wW ht
  intro d
  induction d with
  | zero =>
    intro m i g hi hm hg
    obtain ⟨m, rfl⟩ : ∃ q, m = q + 1 := ⟨m - 1, by omega⟩
    have : i = 16 := by omega
    subst this
    exact ⟨g, 16, by rw [X9_walkTo_L20, if_pos (by decide)], hg, it_15 hE v0_inv (by decide)⟩
  | succ d ih =>
    intro m i g hi hm hg
    obtain ⟨m, rfl⟩ : ∃ q, m = q + 1 := ⟨m - 1, by omega⟩
    have hI := v0_inv (t := t) (E := edg U W) (wt := wgt U W) (n := W.1) |>.im hE i
    obtain ⟨g', e1, e2⟩ := c_L35 hW wW wU ht hI (X9_walkTo_L20 m) i W.1 FU 0 g (by omega) (by show _ < 1000000; omega) hg
    have e1' : X9_walkTo_L35 (X9_walkTo_L20 m) FU (0 : Int32) (nI i) (0 : Int32) (sIf σ 25 g) = _ := e1
    rw [X9_walkTo_L20, if_neg (show ¬ (16 : Int32) ≤ nI i from nI_ge (b := 16) (by omega) (by decide)), if_neg n10, e1']
    cases hc : chF (edg U W) (wgt U W) W.1 (it (edg U W) (wgt U W) W.1 (v0 t) i) W.1 with
    | true => exact ih m (i + 1) g' (by omega) (by omega) e2
    | false =>
      obtain ⟨q1, q2⟩ := chF_no W.1 hc
      obtain ⟨m, rfl⟩ : ∃ q, m = q + 1 := ⟨m - 1, by omega⟩
      refine ⟨g', i, ?_, by rw [q1] at e2; exact e2, q2⟩
      rw [X9_walkTo_L20]
      by_cases hx : (16 : Int32) ≤ nI (i + 1)
      · rw [if_pos hx]
      · rw [if_neg hx, if_pos (show b2 false = 0 from rfl)]
theorem c_walkTo (hW : CW σ W U nm) (wW : WW W) (wU : WU U) (ht : t < W.1) : ∃ g r, X9_walkTo (nI t) σ = some (sIf σ 25 g) ∧ mat W.1 g (it (edg U W) (wgt U W) W.1 (v0 t) r) ∧ Fixd (edg U W) (wgt U W) W.1 (it (edg U W) (wgt U W) W.1 (v0 t) r) := by
  have h16 := wW.1
  unfold X9_walkTo
  rw [c_fill 25 16 _ (by decide) σ, Option.bind_some, chk_nI (by omega) (by decide), bnd, nI_cl (by omega), sI_sIf]
  refine c_L20 hW wW wU ht 16 FU 0 _ (by decide) (by decide) (fun s hs => ?_)
  show upd _ t 0 s = nI (v0 t s)
  unfold upd v0
  by_cases e : s = t
  · rw [if_pos e, if_pos e]; rfl
  · rw [if_neg e, if_neg e]
    show (if s < 16 then (1048576 : Int32) else gI σ 25 s) = nI INF
    rw [if_pos (by omega)]
    rfl
end ChainC
