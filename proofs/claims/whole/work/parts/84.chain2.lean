/-! chain: the two answers -/
section Chain2
variable {σ τ : St} {U : DU} {W : DW} {nm : Nat → Nat} {t : Nat}
theorem it_un {E : Nat → Nat → Bool} {wt : Nat → Nat → Nat} {n : Nat} {v : Nat → Nat} {r r' : Nat} (h : Fixd E wt n (it E wt n v r)) (h' : Fixd E wt n (it E wt n v r')) : it E wt n v r = it E wt n v r' := by
  rcases Nat.le_total r r' with e | e
  · have := it_fix h (r' - r)
    rw [show r + (r' - r) = r' by omega] at this
    exact this.symm
  · have := it_fix h' (r - r')
    rw [show r' + (r - r') = r by omega] at this
    exact this
/-- a settled cost -/
def SET (U : DU) (W : DW) (t : Nat) (f : Nat → Nat) : Prop := INV (edg U W) (wgt U W) W.1 t f ∧ Fixd (edg U W) (wgt U W) W.1 f
def nxp (U : DU) (W : DW) (f : Nat → Nat) (s u : Nat) : Bool := edg U W s u && decide (f u + wgt U W s u = f s)
theorem SET.nx {f : Nat → Nat} (h : SET U W t f) {s : Nat} (hs : s < W.1) (hst : s ≠ t) (hI : f s ≠ INF) : ∃ u, u < W.1 ∧ nxp U W f s u = true := by
  obtain ⟨u, u1, u2, u3⟩ := h.1.2.2.2 s hs hst hI
  have h1 := h.2 s hs
  have h2 := mnk_le (E := edg U W) (wt := wgt U W) (v := f) (s := s) W.1 u u1 u2
  refine ⟨u, u1, ?_⟩
  unfold nxp
  rw [u2, Bool.true_and, decide_eq_true_eq]
  omega
theorem edg_jn {s u : Nat} (h : edg U W s u = true) : s ≠ u ∧ jn U W s u = true := by
  unfold edg at h
  rw [Bool.and_eq_true, decide_eq_true_eq] at h
  exact h
theorem SET.con {f : Nat → Nat} (h : SET U W t f) : ∀ c s, f s ≤ c → s < W.1 → f s ≠ INF → Con_n (jn U W) W.1 s t := by
  intro c
  induction c with
  | zero =>
    intro s hc hs hI
    by_cases e : s = t
    · subst e; exact Con_n.rf
    · obtain ⟨u, u1, u2, u3⟩ := h.1.2.2.2 s hs e hI
      unfold wgt at u3
      omega
  | succ c ih =>
    intro s hc hs hI
    by_cases e : s = t
    · subst e; exact Con_n.rf
    · obtain ⟨u, u1, u2, u3⟩ := h.1.2.2.2 s hs e hI
      have hi := h.1.2.1 s hs
      unfold wgt at u3
      exact (Con_n.st u1 (edg_jn u2).2).tr (ih u (by omega) u1 (by omega))
theorem SET.fin (wU : WU U) (wW : WW W) (ht : t < W.1) {f : Nat → Nat} (h : SET U W t f) : ∀ k s, s < W.1 → pth (jn U W) W.1 k s t → f s ≠ INF := by
  have hINF := INF_eq
  intro k
  induction k with
  | zero =>
    intro s hs e
    have : s = t := e
    subst this
    rw [h.1.1]
    omega
  | succ k ih =>
    intro s hs e
    obtain ⟨u, u1, u2, u3⟩ := e
    have hu := ih u u1 u3
    by_cases e : s = u
    · subst e; exact hu
    · have hed : edg U W s u = true := by unfold edg; rw [u2]; simp [e]
      have h1 := h.2 s hs
      have h2 := mnk_le (E := edg U W) (wt := wgt U W) (v := f) (s := s) W.1 u u1 hed
      have h3 := (fin15 wU wW ht h.1 u1 hu).2
      have h4 := ((edg_ok wU wW ht).2.2 s u hs u1 hed).2.2
      omega
theorem nm_con (hN : NM (jn U W) W.1 nm) {s t : Nat} (hs : s < W.1) (ht : t < W.1) : nm s = nm t ↔ Con_n (jn U W) W.1 s t := by
  obtain ⟨a1, a2, a3⟩ := hN s hs
  obtain ⟨b1, b2, b3⟩ := hN t ht
  constructor
  · intro e
    rw [e] at a2
    exact a2.tr (b2.sy (jn_sym U W) ht)
  · intro e
    exact Nat.le_antisymm (a3 _ b1 (e.tr b2)) (b3 _ a1 ((e.sy (jn_sym U W) hs).tr a2))
def wkN (U : DU) (W : DW) (f : Nat → Nat) : Nat → Nat → Nat
  | 0, s => s
  | d + 1, s => wkN U W f d ((fsF (nxp U W f s) W.1 0).getD s)
theorem fsF_sp {p : Nat → Bool} : ∀ d i j, fsF p d i = some j → i ≤ j ∧ j < i + d ∧ p j = true
  | 0, i, j, h => by cases h
  | d + 1, i, j, h => by
    have h' : (if p i = true then some i else fsF p d (i + 1)) = some j := h
    by_cases e : p i = true
    · rw [if_pos e] at h'
      have := Option.some.inj h'
      subst this
      exact ⟨Nat.le_refl _, by omega, e⟩
    · rw [if_neg e] at h'
      obtain ⟨a, b, c⟩ := fsF_sp d (i + 1) j h'
      exact ⟨by omega, by omega, c⟩
theorem c_next (hW : CW σ W U nm) (wW : WW W) (wU : WU U) (ht : t < W.1) {f : Nat → Nat} (h : SET U W t f) {g : Nat → Int32} (hg : mat W.1 g f) {s : Nat} (hs : s < W.1) : ∀ d m u, u + d = W.1 → d < m → X9_nextOnChain_L2 (sIf σ 25 g) m (nI s) (nI u) = some (nI ((fsF (nxp U W f s) d u).getD s)) := by
  have h16 := wW.1
  have hINF := INF_eq
  intro d
  induction d with
  | zero =>
    intro m u hu hm
    obtain ⟨m, rfl⟩ : ∃ q, m = q + 1 := ⟨m - 1, by omega⟩
    have : u = W.1 := by omega
    subst this
    rw [X9_nextOnChain_L2, gI_sIfn (by decide), hW.1, if_pos (nI_le (Nat.le_refl _) (by omega))]
    rfl
  | succ d ih =>
    intro m u hu hm
    obtain ⟨m, rfl⟩ : ∃ q, m = q + 1 := ⟨m - 1, by omega⟩
    have hun : u < W.1 := by omega
    have ih' := ih m (u + 1) (by omega) (by omega)
    have hvu := h.1.2.1 u hun
    have hvs := h.1.2.1 s hs
    rw [X9_nextOnChain_L2, gI_sIfn (by decide), hW.1, if_neg (nI_ge hun (by omega)), nI_1, ih']
    show _ = some (nI ((if nxp U W f s u = true then some u else fsF (nxp U W f s) d (u + 1)).getD s))
    simp only [eqI (show u < 2 ^ 31 by omega) (show s < 2 ^ 31 by omega)]
    by_cases e : u = s
    · rw [if_pos e, if_neg (by unfold nxp edg; simp [e])]
    · rw [if_neg e, chk_nI (by omega) (by decide), nI_cl (show s < 2 ^ 31 by omega), gI_sIfn (by decide)]
      by_cases ej : jn U W s u = true
      · have hed : edg U W s u = true := by unfold edg; rw [ej]; simp; exact fun h => e h.symm
        have hwt := ((edg_ok wU wW ht).2.2 s u hs hun hed).2.2
        rw [if_pos ((c_edge hW wW hs hun).mpr ej), c_over hW wW hg hs hun, Option.bind_some, chk_nI (by omega) (by decide), gI_sIf, hg s hs]
        simp only [eqI (show f u + wgt U W s u < 2 ^ 31 by omega) (show f s < 2 ^ 31 by omega)]
        by_cases ee : f u + wgt U W s u = f s
        · rw [if_pos ee, if_pos (by unfold nxp; rw [hed, Bool.true_and, decide_eq_true_eq]; exact ee)]
          rfl
        · rw [if_neg ee, if_neg (by unfold nxp; simp [ee])]
      · rw [if_neg (fun h => ej ((c_edge hW wW hs hun).mp h)), if_neg (by unfold nxp edg; simp [ej])]
theorem c_L17 (hW : CW σ W U nm) (wW : WW W) (wU : WU U) (ht : t < W.1) {f : Nat → Nat} (h : SET U W t f) {g : Nat → Int32} (hg : mat W.1 g f) {ix : Nat} (hix : ix < 2 ^ 31) : ∀ d m k s, k + d = ix → d < m → s < W.1 → X9_chainMember_L17 (sIf σ 25 g) m (nI ix) (nI s) (nI k) = some (nI (wkN U W f d s)) := by
  have h16 := wW.1
  intro d
  induction d with
  | zero =>
    intro m k s hk hm hs
    obtain ⟨m, rfl⟩ : ∃ q, m = q + 1 := ⟨m - 1, by omega⟩
    have : k = ix := by omega
    subst this
    rw [X9_chainMember_L17, if_pos (nI_le (Nat.le_refl _) (by omega))]
    rfl
  | succ d ih =>
    intro m k s hk hm hs
    obtain ⟨m, rfl⟩ : ∃ q, m = q + 1 := ⟨m - 1, by omega⟩
    have hn : X9_nextOnChain (nI s) (sIf σ 25 g) = some (nI ((fsF (nxp U W f s) W.1 0).getD s)) := c_next hW wW wU ht h hg hs W.1 FU 0 (by omega) (by show _ < 1000000; omega)
    rw [X9_chainMember_L17, if_neg (nI_ge (by omega) (by omega)), hn, Option.bind_some, nI_1]
    refine ih m (k + 1) _ (by omega) (by omega) ?_
    cases e : fsF (nxp U W f s) W.1 0 with
    | none => exact hs
    | some j =>
      have := (fsF_sp W.1 0 j e).2.1
      show j < W.1
      omega
theorem m_goes (hM : MC τ U W) (wU : WU U) (wW : WW W) (ht : t < W.1) {f : Nat → Nat} (h : SET U W t f) {gs gm : Nat → Int32} (hg : mat2 W.1 gs gm f) {s u : Nat} (hs : s < W.1) (hu : u < W.1) (hI : f s ≠ INF) : X11_goesOn (nI s) (nI u) (two τ gs gm) = some (b2 (nxp U W f s u)) := by
  have h16 := wW.1
  have hINF := INF_eq
  have hap : ap U W s u ≤ 800 := ap_le wU wW hs hu
  obtain ⟨f1, f2⟩ := fin15 wU wW ht h.1 hs hI
  have hu20 := wU.2.2.2.2.2.1 2 (by decide)
  unfold X11_goesOn
  rw [two_o τ gs gm (q := 21) (by decide) (by decide), two_o τ gs gm (q := 7) (by decide) (by decide), two_24, two_25, mul16, chk_nI (by omega) (by decide), nI_cl (show 16 * s + u < 2 ^ 31 by omega), bnd, hM.2.2 s u hs hu, hM.2.1, chk_nI (show u < 16 by omega) (by decide), chk_nI (show s < 16 by omega) (by decide), chk_nI (show u < 16 by omega) (by decide), chk_nI (show s < 16 by omega) (by decide), nI_cl (show u < 2 ^ 31 by omega), nI_cl (show s < 2 ^ 31 by omega)]
  simp only [eqI (show s < 2 ^ 31 by omega) (show u < 2 ^ 31 by omega), ltI (show uN U 2 < 2 ^ 31 by omega) (show ap U W s u < 2 ^ 31 by omega)]
  by_cases e1 : s = u
  · rw [if_pos e1, show nxp U W f s u = false by unfold nxp edg; simp [e1]]
    rfl
  · rw [if_neg e1]
    by_cases e2 : uN U 2 < ap U W s u
    · rw [if_pos e2, show nxp U W f s u = false by unfold nxp edg jn; simp; intro _ _; omega]
      rfl
    · have hj : jn U W s u = true := by unfold jn; rw [decide_eq_true_eq]; omega
      have hed : edg U W s u = true := by unfold edg; rw [hj]; simp [e1]
      have hnx : nxp U W f s u = decide (f u + wgt U W s u = f s) := by unfold nxp; rw [hed, Bool.true_and]
      have hwt : wgt U W s u = 32 * ap U W s u + 1 := rfl
      have hsI := h.1.2.1 s hs
      rcases hg s hs with ⟨s1, s2, s3⟩ | ⟨s1, s2, s3⟩
      · exact absurd s1 hI
      · rw [if_neg e2, s2, s3, hnx]
        rcases hg u hu with ⟨u1, u2, u3⟩ | ⟨u1, u2, u3⟩
        · rw [u2, nI_add]
          simp only [eqI (show 1000000 + ap U W s u < 2 ^ 31 by omega) (show f s / 32 < 2 ^ 31 by omega)]
          rw [if_neg (by omega), decide_eq_false (by omega)]
          rfl
        · obtain ⟨k1, k2⟩ := fin15 wU wW ht h.1 hu (by omega)
          rw [u2, u3, nI_add, nI_1]
          simp only [eqI (show f u / 32 + ap U W s u < 2 ^ 31 by omega) (show f s / 32 < 2 ^ 31 by omega), eqI (show f u % 32 + 1 + 1 < 2 ^ 31 by omega) (show f s % 32 + 1 < 2 ^ 31 by omega)]
          by_cases q1 : f u / 32 + ap U W s u = f s / 32
          · rw [if_pos q1]
            by_cases q2 : f u % 32 + 1 + 1 = f s % 32 + 1
            · rw [if_pos q2, decide_eq_true (by omega)]; rfl
            · rw [if_neg q2, decide_eq_false (by omega)]; rfl
          · rw [if_neg q1, decide_eq_false (by omega)]; rfl
theorem m_L124 (hM : MC τ U W) (wU : WU U) (wW : WW W) (ht : t < W.1) {f : Nat → Nat} (h : SET U W t f) {gs gm : Nat → Int32} (hg : mat2 W.1 gs gm f) {s j : Nat} (hs : s < W.1) (hI : f s ≠ INF) (kq : Int32 → Int32 → Int32 → St → Option (Int32 × St)) (x3 x5 : Int32) : ∀ d m u, u + d = W.1 → d < m → fsF (nxp U W f s) d u = some j → X11_chain_L124 kq m x3 (nI s) x5 (nI u) (two τ gs gm) = kq x3 (nI j) (x5 + 1) (two τ gs gm) := by
  have h16 := wW.1
  intro d
  induction d with
  | zero => intro m u _ _ e; cases e
  | succ d ih =>
    intro m u hu hm e
    obtain ⟨m, rfl⟩ : ∃ q, m = q + 1 := ⟨m - 1, by omega⟩
    have e' : (if nxp U W f s u = true then some u else fsF (nxp U W f s) d (u + 1)) = some j := e
    rw [X11_chain_L124, m_goes hM wU wW ht h hg hs (by omega) hI, Option.bind_some, nI_1]
    cases ep : nxp U W f s u with
    | true =>
      rw [ep, if_pos rfl] at e'
      rw [if_neg (show ¬ b2 true = 0 from n10), Option.some.inj e']
    | false =>
      rw [ep, if_neg (by decide)] at e'
      rw [if_pos (show b2 false = 0 from rfl)]
      exact ih m (u + 1) (by omega) (by omega) e'
theorem fsF_ex {p : Nat → Bool} {n u : Nat} (hu : u < n) (hp : p u = true) : ∃ j, fsF p n 0 = some j := by
  cases e : fsF p n 0 with
  | some j => exact ⟨j, rfl⟩
  | none =>
    have := fsF_none n 0 e u (by omega) (by omega)
    rw [hp] at this
    cases this
theorem m_L115 (hM : MC τ U W) (wU : WU U) (wW : WW W) (ht : t < W.1) {f : Nat → Nat} (h : SET U W t f) {gs gm : Nat → Int32} (hg : mat2 W.1 gs gm f) {ix : Nat} (hix : ix ≤ 15) : ∀ d m k s, k + d = ix → d < m → s < W.1 → f s ≠ INF → d ≤ f s % 32 → X11_chain_L115 m (nI (10 + ix)) (nI s) (nI (10 + k)) (two τ gs gm) = some (nI (wkN U W f d s), two τ gs gm) := by
  have h16 := wW.1
  have hINF := INF_eq
  intro d
  induction d with
  | zero =>
    intro m k s hk hm hs hI hd
    obtain ⟨m, rfl⟩ : ∃ q, m = q + 1 := ⟨m - 1, by omega⟩
    have : k = ix := by omega
    subst this
    rw [X11_chain_L115, if_pos (nI_le (Nat.le_refl _) (by omega))]
    rfl
  | succ d ih =>
    intro m k s hk hm hs hI hd
    obtain ⟨m, rfl⟩ : ∃ q, m = q + 1 := ⟨m - 1, by omega⟩
    have hst : s ≠ t := fun e => by
      subst e
      rw [h.1.1] at hd
      omega
    obtain ⟨u, u1, u2⟩ := h.nx hs hst hI
    obtain ⟨j, ej⟩ := fsF_ex u1 u2
    obtain ⟨j1, j2, j3⟩ := fsF_sp W.1 0 j ej
    have hjn : j < W.1 := by omega
    unfold nxp at j3
    rw [Bool.and_eq_true, decide_eq_true_eq] at j3
    have hwt : wgt U W s j = 32 * ap U W s j + 1 := rfl
    have hsI := h.1.2.1 s hs
    have hjI : f j ≠ INF := by omega
    obtain ⟨k1, k2⟩ := fin15 wU wW ht h.1 hjn hjI
    have h124 := m_L124 hM wU wW ht h hg hs hI (X11_chain_L115 m) (nI (10 + ix)) (nI (10 + k)) W.1 FU 0 (by omega) (by show _ < 1000000; omega) ej
    have h124' : X11_chain_L124 (X11_chain_L115 m) FU (nI (10 + ix)) (nI s) (nI (10 + k)) (0 : Int32) (two τ gs gm) = _ := h124
    rw [X11_chain_L115, if_neg (nI_ge (by omega) (by omega)), h124', nI_1]
    have hw : wkN U W f (d + 1) s = wkN U W f d j := by
      show wkN U W f d ((fsF (nxp U W f s) W.1 0).getD s) = _
      rw [ej]
      rfl
    rw [hw, show 10 + k + 1 = 10 + (k + 1) by omega]
    exact ih m (k + 1) j (by omega) (by omega) hjn hjI (by omega)
end Chain2
