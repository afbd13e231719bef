/-! standing: the reference, both -/
section Stand2
variable {σ τ : St} {U : DU} {W : DW} {nm : Nat → Nat}
def nmc (nm : Nat → Nat) (k : Nat) : Nat := sumTo (fun s => if nm s = s then 1 else 0) k
theorem nmc_s (nm : Nat → Nat) (k : Nat) : nmc nm (k + 1) = nmc nm k + if nm k = k then 1 else 0 := rfl
theorem c_hmn (hW : CW σ W U nm) (wW : WW W) (hN : NM (jn U W) W.1 nm) : X9_howManyNames σ = some (nI (nmc nm W.1)) := by
  have h16 := wW.1
  have key := loop0 (fun m k (o : Nat) => X9_howManyNames_L4 σ m (nI o) (nI k)) W.1 (fun k => nmc nm k) (some (nI (nmc nm W.1))) (by omega) (fun m k hk => ?_) (fun m => ?_)
  · exact key
  · show X9_howManyNames_L4 σ (m + 1) (nI (nmc nm k)) (nI k) = X9_howManyNames_L4 σ m (nI (nmc nm (k + 1))) (nI (k + 1))
    have := nm_lt hN hk
    rw [X9_howManyNames_L4, hW.1, if_neg (nI_ge hk (by omega)), chk_nI (by omega) (by decide), nI_cl (by omega), hW.2.2.2.2.2.2.2 k hk, nI_1, nI_1, nmc_s]
    simp only [eqI (show nm k < 2 ^ 31 by omega) (show k < 2 ^ 31 by omega)]
    by_cases e : nm k = k
    · rw [if_pos e, if_pos e]
    · rw [if_neg e, if_neg e]
      rfl
  · show X9_howManyNames_L4 σ (m + 1) (nI (nmc nm W.1)) (nI W.1) = _
    rw [X9_howManyNames_L4, hW.1, if_pos (nI_le (Nat.le_refl _) (by omega))]
def jM (U : DU) (W : DW) (g : Nat → Int32) (k : Nat) : Prop := ∀ x, x < k → g x = nI (bs (jn U W x) W.1)
theorem m_L58 (hM : MC τ U W) (wU : WU U) (wW : WW W) (x1 x2 : Int32) (kq : Int32 → Int32 → Int32 → St → Option (Int32 × St)) {s : Nat} (hs : s < W.1) : ∀ d m k g, k + d = W.1 → d < m → g s = nI (bs (jn U W s) k) → jM U W g s → ∃ g', X11_standing_L58 kq m x1 x2 (nI s) (nI k) (sIf τ 26 g) = kq x1 x2 (nI (s + 1)) (sIf τ 26 g') ∧ jM U W g' (s + 1) := by
  have h16 := wW.1
  have hu20 := wU.2.2.2.2.2.1 2 (by decide)
  intro d
  induction d with
  | zero =>
    intro m k g hk hm h1 h2
    obtain ⟨m, rfl⟩ : ∃ q, m = q + 1 := ⟨m - 1, by omega⟩
    have : k = W.1 := by omega
    subst this
    refine ⟨g, by rw [X11_standing_L58, gI_sIfn (by decide), hM.1, if_pos (nI_le (Nat.le_refl _) (by omega)), nI_1], fun x hx => ?_⟩
    by_cases e : x = s
    · subst e; exact h1
    · exact h2 x (by omega)
  | succ d ih =>
    intro m k g hk hm h1 h2
    obtain ⟨m, rfl⟩ : ∃ q, m = q + 1 := ⟨m - 1, by omega⟩
    have hkn : k < W.1 := by omega
    have hap : ap U W s k ≤ 800 := ap_le wU wW hs hkn
    have go : ∀ v, v = nI (bs (jn U W s) (k + 1)) → ∃ g', X11_standing_L58 kq m x1 x2 (nI s) (nI (k + 1)) (sIf τ 26 (upd g s v)) = kq x1 x2 (nI (s + 1)) (sIf τ 26 g') ∧ jM U W g' (s + 1) := fun v hv => ih m (k + 1) _ (by omega) (by omega) (by unfold upd; rw [if_pos rfl]; exact hv) (fun x hx => by
      unfold upd
      rw [if_neg (by omega)]
      exact h2 x hx)
    rw [X11_standing_L58, gI_sIfn (q' := 0) (by decide), gI_sIfn (q' := 21) (by decide), gI_sIfn (q' := 7) (by decide), gI_sIf, hM.1, if_neg (nI_ge hkn (by omega)), chk_nI (show s < 16 by omega) (by decide), nI_cl (show s < 2 ^ 31 by omega), h1, one_shl32 k (by omega), nI_or, mul16, chk_nI (show 16 * s + k < 256 by omega) (by decide), nI_cl (show 16 * s + k < 2 ^ 31 by omega), hM.2.2 s k hs hkn, hM.2.1, nI_1]
    simp only [eqI (show s < 2 ^ 31 by omega) (show k < 2 ^ 31 by omega), ltI (show uN U 2 < 2 ^ 31 by omega) (show ap U W s k < 2 ^ 31 by omega)]
    by_cases e1 : s = k
    · have hj : jn U W s k = true := by rw [← e1]; exact jn_self s
      rw [if_pos e1, chk_nI (show s < 16 by omega) (by decide), bnd, sI_sIf]
      exact go _ (by rw [bs_set hj])
    · rw [if_neg e1]
      by_cases e2 : uN U 2 < ap U W s k
      · have hj : jn U W s k = false := by unfold jn; rw [decide_eq_false_iff_not]; omega
        rw [if_pos e2, chk_nI (show s < 16 by omega) (by decide), bnd, sI_sIf]
        exact go _ (by rw [show (0 : Int32) = nI 0 from rfl, nI_or, Nat.or_zero, bs_no hj])
      · have hj : jn U W s k = true := by unfold jn; rw [decide_eq_true_eq]; omega
        rw [if_neg e2, chk_nI (show s < 16 by omega) (by decide), bnd, sI_sIf]
        exact go _ (by rw [bs_set hj])
theorem m_L22 (hM : MC τ U W) (wU : WU U) (wW : WW W) (hN : NM (jn U W) W.1 nm) (h5 : ∀ s, s < W.1 → gI τ 22 s = nI (nm s)) (x1 : Int32) : ∀ d m s g, s + d = W.1 → d < m → jM U W g s → ∃ g', X11_standing_L22 m x1 (nI (nmc nm s)) (nI s) (sIf τ 26 g) = X11_standing_L138 FU x1 (nI (nmc nm W.1)) (nI (2 ^ W.1 - 1)) (nI (2 ^ W.1 - 1)) 0 (sIf τ 26 g') ∧ jM U W g' W.1 := by
  have h16 := wW.1
  have hp0 : 0 < 2 ^ W.1 := Nat.pow_pos (by decide)
  intro d
  induction d with
  | zero =>
    intro m s g hs hm h1
    obtain ⟨m, rfl⟩ : ∃ q, m = q + 1 := ⟨m - 1, by omega⟩
    have : s = W.1 := by omega
    subst this
    exact ⟨g, by rw [X11_standing_L22, gI_sIfn (by decide), hM.1, if_pos (nI_le (Nat.le_refl _) (by omega)), one_shl32 W.1 (by omega), show nI (2 ^ W.1) - 1 = nI (2 ^ W.1 - 1) from subI (b := 1) (by omega), bnd], h1⟩
  | succ d ih =>
    intro m s g hs hm h1
    obtain ⟨m, rfl⟩ : ∃ q, m = q + 1 := ⟨m - 1, by omega⟩
    have hsn : s < W.1 := by omega
    have hnm := nm_lt hN hsn
    have go : ∀ x2, x2 = nI (nmc nm (s + 1)) → ∃ g', X11_standing_L58 (X11_standing_L22 m) FU x1 x2 (nI s) 0 (sIf τ 26 (upd g s 0)) = X11_standing_L138 FU x1 (nI (nmc nm W.1)) (nI (2 ^ W.1 - 1)) (nI (2 ^ W.1 - 1)) 0 (sIf τ 26 g') ∧ jM U W g' W.1 := fun x2 hx => by
      obtain ⟨g1, e1, e2⟩ := m_L58 hM wU wW x1 x2 (X11_standing_L22 m) hsn W.1 FU 0 (upd g s 0) (by omega) (by show _ < 1000000; omega) (by unfold upd; rw [if_pos rfl]; rfl) (fun x hx => by unfold upd; rw [if_neg (by omega)]; exact h1 x hx)
      obtain ⟨g2, e3, e4⟩ := ih m (s + 1) g1 (by omega) (by omega) e2
      rw [hx] at e1
      refine ⟨g2, ?_, e4⟩
      rw [hx, show (0 : Int32) = nI 0 from rfl]
      rw [show (0 : Int32) = nI 0 from rfl] at e3 e1
      rw [e1, e3]
    rw [X11_standing_L22, gI_sIfn (q' := 0) (by decide), gI_sIfn (q' := 22) (by decide), hM.1, if_neg (nI_ge hsn (by omega)), chk_nI (show s < 16 by omega) (by decide), nI_cl (show s < 2 ^ 31 by omega), h5 s hsn, nI_1]
    simp only [eqI (show nm s < 2 ^ 31 by omega) (show s < 2 ^ 31 by omega)]
    by_cases e : nm s = s
    · rw [if_pos e, bnd, chk_nI (show s < 16 by omega) (by decide), bnd, sI_sIf]
      exact go _ (by rw [nmc_s, if_pos e])
    · rw [if_neg e, bnd, chk_nI (show s < 16 by omega) (by decide), bnd, sI_sIf]
      exact go _ (by rw [nmc_s, if_neg e, Int32.add_zero, Nat.add_zero])
theorem bs_all (n : Nat) : 2 ^ n - 1 = bs (fun _ => true) n := by
  apply Nat.eq_of_testBit_eq
  intro i
  rw [bit_all, bs_bit, Bool.and_true]
theorem covM_bs {J : Nat → Nat → Bool} {n S : Nat} : bs (cvM J S n) n = 2 ^ n - 1 ↔ covM J n S = true := by
  rw [bs_all]
  unfold covM
  rw [List.all_eq_true]
  constructor
  · intro h q hq
    exact bs_inj h q (List.mem_range.mp hq)
  · intro h
    apply bs_ext
    intro q hq
    exact h q (List.mem_range.mpr hq)
theorem m_L155 (hn : gI τ 0 0 = nI W.1) (wW : WW W) {g : Nat → Int32} (hg : gI τ 26 = g) (hj : jM U W g W.1) (x1 x2 : Int32) (kq : Int32 → Int32 → Int32 → Int32 → Int32 → St → Option (Int32 × St)) {best S : Nat} (hb : best < 2 ^ W.1) (hS : S < 2 ^ W.1) : ∀ d m k, k + d = W.1 → d < m → X11_standing_L155 kq m x1 x2 (nI (2 ^ W.1 - 1)) (nI best) (nI S) (nI (bs (cvM (jn U W) S k) W.1)) (nI k) τ = if covM (jn U W) W.1 S = true ∧ bc S 16 < bc best 16 then kq x1 x2 (nI (2 ^ W.1 - 1)) (nI S) (nI (S + 1)) τ else kq x1 x2 (nI (2 ^ W.1 - 1)) (nI best) (nI (S + 1)) τ := by
  have h16 := wW.1
  have hp : 2 ^ W.1 ≤ 65536 := Nat.pow_le_pow_right (n := 2) (by decide) h16
  intro d
  induction d with
  | zero =>
    intro m k hk hm
    obtain ⟨m, rfl⟩ : ∃ q, m = q + 1 := ⟨m - 1, by omega⟩
    have : k = W.1 := by omega
    subst this
    have b1 := bs_lt16 (cvM (jn U W) S W.1) h16
    have l1 := bc_le S 16
    have l2 := bc_le best 16
    rw [X11_standing_L155, hn, if_pos (nI_le (Nat.le_refl _) (by omega)), m_sizeOf (by omega), Option.bind_some, m_sizeOf (by omega), Option.bind_some, nI_1]
    simp only [eqI (show bs (cvM (jn U W) S W.1) W.1 < 2 ^ 31 by omega) (show 2 ^ W.1 - 1 < 2 ^ 31 by omega), leI (show bc best 16 < 2 ^ 31 by omega) (show bc S 16 < 2 ^ 31 by omega)]
    by_cases e1 : bs (cvM (jn U W) S W.1) W.1 = 2 ^ W.1 - 1
    · rw [if_pos e1]
      by_cases e2 : bc best 16 ≤ bc S 16
      · rw [if_pos e2, if_neg (fun h => by omega)]
      · rw [if_neg e2, if_pos ⟨covM_bs.mp e1, by omega⟩]
    · rw [if_neg e1, if_neg (fun h => e1 (covM_bs.mpr h.1))]
  | succ d ih =>
    intro m k hk hm
    obtain ⟨m, rfl⟩ : ∃ q, m = q + 1 := ⟨m - 1, by omega⟩
    have hkn : k < W.1 := by omega
    have ih' := ih m (k + 1) (by omega) (by omega)
    rw [X11_standing_L155, hn, if_neg (nI_ge hkn (by omega)), chk_nI (by omega) (by decide), nI_cl (by omega), hg, hj k hkn, nI_or, bs_or, bnd, bnd, show (0 : Int32) = nI 0 from rfl, nI_or, Nat.or_zero, nI_1]
    by_cases e : S.testBit k = true
    · rw [if_pos ((bit32 (by omega) (show k < 32 by omega)).mpr e), ← ih']
      congr 2
      apply bs_ext
      intro q _
      rw [cvM_s, e, Bool.true_and]
    · rw [if_neg (fun h => e ((bit32 (by omega) (show k < 32 by omega)).mp h)), ← ih']
      congr 2
      apply bs_ext
      intro q _
      rw [cvM_s]
      simp [e]
theorem m_L138 (hn : gI τ 0 0 = nI W.1) (wW : WW W) {g : Nat → Int32} (hg : gI τ 26 = g) (hj : jM U W g W.1) (x1 x2 : Int32) (hx : x1 = 0 ∨ x1 = 1) : ∀ d m S best, S + d = 2 ^ W.1 → d < m → best < 2 ^ W.1 → covM (jn U W) W.1 best = true → (∀ T, T < S → covM (jn U W) W.1 T = true → bc best 16 ≤ bc T 16) → ∃ best', X11_standing_L138 m x1 x2 (nI (2 ^ W.1 - 1)) (nI best) (nI S) τ = X11_standing_B226 x1 x2 (nI (2 ^ W.1 - 1)) (nI best') τ ∧ best' < 2 ^ W.1 ∧ covM (jn U W) W.1 best' = true ∧ ∀ T, T < 2 ^ W.1 → covM (jn U W) W.1 T = true → bc best' 16 ≤ bc T 16 := by
  have h16 := wW.1
  have hp : 2 ^ W.1 ≤ 65536 := Nat.pow_le_pow_right (n := 2) (by decide) h16
  have hp0 : 0 < 2 ^ W.1 := Nat.pow_pos (by decide)
  intro d
  induction d with
  | zero =>
    intro m S best hS hm hb hc hl
    obtain ⟨m, rfl⟩ : ∃ q, m = q + 1 := ⟨m - 1, by omega⟩
    exact ⟨best, by rw [X11_standing_L138, if_pos (by rw [ltI (by omega) (by omega)]; omega)], hb, hc, fun T hT => hl T (by omega)⟩
  | succ d ih =>
    intro m S best hS hm hb hc hl
    obtain ⟨m, rfl⟩ : ∃ q, m = q + 1 := ⟨m - 1, by omega⟩
    have h155 := m_L155 hn wW hg hj x1 x2 (X11_standing_L138 m) hb (show S < 2 ^ W.1 by omega) W.1 FU 0 (by omega) (by show _ < 1000000; omega)
    have h00 : nI (bs (cvM (jn U W) S 0) W.1) = 0 := by
      show nI (bs (fun _ => false) W.1) = 0
      rw [bs_0]
      rfl
    rw [h00] at h155
    have h155' : X11_standing_L155 (X11_standing_L138 m) FU x1 x2 (nI (2 ^ W.1 - 1)) (nI best) (nI S) (0 : Int32) (0 : Int32) τ = _ := h155
    have hx2 : ¬ (2 : Int32) ≤ x1 := by
      rcases hx with e | e
      · rw [e]; decide
      · rw [e]; decide
    rw [X11_standing_L138, if_neg (by rw [ltI (by omega) (by omega)]; omega), if_neg hx2, h155']
    by_cases e : covM (jn U W) W.1 S = true ∧ bc S 16 < bc best 16
    · rw [if_pos e]
      exact ih m (S + 1) S (by omega) (by omega) (by omega) e.1 (fun T hT hTc => by
        by_cases eT : T = S
        · subst eT; exact Nat.le_refl _
        · have := hl T (by omega) hTc
          omega)
    · rw [if_neg e]
      exact ih m (S + 1) best (by omega) (by omega) hb hc (fun T hT hTc => by
        by_cases eT : T = S
        · subst eT
          rcases Nat.lt_or_ge (bc T 16) (bc best 16) with h1 | h1
          · exact absurd ⟨hTc, h1⟩ e
          · exact h1
        · exact hl T (by omega) hTc)
theorem m_L13 (hn : gI τ 0 0 = nI W.1) (wW : WW W) {g : Nat → Int32} (hg : gI τ 26 = g) (hj : jM U W g W.1) (kq : Int32 → Int32 → Int32 → Option Int32) {k S : Nat} (hk : k ≤ 16) (hS : S < 2 ^ W.1) : ∀ d m i, i + d = W.1 → d < m → X11_firstAsFew_L13 kq τ m (nI k) (nI (2 ^ W.1 - 1)) (nI S) (nI (bs (cvM (jn U W) S i) W.1)) (nI i) = if covM (jn U W) W.1 S = true ∧ bc S 16 = k then some (nI S) else kq (nI k) (nI (2 ^ W.1 - 1)) (nI (S + 1)) := by
  have h16 := wW.1
  have hp : 2 ^ W.1 ≤ 65536 := Nat.pow_le_pow_right (n := 2) (by decide) h16
  intro d
  induction d with
  | zero =>
    intro m i hi hm
    obtain ⟨m, rfl⟩ : ∃ q, m = q + 1 := ⟨m - 1, by omega⟩
    have : i = W.1 := by omega
    subst this
    have b1 := bs_lt16 (cvM (jn U W) S W.1) h16
    have l1 := bc_le S 16
    rw [X11_firstAsFew_L13, hn, if_pos (nI_le (Nat.le_refl _) (by omega)), m_sizeOf (by omega), Option.bind_some, nI_1]
    simp only [eqI (show bs (cvM (jn U W) S W.1) W.1 < 2 ^ 31 by omega) (show 2 ^ W.1 - 1 < 2 ^ 31 by omega), eqI (show bc S 16 < 2 ^ 31 by omega) (show k < 2 ^ 31 by omega)]
    by_cases e1 : bs (cvM (jn U W) S W.1) W.1 = 2 ^ W.1 - 1
    · rw [if_pos e1]
      by_cases e2 : bc S 16 = k
      · rw [if_pos e2, if_pos ⟨covM_bs.mp e1, e2⟩]
      · rw [if_neg e2, if_neg (fun h => e2 h.2)]
    · rw [if_neg e1, if_neg (fun h => e1 (covM_bs.mpr h.1))]
  | succ d ih =>
    intro m i hi hm
    obtain ⟨m, rfl⟩ : ∃ q, m = q + 1 := ⟨m - 1, by omega⟩
    have hin : i < W.1 := by omega
    have ih' := ih m (i + 1) (by omega) (by omega)
    rw [X11_firstAsFew_L13, hn, if_neg (nI_ge hin (by omega)), chk_nI (by omega) (by decide), nI_cl (by omega), hg, hj i hin, nI_or, bs_or, bnd, bnd, show (0 : Int32) = nI 0 from rfl, nI_or, Nat.or_zero, nI_1]
    by_cases e : S.testBit i = true
    · rw [if_pos ((bit32 (by omega) (show i < 32 by omega)).mpr e), ← ih']
      congr 2
      apply bs_ext
      intro q _
      rw [cvM_s, e, Bool.true_and]
    · rw [if_neg (fun h => e ((bit32 (by omega) (show i < 32 by omega)).mp h)), ← ih']
      congr 2
      apply bs_ext
      intro q _
      rw [cvM_s]
      simp [e]
theorem m_few (hn : gI τ 0 0 = nI W.1) (wW : WW W) {g : Nat → Int32} (hg : gI τ 26 = g) (hj : jM U W g W.1) {k T : Nat} (h : STD (jn U W) W.1 k T) : X11_firstAsFew (nI k) (nI (2 ^ W.1 - 1)) τ = some (nI T) := by
  have h16 := wW.1
  have hp : 2 ^ W.1 ≤ 65536 := Nat.pow_le_pow_right (n := 2) (by decide) h16
  have hT := h.1
  have hk : k ≤ 16 := by have := bc_le T 16; have := h.2.2.1; omega
  have key : ∀ d m S, S + d = T → d < m → X11_firstAsFew_L2 τ m (nI k) (nI (2 ^ W.1 - 1)) (nI S) = some (nI T) := by
    intro d
    induction d with
    | zero =>
      intro m S hS hm
      obtain ⟨m, rfl⟩ : ∃ q, m = q + 1 := ⟨m - 1, by omega⟩
      have : S = T := by omega
      subst this
      have h13 := m_L13 hn wW hg hj (X11_firstAsFew_L2 τ m) hk (show S < 2 ^ W.1 by omega) W.1 FU 0 (by omega) (by show _ < 1000000; omega)
      have h00 : nI (bs (cvM (jn U W) S 0) W.1) = 0 := by
        show nI (bs (fun _ => false) W.1) = 0
        rw [bs_0]
        rfl
      rw [h00, if_pos ⟨h.2.1, h.2.2.1⟩] at h13
      have h13' : X11_firstAsFew_L13 (X11_firstAsFew_L2 τ m) τ FU (nI k) (nI (2 ^ W.1 - 1)) (nI S) (0 : Int32) (0 : Int32) = _ := h13
      rw [X11_firstAsFew_L2, if_neg (by rw [ltI (by omega) (by omega)]; omega), h13']
    | succ d ih =>
      intro m S hS hm
      obtain ⟨m, rfl⟩ : ∃ q, m = q + 1 := ⟨m - 1, by omega⟩
      have h13 := m_L13 hn wW hg hj (X11_firstAsFew_L2 τ m) hk (show S < 2 ^ W.1 by omega) W.1 FU 0 (by omega) (by show _ < 1000000; omega)
      have h00 : nI (bs (cvM (jn U W) S 0) W.1) = 0 := by
        show nI (bs (fun _ => false) W.1) = 0
        rw [bs_0]
        rfl
      rw [h00, if_neg (fun hc => by
        have := h.2.2.2.2 S (by omega) hc.1 hc.2
        omega)] at h13
      have h13' : X11_firstAsFew_L13 (X11_firstAsFew_L2 τ m) τ FU (nI k) (nI (2 ^ W.1 - 1)) (nI S) (0 : Int32) (0 : Int32) = _ := h13
      rw [X11_firstAsFew_L2, if_neg (by rw [ltI (by omega) (by omega)]; omega), h13']
      exact ih m (S + 1) (by omega) (by omega)
  exact key T FU 0 (by omega) (by show _ < 1000000; omega)
theorem eq_standing (h : Rel σ τ) (x : Int32) : Eq2 (pu (X10_standing x σ) σ) (X11_standing x τ) := by
  have hA := h
  have h0 := h
  obtain ⟨A, hC, hM, hW⟩ := h
  obtain ⟨hP, hB, hL, hR, hZ, hS, hT, hWd, r, hQ, hU⟩ := hC
  obtain ⟨mP, mB, mL, mR, mZ, mS, mT, mWd, mU, mK⟩ := hM
  obtain ⟨w1, w2, w3, w4, w5, w6, w7, w8, w9, w10⟩ := hW
  have h16 := w8.1
  have hin := in_eq x 0 2 τ
  have hp : 2 ^ (aW A).1 ≤ 65536 := Nat.pow_le_pow_right (n := 2) (by decide) h16
  have hp0 : 0 < 2 ^ (aW A).1 := Nat.pow_pos (by decide)
  unfold X10_standing X11_standing
  rw [show (0 : Int64) = (0 : Int32).toInt64 from rfl, show (2 : Int64) = (2 : Int32).toInt64 from rfl, hin, Option.bind_some]
  rcases rngc x 2 2 (by decide) with ⟨j, hj, rfl, c1, c2, c3, c4⟩ | ⟨c1, c2⟩ | ⟨c1, c2, c3, c4⟩
  · simp only [c1, c2, c4, if_true, if_false, decide_true, Bool.and_self, b2_t, one0]
    obtain ⟨τ1, f1, f2, f3, f4, f5⟩ := m_layNames mU w9 mWd w8 w10
    have hMC : MC τ1 (aU A) (aW A) := ⟨by rw [f2.1 0 (by omega)]; exact mWd.1, by rw [f2.1 7 (by omega)]; exact mU.2.2.1 2 (by decide), f4⟩
    obtain ⟨g, e1, e2⟩ := m_L22 hMC w9 w8 w10 f5 (nI j) (aW A).1 FU 0 (gI τ1 26) (by omega) (by show _ < 1000000; omega) (fun x hx => by omega)
    rw [sIf_self] at e1
    have e1' : X11_standing_L22 FU (nI j) (0 : Int32) (0 : Int32) τ1 = _ := e1
    have hsc : ScM τ (sIf τ1 26 g) := f2.sc.tr ⟨fun q _ h2 _ => gI_sIfn (by omega), rfl⟩
    have hR := hA.fr ScC.rf hsc
    have hg0 : gI (sIf τ1 26 g) 0 0 = nI (aW A).1 := by rw [gI_sIfn (by decide)]; exact hMC.1
    have hg26 : gI (sIf τ1 26 g) 26 = g := gI_sIf _ _ _
    rw [f1, Option.bind_some, e1']
    obtain ⟨k, T, hSTD⟩ := STD_ex (J := jn (aU A) (aW A)) (n := (aW A).1) (fun s => jn_self s)
    have hT := hSTD.1
    have hcT : X1_fewest (gI σ 18 1) σ = some (nI T) := by
      rw [hWd.1]
      rcases Nat.eq_zero_or_pos (aW A).1 with e | e
      · rw [e] at hT ⊢
        have : T = 0 := by simpa using hT
        rw [this]
        rfl
      · exact c_few hWd w8 e hSTD
    rcases (by omega : j = 0 ∨ j = 1 ∨ j = 2) with rfl | rfl | rfl
    · obtain ⟨best, q1, q2, q3, q4⟩ := m_L138 hg0 w8 hg26 e2 (nI 0) (nI (nmc (aN A) (aW A).1)) (Or.inl rfl) (2 ^ (aW A).1) FU 0 (2 ^ (aW A).1 - 1) (by omega) (by show _ < 1000000; omega) (by omega) (cov_all (fun s => jn_self s)) (fun T hT => by omega)
      have hk : bc best 16 = k := by
        have h1 := q4 T hT hSTD.2.1
        have h2 := hSTD.2.2.2.1 best q2 q3
        have h3 := hSTD.2.2.1
        omega
      have q1' : X11_standing_L138 FU (nI 0) (nI (nmc (aN A) (aW A).1)) (nI (2 ^ (aW A).1 - 1)) (nI (2 ^ (aW A).1 - 1)) 0 (sIf τ1 26 g) = _ := q1
      rw [if_neg (show ¬ nI 0 = 2 by decide), hcT, Option.bind_some, if_pos (show nI 0 = 0 from rfl), c_pop32 (by omega), Option.bind_some, bc16 (by omega), hSTD.2.2.1, q1']
      unfold X11_standing_B226
      rw [if_pos (show nI 0 = 0 from rfl), m_sizeOf (by omega), Option.bind_some, hk]
      exact Eq2.pt rfl rfl hR
    · obtain ⟨best, q1, q2, q3, q4⟩ := m_L138 hg0 w8 hg26 e2 (nI 1) (nI (nmc (aN A) (aW A).1)) (Or.inr rfl) (2 ^ (aW A).1) FU 0 (2 ^ (aW A).1 - 1) (by omega) (by show _ < 1000000; omega) (by omega) (cov_all (fun s => jn_self s)) (fun T hT => by omega)
      have hk : bc best 16 = k := by
        have h1 := q4 T hT hSTD.2.1
        have h2 := hSTD.2.2.2.1 best q2 q3
        have h3 := hSTD.2.2.1
        omega
      have q1' : X11_standing_L138 FU (nI 1) (nI (nmc (aN A) (aW A).1)) (nI (2 ^ (aW A).1 - 1)) (nI (2 ^ (aW A).1 - 1)) 0 (sIf τ1 26 g) = _ := q1
      rw [if_neg (show ¬ nI 1 = 2 by decide), hcT, Option.bind_some, if_neg (show ¬ nI 1 = 0 by decide), q1']
      unfold X11_standing_B226
      rw [if_neg (show ¬ nI 1 = 0 by decide), if_pos (show nI 1 = 1 from rfl), m_sizeOf (by omega), Option.bind_some, hk, m_few hg0 w8 hg26 e2 hSTD, Option.bind_some]
      exact Eq2.pt rfl rfl hR
    · obtain ⟨z, hz⟩ : ∃ n, FU = n + 1 := ⟨999999, rfl⟩
      rw [if_pos (show nI 2 = 2 from rfl), c_hmn hWd w8 w10, Option.bind_some, hz, X11_standing_L138, if_neg (by rw [show (0 : Int32) = nI 0 from rfl, ltI (by omega) (by decide)]; omega), if_pos (show (2 : Int32) ≤ nI 2 by decide)]
      unfold X11_standing_B226
      rw [if_neg (show ¬ nI 2 = 0 by decide), if_neg (show ¬ nI 2 = 1 by decide)]
      exact Eq2.pt rfl rfl hR
  · simp only [c1, c2, if_true, decide_false, Bool.false_and, b2_f]
    exact Eq2.pt rfl rfl h0
  · simp only [c1, c2, c4, if_true, if_false, decide_true, decide_false, Bool.and_false, b2_f]
    exact Eq2.pt rfl rfl h0
end Stand2
