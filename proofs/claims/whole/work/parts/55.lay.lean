section MLay
variable {τ : St} {U : DU} {W : DW}
/-- sounds, distances, names, table change alone -/
def FrN (τ τ' : St) : Prop := (∀ q, q < 19 ∨ 23 < q → gI τ' q = gI τ q) ∧ gJ τ' = gJ τ ∧ gR τ' = gR τ
theorem FrN.sI {τ' : St} {q j : Nat} {v : Int32} (h : FrN τ τ') (hq : 19 ≤ q ∧ q ≤ 23) : FrN τ (sI τ' q j v) := ⟨fun p hp => (gI_sIn (by omega)).trans (h.1 p hp), h.2⟩
theorem FrN.sIf {τ' : St} {q : Nat} {f : Nat → Int32} (h : FrN τ τ') (hq : 19 ≤ q ∧ q ≤ 23) : FrN τ (sIf τ' q f) := ⟨fun p hp => (gI_sIfn (by omega)).trans (h.1 p hp), h.2⟩
theorem FrN.MU {τ' : St} (h : FrN τ τ') (m : MU τ U) : MU τ' U := m.fr20 (fun q hq => h.1 q (by omega))
theorem FrN.MW {τ' : St} (h : FrN τ τ') (m : MW τ W) : MW τ' W := m.fr20 (fun q hq => h.1 q (by omega))
theorem sw_len (wU : WU U) (wW : WW W) {s : Nat} (hs : s < W.1) : (snd U (W.2 s)).length ≤ 20 ∧ LTR (snd U (W.2 s)) := by
  obtain ⟨g1, g2, g3⟩ := wW.2.1 s hs
  have := snd_len wU _ (W.2 s) (Nat.le_refl _)
  exact ⟨by omega, snd_ltr wU _ _ (Nat.le_refl _) g3⟩
theorem m_lay1 (mU : MU τ U) (wU : WU U) (mW : MW τ W) (wW : WW W) : ∀ d m s τ', s + d = W.1 → d < m → FrN τ τ' → (∀ t, t < s → sndM τ' t (snd U (W.2 t)) ∧ gI τ' 22 t = nI t) → ∃ τ'', X11_layNames_L2 m (nI s) τ' = X11_layNames_L30 FU 0 τ'' ∧ FrN τ τ'' ∧ ∀ t, t < W.1 → sndM τ'' t (snd U (W.2 t)) ∧ gI τ'' 22 t = nI t := by
  have hn := wW.1
  intro d
  induction d with
  | zero =>
    intro m s τ' hs hm hF hI
    obtain ⟨m, rfl⟩ : ∃ q, m = q + 1 := ⟨m - 1, by omega⟩
    have : s = W.1 := by omega
    subst this
    exact ⟨τ', by rw [X11_layNames_L2, hF.1 0 (by omega), mW.1, if_pos (nI_le (Nat.le_refl _) (by omega))], hF, hI⟩
  | succ d ih =>
    intro m s τ' hs hm hF hI
    obtain ⟨m, rfl⟩ : ∃ q, m = q + 1 := ⟨m - 1, by omega⟩
    have hsn : s < W.1 := by omega
    rw [X11_layNames_L2, hF.1 0 (by omega), mW.1, if_neg (nI_ge hsn (by omega)), m_laySound (hF.MU mU) wU (hF.MW mW) wW hsn, Option.bind_some, chk_nI (by omega) (by decide), bnd, nI_cl (by omega), nI_1]
    refine ih m (s + 1) _ (by omega) (by omega) (((hF.sIf (by omega)).sI (by omega)).sI (by omega)) (fun t ht => ?_)
    by_cases e : t = s
    · subst e
      refine ⟨⟨?_, fun i hi => ?_⟩, ?_⟩
      · rw [gI_sIn (by decide), gI_sI, if_pos ⟨rfl, rfl⟩]
      · rw [gI_sIn (by decide), gI_sIn (by decide), lds_20, row_in hi]
      · rw [gI_sI, if_pos ⟨rfl, rfl⟩]
    · obtain ⟨⟨a1, a2⟩, a3⟩ := hI t (by omega)
      have hl := (sw_len wU wW (show t < W.1 by omega)).1
      refine ⟨⟨?_, fun i hi => ?_⟩, ?_⟩
      · rw [gI_sIn (by decide), gI_sI, if_neg (fun h => e h.2), lds_o (by decide)]
        exact a1
      · rw [gI_sIn (by decide), gI_sIn (by decide), lds_20, row_out (by omega)]
        exact a2 i hi
      · rw [gI_sI, if_neg (fun h => e h.2), gI_sIn (by decide), lds_o (by decide)]
        exact a3
/-- distances alone change -/
def FrD (τ τ' : St) : Prop := (∀ q, q ≠ 21 → q ≠ 23 → gI τ' q = gI τ q) ∧ gJ τ' = gJ τ ∧ gR τ' = gR τ
def disT (U : DU) (W : DW) (i j : Nat) (τ : St) : Prop := ∀ p q, q < W.1 → (p < i ∨ (p = i ∧ q < j)) → gI τ 21 (16 * p + q) = nI (ap U W p q)
theorem FrD.go {τ' : St} (h : FrD τ τ') (f : Nat → Int32) (j : Nat) (v : Int32) : FrD τ (sI (sIf τ' 23 f) 21 j v) := ⟨fun p h1 h2 => by rw [gI_sIn h1, gI_sIfn h2]; exact h.1 p h1 h2, h.2⟩
theorem FrD.go1 {τ' : St} (h : FrD τ τ') (j : Nat) (v : Int32) : FrD τ (sI τ' 21 j v) := ⟨fun p h1 h2 => by rw [gI_sIn h1]; exact h.1 p h1 h2, h.2⟩
theorem m_lay2 (mU : MU τ U) (wU : WU U) (mW : MW τ W) (wW : WW W) (hS : ∀ t, t < W.1 → sndM τ t (snd U (W.2 t))) {s : Nat} (hs : s < W.1) (kq : Int32 → St → Option St) : ∀ d m t τ', t + d = W.1 → d < m → FrD τ τ' → disT U W s t τ' → ∃ τ'', X11_layNames_L40 kq m (nI s) (nI t) τ' = kq (nI (s + 1)) τ'' ∧ FrD τ τ'' ∧ disT U W (s + 1) 0 τ'' := by
  have hn := wW.1
  intro d
  induction d with
  | zero =>
    intro m t τ' ht hm hF hI
    obtain ⟨m, rfl⟩ : ∃ q, m = q + 1 := ⟨m - 1, by omega⟩
    have : t = W.1 := by omega
    subst this
    exact ⟨τ', by rw [X11_layNames_L40, hF.1 0 (by decide) (by decide), mW.1, if_pos (nI_le (Nat.le_refl _) (by omega)), nI_1], hF, fun p q hq hp => hI p q hq (by omega)⟩
  | succ d ih =>
    intro m t τ' ht hm hF hI
    obtain ⟨m, rfl⟩ : ∃ q, m = q + 1 := ⟨m - 1, by omega⟩
    have htn : t < W.1 := by omega
    rw [X11_layNames_L40, hF.1 0 (by decide) (by decide), mW.1, if_neg (nI_ge htn (by omega)), mul16]
    simp only [eqI (show s < 2 ^ 31 by omega) (show t < 2 ^ 31 by omega)]
    have hst : ∀ τ1 : St, FrD τ τ1 → (∀ j, j ≠ 16 * s + t → gI τ1 21 j = gI τ' 21 j) → gI τ1 21 (16 * s + t) = nI (ap U W s t) → disT U W s (t + 1) τ1 := fun τ1 _ h1 h2 p q hq hp => by
      by_cases e : p = s ∧ q = t
      · obtain ⟨rfl, rfl⟩ := e
        exact h2
      · rw [h1 _ (by omega)]
        exact hI p q hq (by omega)
    by_cases e : s = t
    · rw [if_pos e, chk_nI (by omega) (by decide), bnd, nI_cl (by omega), nI_1]
      refine ih m (t + 1) _ (by omega) (by omega) (hF.go1 _ _) (hst _ (hF.go1 _ _) (fun j hj => by rw [gI_sI, if_neg (fun h => hj h.2)]) ?_)
      rw [gI_sI, if_pos ⟨rfl, rfl⟩]
      unfold ap
      rw [if_pos e]; rfl
    · rw [if_neg e]
      have mU' : MU τ' U := mU.fr20 (fun q hq => hF.1 q (by omega) (by omega))
      have hsm : ∀ t, t < W.1 → sndM τ' t (snd U (W.2 t)) := fun t ht => by
        unfold sndM
        rw [hF.1 19 (by decide) (by decide), hF.1 20 (by decide) (by decide)]
        exact hS t ht
      obtain ⟨a1, a2⟩ := sw_len wU wW hs
      obtain ⟨b1, b2⟩ := sw_len wU wW htn
      obtain ⟨f, hf⟩ := m_farOf mU' wU (show s < 16 by omega) (show t < 16 by omega) a2 a1 b2 b1 (hsm s hs) (hsm t htn)
      rw [hf, Option.bind_some, chk_nI (by omega) (by decide), bnd, nI_cl (by omega), nI_1]
      refine ih m (t + 1) _ (by omega) (by omega) (hF.go _ _ _) (hst _ (hF.go _ _ _) (fun j hj => by rw [gI_sI, if_neg (fun h => hj h.2), gI_sIfn (by decide)]) ?_)
      rw [gI_sI, if_pos ⟨rfl, rfl⟩]
      unfold ap
      rw [if_neg e]
theorem m_lay3 (mU : MU τ U) (wU : WU U) (mW : MW τ W) (wW : WW W) (hS : ∀ t, t < W.1 → sndM τ t (snd U (W.2 t))) : ∀ d m s τ', s + d = W.1 → d < m → FrD τ τ' → disT U W s 0 τ' → ∃ τ'', X11_layNames_L30 m (nI s) τ' = X11_layNames_L88 FU 1 τ'' ∧ FrD τ τ'' ∧ disT U W W.1 0 τ'' := by
  have hn := wW.1
  intro d
  induction d with
  | zero =>
    intro m s τ' hs hm hF hI
    obtain ⟨m, rfl⟩ : ∃ q, m = q + 1 := ⟨m - 1, by omega⟩
    have : s = W.1 := by omega
    subst this
    exact ⟨τ', by rw [X11_layNames_L30, hF.1 0 (by decide) (by decide), mW.1, if_pos (nI_le (Nat.le_refl _) (by omega))], hF, hI⟩
  | succ d ih =>
    intro m s τ' hs hm hF hI
    obtain ⟨m, rfl⟩ : ∃ q, m = q + 1 := ⟨m - 1, by omega⟩
    have hsn : s < W.1 := by omega
    obtain ⟨τ1, e1, e2, e3⟩ := m_lay2 mU wU mW wW hS hsn (X11_layNames_L30 m) W.1 FU 0 τ' (by omega) (by show _ < 1000000; omega) hF hI
    obtain ⟨τ2, q1, q2, q3⟩ := ih m (s + 1) τ1 (by omega) (by omega) e2 e3
    refine ⟨τ2, ?_, q2, q3⟩
    rw [← q1, ← e1, X11_layNames_L30, hF.1 0 (by decide) (by decide), mW.1, if_neg (nI_ge hsn (by omega))]
    rfl
theorem ap_le {U : DU} {W : DW} (wU : WU U) (wW : WW W) {s t : Nat} (hs : s < W.1) (ht : t < W.1) : ap U W s t ≤ 800 := by
  unfold ap
  split
  · omega
  · have := apl_le wU (snd U (W.2 s)) (snd U (W.2 t))
    have h1 := (sw_len wU wW hs).1
    have h2 := (sw_len wU wW ht).1
    omega
theorem m_layNames (mU : MU τ U) (wU : WU U) (mW : MW τ W) (wW : WW W) {nm : Nat → Nat} (hN : NM (jn U W) W.1 nm) : ∃ τ', X11_layNames τ = some τ' ∧ FrN τ τ' ∧ (∀ t, t < W.1 → sndM τ' t (snd U (W.2 t))) ∧ (∀ s t, s < W.1 → t < W.1 → gI τ' 21 (16 * s + t) = nI (ap U W s t)) ∧ ∀ s, s < W.1 → gI τ' 22 s = nI (nm s) := by
  have hn := wW.1
  obtain ⟨τ1, e1, e2, e3⟩ := m_lay1 mU wU mW wW W.1 FU 0 τ (by omega) (by show _ < 1000000; omega) ⟨fun _ _ => rfl, rfl, rfl⟩ (fun t ht => by omega)
  have mU1 := e2.MU mU
  have mW1 := e2.MW mW
  obtain ⟨τ2, q1, q2, q3⟩ := m_lay3 mU1 wU mW1 wW (fun t ht => (e3 t ht).1) W.1 FU 0 τ1 (by omega) (by show _ < 1000000; omega) ⟨fun _ _ _ => rfl, rfl, rfl⟩ (fun p q _ h => by omega)
  have hz : gI τ2 0 0 = nI W.1 := by rw [q2.1 0 (by decide) (by decide)]; exact mW1.1
  have hu : gI τ2 7 2 = nI (uN U 2) := by rw [q2.1 7 (by decide) (by decide)]; exact mU1.2.2.1 2 (by decide)
  have hu2 := wU.2.2.2.2.2.1 2 (by decide)
  obtain ⟨g, f, p1, p2, p3⟩ := m_labAll (J := jn U W) hn hz hu (by omega) (D := ap U W) (fun s t hs ht => ⟨q3 s t ht (by omega), by have := ap_le wU wW hs ht; omega⟩) (fun s t => rfl) (sumTo id W.1) FU id (gI τ2 22) (Nat.le_refl _) (by
    have := sum_le (g := id) (b := 16) W.1 (fun k hk => by show k ≤ 16; omega)
    show _ < 1000000
    omega) (fun s hs => ⟨Nat.le_refl _, Con_n.rf⟩) (fun s hs => by rw [q2.1 22 (by decide) (by decide)]; exact (e3 s hs).2)
  rw [sIf_self] at p1
  refine ⟨sIf τ2 22 f, ?_, ⟨fun q hq => by rw [gI_sIfn (by omega), q2.1 q (by omega) (by omega)]; exact e2.1 q hq, q2.2.1.trans e2.2.1, q2.2.2.trans e2.2.2⟩, fun t ht => ?_, fun s t hs ht => ?_, fun s hs => ?_⟩
  · rw [← p1, ← q1]
    exact e1
  · unfold sndM
    rw [gI_sIfn (by decide), gI_sIfn (by decide), q2.1 19 (by decide) (by decide), q2.1 20 (by decide) (by decide)]
    exact (e3 t ht).1
  · rw [gI_sIfn (by decide)]
    exact q3 s t ht (by omega)
  · rw [gI_sIf, p2 s hs, NM_un hN p3 hs]
end MLay
