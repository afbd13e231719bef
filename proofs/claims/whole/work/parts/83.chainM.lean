/-! chains: the reference's rounds -/
section ChainM
variable {τ : St} {U : DU} {W : DW} {t : Nat}
def mat2 (n : Nat) (gs gm : Nat → Int32) (v : Nat → Nat) : Prop := ∀ s, s < n → (v s = INF ∧ gs s = nI 1000000 ∧ gm s = nI 1000000) ∨ (v s < INF ∧ gs s = nI (v s / 32) ∧ gm s = nI (v s % 32 + 1))
def two (τ : St) (gs gm : Nat → Int32) : St := sIf (sIf τ 24 gs) 25 gm
theorem two_o (τ : St) (gs gm : Nat → Int32) {q : Nat} (h1 : q ≠ 24) (h2 : q ≠ 25) : gI (two τ gs gm) q = gI τ q := by
  unfold two
  rw [gI_sIfn h2, gI_sIfn h1]
theorem two_24 (τ : St) (gs gm : Nat → Int32) : gI (two τ gs gm) 24 = gs := by
  unfold two
  rw [gI_sIfn (by decide), gI_sIf]
theorem two_25 (τ : St) (gs gm : Nat → Int32) : gI (two τ gs gm) 25 = gm := by
  unfold two
  rw [gI_sIf]
theorem two_s24 (τ : St) (gs gm : Nat → Int32) (j : Nat) (x : Int32) : sI (two τ gs gm) 24 j x = two τ (upd gs j x) gm := by
  unfold two
  rw [sIf_comm τ (by decide), sI_sIf, sIf_comm τ (by decide)]
theorem two_s25 (τ : St) (gs gm : Nat → Int32) (j : Nat) (x : Int32) : sI (two τ gs gm) 25 j x = two τ gs (upd gm j x) := by
  unfold two
  rw [sI_sIf]
/-- what the reference reads of names -/
def MC (τ : St) (U : DU) (W : DW) : Prop := gI τ 0 0 = nI W.1 ∧ gI τ 7 2 = nI (uN U 2) ∧ ∀ s u, s < W.1 → u < W.1 → gI τ 21 (16 * s + u) = nI (ap U W s u)
theorem fin15 (wU : WU U) (wW : WW W) (ht : t < W.1) {v : Nat → Nat} (hI : INV (edg U W) (wgt U W) W.1 t v) {u : Nat} (hu : u < W.1) (h : v u ≠ INF) : v u % 32 ≤ 15 ∧ v u ≤ 9615 := by
  have h16 := wW.1
  have h1 := hI.2.2.1 u hu h
  have h2 := cn_lt (v := v) hu
  omega
theorem m_L73 (hM : MC τ U W) (wU : WU U) (wW : WW W) (ht : t < W.1) {w : Nat → Nat} (hI : INV (edg U W) (wgt U W) W.1 t w) {s : Nat} (hs : s < W.1) (c0 : Bool) (kq : Int32 → Int32 → St → Option St) : ∀ d m k gs gm, k + d = W.1 → d < m → mat2 W.1 gs gm (fun x => if x = s then min (w s) (mnk (edg U W) (wgt U W) w s k) else w x) → ∃ gs' gm', X11_layChains_L73 kq m (b2 (c0 || decide (mnk (edg U W) (wgt U W) w s k < w s))) (nI s) (nI k) (two τ gs gm) = kq (b2 (c0 || decide (mnk (edg U W) (wgt U W) w s W.1 < w s))) (nI (s + 1)) (two τ gs' gm') ∧ mat2 W.1 gs' gm' (rlx (edg U W) (wgt U W) W.1 w s) := by
  have h16 := wW.1
  have hINF := INF_eq
  have hu20 := wU.2.2.2.2.2.1 2 (by decide)
  intro d
  induction d with
  | zero =>
    intro m k gs gm hk hm hg
    obtain ⟨m, rfl⟩ : ∃ q, m = q + 1 := ⟨m - 1, by omega⟩
    have : k = W.1 := by omega
    subst this
    exact ⟨gs, gm, by rw [X11_layChains_L73, two_o τ gs gm (by decide) (by decide), hM.1, if_pos (nI_le (Nat.le_refl _) (by omega)), nI_1], hg⟩
  | succ d ih =>
    intro m k gs gm hk hm hg
    obtain ⟨m, rfl⟩ : ∃ q, m = q + 1 := ⟨m - 1, by omega⟩
    have hkn : k < W.1 := by omega
    have hap : ap U W s k ≤ 800 := ap_le wU wW hs hkn
    have hmi := mnk_inf (E := edg U W) (wt := wgt U W) w s k
    have hst : mnk (edg U W) (wgt U W) w s (k + 1) = if edg U W s k = true then min (mnk (edg U W) (wgt U W) w s k) (w k + wgt U W s k) else mnk (edg U W) (wgt U W) w s k := rfl
    have skip : mnk (edg U W) (wgt U W) w s (k + 1) = mnk (edg U W) (wgt U W) w s k → ∃ gs' gm', X11_layChains_L73 kq m (b2 (c0 || decide (mnk (edg U W) (wgt U W) w s k < w s))) (nI s) (nI (k + 1)) (two τ gs gm) = kq (b2 (c0 || decide (mnk (edg U W) (wgt U W) w s W.1 < w s))) (nI (s + 1)) (two τ gs' gm') ∧ mat2 W.1 gs' gm' (rlx (edg U W) (wgt U W) W.1 w s) := fun e => by
      have := ih m (k + 1) gs gm (by omega) (by omega) (by rw [e]; exact hg)
      rw [e] at this
      exact this
    rw [X11_layChains_L73, two_o τ gs gm (q := 0) (by decide) (by decide), two_o τ gs gm (q := 21) (by decide) (by decide), two_o τ gs gm (q := 7) (by decide) (by decide), two_24, two_25, hM.1, if_neg (nI_ge hkn (by omega)), mul16, chk_nI (by omega) (by decide), nI_cl (show 16 * s + k < 2 ^ 31 by omega), bnd, hM.2.2 s k hs hkn, hM.2.1, nI_1]
    simp only [eqI (show s < 2 ^ 31 by omega) (show k < 2 ^ 31 by omega), ltI (show uN U 2 < 2 ^ 31 by omega) (show ap U W s k < 2 ^ 31 by omega)]
    by_cases e1 : s = k
    · rw [if_pos e1]
      exact skip (by rw [hst, if_neg (by unfold edg; simp [e1])])
    · rw [if_neg e1]
      by_cases e2 : uN U 2 < ap U W s k
      · rw [if_pos e2]
        exact skip (by
          rw [hst, if_neg]
          unfold edg jn
          simp
          intro _
          omega)
      · have hj : jn U W s k = true := by unfold jn; rw [decide_eq_true_eq]; omega
        have hed : edg U W s k = true := by unfold edg; rw [hj]; simp [e1]
        have hwt : wgt U W s k = 32 * ap U W s k + 1 := rfl
        rw [if_pos hed] at hst
        rw [if_neg e2, chk_nI (show k < 16 by omega) (by decide), chk_nI (show k < 16 by omega) (by decide), nI_cl (show k < 2 ^ 31 by omega)]
        have hgk := hg k hkn
        have hks : ¬ k = s := fun h => e1 h.symm
        simp only [if_neg hks] at hgk
        rcases hgk with ⟨k1, k2, k3⟩ | ⟨k1, k2, k3⟩
        · rw [k2, if_pos (by decide)]
          exact skip (by rw [hst]; omega)
        · obtain ⟨f1, f2⟩ := fin15 wU wW ht hI hkn (by omega)
          have hq : ¬ (1000000 : Int32) ≤ nI (w k / 32) := by
            rw [show (1000000 : Int32) = nI 1000000 from rfl, leI (by decide) (by omega)]
            omega
          rw [k2, if_neg hq, bnd, nI_add, chk_nI (show s < 16 by omega) (by decide), chk_nI (show s < 16 by omega) (by decide), chk_nI (show k < 16 by omega) (by decide), chk_nI (show s < 16 by omega) (by decide), nI_cl (show s < 2 ^ 31 by omega), k3, nI_1]
          have hgs := hg s hs
          simp only [if_true] at hgs
          obtain ⟨c, ec⟩ : ∃ c, c = min (w s) (mnk (edg U W) (wgt U W) w s k) := ⟨_, rfl⟩
          rw [← ec] at hgs
          have hcI : c ≤ INF := by omega
          have upd_ : w k + wgt U W s k < c → ∃ gs' gm', X11_layChains_B178 (X11_layChains_L73 kq m) (nI s) (nI k) (nI (w k / 32 + ap U W s k)) (two τ gs gm) = kq (b2 (c0 || decide (mnk (edg U W) (wgt U W) w s W.1 < w s))) (nI (s + 1)) (two τ gs' gm') ∧ mat2 W.1 gs' gm' (rlx (edg U W) (wgt U W) W.1 w s) := fun hl => by
            have hm2 : mnk (edg U W) (wgt U W) w s (k + 1) = w k + wgt U W s k := by omega
            unfold X11_layChains_B178
            rw [chk_nI (show s < 16 by omega) (by decide), nI_cl (show s < 2 ^ 31 by omega), two_s24, bnd, chk_nI (show k < 16 by omega) (by decide), chk_nI (show s < 16 by omega) (by decide), nI_cl (show k < 2 ^ 31 by omega), two_25, k3, nI_1, two_s25, bnd, nI_1]
            have hfl : (1 : Int32) = b2 (c0 || decide (mnk (edg U W) (wgt U W) w s (k + 1) < w s)) := by
              rw [decide_eq_true (show mnk (edg U W) (wgt U W) w s (k + 1) < w s by omega), Bool.or_true]
              rfl
            rw [hfl]
            refine ih m (k + 1) _ _ (by omega) (by omega) (fun x hx => ?_)
            unfold upd
            by_cases ex : x = s
            · simp only [if_pos ex]
              refine Or.inr ⟨by omega, ?_, ?_⟩
              · congr 1; omega
              · congr 1; omega
            · simp only [if_neg ex]
              have := hg x hx
              simp only [if_neg ex] at this
              exact this
          have keep : ¬ w k + wgt U W s k < c → ∃ gs' gm', X11_layChains_L73 kq m (b2 (c0 || decide (mnk (edg U W) (wgt U W) w s k < w s))) (nI s) (nI (k + 1)) (two τ gs gm) = kq (b2 (c0 || decide (mnk (edg U W) (wgt U W) w s W.1 < w s))) (nI (s + 1)) (two τ gs' gm') ∧ mat2 W.1 gs' gm' (rlx (edg U W) (wgt U W) W.1 w s) := fun hl => by
            have hm2 : min (w s) (mnk (edg U W) (wgt U W) w s (k + 1)) = c := by omega
            have hd : decide (mnk (edg U W) (wgt U W) w s (k + 1) < w s) = decide (mnk (edg U W) (wgt U W) w s k < w s) := by
              apply decide_eq_decide.mpr
              omega
            have := ih m (k + 1) gs gm (by omega) (by omega) (by rw [hm2, ec]; exact hg)
            rw [hd] at this
            exact this
          rcases hgs with ⟨s1, s2, s3⟩ | ⟨s1, s2, s3⟩
          · rw [s2]
            simp only [ltI (show w k / 32 + ap U W s k < 2 ^ 31 by omega) (show 1000000 < 2 ^ 31 by decide)]
            rw [if_pos (by omega)]
            exact upd_ (by omega)
          · rw [s2, s3]
            simp only [ltI (show w k / 32 + ap U W s k < 2 ^ 31 by omega) (show c / 32 < 2 ^ 31 by omega), eqI (show w k / 32 + ap U W s k < 2 ^ 31 by omega) (show c / 32 < 2 ^ 31 by omega), leI (show c % 32 + 1 < 2 ^ 31 by omega) (show w k % 32 + 1 + 1 < 2 ^ 31 by omega)]
            by_cases q1 : w k / 32 + ap U W s k < c / 32
            · rw [if_pos q1]
              exact upd_ (by omega)
            · rw [if_neg q1]
              by_cases q2 : w k / 32 + ap U W s k = c / 32
              · rw [if_pos q2]
                by_cases q3 : c % 32 + 1 ≤ w k % 32 + 1 + 1
                · rw [if_pos q3]
                  exact keep (by omega)
                · rw [if_neg q3]
                  exact upd_ (by omega)
              · rw [if_neg q2]
                exact keep (by omega)
theorem m_L62 (hM : MC τ U W) (wU : WU U) (wW : WW W) (ht : t < W.1) {v : Nat → Nat} (hI : INV (edg U W) (wgt U W) W.1 t v) (kq : Int32 → St → Option St) : ∀ d m s gs gm, s + d = W.1 → d < m → mat2 W.1 gs gm (rdk (edg U W) (wgt U W) W.1 v s) → ∃ gs' gm', X11_layChains_L62 kq m (b2 (chF (edg U W) (wgt U W) W.1 v s)) (nI s) (two τ gs gm) = kq (b2 (chF (edg U W) (wgt U W) W.1 v W.1)) (two τ gs' gm') ∧ mat2 W.1 gs' gm' (rdk (edg U W) (wgt U W) W.1 v W.1) := by
  have h16 := wW.1
  have hINF := INF_eq
  have hE := edg_ok wU wW ht
  intro d
  induction d with
  | zero =>
    intro m s gs gm hs hm hg
    obtain ⟨m, rfl⟩ : ∃ q, m = q + 1 := ⟨m - 1, by omega⟩
    have : s = W.1 := by omega
    subst this
    exact ⟨gs, gm, by rw [X11_layChains_L62, two_o τ gs gm (by decide) (by decide), hM.1, if_pos (nI_le (Nat.le_refl _) (by omega))], hg⟩
  | succ d ih =>
    intro m s gs gm hs hm hg
    obtain ⟨m, rfl⟩ : ∃ q, m = q + 1 := ⟨m - 1, by omega⟩
    have hsn : s < W.1 := by omega
    have hIs := hI.rk hE s (by omega)
    have hv1 := hIs.2.1 s hsn
    have h0 : mnk (edg U W) (wgt U W) (rdk (edg U W) (wgt U W) W.1 v s) s 0 = INF := rfl
    obtain ⟨gs', gm', e1, e2⟩ := m_L73 hM wU wW ht hIs hsn (chF (edg U W) (wgt U W) W.1 v s) (X11_layChains_L62 kq m) W.1 FU 0 gs gm (by omega) (by show _ < 1000000; omega) (by
      have : (fun x => if x = s then min (rdk (edg U W) (wgt U W) W.1 v s s) (mnk (edg U W) (wgt U W) (rdk (edg U W) (wgt U W) W.1 v s) s 0) else rdk (edg U W) (wgt U W) W.1 v s x) = rdk (edg U W) (wgt U W) W.1 v s := by
        funext x
        by_cases e : x = s
        · rw [if_pos e, e, h0]; omega
        · rw [if_neg e]
      rw [this]
      exact hg)
    rw [decide_eq_false (show ¬ mnk (edg U W) (wgt U W) (rdk (edg U W) (wgt U W) W.1 v s) s 0 < rdk (edg U W) (wgt U W) W.1 v s s by omega), Bool.or_false] at e1
    have e1' : X11_layChains_L73 (X11_layChains_L62 kq m) FU (b2 (chF (edg U W) (wgt U W) W.1 v s)) (nI s) (0 : Int32) (two τ gs gm) = _ := e1
    rw [X11_layChains_L62, two_o τ gs gm (by decide) (by decide), hM.1, if_neg (nI_ge hsn (by omega)), e1']
    exact ih m (s + 1) gs' gm' (by omega) (by omega) e2
theorem m_L54 (hM : MC τ U W) (wU : WU U) (wW : WW W) (ht : t < W.1) : ∀ d m i gs gm, i + d = 16 → d + 1 < m → mat2 W.1 gs gm (it (edg U W) (wgt U W) W.1 (v0 t) i) → ∃ gs' gm' r, X11_layChains_L54 m 1 (two τ gs gm) = some (two τ gs' gm') ∧ mat2 W.1 gs' gm' (it (edg U W) (wgt U W) W.1 (v0 t) r) ∧ Fixd (edg U W) (wgt U W) W.1 (it (edg U W) (wgt U W) W.1 (v0 t) r) := by
  have h16 := wW.1
  have hE := edg_ok wU wW ht
  have stop : ∀ m i gs gm, chF (edg U W) (wgt U W) W.1 (it (edg U W) (wgt U W) W.1 (v0 t) i) W.1 = false → mat2 W.1 gs gm (rdk (edg U W) (wgt U W) W.1 (it (edg U W) (wgt U W) W.1 (v0 t) i) W.1) → ∃ gs' gm' r, X11_layChains_L54 (m + 1) (b2 false) (two τ gs gm) = some (two τ gs' gm') ∧ mat2 W.1 gs' gm' (it (edg U W) (wgt U W) W.1 (v0 t) r) ∧ Fixd (edg U W) (wgt U W) W.1 (it (edg U W) (wgt U W) W.1 (v0 t) r) := fun m i gs gm hc hg => by
    obtain ⟨q1, q2⟩ := chF_no W.1 hc
    exact ⟨gs, gm, i, by rw [X11_layChains_L54, if_pos (show b2 false = 0 from rfl)], by rw [q1] at hg; exact hg, q2⟩
  intro d
  induction d with
  | zero =>
    intro m i gs gm hi hm hg
    obtain ⟨m, rfl⟩ : ∃ q, m = q + 1 := ⟨m - 1, by omega⟩
    have hI := v0_inv (t := t) (E := edg U W) (wt := wgt U W) (n := W.1) |>.im hE i
    obtain ⟨gs', gm', e1, e2⟩ := m_L62 hM wU wW ht hI (X11_layChains_L54 m) W.1 FU 0 gs gm (by omega) (by show _ < 1000000; omega) hg
    have e1' : X11_layChains_L62 (X11_layChains_L54 m) FU (0 : Int32) (0 : Int32) (two τ gs gm) = _ := e1
    have hF := it_15 (t := t) hE v0_inv (r := i) (by omega)
    have hc := (hF.rd W.1 (Nat.le_refl _)).2
    obtain ⟨m, rfl⟩ : ∃ q, m = q + 1 := ⟨m - 1, by omega⟩
    rw [X11_layChains_L54, if_neg n10, e1', hc]
    exact stop m i gs' gm' hc e2
  | succ d ih =>
    intro m i gs gm hi hm hg
    obtain ⟨m, rfl⟩ : ∃ q, m = q + 1 := ⟨m - 1, by omega⟩
    have hI := v0_inv (t := t) (E := edg U W) (wt := wgt U W) (n := W.1) |>.im hE i
    obtain ⟨gs', gm', e1, e2⟩ := m_L62 hM wU wW ht hI (X11_layChains_L54 m) W.1 FU 0 gs gm (by omega) (by show _ < 1000000; omega) hg
    have e1' : X11_layChains_L62 (X11_layChains_L54 m) FU (0 : Int32) (0 : Int32) (two τ gs gm) = _ := e1
    rw [X11_layChains_L54, if_neg n10, e1']
    cases hc : chF (edg U W) (wgt U W) W.1 (it (edg U W) (wgt U W) W.1 (v0 t) i) W.1 with
    | true => exact ih m (i + 1) gs' gm' (by omega) (by omega) e2
    | false =>
      obtain ⟨m, rfl⟩ : ∃ q, m = q + 1 := ⟨m - 1, by omega⟩
      exact stop m i gs' gm' hc e2
theorem m_layChains (hM : MC τ U W) (wU : WU U) (wW : WW W) (ht : t < W.1) : ∃ gs gm r, X11_layChains (nI t) τ = some (two τ gs gm) ∧ mat2 W.1 gs gm (it (edg U W) (wgt U W) W.1 (v0 t) r) ∧ Fixd (edg U W) (wgt U W) W.1 (it (edg U W) (wgt U W) W.1 (v0 t) r) := by
  have h16 := wW.1
  have hINF := INF_eq
  have key : ∀ d m k gs gm, k + d = W.1 → d < m → (∀ x, x < k → gs x = (if x = t then nI 0 else nI 1000000) ∧ gm x = (if x = t then nI 1 else nI 1000000)) → ∃ gs' gm', X11_layChains_L2 m (nI t) (nI k) (two τ gs gm) = X11_layChains_L54 FU 1 (two τ gs' gm') ∧ ∀ x, x < W.1 → gs' x = (if x = t then nI 0 else nI 1000000) ∧ gm' x = (if x = t then nI 1 else nI 1000000) := by
    intro d
    induction d with
    | zero =>
      intro m k gs gm hk hm hg
      obtain ⟨m, rfl⟩ : ∃ q, m = q + 1 := ⟨m - 1, by omega⟩
      have : k = W.1 := by omega
      subst this
      exact ⟨gs, gm, by rw [X11_layChains_L2, two_o τ gs gm (by decide) (by decide), hM.1, if_pos (nI_le (Nat.le_refl _) (by omega))], hg⟩
    | succ d ih =>
      intro m k gs gm hk hm hg
      obtain ⟨m, rfl⟩ : ∃ q, m = q + 1 := ⟨m - 1, by omega⟩
      have fin : ∀ a b : Int32, a = (if k = t then nI 0 else nI 1000000) → b = (if k = t then nI 1 else nI 1000000) → ∃ gs' gm', X11_layChains_L2 m (nI t) (nI (k + 1)) (two τ (upd gs k a) (upd gm k b)) = X11_layChains_L54 FU 1 (two τ gs' gm') ∧ ∀ x, x < W.1 → gs' x = (if x = t then nI 0 else nI 1000000) ∧ gm' x = (if x = t then nI 1 else nI 1000000) := fun a b ha hb => ih m (k + 1) _ _ (by omega) (by omega) (fun x hx => by
        unfold upd
        by_cases e : x = k
        · subst e; rw [if_pos rfl, if_pos rfl]; exact ⟨ha, hb⟩
        · rw [if_neg e, if_neg e]; exact hg x (by omega))
      rw [X11_layChains_L2, two_o τ gs gm (by decide) (by decide), hM.1, if_neg (nI_ge (by omega) (by omega))]
      simp only [eqI (show k < 2 ^ 31 by omega) (show t < 2 ^ 31 by omega)]
      by_cases e : k = t
      · rw [if_pos e]
        unfold X11_layChains_B27
        rw [chk_nI (by omega) (by decide), nI_cl (by omega), two_s24, bnd, if_pos (by rw [e]), chk_nI (by omega) (by decide), two_s25, bnd, nI_1]
        exact fin _ _ (by rw [if_pos e]; rfl) (by rw [if_pos e]; rfl)
      · rw [if_neg e]
        unfold X11_layChains_B27
        rw [chk_nI (by omega) (by decide), nI_cl (by omega), two_s24, bnd, if_neg (by rw [eqI (by omega) (by omega)]; exact e), chk_nI (by omega) (by decide), two_s25, bnd, nI_1]
        exact fin _ _ (by rw [if_neg e]; rfl) (by rw [if_neg e]; rfl)
  have hself : two τ (gI τ 24) (gI τ 25) = τ := by
    unfold two
    rw [sIf_self, sIf_self]
  obtain ⟨gs, gm, e1, e2⟩ := key W.1 FU 0 (gI τ 24) (gI τ 25) (by omega) (by show _ < 1000000; omega) (fun x hx => by omega)
  rw [hself] at e1
  obtain ⟨gs', gm', r, q1, q2, q3⟩ := m_L54 (τ := τ) hM wU wW ht 16 FU 0 gs gm (by decide) (by decide) (fun x hx => by
    obtain ⟨a1, a2⟩ := e2 x hx
    by_cases e : x = t
    · have hv : v0 t x = 0 := by unfold v0; rw [if_pos e]
      rw [if_pos e] at a1 a2
      exact Or.inr ⟨by show v0 t x < INF; rw [hv]; omega, by show gs x = nI (v0 t x / 32); rw [hv, a1], by show gm x = nI (v0 t x % 32 + 1); rw [hv, a2]⟩
    · have hv : v0 t x = INF := by unfold v0; rw [if_neg e]
      rw [if_neg e] at a1 a2
      exact Or.inl ⟨hv, a1, a2⟩)
  refine ⟨gs', gm', r, ?_, q2, q3⟩
  unfold X11_layChains
  rw [show (0 : Int32) = nI 0 from rfl, e1, q1]
end ChainM
