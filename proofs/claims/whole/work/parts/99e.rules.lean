/-! rules: before and after the text -/
def nF : Nat → Nat := fun j => ([3, 4, 4, 5, 1, 1, 1, 1] : List Nat).getD j 0
def U0 : DU := (nF, 0, fun _ => [], fun _ => [], 0, fun _ => 0, fun _ => 0, fun _ => 0)
theorem U0_ok : WUp U0 0 := ⟨by decide, fun c hc => by have : c < 0 := hc; omega, fun c c' hc => by have : c < 0 := hc; omega, by decide, fun k hk => by have : k < 0 := hk; omega, by decide, by decide, by decide, by decide⟩
theorem tF_ok : ∀ j, j < 8 → tFirst j = nI (nF j) := by decide
section Rules
variable {σ τ : St} {T : DT} {ρ : Nat}
theorem c_init (hT : CT σ T) (hr : ρ < 2) : ∃ σ7, X8_readInto ρ σ = X8_readInto_L36 ρ FU 0 0 σ7 ∧ SC σ7 T ρ U0 0 ∧ gI σ7 3 3 = nI 0 ∧ FrG ρ σ σ7 := by
  unfold X8_readInto
  rw [bnd, show gR (sR σ 3 1 ρ) 3 1 = ρ by rw [gR_sR, if_pos ⟨rfl, rfl⟩], chkN_lt hr]
  unfold X5_forget
  rw [bnd, c_fill (16 + ρ) 729 (-1) (by decide), Option.bind_some, bnd, bnd, Option.bind_some, bnd, bnd, bnd, bnd]
  obtain ⟨σb, eb⟩ : ∃ s, s = sIf (sIf (sR σ 3 1 ρ) (6 + ρ) (va_cpy tFirst (gI (sR σ 3 1 ρ) (6 + ρ)) 0 0 8)) (16 + ρ) (fun j => if j < 729 then -1 else gI (sIf (sR σ 3 1 ρ) (6 + ρ) (va_cpy tFirst (gI (sR σ 3 1 ρ) (6 + ρ)) 0 0 8)) (16 + ρ) j) := ⟨_, rfl⟩
  rw [← eb]
  have fb : FrG ρ σ σb := by
    rw [eb]
    refine ⟨fun q h1 h2 => ?_, rfl, fun q h => ?_⟩
    · unfold spr at h2
      rw [gI_sIfn (by omega), gI_sIfn (by omega)]
      rfl
    · show gR (sR σ 3 1 ρ) q = gR σ q
      exact gR_sRn h
  have f7 : FrG ρ σ (sI (sI (sI (sI (sI (sI σb (4 + ρ) 6 0) (4 + ρ) 7 0) 3 2 0) 3 3 0) 3 8 0) 3 9 0) := (((((fb.s (Or.inr (by unfold spr; omega))).s (Or.inr (by unfold spr; omega))).s (Or.inl rfl)).s (Or.inl rfl)).s (Or.inl rfl)).s (Or.inl rfl)
  refine ⟨_, rfl, ⟨?_, ?_, ⟨?_, ?_, fun j hj => ?_, fun c hc => ?_, fun a b ha hb => ?_⟩, ?_, ?_⟩, ?_, f7⟩
  · exact hT.fr (fun q h1 h2 => f7.1 q (by omega) (by unfold spr; omega))
  · show gR σb 3 1 = ρ
    rw [eb]
    show gR (sR σ 3 1 ρ) 3 1 = ρ
    rw [gR_sR, if_pos ⟨rfl, rfl⟩]
  · rw [gI_sIn (by omega), gI_sIn (by omega), gI_sIn (by omega), gI_sIn (by omega), gI_sI, if_neg (by omega), gI_sI, if_pos ⟨rfl, rfl⟩]
    rfl
  · rw [gI_sIn (by omega), gI_sIn (by omega), gI_sIn (by omega), gI_sIn (by omega), gI_sI, if_pos ⟨rfl, rfl⟩]
    rfl
  · rw [gI_sIn (by omega), gI_sIn (by omega), gI_sIn (by omega), gI_sIn (by omega), gI_sIn (by omega), gI_sIn (by omega), eb, gI_sIfn (by omega), gI_sIf, sb_cpy0 hj]
    exact tF_ok j hj
  · have : c < 0 := hc
    omega
  · rw [gI_sIn (by omega), gI_sIn (by omega), gI_sIn (by omega), gI_sIn (by omega), gI_sIn (by omega), gI_sIn (by omega), eb, gI_sIf, if_pos (by omega)]
    rfl
  · rw [gI_sI, if_neg (by decide), gI_sI, if_neg (by decide), gI_sI, if_neg (by decide), gI_sI, if_pos ⟨rfl, rfl⟩]
    rfl
  · rw [gI_sI, if_neg (by decide), gI_sI, if_pos ⟨rfl, rfl⟩]
  · rw [gI_sI, if_neg (by decide), gI_sI, if_neg (by decide), gI_sI, if_pos ⟨rfl, rfl⟩]
    rfl
theorem m_L32 (τ : St) : ∀ d m k g, k + d = 8 → d < m → (∀ j, j < k → g j = nI (nF j)) → ∃ g', X11_rules_L32 m (nI k) (sIf τ 13 g) = (X11_next (sIf τ 13 g')).bind (fun σ7 => X11_rules_L81 FU σ7) ∧ ∀ j, j < 8 → g' j = nI (nF j) := by
  intro d
  induction d with
  | zero =>
    intro m k g hk hm hg
    obtain ⟨m, rfl⟩ : ∃ q, m = q + 1 := ⟨m - 1, by omega⟩
    have : k = 8 := by omega
    subst this
    exact ⟨g, by rw [X11_rules_L32, if_pos (by decide)], hg⟩
  | succ d ih =>
    intro m k g hk hm hg
    obtain ⟨m, rfl⟩ : ∃ q, m = q + 1 := ⟨m - 1, by omega⟩
    have go : ∀ v, v = nI (nF k) → ∃ g', X11_rules_L32 m (nI (k + 1)) (sIf τ 13 (upd g k v)) = (X11_next (sIf τ 13 g')).bind (fun σ7 => X11_rules_L81 FU σ7) ∧ ∀ j, j < 8 → g' j = nI (nF j) := fun v hv => ih m (k + 1) _ (by omega) (by omega) (fun j hj => by
      unfold upd
      by_cases e : j = k
      · rw [if_pos e, e]; exact hv
      · rw [if_neg e]; exact hg j (by omega))
    rw [X11_rules_L32, if_neg (show ¬ (8 : Int32) ≤ nI k from nI_ge (b := 8) (by omega) (by decide)), chk_nI (show k < 8 by omega) (by decide), chk_nI (show k < 8 by omega) (by decide), chk_nI (show k < 8 by omega) (by decide), chk_nI (show k < 8 by omega) (by decide), nI_cl (by omega), bnd, bnd, bnd, bnd, sI_sIf, sI_sIf, sI_sIf, sI_sIf, nI_1]
    rcases (by omega : k = 0 ∨ k = 1 ∨ k = 2 ∨ k = 3 ∨ k = 4 ∨ k = 5 ∨ k = 6 ∨ k = 7) with rfl | rfl | rfl | rfl | rfl | rfl | rfl | rfl
    · rw [if_pos (show nI 0 = 0 from rfl)]; exact go _ rfl
    · rw [if_neg (show ¬ nI 1 = 0 by decide), if_neg (show ¬ (3 : Int32) ≤ nI 1 by decide)]; exact go _ rfl
    · rw [if_neg (show ¬ nI 2 = 0 by decide), if_neg (show ¬ (3 : Int32) ≤ nI 2 by decide)]; exact go _ rfl
    · rw [if_neg (show ¬ nI 3 = 0 by decide), if_pos (show (3 : Int32) ≤ nI 3 by decide), if_pos (show nI 3 = 3 from rfl)]; exact go _ rfl
    · rw [if_neg (show ¬ nI 4 = 0 by decide), if_pos (show (3 : Int32) ≤ nI 4 by decide), if_neg (show ¬ nI 4 = 3 by decide)]; exact go _ rfl
    · rw [if_neg (show ¬ nI 5 = 0 by decide), if_pos (show (3 : Int32) ≤ nI 5 by decide), if_neg (show ¬ nI 5 = 3 by decide)]; exact go _ rfl
    · rw [if_neg (show ¬ nI 6 = 0 by decide), if_pos (show (3 : Int32) ≤ nI 6 by decide), if_neg (show ¬ nI 6 = 3 by decide)]; exact go _ rfl
    · rw [if_neg (show ¬ nI 7 = 0 by decide), if_pos (show (3 : Int32) ≤ nI 7 by decide), if_neg (show ¬ nI 7 = 3 by decide)]; exact go _ rfl
theorem m_init (hT : MT τ T) (hK : MK τ) : ∃ τ7, X11_rules τ = (X11_next τ7).bind (fun σ7 => X11_rules_L81 FU σ7) ∧ SM τ7 T U0 0 ∧ gI τ7 0 7 = 0 ∧ gI τ7 0 9 = nI 0 ∧ gI τ7 0 23 = nI 0 ∧ FrK τ τ7 := by
  unfold X11_rules
  rw [bnd, bnd, bnd, bnd, bnd, bnd]
  obtain ⟨τ6, e6⟩ : ∃ t, t = sI (sI (sI (sI (sI (sI τ 0 7 0) 0 9 0) 0 25 0) 0 28 0) 0 32 0) 0 23 0 := ⟨_, rfl⟩
  rw [← e6]
  obtain ⟨g, a1, a2⟩ := m_L32 τ6 8 FU 0 (gI τ6 13) (by decide) (by decide) (fun j hj => by omega)
  rw [sIf_self] at a1
  have o : ∀ q, q ≠ 13 → gI (sIf τ6 13 g) q = gI τ6 q := fun q h => gI_sIfn h
  have hne : ∀ q, q ≠ 0 → gI τ6 q = gI τ q := fun q h => by rw [e6, gI_sIn h, gI_sIn h, gI_sIn h, gI_sIn h, gI_sIn h, gI_sIn h]
  refine ⟨sIf τ6 13 g, a1, ⟨fun i hi => ?_, ?_, ?_, ?_, ?_, ?_, fun j hj => ?_, fun c x hc => ?_, fun c x hc => ?_, fun k hk => ?_⟩, ?_, ?_, ?_, fun q h1 h2 => ?_, fun j h1 h2 h3 h4 h5 => ?_, ?_⟩
  · rw [o 4 (by decide), hne 4 (by decide)]; exact hT.2 i hi
  · rw [o 0 (by decide), e6]; exact hT.1
  · unfold MK; rw [o 5 (by decide), o 6 (by decide), hne 5 (by decide), hne 6 (by decide)]; exact hK
  · rw [o 0 (by decide), e6]; rfl
  · rw [o 0 (by decide), e6]; rfl
  · rw [o 0 (by decide), e6]; rfl
  · rw [gI_sIf]; exact a2 j hj
  · have : c < 0 := hc
    omega
  · have : c < 0 := hc
    omega
  · have : k < 0 := hk
    omega
  · rw [o 0 (by decide), e6]; rfl
  · rw [o 0 (by decide), e6]; rfl
  · rw [o 0 (by decide), e6]; rfl
  · rw [o q (by omega), hne q h1]
  · rw [o 0 (by decide), e6, gI_sI, if_neg (by omega), gI_sI, if_neg (by omega), gI_sI, if_neg (by omega), gI_sI, if_neg (by omega), gI_sI, if_neg (by omega), gI_sI, if_neg (by omega)]
  · rw [e6]; rfl
/-- copying -/
theorem cp_gen (Lp : Nat → Int32 → St → Option (Int32 × St)) (nx : St → Option (Int32 × St)) (τ : St) (q s n : Nat) (hqs : q ≠ s) (hn : n < 2 ^ 31) (hst : ∀ m k g, k < n → Lp (m + 1) (nI k) (sIf τ q g) = Lp m (nI (k + 1)) (sIf τ q (upd g k (gI τ s k)))) (hx : ∀ m g, Lp (m + 1) (nI n) (sIf τ q g) = nx (sIf τ q g)) : ∀ d m k g, k + d = n → d < m → (∀ j, j < k → g j = gI τ s j) → ∃ g', Lp m (nI k) (sIf τ q g) = nx (sIf τ q g') ∧ ∀ j, j < n → g' j = gI τ s j := by
  intro d
  induction d with
  | zero =>
    intro m k g hk hm hg
    obtain ⟨m, rfl⟩ : ∃ q, m = q + 1 := ⟨m - 1, by omega⟩
    have : k = n := by omega
    subst this
    exact ⟨g, hx m g, hg⟩
  | succ d ih =>
    intro m k g hk hm hg
    obtain ⟨m, rfl⟩ : ∃ q, m = q + 1 := ⟨m - 1, by omega⟩
    rw [hst m k g (by omega)]
    exact ih m (k + 1) _ (by omega) (by omega) (fun j hj => by
      unfold upd
      by_cases e : j = k
      · rw [if_pos e, e]
      · rw [if_neg e]; exact hg j (by omega))
theorem m_158 (τ : St) : ∃ g, X11_rules_L158 FU 0 τ = X11_rules_L184 FU 0 (sIf τ 7 g) ∧ ∀ j, j < 8 → g j = gI τ 13 j := by
  have := cp_gen X11_rules_L158 (fun t => X11_rules_L184 FU 0 t) τ 7 13 8 (by decide) (by decide) (fun m k g hk => by
    rw [X11_rules_L158, if_neg (show ¬ (8 : Int32) ≤ nI k from nI_ge (b := 8) hk (by decide)), chk_nI hk (by decide), chk_nI hk (by decide), nI_cl (by omega), bnd, gI_sIfn (by decide), sI_sIf, nI_1]) (fun m g => by rw [X11_rules_L158, if_pos (by decide)]) 8 FU 0 (gI τ 7) (by decide) (by decide) (fun j hj => by omega)
  rw [sIf_self] at this
  exact this
theorem m_184 (τ : St) : ∃ g, X11_rules_L184 FU 0 τ = X11_rules_L210 FU 0 (sIf τ 8 g) ∧ ∀ j, j < 36 → g j = gI τ 14 j := by
  have := cp_gen X11_rules_L184 (fun t => X11_rules_L210 FU 0 t) τ 8 14 36 (by decide) (by decide) (fun m k g hk => by
    rw [X11_rules_L184, if_neg (show ¬ (36 : Int32) ≤ nI k from nI_ge (b := 36) hk (by decide)), chk_nI hk (by decide), chk_nI hk (by decide), nI_cl (by omega), bnd, gI_sIfn (by decide), sI_sIf, nI_1]) (fun m g => by rw [X11_rules_L184, if_pos (by decide)]) 36 FU 0 (gI τ 8) (by decide) (by decide) (fun j hj => by omega)
  rw [sIf_self] at this
  exact this
theorem m_210 (τ : St) : ∃ g, X11_rules_L210 FU 0 τ = X11_rules_L236 FU 0 (sIf τ 9 g) ∧ ∀ j, j < 24 → g j = gI τ 15 j := by
  have := cp_gen X11_rules_L210 (fun t => X11_rules_L236 FU 0 t) τ 9 15 24 (by decide) (by decide) (fun m k g hk => by
    rw [X11_rules_L210, if_neg (show ¬ (24 : Int32) ≤ nI k from nI_ge (b := 24) hk (by decide)), chk_nI hk (by decide), chk_nI hk (by decide), nI_cl (by omega), bnd, gI_sIfn (by decide), sI_sIf, nI_1]) (fun m g => by rw [X11_rules_L210, if_pos (by decide)]) 24 FU 0 (gI τ 9) (by decide) (by decide) (fun j hj => by omega)
  rw [sIf_self] at this
  exact this
theorem m_236 (τ : St) : ∀ d m k τ1, k + d = 40 → d < m → (∀ q, q ≠ 10 → q ≠ 11 → q ≠ 12 → gI τ1 q = gI τ q) → gJ τ1 = gJ τ → (∀ j, j < k → gI τ1 10 j = gI τ 16 j ∧ gI τ1 11 j = gI τ 17 j ∧ gI τ1 12 j = gI τ 18 j) → ∃ τ', X11_rules_L236 m (nI k) τ1 = some (gI τ 0 23, τ') ∧ (∀ q, q ≠ 10 → q ≠ 11 → q ≠ 12 → gI τ' q = gI τ q) ∧ gJ τ' = gJ τ ∧ ∀ j, j < 40 → gI τ' 10 j = gI τ 16 j ∧ gI τ' 11 j = gI τ 17 j ∧ gI τ' 12 j = gI τ 18 j := by
  intro d
  induction d with
  | zero =>
    intro m k τ1 hk hm h1 h2 h3
    obtain ⟨m, rfl⟩ : ∃ q, m = q + 1 := ⟨m - 1, by omega⟩
    have : k = 40 := by omega
    subst this
    exact ⟨τ1, by rw [X11_rules_L236, if_pos (by decide), h1 0 (by decide) (by decide) (by decide)], h1, h2, h3⟩
  | succ d ih =>
    intro m k τ1 hk hm h1 h2 h3
    obtain ⟨m, rfl⟩ : ∃ q, m = q + 1 := ⟨m - 1, by omega⟩
    have hk40 : k < 40 := by omega
    rw [X11_rules_L236, if_neg (show ¬ (40 : Int32) ≤ nI k from nI_ge (b := 40) hk40 (by decide)), chk_nI hk40 (by decide), chk_nI hk40 (by decide), nI_cl (by omega), bnd, chk_nI hk40 (by decide), chk_nI hk40 (by decide), gI_sIn (q' := 17) (by decide), bnd, chk_nI hk40 (by decide), chk_nI hk40 (by decide), gI_sIn (q' := 18) (by decide), gI_sIn (q' := 18) (by decide), bnd, nI_1, h1 16 (by decide) (by decide) (by decide), h1 17 (by decide) (by decide) (by decide), h1 18 (by decide) (by decide) (by decide)]
    refine ih m (k + 1) _ (by omega) (by omega) (fun q a b c => ?_) h2 (fun j hj => ?_)
    · rw [gI_sIn c, gI_sIn b, gI_sIn a]; exact h1 q a b c
    · refine ⟨?_, ?_, ?_⟩
      · rw [gI_sIn (by decide), gI_sIn (by decide), gI_sI]
        by_cases e : j = k
        · rw [if_pos ⟨rfl, e⟩, e]
        · rw [if_neg (fun h => e h.2)]; exact (h3 j (by omega)).1
      · rw [gI_sIn (by decide), gI_sI]
        by_cases e : j = k
        · rw [if_pos ⟨rfl, e⟩, e]
        · rw [if_neg (fun h => e h.2), gI_sIn (by decide)]; exact (h3 j (by omega)).2.1
      · rw [gI_sI]
        by_cases e : j = k
        · rw [if_pos ⟨rfl, e⟩, e]
        · rw [if_neg (fun h => e h.2), gI_sIn (by decide), gI_sIn (by decide)]; exact (h3 j (by omega)).2.2
end Rules
