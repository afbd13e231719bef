/-! starts, judge, pace: the reference's search, both sides -/
def dn (j : Nat) : Int32 := nI j + (-1)
theorem dn_s (j : Nat) : dn (j + 1) = nI j := nI_m1 (by omega)
def ouS (x : Int32) (pr l f a : Nat) : Int32 := if x = 0 then nI l else if x = 1 then nI f else if x = 2 then nI pr else nI a
section Starts2
variable {σ τ : St} {P : DP} {f : Nat → Option Nat} {m : Nat}
theorem m_st60 (h : OM τ P f) (w : WP P) (hf : FY f) (hm : m < 21) (hm0 : m ≠ 0) (h7 : gI τ 7 3 = nI m) (x2 : Int32) (k : Nat) (hk : k ≤ 16) (kq : Int32 → Int32 → Int32 → Int32 → Int32 → St → Option (Int32 × St)) : ∀ j n c fw a, j < n → j ≤ bs (prs f) P.1 + 1 → c + j ≤ bs (prs f) P.1 + 1 → RI (gdS P f m) (fun s => bc s 16) (bs (prs f) P.1) k j c fw a → ∃ c' fw' a', RI (gdS P f m) (fun s => bc s 16) (bs (prs f) P.1) k 0 c' fw' a' ∧ X11_starts_L60 kq n x2 (nI (bs (prs f) P.1)) (nI fw) (nI a) (nI k) (nI c) (dn j) τ = if c' = 0 then kq x2 (nI (bs (prs f) P.1)) (nI fw') (nI a') (nI (k + 1)) τ else some (ouS x2 (bs (prs f) P.1) k fw' a', τ) := by
  have h8 := w.1
  have hb := bs_lt8 (prs f) h8
  intro j
  induction j with
  | zero =>
    intro n c fw a hn hj hc hR
    obtain ⟨n, rfl⟩ : ∃ q, n = q + 1 := ⟨n - 1, by omega⟩
    refine ⟨c, fw, a, hR, ?_⟩
    rw [X11_starts_L60, if_pos (show dn 0 < 0 by decide), nI_1]
    simp only [show (0 : Int32) = nI 0 from rfl, leI (show c < 2 ^ 31 by omega) (show 0 < 2 ^ 31 by decide)]
    by_cases e : c = 0
    · rw [if_pos (by omega), if_pos e]
    · rw [if_neg (by omega), if_neg e]
      unfold ouS
      simp only [show (0 : Int32) = nI 0 from rfl]
      by_cases e0 : x2 = nI 0
      · rw [if_pos e0, if_pos e0]
      · rw [if_neg e0, if_neg e0]
        by_cases e1 : x2 = 1
        · rw [if_pos e1, if_pos e1]
        · rw [if_neg e1, if_neg e1]
          by_cases e2 : x2 = 2
          · rw [if_pos e2, if_pos e2]
          · rw [if_neg e2, if_neg e2]
  | succ j ih =>
    intro n c fw a hn hj hc hR
    obtain ⟨n, rfl⟩ : ∃ q, n = q + 1 := ⟨n - 1, by omega⟩
    have hsz := bc_le j 16
    have hx : (j &&& (bs (prs f) P.1 ^^^ 65535)) < 2 ^ 31 := Nat.lt_of_le_of_lt Nat.and_le_left (by omega)
    have hdn : nI j + (-1) = dn j := rfl
    rw [dn_s, X11_starts_L60, if_neg (nI_pos (by omega)), nI_xm (by omega) (by omega), m_sizeOf (by omega), Option.bind_some, hdn]
    simp only [show (0 : Int32) = nI 0 from rfl, eqI hx (show 0 < 2 ^ 31 by decide), eqI (show bc j 16 < 2 ^ 31 by omega) (show k < 2 ^ 31 by omega)]
    by_cases e1 : j &&& (bs (prs f) P.1 ^^^ 65535) = 0
    · have hsub := gd_sub h8 (show j < 65536 by omega) e1
      rw [if_pos e1]
      by_cases e2 : bc j 16 = k
      · rw [if_pos e2, h7, m_doLet h w hf hm hm0 (by omega) hsub, Option.bind_some]
        have hgd : gdS P f m j = cov P f m j := by unfold gdS; rw [e1]; simp
        cases e3 : cov P f m j with
        | false =>
          rw [if_pos (show b2 false = nI 0 from rfl)]
          exact ih n c fw a (by omega) (by omega) (by omega) (hR.no (fun h => by rw [hgd, e3] at h; cases h))
        | true =>
          rw [if_neg (show ¬ b2 true = nI 0 from n10), nI_and, bnd, nI_1]
          exact ih n (c + 1) j (a &&& j) (by omega) (by omega) (by omega) (hR.yes (by omega) (by rw [hgd, e3]) e2 (fun i hi => by
            obtain ⟨i1, i2⟩ := hsub i hi
            rw [bs_bit, i2]; simp [i1]))
      · rw [if_neg e2]
        exact ih n c fw a (by omega) (by omega) (by omega) (hR.no (fun _ => e2))
    · rw [if_neg e1]
      exact ih n c fw a (by omega) (by omega) (by omega) (hR.no (fun h => by
        unfold gdS at h
        rw [Bool.and_eq_true, decide_eq_true_eq] at h
        exact absurd h.1 e1))
theorem m_st45 (h : OM τ P f) (w : WP P) (hf : FY f) (hm : m < 21) (hm0 : m ≠ 0) (h7 : gI τ 7 3 = nI m) (x2 : Int32) : ∀ d n k, k + d = bc (bs (prs f) P.1) 16 → d < n → (∀ t, t ≤ bs (prs f) P.1 → gdS P f m t = true → k ≤ bc t 16) → ∃ l fw a, SR (gdS P f m) (fun s => bc s 16) (bs (prs f) P.1) l fw a ∧ X11_starts_L45 n x2 (nI (bs (prs f) P.1)) (nI (bs (prs f) P.1)) (nI (bs (prs f) P.1)) (nI k) τ = some (ouS x2 (bs (prs f) P.1) l fw a, τ) := by
  have h8 := w.1
  have hb := bs_lt8 (prs f) h8
  have hle := bc_le (bs (prs f) P.1) 16
  intro d
  induction d with
  | zero =>
    intro n k hk hn ha
    obtain ⟨n, rfl⟩ : ∃ q, n = q + 1 := ⟨n - 1, by omega⟩
    obtain ⟨c', fw', a', hR, e⟩ := m_st60 h w hf hm hm0 h7 x2 k (by omega) (X11_starts_L45 n) (bs (prs f) P.1 + 1) FU 0 (bs (prs f) P.1) (bs (prs f) P.1) (by show _ < 1000000; omega) (by omega) (by omega) (Or.inl ⟨rfl, rfl, rfl, fun t ht htp => by omega⟩)
    rw [dn_s] at e
    rw [X11_starts_L45, m_sizeOf (by omega), Option.bind_some, if_neg (by rw [ltI (by omega) (by omega)]; omega)]
    rcases hR with ⟨r1, r2, r3, r4⟩ | ⟨r1, r2, r3, r4, r5, r6, r7⟩
    · exact absurd (show bc (bs (prs f) P.1) 16 = k by omega) (r4 _ (by omega) (Nat.le_refl _) (gd_pr h8))
    · rw [if_neg (by omega)] at e
      refine ⟨k, fw', a', ⟨r3, r4, r5, fun t ht hg => ⟨ha t ht hg, fun he => r6 t (by omega) ht hg he⟩, fun i => ?_⟩, e⟩
      rw [r7 i]
      exact ⟨fun hi t ht => hi t (by omega) ht, fun hi t _ ht => hi t ht⟩
  | succ d ih =>
    intro n k hk hn ha
    obtain ⟨n, rfl⟩ : ∃ q, n = q + 1 := ⟨n - 1, by omega⟩
    obtain ⟨c', fw', a', hR, e⟩ := m_st60 h w hf hm hm0 h7 x2 k (by omega) (X11_starts_L45 n) (bs (prs f) P.1 + 1) FU 0 (bs (prs f) P.1) (bs (prs f) P.1) (by show _ < 1000000; omega) (by omega) (by omega) (Or.inl ⟨rfl, rfl, rfl, fun t ht htp => by omega⟩)
    rw [dn_s] at e
    rw [X11_starts_L45, m_sizeOf (by omega), Option.bind_some, if_neg (by rw [ltI (by omega) (by omega)]; omega)]
    rcases hR with ⟨r1, r2, r3, r4⟩ | ⟨r1, r2, r3, r4, r5, r6, r7⟩
    · rw [if_pos r1, r2, r3] at e
      obtain ⟨l, fw, a, q1, q2⟩ := ih n (k + 1) (by omega) (by omega) (fun t ht hg => by
        have h1 := ha t ht hg
        have h2 : bc t 16 ≠ k := r4 t (by omega) ht hg
        omega)
      exact ⟨l, fw, a, q1, e.trans q2⟩
    · rw [if_neg (by omega)] at e
      refine ⟨k, fw', a', ⟨r3, r4, r5, fun t ht hg => ⟨ha t ht hg, fun he => r6 t (by omega) ht hg he⟩, fun i => ?_⟩, e⟩
      rw [r7 i]
      exact ⟨fun hi t ht => hi t (by omega) ht, fun hi t _ ht => hi t ht⟩
end Starts2
section Gather
variable {σ τ : St} {B : DB} {L : DL} {W : DW} {U : DU} {nm : Nat → Nat} {P : DP}
theorem c_gather (hP : CP σ P) (wp : WP P) (hB : CB σ B) (wb : WB P.1 B) (hL : CL σ L) (wl : WL W.1 B L) (hWd : CW σ W U nm) (wW : WW W) {J : Nat → Nat → Bool} (hN : NM J W.1 nm) {s : Nat} (hs : s < W.1) : ∃ σ', X4_gather (nI (nm s)) σ = some σ' ∧ FrO σ σ' ∧ OC σ' P (fun p => fyk L B nm s p L.1) := by
  have h8 := wp.1
  have hyr : ∀ j, j < L.1 → 1500 ≤ lY L j ∧ lY L j ≤ 1899 := fun j hj => year_lt wl wb hj
  have key : ∀ d n k σ1, k + d = P.1 → d < n → FrO σ σ1 → gI σ1 46 4 = nI (bs (prs fun p => fyk L B nm s p L.1) k) → (∀ p, p < k → gI σ1 47 p = oI (fyk L B nm s p L.1)) → ∃ σ', X4_gather_L7 n (nI (nm s)) (nI k) σ1 = some σ' ∧ FrO σ σ' ∧ OC σ' P (fun p => fyk L B nm s p L.1) := by
    intro d
    induction d with
    | zero =>
      intro n k σ1 hk hn g1 g2 g3
      obtain ⟨n, rfl⟩ : ∃ q, n = q + 1 := ⟨n - 1, by omega⟩
      have : k = P.1 := by omega
      subst this
      exact ⟨σ1, by rw [X4_gather_L7, (g1.cp hP).1, if_pos (nI_le (Nat.le_refl _) (by omega))], g1, g1.cp hP, g2, g3⟩
    | succ d ih =>
      intro n k σ1 hk hn g1 g2 g3
      obtain ⟨n, rfl⟩ : ∃ q, n = q + 1 := ⟨n - 1, by omega⟩
      have hkp : k < P.1 := by omega
      have hc := c_firstYear (hB.fr (g1.off (by omega)) (by rw [g1.2.1])) wb h8 (hL.fr (g1.off (by omega))) wl (hWd.fr (g1.off (by omega)) (by rw [g1.2.1])) wW hN hs (p := k) (by omega)
      have g47 : ∀ p, p < k + 1 → gI (sI σ1 47 k (oI (fyk L B nm s k L.1))) 47 p = oI (fyk L B nm s p L.1) := fun p hp => by
        rw [gI_sI]
        by_cases e : p = k
        · subst e; rw [if_pos ⟨rfl, rfl⟩]
        · rw [if_neg (fun h => e h.2)]; exact g3 p (by omega)
      have g46 : gI (sI σ1 47 k (oI (fyk L B nm s k L.1))) 46 4 = nI (bs (prs fun p => fyk L B nm s p L.1) k) := by
        rw [gI_sIn (by decide)]; exact g2
      rw [X4_gather_L7, (g1.cp hP).1, if_neg (nI_ge hkp (by omega)), hc, Option.bind_some, chk_nI (by omega) (by decide), bnd, nI_cl (by omega), chk_nI (by omega) (by decide), g47 k (by omega), nI_1]
      cases e : fyk L B nm s k L.1 with
      | none =>
        rw [if_pos oI_none, ← e]
        refine ih n (k + 1) _ (by omega) (by omega) (g1.sI (by omega)) ?_ g47
        rw [g46, bs_no (by show (fyk L B nm s k L.1).isSome = false; rw [e]; rfl)]
      | some y =>
        have hy := fyk_le L.1 hyr y e
        rw [oI_some]
        simp only [neI4 (show y < 2 ^ 31 by omega), if_false]
        rw [← oI_some, ← e, bnd, g46, one_shl32 k (by omega), nI_or, bs_set (p := prs fun p => fyk L B nm s p L.1) (by show (fyk L B nm s k L.1).isSome = true; rw [e]; rfl)]
        refine ih n (k + 1) _ (by omega) (by omega) ((g1.sI (by omega)).sI (by omega)) ?_ (fun p hp => ?_)
        · rw [gI_sI, if_pos ⟨rfl, rfl⟩]
        · rw [gI_sIn (by decide)]; exact g47 p hp
  unfold X4_gather
  rw [bnd]
  exact key P.1 FU 0 _ (by omega) (by show _ < 1000000; omega) (FrO.rf.sI (by omega)) (by rw [gI_sI, if_pos ⟨rfl, rfl⟩]; rfl) (fun p hp => by omega)
theorem MP.frN {τ' : St} (h : MP τ P) (e : FrN τ τ') : MP τ' P := by
  unfold MP
  rw [e.1 0 (by omega), e.1 27 (by omega), e.1 28 (by omega)]
  exact h
end Gather
