/-! the class reads a token -/
theorem ltT_s {T : DT} {q e : Nat} (h : q ≤ e) : ltT T q (e + 1) = ltT T q e ++ [T.2 e - 96] := by
  unfold ltT
  rw [show e + 1 - q = (e - q) + 1 by omega, List.range'_concat, List.map_append]
  simp
  rw [show q + (e - q) = e by omega]
def vlT (T : DT) (k q e : Nat) : Nat := if k = 1 then pk (ltT T q e) else nmT T q (e - q)
def TC (g : Nat → Int32) (T : DT) (p : Nat) : Prop := g 3 = nI (tE T p) ∧ g 4 = nI (tK T p) ∧ g 5 = nI (tS T p) ∧ g 6 = nI (tE T p - tS T p) ∧ g 7 = nI (tV T p)
section TokC2
variable {σ : St} {T : DT}
theorem CT.g (hT : CT σ T) (g : Nat → Int32) : CT (sIf σ 3 g) T := hT.fr (Off.sIf (by omega) Off.rf)
theorem c_L0 (hT : CT σ T) (wT : WTp T) : ∀ d m p g, p + d = T.1 → d < m → g 3 = nI p → ∃ g', X8_readToken_L0 m (sIf σ 3 g) = X8_readToken_B43 (sIf σ 3 g') ∧ g' 3 = nI (spF T d p) ∧ ∀ j, j ≠ 3 → g' j = g j := by
  have h200 := wT.1
  intro d
  induction d with
  | zero =>
    intro m p g hp hm hg
    obtain ⟨m, rfl⟩ : ∃ q, m = q + 1 := ⟨m - 1, by omega⟩
    exact ⟨g, by rw [X8_readToken_L0, gI_sIfn (by decide), gI_sIf, hT.1, hg, if_pos (nI_le (by omega) (by omega))], hg, fun _ _ => rfl⟩
  | succ d ih =>
    intro m p g hp hm hg
    obtain ⟨m, rfl⟩ : ∃ q, m = q + 1 := ⟨m - 1, by omega⟩
    have hpl : p < T.1 := by omega
    have hb := wT.2 p hpl
    have hsp : spF T (d + 1) p = if p < T.1 ∧ T.2 p = 32 then spF T d (p + 1) else p := rfl
    rw [X8_readToken_L0, gI_sIfn (q' := 1) (by decide), gI_sIf, hT.1, hg, if_neg (nI_ge hpl (by omega)), c_byte (hT.g g) wT hpl, Option.bind_some, hsp]
    by_cases e : T.2 p = 32
    · rw [if_pos ((sb_32 _ hb).mpr e), if_pos ⟨hpl, e⟩, bnd, nI_1, sI_sIf]
      obtain ⟨g', e1, e2, e3⟩ := ih m (p + 1) (upd g 3 (nI (p + 1))) (by omega) (by omega) (by unfold upd; rw [if_pos rfl])
      exact ⟨g', e1, e2, fun j hj => by rw [e3 j hj]; unfold upd; rw [if_neg hj]⟩
    · rw [if_neg (fun h => e ((sb_32 _ hb).mp h)), if_neg (fun h => e h.2)]
      exact ⟨g, rfl, hg, fun _ _ => rfl⟩
theorem c_L140 (hT : CT σ T) (wT : WTp T) {k q : Nat} (hk : k = 1 ∨ k = 2) : ∀ d m e g, e + d = T.1 → q ≤ e → d < m → g 3 = nI e → g 4 = nI k → g 7 = nI (vlT T k q e) → ∃ g', X8_readToken_L140 m 1 (sIf σ 3 g) = X8_readToken_B245 (sIf σ 3 g') ∧ g' 3 = nI (rnT T k d e) ∧ g' 7 = nI (vlT T k q (rnT T k d e)) ∧ ∀ j, j ≠ 3 → j ≠ 7 → g' j = g j := by
  have h200 := wT.1
  intro d
  induction d with
  | zero =>
    intro m e g he hq hm h3 h4 h7
    obtain ⟨m, rfl⟩ : ∃ q, m = q + 1 := ⟨m - 1, by omega⟩
    exact ⟨g, by rw [X8_readToken_L140, if_neg n10, gI_sIfn (q' := 1) (by decide), gI_sIf, hT.1, h3, if_pos (nI_le (by omega) (by omega))], h3, h7, fun _ _ _ => rfl⟩
  | succ d ih =>
    intro m e g he hq hm h3 h4 h7
    obtain ⟨m, rfl⟩ : ∃ q, m = q + 1 := ⟨m - 1, by omega⟩
    have hel : e < T.1 := by omega
    have hb := wT.2 e hel
    have hrn : rnT T k (d + 1) e = if e < T.1 ∧ kd (T.2 e) = k then rnT T k d (e + 1) else e := rfl
    have hkb : kd (T.2 e) ≤ 4 := by
      unfold kd
      split
      · decide
      · split
        · decide
        · split <;> decide
    rw [X8_readToken_L140, if_neg n10, gI_sIfn (q' := 1) (by decide), gI_sIf, hT.1, h3, if_neg (nI_ge hel (by omega)), c_byte (hT.g g) wT hel, Option.bind_some, c_kind hb, Option.bind_some, h4, hrn]
    simp only [eqI (show kd (T.2 e) < 2 ^ 31 by omega) (show k < 2 ^ 31 by omega)]
    by_cases ek : kd (T.2 e) = k
    · rw [if_pos ek, if_pos ⟨hel, ek⟩, Option.bind_some]
      have fin : ∀ v, v = nI (vlT T k q (e + 1)) → ∃ g', X8_readToken_L140 m 1 (sI (sI (sIf σ 3 g) 3 7 v) 3 3 ((gI (sI (sIf σ 3 g) 3 7 v) 3 3) + 1)) = X8_readToken_B245 (sIf σ 3 g') ∧ g' 3 = nI (rnT T k d (e + 1)) ∧ g' 7 = nI (vlT T k q (rnT T k d (e + 1))) ∧ ∀ j, j ≠ 3 → j ≠ 7 → g' j = g j := fun v hv => by
        rw [sI_sIf, gI_sIf, sI_sIf, show upd g 7 v 3 = g 3 from rfl, h3, nI_1]
        obtain ⟨g', e1, e2, e3, e4⟩ := ih m (e + 1) (upd (upd g 7 v) 3 (nI (e + 1))) (by omega) (by omega) (by omega) rfl h4 hv
        exact ⟨g', e1, e2, e3, fun j hj hj' => by rw [e4 j hj hj']; unfold upd; rw [if_neg hj, if_neg hj']⟩
      rcases hk with rfl | rfl
      · have hl := kd_1.mp ek
        rw [if_pos (show nI 1 = 1 from rfl), bnd, bnd, h7, sb_lo _ (by omega), Int32.mul_comm, show (32 : Int32) * nI (vlT T 1 q e) = nI (32 * vlT T 1 q e) from pk_mul 32 _, nI_add, show nI (32 * vlT T 1 q e + T.2 e) - 97 = nI (32 * vlT T 1 q e + T.2 e - 97) from subI (b := 97) (by omega), nI_1]
        refine fin _ ?_
        congr 1
        unfold vlT
        rw [if_pos rfl, if_pos rfl, ltT_s hq, pk_app]
        omega
      · have hl := kd_2.mp ek
        rw [if_neg (show ¬ nI 2 = 1 by decide), bnd, bnd, h7, sb_lo _ (by omega), Int32.mul_comm, show (10 : Int32) * nI (vlT T 2 q e) = nI (10 * vlT T 2 q e) from pk_mul 10 _, nI_add, show nI (10 * vlT T 2 q e + T.2 e) - 48 = nI (10 * vlT T 2 q e + T.2 e - 48) from subI (b := 48) (by omega)]
        refine fin _ ?_
        congr 1
        unfold vlT
        rw [if_neg (by decide), if_neg (by decide), show e + 1 - q = (e - q) + 1 by omega]
        show _ = 10 * nmT T q (e - q) + (T.2 (q + (e - q)) - 48)
        rw [show q + (e - q) = e by omega]
        omega
    · rw [if_neg ek, if_neg (fun h => ek h.2)]
      exact ⟨g, rfl, h3, h7, fun _ _ _ => rfl⟩
theorem c_B245 {g : Nat → Int32} {q e k : Nat} (hqe : q ≤ e) (he : e ≤ 200) (hk : k ≤ 4) (h3 : g 3 = nI e) (h4 : g 4 = nI k) (h5 : g 5 = nI q) : ∃ g', X8_readToken_B245 (sIf σ 3 g) = some (sIf σ 3 g') ∧ g' 6 = nI (e - q) ∧ g' 4 = nI (if k = 2 ∧ 2 < e - q then 4 else k) ∧ ∀ j, j ≠ 4 → j ≠ 6 → g' j = g j := by
  unfold X8_readToken_B245
  rw [bnd, gI_sIf, h3, h5, subI hqe, sI_sIf, gI_sIf, show upd g 6 (nI (e - q)) 4 = g 4 from rfl, h4, show upd g 6 (nI (e - q)) 6 = nI (e - q) from rfl]
  simp only [show (2 : Int32) = nI 2 from rfl, eqI (show k < 2 ^ 31 by omega) (show 2 < 2 ^ 31 by decide), leI (show e - q < 2 ^ 31 by omega) (show 2 < 2 ^ 31 by decide)]
  by_cases e2 : k = 2
  · rw [if_pos e2]
    by_cases e3 : e - q ≤ 2
    · rw [if_pos e3, if_neg (fun h => by omega)]
      exact ⟨_, rfl, rfl, h4, fun j h1 h2 => by unfold upd; rw [if_neg h2]⟩
    · rw [if_neg e3, bnd, sI_sIf, if_pos ⟨e2, by omega⟩]
      exact ⟨_, rfl, rfl, rfl, fun j h1 h2 => by unfold upd; rw [if_neg h1, if_neg h2]⟩
  · rw [if_neg e2, if_neg (fun h => e2 h.1)]
    exact ⟨_, rfl, rfl, h4, fun j h1 h2 => by unfold upd; rw [if_neg h2]⟩
theorem c_token (hT : CT σ T) (wT : WTp T) {p : Nat} {g : Nat → Int32} (hp : p ≤ T.1) (h3 : g 3 = nI p) : ∃ g', X8_readToken (sIf σ 3 g) = some (sIf σ 3 g') ∧ TC g' T p ∧ g' 2 = g 2 ∧ g' 8 = g 8 ∧ g' 9 = g 9 := by
  have h200 := wT.1
  obtain ⟨g1, a1, a2, a3⟩ := c_L0 hT wT (T.1 - p) FU p g (by omega) (by show _ < 1000000; omega) h3
  obtain ⟨hs1, hs2⟩ := tS_le hp
  obtain ⟨he1, he2, he3⟩ := tE_le hp
  have hk4 := tK0_le T p
  have a2' : g1 3 = nI (tS T p) := a2
  unfold X8_readToken
  rw [a1]
  -- the head
  have hB43 : X8_readToken_B43 (sIf σ 3 g1) = X8_readToken_B89 (nI (tK0 T p)) (sIf σ 3 (upd (upd g1 5 (nI (tS T p))) 7 0)) := by
    unfold X8_readToken_B43
    rw [bnd, gI_sIf, a2', sI_sIf, bnd, sI_sIf, gI_sIfn (q' := 1) (by decide), gI_sIf, show upd (upd g1 5 (nI (tS T p))) 7 0 3 = g1 3 from rfl, a2', hT.1]
    simp only [leI (show T.1 < 2 ^ 31 by omega) (show tS T p < 2 ^ 31 by omega)]
    unfold tK0
    by_cases e : tS T p < T.1
    · rw [if_neg (by omega), if_pos e, c_byte (hT.g _) wT e, Option.bind_some, c_kind (wT.2 _ e), Option.bind_some]
    · rw [if_pos (by omega), if_neg e]
      rfl
  rw [hB43]
  unfold X8_readToken_B89
  rw [bnd, sI_sIf, gI_sIf, show upd (upd (upd g1 5 (nI (tS T p))) 7 0) 4 (nI (tK0 T p)) 4 = nI (tK0 T p) from rfl, show upd (upd (upd g1 5 (nI (tS T p))) 7 0) 4 (nI (tK0 T p)) 3 = g1 3 from rfl, a2', nI_1]
  simp only [show (3 : Int32) = nI 3 from rfl, show (4 : Int32) = nI 4 from rfl, eqI (show tK0 T p < 2 ^ 31 by omega) (show 3 < 2 ^ 31 by decide), eqI (show tK0 T p < 2 ^ 31 by omega) (show 4 < 2 ^ 31 by decide)]
  -- no growth
  have still : ∀ g2 : Nat → Int32, ¬ (tK0 T p = 1 ∨ tK0 T p = 2) → g2 3 = nI (tE T p) → g2 4 = nI (tK0 T p) → g2 5 = nI (tS T p) → g2 7 = 0 → g2 2 = g 2 → g2 8 = g 8 → g2 9 = g 9 → ∃ g', X8_readToken_B118 (sIf σ 3 g2) = some (sIf σ 3 g') ∧ TC g' T p ∧ g' 2 = g 2 ∧ g' 8 = g 8 ∧ g' 9 = g 9 := fun g2 hn b3 b4 b5 b7 c2 c8 c9 => by
    obtain ⟨z, hz⟩ : ∃ n, FU = n + 1 := ⟨999999, rfl⟩
    unfold X8_readToken_B118
    rw [gI_sIf, b4]
    simp only [show (1 : Int32) = nI 1 from rfl, show (2 : Int32) = nI 2 from rfl, eqI (show tK0 T p < 2 ^ 31 by omega) (show 1 < 2 ^ 31 by decide), eqI (show tK0 T p < 2 ^ 31 by omega) (show 2 < 2 ^ 31 by decide)]
    rw [if_neg (fun h => hn (Or.inl h)), if_neg (fun h => hn (Or.inr h)), hz, X8_readToken_L140, if_pos rfl]
    obtain ⟨g', d1, d2, d3, d4⟩ := c_B245 (σ := σ) he1 (show tE T p ≤ 200 by omega) hk4 b3 b4 b5
    refine ⟨g', d1, ⟨by rw [d4 3 (by decide) (by decide)]; exact b3, by rw [d3]; rfl, by rw [d4 5 (by decide) (by decide)]; exact b5, d2, ?_⟩, by rw [d4 2 (by decide) (by decide)]; exact c2, by rw [d4 8 (by decide) (by decide)]; exact c8, by rw [d4 9 (by decide) (by decide)]; exact c9⟩
    rw [d4 7 (by decide) (by decide), b7]
    unfold tV
    rw [if_neg (fun h => hn (Or.inl h)), if_neg (fun h => hn (Or.inr h))]
    rfl
  have o2 : g1 2 = g 2 := a3 2 (by decide)
  have o8 : g1 8 = g 8 := a3 8 (by decide)
  have o9 : g1 9 = g 9 := a3 9 (by decide)
  by_cases e3 : tK0 T p = 3
  · have hE : tE T p = tS T p + 1 := by unfold tE; rw [if_neg (by omega), if_neg (by omega)]
    rw [if_pos e3, bnd, sI_sIf]
    exact still _ (by omega) (by rw [hE]; rfl) rfl rfl rfl o2 o8 o9
  · rw [if_neg e3]
    by_cases e4 : tK0 T p = 4
    · have hE : tE T p = tS T p + 1 := by unfold tE; rw [if_neg (by omega), if_neg (by omega)]
      rw [if_pos e4, bnd, sI_sIf]
      exact still _ (by omega) (by rw [hE]; rfl) rfl rfl rfl o2 o8 o9
    · rw [if_neg e4]
      by_cases e0 : tK0 T p = 0
      · have hE : tE T p = tS T p := by unfold tE; rw [if_neg (by omega), if_pos e0]
        exact still _ (by omega) (by rw [hE]; exact a2') rfl rfl rfl o2 o8 o9
      · have h12 : tK0 T p = 1 ∨ tK0 T p = 2 := by omega
        have hE : tE T p = rnT T (tK0 T p) (T.1 - tS T p) (tS T p) := by unfold tE; rw [if_pos h12]
        have hv0 : vlT T (tK0 T p) (tS T p) (tS T p) = 0 := by
          unfold vlT ltT
          rw [Nat.sub_self]
          split <;> rfl
        obtain ⟨g2, b1, b2', b3, b4⟩ := c_L140 hT wT (q := tS T p) h12 (T.1 - tS T p) FU (tS T p) (upd (upd (upd g1 5 (nI (tS T p))) 7 0) 4 (nI (tK0 T p))) (by omega) (Nat.le_refl _) (by show _ < 1000000; omega) a2' rfl (by rw [hv0]; rfl)
        rw [← hE] at b2' b3
        have hgo : X8_readToken_B118 (sIf σ 3 (upd (upd (upd g1 5 (nI (tS T p))) 7 0) 4 (nI (tK0 T p)))) = X8_readToken_B245 (sIf σ 3 g2) := by
          unfold X8_readToken_B118
          rw [gI_sIf, show upd (upd (upd g1 5 (nI (tS T p))) 7 0) 4 (nI (tK0 T p)) 4 = nI (tK0 T p) from rfl]
          simp only [show (2 : Int32) = nI 2 from rfl, eqI (show tK0 T p < 2 ^ 31 by omega) (show 2 < 2 ^ 31 by decide)]
          by_cases e1 : nI (tK0 T p) = 1
          · rw [if_pos e1, b1]
          · rw [if_neg e1, if_pos (by
              rcases h12 with h | h
              · exact absurd (by rw [h]; rfl) e1
              · exact h), b1]
        rw [hgo]
        obtain ⟨g', d1, d2, d3, d4⟩ := c_B245 (σ := σ) he1 (show tE T p ≤ 200 by omega) hk4 b2' (by rw [b4 4 (by decide) (by decide)]; rfl) (by rw [b4 5 (by decide) (by decide)]; rfl)
        refine ⟨g', d1, ⟨by rw [d4 3 (by decide) (by decide)]; exact b2', by rw [d3]; rfl, by rw [d4 5 (by decide) (by decide), b4 5 (by decide) (by decide)]; rfl, d2, ?_⟩, by rw [d4 2 (by decide) (by decide), b4 2 (by decide) (by decide)]; exact o2, by rw [d4 8 (by decide) (by decide), b4 8 (by decide) (by decide)]; exact o8, by rw [d4 9 (by decide) (by decide), b4 9 (by decide) (by decide)]; exact o9⟩
        rw [d4 7 (by decide) (by decide), b3]
        congr 1
        unfold vlT tV
        rcases h12 with h | h
        · rw [h, if_pos rfl, if_pos rfl]
        · rw [h, if_neg (by decide), if_neg (by decide), if_pos rfl]
end TokC2
