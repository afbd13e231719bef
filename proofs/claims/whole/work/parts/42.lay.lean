/-! lay, feed -/
section Lay
variable {σ τ : St}
theorem eq_lay (h : Rel σ τ) (x y z : Int32) : Eq2 (X10_lay x y z σ) (X11_lay x y z τ) := by
  have h0 := h
  obtain ⟨A, hC, hM, hW⟩ := h
  obtain ⟨hP, hB, hL, hR, hZ, hS, hT, hWd, r, hQ, hU⟩ := hC
  obtain ⟨mP, mB, mL, mR, mZ, mS, mT, mWd, mU, mK⟩ := hM
  obtain ⟨w1, w2, w3, w4, w5, w6, w7, w8, w9, w10⟩ := hW
  unfold X10_lay X11_lay
  rw [sheet_in, show (0 : Int64) = (0 : Int32).toInt64 from rfl, show (3 : Int64) = (3 : Int32).toInt64 from rfl, in_eq x 0 3 τ]
  rcases rngc x 3 3 (by decide) with ⟨k, hk, rfl, c1, c2, c3, c4⟩ | ⟨c1, c2⟩ | ⟨c1, c2, c3, c4⟩
  · simp only [c2, c4, if_true, if_false, decide_true, decide_false, Bool.and_self, Bool.and_false, Bool.false_and, Bool.and_true, Bool.true_and, b2_t, b2_f, Option.bind_some, one0, chk_nI (show k < 4 by omega) (by decide), nI_cl (show k < 2 ^ 31 by omega), X6_faultAt]
    obtain ⟨s1, s2, s3⟩ := hS k (by omega)
    obtain ⟨u1, u2, u3⟩ := mS k (by omega)
    cases hs : (aS A).1 k with
    | none =>
      rw [s2 hs, u2 hs]
      simp only [if_true, Option.bind_some, one0, if_false]
      exact Eq2.same h0 _
    | some ln =>
      obtain ⟨l, n⟩ := ln
      obtain ⟨e1, e2⟩ := s3 l n hs
      obtain ⟨f1, f2⟩ := u3 l n hs
      obtain ⟨hl, hn⟩ := w6 k l n hs
      rw [e2, f1, f2]
      simp only [neI4 (show n < 2 ^ 31 by omega), neI4 (show l < 2 ^ 31 by omega), if_false, if_true]
      rcases ixc y n (by omega) with ⟨i, hi, rfl⟩ | hy
      · rw [show (0 : Int32).toInt64 = (0 : Int64) from rfl, is_in (by omega) hi]
        simp only [ltI0 (show i < 2 ^ 31 by omega), ltI (show i < 2 ^ 31 by omega) (show n < 2 ^ 31 by omega), hi, if_true, if_false, Option.bind_some, one0, X6_put, e1, e2, leI (show n < 2 ^ 31 by omega) (show i < 2 ^ 31 by omega), show ¬ n ≤ i by omega, chk_nI (show i < 64 by omega) (by decide), nI_cl (show i < 2 ^ 31 by omega), ix64, chk_nI (show 64 * k + i < 256 by omega) (by decide), nI_cl (show 64 * k + i < 2 ^ 31 by omega), bnd, b8, b16]
        have fin : ∀ v : Int32, Rel (sI σ (55 + k) i v) (sI τ 47 (64 * k + i) v) := by
          intro v
          refine ⟨(aP A, aB A, aL A, aR A, aZ A, ((aS A).1, up_ (aS A).2 k (up_ ((aS A).2 k) i v)), aT A, aW A, aU A, aN A), ?_, ?_, ?_⟩
          · have o : Off 0 55 σ (sI σ (55 + k) i v) := Off.rf.sI (by omega)
            refine ⟨hP.fr (o.mono (by omega) (by omega)), hB.fr (o.mono (by omega) (by omega)) rfl, hL.fr (o.mono (by omega) (by omega)), hR.fr (o.mono (by omega) (by omega)), hZ.fr (o.mono (by omega) (by omega)), ?_, hT.fr (o.mono (by omega) (by omega)), hWd.fr (o.mono (by omega) (by omega)) rfl, r, hQ, hU.fr hQ.1 (o.mono (by omega) (by omega))⟩
            intro p hp
            obtain ⟨t1, t2, t3⟩ := hS p hp
            rw [gI_sIn (show 51 + p ≠ 55 + k by omega)]
            refine ⟨fun j hj => ?_, t2, t3⟩
            rw [gI_sI]
            simp only [up_]
            by_cases e : p = k
            · subst e
              simp only [if_true, true_and]
              by_cases e2 : j = i
              · simp [e2, up_]
              · simp only [e2, up_, if_false]; exact t1 j hj
            · have : ¬ 55 + p = 55 + k := by omega
              simp only [this, e, if_false, false_and]
              exact t1 j hj
          · refine ⟨mP, mB, mL, mR, mZ, ?_, mT, mWd, mU, mK⟩
            intro p hp
            obtain ⟨t1, t2, t3⟩ := mS p hp
            refine ⟨fun j hj => ?_, t2, t3⟩
            show upd (gI τ 47) (64 * k + i) v (64 * p + j) = up_ (aS A).2 k (up_ ((aS A).2 k) i v) p j
            simp only [up_, upd]
            by_cases e : p = k
            · subst e
              simp only [if_true]
              by_cases e2 : j = i
              · simp [e2, up_]
              · have : ¬ 64 * p + j = 64 * p + i := by omega
                simp only [e2, this, up_, if_false]; exact t1 j hj
            · have : ¬ 64 * p + j = 64 * k + i := by omega
              simp only [this, e, if_false]
              exact t1 j hj
          · exact ⟨w1, w2, w3, w4, w5, w6, w7, w8, w9, w10⟩
        rcases (by omega : l = 0 ∨ l = 1 ∨ l = 2) with rfl | rfl | rfl
        · simp only [show nI 0 = (0 : Int32) from rfl, if_true, Option.bind_some]
          exact Eq2.of rfl rfl (fin _)
        · simp only [show nI 1 = (1 : Int32) from rfl, one0, if_true, if_false, Option.bind_some]
          exact Eq2.of rfl rfl (fin _)
        · simp only [show nI 2 = (2 : Int32) from rfl, show ((2 : Int32) = 0) = False by decide, show ((2 : Int32) = 1) = False by decide, if_false, Option.bind_some]
          exact Eq2.of rfl rfl (fin _)
      · rw [show (0 : Int32).toInt64 = (0 : Int64) from rfl, is_out (by omega) hy]
        simp only [Option.bind_some, if_true]
        by_cases e : y < 0
        · simp only [e, if_true, Option.bind_some, show ((2 : Int32) = 0) = False by decide, if_false]
          exact Eq2.same h0 _
        · have : ¬ y < nI n := by
            rcases hy with hy | hy
            · exact absurd hy e
            · exact Int32.not_lt.mpr hy
          simp only [e, this, if_false, Option.bind_some, show ((2 : Int32) = 0) = False by decide]
          exact Eq2.same h0 _
  · simp only [c1, c2, if_true, if_false, decide_true, decide_false, Bool.and_self, Bool.and_false, Bool.false_and, Bool.and_true, Bool.true_and, b2_t, b2_f, Option.bind_some, one0]
    exact Eq2.same h0 _
  · simp only [c1, c2, c3, c4, if_true, if_false, decide_true, decide_false, Bool.and_self, Bool.and_false, Bool.false_and, Bool.and_true, Bool.true_and, b2_t, b2_f, Option.bind_some, one0]
    exact Eq2.same h0 _
/-- the byte that comes at a shift of 8 j -/
def byt (v : Int64) (j : Nat) : Nat := ((v >>> ((nI (56 - 8 * j)).toInt64 &&& 63)).toInt32 &&& 255).toNatClampNeg
theorem and255 (x : Int32) : ∃ b : Nat, b < 256 ∧ x &&& 255 = nI b ∧ x.toInt8.toInt32 = sb_b b := by
  obtain ⟨b, hb, e⟩ := pk_andE x (m := 255) 8 (by decide)
  refine ⟨b, hb, e, ?_⟩
  unfold sb_b
  rw [← e]
  apply Int32.toBitVec_inj.mp
  show (x.toBitVec.signExtend 8).signExtend 32 = ((x.toBitVec &&& 255#32).signExtend 8).signExtend 32
  have : x.toBitVec.signExtend 8 = (x.toBitVec &&& 255#32).signExtend 8 := by
    apply BitVec.eq_of_getLsbD_eq
    intro i hi
    rw [BitVec.getLsbD_signExtend, BitVec.getLsbD_signExtend]
    have h1 : ∀ i, i < 8 → (255#32).getLsbD i = true := by decide
    rw [if_pos (by omega), if_pos (by omega), BitVec.getLsbD_and, h1 i hi, Bool.and_true]
  rw [this]
def fdT (T : DT) (v : Int64) (j : Nat) : DT := (T.1 + j, fun i => if i < T.1 then T.2 i else byt v (i - T.1))
theorem byt_spec (v : Int64) (j : Nat) : byt v j < 256 ∧ (v >>> ((nI (56 - 8 * j)).toInt64 &&& 63)).toInt32 &&& 255 = nI (byt v j) ∧ (v >>> ((nI (56 - 8 * j)).toInt64 &&& 63)).toInt32.toInt8.toInt32 = sb_b (byt v j) := by
  obtain ⟨b, hb, e1, e2⟩ := and255 (v >>> ((nI (56 - 8 * j)).toInt64 &&& 63)).toInt32
  have : byt v j = b := by unfold byt; rw [e1, nI_cl (by omega)]
  rw [this]
  exact ⟨hb, e1, e2⟩
/-- what a feed does to the class's tape, j bytes on -/
theorem c_feedL {T : DT} (v : Int64) (hT0 : T.1 + 8 ≤ 200) : ∀ d j m (σ : St), j + d = 8 → d < m → CT σ (fdT T v j) → ∃ σ', X7_append_L18 m v (nI (56 - 8 * j) - if j = 8 then 8 else 0) σ = some (1, σ') ∧ CT σ' (fdT T v 8) ∧ Off 0 1 σ σ' ∧ Off 3 59 σ σ' ∧ gJ σ' = gJ σ ∧ gR σ' = gR σ := by
  intro d
  induction d with
  | zero =>
    intro j m σ hj hm hC
    obtain ⟨m, rfl⟩ : ∃ p, m = p + 1 := ⟨m - 1, by omega⟩
    have : j = 8 := by omega
    subst this
    refine ⟨σ, ?_, hC, Off.rf, Off.rf, rfl, rfl⟩
    simp only [if_true]
    rw [X7_append_L18, if_pos (by decide)]
  | succ d ih =>
    intro j m σ hj hm hC
    obtain ⟨m, rfl⟩ : ∃ p, m = p + 1 := ⟨m - 1, by omega⟩
    have hne : ¬ j = 8 := by omega
    obtain ⟨b1, b2, b3⟩ := byt_spec v j
    have hlen : gI σ 1 1 = nI (T.1 + j) := hC.1
    simp only [hne, if_false, Int32.sub_zero]
    rw [X7_append_L18, if_neg (nI_pos (by omega)), hlen, chk_nI (by omega) (by decide), nI_cl (by omega)]
    have pv : vp_nar .byte (sb_b (byt v j)) = sb_b (byt v j) := pk_vb _
    simp only [bnd, b3, pv, gI_sI, show ((1 : Nat) = 2) = False by decide, false_and, if_false, hlen, nI_1]
    have hst : nI (56 - 8 * j) + (-8) = nI (56 - 8 * (j + 1)) - if j + 1 = 8 then 8 else 0 := by
      rcases (by omega : j = 0 ∨ j = 1 ∨ j = 2 ∨ j = 3 ∨ j = 4 ∨ j = 5 ∨ j = 6 ∨ j = 7) with rfl | rfl | rfl | rfl | rfl | rfl | rfl | rfl <;> decide
    rw [hst]
    have hnx : CT (sI (sI σ 2 (T.1 + j) (sb_b (byt v j))) 1 1 (nI (T.1 + j + 1))) (fdT T v (j + 1)) := by
      refine ⟨rfl, fun i hi => ?_⟩
      show upd (gI σ 2) (T.1 + j) (sb_b (byt v j)) i = sb_b (if i < T.1 then T.2 i else byt v (i - T.1))
      have hi' : i < T.1 + (j + 1) := hi
      unfold upd
      by_cases e : i = T.1 + j
      · subst e
        simp only [if_true, show ¬ T.1 + j < T.1 by omega, if_false, Nat.add_sub_cancel_left]
      · simp only [e, if_false]
        exact hC.2 i (by show i < T.1 + j; omega)
    obtain ⟨σ', h1, h2, h3, h4, h5, h6⟩ := ih (j + 1) m (sI (sI σ 2 (T.1 + j) (sb_b (byt v j))) 1 1 (nI (T.1 + j + 1))) (by omega) (by omega) hnx
    exact ⟨σ', h1, h2, (Off.sI (by omega) (Off.sI (by omega) Off.rf)).tr h3, (Off.sI (by omega) (Off.sI (by omega) Off.rf)).tr h4, h5, h6⟩
theorem m_feedL {T : DT} (v : Int64) (hT0 : T.1 + 8 ≤ 200) : ∀ d j m (τ : St), j + d = 8 → d < m → MT τ (fdT T v j) → ∃ τ', X11_feed_L19 m v (nI (56 - 8 * j) - if j = 8 then 8 else 0) τ = some (nI (T.1 + 8), τ') ∧ MT τ' (fdT T v 8) ∧ (∀ q, q ≠ 0 → q ≠ 4 → gI τ' q = gI τ q) ∧ (∀ i, i ≠ 5 → gI τ' 0 i = gI τ 0 i) ∧ gJ τ' = gJ τ := by
  intro d
  induction d with
  | zero =>
    intro j m τ hj hm hC
    obtain ⟨m, rfl⟩ : ∃ p, m = p + 1 := ⟨m - 1, by omega⟩
    have : j = 8 := by omega
    subst this
    refine ⟨τ, ?_, hC, fun _ _ _ => rfl, fun _ _ => rfl, rfl⟩
    simp only [if_true]
    rw [X11_feed_L19, if_pos (by decide), hC.1]
    rfl
  | succ d ih =>
    intro j m τ hj hm hC
    obtain ⟨m, rfl⟩ : ∃ p, m = p + 1 := ⟨m - 1, by omega⟩
    have hne : ¬ j = 8 := by omega
    obtain ⟨b1, b2, b3⟩ := byt_spec v j
    have hlen : gI τ 0 5 = nI (T.1 + j) := hC.1
    simp only [hne, if_false, Int32.sub_zero]
    rw [X11_feed_L19, if_neg (nI_pos (by omega)), hlen, chk_nI (by omega) (by decide), nI_cl (by omega)]
    simp only [bnd, b2, gI_sI, show ((0 : Nat) = 4) = False by decide, false_and, if_false, hlen, nI_1]
    have hst : nI (56 - 8 * j) + (-8) = nI (56 - 8 * (j + 1)) - if j + 1 = 8 then 8 else 0 := by
      rcases (by omega : j = 0 ∨ j = 1 ∨ j = 2 ∨ j = 3 ∨ j = 4 ∨ j = 5 ∨ j = 6 ∨ j = 7) with rfl | rfl | rfl | rfl | rfl | rfl | rfl | rfl <;> decide
    rw [hst]
    have hnx : MT (sI (sI τ 4 (T.1 + j) (nI (byt v j))) 0 5 (nI (T.1 + j + 1))) (fdT T v (j + 1)) := by
      refine ⟨rfl, fun i hi => ?_⟩
      show upd (gI τ 4) (T.1 + j) (nI (byt v j)) i = nI (if i < T.1 then T.2 i else byt v (i - T.1))
      have hi' : i < T.1 + (j + 1) := hi
      unfold upd
      by_cases e : i = T.1 + j
      · subst e
        simp only [if_true, show ¬ T.1 + j < T.1 by omega, if_false, Nat.add_sub_cancel_left]
      · simp only [e, if_false]
        exact hC.2 i (by show i < T.1 + j; omega)
    obtain ⟨τ', h1, h2, h3, h4, h5⟩ := ih (j + 1) m (sI (sI τ 4 (T.1 + j) (nI (byt v j))) 0 5 (nI (T.1 + j + 1))) (by omega) (by omega) hnx
    refine ⟨τ', h1, h2, fun q a b => ?_, fun i hi => ?_, h5⟩
    · rw [h3 q a b, gI_sIn a, gI_sIn b]
    · rw [h4 i hi, gI_sI, gI_sI]
      simp [hi]
theorem eq_feed (h : Rel σ τ) (v : Int64) : Eq2 (X10_feed v σ) (X11_feed v τ) := by
  have h0 := h
  obtain ⟨A, hC, hM, hW⟩ := h
  obtain ⟨hP, hB, hL, hR, hZ, hS, hT, hWd, r, hQ, hU⟩ := hC
  obtain ⟨mP, mB, mL, mR, mZ, mS, mT, mWd, mU, mK⟩ := hM
  obtain ⟨w1, w2, w3, w4, w5, w6, w7, w8, w9, w10⟩ := hW
  have wT : (aT A).1 ≤ 200 := w7.1
  unfold X10_feed X11_feed X7_append
  rw [hT.1, mT.1, show nI (aT A).1 + 8 = nI ((aT A).1 + 8) from nI_add _ 8]
  by_cases c : (aT A).1 + 8 ≤ 200
  · have c' : nI ((aT A).1 + 8) ≤ (200 : Int32) := nI_le (b := 200) c (by decide)
    rw [if_pos c', if_pos c']
    obtain ⟨σ', h1, h2, h3, h4, h5, h6⟩ := c_feedL (T := aT A) v c 8 0 FU σ (by omega) (by decide) ⟨hT.1, fun i hi => by
      have hi' : i < (aT A).1 := hi
      show gI σ 2 i = sb_b (if i < (aT A).1 then (aT A).2 i else _)
      rw [if_pos hi']; exact hT.2 i hi'⟩
    obtain ⟨τ', k1, k2, k3, k4, k5⟩ := m_feedL (T := aT A) v c 8 0 FU τ (by omega) (by decide) ⟨mT.1, fun i hi => by
      have hi' : i < (aT A).1 := hi
      show gI τ 4 i = nI (if i < (aT A).1 then (aT A).2 i else _)
      rw [if_pos hi']; exact mT.2 i hi'⟩
    rw [show nI (56 - 8 * 0) - (if (0 : Nat) = 8 then (8 : Int32) else 0) = 56 by decide] at h1 k1
    rw [h1, k1]
    simp only [Option.bind_some, one0, if_false]
    refine Eq2.of (r := nI ((aT A).1 + 8)) (by rw [h2.1]; rfl) rfl ⟨(aP A, aB A, aL A, aR A, aZ A, aS A, fdT (aT A) v 8, aW A, aU A, aN A), ?_, ?_, ?_⟩
    · exact ⟨hP.fr (h4.mono (by omega) (by omega)), hB.fr (h4.mono (by omega) (by omega)) (by rw [h5]), hL.fr (h4.mono (by omega) (by omega)), hR.fr (h4.mono (by omega) (by omega)), hZ.fr h3, hS.fr (h4.mono (by omega) (by omega)), h2, hWd.fr (h4.mono (by omega) (by omega)) (by rw [h5]), r, hQ.fr (by rw [h6]) (by rw [h6]), hU.fr hQ.1 (h4.mono (by omega) (by omega))⟩
    · refine ⟨?_, ?_, ?_, ?_, ?_, ?_, k2, ?_, ?_, ?_⟩
      · unfold MP; rw [k4 41 (by decide), k3 27 (by decide) (by decide), k3 28 (by decide) (by decide)]; exact mP
      · unfold MB; rw [k4 44 (by decide), k3 29 (by decide) (by decide), k3 30 (by decide) (by decide), k3 31 (by decide) (by decide), k5]; exact mB
      · unfold ML; rw [k4 49 (by decide), k3 33 (by decide) (by decide), k3 34 (by decide) (by decide), k3 35 (by decide) (by decide), k3 36 (by decide) (by decide), k3 37 (by decide) (by decide), k3 38 (by decide) (by decide), k3 39 (by decide) (by decide), k3 40 (by decide) (by decide)]; exact mL
      · unfold MR; rw [k4 58 (by decide), k3 41 (by decide) (by decide), k3 42 (by decide) (by decide), k3 43 (by decide) (by decide)]; exact mR
      · unfold MZ; rw [k4 62 (by decide), k4 67 (by decide), k4 6 (by decide)]; exact mZ
      · unfold MS; rw [k3 45 (by decide) (by decide), k3 46 (by decide) (by decide), k3 47 (by decide) (by decide)]; exact mS
      · unfold MW; rw [k4 0 (by decide), k3 1 (by decide) (by decide), k3 2 (by decide) (by decide)]; exact mWd
      · unfold MU; rw [k4 16 (by decide), k4 19 (by decide), k3 7 (by decide) (by decide), k3 8 (by decide) (by decide), k3 9 (by decide) (by decide), k3 10 (by decide) (by decide), k3 11 (by decide) (by decide), k3 12 (by decide) (by decide)]; exact mU
      · unfold MK; rw [k3 5 (by decide) (by decide), k3 6 (by decide) (by decide)]; exact mK
    · refine ⟨w1, w2, w3, w4, w5, w6, ⟨c, fun i hi => ?_⟩, w8, w9, w10⟩
      show (if i < (aT A).1 then (aT A).2 i else byt v (i - (aT A).1)) < 256
      by_cases e : i < (aT A).1
      · rw [if_pos e]; exact w7.2 i e
      · rw [if_neg e]; exact (byt_spec v _).1
  · have c' : ¬ nI ((aT A).1 + 8) ≤ (200 : Int32) := nI_ge (a := 200) (by omega) (by omega)
    rw [if_neg c', if_neg c']
    simp only [Option.bind_some, if_true]
    exact Eq2.same h0 _
end Lay
