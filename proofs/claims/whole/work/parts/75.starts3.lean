/-! starts, judge, pace: the two answers -/
section Starts3
variable {σ τ : St}
theorem fyk_FY {L : DL} {B : DB} {nm : Nat → Nat} {ns np s : Nat} (wl : WL ns B L) (wb : WB np B) : FY (fun p => fyk L B nm s p L.1) := fun _ y h => fyk_le L.1 (fun j hj => year_lt wl wb hj) y h
/-- the reference's side: names, firsts -/
theorem m_prep {A : ABS} (mP : MP τ (aP A)) (mB : MB τ (aB A)) (mL : ML τ (aL A)) (mWd : MW τ (aW A)) (mU : MU τ (aU A)) (wA : WA A) {s : Nat} (hs : s < (aW A).1) : ∃ τ1 τ2, X11_layNames τ = some τ1 ∧ X11_layFirsts (nI s) τ1 = some τ2 ∧ ScM τ τ2 ∧ OM τ2 (aP A) (fun p => fyk (aL A) (aB A) (aN A) s p (aL A).1) ∧ gI τ2 7 3 = nI (uN (aU A) 3) := by
  obtain ⟨w1, w2, w3, w4, w5, w6, w7, w8, w9, w10⟩ := wA
  have hnp := w1.1
  obtain ⟨τ', f1, f2, f3, f4, f5⟩ := m_layNames mU w9 mWd w8 w10
  obtain ⟨g, e1, e2⟩ := m_layFirsts (mB.frN f2) w2 hnp (mL.fr f2) w3 w8 f5 w10 hs
  have hsc : ScM τ' (sIf τ' 44 g) := ⟨fun q _ _ h3 => gI_sIfn h3, rfl⟩
  have o : ∀ q, q ≠ 44 → gI (sIf τ' 44 g) q = gI τ' q := fun q h => gI_sIfn h
  have mP' := mP.frN f2
  refine ⟨τ', sIf τ' 44 g, f1, e1, f2.sc.tr hsc, ⟨?_, fun p hp => ?_⟩, ?_⟩
  · unfold MP
    rw [o 0 (by decide), o 27 (by decide), o 28 (by decide)]
    exact mP'
  · rw [gI_sIf]; exact e2 p (by omega)
  · rw [o 7 (by decide), f2.1 7 (by omega)]; exact mU.2.2.1 3 (by decide)
theorem eq_starts (h : Rel σ τ) (x y : Int32) : Eq2 (X10_starts x y σ) (X11_starts x y τ) := by
  have hA := h
  have h0 := h
  obtain ⟨A, hC, hM, hW⟩ := h
  obtain ⟨hP, hB, hL, hR, hZ, hS, hT, hWd, r, hQ, hU⟩ := hC
  obtain ⟨mP, mB, mL, mR, mZ, mS, mT, mWd, mU, mK⟩ := hM
  obtain ⟨w1, w2, w3, w4, w5, w6, w7, w8, w9, w10⟩ := hW
  have wA : WA A := ⟨w1, w2, w3, w4, w5, w6, w7, w8, w9, w10⟩
  have hn := w8.1
  have hnp := w1.1
  have hin := in_eq y 0 3 τ
  unfold X10_starts X11_starts
  rw [show (0 : Int64) = (0 : Int32).toInt64 from rfl, show (3 : Int64) = (3 : Int32).toInt64 from rfl, hin]
  rcases ixc x (aW A).1 (by omega) with ⟨s, hs, rfl⟩ | hx
  · rw [c_word_in hWd.1 hn hs, m_word_in mWd.1 hn hs, Option.bind_some, Option.bind_some, if_neg n10, if_neg n10]
    rcases rngc y 3 3 (by decide) with ⟨j, hj, rfl, c1, c2, c3, c4⟩ | ⟨c1, c2⟩ | ⟨c1, c2, c3, c4⟩
    · simp only [c1, c2, c3, c4, if_true, if_false, decide_true, Bool.and_self, b2_t, Option.bind_some, one0]
      obtain ⟨τ1, τ2, f1, f2, f3, f4, f5⟩ := m_prep mP mB mL mWd mU wA hs
      obtain ⟨σ2, e1, e2, e3⟩ := c_gather hP w1 hB w2 hL w3 hWd w8 w10 hs
      have hFY : FY (fun p => fyk (aL A) (aB A) (aN A) s p (aL A).1) := fyk_FY w3 w2
      have hb := bs_lt8 (prs fun p => fyk (aL A) (aB A) (aN A) s p (aL A).1) hnp
      have hmi : uN (aU A) 3 < 21 := by have := w9.2.2.2.2.2.1 3 (by decide); omega
      have hm0 : uN (aU A) 3 ≠ 0 := by have := w9.2.2.2.2.2.2.1; omega
      obtain ⟨l, fw, a, g1, g2⟩ := m_st45 f4 w1 hFY hmi hm0 f5 (nI j) (bc (bs (prs fun p => fyk (aL A) (aB A) (aN A) s p (aL A).1) (aP A).1) 16) FU 0 (by omega) (by show _ < 1000000; have := bc_le (bs (prs fun p => fyk (aL A) (aB A) (aN A) s p (aL A).1) (aP A).1) 16; omega) (fun t _ _ => by omega)
      rw [f1, Option.bind_some, f2, Option.bind_some, m_withFirst f4 hnp hFY, Option.bind_some, show (0 : Int32) = nI 0 from rfl, g2, chk_nI (by omega) (by decide), nI_cl (show s < 2 ^ 31 by omega), hWd.2.2.2.2.2.2.2 s hs, e1, Option.bind_some]
      have hQ0 : gR σ2 0 8 = r := by rw [e2.2.2]; exact hQ.2.1
      have hr := hQ.1
      have h63 : gI σ2 (6 + r) 3 = nI (uN (aU A) 3) := by rw [e2.1 (6 + r) (by omega) (by omega) (by omega)]; exact hU.2.2.1 3 (by decide)
      rw [hQ0, chkN_lt hr, h63]
      obtain ⟨σ4, k1, k2, k3, k4⟩ := c_spread e3 w1 hFY hmi hm0
      obtain ⟨σ5, l', fw', a', t1, t2, t3, t4, t5, t6⟩ := c_search k3 w1 k4
      obtain ⟨u1, u2, u3⟩ := t3.un g1
      subst u1 u2 u3
      have hfw : fw' ≤ bs (prs fun p => fyk (aL A) (aB A) (aN A) s p (aL A).1) (aP A).1 := t3.1
      have hl : bc fw' 16 = l' := t3.2.2.1
      rw [k1, Option.bind_some, t1, Option.bind_some]
      have hR2 := hA.fr e2.sc f3
      have hR5 := hA.fr ((e2.tr k2).tr t2).sc f3
      rcases (by omega : j = 0 ∨ j = 1 ∨ j = 2 ∨ j = 3) with rfl | rfl | rfl | rfl
      · rw [if_neg (by decide), if_neg (by decide), if_pos rfl, t4, c_pop32 (by omega), Option.bind_some, bc16 (by omega), hl]
        exact Eq2.of rfl rfl hR5
      · rw [if_neg (by decide), if_neg (by decide), if_neg (by decide), t4]
        exact Eq2.of rfl rfl hR5
      · rw [if_pos (show nI 2 = 2 from rfl), e3.2.1]
        exact Eq2.of rfl rfl hR2
      · rw [if_neg (by decide), if_pos (show nI 3 = 3 from rfl), t5]
        exact Eq2.of rfl rfl hR5
    · simp only [c1, c2, if_true, if_false, decide_false, Bool.false_and, b2_f, Option.bind_some]
      exact Eq2.same h0 _
    · simp only [c1, c2, c4, if_true, if_false, decide_true, decide_false, Bool.and_false, b2_f, Option.bind_some]
      exact Eq2.same h0 _
  · rw [c_word_out hWd.1 hx, m_word_out mWd.1 hn hx, Option.bind_some, Option.bind_some, if_pos rfl, if_pos rfl]
    exact Eq2.same h0 _
theorem eq_judge (h : Rel σ τ) (x y : Int32) : Eq2 (X10_judge x y σ) (X11_judge x y τ) := by
  have hA := h
  have h0 := h
  obtain ⟨A, hC, hM, hW⟩ := h
  obtain ⟨hP, hB, hL, hR, hZ, hS, hT, hWd, r, hQ, hU⟩ := hC
  obtain ⟨mP, mB, mL, mR, mZ, mS, mT, mWd, mU, mK⟩ := hM
  obtain ⟨w1, w2, w3, w4, w5, w6, w7, w8, w9, w10⟩ := hW
  have wA : WA A := ⟨w1, w2, w3, w4, w5, w6, w7, w8, w9, w10⟩
  have hn := w8.1
  have hnp := w1.1
  have h2 : 2 ^ (aP A).1 ≤ 256 := Nat.pow_le_pow_right (n := 2) (by decide) hnp
  unfold X10_judge X11_judge
  rw [hP.1, mP.1, one_shl32 _ (by omega)]
  rcases ixc x (aW A).1 (by omega) with ⟨s, hs, rfl⟩ | hx
  · rw [c_word_in hWd.1 hn hs, m_word_in mWd.1 hn hs, Option.bind_some, Option.bind_some, if_neg n10, if_neg n10]
    rcases ixc y (2 ^ (aP A).1) (by omega) with ⟨S, hS, rfl⟩ | hy
    · rw [is_in (by omega) hS, Option.bind_some, if_neg n10, if_neg (nI_pos (by omega)), if_pos (by rw [ltI (by omega) (by omega)]; exact hS)]
      obtain ⟨τ1, τ2, f1, f2, f3, f4, f5⟩ := m_prep mP mB mL mWd mU wA hs
      obtain ⟨σ2, e1, e2, e3⟩ := c_gather hP w1 hB w2 hL w3 hWd w8 w10 hs
      have hFY : FY (fun p => fyk (aL A) (aB A) (aN A) s p (aL A).1) := fyk_FY w3 w2
      have hb := bs_lt8 (prs fun p => fyk (aL A) (aB A) (aN A) s p (aL A).1) hnp
      have hmi : uN (aU A) 3 < 21 := by have := w9.2.2.2.2.2.1 3 (by decide); omega
      have hm0 : uN (aU A) 3 ≠ 0 := by have := w9.2.2.2.2.2.2.1; omega
      have hx : (S &&& (bs (prs fun p => fyk (aL A) (aB A) (aN A) s p (aL A).1) (aP A).1 ^^^ 65535)) < 2 ^ 31 := Nat.lt_of_le_of_lt Nat.and_le_left (by omega)
      rw [f1, Option.bind_some, f2, Option.bind_some, m_withFirst f4 hnp hFY, Option.bind_some, chk_nI (by omega) (by decide), nI_cl (show s < 2 ^ 31 by omega), hWd.2.2.2.2.2.2.2 s hs, e1, Option.bind_some, e3.2.1, nI_xm (by omega) (by omega)]
      have hz : ∀ z : Nat, z < 2 ^ 31 → (nI z = (0 : Int32)) = (z = 0) := fun z hz => eqI hz (show 0 < 2 ^ 31 by decide)
      simp only [hz _ hx]
      have hQ0 : gR σ2 0 8 = r := by rw [e2.2.2]; exact hQ.2.1
      have hr := hQ.1
      have h63 : gI σ2 (6 + r) 3 = nI (uN (aU A) 3) := by rw [e2.1 (6 + r) (by omega) (by omega) (by omega)]; exact hU.2.2.1 3 (by decide)
      rw [hQ0, chkN_lt hr, h63, f5]
      by_cases e : S &&& (bs (prs fun p => fyk (aL A) (aB A) (aN A) s p (aL A).1) (aP A).1 ^^^ 65535) = 0
      · have hsub := gd_sub hnp (show S < 65536 by omega) e
        obtain ⟨σ4, k1, k2, k3, k4⟩ := c_spread e3 w1 hFY hmi hm0
        rw [if_pos e, if_pos e, k1, Option.bind_some, c_lets k3 w1 k4 (by omega) hsub, m_doLet f4 w1 hFY hmi hm0 (by omega) hsub, Option.bind_some, Option.bind_some]
        have hR4 := hA.fr (e2.tr k2).sc f3
        cases cov (aP A) (fun p => fyk (aL A) (aB A) (aN A) s p (aL A).1) (uN (aU A) 3) S with
        | true =>
          rw [if_neg (show ¬ b2 true = 0 from n10), if_neg (show ¬ b2 true = 0 from n10)]
          exact Eq2.of rfl rfl hR4
        | false =>
          rw [if_pos (show b2 false = 0 from rfl), if_pos (show b2 false = 0 from rfl)]
          exact Eq2.of rfl rfl hR4
      · rw [if_neg e, if_neg e]
        exact Eq2.of rfl rfl (hA.fr e2.sc f3)
    · rw [is_out (by omega) hy, Option.bind_some, if_pos rfl]
      rcases hy with hy | hy
      · rw [if_pos hy]
        exact Eq2.same h0 _
      · by_cases hy0 : y < 0
        · rw [if_pos hy0]
          exact Eq2.same h0 _
        · rw [if_neg hy0, if_neg (Int32.not_lt.mpr hy)]
          exact Eq2.same h0 _
  · rw [c_word_out hWd.1 hx, m_word_out mWd.1 hn hx, Option.bind_some, Option.bind_some, if_pos rfl, if_pos rfl]
    exact Eq2.same h0 _
def sng (P : DP) (f : Nat → Option Nat) (m p : Nat) : Bool := prs f p && cov P f m (2 ^ p)
theorem p2_sub {P : DP} {f : Nat → Option Nat} {p : Nat} (hp : p < P.1) (hpr : prs f p = true) : ∀ i, (2 ^ p).testBit i = true → i < P.1 ∧ prs f i = true := fun i hi => by
  rw [Nat.testBit_two_pow, decide_eq_true_eq] at hi
  subst hi
  exact ⟨hp, hpr⟩
theorem c_single {P : DP} {f : Nat → Option Nat} {m : Nat} (h : OC σ P f) (w : WP P) (hr : OR_ σ P f m) : X4_hasSingleStart σ = some (b2 ((List.range P.1).any (sng P f m))) := by
  have h8 := w.1
  refine any_loop (fun n k => X4_hasSingleStart_L2 σ n (nI k)) P.1 _ (by omega) (fun n k hk => ?_) (fun n => ?_)
  · show X4_hasSingleStart_L2 σ (n + 1) (nI k) = _
    rw [X4_hasSingleStart_L2, h.1.1, if_neg (nI_ge hk (by omega)), c_isPr h h8 hk, Option.bind_some, nI_1]
    unfold sng
    cases e : prs f k with
    | false => rw [if_pos (show b2 false = 0 from rfl), if_neg (by simp)]
    | true =>
      have b1 := bs_lt8 (rch P f m k) h8
      have b2' := bs_lt8 (prs f) h8
      rw [if_neg (show ¬ b2 true = 0 from n10), chk_nI (by omega) (by decide), nI_cl (by omega), hr k hk, if_pos e, h.2.1, Bool.true_and]
      simp only [eqI (show bs (rch P f m k) P.1 < 2 ^ 31 by omega) (show bs (prs f) P.1 < 2 ^ 31 by omega)]
      have hiff : bs (rch P f m k) P.1 = bs (prs f) P.1 ↔ cov P f m (2 ^ k) = true := by
        rw [cov_iff]
        constructor
        · intro he q hq hp
          exact ⟨k, hk, by rw [Nat.testBit_two_pow]; simp, by rw [bs_inj he q hq]; exact hp⟩
        · intro hc
          apply bs_ext
          intro q hq
          cases hp : prs f q with
          | true =>
            obtain ⟨p, p1, p2, p3⟩ := hc q hq hp
            rw [Nat.testBit_two_pow, decide_eq_true_eq] at p2
            subst p2
            exact p3
          | false =>
            unfold rch
            rw [hp, Bool.false_and, Bool.or_false]
            apply decide_eq_false
            intro he
            subst he
            rw [e] at hp
            cases hp
      by_cases hc : cov P f m (2 ^ k) = true
      · rw [if_pos (hiff.mpr hc), if_pos hc]
      · rw [if_neg (fun h => hc (hiff.mp h)), if_neg hc]
  · show X4_hasSingleStart_L2 σ (n + 1) (nI P.1) = _
    rw [X4_hasSingleStart_L2, h.1.1, if_pos (nI_le (Nat.le_refl _) (by omega))]
theorem m_pc29 {P : DP} {f : Nat → Option Nat} {m : Nat} (h : OM τ P f) (w : WP P) (hf : FY f) (hm : m < 21) (hm0 : m ≠ 0) (kq : Int32 → St → Option (Int32 × St)) : ∀ d n p, p + d = P.1 → d < n → X11_pace_L29 kq n (nI m) (nI p) τ = if ((List.range' p d).any (sng P f m)) = true then some (nI m, τ) else kq (nI (m + 1)) τ := by
  have h8 := w.1
  intro d
  induction d with
  | zero =>
    intro n p hp hn
    obtain ⟨n, rfl⟩ : ∃ q, n = q + 1 := ⟨n - 1, by omega⟩
    have : p = P.1 := by omega
    subst this
    rw [X11_pace_L29, h.1.1, if_pos (nI_le (Nat.le_refl _) (by omega)), nI_1, if_neg (by simp)]
  | succ d ih =>
    intro n p hp hn
    obtain ⟨n, rfl⟩ : ∃ q, n = q + 1 := ⟨n - 1, by omega⟩
    have hpp : p < P.1 := by omega
    have ih' := ih n (p + 1) (by omega) (by omega)
    rw [X11_pace_L29, h.1.1, if_neg (nI_ge hpp (by omega)), chk_nI (by omega) (by decide), nI_cl (by omega), h.2 p hpp, List.range'_succ, List.any_cons, nI_1]
    cases e : f p with
    | none =>
      have e1 : prs f p = false := by unfold prs; rw [e]; rfl
      have e2 : sng P f m p = false := by unfold sng; rw [e1]; rfl
      rw [if_pos oI_none, ih', e2, Bool.false_or]
    | some y =>
      have hy := hf p y e
      have e1 : prs f p = true := by unfold prs; rw [e]; rfl
      have e2 : sng P f m p = cov P f m (2 ^ p) := by unfold sng; rw [e1]; rfl
      have h2p : 2 ^ p < 256 := Nat.lt_of_lt_of_le (Nat.pow_lt_pow_right (by decide) (show p < 8 by omega)) (by decide)
      rw [oI_some]
      simp only [neI4 (show y < 2 ^ 31 by omega), if_false]
      rw [one_shl32 p (by omega), m_doLet h w hf hm hm0 (by omega) (p2_sub hpp e1), Option.bind_some, e2]
      cases cov P f m (2 ^ p) with
      | true => rw [if_neg (show ¬ b2 true = 0 from n10), Bool.true_or, if_pos rfl]
      | false => rw [if_pos (show b2 false = 0 from rfl), ih', Bool.false_or]
theorem pace_L {P : DP} {f : Nat → Option Nat} (w : WP P) (hf : FY f) (h : OM τ P f) : ∀ d n n' m σ1, m + d = 21 → m ≠ 0 → d < n → d < n' → FrO σ σ1 → OC σ1 P f → ∃ r σ', X10_pace_L31 n (nI m) σ1 = some (r, σ') ∧ FrO σ σ' ∧ X11_pace_L21 n' (nI m) τ = some (r, τ) := by
  have h8 := w.1
  intro d
  induction d with
  | zero =>
    intro n n' m σ1 hm hm0 hn hn' g1 g2
    obtain ⟨n, rfl⟩ : ∃ q, n = q + 1 := ⟨n - 1, by omega⟩
    obtain ⟨n', rfl⟩ : ∃ q, n' = q + 1 := ⟨n' - 1, by omega⟩
    have : m = 21 := by omega
    subst this
    exact ⟨-4, σ1, by rw [X10_pace_L31, if_pos (by decide)], g1, by rw [X11_pace_L21, if_pos (by decide)]⟩
  | succ d ih =>
    intro n n' m σ1 hm hm0 hn hn' g1 g2
    obtain ⟨n, rfl⟩ : ∃ q, n = q + 1 := ⟨n - 1, by omega⟩
    obtain ⟨n', rfl⟩ : ∃ q, n' = q + 1 := ⟨n' - 1, by omega⟩
    have h20 : ¬ (20 : Int32) < nI m := by
      rw [show (20 : Int32) = nI 20 from rfl, ltI (by decide) (by omega)]
      omega
    obtain ⟨σ3, k1, k2, k3, k4⟩ := c_spread g2 w hf (show m < 21 by omega) hm0
    have hm29 := m_pc29 h w hf (show m < 21 by omega) hm0 (X11_pace_L21 n') P.1 FU 0 (by omega) (by show _ < 1000000; omega)
    rw [← List.range_eq_range'] at hm29
    rw [X10_pace_L31, if_neg h20, X11_pace_L21, if_neg h20, k1, Option.bind_some, c_single k3 w k4, Option.bind_some, show X11_pace_L29 (X11_pace_L21 n') FU (nI m) 0 τ = _ from hm29, nI_1]
    cases (List.range P.1).any (sng P f m) with
    | true =>
      rw [if_neg (show ¬ b2 true = 0 from n10), if_pos rfl]
      exact ⟨_, _, rfl, g1.tr k2, rfl⟩
    | false =>
      rw [if_pos (show b2 false = 0 from rfl), if_neg (by decide)]
      exact ih n n' (m + 1) σ3 (by omega) (by omega) (by omega) (by omega) (g1.tr k2) k3
theorem eq_pace (h : Rel σ τ) (x : Int32) : Eq2 (X10_pace x σ) (X11_pace x τ) := by
  have hA := h
  have h0 := h
  obtain ⟨A, hC, hM, hW⟩ := h
  obtain ⟨hP, hB, hL, hR, hZ, hS, hT, hWd, r, hQ, hU⟩ := hC
  obtain ⟨mP, mB, mL, mR, mZ, mS, mT, mWd, mU, mK⟩ := hM
  obtain ⟨w1, w2, w3, w4, w5, w6, w7, w8, w9, w10⟩ := hW
  have wA : WA A := ⟨w1, w2, w3, w4, w5, w6, w7, w8, w9, w10⟩
  have hn := w8.1
  have hnp := w1.1
  unfold X10_pace X11_pace
  rcases ixc x (aW A).1 (by omega) with ⟨s, hs, rfl⟩ | hx
  · rw [c_word_in hWd.1 hn hs, m_word_in mWd.1 hn hs, Option.bind_some, Option.bind_some, if_neg n10, if_neg n10]
    obtain ⟨τ1, τ2, f1, f2, f3, f4, f5⟩ := m_prep mP mB mL mWd mU wA hs
    obtain ⟨σ2, e1, e2, e3⟩ := c_gather hP w1 hB w2 hL w3 hWd w8 w10 hs
    have hFY : FY (fun p => fyk (aL A) (aB A) (aN A) s p (aL A).1) := fyk_FY w3 w2
    obtain ⟨r', σ', k1, k2, k3⟩ := pace_L (σ := σ) w1 hFY f4 20 FU FU 1 σ2 (by decide) (by decide) (by decide) (by decide) e2 e3
    rw [chk_nI (by omega) (by decide), nI_cl (show s < 2 ^ 31 by omega), hWd.2.2.2.2.2.2.2 s hs, e1, Option.bind_some, f1, Option.bind_some, f2, Option.bind_some, show (1 : Int32) = nI 1 from rfl, k1, k3]
    exact Eq2.of rfl rfl (hA.fr k2.sc f3)
  · rw [c_word_out hWd.1 hx, m_word_out mWd.1 hn hx, Option.bind_some, Option.bind_some, if_pos rfl, if_pos rfl]
    exact Eq2.same h0 _
end Starts3
