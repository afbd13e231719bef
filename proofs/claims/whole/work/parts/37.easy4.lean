/-! known, again, line -/
def knV (R : DR) (k d v : Nat) : Nat := (List.range R.1).foldl (fun v r => if R.2.1 r = k ∧ R.2.2.2 r ≤ d then R.2.2.1 r else v) v
section Easy4
variable {σ τ : St} {B : DB} {ns : Nat} {L : DL} {R : DR}
theorem c_known (hR : CR σ R) (w : R.1 ≤ 60) (wr : ∀ r, r < R.1 → R.2.1 r < 2 ^ 31 ∧ R.2.2.2 r < 2 ^ 31) (k d v : Nat) (hk : k < 2 ^ 31) (hd : d < 2 ^ 31) : X3_knownOn_L23 σ FU (nI k) (nI d) (nI v) (nI 0) = some (nI (knV R k d v)) := by
  refine fold0 (fun m i (a : Nat) => X3_knownOn_L23 σ m (nI k) (nI d) (nI a) (nI i)) R.1 (fun r v => if R.2.1 r = k ∧ R.2.2.2 r ≤ d then R.2.2.1 r else v) (fun a => some (nI a)) (by omega) (fun m i a hi => ?_) (fun m a => ?_) v
  · show X3_knownOn_L23 σ (m + 1) (nI k) (nI d) (nI a) (nI i) = _
    rw [X3_knownOn_L23, hR.1, if_neg (nI_ge hi (by omega))]
    simp only [chk_nI (show i < 60 by omega) (by decide), nI_cl (show i < 2 ^ 31 by omega), hR.2.1 i hi, hR.2.2.1 i hi, hR.2.2.2 i hi, nI_1, eqI (wr i hi).1 hk, ltI hd (wr i hi).2, bnd]
    by_cases e1 : R.2.1 i = k
    · by_cases e2 : R.2.2.2 i ≤ d
      · have n2 : ¬ d < R.2.2.2 i := by omega
        simp [e1, e2, n2]
      · have n2 : d < R.2.2.2 i := by omega
        simp [e1, e2, n2]
    · simp [e1]
  · show X3_knownOn_L23 σ (m + 1) (nI k) (nI d) (nI a) (nI R.1) = _
    rw [X3_knownOn_L23, hR.1, if_pos (nI_le (Nat.le_refl _) (by omega))]
theorem m_known (hR : MR τ R) (w : R.1 ≤ 60) (wr : ∀ r, r < R.1 → R.2.1 r < 2 ^ 31 ∧ R.2.2.2 r < 2 ^ 31) (k d v : Nat) (hk : k < 2 ^ 31) (hd : d < 2 ^ 31) : X11_known_L45 τ FU (nI k) (nI d) (nI v) (nI 0) = some (nI (knV R k d v)) := by
  refine fold0 (fun m i (a : Nat) => X11_known_L45 τ m (nI k) (nI d) (nI a) (nI i)) R.1 (fun r v => if R.2.1 r = k ∧ R.2.2.2 r ≤ d then R.2.2.1 r else v) (fun a => some (nI a)) (by omega) (fun m i a hi => ?_) (fun m a => ?_) v
  · show X11_known_L45 τ (m + 1) (nI k) (nI d) (nI a) (nI i) = _
    rw [X11_known_L45, hR.1, if_neg (nI_ge hi (by omega))]
    simp only [chk_nI (show i < 60 by omega) (by decide), nI_cl (show i < 2 ^ 31 by omega), hR.2.1 i hi, hR.2.2.1 i hi, hR.2.2.2 i hi, nI_1, eqI (wr i hi).1 hk, ltI hd (wr i hi).2, bnd]
    by_cases e1 : R.2.1 i = k
    · by_cases e2 : R.2.2.2 i ≤ d
      · have n2 : ¬ d < R.2.2.2 i := by omega
        simp [e1, e2, n2]
      · have n2 : d < R.2.2.2 i := by omega
        simp [e1, e2, n2]
    · simp [e1]
  · show X11_known_L45 τ (m + 1) (nI k) (nI d) (nI a) (nI R.1) = _
    rw [X11_known_L45, hR.1, if_pos (nI_le (Nat.le_refl _) (by omega))]
theorem eq_known (h : Rel σ τ) (x y : Int32) : Eq2 (pu (X10_known x y σ) σ) (pu (X11_known x y τ) τ) := by
  have h0 := h
  obtain ⟨A, hC, hM, hW⟩ := h
  obtain ⟨hP, hB, hL, hR, hZ, hS, hT, hWd, r, hQ, hU⟩ := hC
  obtain ⟨mP, mB, mL, mR, mZ, mS, mT, mWd, mU, mK⟩ := hM
  obtain ⟨w1, w2, w3, w4, w5, w6, w7, w8, w9, w10⟩ := hW
  have wL : (aL A).1 ≤ 40 := w3.1
  have wr : ∀ r, r < (aR A).1 → (aR A).2.1 r < 2 ^ 31 ∧ (aR A).2.2.2 r < 2 ^ 31 := fun r hr => by have := w4.2.1 r hr; omega
  unfold X10_known X11_known
  rcases ixc x (aL A).1 (by omega) with ⟨k, hk, rfl⟩ | hx
  · rw [c_line_in hL.1 wL hk, m_line_in mL.1 wL hk]
    have hin := in_eq y 0 999 τ
    rw [show (0 : Int64) = (0 : Int32).toInt64 from rfl, show (999 : Int64) = (999 : Int32).toInt64 from rfl, hin]
    simp only [Option.bind_some, one0, if_false]
    rcases rngc y 999 999 (by decide) with ⟨d, hd, rfl, c1, c2, c3, c4⟩ | ⟨c1, c2⟩ | ⟨c1, c2, c3, c4⟩
    · have wk := w3.2 k hk
      simp only [c1, c2, c3, c4, if_true, if_false, decide_true, decide_false, Bool.and_self, Bool.and_false, Bool.false_and, Bool.and_true, Bool.true_and, b2_t, b2_f, Option.bind_some, one0, X3_knownOn, chk_nI (show k < 40 by omega) (by decide), nI_cl (show k < 2 ^ 31 by omega), hL.2.2.2.2.2.2.1 k hk, mL.2.2.2.2.2.2.1 k hk, hL.2.2.2.2.1 k hk, mL.2.2.2.2.1 k hk, bnd]
      by_cases e : nI (lD (aL A) k) ≤ nI d
      · simp only [e, if_true]
        rw [show (0 : Int32) = nI 0 from rfl, c_known hR w4.1 wr k d _ (by omega) (by omega), m_known mR w4.1 wr k d _ (by omega) (by omega)]
        exact Eq2.pp rfl rfl h0
      · simp only [e, if_false]
        exact Eq2.pp rfl rfl h0
    · simp only [c1, c2, if_true, if_false, decide_true, decide_false, Bool.and_self, Bool.and_false, Bool.false_and, Bool.and_true, Bool.true_and, b2_t, b2_f, Option.bind_some, one0]
      exact Eq2.pp rfl rfl h0
    · simp only [c1, c2, c3, c4, if_true, if_false, decide_true, decide_false, Bool.and_self, Bool.and_false, Bool.false_and, Bool.and_true, Bool.true_and, b2_t, b2_f, Option.bind_some, one0]
      exact Eq2.pp rfl rfl h0
  · rw [c_line_out hL.1 hx, m_line_out mL.1 wL hx]
    simp only [Option.bind_some, if_true]
    exact Eq2.pp rfl rfl h0
theorem eq_again (h : Rel σ τ) (x y : Int32) : Eq2 (X10_again x y σ) (X11_again x y τ) := by
  have h0 := h
  obtain ⟨A, hC, hM, hW⟩ := h
  obtain ⟨hP, hB, hL, hR, hZ, hS, hT, hWd, r, hQ, hU⟩ := hC
  obtain ⟨mP, mB, mL, mR, mZ, mS, mT, mWd, mU, mK⟩ := hM
  obtain ⟨w1, w2, w3, w4, w5, w6, w7, w8, w9, w10⟩ := hW
  have wL : (aL A).1 ≤ 40 := w3.1
  have wW : (aW A).1 ≤ 16 := w8.1
  unfold X10_again X11_again
  rcases ixc x (aL A).1 (by omega) with ⟨k, hk, rfl⟩ | hx
  · rw [c_line_in hL.1 wL hk, m_line_in mL.1 wL hk]
    simp only [Option.bind_some, one0, if_false]
    rcases ixc y (aW A).1 (by omega) with ⟨s, hs, rfl⟩ | hy
    · rw [c_word_in hWd.1 wW hs, m_word_in mWd.1 wW hs]
      have wk := w3.2 k hk
      simp only [Option.bind_some, one0, if_false, chk_nI (show k < 40 by omega) (by decide), nI_cl (show k < 2 ^ 31 by omega), hL.2.2.2.2.2.1 k hk, mL.2.2.2.2.2.1 k hk]
      by_cases e : nI (lN_ (aL A) k) = nI s
      · simp only [e, if_true]
        exact Eq2.same h0 _
      · simp only [e, if_false, hR.1, mR.1]
        by_cases e6 : (aR A).1 = 60
        · have hf : ∀ d, X3_reread (nI k) (nI s) d σ = some (-3, σ) := fun d => by
            unfold X3_reread
            rw [hR.1, e6]
            exact if_neg (by decide)
          rw [hf, e6]
          simp only [show nI 60 = (60 : Int32) from rfl, if_true, Option.bind_some]
          exact Eq2.same h0 _
        · have wR : (aR A).1 ≤ 60 := w4.1
          have n6 : ¬ nI (aR A).1 = (60 : Int32) := fun e => e6 ((nI_eq (b := 60) (by omega) (by decide)).mp e)
          have l6 : nI (aR A).1 < (60 : Int32) := nI_lt (b := 60) (by omega) (by decide)
          simp only [n6, if_false, X3_reread, hR.1, mR.1, l6, if_true, bnd, gI_sI, chk_nI (show (aR A).1 < 60 by omega) (by decide), chk_nI (show k < 40 by omega) (by decide), nI_cl (show (aR A).1 < 2 ^ 31 by omega), nI_cl (show k < 2 ^ 31 by omega), Option.bind_some, show ((34 : Nat) = 43) = False by decide, show ((34 : Nat) = 44) = False by decide, show ((34 : Nat) = 45) = False by decide, show ((0 : Nat) = 41) = False by decide, show ((0 : Nat) = 42) = False by decide, show ((0 : Nat) = 43) = False by decide, show ((40 : Nat) = 39) = False by decide, show ((40 : Nat) = 34) = False by decide, show ((40 : Nat) = 43) = False by decide, show ((40 : Nat) = 44) = False by decide, show ((40 : Nat) = 45) = False by decide, show ((39 : Nat) = 37) = False by decide, show ((39 : Nat) = 0) = False by decide, show ((39 : Nat) = 41) = False by decide, show ((39 : Nat) = 42) = False by decide, show ((39 : Nat) = 43) = False by decide, false_and, and_self, nI_1, hL.2.2.2.2.2.2.2.1 k hk, mL.2.2.2.2.2.2.2.1 k hk]
          refine Eq2.of rfl rfl ⟨(aP A, aB A, ((aL A).1, lB (aL A), lY (aL A), lK (aL A), lF (aL A), up_ (lN_ (aL A)) k s, lD (aL A), up_ (lR (aL A)) k (lR (aL A) k + 1), lA (aL A)), ((aR A).1 + 1, up_ (aR A).2.1 (aR A).1 k, up_ (aR A).2.2.1 (aR A).1 s, up_ (aR A).2.2.2 (aR A).1 (aZ A).1), aZ A, aS A, aT A, aW A, aU A, aN A), ?_, ?_, ?_⟩
          · exact ⟨hP, hB, ⟨hL.1, hL.2.1, hL.2.2.1, hL.2.2.2.1, hL.2.2.2.2.1, set1 rfl hL.2.2.2.2.2.1, hL.2.2.2.2.2.2.1, set1 rfl hL.2.2.2.2.2.2.2.1, hL.2.2.2.2.2.2.2.2⟩, ⟨rfl, app1 rfl hR.2.1, app1 rfl hR.2.2.1, app1 hZ.1 hR.2.2.2⟩, hZ, hS.fr ((((((Off.rf.sI (by omega)).sI (by omega)).sI (by omega)).sI (by omega)).sI (by omega)).sI (by omega)), hT, hWd, r, hQ, hU.fr hQ.1 ((((((Off.rf.sI (by omega)).sI (by omega)).sI (by omega)).sI (by omega)).sI (by omega)).sI (by omega))⟩
          · exact ⟨mP, mB, ⟨mL.1, mL.2.1, mL.2.2.1, mL.2.2.2.1, mL.2.2.2.2.1, set1 rfl mL.2.2.2.2.2.1, mL.2.2.2.2.2.2.1, set1 rfl mL.2.2.2.2.2.2.2.1, mL.2.2.2.2.2.2.2.2⟩, ⟨rfl, app1 rfl mR.2.1, app1 rfl mR.2.2.1, app1 mZ.1 mR.2.2.2⟩, mZ, mS, mT, mWd, mU, mK⟩
          · refine ⟨w1, w2, ⟨w3.1, fun i hi => ?_⟩, ⟨by show (aR A).1 + 1 ≤ 60; omega, fun i hi => ?_, fun i hi => ?_⟩, w5, w6, w7, w8, w9, w10⟩
            · obtain ⟨v1, v2, v3, v4, v5, v6, v7, v8, v9, v10⟩ := w3.2 i hi
              have hri := w4.2.2 i hi
              refine ⟨v1, v2, v3, v4, v5, ?_, v7, ?_, ?_, v10⟩
              · show up_ (lN_ (aL A)) k s i < (aW A).1
                unfold up_
                by_cases e : i = k
                · simp only [e, if_true]; exact hs
                · simp only [e, if_false]; exact v6
              · show 1 ≤ up_ (lR (aL A)) k (lR (aL A) k + 1) i
                unfold up_
                by_cases e : i = k
                · simp only [e, if_true]; omega
                · simp only [e, if_false]; exact v8
              · show up_ (lR (aL A)) k (lR (aL A) k + 1) i ≤ 70
                unfold up_
                by_cases e : i = k
                · simp only [e, if_true]; subst e; omega
                · simp only [e, if_false]; exact v9
            · have hi' : i < (aR A).1 + 1 := hi
              show up_ (aR A).2.1 (aR A).1 k i < (aL A).1 ∧ up_ (aR A).2.2.1 (aR A).1 s i < (aW A).1 ∧ up_ (aR A).2.2.2 (aR A).1 (aZ A).1 i ≤ 999
              unfold up_
              by_cases e : i = (aR A).1
              · simp only [e, if_true]; exact ⟨hk, hs, w5.1⟩
              · simp only [e, if_false]; exact w4.2.1 i (by omega)
            · show up_ (lR (aL A)) k (lR (aL A) k + 1) i ≤ 1 + ((aR A).1 + 1)
              have hri := w4.2.2 i hi
              unfold up_
              by_cases e : i = k
              · simp only [e, if_true]; subst e; omega
              · simp only [e, if_false]; omega
    · rw [c_word_out hWd.1 hy, m_word_out mWd.1 wW hy]
      simp only [Option.bind_some, if_true]
      exact Eq2.same h0 _
  · rw [c_line_out hL.1 hx, m_line_out mL.1 wL hx]
    simp only [Option.bind_some, if_true]
    exact Eq2.same h0 _
/-- a line comes: behind all -/
def addL (L : DL) (b y s kd d : Nat) : DL := (L.1 + 1, up_ (lB L) L.1 b, up_ (lY L) L.1 y, up_ (lK L) L.1 kd, up_ (lF L) L.1 s, up_ (lN_ L) L.1 s, up_ (lD L) L.1 d, up_ (lR L) L.1 1, up_ (lA L) L.1 none)
def cAdd (σ : St) (n : Nat) (b y s kd d : Int32) : St := sI (sI (sI (sI (sI (sI (sI (sI (sI σ 35 n b) 36 n y) 37 n kd) 38 n d) 42 n s) 39 n s) 40 n 1) 41 n (-4)) 34 10 (nI (n + 1))
def mAdd (τ : St) (n : Nat) (b y s kd d : Int32) : St := sI (sI (sI (sI (sI (sI (sI (sI (sI τ 33 n b) 34 n y) 35 n kd) 36 n s) 37 n s) 38 n d) 39 n 1) 40 n (-4)) 0 49 (nI (n + 1))
theorem c_append (h : gI σ 34 10 = nI L.1) (w : L.1 < 40) (b y s kd d : Int32) : X3_append b y s kd d σ = some (nI L.1, cAdd σ L.1 b y s kd d) := by
  have l4 : nI L.1 < (40 : Int32) := nI_lt (b := 40) (by omega) (by decide)
  simp only [X3_append, h, l4, if_true, bnd, gI_sI, chk_nI w (by decide), nI_cl (show L.1 < 2 ^ 31 by omega), show ((34 : Nat) = 35) = False by decide, show ((34 : Nat) = 36) = False by decide, show ((34 : Nat) = 37) = False by decide, show ((34 : Nat) = 38) = False by decide, show ((34 : Nat) = 39) = False by decide, show ((34 : Nat) = 40) = False by decide, show ((34 : Nat) = 41) = False by decide, show ((34 : Nat) = 42) = False by decide, false_and, if_false, and_self, nI_1]
  rw [show nI (L.1 + 1) - 1 = nI L.1 from nI_pred _]
  rfl
theorem m_append (h : gI τ 0 49 = nI L.1) (w : L.1 < 40) (b y s kd d : Int32) (hd : gI τ 0 62 = d) : X11_addLine b y s kd τ = some (mAdd τ L.1 b y s kd d) := by
  simp only [X11_addLine, h, bnd, gI_sI, chk_nI w (by decide), nI_cl (show L.1 < 2 ^ 31 by omega), show ((0 : Nat) = 33) = False by decide, show ((0 : Nat) = 34) = False by decide, show ((0 : Nat) = 35) = False by decide, show ((0 : Nat) = 36) = False by decide, show ((0 : Nat) = 37) = False by decide, show ((0 : Nat) = 38) = False by decide, show ((0 : Nat) = 39) = False by decide, show ((0 : Nat) = 40) = False by decide, false_and, if_false, and_self, if_true, nI_1, hd]
  rfl
theorem CL.add (hL : CL σ L) (b y s kd d : Nat) : CL (cAdd σ L.1 (nI b) (nI y) (nI s) (nI kd) (nI d)) (addL L b y s kd d) :=
  ⟨rfl, app1 rfl hL.2.1, app1 rfl hL.2.2.1, app1 rfl hL.2.2.2.1, app1 rfl hL.2.2.2.2.1, app1 rfl hL.2.2.2.2.2.1, app1 rfl hL.2.2.2.2.2.2.1, app1 rfl hL.2.2.2.2.2.2.2.1, app1o (a := none) rfl hL.2.2.2.2.2.2.2.2⟩
theorem ML.add (mL : ML τ L) (b y s kd d : Nat) : ML (mAdd τ L.1 (nI b) (nI y) (nI s) (nI kd) (nI d)) (addL L b y s kd d) :=
  ⟨rfl, app1 rfl mL.2.1, app1 rfl mL.2.2.1, app1 rfl mL.2.2.2.1, app1 rfl mL.2.2.2.2.1, app1 rfl mL.2.2.2.2.2.1, app1 rfl mL.2.2.2.2.2.2.1, app1 rfl mL.2.2.2.2.2.2.2.1, app1o (a := none) rfl mL.2.2.2.2.2.2.2.2⟩
theorem WL.add (w : WL ns B L) {b y s kd d : Nat} (hn : L.1 < 40) (hb : b < B.1) (hy1 : B.2.2.1 b ≤ y) (hy2 : y ≤ B.2.2.2.1 b) (hs : s < ns) (hk : kd ≤ 4) (hd : d ≤ 999) : WL ns B (addL L b y s kd d) := by
  refine ⟨by show L.1 + 1 ≤ 40; omega, fun k hk' => ?_⟩
  have hk'' : k < L.1 + 1 := hk'
  by_cases e : k = L.1
  · subst e
    refine ⟨?_, ?_, ?_, ?_, ?_, ?_, ?_, ?_, ?_, fun j hj => ?_⟩ <;> simp only [addL, lB, lY, lK, lF, lN_, lD, lR, lA, up_, if_true] at * <;> first | assumption | omega | cases hj
  · obtain ⟨v1, v2, v3, v4, v5, v6, v7, v8, v9, v10⟩ := w.2 k (by omega)
    refine ⟨?_, ?_, ?_, ?_, ?_, ?_, ?_, ?_, ?_, fun j hj => ?_⟩
    · simp only [addL, lB, up_, e, if_false]; exact v1
    · simp only [addL, lB, lY, up_, e, if_false]; exact v2
    · simp only [addL, lB, lY, up_, e, if_false]; exact v3
    · simp only [addL, lK, up_, e, if_false]; exact v4
    · simp only [addL, lF, up_, e, if_false]; exact v5
    · simp only [addL, lN_, up_, e, if_false]; exact v6
    · simp only [addL, lD, up_, e, if_false]; exact v7
    · simp only [addL, lR, up_, e, if_false]; exact v8
    · simp only [addL, lR, up_, e, if_false]; exact v9
    · simp only [addL, lA, up_, e, if_false] at hj
      obtain ⟨u1, u2⟩ := v10 j hj
      have ej : ¬ j = L.1 := by omega
      refine ⟨Nat.lt_succ_of_lt u1, ?_⟩
      simp only [addL, lY, up_, e, ej, if_false]; exact u2
theorem WR.add (w : WR ns L R) {b y s kd d : Nat} : WR ns (addL L b y s kd d) R := by
  refine ⟨w.1, fun i hi => ⟨Nat.lt_succ_of_lt (w.2.1 i hi).1, (w.2.1 i hi).2⟩, fun k hk => ?_⟩
  have hk' : k < L.1 + 1 := hk
  by_cases e : k = L.1
  · subst e
    simp only [addL, lR, up_, if_true]; omega
  · simp only [addL, lR, up_, e, if_false]; exact w.2.2 k (by omega)
theorem eq_line (h : Rel σ τ) (x y z u : Int32) : Eq2 (X10_line x y z u σ) (X11_line x y z u τ) := by
  have h0 := h
  obtain ⟨A, hC, hM, hW⟩ := h
  obtain ⟨hP, hB, hL, hR, hZ, hS, hT, hWd, r, hQ, hU⟩ := hC
  obtain ⟨mP, mB, mL, mR, mZ, mS, mT, mWd, mU, mK⟩ := hM
  obtain ⟨w1, w2, w3, w4, w5, w6, w7, w8, w9, w10⟩ := hW
  have wB : (aB A).1 ≤ 8 := w2.1
  have wL : (aL A).1 ≤ 40 := w3.1
  have wW : (aW A).1 ≤ 16 := w8.1
  unfold X10_line X11_line
  rcases ixc x (aB A).1 (by omega) with ⟨b, hb, rfl⟩ | hx
  · rw [c_book_in hB.1 wB hb, m_book_in mB.1 wB hb]
    have wb := w2.2 b hb
    have hin := in_eq y (nI ((aB A).2.2.1 b)) (nI ((aB A).2.2.2.1 b)) τ
    have hin2 := in_eq u 0 4 τ
    simp only [Option.bind_some, one0, if_false, chk_nI (show b < 8 by omega) (by decide), nI_cl (show b < 2 ^ 31 by omega), mB.2.2.1 b hb, mB.2.2.2.1 b hb]
    rw [hin, c_hasYear hB wB hb y]
    by_cases cy : (decide (nI ((aB A).2.2.1 b) ≤ y) && decide (y ≤ nI ((aB A).2.2.2.1 b))) = true
    · rw [cy]
      simp only [if_true, if_false, decide_true, decide_false, Bool.and_self, Bool.and_false, Bool.false_and, Bool.and_true, Bool.true_and, b2_t, b2_f, Option.bind_some, one0]
      simp only [Bool.and_eq_true, decide_eq_true_eq] at cy
      have y0 : ¬ y < 0 := fun hl => absurd (Int32.lt_of_le_of_lt cy.1 hl) (nI_pos (by omega))
      obtain ⟨yr, hyr, rfl⟩ := nI_of2 (n := (aB A).2.2.2.1 b) (nI_toInt (by omega)) y0 cy.2
      have hy1 : (aB A).2.2.1 b ≤ yr := (nI_leI (by omega) (by omega)).mp cy.1
      rcases ixc z (aW A).1 (by omega) with ⟨s, hs, rfl⟩ | hz
      · rw [c_word_in hWd.1 wW hs, m_word_in mWd.1 wW hs, show (0 : Int64) = (0 : Int32).toInt64 from rfl, show (4 : Int64) = (4 : Int32).toInt64 from rfl, hin2]
        simp only [Option.bind_some, one0, if_false, X3_isKind]
        rcases rngc u 4 4 (by decide) with ⟨kd, hkd, rfl, c1, c2, c3, c4⟩ | ⟨c1, c2⟩ | ⟨c1, c2, c3, c4⟩
        · simp only [c1, c2, c3, c4, if_true, if_false, decide_true, decide_false, Bool.and_self, Bool.and_false, Bool.false_and, Bool.and_true, Bool.true_and, b2_t, b2_f, Option.bind_some, one0]
          rw [c_isHole hB wB hb, m_isHole mB wB hb]
          simp only [Option.bind_some, b2_0]
          by_cases ch : isH ((aB A).2.2.2.2 b) (nI yr - nI ((aB A).2.2.1 b)) = false
          · simp only [ch, if_true, hL.1, mL.1]
            by_cases e4 : (aL A).1 = 40
            · have hf : ∀ a b c d e, X3_append a b c d e σ = some (-3, σ) := fun a b c d e => by
                unfold X3_append
                rw [hL.1, e4]
                exact if_neg (by decide)
              rw [hf, e4]
              simp only [show nI 40 = (40 : Int32) from rfl, if_true, Option.bind_some]
              exact Eq2.same h0 _
            · have n4 : ¬ nI (aL A).1 = (40 : Int32) := fun e => e4 ((nI_eq (b := 40) (by omega) (by decide)).mp e)
              simp only [n4, if_false]
              rw [c_append hL.1 (by omega), m_append mL.1 (by omega) _ _ _ _ _ rfl, hZ.1, mZ.1]
              simp only [Option.bind_some]
              refine Eq2.of (r := nI (aL A).1) rfl (by rw [show gI (mAdd τ (aL A).1 (nI b) (nI yr) (nI s) (nI kd) (nI (aZ A).1)) 0 49 = nI ((aL A).1 + 1) from rfl, nI_pred]) ⟨(aP A, aB A, addL (aL A) b yr s kd (aZ A).1, aR A, aZ A, aS A, aT A, aW A, aU A, aN A), ?_, ?_, ?_⟩
              · exact ⟨hP, hB, hL.add b yr s kd (aZ A).1, hR, hZ, hS.fr (Off.sI (by omega) (Off.sI (by omega) (Off.sI (by omega) (Off.sI (by omega) (Off.sI (by omega) (Off.sI (by omega) (Off.sI (by omega) (Off.sI (by omega) (Off.sI (by omega) Off.rf))))))))), hT, hWd, r, hQ, hU.fr hQ.1 (Off.sI (by omega) (Off.sI (by omega) (Off.sI (by omega) (Off.sI (by omega) (Off.sI (by omega) (Off.sI (by omega) (Off.sI (by omega) (Off.sI (by omega) (Off.sI (by omega) Off.rf)))))))))⟩
              · exact ⟨mP, mB, mL.add b yr s kd (aZ A).1, mR, mZ, mS, mT, mWd, mU, mK⟩
              · exact ⟨w1, w2, w3.add (by omega) hb hy1 hyr hs hkd w5.1, w4.add, w5, w6, w7, w8, w9, w10⟩
          · simp only [ch, if_false]
            exact Eq2.same h0 _
        · simp only [c1, c2, if_true, if_false, decide_true, decide_false, Bool.and_self, Bool.and_false, Bool.false_and, Bool.and_true, Bool.true_and, b2_t, b2_f, Option.bind_some, one0]
          exact Eq2.same h0 _
        · simp only [c1, c2, c3, c4, if_true, if_false, decide_true, decide_false, Bool.and_self, Bool.and_false, Bool.false_and, Bool.and_true, Bool.true_and, b2_t, b2_f, Option.bind_some, one0]
          exact Eq2.same h0 _
      · rw [c_word_out hWd.1 hz, m_word_out mWd.1 wW hz]
        simp only [Option.bind_some, if_true]
        exact Eq2.same h0 _
    · rw [Bool.not_eq_true] at cy
      rw [cy]
      simp only [if_true, if_false, decide_true, decide_false, Bool.and_self, Bool.and_false, Bool.false_and, Bool.and_true, Bool.true_and, b2_t, b2_f, Option.bind_some, one0]
      exact Eq2.same h0 _
  · rw [c_book_out hB.1 hx, m_book_out mB.1 wB hx]
    simp only [Option.bind_some, if_true]
    exact Eq2.same h0 _
end Easy4
