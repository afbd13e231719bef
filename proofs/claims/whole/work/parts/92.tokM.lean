/-! the reference reads a token -/
def TM (g : Nat → Int32) (T : DT) (p : Nat) : Prop := g 9 = nI (tE T p) ∧ g 10 = nI (tS T p) ∧ (tK T p ≠ 4 → g 7 = 0 ∧ g 11 = nI (tK T p) ∧ (tK T p = 2 → g 12 = nI (tV T p))) ∧ (tK T p = 4 → g 7 = 1 ∧ g 8 = nI (tS T p))
section TokM
variable {τ : St} {T : DT}
def B4 (τ : St) (T : DT) : Prop := ∀ i, i < T.1 → gI τ 4 i = nI (T.2 i)
theorem B4.mt (h : B4 τ T) {g : Nat → Int32} (h5 : g 5 = nI T.1) : MT (sIf τ 0 g) T := ⟨by rw [gI_sIf]; exact h5, fun i hi => by rw [gI_sIfn (by decide)]; exact h i hi⟩
theorem in_l (b : Nat) (hb : b < 256) (τ : St) : X11_in (nI b).toInt64 97 122 τ = some (b2 (decide (kd b = 1))) := by
  have h := in_eq (nI b) 97 122 τ
  rw [show (97 : Int64) = (97 : Int32).toInt64 from rfl, show (122 : Int64) = (122 : Int32).toInt64 from rfl, h]
  congr 2
  simp only [show (97 : Int32) = nI 97 from rfl, show (122 : Int32) = nI 122 from rfl, leI (show 97 < 2 ^ 31 by decide) (show b < 2 ^ 31 by omega), leI (show b < 2 ^ 31 by omega) (show 122 < 2 ^ 31 by decide)]
  rw [Bool.eq_iff_iff, Bool.and_eq_true, decide_eq_true_eq, decide_eq_true_eq, decide_eq_true_eq, kd_1]
theorem in_d (b : Nat) (hb : b < 256) (τ : St) : X11_in (nI b).toInt64 48 57 τ = some (b2 (decide (kd b = 2))) := by
  have h := in_eq (nI b) 48 57 τ
  rw [show (48 : Int64) = (48 : Int32).toInt64 from rfl, show (57 : Int64) = (57 : Int32).toInt64 from rfl, h]
  congr 2
  simp only [show (48 : Int32) = nI 48 from rfl, show (57 : Int32) = nI 57 from rfl, leI (show 48 < 2 ^ 31 by decide) (show b < 2 ^ 31 by omega), leI (show b < 2 ^ 31 by omega) (show 57 < 2 ^ 31 by decide)]
  rw [Bool.eq_iff_iff, Bool.and_eq_true, decide_eq_true_eq, decide_eq_true_eq, decide_eq_true_eq, kd_2]
theorem in_lm (τ : St) : X11_in (-4 : Int32).toInt64 97 122 τ = some 0 := in_eq (-4) 97 122 τ
theorem in_dm (τ : St) : X11_in (-4 : Int32).toInt64 48 57 τ = some 0 := in_eq (-4) 48 57 τ
def o12 (g g' : Nat → Int32) : Prop := ∀ j, j < 7 ∨ 12 < j → g' j = g j
theorem m_fails {g : Nat → Int32} (h7 : g 7 = 0) (f : Nat) : X11_fails (nI f) (sIf τ 0 g) = some (sIf τ 0 (upd (upd g 7 (nI f)) 8 (g 10))) := by
  unfold X11_fails
  rw [gI_sIf, if_pos h7, bnd, sI_sIf, bnd, gI_sIf, sI_sIf]
  rfl
theorem m_L84 (hB : B4 τ T) (wT : WTp T) {q : Nat} : ∀ d m e g, e + d = T.1 → d < m → g 5 = nI T.1 → g 9 = nI e → ∃ g', X11_next_L84 m (sIf τ 0 g) = some (sIf τ 0 g') ∧ g' 9 = nI (rnT T 1 d e) ∧ g' 11 = 1 ∧ ∀ j, j ≠ 9 → j ≠ 11 → g' j = g j := by
  have h200 := wT.1
  intro d
  induction d with
  | zero =>
    intro m e g he hm h5 h9
    obtain ⟨m, rfl⟩ : ∃ q, m = q + 1 := ⟨m - 1, by omega⟩
    rw [X11_next_L84, gI_sIf, h9, m_byte (hB.mt h5) wT (by omega), Option.bind_some, if_neg (by omega), in_lm, Option.bind_some, if_pos rfl, bnd, sI_sIf]
    exact ⟨_, rfl, h9, rfl, fun j h1 h2 => by unfold upd; rw [if_neg h2]⟩
  | succ d ih =>
    intro m e g he hm h5 h9
    obtain ⟨m, rfl⟩ : ∃ q, m = q + 1 := ⟨m - 1, by omega⟩
    have hel : e < T.1 := by omega
    have hrn : rnT T 1 (d + 1) e = if e < T.1 ∧ kd (T.2 e) = 1 then rnT T 1 d (e + 1) else e := rfl
    rw [X11_next_L84, gI_sIf, h9, m_byte (hB.mt h5) wT (by omega), Option.bind_some, if_pos hel, in_l _ (wT.2 e hel), Option.bind_some, nI_1, hrn]
    by_cases ek : kd (T.2 e) = 1
    · rw [decide_eq_true ek, if_neg (show ¬ b2 true = 0 from n10), if_pos ⟨hel, ek⟩, bnd, sI_sIf]
      obtain ⟨g', e1, e2, e3, e4⟩ := ih m (e + 1) (upd g 9 (nI (e + 1))) (by omega) (by omega) h5 rfl
      exact ⟨g', e1, e2, e3, fun j h1 h2 => by rw [e4 j h1 h2]; unfold upd; rw [if_neg h1]⟩
    · rw [decide_eq_false ek, if_pos (show b2 false = 0 from rfl), if_neg (fun h => ek h.2), bnd, sI_sIf]
      exact ⟨_, rfl, h9, rfl, fun j h1 h2 => by unfold upd; rw [if_neg h2]⟩
theorem m_L140 (hB : B4 τ T) (wT : WTp T) {q : Nat} : ∀ d m e g, e + d = T.1 → q ≤ e → d < m → g 5 = nI T.1 → g 7 = 0 → g 9 = nI e → g 10 = nI q → g 12 = nI (nmT T q (min (e - q) 2)) → ∃ g', X11_next_L140 m (sIf τ 0 g) = some (sIf τ 0 g') ∧ g' 9 = nI (rnT T 2 d e) ∧ g' 10 = nI q ∧ (¬ 2 < rnT T 2 d e - q → g' 7 = 0 ∧ g' 11 = 2 ∧ g' 12 = nI (nmT T q (rnT T 2 d e - q))) ∧ (2 < rnT T 2 d e - q → g' 7 = 1 ∧ g' 8 = nI q) ∧ o12 g g' := by
  have h200 := wT.1
  have fin : ∀ e g, e ≤ T.1 → q ≤ e → g 7 = 0 → g 9 = nI e → g 10 = nI q → g 12 = nI (nmT T q (min (e - q) 2)) → ∃ g', (bnd (sI (sIf τ 0 g) 0 11 2) fun σ12 => if ((gI σ12 0 9) - (gI σ12 0 10)) ≤ 2 then (some σ12) else ((X11_fails 1 σ12).bind fun σ13 => some σ13)) = some (sIf τ 0 g') ∧ g' 9 = nI e ∧ g' 10 = nI q ∧ (¬ 2 < e - q → g' 7 = 0 ∧ g' 11 = 2 ∧ g' 12 = nI (nmT T q (e - q))) ∧ (2 < e - q → g' 7 = 1 ∧ g' 8 = nI q) ∧ o12 g g' := fun e g he hq h7 h9 h10 h12 => by
    rw [bnd, sI_sIf, gI_sIf, show upd g 11 2 9 = g 9 from rfl, show upd g 11 2 10 = g 10 from rfl, h9, h10, subI hq]
    simp only [show (nI (e - q) ≤ (2 : Int32)) = (e - q ≤ 2) from leI (b := 2) (by omega) (by decide)]
    by_cases e2 : e - q ≤ 2
    · rw [if_pos e2]
      refine ⟨_, rfl, h9, h10, fun _ => ⟨h7, rfl, ?_⟩, fun h => by omega, fun j hj => by unfold upd; rw [if_neg (by omega)]⟩
      show g 12 = _
      rw [h12, Nat.min_eq_left e2]
    · rw [if_neg e2, show (1 : Int32) = nI 1 from rfl, m_fails (g := upd g 11 2) h7 1, Option.bind_some]
      refine ⟨_, rfl, h9, h10, fun h => absurd (by omega) h, fun _ => ⟨rfl, h10⟩, fun j hj => ?_⟩
      unfold upd
      rw [if_neg (by omega), if_neg (by omega), if_neg (by omega)]
  intro d
  induction d with
  | zero =>
    intro m e g he hq hm h5 h7 h9 h10 h12
    obtain ⟨m, rfl⟩ : ∃ q, m = q + 1 := ⟨m - 1, by omega⟩
    rw [X11_next_L140, gI_sIf, h9, m_byte (hB.mt h5) wT (by omega), Option.bind_some, if_neg (by omega), in_dm, Option.bind_some, if_pos rfl]
    exact fin e g (by omega) hq h7 h9 h10 h12
  | succ d ih =>
    intro m e g he hq hm h5 h7 h9 h10 h12
    obtain ⟨m, rfl⟩ : ∃ q, m = q + 1 := ⟨m - 1, by omega⟩
    have hel : e < T.1 := by omega
    have hrn : rnT T 2 (d + 1) e = if e < T.1 ∧ kd (T.2 e) = 2 then rnT T 2 d (e + 1) else e := rfl
    rw [X11_next_L140, gI_sIf, h9, m_byte (hB.mt h5) wT (by omega), Option.bind_some, if_pos hel, in_d _ (wT.2 e hel), Option.bind_some, hrn]
    by_cases ek : kd (T.2 e) = 2
    · have hdg := kd_2.mp ek
      rw [decide_eq_true ek, if_neg (show ¬ b2 true = 0 from n10), if_pos (show e < T.1 ∧ kd (T.2 e) = 2 from ⟨hel, ek⟩), h10, subI hq]
      simp only [show ((2 : Int32) ≤ nI (e - q)) = (2 ≤ e - q) from leI (a := 2) (by decide) (by omega)]
      by_cases e2 : 2 ≤ e - q
      · rw [if_pos e2, bnd, sI_sIf, bnd, gI_sIf, sI_sIf, show upd g 12 (g 12) 9 = g 9 from rfl, h9, nI_1]
        obtain ⟨g', a1, a2, a3, a4, a5, a6⟩ := ih m (e + 1) (upd (upd g 12 (g 12)) 9 (nI (e + 1))) (by omega) (by omega) (by omega) h5 h7 rfl h10 (by
          show g 12 = _
          rw [h12, Nat.min_eq_right e2, Nat.min_eq_right (by omega)])
        exact ⟨g', a1, a2, a3, a4, a5, fun j hj => by rw [a6 j hj]; unfold upd; rw [if_neg (by omega), if_neg (by omega)]⟩
      · rw [if_neg e2, Option.bind_some, bnd, h12, show (10 : Int32) * nI (nmT T q (min (e - q) 2)) = nI (10 * nmT T q (min (e - q) 2)) from pk_mul 10 _, nI_add, show nI (10 * nmT T q (min (e - q) 2) + T.2 e) - 48 = nI (10 * nmT T q (min (e - q) 2) + T.2 e - 48) from subI (b := 48) (by omega), sI_sIf, bnd, gI_sIf, sI_sIf]
        rw [show upd g 12 (nI (10 * nmT T q (min (e - q) 2) + T.2 e - 48)) 9 = g 9 from rfl, h9, nI_1]
        obtain ⟨g', a1, a2, a3, a4, a5, a6⟩ := ih m (e + 1) (upd (upd g 12 (nI (10 * nmT T q (min (e - q) 2) + T.2 e - 48))) 9 (nI (e + 1))) (by omega) (by omega) (by omega) h5 h7 rfl h10 (by
          show nI (10 * nmT T q (min (e - q) 2) + T.2 e - 48) = _
          rw [Nat.min_eq_left (by omega), Nat.min_eq_left (by omega), show e + 1 - q = (e - q) + 1 by omega]
          congr 1
          show _ = 10 * nmT T q (e - q) + (T.2 (q + (e - q)) - 48)
          rw [show q + (e - q) = e by omega]
          omega)
        exact ⟨g', a1, a2, a3, a4, a5, fun j hj => by rw [a6 j hj]; unfold upd; rw [if_neg (by omega), if_neg (by omega)]⟩
    · rw [decide_eq_false ek, if_pos (show b2 false = 0 from rfl), if_neg (fun h => ek h.2)]
      exact fin e g (by omega) hq h7 h9 h10 h12
theorem m_L8 (hB : B4 τ T) (wT : WTp T) {p0 : Nat} (hp0 : p0 ≤ T.1) : ∀ d m p g, p + d = T.1 → d < m → tS T p0 = spF T d p → g 5 = nI T.1 → g 7 = 0 → g 9 = nI p → ∃ g', X11_next_L8 m (sIf τ 0 g) = some (sIf τ 0 g') ∧ TM g' T p0 ∧ o12 g g' := by
  have h200 := wT.1
  obtain ⟨he1, he2, he3⟩ := tE_le hp0
  intro d
  -- at the token's head
  have hd : ∀ m q g, q = tS T p0 → (q < T.1 → T.2 q ≠ 32) → q ≤ T.1 → g 5 = nI T.1 → g 7 = 0 → g 9 = nI q → ∃ g', X11_next_L8 (m + 1) (sIf τ 0 g) = some (sIf τ 0 g') ∧ TM g' T p0 ∧ o12 g g' := fun m q g hq h32 hql h5 h7 h9 => by
    have h32' : ¬ (if q < T.1 then nI (T.2 q) else (-4 : Int32)) = 32 := by
      by_cases hlt : q < T.1
      · have := wT.2 q hlt
        rw [if_pos hlt]
        exact fun h => h32 hlt ((nI_eq (b := 32) (by omega) (by decide)).mp h)
      · rw [if_neg hlt]
        decide
    rw [X11_next_L8, gI_sIf, h9, m_byte (hB.mt h5) wT (by omega), Option.bind_some, if_neg h32', bnd, sI_sIf, gI_sIf, show upd g 10 (nI q) 9 = g 9 from rfl, h9, m_byte (hB.mt (g := upd g 10 (nI q)) h5) wT (by omega), Option.bind_some, bnd, sI_sIf]
    have hk4 := tK0_le T p0
    by_cases hlt : q < T.1
    · have hb := wT.2 q hlt
      have hk0 : tK0 T p0 = kd (T.2 q) := by unfold tK0; rw [← hq, if_pos hlt]
      rw [if_pos hlt, if_neg (show ¬ nI (T.2 q) = -4 by rw [neI4 (by omega)]; exact id), in_l _ hb, Option.bind_some, in_d _ hb, Option.bind_some]
      by_cases e1 : kd (T.2 q) = 1
      · rw [decide_eq_true e1, if_neg (show ¬ b2 true = 0 from n10)]
        obtain ⟨g', a1, a2, a3, a4⟩ := m_L84 hB wT (q := q) (T.1 - q) FU q (upd (upd g 10 (nI q)) 12 0) (by omega) (by show _ < 1000000; omega) h5 h9
        have hE : tE T p0 = rnT T 1 (T.1 - q) q := by unfold tE; rw [hk0, e1, if_pos (Or.inl rfl), ← hq]
        have hK : tK T p0 = 1 := by unfold tK; rw [hk0, e1, if_neg (fun h => by omega)]
        refine ⟨g', a1, ⟨by rw [a2, hE], ?_, fun _ => ⟨?_, by rw [a3, hK]; rfl, fun h => by omega⟩, fun h => by omega⟩, fun j hj => ?_⟩
        · rw [a4 10 (by decide) (by decide), ← hq]; rfl
        · rw [a4 7 (by decide) (by decide)]; exact h7
        · rw [a4 j (by omega) (by omega)]; unfold upd; rw [if_neg (by omega), if_neg (by omega)]
      · rw [decide_eq_false e1, if_pos (show b2 false = 0 from rfl)]
        by_cases e2 : kd (T.2 q) = 2
        · rw [decide_eq_true e2, if_neg (show ¬ b2 true = 0 from n10)]
          obtain ⟨g', a1, a2, a3, a4, a5, a6⟩ := m_L140 hB wT (q := q) (T.1 - q) FU q (upd (upd g 10 (nI q)) 12 0) (by omega) (Nat.le_refl _) (by show _ < 1000000; omega) h5 h7 h9 rfl (by rw [Nat.sub_self]; rfl)
          have hE : tE T p0 = rnT T 2 (T.1 - q) q := by unfold tE; rw [hk0, e2, if_pos (Or.inr rfl), ← hq]
          have hV : tV T p0 = nmT T q (tE T p0 - q) := by unfold tV; rw [hk0, e2, if_neg (by decide), if_pos rfl, ← hq]
          have hK : tK T p0 = if 2 < tE T p0 - q then 4 else 2 := by
            unfold tK
            rw [hk0, e2, ← hq]
            by_cases h : 2 < tE T p0 - q
            · rw [if_pos ⟨rfl, h⟩, if_pos h]
            · rw [if_neg (fun h' => h h'.2), if_neg h]
          rw [← hE] at a2 a4 a5
          refine ⟨g', a1, ⟨a2, by rw [a3, ← hq], fun h4 => ?_, fun h4 => ?_⟩, fun j hj => ?_⟩
          · have hn : ¬ 2 < tE T p0 - q := fun h => by rw [hK, if_pos h] at h4; exact h4 rfl
            obtain ⟨b1, b2', b3⟩ := a4 hn
            have hK2 : tK T p0 = 2 := by rw [hK, if_neg hn]
            exact ⟨b1, by rw [b2', hK2]; rfl, fun _ => by rw [b3, hV]⟩
          · have hn : 2 < tE T p0 - q := by
              by_cases h : 2 < tE T p0 - q
              · exact h
              · rw [hK, if_neg h] at h4; cases h4
            rw [← hq]
            exact a5 hn
          · rw [a6 j hj]; unfold upd; rw [if_neg (by omega), if_neg (by omega)]
        · rw [decide_eq_false e2, if_pos (show b2 false = 0 from rfl), bnd, sI_sIf, bnd, gI_sIf, sI_sIf, show upd (upd (upd g 10 (nI q)) 12 0) 11 3 9 = g 9 from rfl, h9, nI_1]
          have hkk : kd (T.2 q) = 3 ∨ kd (T.2 q) = 4 := by
            have h0 : kd (T.2 q) ≠ 0 := by
              unfold kd
              split
              · decide
              · split
                · decide
                · split <;> decide
            rw [hk0] at hk4
            omega
          have hE : tE T p0 = q + 1 := by unfold tE; rw [hk0, if_neg (by omega), if_neg (by omega), ← hq]
          have hK : tK T p0 = kd (T.2 q) := by unfold tK; rw [hk0, if_neg (fun h => e2 h.1)]
          by_cases e59 : T.2 q = 59
          · have hk3 : kd (T.2 q) = 3 := by rw [e59]; rfl
            rw [if_pos (show nI (T.2 q) = 59 by rw [e59]; rfl)]
            refine ⟨_, rfl, ⟨by rw [hE]; rfl, by rw [← hq]; rfl, fun _ => ⟨h7, by rw [hK, hk3]; rfl, fun h => by omega⟩, fun h => by omega⟩, fun j hj => ?_⟩
            unfold upd
            rw [if_neg (by omega), if_neg (by omega), if_neg (by omega), if_neg (by omega)]
          · have hk4' : kd (T.2 q) = 4 := by
              rcases hkk with h | h
              · unfold kd at h e1 e2
                by_cases c1 : 97 ≤ T.2 q ∧ T.2 q ≤ 122
                · rw [if_pos c1] at h; cases h
                · rw [if_neg c1] at h
                  by_cases c2 : 48 ≤ T.2 q ∧ T.2 q ≤ 57
                  · rw [if_pos c2] at h; cases h
                  · rw [if_neg c2, if_neg e59] at h; cases h
              · exact h
            rw [if_neg (show ¬ nI (T.2 q) = 59 from fun h => e59 ((nI_eq (b := 59) (by omega) (by decide)).mp h)), show (1 : Int32) = nI 1 from rfl, m_fails (g := upd (upd (upd (upd g 10 (nI q)) 12 0) 11 3) 9 (nI (q + 1))) h7 1, Option.bind_some]
            refine ⟨_, rfl, ⟨by rw [hE]; rfl, by rw [← hq]; rfl, fun h => absurd (by rw [hK, hk4']) h, fun _ => ⟨rfl, by rw [← hq]; rfl⟩⟩, fun j hj => ?_⟩
            unfold upd
            rw [if_neg (by omega), if_neg (by omega), if_neg (by omega), if_neg (by omega), if_neg (by omega), if_neg (by omega)]
    · have hk0 : tK0 T p0 = 0 := by unfold tK0; rw [← hq, if_neg hlt]
      have hE : tE T p0 = q := by unfold tE; rw [hk0, if_neg (by omega), if_pos rfl, ← hq]
      have hK : tK T p0 = 0 := by unfold tK; rw [hk0, if_neg (fun h => by omega)]
      rw [if_neg hlt, if_pos rfl, bnd, sI_sIf]
      refine ⟨_, rfl, ⟨by rw [hE]; exact h9, by rw [← hq]; rfl, fun _ => ⟨h7, by rw [hK]; rfl, fun h => by omega⟩, fun h => by omega⟩, fun j hj => ?_⟩
      unfold upd
      rw [if_neg (by omega), if_neg (by omega), if_neg (by omega)]
  induction d with
  | zero =>
    intro m p g hp hm ht h5 h7 h9
    obtain ⟨m, rfl⟩ : ∃ q, m = q + 1 := ⟨m - 1, by omega⟩
    exact hd m p g ht.symm (fun h => by omega) (by omega) h5 h7 h9
  | succ d ih =>
    intro m p g hp hm ht h5 h7 h9
    obtain ⟨m, rfl⟩ : ∃ q, m = q + 1 := ⟨m - 1, by omega⟩
    have hsp : spF T (d + 1) p = if p < T.1 ∧ T.2 p = 32 then spF T d (p + 1) else p := rfl
    rw [hsp] at ht
    by_cases e : T.2 p = 32
    · rw [if_pos ⟨by omega, e⟩] at ht
      rw [X11_next_L8, gI_sIf, h9, m_byte (hB.mt h5) wT (by omega), Option.bind_some, if_pos (show p < T.1 by omega), if_pos (show nI (T.2 p) = 32 by rw [e]; rfl), bnd, nI_1, sI_sIf]
      obtain ⟨g', a1, a2, a3⟩ := ih m (p + 1) (upd g 9 (nI (p + 1))) (by omega) (by omega) ht h5 h7 rfl
      exact ⟨g', a1, a2, fun j hj => by rw [a3 j hj]; unfold upd; rw [if_neg (by omega)]⟩
    · rw [if_neg (fun h => e h.2)] at ht
      exact hd m p g ht.symm (fun _ => e) (by omega) h5 h7 h9
theorem m_next (hB : B4 τ T) (wT : WTp T) {p : Nat} (hp : p ≤ T.1) (h5 : gI τ 0 5 = nI T.1) (h7 : gI τ 0 7 = 0) (h9 : gI τ 0 9 = nI p) : ∃ g', X11_next τ = some (sIf τ 0 g') ∧ TM g' T p ∧ o12 (gI τ 0) g' := by
  have h200 := wT.1
  obtain ⟨g', a1, a2, a3⟩ := m_L8 (τ := τ) hB wT hp (T.1 - p) FU p (gI τ 0) (by omega) (by show _ < 1000000; omega) rfl h5 h7 h9
  rw [sIf_self] at a1
  exact ⟨g', by unfold X11_next; rw [h7, if_pos (by decide), a1], a2, a3⟩
theorem m_next1 (h7 : ¬ gI τ 0 7 ≤ 0) : X11_next τ = some τ := by
  unfold X11_next
  rw [if_neg h7]
end TokM
