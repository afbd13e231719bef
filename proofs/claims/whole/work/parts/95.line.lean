/-! lines of rules: what holds, the end of a line, a number's line -/
def spr (ρ q : Nat) : Prop := q = 4 + ρ ∨ q = 6 + ρ ∨ q = 8 + ρ ∨ q = 10 + ρ ∨ q = 12 + ρ ∨ q = 14 + ρ ∨ q = 16 + ρ
def FrG (ρ : Nat) (σ σ' : St) : Prop := (∀ q, q ≠ 3 → ¬ spr ρ q → gI σ' q = gI σ q) ∧ gJ σ' = gJ σ ∧ ∀ q, q ≠ 3 → gR σ' q = gR σ q
theorem FrG.rf {ρ : Nat} {σ : St} : FrG ρ σ σ := ⟨fun _ _ _ => rfl, rfl, fun _ _ => rfl⟩
theorem FrG.tr {ρ : Nat} {σ σ' σ'' : St} (h : FrG ρ σ σ') (h' : FrG ρ σ' σ'') : FrG ρ σ σ'' := ⟨fun q a b => (h'.1 q a b).trans (h.1 q a b), h'.2.1.trans h.2.1, fun q a => (h'.2.2 q a).trans (h.2.2 q a)⟩
theorem FrG.g {ρ : Nat} {σ σ' : St} (h : FrG ρ σ σ') (g : Nat → Int32) : FrG ρ σ (sIf σ' 3 g) := ⟨fun q a b => (gI_sIfn a).trans (h.1 q a b), h.2.1, h.2.2⟩
theorem FrG.s {ρ q j : Nat} {v : Int32} {σ σ' : St} (h : FrG ρ σ σ') (hq : q = 3 ∨ spr ρ q) : FrG ρ σ (sI σ' q j v) := ⟨fun p a b => (gI_sIn (fun e => by subst e; rcases hq with hq | hq; exact a hq; exact b hq)).trans (h.1 p a b), h.2.1, h.2.2⟩
def FrK (τ τ' : St) : Prop := (∀ q, q ≠ 0 → ¬ (13 ≤ q ∧ q ≤ 18) → gI τ' q = gI τ q) ∧ (∀ j, (j < 7 ∨ 12 < j) → j ≠ 23 → j ≠ 25 → j ≠ 28 → j ≠ 32 → gI τ' 0 j = gI τ 0 j) ∧ gJ τ' = gJ τ
theorem FrK.rf {τ : St} : FrK τ τ := ⟨fun _ _ _ => rfl, fun _ _ _ _ _ _ => rfl, rfl⟩
theorem FrK.tr {τ τ' τ'' : St} (h : FrK τ τ') (h' : FrK τ' τ'') : FrK τ τ'' := ⟨fun q a b => (h'.1 q a b).trans (h.1 q a b), fun j a b c d e => (h'.2.1 j a b c d e).trans (h.2.1 j a b c d e), h'.2.2.trans h.2.2⟩
theorem FrK.o {τ τ' : St} (h : FrK τ τ') {g : Nat → Int32} (ho : o12 (gI τ' 0) g) : FrK τ (sIf τ' 0 g) := ⟨fun q a b => (gI_sIfn a).trans (h.1 q a b), fun j a b c d e => by rw [gI_sIf, ho j a]; exact h.2.1 j a b c d e, h.2.2⟩
theorem FrK.s {τ τ' : St} (h : FrK τ τ') {q j : Nat} {v : Int32} (hq : 13 ≤ q ∧ q ≤ 18) : FrK τ (sI τ' q j v) := ⟨fun p a b => (gI_sIn (fun e => by subst e; exact b hq)).trans (h.1 p a b), fun i a b c d e => (congrFun (gI_sIn (show 0 ≠ q by omega)) i).trans (h.2.1 i a b c d e), h.2.2⟩
theorem FrK.z {τ τ' : St} (h : FrK τ τ') {j : Nat} {v : Int32} (hj : j = 23 ∨ j = 25 ∨ j = 28 ∨ j = 32) : FrK τ (sI τ' 0 j v) := ⟨fun p a b => (gI_sIn a).trans (h.1 p a b), fun i a b c d e => by rw [gI_sI, if_neg (by omega)]; exact h.2.1 i a b c d e, h.2.2⟩
/-- the class, at a place of the text -/
def SC (σ : St) (T : DT) (ρ : Nat) (U : DU) (tb : Nat) : Prop := CT σ T ∧ gR σ 3 1 = ρ ∧ CU σ ρ U ∧ gI σ 3 2 = nI tb ∧ gI σ 3 8 = 0
theorem SC.g {σ : St} {T : DT} {ρ : Nat} {U : DU} {tb tb' : Nat} (hr : ρ < 2) (h : SC σ T ρ U tb) {g : Nat → Int32} (h2 : g 2 = nI tb') (h8 : g 8 = 0) : SC (sIf σ 3 g) T ρ U tb' := ⟨h.1.g g, h.2.1, h.2.2.1.fr hr (Off.sIf (by omega) Off.rf), by rw [gI_sIf]; exact h2, by rw [gI_sIf]; exact h8⟩
/-- the reference's rules to come -/
def US (τ : St) (U : DU) : Prop := gI τ 0 25 = nI (uM U) ∧ gI τ 0 28 = nI (uK U) ∧ (∀ j, j < 8 → gI τ 13 j = nI (uN U j)) ∧ (∀ c x, c < uM U → x < 3 → gI τ 14 (3 * c + x) = nI ((uF U c).getD x 0)) ∧ (∀ c x, c < uM U → x < 2 → gI τ 15 (2 * c + x) = nI ((uI U c).getD x 0)) ∧ ∀ k, k < uK U → gI τ 16 k = nI (uA U k) ∧ gI τ 17 k = nI (uB U k) ∧ gI τ 18 k = nI (uC U k)
def SM (τ : St) (T : DT) (U : DU) (tm : Nat) : Prop := B4 τ T ∧ gI τ 0 5 = nI T.1 ∧ MK τ ∧ gI τ 0 32 = nI tm ∧ US τ U
theorem US.o {τ : St} {U : DU} (h : US τ U) {g : Nat → Int32} (ho : o12 (gI τ 0) g) : US (sIf τ 0 g) U := by
  unfold US
  rw [gI_sIf, gI_sIfn (q' := 13) (by decide), gI_sIfn (q' := 14) (by decide), gI_sIfn (q' := 15) (by decide), gI_sIfn (q' := 16) (by decide), gI_sIfn (q' := 17) (by decide), gI_sIfn (q' := 18) (by decide), ho 25 (by omega), ho 28 (by omega)]
  exact h
theorem MK.o {τ : St} (h : MK τ) (g : Nat → Int32) : MK (sIf τ 0 g) := by
  unfold MK
  rw [gI_sIfn (q' := 5) (by decide), gI_sIfn (q' := 6) (by decide)]
  exact h
theorem SM.o {τ : St} {T : DT} {U : DU} {tm : Nat} (h : SM τ T U tm) {g : Nat → Int32} (ho : o12 (gI τ 0) g) : SM (sIf τ 0 g) T U tm := ⟨fun i hi => by rw [gI_sIfn (by decide)]; exact h.1 i hi, by rw [gI_sIf, ho 5 (by omega)]; exact h.2.1, h.2.2.1.o g, by rw [gI_sIf, ho 32 (by omega)]; exact h.2.2.2.1, h.2.2.2.2.o ho⟩
def BT (tb tm : Nat) : Prop := tb < 32 ∧ tm < 256 ∧ ∀ w, w < 5 → tb.testBit w = tm.testBit (w + 3)
/-- rules so far are good; p bytes are read -/
def WUp (U : DU) (p : Nat) : Prop := uM U ≤ 12 ∧ (∀ c, c < uM U → 1 ≤ (uF U c).length ∧ (uF U c).length ≤ 3 ∧ LTR (uF U c) ∧ (uI U c).length ≤ 2 ∧ LTR (uI U c)) ∧ (∀ c c', c < uM U → c' < uM U → uF U c = uF U c' → c = c') ∧ 5 * uK U ≤ p ∧ (∀ k, k < uK U → 1 ≤ uA U k ∧ uA U k ≤ 26 ∧ 1 ≤ uB U k ∧ uB U k ≤ 26 ∧ uA U k ≠ uB U k ∧ uC U k ≤ 20) ∧ (∀ j, j < 8 → uN U j ≤ 20) ∧ 1 ≤ uN U 3 ∧ 1 ≤ uN U 4 + uN U 5 + uN U 6 + uN U 7 ∧ uN U 4 + uN U 5 + uN U 6 + uN U 7 ≤ 9
theorem WUp.mono {U : DU} {p p' : Nat} (h : WUp U p) (hp : p ≤ p') : WUp U p' := by
  obtain ⟨a, b, c, d, e⟩ := h
  exact ⟨a, b, c, by omega, e⟩
def LNok (σ τ : St) (T : DT) (ρ p : Nat) (a : Option (Int32 × St)) (b : Option St) : Prop := ∃ σ' τ' U' tb' tm' p', a = some (1, σ') ∧ b = some τ' ∧ SC σ' T ρ U' tb' ∧ gI σ' 3 3 = nI p' ∧ SM τ' T U' tm' ∧ BT tb' tm' ∧ TM (gI τ' 0) T p' ∧ WUp U' p' ∧ p < p' ∧ p' ≤ T.1 ∧ FrG ρ σ σ' ∧ FrK τ τ' ∧ gI τ' 0 23 = gI τ 0 23
def LNno (σ τ : St) (ρ : Nat) (a : Option (Int32 × St)) (b : Option St) : Prop := ∃ σ' τ' f q, a = some (0, σ') ∧ b = some τ' ∧ gI σ' 3 8 = nI f ∧ gI σ' 3 9 = nI q ∧ gI τ' 0 7 = nI f ∧ gI τ' 0 8 = nI q ∧ 1 ≤ f ∧ f ≤ 5 ∧ q ≤ 200 ∧ FrG ρ σ σ' ∧ FrK τ τ'
def LN (σ τ : St) (T : DT) (ρ p : Nat) (a : Option (Int32 × St)) (b : Option St) : Prop := LNok σ τ T ρ p a b ∨ LNno σ τ ρ a b
theorem fN_b (T : DT) (p : Nat) : 1 ≤ fN T p ∧ fN T p ≤ 5 := by
  unfold fN
  split <;> decide
theorem fB_b (T : DT) (p : Nat) : 1 ≤ fB T p ∧ fB T p ≤ 5 := by
  unfold fB
  split
  · decide
  · split <;> decide
theorem nI_n0 {f : Nat} (h1 : 1 ≤ f) (h5 : f ≤ 5) : ¬ nI f = 0 ∧ ¬ nI f ≤ 0 := by
  have e1 : (nI f = (0 : Int32)) = (f = 0) := eqI (b := 0) (by omega) (by decide)
  have e2 : (nI f ≤ (0 : Int32)) = (f ≤ 0) := leI (b := 0) (by omega) (by decide)
  rw [e1, e2]
  omega
section Line
variable {σ τ σ1 τ1 : St} {T : DT} {ρ p p1 : Nat} {U : DU} {tb tm : Nat}
theorem ps_B141 {f : Nat} (h7 : gI τ 0 7 = nI f) (h1 : 1 ≤ f) (h5 : f ≤ 5) : X11_readLine_B141 τ = some τ := by
  obtain ⟨n1, n2⟩ := nI_n0 h1 h5
  unfold X11_readLine_B141
  rw [h7, if_neg n1, m_next1 (by rw [h7]; exact n2), Option.bind_some]
theorem LN_stop (hr : ρ < 2) (wT : WTp T) (hp : p < p1) (hp1 : p1 ≤ T.1) (hC : SC σ1 T ρ U tb) (h3 : gI σ1 3 3 = nI p1) (hM : SM τ1 T U tm) (hb : BT tb tm) (hT : TM (gI τ1 0) T p1) (hW : WUp U p1) (fC : FrG ρ σ σ1) (fM : FrK τ τ1) (h23 : gI τ1 0 23 = gI τ 0 23) : LN σ τ T ρ p (X8_takeToken 3 σ1) (X11_readLine_B141 τ1) := by
  have h200 := wT.1
  obtain ⟨he1, he2, he3⟩ := tE_le hp1
  obtain ⟨hs1, hs2⟩ := tS_le hp1
  obtain ⟨g', a1, a2, a3⟩ := c_take hC.1 wT hp1 h3 (w := 3) (by decide)
  obtain ⟨g2, b1, b2', b3, b4⟩ := m_stop hM.1 wT hp1 hM.2.1 hT
  have a1' : X8_takeToken 3 σ1 = _ := a1
  by_cases e : tK T p1 = 3
  · obtain ⟨c1, c2, c3⟩ := a2 (decide_eq_true e)
    refine Or.inl ⟨sIf σ1 3 g', sIf τ1 0 g2, U, tb, tm, tE T p1, by rw [a1', decide_eq_true e]; rfl, b1, hC.g hr (by rw [c2]; exact hC.2.2.2.1) (by rw [c3]; exact hC.2.2.2.2), by rw [gI_sIf]; exact c1.1, hM.o b2', hb, by rw [gI_sIf]; exact b3 e, hW.mono (by omega), by omega, he2, fC.g _, fM.o b2', by rw [gI_sIf, b2' 23 (by omega)]; exact h23⟩
  · obtain ⟨c1, c2⟩ := a3 (decide_eq_false e)
    obtain ⟨d1, d2⟩ := b4 e
    obtain ⟨f1, f2⟩ := fN_b T p1
    exact Or.inr ⟨sIf σ1 3 g', sIf τ1 0 g2, fN T p1, tS T p1, by rw [a1', decide_eq_false e]; rfl, b1, by rw [gI_sIf]; exact c1, by rw [gI_sIf]; exact c2, by rw [gI_sIf]; exact d1, by rw [gI_sIf]; exact d2, f1, f2, by omega, fC.g _, fM.o b2'⟩
theorem LNno.cb {a : Option (Int32 × St)} {b : Option St} (h : LN σ τ T ρ p a b) : LN σ τ T ρ p (a.bind fun r => chkB r.1 (some (r.1, r.2))) b := by
  rcases h with ⟨σ', τ', U', tb', tm', p', h1, h2⟩ | ⟨σ', τ', f, q, h1, h2⟩
  · refine Or.inl ⟨σ', τ', U', tb', tm', p', ?_, h2⟩
    rw [h1, Option.bind_some]
    rfl
  · refine Or.inr ⟨σ', τ', f, q, ?_, h2⟩
    rw [h1, Option.bind_some]
    rfl
/-- a number told: the class writes it -/
theorem CU.num (hr : ρ < 2) (hU : CU σ ρ U) {w v : Nat} (hw : w < 8) : CU (sI σ (6 + ρ) w (nI v)) ρ (up_ (uN U) w v, U.2) := by
  obtain ⟨a1, a2, a3, a4, a5⟩ := hU
  refine ⟨?_, ?_, fun j hj => ?_, fun c hc => ?_, fun a b ha hb => ?_⟩
  · rw [gI_sIn (by omega)]; exact a1
  · rw [gI_sIn (by omega)]; exact a2
  · rw [gI_sI]
    show _ = nI (up_ (uN U) w v j)
    unfold up_
    by_cases e : j = w
    · rw [if_pos ⟨rfl, e⟩, if_pos e]
    · rw [if_neg (fun h => e h.2), if_neg e]; exact a3 j hj
  · rw [gI_sIn (by omega), gI_sIn (by omega), gI_sIn (by omega), gI_sIn (by omega)]; exact a4 c hc
  · rw [gI_sIn (by omega)]; exact a5 a b ha hb
theorem US.num (h : US τ U) {w v : Nat} : US (sI τ 13 w (nI v)) (up_ (uN U) w v, U.2) := by
  obtain ⟨a1, a2, a3, a4, a5, a6⟩ := h
  refine ⟨a1, a2, fun j hj => ?_, a4, a5, a6⟩
  rw [gI_sI]
  show _ = nI (up_ (uN U) w v j)
  unfold up_
  by_cases e : j = w
  · rw [if_pos ⟨rfl, e⟩, if_pos e]
  · rw [if_neg (fun h => e h.2), if_neg e]; exact a3 j hj
theorem bt_set {w : Nat} (hw : w < 5) (hb : BT tb tm) : BT (tb ||| 2 ^ w) (tm ||| 2 ^ (w + 3)) := by
  obtain ⟨b1, b2, b3⟩ := hb
  refine ⟨Nat.or_lt_two_pow (n := 5) b1 (Nat.pow_lt_pow_right (by decide) hw), Nat.or_lt_two_pow (n := 8) b2 (Nat.pow_lt_pow_right (by decide) (by omega)), fun i hi => ?_⟩
  rw [Nat.testBit_or, Nat.testBit_or, b3 i hi, Nat.testBit_two_pow, Nat.testBit_two_pow]
  by_cases e : w = i
  · subst e; simp
  · simp [e]
end Line
