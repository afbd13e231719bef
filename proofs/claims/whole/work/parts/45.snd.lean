/-! which say or mute stands at a place: the reference; what a spelling sounds like -/
theorem foldl_inv {α : Type} (I : α → Prop) (f : α → Nat → α) : ∀ (l : List Nat) (a : α), I a → (∀ a k, k ∈ l → I a → I (f a k)) → I (l.foldl f a)
  | [], _, h, _ => h
  | x :: l, a, h, hs => foldl_inv I f l (f a x) (hs a x List.mem_cons_self h) (fun a k hk => hs a k (List.mem_cons_of_mem _ hk))
theorem chg_spec {U : DU} {l : List Nat} {d : Nat} (h : chg U l = some d) : d < uM U ∧ uF U d = l.take (uF U d).length := by
  have := foldl_inv (fun b : Option Nat => ∀ d, b = some d → d < uM U ∧ uF U d = l.take (uF U d).length) (fun best c => if uF U c = l.take (uF U c).length ∧ blen U best < (uF U c).length then some c else best) (List.range (uM U)) none (fun d hd => by cases hd) (fun a k hk ha d hd => by
    by_cases e : uF U k = l.take (uF U k).length ∧ blen U a < (uF U k).length
    · simp only [if_pos e] at hd
      cases hd
      exact ⟨List.mem_range.mp hk, e.1⟩
    · simp only [if_neg e] at hd
      exact ha d hd)
  exact this d h
theorem chg_nil {U : DU} (wU : WU U) : chg U [] = none := by
  cases h : chg U [] with
  | none => rfl
  | some d =>
    obtain ⟨h1, h2⟩ := chg_spec h
    have := (wU.2.1 d h1).1
    rw [List.take_nil] at h2
    rw [h2] at this
    simp at this
theorem take_step {f m : List Nat} {k : Nat} (hk : k < f.length) : (f.take (k + 1) = m.take (k + 1)) ↔ (f.take k = m.take k ∧ k < m.length ∧ m.getD k 0 = f.getD k 0) := by
  constructor
  · intro h
    have hl := congrArg List.length h
    simp only [List.length_take] at hl
    have hkm : k < m.length := by omega
    refine ⟨?_, hkm, ?_⟩
    · have := congrArg (List.take k) h
      simpa [List.take_take] using this
    · have := congrArg (fun l => l.getD k 0) h
      simp only [List.getD_eq_getElem?_getD, List.getElem?_take, Nat.lt_succ_self, if_true] at this
      simpa [List.getD_eq_getElem?_getD] using this.symm
  · rintro ⟨h1, h2, h3⟩
    rw [List.take_succ, List.take_succ, h1]
    rw [List.getD_eq_getElem?_getD, List.getD_eq_getElem?_getD, List.getElem?_eq_getElem hk, List.getElem?_eq_getElem h2] at h3
    rw [List.getElem?_eq_getElem hk, List.getElem?_eq_getElem h2]
    simp at h3
    simp [h3]
section MSaid
variable {τ : St} {U : DU} {W : DW}
theorem mul3 (c x : Nat) : (3 : Int32) * nI c + nI x = nI (3 * c + x) := by rw [show (3 : Int32) * nI c = nI (3 * c) from pk_mul 3 c, nI_add]
theorem mul2 (c x : Nat) : (2 : Int32) * nI c + nI x = nI (2 * c + x) := by rw [show (2 : Int32) * nI c = nI (2 * c) from pk_mul 2 c, nI_add]
theorem mul10 (c x : Nat) : (10 : Int32) * nI c + nI x = nI (10 * c + x) := by rw [show (10 : Int32) * nI c = nI (10 * c) from pk_mul 10 c, nI_add]
theorem mul20 (c x : Nat) : (20 : Int32) * nI c + nI x = nI (20 * c + x) := by rw [show (20 : Int32) * nI c = nI (20 * c) from pk_mul 20 c, nI_add]
theorem mul16 (c x : Nat) : (16 : Int32) * nI c + nI x = nI (16 * c + x) := by rw [show (16 : Int32) * nI c = nI (16 * c) from pk_mul 16 c, nI_add]
theorem LTR.get {l : List Nat} (h : LTR l) {k : Nat} (hk : k < l.length) : 1 ≤ l.getD k 0 ∧ l.getD k 0 ≤ 26 := by
  rw [List.getD_eq_getElem?_getD, List.getElem?_eq_getElem hk]
  exact h _ (List.getElem_mem hk)
theorem m_saidIn (mU : MU τ U) (wU : WU U) (mW : MW τ W) (wW : WW W) {s i c : Nat} (hs : s < W.1) (hi : i < (W.2 s).length) (hc : c < uM U) (kq : Int32 → Int32 → Int32 → Int32 → Int32 → Option Int32) (x3 x4 : Int32) : X11_saidAt_L27 kq τ FU (nI s) (nI i) x3 x4 (nI c) 0 1 0 = if uF U c = ((W.2 s).drop i).take (uF U c).length then (if nI (uF U c).length ≤ x4 then kq (nI s) (nI i) x3 x4 (nI (c + 1)) else kq (nI s) (nI i) (nI c) (nI (uF U c).length) (nI (c + 1))) else kq (nI s) (nI i) x3 x4 (nI (c + 1)) := by
  obtain ⟨f1, f2, f3, -, -⟩ := wU.2.1 c hc
  have hm := wU.1
  have hn := wW.1
  obtain ⟨g1, g2, g3⟩ := wW.2.1 s hs
  have hF := loop0 (fun m k (a : Nat × Bool) => X11_saidAt_L27 kq τ m (nI s) (nI i) x3 x4 (nI c) (nI a.1) (b2 a.2) (nI k)) 3 (fun k => (min k (uF U c).length, decide ((uF U c).take k = ((W.2 s).drop i).take (min k (uF U c).length)))) (if uF U c = ((W.2 s).drop i).take (uF U c).length then (if nI (uF U c).length ≤ x4 then kq (nI s) (nI i) x3 x4 (nI (c + 1)) else kq (nI s) (nI i) (nI c) (nI (uF U c).length) (nI (c + 1))) else kq (nI s) (nI i) x3 x4 (nI (c + 1))) (by omega) (fun n k hk => ?_) (fun n => ?_)
  · have e1 : min 0 (uF U c).length = 0 := Nat.zero_min _
    have e2 : b2 (decide ((uF U c).take 0 = ((W.2 s).drop i).take (min 0 (uF U c).length))) = 1 := by simp [b2]
    simp only [e2] at hF
    rw [e1] at hF
    exact hF
  · show X11_saidAt_L27 kq τ (n + 1) (nI s) (nI i) x3 x4 (nI c) (nI (min k (uF U c).length)) (b2 (decide ((uF U c).take k = ((W.2 s).drop i).take (min k (uF U c).length)))) (nI k) = X11_saidAt_L27 kq τ n (nI s) (nI i) x3 x4 (nI c) (nI (min (k + 1) (uF U c).length)) (b2 (decide ((uF U c).take (k + 1) = ((W.2 s).drop i).take (min (k + 1) (uF U c).length)))) (nI (k + 1))
    rw [X11_saidAt_L27, if_neg (show ¬ (3 : Int32) ≤ nI k from nI_ge (b := 3) hk (by decide)), mul3, chk_nI (by omega) (by decide), nI_cl (by omega), mU.2.2.2.1 c k hc hk, bnd]
    by_cases hkf : k < (uF U c).length
    · obtain ⟨q1, q2⟩ := f3.get hkf
      rw [if_neg (show ¬ nI ((uF U c).getD k 0) ≤ 0 from nI_ge (a := 0) (b := (uF U c).getD k 0) (by omega) (by omega)), Nat.min_eq_left (show k ≤ (uF U c).length by omega), Nat.min_eq_left (show k + 1 ≤ (uF U c).length by omega), nI_1]
      have hst := @take_step (uF U c) ((W.2 s).drop i) k hkf
      by_cases e : (uF U c).take k = ((W.2 s).drop i).take k
      · have : b2 (decide ((uF U c).take k = ((W.2 s).drop i).take k)) = 1 := by simp [e, b2]
        rw [this, if_neg (by decide), chk_nI (by omega) (by decide), nI_cl (by omega), mW.2.1 s hs, nI_add, mul10, nI_add]
        simp only [leI (show (W.2 s).length < 2 ^ 31 by omega) (show i + k < 2 ^ 31 by omega)]
        by_cases hl : (W.2 s).length ≤ i + k
        · rw [if_pos hl]
          have : ¬ ((uF U c).take (k + 1) = ((W.2 s).drop i).take (k + 1)) := fun h => by
            have := (hst.mp h).2.1
            simp at this
            omega
          simp only [this, decide_false, b2_f]
        · rw [if_neg hl, show 10 * s + i + k = 10 * s + (i + k) by omega, chk_nI (by omega) (by decide), nI_cl (by omega), mW.2.2 s (i + k) hs (by omega)]
          have hg : ((W.2 s).drop i).getD k 0 = (W.2 s).getD (i + k) 0 := by
            rw [List.getD_eq_getElem?_getD, List.getD_eq_getElem?_getD, List.getElem?_drop]
          have hb := (g3.get (show i + k < (W.2 s).length by omega)).2
          simp only [eqI (show (W.2 s).getD (i + k) 0 < 2 ^ 31 by omega) (show (uF U c).getD k 0 < 2 ^ 31 by omega)]
          by_cases he : (W.2 s).getD (i + k) 0 = (uF U c).getD k 0
          · have : ((uF U c).take (k + 1) = ((W.2 s).drop i).take (k + 1)) := hst.mpr ⟨e, by simp; omega, by rw [hg, he]⟩
            rw [if_pos he]
            simp only [this, decide_true, b2_t]
          · have : ¬ ((uF U c).take (k + 1) = ((W.2 s).drop i).take (k + 1)) := fun h => he (by rw [← hg]; exact (hst.mp h).2.2)
            rw [if_neg he]
            simp only [this, decide_false, b2_f]
      · have h2 : ¬ ((uF U c).take (k + 1) = ((W.2 s).drop i).take (k + 1)) := fun h => e (hst.mp h).1
        simp only [e, h2, decide_false, b2_f, if_true]
    · have e0 : (uF U c).getD k 0 = 0 := by
        rw [List.getD_eq_getElem?_getD, List.getElem?_eq_none (by omega)]; rfl
      rw [e0, if_pos (show nI 0 ≤ 0 by decide), Nat.min_eq_right (show (uF U c).length ≤ k by omega), Nat.min_eq_right (show (uF U c).length ≤ k + 1 by omega), nI_1, List.take_of_length_le (show (uF U c).length ≤ k by omega), List.take_of_length_le (show (uF U c).length ≤ k + 1 by omega)]
  · show X11_saidAt_L27 kq τ (n + 1) (nI s) (nI i) x3 x4 (nI c) (nI (min 3 (uF U c).length)) (b2 (decide ((uF U c).take 3 = ((W.2 s).drop i).take (min 3 (uF U c).length)))) (nI 3) = _
    rw [X11_saidAt_L27, if_pos (show (3 : Int32) ≤ nI 3 by decide), Nat.min_eq_right f2, List.take_of_length_le f2]
    by_cases e : uF U c = ((W.2 s).drop i).take (uF U c).length
    · rw [if_neg (by rw [b2_0]; simpa using e), if_pos e, nI_1]
    · rw [if_pos (by rw [b2_0]; simpa using e), if_neg e, nI_1]
theorem m_saidAt (mU : MU τ U) (wU : WU U) (mW : MW τ W) (wW : WW W) {s i : Nat} (hs : s < W.1) (hi : i < (W.2 s).length) : X11_saidAt (nI s) (nI i) τ = some (oI (chg U ((W.2 s).drop i))) := by
  have hm := wU.1
  have key := fold0I (fun m c (best : Option Nat) => X11_saidAt_L9 τ m (nI s) (nI i) (oI best) (nI (blen U best)) (nI c)) (uM U) (fun c best => if uF U c = ((W.2 s).drop i).take (uF U c).length ∧ blen U best < (uF U c).length then some c else best) (fun best => some (oI best)) (fun c best => blen U best < 2 ^ 31) (by omega) (fun m c best hc hI => ?_) (fun m best hI => ?_) none (by show 0 < _; decide)
  · exact key.1
  · obtain ⟨f1, f2, -⟩ := wU.2.1 c hc
    refine ⟨?_, ?_⟩
    · show X11_saidAt_L9 τ (m + 1) (nI s) (nI i) (oI best) (nI (blen U best)) (nI c) = _
      rw [X11_saidAt_L9, mU.1, if_neg (nI_ge hc (by omega)), m_saidIn mU wU mW wW hs hi hc]
      simp only [leI (show (uF U c).length < 2 ^ 31 by omega) hI]
      by_cases e : uF U c = ((W.2 s).drop i).take (uF U c).length
      · rw [if_pos e]
        by_cases hb : (uF U c).length ≤ blen U best
        · rw [if_pos hb, if_neg (fun h => by omega)]
        · rw [if_neg hb, if_pos ⟨e, by omega⟩]; rfl
      · rw [if_neg e, if_neg (fun h => e h.1)]
    · show blen U (if _ then _ else _) < _
      split
      · show (uF U c).length < 2 ^ 31
        omega
      · exact hI
  · show X11_saidAt_L9 τ (m + 1) (nI s) (nI i) (oI best) (nI (blen U best)) (nI (uM U)) = _
    rw [X11_saidAt_L9, mU.1, if_pos (nI_le (Nat.le_refl _) (by omega))]
end MSaid
