/-! the reference lays a sound -/
section MSnd
variable {τ : St} {U : DU} {W : DW}
def lds (τ : St) (s : Nat) (l : List Nat) : St := sIf τ 20 (row (gI τ 20) (20 * s) l)
theorem lds_o {τ : St} {s : Nat} {l : List Nat} {q : Nat} (h : q ≠ 20) : gI (lds τ s l) q = gI τ q := by
  unfold lds
  rw [gI_sIfn h]
theorem lds_20 {τ : St} {s : Nat} {l : List Nat} : gI (lds τ s l) 20 = row (gI τ 20) (20 * s) l := by
  unfold lds
  rw [gI_sIf]
theorem lds_step (τ : St) (s : Nat) (l : List Nat) (x : Nat) : sI (lds τ s l) 20 (20 * s + l.length) (nI x) = lds τ s (l ++ [x]) := by
  unfold lds
  rw [sI_sIf, upd_row]
theorem MU.fr20 {τ' : St} (h : MU τ U) (e : ∀ q, q ≤ 12 → gI τ' q = gI τ q) : MU τ' U := by
  unfold MU
  rw [e 0 (by omega), e 7 (by omega), e 8 (by omega), e 9 (by omega), e 10 (by omega), e 11 (by omega), e 12 (by omega)]
  exact h
theorem MW.fr20 {τ' : St} (h : MW τ W) (e : ∀ q, q ≤ 12 → gI τ' q = gI τ q) : MW τ' W := by
  unfold MW
  rw [e 0 (by omega), e 1 (by omega), e 2 (by omega)]
  exact h
theorem lds_e {τ : St} {s : Nat} {l : List Nat} : ∀ q, q ≤ 12 → gI (lds τ s l) q = gI τ q := fun q _ => lds_o (by omega)
theorem getD_0 {l : List Nat} {k : Nat} (h : l.length ≤ k) : l.getD k 0 = 0 := by
  rw [List.getD_eq_getElem?_getD, List.getElem?_eq_none h]; rfl
theorem m_saidSize (mU : MU τ U) (wU : WU U) {c : Nat} (hc : c < uM U) : X11_saidSize (nI c) τ = some (nI (uF U c).length) := by
  obtain ⟨f1, f2, f3, -, -⟩ := wU.2.1 c hc
  have hm := wU.1
  have h1 := mU.2.2.2.1 c 1 hc (by omega)
  have h2 := mU.2.2.2.1 c 2 hc (by omega)
  unfold X11_saidSize X11_saidSize_B19
  rw [show (3 : Int32) * nI c + 1 = nI (3 * c + 1) from mul3 c 1, show (3 : Int32) * nI c + 2 = nI (3 * c + 2) from mul3 c 2, chk_nI (by omega) (by decide), nI_cl (by omega), h1, chk_nI (by omega) (by decide), nI_cl (by omega), h2, chk_nI (by omega) (by decide)]
  by_cases e1 : (uF U c).length = 1
  · rw [getD_0 (by omega), getD_0 (by omega), e1]
    rfl
  · have q1 := (f3.get (show 1 < (uF U c).length by omega))
    rw [if_neg (show ¬ nI ((uF U c).getD 1 0) ≤ 0 from nI_ge (a := 0) (by omega) (by omega))]
    by_cases e2 : (uF U c).length = 2
    · rw [getD_0 (k := 2) (by omega), e2]
      rfl
    · have q2 := (f3.get (show 2 < (uF U c).length by omega))
      rw [if_neg (show ¬ nI ((uF U c).getD 2 0) ≤ 0 from nI_ge (a := 0) (by omega) (by omega)), show (uF U c).length = 3 by omega]
      rfl
theorem m_sndInto (mU : MU τ U) (wU : WU U) {s i c : Nat} {l : List Nat} (hs : s < 16) (hc : c < uM U) (hl : l.length + (uI U c).length ≤ 20) (kq : Int32 → Int32 → Int32 → St → Option St) : X11_laySound_L63 kq FU (nI s) (nI l.length) (nI i) (nI c) 0 (lds τ s l) = kq (nI s) (nI (l ++ uI U c).length) (nI (i + (uF U c).length)) (lds τ s (l ++ uI U c)) := by
  obtain ⟨f1, f2, f3, f4, f5⟩ := wU.2.1 c hc
  have hm := wU.1
  have key := loop0 (fun m k (a : List Nat) => X11_laySound_L63 kq m (nI s) (nI a.length) (nI i) (nI c) (nI k) (lds τ s a)) 2 (fun k => l ++ (uI U c).take k) (kq (nI s) (nI (l ++ uI U c).length) (nI (i + (uF U c).length)) (lds τ s (l ++ uI U c))) (by omega) (fun n k hk => ?_) (fun n => ?_)
  · simp only [List.take_zero, List.append_nil] at key
    exact key
  · show X11_laySound_L63 kq (n + 1) (nI s) (nI (l ++ (uI U c).take k).length) (nI i) (nI c) (nI k) (lds τ s (l ++ (uI U c).take k)) = X11_laySound_L63 kq n (nI s) (nI (l ++ (uI U c).take (k + 1)).length) (nI i) (nI c) (nI (k + 1)) (lds τ s (l ++ (uI U c).take (k + 1)))
    rw [X11_laySound_L63, if_neg (show ¬ (2 : Int32) ≤ nI k from nI_ge (b := 2) hk (by decide)), mul2, chk_nI (by omega) (by decide), nI_cl (by omega), lds_o (by decide), mU.2.2.2.2.1 c k hc hk, nI_1, nI_1]
    by_cases e : k < (uI U c).length
    · have q := f5.get e
      have e2 : (uI U c).take (k + 1) = (uI U c).take k ++ [(uI U c).getD k 0] := by
        rw [List.take_succ, List.getD_eq_getElem?_getD, List.getElem?_eq_getElem e]; rfl
      have hlen : (l ++ (uI U c).take k).length = l.length + k := by simp; omega
      rw [if_neg (show ¬ nI ((uI U c).getD k 0) ≤ 0 from nI_ge (a := 0) (by omega) (by omega)), chk_nI (by omega) (by decide), mul20, chk_nI (by omega) (by decide), nI_cl (by omega), bnd, lds_step, e2, ← List.append_assoc]
      simp [Nat.add_assoc]
    · rw [getD_0 (by omega), if_pos (show nI 0 ≤ 0 by decide), List.take_of_length_le (show (uI U c).length ≤ k by omega), List.take_of_length_le (show (uI U c).length ≤ k + 1 by omega)]
  · show X11_laySound_L63 kq (n + 1) (nI s) (nI (l ++ (uI U c).take 2).length) (nI i) (nI c) (nI 2) (lds τ s (l ++ (uI U c).take 2)) = _
    rw [X11_laySound_L63, if_pos (show (2 : Int32) ≤ nI 2 by decide), m_saidSize (mU.fr20 lds_e) wU hc, Option.bind_some, bnd, nI_add, List.take_of_length_le f4]
theorem m_laySndL (mU : MU τ U) (wU : WU U) (mW : MW τ W) (wW : WW W) {s : Nat} (hs : s < W.1) : ∀ d m i l, (W.2 s).length - i ≤ d → d < m → i ≤ (W.2 s).length → l.length ≤ 2 * i → X11_laySound_L4 m (nI s) (nI l.length) (nI i) (lds τ s l) = some (sI (lds τ s (l ++ snd U ((W.2 s).drop i))) 19 s (nI (l ++ snd U ((W.2 s).drop i)).length)) := by
  have hn := wW.1
  obtain ⟨g1, g2, g3⟩ := wW.2.1 s hs
  have hend : ∀ m l, X11_laySound_L4 (m + 1) (nI s) (nI l.length) (nI (W.2 s).length) (lds τ s l) = some (sI (lds τ s (l ++ snd U ((W.2 s).drop (W.2 s).length))) 19 s (nI (l ++ snd U ((W.2 s).drop (W.2 s).length)).length)) := fun m l => by
    rw [X11_laySound_L4, chk_nI (by omega) (by decide), nI_cl (by omega), lds_o (by decide), mW.2.1 s hs, if_pos (nI_le (Nat.le_refl _) (by omega)), chk_nI (by omega) (by decide), List.drop_length, snd_nil, List.append_nil, bnd]
  intro d
  induction d with
  | zero =>
    intro m i l hd hm hi hl
    obtain ⟨m, rfl⟩ : ∃ q, m = q + 1 := ⟨m - 1, by omega⟩
    have : i = (W.2 s).length := by omega
    subst this
    exact hend m l
  | succ d ih =>
    intro m i l hd hm hi hl
    obtain ⟨m, rfl⟩ : ∃ q, m = q + 1 := ⟨m - 1, by omega⟩
    rcases Nat.eq_or_lt_of_le hi with he | hlt
    · subst he
      exact hend m l
    · rw [X11_laySound_L4, chk_nI (by omega) (by decide), nI_cl (by omega), lds_o (by decide), mW.2.1 s hs, if_neg (nI_ge hlt (by omega)), m_saidAt (mU.fr20 lds_e) wU (mW.fr20 lds_e) wW hs hlt, Option.bind_some, snd_at wU hlt]
      cases hc : chg U ((W.2 s).drop i) with
      | none =>
        have hx := g3.get hlt
        rw [if_pos (show oI none = -4 from rfl), mul10, chk_nI (by omega) (by decide), nI_cl (by omega), mul20, chk_nI (by omega) (by decide), nI_cl (by omega), lds_o (by decide), mW.2.2 s i hs hlt, bnd, lds_step, nI_1, nI_1]
        have := ih m (i + 1) (l ++ [(W.2 s).getD i 0]) (by omega) (by omega) (by omega) (by simp; omega)
        simp only [List.length_append, List.length_singleton, List.append_assoc] at this
        rw [this]
        simp [Nat.add_comm]
      | some c =>
        obtain ⟨k1, k2⟩ := chg_spec hc
        obtain ⟨f1, f2, f3, f4, f5⟩ := wU.2.1 c k1
        have hcl := chg_len wU hc
        have hm12 := wU.1
        rw [if_neg (show ¬ oI (some c) = -4 from fun e => by rw [show oI (some c) = nI c from rfl, neI4 (by omega)] at e; exact e), show oI (some c) = nI c from rfl, m_sndInto mU wU (by omega) k1 (by omega), ih m (i + (uF U c).length) (l ++ uI U c) (by omega) (by omega) (by omega) (by simp; omega)]
        simp
theorem m_laySound (mU : MU τ U) (wU : WU U) (mW : MW τ W) (wW : WW W) {s : Nat} (hs : s < W.1) : X11_laySound (nI s) τ = some (sI (lds τ s (snd U (W.2 s))) 19 s (nI (snd U (W.2 s)).length)) := by
  have hn := wW.1
  obtain ⟨g1, g2, g3⟩ := wW.2.1 s hs
  have := m_laySndL mU wU mW wW hs (W.2 s).length FU 0 [] (by omega) (by show _ < 1000000; omega) (by omega) (by simp)
  have e : lds τ s [] = τ := by
    unfold lds
    rw [row_nil, sIf_self]
  rw [e] at this
  exact this
end MSnd
