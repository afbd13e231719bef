/-! letters, sounds, apart, name -/
theorem gI_at (σ : St) (q j : Nat) (v : Int32) : gI (sI σ q j v) q j = v := by rw [gI_sI, if_pos ⟨rfl, rfl⟩]
theorem sh5g (n : Nat) : lN n <<< ((5 : Int32).toInt64 &&& 63) = lN (32 * n) := by
  apply Int64.toBitVec_inj.mp
  rw [Int64.toBitVec_shiftLeft]
  show (BitVec.ofNat 64 n) <<< (((5 : Int32).toInt64 &&& 63).toBitVec.smod 64) = BitVec.ofNat 64 (32 * n)
  rw [show ((((5 : Int32).toInt64 &&& 63).toBitVec.smod 64)) = 5#64 by decide]
  apply BitVec.eq_of_toNat_eq
  simp [BitVec.toNat_shiftLeft, Nat.shiftLeft_eq]
  omega
theorem push5 (n : Nat) {x : Nat} (hx : x < 32) : (lN n <<< ((5 : Int32).toInt64 &&& 63)) ||| (nI x).toInt64 = lN (32 * n + x) := by
  rw [sh5g, nI_l (by omega), lN_or]
  congr 1
  exact (Nat.two_pow_add_eq_or_of_lt (i := 5) hx n).symm
theorem FrN.sc {τ τ' : St} (h : FrN τ τ') : ScM τ τ' := ⟨fun q _ h2 _ => h.1 q (by omega), h.2.1⟩
theorem frn_lay {τ : St} {s : Nat} {l : List Nat} {v : Int32} : FrN τ (sI (lds τ s l) 19 s v) := (FrN.sIf ⟨fun _ _ => rfl, rfl, rfl⟩ (by omega)).sI (by omega)
theorem Eq2.pt {a : Option Int32} {b : Option (Int32 × St)} {r : Int32} {σ τ' : St} (ha : a = some r) (hb : b = some (r, τ')) (h : Rel σ τ') : Eq2 (pu a σ) b := ⟨r, σ, τ', by rw [ha]; rfl, hb, h⟩
theorem Eq2L.pp {a b : Option Int64} {r : Int64} {σ τ : St} (ha : a = some r) (hb : b = some r) (h : Rel σ τ) : Eq2L (pu a σ) (pu b τ) := ⟨r, σ, τ, by rw [ha]; rfl, by rw [hb]; rfl, h⟩
theorem Eq2L.ps {a : Option Int64} {b : Option (Int64 × St)} {r : Int64} {σ τ' : St} (ha : a = some r) (hb : b = some (r, τ')) (h : Rel σ τ') : Eq2L (pu a σ) b := ⟨r, σ, τ', by rw [ha]; rfl, hb, h⟩
theorem take_sn {l : List Nat} {k : Nat} (hk : k < l.length) : l.take (k + 1) = l.take k ++ [l.getD k 0] := by
  rw [List.take_succ, List.getD_eq_getElem?_getD, List.getElem?_eq_getElem hk]; rfl
theorem drop_sn {l : List Nat} {k : Nat} (hk : k < l.length) : l.drop k = l.getD k 0 :: l.drop (k + 1) := by
  rw [List.getD_eq_getElem?_getD, List.getElem?_eq_getElem hk]; simp
section EqW
variable {σ τ : St}
theorem m_letters {W : DW} (mW : MW τ W) (wW : WW W) {s : Nat} (hs : s < W.1) : X11_letters_L17 τ FU (nI s) 0 0 = some (lN (pk (W.2 s))) := by
  have hn := wW.1
  obtain ⟨g1, g2, g3⟩ := wW.2.1 s hs
  have key := loop0 (fun m k (v : Int64) => X11_letters_L17 τ m (nI s) v (nI k)) (W.2 s).length (fun k => lN (pk ((W.2 s).take k))) (some (lN (pk (W.2 s)))) (by omega) (fun m k hk => ?_) (fun m => ?_)
  · exact key
  · show X11_letters_L17 τ (m + 1) (nI s) (lN (pk ((W.2 s).take k))) (nI k) = X11_letters_L17 τ m (nI s) (lN (pk ((W.2 s).take (k + 1)))) (nI (k + 1))
    have q := g3.get hk
    rw [X11_letters_L17, chk_nI (by omega) (by decide), nI_cl (by omega), mW.2.1 s hs, if_neg (nI_ge hk (by omega)), mul10, chk_nI (by omega) (by decide), nI_cl (by omega), mW.2.2 s k hs hk, push5 _ (by omega), bnd, nI_1, take_sn hk, pk_app]
  · show X11_letters_L17 τ (m + 1) (nI s) (lN (pk ((W.2 s).take (W.2 s).length))) (nI (W.2 s).length) = _
    rw [X11_letters_L17, chk_nI (by omega) (by decide), nI_cl (by omega), mW.2.1 s hs, if_pos (nI_le (Nat.le_refl _) (by omega)), List.take_length]
theorem eq_letters (h : Rel σ τ) (x : Int32) : Eq2L (pu (X10_letters x σ) σ) (pu (X11_letters x τ) τ) := by
  have h0 := h
  obtain ⟨A, hC, hM, hW⟩ := h
  obtain ⟨hP, hB, hL, hR, hZ, hS, hT, hWd, r, hQ, hU⟩ := hC
  obtain ⟨mP, mB, mL, mR, mZ, mS, mT, mWd, mU, mK⟩ := hM
  obtain ⟨w1, w2, w3, w4, w5, w6, w7, w8, w9, w10⟩ := hW
  have hn := w8.1
  rcases ixc x (aW A).1 (by omega) with ⟨s, hs, rfl⟩ | hx
  · refine Eq2L.pp (r := lN (pk ((aW A).2 s))) ?_ ?_ h0
    · unfold X10_letters
      rw [c_word_in hWd.1 hn hs, Option.bind_some, if_neg (by decide), chk_nI (by omega) (by decide), nI_cl (by omega), hWd.2.1 s hs]
    · unfold X11_letters
      rw [m_word_in mWd.1 hn hs, Option.bind_some, if_neg (by decide), m_letters mWd w8 hs]
  · refine Eq2L.pp (r := -1) ?_ ?_ h0
    · unfold X10_letters
      rw [c_word_out hWd.1 hx, Option.bind_some, if_pos rfl]
    · unfold X11_letters
      rw [m_word_out mWd.1 hn hx, Option.bind_some, if_pos rfl]
theorem eq_sounds (h : Rel σ τ) (x : Int32) : Eq2 (pu (X10_sounds x σ) σ) (X11_sounds x τ) := by
  have h0 := h
  obtain ⟨A, hC, hM, hW⟩ := h
  obtain ⟨hP, hB, hL, hR, hZ, hS, hT, hWd, r, hQ, hU⟩ := hC
  obtain ⟨mP, mB, mL, mR, mZ, mS, mT, mWd, mU, mK⟩ := hM
  obtain ⟨w1, w2, w3, w4, w5, w6, w7, w8, w9, w10⟩ := hW
  have hn := w8.1
  rcases ixc x (aW A).1 (by omega) with ⟨s, hs, rfl⟩ | hx
  · refine Eq2.pt (r := nI (snd (aU A) ((aW A).2 s)).length) (τ' := sI (lds τ s (snd (aU A) ((aW A).2 s))) 19 s (nI (snd (aU A) ((aW A).2 s)).length)) ?_ ?_ (h0.fr ScC.rf frn_lay.sc)
    · unfold X10_sounds
      rw [c_word_in hWd.1 hn hs, Option.bind_some, if_neg (by decide), chk_nI (by omega) (by decide), nI_cl (by omega), hWd.2.2.1 s hs]
    · unfold X11_sounds
      rw [m_word_in mWd.1 hn hs, Option.bind_some, if_neg (by decide), m_laySound mU w9 mWd w8 hs, Option.bind_some, chk_nI (by omega) (by decide), nI_cl (by omega), gI_sI, if_pos ⟨rfl, rfl⟩]
  · refine Eq2.pt (r := -1) ?_ ?_ h0
    · unfold X10_sounds
      rw [c_word_out hWd.1 hx, Option.bind_some, if_pos rfl]
    · unfold X11_sounds
      rw [m_word_out mWd.1 hn hx, Option.bind_some, if_pos rfl]
theorem c_soundOf {l : List Nat} {s : Nat} (hs : s < 16) (hl : l.length ≤ 20) (hL : LTR l) (H : sndC σ s l) : X9_soundOf (nI s) σ = some (lN (pk l % 2 ^ 60)) := by
  have key := loop0 (fun m k (v : Int64) => X9_soundOf_L5 σ m (nI s) v (nI k)) l.length (fun k => lN (pk (l.take k) % 2 ^ 60)) (some (lN (pk l % 2 ^ 60))) (by omega) (fun m k hk => ?_) (fun m => ?_)
  · exact key
  · show X9_soundOf_L5 σ (m + 1) (nI s) (lN (pk (l.take k) % 2 ^ 60)) (nI k) = X9_soundOf_L5 σ m (nI s) (lN (pk (l.take (k + 1)) % 2 ^ 60)) (nI (k + 1))
    have q := hL.get hk
    rw [X9_soundOf_L5, chk_nI (by omega) (by decide), nI_cl (by omega), H.1, if_neg (nI_ge hk (by omega)), mulr20, chk_nI (by omega) (by decide), nI_cl (by omega), H.2 k hk, push5 _ (by omega), show (1152921504606846975 : Int64) = lN (2 ^ 60 - 1) from rfl, lN_and, Nat.and_two_pow_sub_one_eq_mod, bnd, nI_1, take_sn hk, pk_app]
    congr 2
    omega
  · show X9_soundOf_L5 σ (m + 1) (nI s) (lN (pk (l.take l.length) % 2 ^ 60)) (nI l.length) = _
    rw [X9_soundOf_L5, chk_nI (by omega) (by decide), nI_cl (by omega), H.1, if_pos (nI_le (Nat.le_refl _) (by omega)), List.take_length]
theorem m_soundL {l : List Nat} {s : Nat} (hs : s < 16) (hl : l.length ≤ 20) (hL : LTR l) (H : ∀ i, i < l.length → gI τ 20 (20 * s + i) = nI (l.getD i 0)) : ∀ d m j q, j + d = l.length → d < m → X11_sound_L45 m (nI s) (lN (pk q)) (nI l.length) (nI j) τ = some (lN (pk (q ++ l.drop j)), τ) := by
  intro d
  induction d with
  | zero =>
    intro m j q hj hm
    obtain ⟨m, rfl⟩ : ∃ q, m = q + 1 := ⟨m - 1, by omega⟩
    have : j = l.length := by omega
    subst this
    rw [X11_sound_L45, if_pos (nI_le (Nat.le_refl _) (by omega)), List.drop_length, List.append_nil]
  | succ d ih =>
    intro m j q hj hm
    obtain ⟨m, rfl⟩ : ∃ q, m = q + 1 := ⟨m - 1, by omega⟩
    have hjl : j < l.length := by omega
    have qq := hL.get hjl
    rw [X11_sound_L45, if_neg (nI_ge hjl (by omega)), mul20, chk_nI (by omega) (by decide), nI_cl (by omega), H j hjl, push5 _ (by omega), bnd, nI_1, ← pk_app, ih m (j + 1) (q ++ [l.getD j 0]) (by omega) (by omega), drop_sn hjl, List.append_assoc]
    rfl
theorem eq_sound (h : Rel σ τ) (x : Int32) : Eq2L (pu (X10_sound x σ) σ) (X11_sound x τ) := by
  have h0 := h
  obtain ⟨A, hC, hM, hW⟩ := h
  obtain ⟨hP, hB, hL, hR, hZ, hS, hT, hWd, r, hQ, hU⟩ := hC
  obtain ⟨mP, mB, mL, mR, mZ, mS, mT, mWd, mU, mK⟩ := hM
  obtain ⟨w1, w2, w3, w4, w5, w6, w7, w8, w9, w10⟩ := hW
  have hn := w8.1
  rcases ixc x (aW A).1 (by omega) with ⟨s, hs, rfl⟩ | hx
  · obtain ⟨l1, l2⟩ := sw_len w9 w8 hs
    have hC : sndC σ s (snd (aU A) ((aW A).2 s)) := ⟨hWd.2.2.1 s hs, fun i hi => hWd.2.2.2.1 s i hs hi⟩
    have hM : ∀ i, i < (snd (aU A) ((aW A).2 s)).length → gI (sI (lds τ s (snd (aU A) ((aW A).2 s))) 19 s (nI (snd (aU A) ((aW A).2 s)).length)) 20 (20 * s + i) = nI ((snd (aU A) ((aW A).2 s)).getD i 0) := fun i hi => by rw [gI_sIn (by decide), lds_20, row_in hi]
    refine Eq2L.ps (r := lN (pk (snd (aU A) ((aW A).2 s)) % 2 ^ 60)) (τ' := sI (lds τ s (snd (aU A) ((aW A).2 s))) 19 s (nI (snd (aU A) ((aW A).2 s)).length)) ?_ ?_ (h0.fr ScC.rf frn_lay.sc)
    · unfold X10_sound
      rw [c_word_in hWd.1 hn hs, Option.bind_some, if_neg (by decide), c_soundOf (by omega) l1 l2 hC]
      rfl
    · unfold X11_sound
      rw [m_word_in mWd.1 hn hs, Option.bind_some, if_neg (by decide), m_laySound mU w9 mWd w8 hs, Option.bind_some, chk_nI (by omega) (by decide), bnd, nI_cl (by omega), gI_at]
      generalize snd (aU A) ((aW A).2 s) = l at *
      rw [show (12 : Int32) = nI 12 from rfl]
      simp only [leI (show l.length < 2 ^ 31 by omega) (show 12 < 2 ^ 31 by decide)]
      have hlt := pkl_lt l2
      by_cases e : l.length ≤ 12
      · have h2 : (32 : Nat) ^ l.length ≤ 32 ^ 12 := Nat.pow_le_pow_right (by decide) e
        have := m_soundL (τ := sI (lds τ s l) 19 s (nI l.length)) (show s < 16 by omega) l1 l2 hM l.length FU 0 [] (by omega) (by show _ < 1000000; omega)
        rw [if_pos e, Nat.mod_eq_of_lt (by omega)]
        rw [List.nil_append, List.drop_zero] at this
        exact this
      · have h2 := m_soundL (τ := sI (lds τ s l) 19 s (nI l.length)) (show s < 16 by omega) l1 l2 hM 12 FU (l.length - 12) [] (by omega) (by decide)
        have h3 : pk l % 2 ^ 60 = pk (l.drop (l.length - 12)) := by
          have e1 : pk l = pk (l.take (l.length - 12)) * 32 ^ 12 + pk (l.drop (l.length - 12)) := by
            conv => lhs; rw [← List.take_append_drop (l.length - 12) l]
            rw [pk_append]
            congr 3
            simp
            omega
          have e2 : pk (l.drop (l.length - 12)) < 32 ^ 12 := by
            have := pkl_lt (l2.drop (l.length - 12))
            rwa [show (l.drop (l.length - 12)).length = 12 by simp; omega] at this
          rw [e1]
          omega
        rw [if_neg e, subI (by omega), bnd, h3]
        rw [List.nil_append] at h2
        exact h2
  · refine Eq2L.ps (r := -1) ?_ ?_ h0
    · unfold X10_sound
      rw [c_word_out hWd.1 hx, Option.bind_some, if_pos rfl]
    · unfold X11_sound
      rw [m_word_out mWd.1 hn hx, Option.bind_some, if_pos rfl]
theorem mulr16 (a b : Nat) : nI a * 16 + nI b = nI (16 * a + b) := by rw [Int32.mul_comm, mul16]
theorem eq_apart (h : Rel σ τ) (x y : Int32) : Eq2 (pu (X10_apart x y σ) σ) (X11_apart x y τ) := by
  have h0 := h
  obtain ⟨A, hC, hM, hW⟩ := h
  obtain ⟨hP, hB, hL, hR, hZ, hS, hT, hWd, r, hQ, hU⟩ := hC
  obtain ⟨mP, mB, mL, mR, mZ, mS, mT, mWd, mU, mK⟩ := hM
  obtain ⟨w1, w2, w3, w4, w5, w6, w7, w8, w9, w10⟩ := hW
  have hn := w8.1
  rcases ixc x (aW A).1 (by omega) with ⟨s, hs, rfl⟩ | hx
  · rcases ixc y (aW A).1 (by omega) with ⟨t, ht, rfl⟩ | hy
    · obtain ⟨τ', e1, e2, e3, e4, e5⟩ := m_layNames mU w9 mWd w8 w10
      refine Eq2.pt (r := nI (ap (aU A) (aW A) s t)) (τ' := τ') ?_ ?_ (h0.fr ScC.rf e2.sc)
      · unfold X10_apart X9_apartOf
        rw [c_word_in hWd.1 hn hs, Option.bind_some, if_neg (by decide), c_word_in hWd.1 hn ht, Option.bind_some, if_neg (by decide), mulr16, chk_nI (by omega) (by decide), nI_cl (by omega), hWd.2.2.2.2.1 s t hs ht]
        rfl
      · unfold X11_apart
        rw [m_word_in mWd.1 hn hs, Option.bind_some, if_neg (by decide), m_word_in mWd.1 hn ht, Option.bind_some, if_neg (by decide), e1, Option.bind_some, mul16, chk_nI (by omega) (by decide), nI_cl (by omega), e4 s t hs ht]
    · refine Eq2.pt (r := -1) ?_ ?_ h0
      · unfold X10_apart
        rw [c_word_in hWd.1 hn hs, Option.bind_some, if_neg (by decide), c_word_out hWd.1 hy, Option.bind_some, if_pos rfl]
      · unfold X11_apart
        rw [m_word_in mWd.1 hn hs, Option.bind_some, if_neg (by decide), m_word_out mWd.1 hn hy, Option.bind_some, if_pos rfl]
  · refine Eq2.pt (r := -1) ?_ ?_ h0
    · unfold X10_apart
      rw [c_word_out hWd.1 hx, Option.bind_some, if_pos rfl]
    · unfold X11_apart
      rw [m_word_out mWd.1 hn hx, Option.bind_some, if_pos rfl]
theorem eq_name (h : Rel σ τ) (x : Int32) : Eq2 (pu (X10_name x σ) σ) (X11_name x τ) := by
  have h0 := h
  obtain ⟨A, hC, hM, hW⟩ := h
  obtain ⟨hP, hB, hL, hR, hZ, hS, hT, hWd, r, hQ, hU⟩ := hC
  obtain ⟨mP, mB, mL, mR, mZ, mS, mT, mWd, mU, mK⟩ := hM
  obtain ⟨w1, w2, w3, w4, w5, w6, w7, w8, w9, w10⟩ := hW
  have hn := w8.1
  rcases ixc x (aW A).1 (by omega) with ⟨s, hs, rfl⟩ | hx
  · obtain ⟨τ', e1, e2, e3, e4, e5⟩ := m_layNames mU w9 mWd w8 w10
    refine Eq2.pt (r := nI (aN A s)) (τ' := τ') ?_ ?_ (h0.fr ScC.rf e2.sc)
    · unfold X10_name
      rw [c_word_in hWd.1 hn hs, Option.bind_some, if_neg (by decide), chk_nI (by omega) (by decide), nI_cl (by omega), hWd.2.2.2.2.2.2.2 s hs]
    · unfold X11_name
      rw [m_word_in mWd.1 hn hs, Option.bind_some, if_neg (by decide), e1, Option.bind_some, chk_nI (by omega) (by decide), nI_cl (by omega), e5 s hs]
  · refine Eq2.pt (r := -1) ?_ ?_ h0
    · unfold X10_name
      rw [c_word_out hWd.1 hx, Option.bind_some, if_pos rfl]
    · unfold X11_name
      rw [m_word_out mWd.1 hn hx, Option.bind_some, if_pos rfl]
end EqW
