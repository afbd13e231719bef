/-! the reference: who lets whom come -/
section Orig2
variable {σ τ : St} {P : DP} {f : Nat → Option Nat}
theorem m_B56 (h : OM τ P f) (w : WP P) {m p q a b sx sy : Nat} (hm : m < 21) (hm0 : m ≠ 0) (hp : p < P.1) (hq : q < P.1) (ha : f p = some a) (hb : f q = some b) (hya : a ≤ 1899) (hyb : b ≤ 1899) (hs : sx + sy < 199) : X11_lets_B56 τ (nI p) (nI q) (nI m) (nI sy) (nI sx) = some (b2 (decide (a + (10 * (sx + sy) + m - 1) / m ≤ b))) := by
  have h8 := w.1
  have hyl : (10 * (sx + sy) + m - 1) / m ≤ 2010 := by
    have := Nat.div_le_self (10 * (sx + sy) + m - 1) m
    omega
  unfold X11_lets_B56 chkz
  rw [bnd, nI_add, chk_nI (by omega) (by decide), if_neg (show ¬ nI m = (0 : Int32) from fun e => hm0 ((nI_eq (b := 0) (by omega) (by decide)).mp e)), chk_nI (by omega) (by decide), nI_cl (show p < 2 ^ 31 by omega), nI_cl (show q < 2 ^ 31 by omega), h.2 p hp, h.2 q hq, ha, hb, oI_some, oI_some, (dvI _ hs m hm hm0).2, nI_add]
  simp only [ltI (show b < 2 ^ 31 by omega) (show a + (10 * (sx + sy) + m - 1) / m < 2 ^ 31 by omega)]
  by_cases hle : a + (10 * (sx + sy) + m - 1) / m ≤ b
  · rw [if_neg (by omega)]; simp [hle, b2]
  · rw [if_pos (by omega)]; simp [hle, b2]
theorem m_lets (h : OM τ P f) (w : WP P) (hf : FY f) {m p q : Nat} (hm : m < 21) (hm0 : m ≠ 0) (hp : p < P.1) (hq : q < P.1) (h1 : prs f p = true) (h2 : prs f q = true) : X11_lets (nI p) (nI q) (nI m) τ = some (b2 (ltM P f m p q)) := by
  have h8 := w.1
  obtain ⟨a, ha⟩ : ∃ a, f p = some a := by
    unfold prs at h1
    cases e : f p with
    | none => rw [e] at h1; cases h1
    | some a => exact ⟨a, rfl⟩
  obtain ⟨b, hb⟩ : ∃ a, f q = some a := by
    unfold prs at h2
    cases e : f q with
    | none => rw [e] at h2; cases h2
    | some a => exact ⟨a, rfl⟩
  have hya := hf p a ha
  have hyb := hf q b hb
  have hd := dst_lt w hp hq
  have c1 := w.2 p hp
  have c2 := w.2 q hq
  have key := m_B56 h w hm hm0 hp hq ha hb hya.2 hyb.2 (sx := ad (P.2.1 p) (P.2.1 q)) (sy := ad (P.2.2 p) (P.2.2 q)) hd
  have e2 : ltM P f m p q = decide (a + (10 * (ad (P.2.1 p) (P.2.1 q) + ad (P.2.2 p) (P.2.2 q)) + m - 1) / m ≤ b) := by unfold ltM; rw [ha, hb]; rfl
  rw [e2, ← key]
  unfold X11_lets
  simp only [chk_nI (show p < 8 by omega) (show 8 < 2 ^ 31 by decide), chk_nI (show q < 8 by omega) (show 8 < 2 ^ 31 by decide), nI_cl (show p < 2 ^ 31 by omega), nI_cl (show q < 2 ^ 31 by omega), h.1.2.1 p hp, h.1.2.1 q hq, h.1.2.2 p hp, h.1.2.2 q hq, bnd]
  rcases adI (P.2.1 p) (by omega) (P.2.1 q) (by omega) with ⟨x1, x2⟩ | ⟨x1, x2, -⟩
  · rcases adI (P.2.2 p) (by omega) (P.2.2 q) (by omega) with ⟨y1, y2⟩ | ⟨y1, y2, -⟩
    · rw [if_pos x1, if_pos y1, x2, y2]
    · rw [if_pos x1, if_neg y1, x2, y2]
  · rcases adI (P.2.2 p) (by omega) (P.2.2 q) (by omega) with ⟨y1, y2⟩ | ⟨y1, y2, -⟩
    · rw [if_neg x1, if_pos y1, x2, y2]
    · rw [if_neg x1, if_neg y1, x2, y2]
theorem m_B95 (kq : Int32 → Int32 → Int32 → Int32 → Option Int32) (x1 x2 : Int32) (q : Nat) (c e : Bool) : X11_doLet_B95 kq τ x1 x2 (b2 c) (nI q) (b2 e) = kq x1 x2 (b2 (c && e)) (nI (q + 1)) := by
  unfold X11_doLet_B95
  rw [nI_1]
  cases c <;> cases e <;> rfl
theorem m_inL (h : OM τ P f) (w : WP P) (hf : FY f) {m S q : Nat} (hm : m < 21) (hm0 : m ≠ 0) (hS : S < 2 ^ 31) (hs : ∀ i, S.testBit i = true → i < P.1 ∧ prs f i = true) (hq : q < P.1) (hq' : prs f q = true) (kq : Int32 → Int32 → Int32 → Int32 → Option Int32) (c : Bool) : ∀ d n p, p + d = P.1 → d < n → X11_doLet_L46 kq τ n (nI S) (nI m) (b2 c) (nI q) 0 (nI p) = kq (nI S) (nI m) (b2 (c && (List.range' p d).any fun p => S.testBit p && ltM P f m p q)) (nI (q + 1)) := by
  have h8 := w.1
  intro d
  induction d with
  | zero =>
    intro n p hp hn
    obtain ⟨n, rfl⟩ : ∃ q, n = q + 1 := ⟨n - 1, by omega⟩
    have : p = P.1 := by omega
    subst this
    rw [X11_doLet_L46, h.1.1, if_pos (nI_le (Nat.le_refl _) (by omega)), show (0 : Int32) = b2 false from rfl, m_B95]
    rfl
  | succ d ih =>
    intro n p hp hn
    obtain ⟨n, rfl⟩ : ∃ q, n = q + 1 := ⟨n - 1, by omega⟩
    have hpp : p < P.1 := by omega
    have ih' := ih n (p + 1) (by omega) (by omega)
    rw [X11_doLet_L46, h.1.1, if_neg (nI_ge hpp (by omega)), if_pos rfl, nI_1]
    rw [List.range'_succ, List.any_cons]
    by_cases e : S.testBit p = true
    · rw [if_pos ((bit32 hS (show p < 32 by omega)).mpr e), m_lets h w hf hm hm0 hpp hq (hs p e).2 hq', Option.bind_some, e]
      cases hl : ltM P f m p q with
      | false =>
        rw [if_pos (show b2 false = 0 from rfl), ih']
        rfl
      | true =>
        rw [if_neg (show ¬ b2 true = 0 from n10)]
        obtain ⟨n, rfl⟩ : ∃ q, n = q + 1 := ⟨n - 1, by omega⟩
        rw [X11_doLet_L46, h.1.1]
        have hB : X11_doLet_B95 kq τ (nI S) (nI m) (b2 c) (nI q) 1 = kq (nI S) (nI m) (b2 (c && true)) (nI (q + 1)) := m_B95 kq _ _ q c true
        rw [hB, if_neg n10]
        by_cases hx : nI P.1 ≤ nI (p + 1)
        · rw [if_pos hx]; rfl
        · rw [if_neg hx]; rfl
    · rw [if_neg (fun h => e ((bit32 hS (show p < 32 by omega)).mp h)), ih', show S.testBit p = false by simpa using e]
      rfl
def cvm (P : DP) (f : Nat → Option Nat) (m S q : Nat) : Bool := !prs f q || (S.testBit q || (List.range P.1).any fun p => S.testBit p && ltM P f m p q)
theorem cov_m {m S : Nat} (hs : ∀ i, S.testBit i = true → i < P.1 ∧ prs f i = true) : cov P f m S = (List.range P.1).all (cvm P f m S) := by
  rw [Bool.eq_iff_iff, cov_iff, List.all_eq_true]
  constructor
  · intro h q hq
    have hq := List.mem_range.mp hq
    unfold cvm
    cases hp : prs f q with
    | false => rfl
    | true =>
      obtain ⟨p, p1, p2, p3⟩ := h q hq hp
      unfold rch at p3
      rw [hp, Bool.true_and, Bool.or_eq_true, decide_eq_true_eq] at p3
      rcases p3 with p3 | p3
      · subst p3; rw [p2]; rfl
      · have : ((List.range P.1).any fun p => S.testBit p && ltM P f m p q) = true := by
          rw [List.any_eq_true]
          exact ⟨p, List.mem_range.mpr p1, by rw [p2, p3]; rfl⟩
        rw [this]; simp
  · intro h q hq hp
    have h1 := h q (List.mem_range.mpr hq)
    unfold cvm at h1
    rw [hp, Bool.not_true, Bool.false_or, Bool.or_eq_true] at h1
    rcases h1 with h1 | h1
    · exact ⟨q, hq, h1, by unfold rch; simp⟩
    · rw [List.any_eq_true] at h1
      obtain ⟨p, p1, p2⟩ := h1
      rw [Bool.and_eq_true] at p2
      exact ⟨p, List.mem_range.mp p1, p2.1, by unfold rch; rw [hp, p2.2]; simp⟩
theorem m_doLet (h : OM τ P f) (w : WP P) (hf : FY f) {m S : Nat} (hm : m < 21) (hm0 : m ≠ 0) (hS : S < 2 ^ 31) (hs : ∀ i, S.testBit i = true → i < P.1 ∧ prs f i = true) : X11_doLet (nI S) (nI m) τ = some (b2 (cov P f m S)) := by
  have h8 := w.1
  have key := loop0 (fun n k (o : Bool) => X11_doLet_L5 τ n (nI S) (nI m) (b2 o) (nI k)) P.1 (fun k => (List.range k).all (cvm P f m S)) (some (b2 (cov P f m S))) (by omega) (fun n k hk => ?_) (fun n => ?_)
  · exact key
  · show X11_doLet_L5 τ (n + 1) (nI S) (nI m) (b2 ((List.range k).all (cvm P f m S))) (nI k) = X11_doLet_L5 τ n (nI S) (nI m) (b2 ((List.range (k + 1)).all (cvm P f m S))) (nI (k + 1))
    have hall : (List.range (k + 1)).all (cvm P f m S) = ((List.range k).all (cvm P f m S) && cvm P f m S k) := by
      rw [List.range_succ, List.all_append]
      simp
    have hone : ∀ c : Bool, X11_doLet_L46 (X11_doLet_L5 τ n) τ FU (nI S) (nI m) (b2 c) (nI k) 1 0 = X11_doLet_L5 τ n (nI S) (nI m) (b2 (c && true)) (nI (k + 1)) := fun c => by
      obtain ⟨z, hz⟩ : ∃ n, FU = n + 1 := ⟨999999, rfl⟩
      rw [hz, X11_doLet_L46, if_neg n10]
      have hB : X11_doLet_B95 (X11_doLet_L5 τ n) τ (nI S) (nI m) (b2 c) (nI k) 1 = X11_doLet_L5 τ n (nI S) (nI m) (b2 (c && true)) (nI (k + 1)) := m_B95 _ _ _ k c true
      rw [hB]
      by_cases hx : gI τ 0 41 ≤ 0
      · rw [if_pos hx]
      · rw [if_neg hx]
    rw [X11_doLet_L5, h.1.1, if_neg (nI_ge hk (by omega)), chk_nI (by omega) (by decide), nI_cl (by omega), h.2 k hk, hone, hall]
    cases hk' : f k with
    | none =>
      have e1 : prs f k = false := by unfold prs; rw [hk']; rfl
      have e2 : cvm P f m S k = true := by unfold cvm; rw [e1]; rfl
      rw [if_pos oI_none, e2]
    | some b =>
      have e1 : prs f k = true := by unfold prs; rw [hk']; rfl
      have hyb := hf k b hk'
      rw [oI_some]
      simp only [neI4 (show b < 2 ^ 31 by omega), if_false]
      by_cases e : S.testBit k = true
      · have e2 : cvm P f m S k = true := by unfold cvm; rw [e]; simp
        rw [if_pos ((bit32 hS (show k < 32 by omega)).mpr e), e2]
      · have e2 : cvm P f m S k = (List.range' 0 P.1).any fun p => S.testBit p && ltM P f m p k := by
          unfold cvm
          rw [e1, show S.testBit k = false by simpa using e, List.range_eq_range']
          rfl
        rw [if_neg (fun h => e ((bit32 hS (show k < 32 by omega)).mp h)), e2]
        exact m_inL h w hf hm hm0 hS hs hk e1 (X11_doLet_L5 τ n) _ P.1 FU 0 (by omega) (by show _ < 1000000; omega)
  · show X11_doLet_L5 τ (n + 1) (nI S) (nI m) (b2 ((List.range P.1).all (cvm P f m S))) (nI P.1) = _
    rw [X11_doLet_L5, h.1.1, if_pos (nI_le (Nat.le_refl _) (by omega)), chkB_b2, cov_m hs]
theorem m_withFirst (h : OM τ P f) (w : P.1 ≤ 8) (hf : FY f) : X11_withFirst τ = some (nI (bs (prs f) P.1)) := by
  have key := loop0 (fun n k (o : Nat) => X11_withFirst_L4 τ n (nI o) (nI k)) P.1 (fun k => bs (prs f) k) (some (nI (bs (prs f) P.1))) (by omega) (fun n k hk => ?_) (fun n => ?_)
  · exact key
  · show X11_withFirst_L4 τ (n + 1) (nI (bs (prs f) k)) (nI k) = X11_withFirst_L4 τ n (nI (bs (prs f) (k + 1))) (nI (k + 1))
    rw [X11_withFirst_L4, h.1.1, if_neg (nI_ge hk (by omega)), chk_nI (by omega) (by decide), nI_cl (by omega), h.2 k hk, nI_1]
    cases hk' : f k with
    | none =>
      have e1 : prs f k = false := by unfold prs; rw [hk']; rfl
      rw [if_pos oI_none, bnd, show (0 : Int32) = nI 0 from rfl, nI_or, Nat.or_zero, bs_no e1]
    | some b =>
      have e1 : prs f k = true := by unfold prs; rw [hk']; rfl
      have hyb := hf k b hk'
      rw [oI_some]
      simp only [neI4 (show b < 2 ^ 31 by omega), if_false]
      rw [one_shl32 k (by omega), nI_or, bnd, bs_set e1]
  · show X11_withFirst_L4 τ (n + 1) (nI (bs (prs f) P.1)) (nI P.1) = _
    rw [X11_withFirst_L4, h.1.1, if_pos (nI_le (Nat.le_refl _) (by omega))]
end Orig2
