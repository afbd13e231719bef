/-! the class names all -/
def rd (J : Nat → Nat → Bool) (p : Nat → Bool) (k : Nat) : Nat → Bool := if p k then (fun x => p x || J k x) else p
section Names
variable {σ : St} {J : Nat → Nat → Bool} {n : Nat}
theorem rd_mono (p : Nat → Bool) (k x : Nat) (h : p x = true) : rd J p k x = true := by
  unfold rd
  split <;> simp [h]
theorem rds_mono : ∀ (l : List Nat) (p : Nat → Bool) (x : Nat), p x = true → l.foldl (rd J) p x = true
  | [], _, _, h => h
  | k :: l, p, x, h => rds_mono l (rd J p k) x (rd_mono p k x h)
theorem rds_step : ∀ (l : List Nat) (p : Nat → Bool) (k x : Nat), k ∈ l → p k = true → J k x = true → l.foldl (rd J) p x = true
  | k' :: l, p, k, x, hk, hp, hj => by
    rcases List.mem_cons.mp hk with e | h
    · subst e
      exact rds_mono l _ x (by unfold rd; simp [hp, hj])
    · exact rds_step l (rd J p k') k x h (rd_mono p k' k hp) hj
theorem rds_con {s : Nat} (l : List Nat) (hl : ∀ k ∈ l, k < n) (p : Nat → Bool) (hp : ∀ t, t < n → p t = true → Con_n J n s t) : ∀ t, t < n → l.foldl (rd J) p t = true → Con_n J n s t :=
  foldl_inv (fun p : Nat → Bool => ∀ t, t < n → p t = true → Con_n J n s t) (rd J) l p hp (fun p k hk ih t ht h => by
    unfold rd at h
    by_cases e : p k = true
    · rw [if_pos e, Bool.or_eq_true] at h
      rcases h with h | h
      · exact ih t ht h
      · exact (ih k (hl k hk) e).tr (Con_n.st ht h)
    · rw [if_neg e] at h
      exact ih t ht h)
theorem c_reachIn (hn : n ≤ 16) (h0 : gI σ 18 1 = nI n) (hj : ∀ k, k < n → gI σ 20 k = nI (bs (J k) n)) (kq : Int32 → Int32 → Int32 → Option Int32) (x3 x4 : Int32) (p : Nat → Bool) : X9_reachedFrom_L28 kq σ FU (nI (bs p n)) x3 x4 0 = kq (nI (bs ((List.range n).foldl (rd J) p) n)) x3 (x4 + 1) := by
  have key := fold0 (fun m k (p : Nat → Bool) => X9_reachedFrom_L28 kq σ m (nI (bs p n)) x3 x4 (nI k)) n (fun k p => rd J p k) (fun p => kq (nI (bs p n)) x3 (x4 + 1)) (by omega) (fun m k p hk => ?_) (fun m p => ?_) p
  · exact key
  · show X9_reachedFrom_L28 kq σ (m + 1) (nI (bs p n)) x3 x4 (nI k) = X9_reachedFrom_L28 kq σ m (nI (bs (rd J p k) n)) x3 x4 (nI (k + 1))
    have hl := bs_lt16 p hn
    rw [X9_reachedFrom_L28, h0, if_neg (nI_ge hk (by omega))]
    simp only [bit32 (show bs p n < 2 ^ 31 by omega) (show k < 32 by omega), bs_bit, hk, decide_true, Bool.true_and]
    by_cases e : p k = true
    · rw [if_pos e, chk_nI (by omega) (by decide), nI_cl (by omega), hj k hk, nI_or, bs_or, bnd, nI_1]
      unfold rd
      rw [if_pos e]
    · rw [if_neg e, nI_1]
      unfold rd
      rw [if_neg e]
  · show X9_reachedFrom_L28 kq σ (m + 1) (nI (bs p n)) x3 x4 (nI n) = _
    rw [X9_reachedFrom_L28, h0, if_pos (nI_le (Nat.le_refl _) (by omega))]
theorem c_reachL (hn : n ≤ 16) (h0 : gI σ 18 1 = nI n) (hj : ∀ k, k < n → gI σ 20 k = nI (bs (J k) n)) {s : Nat} (hs : s < n) : ∀ d m k p p', k + d = n → d < m → p s = true → (∀ t, t < n → p t = true → Con_n J n s t) → (bs p n = bs p' n → ∀ x y, x < n → y < n → p x = true → J x y = true → p y = true) → (bs p n ≠ bs p' n → k + 1 ≤ (List.range n).countP p) → ∃ P, X9_reachedFrom_L9 σ m (nI (bs p n)) (nI (bs p' n)) (nI k) = some (nI (bs P n)) ∧ ∀ t, t < n → (P t = true ↔ Con_n J n s t) := by
  intro d
  have fin : ∀ p : Nat → Bool, p s = true → (∀ t, t < n → p t = true → Con_n J n s t) → (∀ x y, x < n → y < n → p x = true → J x y = true → p y = true) → ∀ t, t < n → (p t = true ↔ Con_n J n s t) := fun p h1 h2 h3 t ht => ⟨h2 t ht, fun ⟨k, hk⟩ => Con_n.cl (p := fun x => p x = true) h3 hs h1 hk⟩
  induction d with
  | zero =>
    intro m k p p' hk hm hps hc hcl hcn
    obtain ⟨m, rfl⟩ : ∃ q, m = q + 1 := ⟨m - 1, by omega⟩
    have : k = n := by omega
    subst this
    refine ⟨p, by rw [X9_reachedFrom_L9, h0, if_pos (nI_le (Nat.le_refl _) (by omega))], ?_⟩
    have he : bs p k = bs p' k := Classical.byContradiction fun h => by
      have := hcn h
      have := cnt_le p k
      omega
    exact fin p hps hc (hcl he)
  | succ d ih =>
    intro m k p p' hk hm hps hc hcl hcn
    obtain ⟨m, rfl⟩ : ∃ q, m = q + 1 := ⟨m - 1, by omega⟩
    have l1 := bs_lt16 p hn
    have l2 := bs_lt16 p' hn
    rw [X9_reachedFrom_L9, h0, if_neg (nI_ge (by omega) (by omega))]
    simp only [eqI (show bs p n < 2 ^ 31 by omega) (show bs p' n < 2 ^ 31 by omega)]
    by_cases he : bs p n = bs p' n
    · exact ⟨p, by rw [if_pos he], fin p hps hc (hcl he)⟩
    · rw [if_neg he, c_reachIn hn h0 hj, nI_1]
      have hmono : ∀ x, p x = true → (List.range n).foldl (rd J) p x = true := fun x => rds_mono _ p x
      refine ih m (k + 1) _ p (by omega) (by omega) (hmono s hps) (rds_con _ (fun k hk => List.mem_range.mp hk) p hc) (fun e x y hx hy hpx hxy => ?_) (fun e => ?_)
      · have e2 := bs_inj e
        have : p x = true := by rw [← e2 x hx]; exact hpx
        exact rds_step _ p x y (List.mem_range.mpr hx) this hxy
      · have h1 := hcn he
        have h2 := (cnt_lt (p := p) (q := (List.range n).foldl (rd J) p) (n := n) (fun x _ => hmono x)).2 (Classical.byContradiction fun h => e (bs_ext fun x hx => Classical.byContradiction fun h' => h ⟨x, hx, fun e => h' e.symm⟩))
        omega
theorem c_reached (hn : n ≤ 16) (h0 : gI σ 18 1 = nI n) (hj : ∀ k, k < n → gI σ 20 k = nI (bs (J k) n)) {s : Nat} (hs : s < n) : ∃ P, X9_reachedFrom (nI s) σ = some (nI (bs P n)) ∧ ∀ t, t < n → (P t = true ↔ Con_n J n s t) := by
  unfold X9_reachedFrom
  rw [bnd, one_shl32 s (by omega), bs_one hs, show (0 : Int32) = nI (bs (fun _ => false) n) by rw [bs_0]; rfl]
  have := c_reachL hn h0 hj hs n FU 0 (fun j => decide (j = s)) (fun _ => false) (by omega) (by show _ < 1000000; omega) (by simp) (fun t _ h => by
    have : t = s := by simpa using h
    subst this
    exact Con_n.rf) (fun e => by
    have := bs_inj e s hs
    simp at this) (fun _ => by
    have h : 0 < (List.range n).countP (fun j => decide (j = s)) := List.countP_pos_iff.mpr ⟨s, List.mem_range.mpr hs, by simp⟩
    omega)
  rw [show nI 0 = nI (bs (fun _ => false) n) by rw [bs_0]] at this
  exact this
theorem c_members (hn : n ≤ 16) (h0 : gI σ 18 1 = nI n) (P : Nat → Bool) (v : Int32) (f : Nat → Int32) : X9_nameMembers (nI (bs P n)) v (sIf σ 21 f) = some (sIf σ 21 (fun j => if j < n ∧ P j = true then v else f j)) := by
  have hl := bs_lt16 P hn
  have key := loop0 (fun m k (g : Nat → Int32) => X9_nameMembers_L2 m (nI (bs P n)) v (nI k) (sIf σ 21 g)) n (fun k j => if j < k ∧ P j = true then v else f j) (some (sIf σ 21 (fun j => if j < n ∧ P j = true then v else f j))) (by omega) (fun m k hk => ?_) (fun m => ?_)
  · simp only [Nat.not_lt_zero, false_and, if_false] at key
    exact key
  · show X9_nameMembers_L2 (m + 1) (nI (bs P n)) v (nI k) (sIf σ 21 _) = X9_nameMembers_L2 m (nI (bs P n)) v (nI (k + 1)) (sIf σ 21 _)
    rw [X9_nameMembers_L2, gI_sIfn (by decide), h0, if_neg (nI_ge hk (by omega))]
    simp only [bit32 (show bs P n < 2 ^ 31 by omega) (show k < 32 by omega), bs_bit, hk, decide_true, Bool.true_and]
    by_cases e : P k = true
    · rw [if_pos e, chk_nI (by omega) (by decide), nI_cl (by omega), bnd, sI_sIf, nI_1]
      congr 2
      funext j
      unfold upd
      by_cases ej : j = k
      · subst ej; simp [e]
      · rw [if_neg ej]
        have : (j < k) = (j < k + 1) := propext ⟨fun h => by omega, fun h => by omega⟩
        simp only [this]
    · rw [if_neg e, nI_1]
      congr 2
      funext j
      by_cases ej : j = k
      · subst ej; simp [e]
      · have : (j < k) = (j < k + 1) := propext ⟨fun h => by omega, fun h => by omega⟩
        simp only [this]
  · show X9_nameMembers_L2 (m + 1) (nI (bs P n)) v (nI n) (sIf σ 21 _) = _
    rw [X9_nameMembers_L2, gI_sIfn (by decide), h0, if_pos (nI_le (Nat.le_refl _) (by omega))]
theorem c_nameL (hJ : ∀ x y, J x y = J y x) (hn : n ≤ 16) (h0 : gI σ 18 1 = nI n) (hj : ∀ k, k < n → gI σ 20 k = nI (bs (J k) n)) {nm : Nat → Nat} (hN : NM J n nm) : ∀ d m s p f, s + d = n → d < m → (∀ t, t < n → (p t = true ↔ ∃ u, u < s ∧ Con_n J n u t)) → (∀ t, t < n → p t = true → f t = nI (nm t)) → ∃ f', X9_nameAll_L4 m (nI (bs p n)) (nI s) (sIf σ 21 f) = some (sIf σ 21 f') ∧ ∀ t, t < n → f' t = nI (nm t) := by
  intro d
  induction d with
  | zero =>
    intro m s p f hs hm h1 h2
    obtain ⟨m, rfl⟩ : ∃ q, m = q + 1 := ⟨m - 1, by omega⟩
    have : s = n := by omega
    subst this
    refine ⟨f, by rw [X9_nameAll_L4, gI_sIfn (by decide), h0, if_pos (nI_le (Nat.le_refl _) (by omega))], fun t ht => h2 t ht ((h1 t ht).mpr ⟨t, ht, Con_n.rf⟩)⟩
  | succ d ih =>
    intro m s p f hs hm h1 h2
    obtain ⟨m, rfl⟩ : ∃ q, m = q + 1 := ⟨m - 1, by omega⟩
    have hsn : s < n := by omega
    have hl := bs_lt16 p hn
    rw [X9_nameAll_L4, gI_sIfn (by decide), h0, if_neg (nI_ge hsn (by omega))]
    simp only [bit32_0 (show bs p n < 2 ^ 31 by omega) (show s < 32 by omega), bs_bit, hsn, decide_true, Bool.true_and]
    by_cases e : p s = false
    · rw [if_pos e]
      obtain ⟨P, hP1, hP2⟩ := c_reached (σ := sIf σ 21 f) hn (by rw [gI_sIfn (by decide)]; exact h0) (fun k hk => by rw [gI_sIfn (by decide)]; exact hj k hk) hsn
      rw [hP1, Option.bind_some, bnd, nI_or, bs_or, c_members hn h0, Option.bind_some, nI_1]
      refine ih m (s + 1) _ _ (by omega) (by omega) (fun t ht => ?_) (fun t ht hp => ?_)
      · rw [Bool.or_eq_true, h1 t ht, hP2 t ht]
        constructor
        · rintro (⟨u, hu, hc⟩ | hc)
          · exact ⟨u, by omega, hc⟩
          · exact ⟨s, by omega, hc⟩
        · rintro ⟨u, hu, hc⟩
          by_cases eu : u = s
          · subst eu; exact Or.inr hc
          · exact Or.inl ⟨u, by omega, hc⟩
      · by_cases hPt : P t = true
        · rw [if_pos ⟨ht, hPt⟩]
          congr 1
          obtain ⟨a1, a2, a3⟩ := hN t ht
          have hst := (hP2 t ht).mp hPt
          have hts := hst.sy hJ hsn
          have hle := a3 s hsn hts
          rcases Nat.lt_or_ge (nm t) s with hlt | hge
          · exfalso
            have : p s = true := (h1 s hsn).mpr ⟨nm t, hlt, (a2.sy hJ ht).tr hts⟩
            rw [e] at this
            exact Bool.noConfusion this
          · omega
        · rw [if_neg (fun h => hPt h.2)]
          rw [Bool.or_eq_true] at hp
          exact h2 t ht (hp.resolve_right hPt)
    · rw [if_neg e, nI_1]
      have e' : p s = true := by simpa using e
      refine ih m (s + 1) p f (by omega) (by omega) (fun t ht => ?_) h2
      rw [h1 t ht]
      constructor
      · rintro ⟨u, hu, hc⟩
        exact ⟨u, by omega, hc⟩
      · rintro ⟨u, hu, hc⟩
        by_cases eu : u = s
        · subst eu
          obtain ⟨v, hv, hvc⟩ := (h1 u hsn).mp e'
          exact ⟨v, hv, hvc.tr hc⟩
        · exact ⟨u, by omega, hc⟩
theorem c_nameAll (hJ : ∀ x y, J x y = J y x) (hn : n ≤ 16) (h0 : gI σ 18 1 = nI n) (hj : ∀ k, k < n → gI σ 20 k = nI (bs (J k) n)) {nm : Nat → Nat} (hN : NM J n nm) : ∃ f, X9_nameAll σ = some (sIf σ 21 f) ∧ ∀ t, t < n → f t = nI (nm t) := by
  have := c_nameL hJ hn h0 hj hN n FU 0 (fun _ => false) (gI σ 21) (by omega) (by show _ < 1000000; omega) (fun t ht => by simp) (fun t ht h => by simp at h)
  rw [sIf_self, bs_0] at this
  exact this
end Names
