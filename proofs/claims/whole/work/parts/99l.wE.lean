/-! what the Statement gives at the start: statics, String constants -/
theorem kLen_lt : ∀ i, i < 8 → kLen.getD i 0 < 2 ^ 31 := by decide
theorem ev_int {args : Array Value} {s : State} {t : Term} {v : Int32} (h : (Cond.eq t (.int v)).before args s = true) : t.eval args s none [] s = some (.int v) := va_eqI (Cond.before_iff.mp h) rfl
set_option maxRecDepth 100000 in
set_option maxHeartbeats 4000000 in
theorem wE_of {args : Array Value} {s : State} (hgv : (Jvm.Cond.and given_1 narrow_1).before args s = true) (hts : ∀ w ∈ lw_tbl, w.before args s = true) : ∃ (S1 S2 : Nat) (Ks Vs : Nat → Nat), ∀ w : WX, wS1 w = S1 → wS2 w = S2 → wKs w = Ks → wVs w = Vs → (∀ q, wA w q → s.heap.size ≤ q) → wE w s s.heap := by
  have hs := flat_of_before _ hgv
  have hA : ∀ a : Nat, a < s.heap.size → ¬ (fun q : Nat => s.heap.size ≤ q) a := fun a h => Nat.not_le.mpr h
  obtain ⟨S1, S1e, S1T⟩ := va_Tof (args := args) (s := s) (tm := .static "FamilyNames$Rules" "AT_FIRST" "[I") (ty := .int) (N := 8) (f := fun j => .int (tFirst j)) (A := fun q : Nat => s.heap.size ≤ q) (by decide) (hs _ (by decide +kernel)) (ev_int (hs _ (by decide +kernel))) (fun j hj => match j, hj with
    | 0, _ => ev_int (hs _ (by decide +kernel))
    | 1, _ => ev_int (hs _ (by decide +kernel))
    | 2, _ => ev_int (hs _ (by decide +kernel))
    | 3, _ => ev_int (hs _ (by decide +kernel))
    | 4, _ => ev_int (hs _ (by decide +kernel))
    | 5, _ => ev_int (hs _ (by decide +kernel))
    | 6, _ => ev_int (hs _ (by decide +kernel))
    | 7, _ => ev_int (hs _ (by decide +kernel))
    | j + 8, hj => absurd hj (by omega)) hA
  obtain ⟨S2, S2e, S2T⟩ := va_Tof (args := args) (s := s) (tm := .static "FamilyNames$Lines" "WORTH" "[I") (ty := .int) (N := 5) (f := fun j => .int (tWorth j)) (A := fun q : Nat => s.heap.size ≤ q) (by decide) (hs _ (by decide +kernel)) (ev_int (hs _ (by decide +kernel))) (fun j hj => match j, hj with
    | 0, _ => ev_int (hs _ (by decide +kernel))
    | 1, _ => ev_int (hs _ (by decide +kernel))
    | 2, _ => ev_int (hs _ (by decide +kernel))
    | 3, _ => ev_int (hs _ (by decide +kernel))
    | 4, _ => ev_int (hs _ (by decide +kernel))
    | j + 5, hj => absurd hj (by omega)) hA
  have Z1 := va_Zof (args := args) (s := s) (C := "FamilyNames$Rules") (n := "AT_FIRST") (d := "[I") (hts _ (by decide +kernel)) (hts _ (by decide +kernel)) S1e hA
  have Z2 := va_Zof (args := args) (s := s) (C := "FamilyNames$Lines") (n := "WORTH") (d := "[I") (hts _ (by decide +kernel)) (hts _ (by decide +kernel)) S2e hA
  have Z3 := va_Zof (args := args) (s := s) (C := "java/lang/String") (n := "COMPACT_STRINGS") (d := "Z") (v := .int 1) (hts _ (by decide +kernel)) (hts _ (by decide +kernel)) (ev_int (hs _ (by decide +kernel))) hA
  have Z4 := va_Zqof (args := args) (s := s) (C := "jdk/internal/util/Preconditions") (n := "SIOOBE_FORMATTER") (d := "Ljava/util/function/BiFunction;") (hts _ (by decide +kernel)) (hts _ (by decide +kernel)) (hs _ (by decide +kernel)) hA
  have hex : ∀ i : Nat, i < 8 → (Cond.exactly (.string "FamilyNames$TextReader" (kIdx i)) "java/lang/String").before args s = true := (fun i hi => match i, hi with
    | 0, _ => hs _ (by decide +kernel)
    | 1, _ => hs _ (by decide +kernel)
    | 2, _ => hs _ (by decide +kernel)
    | 3, _ => hs _ (by decide +kernel)
    | 4, _ => hs _ (by decide +kernel)
    | 5, _ => hs _ (by decide +kernel)
    | 6, _ => hs _ (by decide +kernel)
    | 7, _ => hs _ (by decide +kernel)
    | i + 8, hi => absurd hi (by omega))
  have hco : ∀ i : Nat, i < 8 → (Cond.eq (.field (.string "FamilyNames$TextReader" (kIdx i)) "java/lang/String" "coder" "B") (.int 0)).before args s = true := (fun i hi => match i, hi with
    | 0, _ => hs _ (by decide +kernel)
    | 1, _ => hs _ (by decide +kernel)
    | 2, _ => hs _ (by decide +kernel)
    | 3, _ => hs _ (by decide +kernel)
    | 4, _ => hs _ (by decide +kernel)
    | 5, _ => hs _ (by decide +kernel)
    | 6, _ => hs _ (by decide +kernel)
    | 7, _ => hs _ (by decide +kernel)
    | i + 8, hi => absurd hi (by omega))
  have har : ∀ i : Nat, i < 8 → (Cond.arrayOf (.field (.string "FamilyNames$TextReader" (kIdx i)) "java/lang/String" "value" "[B") .byte).before args s = true := (fun i hi => match i, hi with
    | 0, _ => hs _ (by decide +kernel)
    | 1, _ => hs _ (by decide +kernel)
    | 2, _ => hs _ (by decide +kernel)
    | 3, _ => hs _ (by decide +kernel)
    | 4, _ => hs _ (by decide +kernel)
    | 5, _ => hs _ (by decide +kernel)
    | 6, _ => hs _ (by decide +kernel)
    | 7, _ => hs _ (by decide +kernel)
    | i + 8, hi => absurd hi (by omega))
  have hle : ∀ i : Nat, i < 8 → (Cond.eq (.length (.field (.string "FamilyNames$TextReader" (kIdx i)) "java/lang/String" "value" "[B")) (.int (Int32.ofNat (kLen.getD i 0)))).before args s = true := (fun i hi => match i, hi with
    | 0, _ => hs _ (by decide +kernel)
    | 1, _ => hs _ (by decide +kernel)
    | 2, _ => hs _ (by decide +kernel)
    | 3, _ => hs _ (by decide +kernel)
    | 4, _ => hs _ (by decide +kernel)
    | 5, _ => hs _ (by decide +kernel)
    | 6, _ => hs _ (by decide +kernel)
    | 7, _ => hs _ (by decide +kernel)
    | i + 8, hi => absurd hi (by omega))
  have hel : ∀ i : Nat, i < 8 → ∀ j : Nat, j < kLen.getD i 0 → (Cond.eq (.elem (.field (.string "FamilyNames$TextReader" (kIdx i)) "java/lang/String" "value" "[B") (.int (Int32.ofNat j))) (.int ((kByt.getD i []).getD j 0))).before args s = true := (fun i hi => match i, hi with
    | 0, _ => (fun j hj => match j, hj with
      | 0, _ => hs _ (by decide +kernel)
      | 1, _ => hs _ (by decide +kernel)
      | 2, _ => hs _ (by decide +kernel)
      | j + 3, hj => absurd hj (by show ¬ j + 3 < 3; omega))
    | 1, _ => (fun j hj => match j, hj with
      | 0, _ => hs _ (by decide +kernel)
      | 1, _ => hs _ (by decide +kernel)
      | 2, _ => hs _ (by decide +kernel)
      | 3, _ => hs _ (by decide +kernel)
      | j + 4, hj => absurd hj (by show ¬ j + 4 < 4; omega))
    | 2, _ => (fun j hj => match j, hj with
      | 0, _ => hs _ (by decide +kernel)
      | 1, _ => hs _ (by decide +kernel)
      | 2, _ => hs _ (by decide +kernel)
      | 3, _ => hs _ (by decide +kernel)
      | j + 4, hj => absurd hj (by show ¬ j + 4 < 4; omega))
    | 3, _ => (fun j hj => match j, hj with
      | 0, _ => hs _ (by decide +kernel)
      | 1, _ => hs _ (by decide +kernel)
      | 2, _ => hs _ (by decide +kernel)
      | 3, _ => hs _ (by decide +kernel)
      | j + 4, hj => absurd hj (by show ¬ j + 4 < 4; omega))
    | 4, _ => (fun j hj => match j, hj with
      | 0, _ => hs _ (by decide +kernel)
      | 1, _ => hs _ (by decide +kernel)
      | 2, _ => hs _ (by decide +kernel)
      | 3, _ => hs _ (by decide +kernel)
      | 4, _ => hs _ (by decide +kernel)
      | j + 5, hj => absurd hj (by show ¬ j + 5 < 5; omega))
    | 5, _ => (fun j hj => match j, hj with
      | 0, _ => hs _ (by decide +kernel)
      | 1, _ => hs _ (by decide +kernel)
      | 2, _ => hs _ (by decide +kernel)
      | 3, _ => hs _ (by decide +kernel)
      | j + 4, hj => absurd hj (by show ¬ j + 4 < 4; omega))
    | 6, _ => (fun j hj => match j, hj with
      | 0, _ => hs _ (by decide +kernel)
      | 1, _ => hs _ (by decide +kernel)
      | 2, _ => hs _ (by decide +kernel)
      | 3, _ => hs _ (by decide +kernel)
      | 4, _ => hs _ (by decide +kernel)
      | j + 5, hj => absurd hj (by show ¬ j + 5 < 5; omega))
    | 7, _ => (fun j hj => match j, hj with
      | 0, _ => hs _ (by decide +kernel)
      | 1, _ => hs _ (by decide +kernel)
      | 2, _ => hs _ (by decide +kernel)
      | 3, _ => hs _ (by decide +kernel)
      | j + 4, hj => absurd hj (by show ¬ j + 4 < 4; omega))
    | i + 8, hi => absurd hi (by omega))
  have hne : ∀ i j : Nat, i < 8 → j < 8 → i ≠ j → (Cond.not (Cond.eq (.string "FamilyNames$TextReader" (kIdx i)) (.string "FamilyNames$TextReader" (kIdx j)))).before args s = true ∨ (Cond.not (Cond.eq (.string "FamilyNames$TextReader" (kIdx j)) (.string "FamilyNames$TextReader" (kIdx i)))).before args s = true := fun i j hi hj h => match i, j, hi, hj, h with
    | 0, 0, _, _, h => absurd rfl h
    | 0, 1, _, _, h => Or.inl (hs _ (by decide +kernel))
    | 0, 2, _, _, h => Or.inl (hs _ (by decide +kernel))
    | 0, 3, _, _, h => Or.inl (hs _ (by decide +kernel))
    | 0, 4, _, _, h => Or.inl (hs _ (by decide +kernel))
    | 0, 5, _, _, h => Or.inl (hs _ (by decide +kernel))
    | 0, 6, _, _, h => Or.inl (hs _ (by decide +kernel))
    | 0, 7, _, _, h => Or.inl (hs _ (by decide +kernel))
    | 1, 0, _, _, h => Or.inr (hs _ (by decide +kernel))
    | 1, 1, _, _, h => absurd rfl h
    | 1, 2, _, _, h => Or.inl (hs _ (by decide +kernel))
    | 1, 3, _, _, h => Or.inl (hs _ (by decide +kernel))
    | 1, 4, _, _, h => Or.inl (hs _ (by decide +kernel))
    | 1, 5, _, _, h => Or.inl (hs _ (by decide +kernel))
    | 1, 6, _, _, h => Or.inl (hs _ (by decide +kernel))
    | 1, 7, _, _, h => Or.inl (hs _ (by decide +kernel))
    | 2, 0, _, _, h => Or.inr (hs _ (by decide +kernel))
    | 2, 1, _, _, h => Or.inr (hs _ (by decide +kernel))
    | 2, 2, _, _, h => absurd rfl h
    | 2, 3, _, _, h => Or.inl (hs _ (by decide +kernel))
    | 2, 4, _, _, h => Or.inl (hs _ (by decide +kernel))
    | 2, 5, _, _, h => Or.inl (hs _ (by decide +kernel))
    | 2, 6, _, _, h => Or.inl (hs _ (by decide +kernel))
    | 2, 7, _, _, h => Or.inl (hs _ (by decide +kernel))
    | 3, 0, _, _, h => Or.inr (hs _ (by decide +kernel))
    | 3, 1, _, _, h => Or.inr (hs _ (by decide +kernel))
    | 3, 2, _, _, h => Or.inr (hs _ (by decide +kernel))
    | 3, 3, _, _, h => absurd rfl h
    | 3, 4, _, _, h => Or.inl (hs _ (by decide +kernel))
    | 3, 5, _, _, h => Or.inl (hs _ (by decide +kernel))
    | 3, 6, _, _, h => Or.inl (hs _ (by decide +kernel))
    | 3, 7, _, _, h => Or.inl (hs _ (by decide +kernel))
    | 4, 0, _, _, h => Or.inr (hs _ (by decide +kernel))
    | 4, 1, _, _, h => Or.inr (hs _ (by decide +kernel))
    | 4, 2, _, _, h => Or.inr (hs _ (by decide +kernel))
    | 4, 3, _, _, h => Or.inr (hs _ (by decide +kernel))
    | 4, 4, _, _, h => absurd rfl h
    | 4, 5, _, _, h => Or.inl (hs _ (by decide +kernel))
    | 4, 6, _, _, h => Or.inl (hs _ (by decide +kernel))
    | 4, 7, _, _, h => Or.inl (hs _ (by decide +kernel))
    | 5, 0, _, _, h => Or.inr (hs _ (by decide +kernel))
    | 5, 1, _, _, h => Or.inr (hs _ (by decide +kernel))
    | 5, 2, _, _, h => Or.inr (hs _ (by decide +kernel))
    | 5, 3, _, _, h => Or.inr (hs _ (by decide +kernel))
    | 5, 4, _, _, h => Or.inr (hs _ (by decide +kernel))
    | 5, 5, _, _, h => absurd rfl h
    | 5, 6, _, _, h => Or.inl (hs _ (by decide +kernel))
    | 5, 7, _, _, h => Or.inl (hs _ (by decide +kernel))
    | 6, 0, _, _, h => Or.inr (hs _ (by decide +kernel))
    | 6, 1, _, _, h => Or.inr (hs _ (by decide +kernel))
    | 6, 2, _, _, h => Or.inr (hs _ (by decide +kernel))
    | 6, 3, _, _, h => Or.inr (hs _ (by decide +kernel))
    | 6, 4, _, _, h => Or.inr (hs _ (by decide +kernel))
    | 6, 5, _, _, h => Or.inr (hs _ (by decide +kernel))
    | 6, 6, _, _, h => absurd rfl h
    | 6, 7, _, _, h => Or.inl (hs _ (by decide +kernel))
    | 7, 0, _, _, h => Or.inr (hs _ (by decide +kernel))
    | 7, 1, _, _, h => Or.inr (hs _ (by decide +kernel))
    | 7, 2, _, _, h => Or.inr (hs _ (by decide +kernel))
    | 7, 3, _, _, h => Or.inr (hs _ (by decide +kernel))
    | 7, 4, _, _, h => Or.inr (hs _ (by decide +kernel))
    | 7, 5, _, _, h => Or.inr (hs _ (by decide +kernel))
    | 7, 6, _, _, h => Or.inr (hs _ (by decide +kernel))
    | 7, 7, _, _, h => absurd rfl h
    | i + 8, _, hi, _, _ => absurd hi (by omega)
    | _, j + 8, _, hj, _ => absurd hj (by omega)
  obtain ⟨Ks, Vs, hK, hKe⟩ := vk_Sof (args := args) (s := s) (N := 8) (tm := fun i => .string "FamilyNames$TextReader" (kIdx i)) (len := kLen) (byt := kByt) (A := fun q : Nat => s.heap.size ≤ q) kLen_lt hex hco har hle hel hne hA
  have hR : ∀ i, i < 8 → (Cond.stringRef "FamilyNames$TextReader" (kIdx i) (kTx i)).before args s = true := (fun i hi => match i, hi with
    | 0, _ => hts _ (by decide +kernel)
    | 1, _ => hts _ (by decide +kernel)
    | 2, _ => hts _ (by decide +kernel)
    | 3, _ => hts _ (by decide +kernel)
    | 4, _ => hts _ (by decide +kernel)
    | 5, _ => hts _ (by decide +kernel)
    | 6, _ => hts _ (by decide +kernel)
    | 7, _ => hts _ (by decide +kernel)
    | i + 8, hi => absurd hi (by omega))
  refine ⟨S1, S2, Ks, Vs, fun w e1 e2 e3 e4 hw => ?_⟩
  unfold wE
  rw [e1, e2, e3, e4]
  exact ⟨Z1.narrow hw, S1T.narrow hw, Z2.narrow hw, S2T.narrow hw, Z3.narrow hw, Z4.narrow hw, hK.narrow hw, fun i hi => vk_R.of (hR i hi) (hKe i hi), va_Nw.of rfl (hts _ (by decide +kernel))⟩
