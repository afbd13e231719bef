/-! the two worlds: the system's cells, the reference's cells -/
abbrev ZT : Type := va_G × ClassId × ClassId × ClassId × ClassId × (Nat → Nat) × Nat × Nat × (Nat → Nat) × (Nat → Nat)
def aC (z : ZT) (q : Nat) : Nat := z.2.2.2.2.2.1 q
def rfR (z : ZT) (r : Nat) : Value := match r with
  | 0 => .ref (aC z 4)
  | 1 => .ref (aC z 5)
  | _ => .null
theorem rfR_lt {z : ZT} {r : Nat} (h : r < 2) : rfR z r = .ref (aC z (4 + r)) := match r, h with
  | 0, _ => rfl
  | 1, _ => rfl
def shC (z : ZT) : Shp := fun q I J R => ([
  .inr (9, [.ref (aC z 1), .ref (aC z 3), .ref (aC z 18), .ref (aC z 27), .ref (aC z 34), .ref (aC z 46), .ref (aC z 49), .ref (aC z 50), rfR z (R 8), rfR z (R 9), .int (I 10), .int (I 11), .int (I 12)]),
  .inr (6, [.ref (aC z 2), .int (I 1)]),
  .inl (z.2.2.2.1, 200, .inl I),
  .inr (7, [.ref (aC z 1), rfR z (R 1), .int (I 2), .int (I 3), .int (I 4), .int (I 5), .int (I 6), .int (I 7), .int (I 8), .int (I 9)]),
  .inr (4, [.ref (aC z 6), .ref (aC z 8), .ref (aC z 10), .ref (aC z 12), .ref (aC z 14), .ref (aC z 16), .int (I 6), .int (I 7)]),
  .inr (4, [.ref (aC z 7), .ref (aC z 9), .ref (aC z 11), .ref (aC z 13), .ref (aC z 15), .ref (aC z 17), .int (I 6), .int (I 7)]),
  .inl (z.2.1, 8, .inl I),
  .inl (z.2.1, 8, .inl I),
  .inl (z.2.1, 12, .inl I),
  .inl (z.2.1, 12, .inl I),
  .inl (z.2.1, 12, .inl I),
  .inl (z.2.1, 12, .inl I),
  .inl (z.2.1, 12, .inl I),
  .inl (z.2.1, 12, .inl I),
  .inl (z.2.1, 12, .inl I),
  .inl (z.2.1, 12, .inl I),
  .inl (z.2.1, 729, .inl I),
  .inl (z.2.1, 729, .inl I),
  .inr (8, [.ref (aC z 19), .int (I 1), .ref (aC z 20), .ref (aC z 21), .ref (aC z 22), rfR z (R 5), .ref (aC z 23), .ref (aC z 24), .ref (aC z 25), .ref (aC z 26)]),
  .inl (z.2.2.1, 16, .inr (.inl J)),
  .inl (z.2.1, 16, .inl I),
  .inl (z.2.1, 16, .inl I),
  .inl (z.2.1, 16, .inl I),
  .inl (z.2.1, 320, .inl I),
  .inl (z.2.1, 256, .inl I),
  .inl (z.2.1, 16, .inl I),
  .inl (z.2.1, 21, .inl I),
  .inr (0, [.ref (aC z 28), .ref (aC z 29), .int (I 2), .ref (aC z 30), .ref (aC z 31), .ref (aC z 32), .ref (aC z 33), .int (I 7)]),
  .inl (z.2.1, 8, .inl I),
  .inl (z.2.1, 8, .inl I),
  .inl (z.2.1, 8, .inl I),
  .inl (z.2.1, 8, .inl I),
  .inl (z.2.1, 8, .inl I),
  .inl (z.2.2.1, 8, .inr (.inl J)),
  .inr (2, [.ref (aC z 18), .ref (aC z 27), .ref (aC z 35), .ref (aC z 36), .ref (aC z 37), .ref (aC z 38), .ref (aC z 39), .ref (aC z 40), .ref (aC z 41), .ref (aC z 42), .int (I 10), .ref (aC z 43), .ref (aC z 44), .ref (aC z 45), .int (I 14)]),
  .inl (z.2.1, 40, .inl I),
  .inl (z.2.1, 40, .inl I),
  .inl (z.2.1, 40, .inl I),
  .inl (z.2.1, 40, .inl I),
  .inl (z.2.1, 40, .inl I),
  .inl (z.2.1, 40, .inl I),
  .inl (z.2.1, 40, .inl I),
  .inl (z.2.1, 40, .inl I),
  .inl (z.2.1, 60, .inl I),
  .inl (z.2.1, 60, .inl I),
  .inl (z.2.1, 60, .inl I),
  .inr (3, [.ref (aC z 34), .ref (aC z 27), .ref (aC z 47), .ref (aC z 48), .int (I 4), .int (I 5), .int (I 6)]),
  .inl (z.2.1, 8, .inl I),
  .inl (z.2.1, 8, .inl I),
  .inr (1, [.long (J 0), .long (J 1)]),
  .inl (z.2.2.2.2.1, 4, .inr (.inr (.inr (.inr (fun j => some (aC z (51 + j))))))),
  .inr (5, [.ref (aC z 55), .int (I 1), .int (I 2)]),
  .inr (5, [.ref (aC z 56), .int (I 1), .int (I 2)]),
  .inr (5, [.ref (aC z 57), .int (I 1), .int (I 2)]),
  .inr (5, [.ref (aC z 58), .int (I 1), .int (I 2)]),
  .inl (z.2.1, 64, .inl I),
  .inl (z.2.1, 64, .inl I),
  .inl (z.2.1, 64, .inl I),
  .inl (z.2.1, 64, .inl I)] : List va_E).getD q (.inr (0, []))
abbrev wxC (z : ZT) : WX := (z.1, [(z.2.1, .int), (z.2.2.1, .long), (z.2.2.2.1, .byte), (z.2.2.2.2.1, .object "FamilyNames$Sheet")], aC z, shC z, 59, z.2.2.2.2.2.2.1, z.2.2.2.2.2.2.2.1, z.2.2.2.2.2.2.2.2.1, z.2.2.2.2.2.2.2.2.2)
def shM (z : ZT) : Shp := fun q I J R => ([
  .inr (10, [.int (I 0), .ref (aC z 1), .ref (aC z 2), .ref (aC z 3), .ref (aC z 4), .int (I 5), .int (I 6), .int (I 7), .int (I 8), .int (I 9), .int (I 10), .int (I 11), .int (I 12), .ref (aC z 5), .ref (aC z 6), .ref (aC z 7), .int (I 16), .ref (aC z 8), .ref (aC z 9), .int (I 19), .ref (aC z 10), .ref (aC z 11), .ref (aC z 12), .int (I 23), .ref (aC z 13), .int (I 25), .ref (aC z 14), .ref (aC z 15), .int (I 28), .ref (aC z 16), .ref (aC z 17), .ref (aC z 18), .int (I 32), .ref (aC z 19), .ref (aC z 20), .ref (aC z 21), .ref (aC z 22), .ref (aC z 23), .ref (aC z 24), .ref (aC z 25), .ref (aC z 26), .int (I 41), .ref (aC z 27), .ref (aC z 28), .int (I 44), .ref (aC z 29), .ref (aC z 30), .ref (aC z 31), .ref (aC z 32), .int (I 49), .ref (aC z 33), .ref (aC z 34), .ref (aC z 35), .ref (aC z 36), .ref (aC z 37), .ref (aC z 38), .ref (aC z 39), .ref (aC z 40), .int (I 58), .ref (aC z 41), .ref (aC z 42), .ref (aC z 43), .int (I 62), .ref (aC z 44), .ref (aC z 45), .ref (aC z 46), .ref (aC z 47), .int (I 67)]),
  .inl (z.2.1, 16, .inl I),
  .inl (z.2.1, 160, .inl I),
  .inl (z.2.1, 10, .inl I),
  .inl (z.2.1, 200, .inl I),
  .inl (z.2.1, 9, .inl I),
  .inl (z.2.1, 33, .inl I),
  .inl (z.2.1, 8, .inl I),
  .inl (z.2.1, 36, .inl I),
  .inl (z.2.1, 24, .inl I),
  .inl (z.2.1, 40, .inl I),
  .inl (z.2.1, 40, .inl I),
  .inl (z.2.1, 40, .inl I),
  .inl (z.2.1, 8, .inl I),
  .inl (z.2.1, 36, .inl I),
  .inl (z.2.1, 24, .inl I),
  .inl (z.2.1, 40, .inl I),
  .inl (z.2.1, 40, .inl I),
  .inl (z.2.1, 40, .inl I),
  .inl (z.2.1, 16, .inl I),
  .inl (z.2.1, 320, .inl I),
  .inl (z.2.1, 256, .inl I),
  .inl (z.2.1, 16, .inl I),
  .inl (z.2.1, 441, .inl I),
  .inl (z.2.1, 16, .inl I),
  .inl (z.2.1, 16, .inl I),
  .inl (z.2.1, 16, .inl I),
  .inl (z.2.1, 8, .inl I),
  .inl (z.2.1, 8, .inl I),
  .inl (z.2.1, 8, .inl I),
  .inl (z.2.1, 8, .inl I),
  .inl (z.2.1, 8, .inl I),
  .inl (z.2.2.1, 8, .inr (.inl J)),
  .inl (z.2.1, 40, .inl I),
  .inl (z.2.1, 40, .inl I),
  .inl (z.2.1, 40, .inl I),
  .inl (z.2.1, 40, .inl I),
  .inl (z.2.1, 40, .inl I),
  .inl (z.2.1, 40, .inl I),
  .inl (z.2.1, 40, .inl I),
  .inl (z.2.1, 40, .inl I),
  .inl (z.2.1, 60, .inl I),
  .inl (z.2.1, 60, .inl I),
  .inl (z.2.1, 60, .inl I),
  .inl (z.2.1, 8, .inl I),
  .inl (z.2.1, 4, .inl I),
  .inl (z.2.1, 4, .inl I),
  .inl (z.2.1, 256, .inl I)] : List va_E).getD q (.inr (0, []))
abbrev wxM (z : ZT) : WX := (z.1, [(z.2.1, .int), (z.2.2.1, .long), (z.2.2.2.1, .byte), (z.2.2.2.2.1, .object "FamilyNames$Sheet")], aC z, shM z, 48, z.2.2.2.2.2.2.1, z.2.2.2.2.2.2.2.1, z.2.2.2.2.2.2.2.2.1, z.2.2.2.2.2.2.2.2.2)
theorem gX0 : ∀ c ∈ u_ws RX0 TX0 8, c ∈ gtb := fun c h => gtb_of (inX0 c h) (List.all_eq_true.mp (show (u_ws RX0 TX0 8).all goodWord = true by decide +kernel) c h)
theorem gX2 : ∀ c ∈ u_ws RX2 TX2 2, c ∈ gtb := fun c h => gtb_of (inX2 c h) (List.all_eq_true.mp (show (u_ws RX2 TX2 2).all goodWord = true by decide +kernel) c h)
theorem gX3 : ∀ c ∈ u_ws RX3 TX3 15, c ∈ gtb := fun c h => gtb_of (inX3 c h) (List.all_eq_true.mp (show (u_ws RX3 TX3 15).all goodWord = true by decide +kernel) c h)
theorem gX4 : ∀ c ∈ u_ws RX4 TX4 7, c ∈ gtb := fun c h => gtb_of (inX4 c h) (List.all_eq_true.mp (show (u_ws RX4 TX4 7).all goodWord = true by decide +kernel) c h)
theorem gX5 : ∀ c ∈ u_ws RX5 TX5 8, c ∈ gtb := fun c h => gtb_of (inX5 c h) (List.all_eq_true.mp (show (u_ws RX5 TX5 8).all goodWord = true by decide +kernel) c h)
theorem gX6 : ∀ c ∈ u_ws RX6 TX6 3, c ∈ gtb := fun c h => gtb_of (inX6 c h) (List.all_eq_true.mp (show (u_ws RX6 TX6 3).all goodWord = true by decide +kernel) c h)
theorem gX7 : ∀ c ∈ u_ws RX7 TX7 2, c ∈ gtb := fun c h => gtb_of (inX7 c h) (List.all_eq_true.mp (show (u_ws RX7 TX7 2).all goodWord = true by decide +kernel) c h)
theorem gX8 : ∀ c ∈ u_ws RX8 TX8 10, c ∈ gtb := fun c h => gtb_of (inX8 c h) (List.all_eq_true.mp (show (u_ws RX8 TX8 10).all goodWord = true by decide +kernel) c h)
theorem gX9 : ∀ c ∈ u_ws RX9 TX9 10, c ∈ gtb := fun c h => gtb_of (inX9 c h) (List.all_eq_true.mp (show (u_ws RX9 TX9 10).all goodWord = true by decide +kernel) c h)
theorem gX10 : ∀ c ∈ u_ws RX10 TX10 13, c ∈ gtb := fun c h => gtb_of (inX10 c h) (List.all_eq_true.mp (show (u_ws RX10 TX10 13).all goodWord = true by decide +kernel) c h)
theorem gX11 : ∀ c ∈ u_ws RX11 TX11 68, c ∈ gtb := fun c h => gtb_of (inX11 c h) (List.all_eq_true.mp (show (u_ws RX11 TX11 68).all goodWord = true by decide +kernel) c h)
section Known
variable {x : MX} {w : WX} {own : String} {cc : ByteArray} {nL : Nat} {ret : Option FieldType} {fr lo : Nat} {ρ : Type} {inj : ρ → Option Value × St} {k kt kf : Option ρ} {pc : Nat} {lv lv1 : List (Nat × Value)} {st : List Value} {σ : St}
def inb (i : Int32) (n j : Nat) : Bool := decide (0 ≤ i ∧ i.toNatClampNeg < n) && decide (i.toNatClampNeg = j)
theorem inb_chk {i : Int32} {n j : Nat} (h : inb i n j = true) : chk i n k = k ∧ i.toNatClampNeg = j := by
  simp only [inb, Bool.and_eq_true, decide_eq_true_eq] at h
  exact ⟨by unfold chk; rw [if_pos h.1], h.2⟩
theorem S_unchk {i : Int32} {n j : Nat} (h : inb i n j = true) (hs : Sim x w nL inj (chk i n k) pc lv st σ) : Sim x w nL inj k pc lv st σ := by
  rw [(inb_chk (k := k) h).1] at hs; exact hs
/-- a chain of cases, by number -/
def swk {ρ : Type} (v : Int32) : Nat → List (Option ρ) → Option ρ → Option ρ
  | _, [], d => d
  | i, a :: l, d => if v = nI i then a else swk v (i + 1) l d
def Sims (x : MX) (w : WX) (nL : Nat) {ρ : Type} (inj : ρ → Option Value × St) (lv : List (Nat × Value)) (st : List Value) (σ : St) : List (Option ρ) → List Nat → Prop
  | [], [] => True
  | k :: ks, t :: ts => Sim x w nL inj k t lv st σ ∧ Sims x w nL inj lv st σ ks ts
  | _, _ => False
theorem Sims_nil : Sims x w nL inj lv st σ ([] : List (Option ρ)) [] := trivial
theorem Sims_cons {ks : List (Option ρ)} {t : Nat} {ts : List Nat} (h : Sim x w nL inj k t lv st σ) (hs : Sims x w nL inj lv st σ ks ts) : Sims x w nL inj lv st σ (k :: ks) (t :: ts) := ⟨h, hs⟩
theorem swk_some {v : Int32} {d : Option ρ} {r : ρ} : ∀ (ks : List (Option ρ)) (ts : List Nat) (i : Nat), Sims x w nL inj lv st σ ks ts → i + ks.length < 2 ^ 31 → swk v i ks d = some r → (∃ j t kj, j < ks.length ∧ ts[j]? = some t ∧ v = nI (i + j) ∧ kj = some r ∧ Sim x w nL inj kj t lv st σ) ∨ ((∀ j, j < ks.length → v ≠ nI (i + j)) ∧ d = some r)
  | [], [], i, _, _, h => Or.inr ⟨fun _ hj => absurd hj (Nat.not_lt_zero _), h⟩
  | [], _ :: _, _, h, _, _ => h.elim
  | _ :: _, [], _, h, _, _ => h.elim
  | a :: ks, t :: ts, i, hs, hb, h => by
    unfold swk at h
    split at h
    · rename_i hv
      exact Or.inl ⟨0, t, a, by simp, rfl, by simpa using hv, h, hs.1⟩
    · rename_i hv
      rcases swk_some ks ts (i + 1) hs.2 (by simp at hb ⊢; omega) h with ⟨j, t', kj, h1, h2, h3, h4, h5⟩ | ⟨h1, h2⟩
      · exact Or.inl ⟨j + 1, t', kj, by simpa using h1, by simpa using h2, by rw [h3]; congr 1; omega, h4, h5⟩
      · refine Or.inr ⟨fun j hj => ?_, h2⟩
        cases j with
        | zero => simpa using hv
        | succ j => have := h1 j (by simpa using hj); rwa [show i + (j + 1) = i + 1 + j by omega]
theorem S_tsw (C : Cok x w own cc nL ret fr lo) {v : Int32} {dflt hi : Int} {offs : Array Int} {len : Nat} (ks : List (Option ρ)) (ts : List Nat) (td : Nat) (hd : decode cc pc = .ok (.tableswitch dflt 0 hi offs, len)) (hhi : hi + 1 = (ks.length : Int)) (hlen : ks.length < 2 ^ 30) (hto0 : ts.map (fun (t : Nat) => ((t : Int) - (pc : Int))) = offs.toList) (htd : (pc : Int) + dflt = (td : Int)) (hks : Sims x w nL inj lv st σ ks ts) (hdf : Sim x w nL inj k td lv st σ) : Sim x w nL inj (swk v 0 ks k) pc lv (.int v :: st) σ := by
  have hto : ∀ (j t : Nat), ts[j]? = some t → ∃ off, offs[j]? = some off ∧ (pc : Int) + off = (t : Int) := fun j t hj => by
    refine ⟨(t : Int) - (pc : Int), ?_, by omega⟩
    rw [← Array.getElem?_toList, ← hto0, List.getElem?_map, hj]; rfl
  intro H locs ls r hkk hP hS hls
  rcases swk_some ks ts 0 hks (by omega) hkk with ⟨j, t, kj, h1, h2, h3, h4, h5⟩ | ⟨h1, h2⟩
  · obtain ⟨off, ho, ht⟩ := hto j t h2
    have e : v.toInt = (j : Int) := by rw [h3, Nat.zero_add]; exact nI_toInt (by omega)
    exact lv_tableIn C.1 C.2.1 hd (by rw [e]; omega) (by rw [e]; omega) (by rw [e]; simpa using ho) ht (h5 H locs ls r h4 hP hS hls)
  · refine lv_tableOut C.1 C.2.1 hd ?_ htd (hdf H locs ls r h2 hP hS hls)
    by_cases hneg : v.toInt < 0
    · exact Or.inl hneg
    · refine Or.inr ?_
      obtain ⟨j, hj, rfl⟩ := nI_of (x := v) (fun hlt => hneg (by simpa using Int32.lt_iff_toInt_lt.mp hlt))
      rw [nI_toInt hj]
      have : ¬ j < ks.length := fun hl => h1 j hl (by rw [Nat.zero_add])
      omega
end Known
theorem gtb_1 {c : Cond} (i : Nat) (h : tables_1_1[i]? = some c) (hg : goodWord c = true) : c ∈ gtb := gtb_of (List.mem_append_right _ ((fun (h : c ∈ tables_1_1) => (show c ∈ tables_1_1 ++ (tables_1_2 ++ (tables_1_3 ++ (tables_1_4 ++ (tables_1_5 ++ (tables_1_6 ++ tables_1_7))))) from List.mem_append_left _ h)) (List.mem_of_getElem? h))) hg
theorem gtb_2 {c : Cond} (i : Nat) (h : tables_1_2[i]? = some c) (hg : goodWord c = true) : c ∈ gtb := gtb_of (List.mem_append_right _ ((fun (h : c ∈ tables_1_2) => (show c ∈ tables_1_1 ++ (tables_1_2 ++ (tables_1_3 ++ (tables_1_4 ++ (tables_1_5 ++ (tables_1_6 ++ tables_1_7))))) from List.mem_append_right _ (List.mem_append_left _ h))) (List.mem_of_getElem? h))) hg
theorem gtb_3 {c : Cond} (i : Nat) (h : tables_1_3[i]? = some c) (hg : goodWord c = true) : c ∈ gtb := gtb_of (List.mem_append_right _ ((fun (h : c ∈ tables_1_3) => (show c ∈ tables_1_1 ++ (tables_1_2 ++ (tables_1_3 ++ (tables_1_4 ++ (tables_1_5 ++ (tables_1_6 ++ tables_1_7))))) from List.mem_append_right _ (List.mem_append_right _ (List.mem_append_left _ h)))) (List.mem_of_getElem? h))) hg
theorem gtb_4 {c : Cond} (i : Nat) (h : tables_1_4[i]? = some c) (hg : goodWord c = true) : c ∈ gtb := gtb_of (List.mem_append_right _ ((fun (h : c ∈ tables_1_4) => (show c ∈ tables_1_1 ++ (tables_1_2 ++ (tables_1_3 ++ (tables_1_4 ++ (tables_1_5 ++ (tables_1_6 ++ tables_1_7))))) from List.mem_append_right _ (List.mem_append_right _ (List.mem_append_right _ (List.mem_append_left _ h))))) (List.mem_of_getElem? h))) hg
theorem gtb_5 {c : Cond} (i : Nat) (h : tables_1_5[i]? = some c) (hg : goodWord c = true) : c ∈ gtb := gtb_of (List.mem_append_right _ ((fun (h : c ∈ tables_1_5) => (show c ∈ tables_1_1 ++ (tables_1_2 ++ (tables_1_3 ++ (tables_1_4 ++ (tables_1_5 ++ (tables_1_6 ++ tables_1_7))))) from List.mem_append_right _ (List.mem_append_right _ (List.mem_append_right _ (List.mem_append_right _ (List.mem_append_left _ h)))))) (List.mem_of_getElem? h))) hg
theorem gtb_6 {c : Cond} (i : Nat) (h : tables_1_6[i]? = some c) (hg : goodWord c = true) : c ∈ gtb := gtb_of (List.mem_append_right _ ((fun (h : c ∈ tables_1_6) => (show c ∈ tables_1_1 ++ (tables_1_2 ++ (tables_1_3 ++ (tables_1_4 ++ (tables_1_5 ++ (tables_1_6 ++ tables_1_7))))) from List.mem_append_right _ (List.mem_append_right _ (List.mem_append_right _ (List.mem_append_right _ (List.mem_append_right _ (List.mem_append_left _ h))))))) (List.mem_of_getElem? h))) hg
theorem gtb_7 {c : Cond} (i : Nat) (h : tables_1_7[i]? = some c) (hg : goodWord c = true) : c ∈ gtb := gtb_of (List.mem_append_right _ ((fun (h : c ∈ tables_1_7) => (show c ∈ tables_1_1 ++ (tables_1_2 ++ (tables_1_3 ++ (tables_1_4 ++ (tables_1_5 ++ (tables_1_6 ++ tables_1_7))))) from List.mem_append_right _ (List.mem_append_right _ (List.mem_append_right _ (List.mem_append_right _ (List.mem_append_right _ (List.mem_append_right _ (h)))))))) (List.mem_of_getElem? h))) hg
/-! the tables' words, by their places -/
set_option maxRecDepth 20000 in
theorem fl_X7_9 : Cond.fieldLink RX7 9 (TX7 0).1 (TX7 0).2.1 (TX7 0).2.2.1 ∈ gtb := gtb_1 36 (by rfl) rfl
set_option maxRecDepth 20000 in
theorem fl_X7_13 : Cond.fieldLink RX7 13 (TX7 1).1 (TX7 1).2.1 (TX7 1).2.2.1 ∈ gtb := gtb_1 37 (by rfl) rfl
set_option maxRecDepth 20000 in
theorem fl_X10_106 : Cond.fieldLink RX10 106 (TX7 1).1 (TX7 1).2.1 (TX7 1).2.2.1 ∈ gtb := gtb_1 38 (by rfl) rfl
set_option maxRecDepth 20000 in
theorem fl_X8_140 : Cond.fieldLink RX8 140 (TX7 1).1 (TX7 1).2.1 (TX7 1).2.2.1 ∈ gtb := gtb_1 39 (by rfl) rfl
set_option maxRecDepth 20000 in
theorem fl_X8_7 : Cond.fieldLink RX8 7 (TX8 0).1 (TX8 0).2.1 (TX8 0).2.2.1 ∈ gtb := gtb_1 52 (by rfl) rfl
set_option maxRecDepth 20000 in
theorem fl_X8_13 : Cond.fieldLink RX8 13 (TX8 1).1 (TX8 1).2.1 (TX8 1).2.2.1 ∈ gtb := gtb_1 53 (by rfl) rfl
set_option maxRecDepth 20000 in
theorem fl_X8_22 : Cond.fieldLink RX8 22 (TX8 2).1 (TX8 2).2.1 (TX8 2).2.2.1 ∈ gtb := gtb_1 54 (by rfl) rfl
set_option maxRecDepth 20000 in
theorem fl_X8_26 : Cond.fieldLink RX8 26 (TX8 3).1 (TX8 3).2.1 (TX8 3).2.2.1 ∈ gtb := gtb_1 55 (by rfl) rfl
set_option maxRecDepth 20000 in
theorem fl_X8_40 : Cond.fieldLink RX8 40 (TX8 4).1 (TX8 4).2.1 (TX8 4).2.2.1 ∈ gtb := gtb_1 56 (by rfl) rfl
set_option maxRecDepth 20000 in
theorem fl_X8_124 : Cond.fieldLink RX8 124 (TX8 5).1 (TX8 5).2.1 (TX8 5).2.2.1 ∈ gtb := gtb_1 57 (by rfl) rfl
set_option maxRecDepth 20000 in
theorem fl_X8_97 : Cond.fieldLink RX8 97 (TX8 6).1 (TX8 6).2.1 (TX8 6).2.2.1 ∈ gtb := gtb_1 58 (by rfl) rfl
set_option maxRecDepth 20000 in
theorem fl_X8_91 : Cond.fieldLink RX8 91 (TX8 7).1 (TX8 7).2.1 (TX8 7).2.2.1 ∈ gtb := gtb_1 59 (by rfl) rfl
set_option maxRecDepth 20000 in
theorem fl_X8_29 : Cond.fieldLink RX8 29 (TX8 8).1 (TX8 8).2.1 (TX8 8).2.2.1 ∈ gtb := gtb_1 60 (by rfl) rfl
set_option maxRecDepth 20000 in
theorem fl_X10_114 : Cond.fieldLink RX10 114 (TX8 8).1 (TX8 8).2.1 (TX8 8).2.2.1 ∈ gtb := gtb_1 61 (by rfl) rfl
set_option maxRecDepth 20000 in
theorem fl_X8_32 : Cond.fieldLink RX8 32 (TX8 9).1 (TX8 9).2.1 (TX8 9).2.2.1 ∈ gtb := gtb_1 62 (by rfl) rfl
set_option maxRecDepth 20000 in
theorem fl_X10_120 : Cond.fieldLink RX10 120 (TX8 9).1 (TX8 9).2.1 (TX8 9).2.2.1 ∈ gtb := gtb_1 63 (by rfl) rfl
set_option maxRecDepth 20000 in
theorem fl_X5_11 : Cond.fieldLink RX5 11 (TX5 0).1 (TX5 0).2.1 (TX5 0).2.2.1 ∈ gtb := gtb_1 103 (by rfl) rfl
set_option maxRecDepth 20000 in
theorem fl_X2_22 : Cond.fieldLink RX2 22 (TX5 0).1 (TX5 0).2.1 (TX5 0).2.2.1 ∈ gtb := gtb_1 104 (by rfl) rfl
set_option maxRecDepth 20000 in
theorem fl_X8_120 : Cond.fieldLink RX8 120 (TX5 0).1 (TX5 0).2.1 (TX5 0).2.2.1 ∈ gtb := gtb_1 105 (by rfl) rfl
set_option maxRecDepth 20000 in
theorem fl_X9_65 : Cond.fieldLink RX9 65 (TX5 0).1 (TX5 0).2.1 (TX5 0).2.2.1 ∈ gtb := gtb_1 106 (by rfl) rfl
set_option maxRecDepth 20000 in
theorem fl_X10_126 : Cond.fieldLink RX10 126 (TX5 0).1 (TX5 0).2.1 (TX5 0).2.2.1 ∈ gtb := gtb_1 107 (by rfl) rfl
set_option maxRecDepth 20000 in
theorem fl_X5_15 : Cond.fieldLink RX5 15 (TX5 1).1 (TX5 1).2.1 (TX5 1).2.2.1 ∈ gtb := gtb_1 108 (by rfl) rfl
set_option maxRecDepth 20000 in
theorem fl_X5_18 : Cond.fieldLink RX5 18 (TX5 2).1 (TX5 2).2.1 (TX5 2).2.2.1 ∈ gtb := gtb_1 109 (by rfl) rfl
set_option maxRecDepth 20000 in
theorem fl_X9_86 : Cond.fieldLink RX9 86 (TX5 2).1 (TX5 2).2.1 (TX5 2).2.2.1 ∈ gtb := gtb_1 110 (by rfl) rfl
set_option maxRecDepth 20000 in
theorem fl_X5_21 : Cond.fieldLink RX5 21 (TX5 3).1 (TX5 3).2.1 (TX5 3).2.2.1 ∈ gtb := gtb_1 111 (by rfl) rfl
set_option maxRecDepth 20000 in
theorem fl_X9_80 : Cond.fieldLink RX9 80 (TX5 3).1 (TX5 3).2.1 (TX5 3).2.2.1 ∈ gtb := gtb_1 112 (by rfl) rfl
set_option maxRecDepth 20000 in
theorem fl_X5_24 : Cond.fieldLink RX5 24 (TX5 4).1 (TX5 4).2.1 (TX5 4).2.2.1 ∈ gtb := gtb_1 113 (by rfl) rfl
set_option maxRecDepth 20000 in
theorem fl_X9_83 : Cond.fieldLink RX9 83 (TX5 4).1 (TX5 4).2.1 (TX5 4).2.2.1 ∈ gtb := gtb_1 114 (by rfl) rfl
set_option maxRecDepth 20000 in
theorem fl_X5_27 : Cond.fieldLink RX5 27 (TX5 5).1 (TX5 5).2.1 (TX5 5).2.2.1 ∈ gtb := gtb_1 115 (by rfl) rfl
set_option maxRecDepth 20000 in
theorem fl_X5_48 : Cond.fieldLink RX5 48 (TX5 6).1 (TX5 6).2.1 (TX5 6).2.2.1 ∈ gtb := gtb_1 116 (by rfl) rfl
set_option maxRecDepth 20000 in
theorem fl_X8_85 : Cond.fieldLink RX8 85 (TX5 6).1 (TX5 6).2.1 (TX5 6).2.2.1 ∈ gtb := gtb_1 117 (by rfl) rfl
set_option maxRecDepth 20000 in
theorem fl_X10_130 : Cond.fieldLink RX10 130 (TX5 6).1 (TX5 6).2.1 (TX5 6).2.2.1 ∈ gtb := gtb_1 118 (by rfl) rfl
set_option maxRecDepth 20000 in
theorem fl_X5_52 : Cond.fieldLink RX5 52 (TX5 7).1 (TX5 7).2.1 (TX5 7).2.2.1 ∈ gtb := gtb_1 119 (by rfl) rfl
set_option maxRecDepth 20000 in
theorem fl_X10_133 : Cond.fieldLink RX10 133 (TX5 7).1 (TX5 7).2.1 (TX5 7).2.2.1 ∈ gtb := gtb_1 120 (by rfl) rfl
set_option maxRecDepth 20000 in
theorem fl_X9_15 : Cond.fieldLink RX9 15 (TX9 0).1 (TX9 0).2.1 (TX9 0).2.2.1 ∈ gtb := gtb_1 145 (by rfl) rfl
set_option maxRecDepth 20000 in
theorem fl_X10_98 : Cond.fieldLink RX10 98 (TX9 0).1 (TX9 0).2.1 (TX9 0).2.2.1 ∈ gtb := gtb_1 146 (by rfl) rfl
set_option maxRecDepth 20000 in
theorem fl_X9_47 : Cond.fieldLink RX9 47 (TX9 1).1 (TX9 1).2.1 (TX9 1).2.2.1 ∈ gtb := gtb_1 147 (by rfl) rfl
set_option maxRecDepth 20000 in
theorem fl_X10_171 : Cond.fieldLink RX10 171 (TX9 1).1 (TX9 1).2.1 (TX9 1).2.2.1 ∈ gtb := gtb_1 148 (by rfl) rfl
set_option maxRecDepth 20000 in
theorem fl_X9_29 : Cond.fieldLink RX9 29 (TX9 2).1 (TX9 2).2.1 (TX9 2).2.2.1 ∈ gtb := gtb_1 149 (by rfl) rfl
set_option maxRecDepth 20000 in
theorem fl_X10_168 : Cond.fieldLink RX10 168 (TX9 2).1 (TX9 2).2.1 (TX9 2).2.2.1 ∈ gtb := gtb_1 150 (by rfl) rfl
set_option maxRecDepth 20000 in
theorem fl_X9_32 : Cond.fieldLink RX9 32 (TX9 3).1 (TX9 3).2.1 (TX9 3).2.2.1 ∈ gtb := gtb_1 151 (by rfl) rfl
set_option maxRecDepth 20000 in
theorem fl_X3_60 : Cond.fieldLink RX3 60 (TX9 3).1 (TX9 3).2.1 (TX9 3).2.2.1 ∈ gtb := gtb_1 152 (by rfl) rfl
set_option maxRecDepth 20000 in
theorem fl_X10_147 : Cond.fieldLink RX10 147 (TX9 3).1 (TX9 3).2.1 (TX9 3).2.2.1 ∈ gtb := gtb_1 153 (by rfl) rfl
set_option maxRecDepth 20000 in
theorem fl_X9_23 : Cond.fieldLink RX9 23 (TX9 4).1 (TX9 4).2.1 (TX9 4).2.2.1 ∈ gtb := gtb_1 154 (by rfl) rfl
set_option maxRecDepth 20000 in
theorem fl_X10_140 : Cond.fieldLink RX10 140 (TX9 4).1 (TX9 4).2.1 (TX9 4).2.2.1 ∈ gtb := gtb_1 155 (by rfl) rfl
set_option maxRecDepth 20000 in
theorem fl_X9_11 : Cond.fieldLink RX9 11 (TX9 5).1 (TX9 5).2.1 (TX9 5).2.2.1 ∈ gtb := gtb_1 156 (by rfl) rfl
set_option maxRecDepth 20000 in
theorem fl_X9_19 : Cond.fieldLink RX9 19 (TX9 6).1 (TX9 6).2.1 (TX9 6).2.2.1 ∈ gtb := gtb_1 157 (by rfl) rfl
set_option maxRecDepth 20000 in
theorem fl_X9_26 : Cond.fieldLink RX9 26 (TX9 7).1 (TX9 7).2.1 (TX9 7).2.2.1 ∈ gtb := gtb_1 158 (by rfl) rfl
set_option maxRecDepth 20000 in
theorem fl_X9_35 : Cond.fieldLink RX9 35 (TX9 8).1 (TX9 8).2.1 (TX9 8).2.2.1 ∈ gtb := gtb_1 159 (by rfl) rfl
set_option maxRecDepth 20000 in
theorem fl_X9_38 : Cond.fieldLink RX9 38 (TX9 9).1 (TX9 9).2.1 (TX9 9).2.2.1 ∈ gtb := gtb_1 160 (by rfl) rfl
set_option maxRecDepth 20000 in
theorem fl_X0_11 : Cond.fieldLink RX0 11 (TX0 0).1 (TX0 0).2.1 (TX0 0).2.2.1 ∈ gtb := gtb_1 189 (by rfl) rfl
set_option maxRecDepth 20000 in
theorem fl_X0_15 : Cond.fieldLink RX0 15 (TX0 1).1 (TX0 1).2.1 (TX0 1).2.2.1 ∈ gtb := gtb_1 190 (by rfl) rfl
set_option maxRecDepth 20000 in
theorem fl_X4_32 : Cond.fieldLink RX4 32 (TX0 2).1 (TX0 2).2.1 (TX0 2).2.2.1 ∈ gtb := gtb_1 191 (by rfl) rfl
set_option maxRecDepth 20000 in
theorem fl_X0_31 : Cond.fieldLink RX0 31 (TX0 2).1 (TX0 2).2.1 (TX0 2).2.2.1 ∈ gtb := gtb_1 192 (by rfl) rfl
set_option maxRecDepth 20000 in
theorem fl_X10_309 : Cond.fieldLink RX10 309 (TX0 2).1 (TX0 2).2.1 (TX0 2).2.2.1 ∈ gtb := gtb_1 193 (by rfl) rfl
set_option maxRecDepth 20000 in
theorem fl_X0_18 : Cond.fieldLink RX0 18 (TX0 3).1 (TX0 3).2.1 (TX0 3).2.2.1 ∈ gtb := gtb_1 194 (by rfl) rfl
set_option maxRecDepth 20000 in
theorem fl_X3_74 : Cond.fieldLink RX3 74 (TX0 3).1 (TX0 3).2.1 (TX0 3).2.2.1 ∈ gtb := gtb_1 195 (by rfl) rfl
set_option maxRecDepth 20000 in
theorem fl_X10_212 : Cond.fieldLink RX10 212 (TX0 3).1 (TX0 3).2.1 (TX0 3).2.2.1 ∈ gtb := gtb_1 196 (by rfl) rfl
set_option maxRecDepth 20000 in
theorem fl_X0_21 : Cond.fieldLink RX0 21 (TX0 4).1 (TX0 4).2.1 (TX0 4).2.2.1 ∈ gtb := gtb_1 197 (by rfl) rfl
set_option maxRecDepth 20000 in
theorem fl_X10_215 : Cond.fieldLink RX10 215 (TX0 4).1 (TX0 4).2.1 (TX0 4).2.2.1 ∈ gtb := gtb_1 198 (by rfl) rfl
set_option maxRecDepth 20000 in
theorem fl_X0_24 : Cond.fieldLink RX0 24 (TX0 5).1 (TX0 5).2.1 (TX0 5).2.2.1 ∈ gtb := gtb_1 199 (by rfl) rfl
set_option maxRecDepth 20000 in
theorem fl_X10_218 : Cond.fieldLink RX10 218 (TX0 5).1 (TX0 5).2.1 (TX0 5).2.2.1 ∈ gtb := gtb_1 200 (by rfl) rfl
set_option maxRecDepth 20000 in
theorem fl_X0_27 : Cond.fieldLink RX0 27 (TX0 6).1 (TX0 6).2.1 (TX0 6).2.2.1 ∈ gtb := gtb_1 201 (by rfl) rfl
set_option maxRecDepth 20000 in
theorem fl_X10_221 : Cond.fieldLink RX10 221 (TX0 6).1 (TX0 6).2.1 (TX0 6).2.2.1 ∈ gtb := gtb_1 202 (by rfl) rfl
set_option maxRecDepth 20000 in
theorem fl_X0_35 : Cond.fieldLink RX0 35 (TX0 7).1 (TX0 7).2.1 (TX0 7).2.2.1 ∈ gtb := gtb_1 203 (by rfl) rfl
set_option maxRecDepth 20000 in
theorem fl_X10_387 : Cond.fieldLink RX10 387 (TX0 7).1 (TX0 7).2.1 (TX0 7).2.2.1 ∈ gtb := gtb_1 204 (by rfl) rfl
set_option maxRecDepth 20000 in
theorem fl_X3_9 : Cond.fieldLink RX3 9 (TX3 0).1 (TX3 0).2.1 (TX3 0).2.2.1 ∈ gtb := gtb_1 228 (by rfl) rfl
set_option maxRecDepth 20000 in
theorem fl_X3_15 : Cond.fieldLink RX3 15 (TX3 1).1 (TX3 1).2.1 (TX3 1).2.2.1 ∈ gtb := gtb_1 229 (by rfl) rfl
set_option maxRecDepth 20000 in
theorem fl_X3_19 : Cond.fieldLink RX3 19 (TX3 2).1 (TX3 2).2.1 (TX3 2).2.2.1 ∈ gtb := gtb_1 230 (by rfl) rfl
set_option maxRecDepth 20000 in
theorem fl_X10_250 : Cond.fieldLink RX10 250 (TX3 2).1 (TX3 2).2.1 (TX3 2).2.2.1 ∈ gtb := gtb_1 231 (by rfl) rfl
set_option maxRecDepth 20000 in
theorem fl_X3_23 : Cond.fieldLink RX3 23 (TX3 3).1 (TX3 3).2.1 (TX3 3).2.2.1 ∈ gtb := gtb_1 232 (by rfl) rfl
set_option maxRecDepth 20000 in
theorem fl_X10_253 : Cond.fieldLink RX10 253 (TX3 3).1 (TX3 3).2.1 (TX3 3).2.2.1 ∈ gtb := gtb_1 233 (by rfl) rfl
set_option maxRecDepth 20000 in
theorem fl_X3_26 : Cond.fieldLink RX3 26 (TX3 4).1 (TX3 4).2.1 (TX3 4).2.2.1 ∈ gtb := gtb_1 234 (by rfl) rfl
set_option maxRecDepth 20000 in
theorem fl_X10_256 : Cond.fieldLink RX10 256 (TX3 4).1 (TX3 4).2.1 (TX3 4).2.2.1 ∈ gtb := gtb_1 235 (by rfl) rfl
set_option maxRecDepth 20000 in
theorem fl_X3_29 : Cond.fieldLink RX3 29 (TX3 5).1 (TX3 5).2.1 (TX3 5).2.2.1 ∈ gtb := gtb_1 236 (by rfl) rfl
set_option maxRecDepth 20000 in
theorem fl_X10_268 : Cond.fieldLink RX10 268 (TX3 5).1 (TX3 5).2.1 (TX3 5).2.2.1 ∈ gtb := gtb_1 237 (by rfl) rfl
set_option maxRecDepth 20000 in
theorem fl_X3_32 : Cond.fieldLink RX3 32 (TX3 6).1 (TX3 6).2.1 (TX3 6).2.2.1 ∈ gtb := gtb_1 238 (by rfl) rfl
set_option maxRecDepth 20000 in
theorem fl_X10_244 : Cond.fieldLink RX10 244 (TX3 6).1 (TX3 6).2.1 (TX3 6).2.2.1 ∈ gtb := gtb_1 239 (by rfl) rfl
set_option maxRecDepth 20000 in
theorem fl_X3_35 : Cond.fieldLink RX3 35 (TX3 7).1 (TX3 7).2.1 (TX3 7).2.2.1 ∈ gtb := gtb_2 0 (by rfl) rfl
set_option maxRecDepth 20000 in
theorem fl_X10_265 : Cond.fieldLink RX10 265 (TX3 7).1 (TX3 7).2.1 (TX3 7).2.2.1 ∈ gtb := gtb_2 1 (by rfl) rfl
set_option maxRecDepth 20000 in
theorem fl_X3_38 : Cond.fieldLink RX3 38 (TX3 8).1 (TX3 8).2.1 (TX3 8).2.2.1 ∈ gtb := gtb_2 2 (by rfl) rfl
set_option maxRecDepth 20000 in
theorem fl_X10_262 : Cond.fieldLink RX10 262 (TX3 8).1 (TX3 8).2.1 (TX3 8).2.2.1 ∈ gtb := gtb_2 3 (by rfl) rfl
set_option maxRecDepth 20000 in
theorem fl_X3_41 : Cond.fieldLink RX3 41 (TX3 9).1 (TX3 9).2.1 (TX3 9).2.2.1 ∈ gtb := gtb_2 4 (by rfl) rfl
set_option maxRecDepth 20000 in
theorem fl_X3_53 : Cond.fieldLink RX3 53 (TX3 10).1 (TX3 10).2.1 (TX3 10).2.2.1 ∈ gtb := gtb_2 5 (by rfl) rfl
set_option maxRecDepth 20000 in
theorem fl_X10_373 : Cond.fieldLink RX10 373 (TX3 10).1 (TX3 10).2.1 (TX3 10).2.2.1 ∈ gtb := gtb_2 6 (by rfl) rfl
set_option maxRecDepth 20000 in
theorem fl_X3_44 : Cond.fieldLink RX3 44 (TX3 11).1 (TX3 11).2.1 (TX3 11).2.2.1 ∈ gtb := gtb_2 7 (by rfl) rfl
set_option maxRecDepth 20000 in
theorem fl_X3_47 : Cond.fieldLink RX3 47 (TX3 12).1 (TX3 12).2.1 (TX3 12).2.2.1 ∈ gtb := gtb_2 8 (by rfl) rfl
set_option maxRecDepth 20000 in
theorem fl_X3_50 : Cond.fieldLink RX3 50 (TX3 13).1 (TX3 13).2.1 (TX3 13).2.2.1 ∈ gtb := gtb_2 9 (by rfl) rfl
set_option maxRecDepth 20000 in
theorem fl_X3_57 : Cond.fieldLink RX3 57 (TX3 14).1 (TX3 14).2.1 (TX3 14).2.2.1 ∈ gtb := gtb_2 10 (by rfl) rfl
set_option maxRecDepth 20000 in
theorem fl_X10_388 : Cond.fieldLink RX10 388 (TX3 14).1 (TX3 14).2.1 (TX3 14).2.2.1 ∈ gtb := gtb_2 11 (by rfl) rfl
set_option maxRecDepth 20000 in
theorem fl_X4_9 : Cond.fieldLink RX4 9 (TX4 0).1 (TX4 0).2.1 (TX4 0).2.2.1 ∈ gtb := gtb_2 49 (by rfl) rfl
set_option maxRecDepth 20000 in
theorem fl_X4_15 : Cond.fieldLink RX4 15 (TX4 1).1 (TX4 1).2.1 (TX4 1).2.2.1 ∈ gtb := gtb_2 50 (by rfl) rfl
set_option maxRecDepth 20000 in
theorem fl_X4_21 : Cond.fieldLink RX4 21 (TX4 2).1 (TX4 2).2.1 (TX4 2).2.2.1 ∈ gtb := gtb_2 51 (by rfl) rfl
set_option maxRecDepth 20000 in
theorem fl_X4_25 : Cond.fieldLink RX4 25 (TX4 3).1 (TX4 3).2.1 (TX4 3).2.2.1 ∈ gtb := gtb_2 52 (by rfl) rfl
set_option maxRecDepth 20000 in
theorem fl_X4_28 : Cond.fieldLink RX4 28 (TX4 4).1 (TX4 4).2.1 (TX4 4).2.2.1 ∈ gtb := gtb_2 53 (by rfl) rfl
set_option maxRecDepth 20000 in
theorem fl_X10_295 : Cond.fieldLink RX10 295 (TX4 4).1 (TX4 4).2.1 (TX4 4).2.2.1 ∈ gtb := gtb_2 54 (by rfl) rfl
set_option maxRecDepth 20000 in
theorem fl_X4_54 : Cond.fieldLink RX4 54 (TX4 5).1 (TX4 5).2.1 (TX4 5).2.2.1 ∈ gtb := gtb_2 55 (by rfl) rfl
set_option maxRecDepth 20000 in
theorem fl_X10_307 : Cond.fieldLink RX10 307 (TX4 5).1 (TX4 5).2.1 (TX4 5).2.2.1 ∈ gtb := gtb_2 56 (by rfl) rfl
set_option maxRecDepth 20000 in
theorem fl_X4_57 : Cond.fieldLink RX4 57 (TX4 6).1 (TX4 6).2.1 (TX4 6).2.2.1 ∈ gtb := gtb_2 57 (by rfl) rfl
set_option maxRecDepth 20000 in
theorem fl_X10_304 : Cond.fieldLink RX10 304 (TX4 6).1 (TX4 6).2.1 (TX4 6).2.2.1 ∈ gtb := gtb_2 58 (by rfl) rfl
set_option maxRecDepth 20000 in
theorem fl_X2_7 : Cond.fieldLink RX2 7 (TX2 0).1 (TX2 0).2.1 (TX2 0).2.2.1 ∈ gtb := gtb_2 80 (by rfl) rfl
set_option maxRecDepth 20000 in
theorem fl_X10_322 : Cond.fieldLink RX10 322 (TX2 0).1 (TX2 0).2.1 (TX2 0).2.2.1 ∈ gtb := gtb_2 81 (by rfl) rfl
set_option maxRecDepth 20000 in
theorem fl_X2_13 : Cond.fieldLink RX2 13 (TX2 1).1 (TX2 1).2.1 (TX2 1).2.2.1 ∈ gtb := gtb_2 82 (by rfl) rfl
set_option maxRecDepth 20000 in
theorem fl_X10_326 : Cond.fieldLink RX10 326 (TX2 1).1 (TX2 1).2.1 (TX2 1).2.2.1 ∈ gtb := gtb_2 83 (by rfl) rfl
set_option maxRecDepth 20000 in
theorem fl_X6_11 : Cond.fieldLink RX6 11 (TX6 0).1 (TX6 0).2.1 (TX6 0).2.2.1 ∈ gtb := gtb_2 96 (by rfl) rfl
set_option maxRecDepth 20000 in
theorem fl_X6_25 : Cond.fieldLink RX6 25 (TX6 1).1 (TX6 1).2.1 (TX6 1).2.2.1 ∈ gtb := gtb_2 97 (by rfl) rfl
set_option maxRecDepth 20000 in
theorem fl_X10_354 : Cond.fieldLink RX10 354 (TX6 1).1 (TX6 1).2.1 (TX6 1).2.2.1 ∈ gtb := gtb_2 98 (by rfl) rfl
set_option maxRecDepth 20000 in
theorem fl_X6_15 : Cond.fieldLink RX6 15 (TX6 2).1 (TX6 2).2.1 (TX6 2).2.2.1 ∈ gtb := gtb_2 99 (by rfl) rfl
set_option maxRecDepth 20000 in
theorem fl_X10_392 : Cond.fieldLink RX10 392 (TX6 2).1 (TX6 2).2.1 (TX6 2).2.2.1 ∈ gtb := gtb_2 100 (by rfl) rfl
set_option maxRecDepth 20000 in
theorem fl_X10_10 : Cond.fieldLink RX10 10 (TX10 0).1 (TX10 0).2.1 (TX10 0).2.2.1 ∈ gtb := gtb_2 108 (by rfl) rfl
set_option maxRecDepth 20000 in
theorem fl_X10_21 : Cond.fieldLink RX10 21 (TX10 1).1 (TX10 1).2.1 (TX10 1).2.2.1 ∈ gtb := gtb_2 109 (by rfl) rfl
set_option maxRecDepth 20000 in
theorem fl_X10_40 : Cond.fieldLink RX10 40 (TX10 2).1 (TX10 2).2.1 (TX10 2).2.2.1 ∈ gtb := gtb_2 110 (by rfl) rfl
set_option maxRecDepth 20000 in
theorem fl_X10_47 : Cond.fieldLink RX10 47 (TX10 3).1 (TX10 3).2.1 (TX10 3).2.2.1 ∈ gtb := gtb_2 111 (by rfl) rfl
set_option maxRecDepth 20000 in
theorem fl_X10_56 : Cond.fieldLink RX10 56 (TX10 4).1 (TX10 4).2.1 (TX10 4).2.2.1 ∈ gtb := gtb_2 112 (by rfl) rfl
set_option maxRecDepth 20000 in
theorem fl_X10_65 : Cond.fieldLink RX10 65 (TX10 5).1 (TX10 5).2.1 (TX10 5).2.2.1 ∈ gtb := gtb_2 113 (by rfl) rfl
set_option maxRecDepth 20000 in
theorem fl_X10_72 : Cond.fieldLink RX10 72 (TX10 6).1 (TX10 6).2.1 (TX10 6).2.2.1 ∈ gtb := gtb_2 114 (by rfl) rfl
set_option maxRecDepth 20000 in
theorem fl_X10_78 : Cond.fieldLink RX10 78 (TX10 7).1 (TX10 7).2.1 (TX10 7).2.2.1 ∈ gtb := gtb_2 115 (by rfl) rfl
set_option maxRecDepth 20000 in
theorem fl_X10_28 : Cond.fieldLink RX10 28 (TX10 8).1 (TX10 8).2.1 (TX10 8).2.2.1 ∈ gtb := gtb_2 116 (by rfl) rfl
set_option maxRecDepth 20000 in
theorem fl_X10_32 : Cond.fieldLink RX10 32 (TX10 9).1 (TX10 9).2.1 (TX10 9).2.2.1 ∈ gtb := gtb_2 117 (by rfl) rfl
set_option maxRecDepth 20000 in
theorem fl_X10_117 : Cond.fieldLink RX10 117 (TX10 10).1 (TX10 10).2.1 (TX10 10).2.2.1 ∈ gtb := gtb_2 118 (by rfl) rfl
set_option maxRecDepth 20000 in
theorem fl_X10_381 : Cond.fieldLink RX10 381 (TX10 11).1 (TX10 11).2.1 (TX10 11).2.2.1 ∈ gtb := gtb_2 119 (by rfl) rfl
set_option maxRecDepth 20000 in
theorem fl_X10_237 : Cond.fieldLink RX10 237 (TX10 12).1 (TX10 12).2.1 (TX10 12).2.2.1 ∈ gtb := gtb_2 120 (by rfl) rfl
set_option maxRecDepth 20000 in
theorem fl_X11_152 : Cond.fieldLink RX11 152 (TX11 0).1 (TX11 0).2.1 (TX11 0).2.2.1 ∈ gtb := gtb_5 84 (by rfl) rfl
set_option maxRecDepth 20000 in
theorem fl_X11_7 : Cond.fieldLink RX11 7 (TX11 1).1 (TX11 1).2.1 (TX11 1).2.2.1 ∈ gtb := gtb_5 85 (by rfl) rfl
set_option maxRecDepth 20000 in
theorem fl_X11_13 : Cond.fieldLink RX11 13 (TX11 2).1 (TX11 2).2.1 (TX11 2).2.2.1 ∈ gtb := gtb_5 86 (by rfl) rfl
set_option maxRecDepth 20000 in
theorem fl_X11_16 : Cond.fieldLink RX11 16 (TX11 3).1 (TX11 3).2.1 (TX11 3).2.2.1 ∈ gtb := gtb_5 87 (by rfl) rfl
set_option maxRecDepth 20000 in
theorem fl_X11_19 : Cond.fieldLink RX11 19 (TX11 4).1 (TX11 4).2.1 (TX11 4).2.2.1 ∈ gtb := gtb_5 88 (by rfl) rfl
set_option maxRecDepth 20000 in
theorem fl_X11_172 : Cond.fieldLink RX11 172 (TX11 5).1 (TX11 5).2.1 (TX11 5).2.2.1 ∈ gtb := gtb_5 89 (by rfl) rfl
set_option maxRecDepth 20000 in
theorem fl_X11_250 : Cond.fieldLink RX11 250 (TX11 6).1 (TX11 6).2.1 (TX11 6).2.2.1 ∈ gtb := gtb_5 90 (by rfl) rfl
set_option maxRecDepth 20000 in
theorem fl_X11_175 : Cond.fieldLink RX11 175 (TX11 7).1 (TX11 7).2.1 (TX11 7).2.2.1 ∈ gtb := gtb_5 91 (by rfl) rfl
set_option maxRecDepth 20000 in
theorem fl_X11_181 : Cond.fieldLink RX11 181 (TX11 8).1 (TX11 8).2.1 (TX11 8).2.2.1 ∈ gtb := gtb_5 92 (by rfl) rfl
set_option maxRecDepth 20000 in
theorem fl_X11_184 : Cond.fieldLink RX11 184 (TX11 9).1 (TX11 9).2.1 (TX11 9).2.2.1 ∈ gtb := gtb_5 93 (by rfl) rfl
set_option maxRecDepth 20000 in
theorem fl_X11_178 : Cond.fieldLink RX11 178 (TX11 10).1 (TX11 10).2.1 (TX11 10).2.2.1 ∈ gtb := gtb_5 94 (by rfl) rfl
set_option maxRecDepth 20000 in
theorem fl_X11_194 : Cond.fieldLink RX11 194 (TX11 11).1 (TX11 11).2.1 (TX11 11).2.2.1 ∈ gtb := gtb_5 95 (by rfl) rfl
set_option maxRecDepth 20000 in
theorem fl_X11_191 : Cond.fieldLink RX11 191 (TX11 12).1 (TX11 12).2.1 (TX11 12).2.2.1 ∈ gtb := gtb_5 96 (by rfl) rfl
set_option maxRecDepth 20000 in
theorem fl_X11_22 : Cond.fieldLink RX11 22 (TX11 13).1 (TX11 13).2.1 (TX11 13).2.2.1 ∈ gtb := gtb_5 97 (by rfl) rfl
set_option maxRecDepth 20000 in
theorem fl_X11_25 : Cond.fieldLink RX11 25 (TX11 14).1 (TX11 14).2.1 (TX11 14).2.2.1 ∈ gtb := gtb_5 98 (by rfl) rfl
set_option maxRecDepth 20000 in
theorem fl_X11_28 : Cond.fieldLink RX11 28 (TX11 15).1 (TX11 15).2.1 (TX11 15).2.2.1 ∈ gtb := gtb_5 99 (by rfl) rfl
set_option maxRecDepth 20000 in
theorem fl_X11_253 : Cond.fieldLink RX11 253 (TX11 16).1 (TX11 16).2.1 (TX11 16).2.2.1 ∈ gtb := gtb_5 100 (by rfl) rfl
set_option maxRecDepth 20000 in
theorem fl_X11_31 : Cond.fieldLink RX11 31 (TX11 17).1 (TX11 17).2.1 (TX11 17).2.2.1 ∈ gtb := gtb_5 101 (by rfl) rfl
set_option maxRecDepth 20000 in
theorem fl_X11_34 : Cond.fieldLink RX11 34 (TX11 18).1 (TX11 18).2.1 (TX11 18).2.2.1 ∈ gtb := gtb_5 102 (by rfl) rfl
set_option maxRecDepth 20000 in
theorem fl_X11_256 : Cond.fieldLink RX11 256 (TX11 19).1 (TX11 19).2.1 (TX11 19).2.2.1 ∈ gtb := gtb_5 103 (by rfl) rfl
set_option maxRecDepth 20000 in
theorem fl_X11_37 : Cond.fieldLink RX11 37 (TX11 20).1 (TX11 20).2.1 (TX11 20).2.2.1 ∈ gtb := gtb_5 104 (by rfl) rfl
set_option maxRecDepth 20000 in
theorem fl_X11_40 : Cond.fieldLink RX11 40 (TX11 21).1 (TX11 21).2.1 (TX11 21).2.2.1 ∈ gtb := gtb_5 105 (by rfl) rfl
set_option maxRecDepth 20000 in
theorem fl_X11_43 : Cond.fieldLink RX11 43 (TX11 22).1 (TX11 22).2.1 (TX11 22).2.2.1 ∈ gtb := gtb_5 106 (by rfl) rfl
set_option maxRecDepth 20000 in
theorem fl_X11_245 : Cond.fieldLink RX11 245 (TX11 23).1 (TX11 23).2.1 (TX11 23).2.2.1 ∈ gtb := gtb_5 107 (by rfl) rfl
set_option maxRecDepth 20000 in
theorem fl_X11_46 : Cond.fieldLink RX11 46 (TX11 24).1 (TX11 24).2.1 (TX11 24).2.2.1 ∈ gtb := gtb_5 108 (by rfl) rfl
set_option maxRecDepth 20000 in
theorem fl_X11_209 : Cond.fieldLink RX11 209 (TX11 25).1 (TX11 25).2.1 (TX11 25).2.2.1 ∈ gtb := gtb_5 109 (by rfl) rfl
set_option maxRecDepth 20000 in
theorem fl_X11_49 : Cond.fieldLink RX11 49 (TX11 26).1 (TX11 26).2.1 (TX11 26).2.2.1 ∈ gtb := gtb_5 110 (by rfl) rfl
set_option maxRecDepth 20000 in
theorem fl_X11_52 : Cond.fieldLink RX11 52 (TX11 27).1 (TX11 27).2.1 (TX11 27).2.2.1 ∈ gtb := gtb_5 111 (by rfl) rfl
set_option maxRecDepth 20000 in
theorem fl_X11_221 : Cond.fieldLink RX11 221 (TX11 28).1 (TX11 28).2.1 (TX11 28).2.2.1 ∈ gtb := gtb_5 112 (by rfl) rfl
set_option maxRecDepth 20000 in
theorem fl_X11_55 : Cond.fieldLink RX11 55 (TX11 29).1 (TX11 29).2.1 (TX11 29).2.2.1 ∈ gtb := gtb_5 113 (by rfl) rfl
set_option maxRecDepth 20000 in
theorem fl_X11_58 : Cond.fieldLink RX11 58 (TX11 30).1 (TX11 30).2.1 (TX11 30).2.2.1 ∈ gtb := gtb_5 114 (by rfl) rfl
set_option maxRecDepth 20000 in
theorem fl_X11_61 : Cond.fieldLink RX11 61 (TX11 31).1 (TX11 31).2.1 (TX11 31).2.2.1 ∈ gtb := gtb_5 115 (by rfl) rfl
set_option maxRecDepth 20000 in
theorem fl_X11_232 : Cond.fieldLink RX11 232 (TX11 32).1 (TX11 32).2.1 (TX11 32).2.2.1 ∈ gtb := gtb_5 116 (by rfl) rfl
set_option maxRecDepth 20000 in
theorem fl_X11_64 : Cond.fieldLink RX11 64 (TX11 33).1 (TX11 33).2.1 (TX11 33).2.2.1 ∈ gtb := gtb_5 117 (by rfl) rfl
set_option maxRecDepth 20000 in
theorem fl_X11_67 : Cond.fieldLink RX11 67 (TX11 34).1 (TX11 34).2.1 (TX11 34).2.2.1 ∈ gtb := gtb_5 118 (by rfl) rfl
set_option maxRecDepth 20000 in
theorem fl_X11_70 : Cond.fieldLink RX11 70 (TX11 35).1 (TX11 35).2.1 (TX11 35).2.2.1 ∈ gtb := gtb_5 119 (by rfl) rfl
set_option maxRecDepth 20000 in
theorem fl_X11_73 : Cond.fieldLink RX11 73 (TX11 36).1 (TX11 36).2.1 (TX11 36).2.2.1 ∈ gtb := gtb_5 120 (by rfl) rfl
set_option maxRecDepth 20000 in
theorem fl_X11_76 : Cond.fieldLink RX11 76 (TX11 37).1 (TX11 37).2.1 (TX11 37).2.2.1 ∈ gtb := gtb_5 121 (by rfl) rfl
set_option maxRecDepth 20000 in
theorem fl_X11_79 : Cond.fieldLink RX11 79 (TX11 38).1 (TX11 38).2.1 (TX11 38).2.2.1 ∈ gtb := gtb_5 122 (by rfl) rfl
set_option maxRecDepth 20000 in
theorem fl_X11_82 : Cond.fieldLink RX11 82 (TX11 39).1 (TX11 39).2.1 (TX11 39).2.2.1 ∈ gtb := gtb_5 123 (by rfl) rfl
set_option maxRecDepth 20000 in
theorem fl_X11_85 : Cond.fieldLink RX11 85 (TX11 40).1 (TX11 40).2.1 (TX11 40).2.2.1 ∈ gtb := gtb_5 124 (by rfl) rfl
set_option maxRecDepth 20000 in
theorem fl_X11_302 : Cond.fieldLink RX11 302 (TX11 41).1 (TX11 41).2.1 (TX11 41).2.2.1 ∈ gtb := gtb_5 125 (by rfl) rfl
set_option maxRecDepth 20000 in
theorem fl_X11_88 : Cond.fieldLink RX11 88 (TX11 42).1 (TX11 42).2.1 (TX11 42).2.2.1 ∈ gtb := gtb_5 126 (by rfl) rfl
set_option maxRecDepth 20000 in
theorem fl_X11_91 : Cond.fieldLink RX11 91 (TX11 43).1 (TX11 43).2.1 (TX11 43).2.2.1 ∈ gtb := gtb_5 127 (by rfl) rfl
set_option maxRecDepth 20000 in
theorem fl_X11_305 : Cond.fieldLink RX11 305 (TX11 44).1 (TX11 44).2.1 (TX11 44).2.2.1 ∈ gtb := gtb_5 128 (by rfl) rfl
set_option maxRecDepth 20000 in
theorem fl_X11_94 : Cond.fieldLink RX11 94 (TX11 45).1 (TX11 45).2.1 (TX11 45).2.2.1 ∈ gtb := gtb_5 129 (by rfl) rfl
set_option maxRecDepth 20000 in
theorem fl_X11_97 : Cond.fieldLink RX11 97 (TX11 46).1 (TX11 46).2.1 (TX11 46).2.2.1 ∈ gtb := gtb_5 130 (by rfl) rfl
set_option maxRecDepth 20000 in
theorem fl_X11_100 : Cond.fieldLink RX11 100 (TX11 47).1 (TX11 47).2.1 (TX11 47).2.2.1 ∈ gtb := gtb_5 131 (by rfl) rfl
set_option maxRecDepth 20000 in
theorem fl_X11_103 : Cond.fieldLink RX11 103 (TX11 48).1 (TX11 48).2.1 (TX11 48).2.2.1 ∈ gtb := gtb_5 132 (by rfl) rfl
set_option maxRecDepth 20000 in
theorem fl_X11_308 : Cond.fieldLink RX11 308 (TX11 49).1 (TX11 49).2.1 (TX11 49).2.2.1 ∈ gtb := gtb_5 133 (by rfl) rfl
set_option maxRecDepth 20000 in
theorem fl_X11_107 : Cond.fieldLink RX11 107 (TX11 50).1 (TX11 50).2.1 (TX11 50).2.2.1 ∈ gtb := gtb_5 134 (by rfl) rfl
set_option maxRecDepth 20000 in
theorem fl_X11_110 : Cond.fieldLink RX11 110 (TX11 51).1 (TX11 51).2.1 (TX11 51).2.2.1 ∈ gtb := gtb_5 135 (by rfl) rfl
set_option maxRecDepth 20000 in
theorem fl_X11_113 : Cond.fieldLink RX11 113 (TX11 52).1 (TX11 52).2.1 (TX11 52).2.2.1 ∈ gtb := gtb_5 136 (by rfl) rfl
set_option maxRecDepth 20000 in
theorem fl_X11_116 : Cond.fieldLink RX11 116 (TX11 53).1 (TX11 53).2.1 (TX11 53).2.2.1 ∈ gtb := gtb_5 137 (by rfl) rfl
set_option maxRecDepth 20000 in
theorem fl_X11_119 : Cond.fieldLink RX11 119 (TX11 54).1 (TX11 54).2.1 (TX11 54).2.2.1 ∈ gtb := gtb_5 138 (by rfl) rfl
set_option maxRecDepth 20000 in
theorem fl_X11_122 : Cond.fieldLink RX11 122 (TX11 55).1 (TX11 55).2.1 (TX11 55).2.2.1 ∈ gtb := gtb_5 139 (by rfl) rfl
set_option maxRecDepth 20000 in
theorem fl_X11_125 : Cond.fieldLink RX11 125 (TX11 56).1 (TX11 56).2.1 (TX11 56).2.2.1 ∈ gtb := gtb_5 140 (by rfl) rfl
set_option maxRecDepth 20000 in
theorem fl_X11_128 : Cond.fieldLink RX11 128 (TX11 57).1 (TX11 57).2.1 (TX11 57).2.2.1 ∈ gtb := gtb_5 141 (by rfl) rfl
set_option maxRecDepth 20000 in
theorem fl_X11_346 : Cond.fieldLink RX11 346 (TX11 58).1 (TX11 58).2.1 (TX11 58).2.2.1 ∈ gtb := gtb_5 142 (by rfl) rfl
set_option maxRecDepth 20000 in
theorem fl_X11_131 : Cond.fieldLink RX11 131 (TX11 59).1 (TX11 59).2.1 (TX11 59).2.2.1 ∈ gtb := gtb_5 143 (by rfl) rfl
set_option maxRecDepth 20000 in
theorem fl_X11_134 : Cond.fieldLink RX11 134 (TX11 60).1 (TX11 60).2.1 (TX11 60).2.2.1 ∈ gtb := gtb_5 144 (by rfl) rfl
set_option maxRecDepth 20000 in
theorem fl_X11_137 : Cond.fieldLink RX11 137 (TX11 61).1 (TX11 61).2.1 (TX11 61).2.2.1 ∈ gtb := gtb_5 145 (by rfl) rfl
set_option maxRecDepth 20000 in
theorem fl_X11_332 : Cond.fieldLink RX11 332 (TX11 62).1 (TX11 62).2.1 (TX11 62).2.2.1 ∈ gtb := gtb_5 146 (by rfl) rfl
set_option maxRecDepth 20000 in
theorem fl_X11_140 : Cond.fieldLink RX11 140 (TX11 63).1 (TX11 63).2.1 (TX11 63).2.2.1 ∈ gtb := gtb_5 147 (by rfl) rfl
set_option maxRecDepth 20000 in
theorem fl_X11_143 : Cond.fieldLink RX11 143 (TX11 64).1 (TX11 64).2.1 (TX11 64).2.2.1 ∈ gtb := gtb_5 148 (by rfl) rfl
set_option maxRecDepth 20000 in
theorem fl_X11_146 : Cond.fieldLink RX11 146 (TX11 65).1 (TX11 65).2.1 (TX11 65).2.2.1 ∈ gtb := gtb_5 149 (by rfl) rfl
set_option maxRecDepth 20000 in
theorem fl_X11_149 : Cond.fieldLink RX11 149 (TX11 66).1 (TX11 66).2.1 (TX11 66).2.2.1 ∈ gtb := gtb_5 150 (by rfl) rfl
set_option maxRecDepth 20000 in
theorem fl_X11_380 : Cond.fieldLink RX11 380 (TX11 67).1 (TX11 67).2.1 (TX11 67).2.2.1 ∈ gtb := gtb_5 151 (by rfl) rfl
set_option maxRecDepth 20000 in
theorem ml_L_9 : Cond.methodLink RL 9 yX10_init ∈ gtb := gtb_1 24 (by rfl) rfl
set_option maxRecDepth 20000 in
theorem ml_X10_9 : Cond.methodLink RX10 9 yX7_init ∈ gtb := gtb_1 32 (by rfl) rfl
set_option maxRecDepth 20000 in
theorem ml_X10_18 : Cond.methodLink RX10 18 yX8_init ∈ gtb := gtb_1 48 (by rfl) rfl
set_option maxRecDepth 20000 in
theorem ml_X10_27 : Cond.methodLink RX10 27 yX5_init ∈ gtb := gtb_1 87 (by rfl) rfl
set_option maxRecDepth 20000 in
theorem ml_X5_30 : Cond.methodLink RX5 30 yX5_forget ∈ gtb := gtb_1 91 (by rfl) rfl
set_option maxRecDepth 20000 in
theorem ml_X5_42 : Cond.methodLink RX5 42 yJ7_fill_53178 ∈ gtb := gtb_1 100 (by rfl) rfl
set_option maxRecDepth 20000 in
theorem ml_X10_37 : Cond.methodLink RX10 37 yX9_init ∈ gtb := gtb_1 141 (by rfl) rfl
set_option maxRecDepth 20000 in
theorem ml_X10_46 : Cond.methodLink RX10 46 yX0_init ∈ gtb := gtb_1 185 (by rfl) rfl
set_option maxRecDepth 20000 in
theorem ml_X10_53 : Cond.methodLink RX10 53 yX3_init ∈ gtb := gtb_1 224 (by rfl) rfl
set_option maxRecDepth 20000 in
theorem ml_X10_62 : Cond.methodLink RX10 62 yX4_init ∈ gtb := gtb_2 45 (by rfl) rfl
set_option maxRecDepth 20000 in
theorem ml_X10_82 : Cond.methodLink RX10 82 yX6_init ∈ gtb := gtb_2 92 (by rfl) rfl
set_option maxRecDepth 20000 in
theorem ml_L_15 : Cond.methodLink RL 15 yX10_spelling ∈ gtb := gtb_2 148 (by rfl) rfl
set_option maxRecDepth 20000 in
theorem ml_X10_83 : Cond.methodLink RX10 83 yX9_isWord ∈ gtb := gtb_2 152 (by rfl) rfl
set_option maxRecDepth 20000 in
theorem ml_X10_87 : Cond.methodLink RX10 87 yX9_holds ∈ gtb := gtb_2 158 (by rfl) rfl
set_option maxRecDepth 20000 in
theorem ml_X10_90 : Cond.methodLink RX10 90 yX9_append ∈ gtb := gtb_2 162 (by rfl) rfl
set_option maxRecDepth 20000 in
theorem ml_X9_51 : Cond.methodLink RX9 51 yX9_settle ∈ gtb := gtb_2 166 (by rfl) rfl
set_option maxRecDepth 20000 in
theorem ml_X9_58 : Cond.methodLink RX9 58 yX9_hear ∈ gtb := gtb_2 170 (by rfl) rfl
set_option maxRecDepth 20000 in
theorem ml_X9_72 : Cond.methodLink RX9 72 yX5_changeAt ∈ gtb := gtb_2 174 (by rfl) rfl
set_option maxRecDepth 20000 in
theorem ml_X5_59 : Cond.methodLink RX5 59 yX5_standsAt ∈ gtb := gtb_2 178 (by rfl) rfl
set_option maxRecDepth 20000 in
theorem ml_X9_76 : Cond.methodLink RX9 76 yX9_appendSounds ∈ gtb := gtb_2 182 (by rfl) rfl
set_option maxRecDepth 20000 in
theorem ml_X9_61 : Cond.methodLink RX9 61 yX9_measure ∈ gtb := gtb_2 186 (by rfl) rfl
set_option maxRecDepth 20000 in
theorem ml_X9_89 : Cond.methodLink RX9 89 yX5_swapCost ∈ gtb := gtb_2 190 (by rfl) rfl
set_option maxRecDepth 20000 in
theorem ml_X5_55 : Cond.methodLink RX5 55 yX5_isLike ∈ gtb := gtb_2 194 (by rfl) rfl
set_option maxRecDepth 20000 in
theorem ml_X9_92 : Cond.methodLink RX9 92 yJ9_min_7cf53 ∈ gtb := gtb_2 198 (by rfl) rfl
set_option maxRecDepth 20000 in
theorem ml_X9_55 : Cond.methodLink RX9 55 yX9_nameAll ∈ gtb := gtb_2 201 (by rfl) rfl
set_option maxRecDepth 20000 in
theorem ml_X9_97 : Cond.methodLink RX9 97 yX9_reachedFrom ∈ gtb := gtb_2 205 (by rfl) rfl
set_option maxRecDepth 20000 in
theorem ml_X9_101 : Cond.methodLink RX9 101 yX9_nameMembers ∈ gtb := gtb_2 209 (by rfl) rfl
set_option maxRecDepth 20000 in
theorem ml_L_20 : Cond.methodLink RL 20 yX10_letters ∈ gtb := gtb_2 213 (by rfl) rfl
set_option maxRecDepth 20000 in
theorem ml_X10_94 : Cond.methodLink RX10 94 yX9_has ∈ gtb := gtb_2 217 (by rfl) rfl
set_option maxRecDepth 20000 in
theorem ml_L_25 : Cond.methodLink RL 25 yX10_feed ∈ gtb := gtb_2 222 (by rfl) rfl
set_option maxRecDepth 20000 in
theorem ml_X10_104 : Cond.methodLink RX10 104 yX7_append ∈ gtb := gtb_2 226 (by rfl) rfl
set_option maxRecDepth 20000 in
theorem ml_L_29 : Cond.methodLink RL 29 yX10_end ∈ gtb := gtb_2 230 (by rfl) rfl
set_option maxRecDepth 20000 in
theorem ml_L_34 : Cond.methodLink RL 34 yX10_rules ∈ gtb := gtb_2 234 (by rfl) rfl
set_option maxRecDepth 20000 in
theorem ml_X10_110 : Cond.methodLink RX10 110 yX8_readInto ∈ gtb := gtb_2 238 (by rfl) rfl
set_option maxRecDepth 20000 in
theorem ml_X8_17 : Cond.methodLink RX8 17 yX5_forget ∈ gtb := gtb_3 2 (by rfl) rfl
set_option maxRecDepth 20000 in
theorem ml_X8_37 : Cond.methodLink RX8 37 yX8_readToken ∈ gtb := gtb_3 3 (by rfl) rfl
set_option maxRecDepth 20000 in
theorem ml_X8_132 : Cond.methodLink RX8 132 yX7_byteAt ∈ gtb := gtb_3 7 (by rfl) rfl
set_option maxRecDepth 20000 in
theorem ml_X8_141 : Cond.methodLink RX8 141 yX8_kindOf ∈ gtb := gtb_3 11 (by rfl) rfl
set_option maxRecDepth 20000 in
theorem ml_X8_43 : Cond.methodLink RX8 43 yX8_takeLine ∈ gtb := gtb_3 14 (by rfl) rfl
set_option maxRecDepth 20000 in
theorem ml_X8_47 : Cond.methodLink RX8 47 yX8_refuse ∈ gtb := gtb_3 18 (by rfl) rfl
set_option maxRecDepth 20000 in
theorem ml_X8_53 : Cond.methodLink RX8 53 yX8_isWord ∈ gtb := gtb_3 23 (by rfl) rfl
set_option maxRecDepth 20000 in
theorem ml_X8_127 : Cond.methodLink RX8 127 yJ0_length_8abf5 ∈ gtb := gtb_3 27 (by rfl) rfl
set_option maxRecDepth 20000 in
theorem ml_J0_335 : Cond.methodLink RJ0 335 yJ0_coder_7d493 ∈ gtb := gtb_3 31 (by rfl) rfl
set_option maxRecDepth 20000 in
theorem ml_X8_136 : Cond.methodLink RX8 136 yJ0_charAt_5068e ∈ gtb := gtb_3 37 (by rfl) rfl
set_option maxRecDepth 20000 in
theorem ml_J0_492 : Cond.methodLink RJ0 492 yJ0_isLatin1_aae02 ∈ gtb := gtb_3 41 (by rfl) rfl
set_option maxRecDepth 20000 in
theorem ml_J0_495 : Cond.methodLink RJ0 495 yJ1_charAt_3b067 ∈ gtb := gtb_3 45 (by rfl) rfl
set_option maxRecDepth 20000 in
theorem ml_J1_9 : Cond.methodLink RJ1 9 yJ0_checkIndex_df160 ∈ gtb := gtb_3 48 (by rfl) rfl
set_option maxRecDepth 20000 in
theorem ml_J0_1059 : Cond.methodLink RJ0 1059 yJ3_checkIndex_8e157 ∈ gtb := gtb_3 53 (by rfl) rfl
set_option maxRecDepth 20000 in
theorem ml_J0_498 : Cond.methodLink RJ0 498 yJ2_charAt_3b067 ∈ gtb := gtb_3 56 (by rfl) rfl
set_option maxRecDepth 20000 in
theorem ml_J2_67 : Cond.methodLink RJ2 67 yJ2_checkIndex_2214a ∈ gtb := gtb_3 59 (by rfl) rfl
set_option maxRecDepth 20000 in
theorem ml_J2_48 : Cond.methodLink RJ2 48 yJ2_length_9d52b ∈ gtb := gtb_3 62 (by rfl) rfl
set_option maxRecDepth 20000 in
theorem ml_J2_414 : Cond.methodLink RJ2 414 yJ0_checkIndex_df160 ∈ gtb := gtb_3 65 (by rfl) rfl
set_option maxRecDepth 20000 in
theorem ml_J2_71 : Cond.methodLink RJ2 71 yJ2_getChar_3b067 ∈ gtb := gtb_3 66 (by rfl) rfl
set_option maxRecDepth 20000 in
theorem ml_X8_59 : Cond.methodLink RX8 59 yX8_takeChange ∈ gtb := gtb_3 76 (by rfl) rfl
set_option maxRecDepth 20000 in
theorem ml_X8_88 : Cond.methodLink RX8 88 yX8_takeName ∈ gtb := gtb_3 80 (by rfl) rfl
set_option maxRecDepth 20000 in
theorem ml_X8_100 : Cond.methodLink RX8 100 yX8_takeToken ∈ gtb := gtb_3 84 (by rfl) rfl
set_option maxRecDepth 20000 in
theorem ml_X8_94 : Cond.methodLink RX8 94 yX5_isChanged ∈ gtb := gtb_3 88 (by rfl) rfl
set_option maxRecDepth 20000 in
theorem ml_X8_103 : Cond.methodLink RX8 103 yX5_appendChange ∈ gtb := gtb_3 92 (by rfl) rfl
set_option maxRecDepth 20000 in
theorem ml_X8_65 : Cond.methodLink RX8 65 yX8_takeLike ∈ gtb := gtb_3 97 (by rfl) rfl
set_option maxRecDepth 20000 in
theorem ml_X8_107 : Cond.methodLink RX8 107 yX5_isLike ∈ gtb := gtb_3 101 (by rfl) rfl
set_option maxRecDepth 20000 in
theorem ml_X8_110 : Cond.methodLink RX8 110 yX8_takeBetween ∈ gtb := gtb_3 102 (by rfl) rfl
set_option maxRecDepth 20000 in
theorem ml_X8_113 : Cond.methodLink RX8 113 yX5_appendLike ∈ gtb := gtb_3 106 (by rfl) rfl
set_option maxRecDepth 20000 in
theorem ml_X8_70 : Cond.methodLink RX8 70 yX8_takeNumber ∈ gtb := gtb_3 111 (by rfl) rfl
set_option maxRecDepth 20000 in
theorem ml_X8_117 : Cond.methodLink RX8 117 yX8_tellOnce ∈ gtb := gtb_3 115 (by rfl) rfl
set_option maxRecDepth 20000 in
theorem ml_X8_82 : Cond.methodLink RX8 82 yX8_takeSons ∈ gtb := gtb_3 123 (by rfl) rfl
set_option maxRecDepth 20000 in
theorem ml_X10_123 : Cond.methodLink RX10 123 yX9_follow ∈ gtb := gtb_3 127 (by rfl) rfl
set_option maxRecDepth 20000 in
theorem ml_L_39 : Cond.methodLink RL 39 yX10_fault ∈ gtb := gtb_3 131 (by rfl) rfl
set_option maxRecDepth 20000 in
theorem ml_L_43 : Cond.methodLink RL 43 yX10_rule ∈ gtb := gtb_3 135 (by rfl) rfl
set_option maxRecDepth 20000 in
theorem ml_L_47 : Cond.methodLink RL 47 yX10_sound ∈ gtb := gtb_3 139 (by rfl) rfl
set_option maxRecDepth 20000 in
theorem ml_X10_136 : Cond.methodLink RX10 136 yX9_soundOf ∈ gtb := gtb_3 143 (by rfl) rfl
set_option maxRecDepth 20000 in
theorem ml_L_51 : Cond.methodLink RL 51 yX10_sounds ∈ gtb := gtb_3 148 (by rfl) rfl
set_option maxRecDepth 20000 in
theorem ml_L_55 : Cond.methodLink RL 55 yX10_apart ∈ gtb := gtb_3 152 (by rfl) rfl
set_option maxRecDepth 20000 in
theorem ml_X10_143 : Cond.methodLink RX10 143 yX9_apartOf ∈ gtb := gtb_3 156 (by rfl) rfl
set_option maxRecDepth 20000 in
theorem ml_L_60 : Cond.methodLink RL 60 yX10_name ∈ gtb := gtb_3 160 (by rfl) rfl
set_option maxRecDepth 20000 in
theorem ml_L_64 : Cond.methodLink RL 64 yX10_chain ∈ gtb := gtb_3 164 (by rfl) rfl
set_option maxRecDepth 20000 in
theorem ml_X10_150 : Cond.methodLink RX10 150 yX9_walkTo ∈ gtb := gtb_3 168 (by rfl) rfl
set_option maxRecDepth 20000 in
theorem ml_X9_106 : Cond.methodLink RX9 106 yJ7_fill_53178 ∈ gtb := gtb_3 173 (by rfl) rfl
set_option maxRecDepth 20000 in
theorem ml_X9_112 : Cond.methodLink RX9 112 yX9_cheapestStep ∈ gtb := gtb_3 174 (by rfl) rfl
set_option maxRecDepth 20000 in
theorem ml_X9_115 : Cond.methodLink RX9 115 yX9_costOver ∈ gtb := gtb_3 178 (by rfl) rfl
set_option maxRecDepth 20000 in
theorem ml_X10_154 : Cond.methodLink RX10 154 yX9_chainMember ∈ gtb := gtb_3 182 (by rfl) rfl
set_option maxRecDepth 20000 in
theorem ml_X9_118 : Cond.methodLink RX9 118 yX9_chainLength ∈ gtb := gtb_3 186 (by rfl) rfl
set_option maxRecDepth 20000 in
theorem ml_X9_121 : Cond.methodLink RX9 121 yX9_nextOnChain ∈ gtb := gtb_3 190 (by rfl) rfl
set_option maxRecDepth 20000 in
theorem ml_X10_157 : Cond.methodLink RX10 157 yX9_chainLength ∈ gtb := gtb_3 194 (by rfl) rfl
set_option maxRecDepth 20000 in
theorem ml_X10_161 : Cond.methodLink RX10 161 yX9_chainSum ∈ gtb := gtb_3 195 (by rfl) rfl
set_option maxRecDepth 20000 in
theorem ml_L_69 : Cond.methodLink RL 69 yX10_standing ∈ gtb := gtb_3 199 (by rfl) rfl
set_option maxRecDepth 20000 in
theorem ml_X10_164 : Cond.methodLink RX10 164 yX9_howManyNames ∈ gtb := gtb_3 203 (by rfl) rfl
set_option maxRecDepth 20000 in
theorem ml_X10_174 : Cond.methodLink RX10 174 yX1_fewest ∈ gtb := gtb_3 207 (by rfl) rfl
set_option maxRecDepth 20000 in
theorem ml_X1_7 : Cond.methodLink RX1 7 yX1_suffices ∈ gtb := gtb_3 210 (by rfl) rfl
set_option maxRecDepth 20000 in
theorem ml_X1_13 : Cond.methodLink RX1 13 yJ6_numberOfTrailingZeros_0f7a4 ∈ gtb := gtb_3 213 (by rfl) rfl
set_option maxRecDepth 20000 in
theorem ml_X10_180 : Cond.methodLink RX10 180 yJ6_bitCount_0f7a4 ∈ gtb := gtb_3 217 (by rfl) rfl
set_option maxRecDepth 20000 in
theorem ml_L_73 : Cond.methodLink RL 73 yX10_place ∈ gtb := gtb_3 223 (by rfl) rfl
set_option maxRecDepth 20000 in
theorem ml_X10_185 : Cond.methodLink RX10 185 yX0_appendPlace ∈ gtb := gtb_3 227 (by rfl) rfl
set_option maxRecDepth 20000 in
theorem ml_L_77 : Cond.methodLink RL 77 yX10_book ∈ gtb := gtb_3 231 (by rfl) rfl
set_option maxRecDepth 20000 in
theorem ml_X10_188 : Cond.methodLink RX10 188 yX0_hasPlace ∈ gtb := gtb_3 235 (by rfl) rfl
set_option maxRecDepth 20000 in
theorem ml_X10_191 : Cond.methodLink RX10 191 yX0_areYears ∈ gtb := gtb_3 239 (by rfl) rfl
set_option maxRecDepth 20000 in
theorem ml_X10_195 : Cond.methodLink RX10 195 yX0_append ∈ gtb := gtb_4 2 (by rfl) rfl
set_option maxRecDepth 20000 in
theorem ml_L_81 : Cond.methodLink RL 81 yX10_hole ∈ gtb := gtb_4 6 (by rfl) rfl
set_option maxRecDepth 20000 in
theorem ml_X10_198 : Cond.methodLink RX10 198 yX0_has ∈ gtb := gtb_4 10 (by rfl) rfl
set_option maxRecDepth 20000 in
theorem ml_X10_199 : Cond.methodLink RX10 199 yX0_hasYear ∈ gtb := gtb_4 14 (by rfl) rfl
set_option maxRecDepth 20000 in
theorem ml_X10_202 : Cond.methodLink RX10 202 yX3_areIn ∈ gtb := gtb_4 18 (by rfl) rfl
set_option maxRecDepth 20000 in
theorem ml_X10_205 : Cond.methodLink RX10 205 yX0_isHole ∈ gtb := gtb_4 22 (by rfl) rfl
set_option maxRecDepth 20000 in
theorem ml_X10_208 : Cond.methodLink RX10 208 yX0_setHole ∈ gtb := gtb_4 26 (by rfl) rfl
set_option maxRecDepth 20000 in
theorem ml_L_86 : Cond.methodLink RL 86 yX10_bookOf ∈ gtb := gtb_4 31 (by rfl) rfl
set_option maxRecDepth 20000 in
theorem ml_X10_224 : Cond.methodLink RX10 224 yJ13_bitCount_95d88 ∈ gtb := gtb_4 35 (by rfl) rfl
set_option maxRecDepth 20000 in
theorem ml_X10_228 : Cond.methodLink RX10 228 yX3_howManyIn ∈ gtb := gtb_4 41 (by rfl) rfl
set_option maxRecDepth 20000 in
theorem ml_X10_231 : Cond.methodLink RX10 231 yX0_latestReadable ∈ gtb := gtb_4 45 (by rfl) rfl
set_option maxRecDepth 20000 in
theorem ml_X0_46 : Cond.methodLink RX0 46 yX0_isHole ∈ gtb := gtb_4 49 (by rfl) rfl
set_option maxRecDepth 20000 in
theorem ml_L_90 : Cond.methodLink RL 90 yX10_line ∈ gtb := gtb_4 50 (by rfl) rfl
set_option maxRecDepth 20000 in
theorem ml_X10_234 : Cond.methodLink RX10 234 yX3_isKind ∈ gtb := gtb_4 54 (by rfl) rfl
set_option maxRecDepth 20000 in
theorem ml_X10_240 : Cond.methodLink RX10 240 yX3_append ∈ gtb := gtb_4 57 (by rfl) rfl
set_option maxRecDepth 20000 in
theorem ml_L_95 : Cond.methodLink RL 95 yX10_day ∈ gtb := gtb_4 61 (by rfl) rfl
set_option maxRecDepth 20000 in
theorem ml_L_99 : Cond.methodLink RL 99 yX10_again ∈ gtb := gtb_4 65 (by rfl) rfl
set_option maxRecDepth 20000 in
theorem ml_X10_243 : Cond.methodLink RX10 243 yX3_has ∈ gtb := gtb_4 69 (by rfl) rfl
set_option maxRecDepth 20000 in
theorem ml_X10_247 : Cond.methodLink RX10 247 yX3_reread ∈ gtb := gtb_4 73 (by rfl) rfl
set_option maxRecDepth 20000 in
theorem ml_L_103 : Cond.methodLink RL 103 yX10_lineOf ∈ gtb := gtb_4 77 (by rfl) rfl
set_option maxRecDepth 20000 in
theorem ml_X10_259 : Cond.methodLink RX10 259 yX3_nameOfLine ∈ gtb := gtb_4 81 (by rfl) rfl
set_option maxRecDepth 20000 in
theorem ml_L_107 : Cond.methodLink RL 107 yX10_known ∈ gtb := gtb_4 85 (by rfl) rfl
set_option maxRecDepth 20000 in
theorem ml_X10_271 : Cond.methodLink RX10 271 yX3_knownOn ∈ gtb := gtb_4 89 (by rfl) rfl
set_option maxRecDepth 20000 in
theorem ml_L_111 : Cond.methodLink RL 111 yX10_bearers ∈ gtb := gtb_4 93 (by rfl) rfl
set_option maxRecDepth 20000 in
theorem ml_X10_274 : Cond.methodLink RX10 274 yX0_readableYears ∈ gtb := gtb_4 97 (by rfl) rfl
set_option maxRecDepth 20000 in
theorem ml_X0_50 : Cond.methodLink RX0 50 yX0_readableYearsOf ∈ gtb := gtb_4 101 (by rfl) rfl
set_option maxRecDepth 20000 in
theorem ml_X0_54 : Cond.methodLink RX0 54 yJ9_min_7cf53 ∈ gtb := gtb_4 105 (by rfl) rfl
set_option maxRecDepth 20000 in
theorem ml_X0_58 : Cond.methodLink RX0 58 yJ9_max_7cf53 ∈ gtb := gtb_4 106 (by rfl) rfl
set_option maxRecDepth 20000 in
theorem ml_X10_277 : Cond.methodLink RX10 277 yX3_worth ∈ gtb := gtb_4 109 (by rfl) rfl
set_option maxRecDepth 20000 in
theorem ml_X3_79 : Cond.methodLink RX3 79 yX3_isAt ∈ gtb := gtb_4 113 (by rfl) rfl
set_option maxRecDepth 20000 in
theorem ml_X3_65 : Cond.methodLink RX3 65 yX3_nameOfLine ∈ gtb := gtb_4 117 (by rfl) rfl
set_option maxRecDepth 20000 in
theorem ml_X10_281 : Cond.methodLink RX10 281 yJ9_max_7cf53 ∈ gtb := gtb_4 120 (by rfl) rfl
set_option maxRecDepth 20000 in
theorem ml_X10_286 : Cond.methodLink RX10 286 yX10_divideUp ∈ gtb := gtb_4 121 (by rfl) rfl
set_option maxRecDepth 20000 in
theorem ml_L_116 : Cond.methodLink RL 116 yX10_first ∈ gtb := gtb_4 124 (by rfl) rfl
set_option maxRecDepth 20000 in
theorem ml_X10_289 : Cond.methodLink RX10 289 yX3_firstYear ∈ gtb := gtb_4 128 (by rfl) rfl
set_option maxRecDepth 20000 in
theorem ml_L_120 : Cond.methodLink RL 120 yX10_starts ∈ gtb := gtb_4 132 (by rfl) rfl
set_option maxRecDepth 20000 in
theorem ml_X10_292 : Cond.methodLink RX10 292 yX4_gather ∈ gtb := gtb_4 136 (by rfl) rfl
set_option maxRecDepth 20000 in
theorem ml_X4_35 : Cond.methodLink RX4 35 yX3_firstYear ∈ gtb := gtb_4 140 (by rfl) rfl
set_option maxRecDepth 20000 in
theorem ml_X10_298 : Cond.methodLink RX10 298 yX4_spread ∈ gtb := gtb_4 141 (by rfl) rfl
set_option maxRecDepth 20000 in
theorem ml_X4_41 : Cond.methodLink RX4 41 yX4_isPresent ∈ gtb := gtb_4 145 (by rfl) rfl
set_option maxRecDepth 20000 in
theorem ml_X4_45 : Cond.methodLink RX4 45 yX4_reachOf ∈ gtb := gtb_4 149 (by rfl) rfl
set_option maxRecDepth 20000 in
theorem ml_X4_48 : Cond.methodLink RX4 48 yX0_howFar ∈ gtb := gtb_4 153 (by rfl) rfl
set_option maxRecDepth 20000 in
theorem ml_X0_38 : Cond.methodLink RX0 38 yJ9_abs_0f7a4 ∈ gtb := gtb_4 157 (by rfl) rfl
set_option maxRecDepth 20000 in
theorem ml_X10_301 : Cond.methodLink RX10 301 yX4_search ∈ gtb := gtb_4 161 (by rfl) rfl
set_option maxRecDepth 20000 in
theorem ml_X4_60 : Cond.methodLink RX4 60 yJ6_bitCount_0f7a4 ∈ gtb := gtb_4 165 (by rfl) rfl
set_option maxRecDepth 20000 in
theorem ml_X4_66 : Cond.methodLink RX4 66 yX4_letsAllCome ∈ gtb := gtb_4 166 (by rfl) rfl
set_option maxRecDepth 20000 in
theorem ml_L_124 : Cond.methodLink RL 124 yX10_judge ∈ gtb := gtb_4 170 (by rfl) rfl
set_option maxRecDepth 20000 in
theorem ml_X10_312 : Cond.methodLink RX10 312 yX4_letsAllCome ∈ gtb := gtb_4 174 (by rfl) rfl
set_option maxRecDepth 20000 in
theorem ml_L_128 : Cond.methodLink RL 128 yX10_pace ∈ gtb := gtb_4 175 (by rfl) rfl
set_option maxRecDepth 20000 in
theorem ml_X10_315 : Cond.methodLink RX10 315 yX4_hasSingleStart ∈ gtb := gtb_4 179 (by rfl) rfl
set_option maxRecDepth 20000 in
theorem ml_L_132 : Cond.methodLink RL 132 yX10_dies ∈ gtb := gtb_4 183 (by rfl) rfl
set_option maxRecDepth 20000 in
theorem ml_X10_319 : Cond.methodLink RX10 319 yX2_follow ∈ gtb := gtb_4 187 (by rfl) rfl
set_option maxRecDepth 20000 in
theorem ml_X2_16 : Cond.methodLink RX2 16 yX2_addGeneration ∈ gtb := gtb_4 191 (by rfl) rfl
set_option maxRecDepth 20000 in
theorem ml_X2_26 : Cond.methodLink RX2 26 yX2_power ∈ gtb := gtb_4 195 (by rfl) rfl
set_option maxRecDepth 20000 in
theorem ml_X2_30 : Cond.methodLink RX2 30 yX2_greatestDivisor ∈ gtb := gtb_4 198 (by rfl) rfl
set_option maxRecDepth 20000 in
theorem ml_L_137 : Cond.methodLink RL 137 yX10_father ∈ gtb := gtb_4 201 (by rfl) rfl
set_option maxRecDepth 20000 in
theorem ml_X10_329 : Cond.methodLink RX10 329 yX3_mayBeFather ∈ gtb := gtb_4 205 (by rfl) rfl
set_option maxRecDepth 20000 in
theorem ml_L_141 : Cond.methodLink RL 141 yX10_kin ∈ gtb := gtb_4 209 (by rfl) rfl
set_option maxRecDepth 20000 in
theorem ml_X10_332 : Cond.methodLink RX10 332 yX3_stepsBetween ∈ gtb := gtb_4 213 (by rfl) rfl
set_option maxRecDepth 20000 in
theorem ml_X3_86 : Cond.methodLink RX3 86 yX3_stepsUp ∈ gtb := gtb_4 217 (by rfl) rfl
set_option maxRecDepth 20000 in
theorem ml_L_145 : Cond.methodLink RL 145 yX10_related ∈ gtb := gtb_4 221 (by rfl) rfl
set_option maxRecDepth 20000 in
theorem ml_L_149 : Cond.methodLink RL 149 yX10_issue ∈ gtb := gtb_4 225 (by rfl) rfl
set_option maxRecDepth 20000 in
theorem ml_X10_335 : Cond.methodLink RX10 335 yX3_descendants ∈ gtb := gtb_4 229 (by rfl) rfl
set_option maxRecDepth 20000 in
theorem ml_X10_338 : Cond.methodLink RX10 338 yX3_renamedDescendants ∈ gtb := gtb_4 233 (by rfl) rfl
set_option maxRecDepth 20000 in
theorem ml_X10_341 : Cond.methodLink RX10 341 yX3_longestDescent ∈ gtb := gtb_4 237 (by rfl) rfl
set_option maxRecDepth 20000 in
theorem ml_X3_90 : Cond.methodLink RX3 90 yJ9_max_7cf53 ∈ gtb := gtb_5 1 (by rfl) rfl
set_option maxRecDepth 20000 in
theorem ml_L_153 : Cond.methodLink RL 153 yX10_sheet ∈ gtb := gtb_5 2 (by rfl) rfl
set_option maxRecDepth 20000 in
theorem ml_X10_344 : Cond.methodLink RX10 344 yX10_isSheet ∈ gtb := gtb_5 6 (by rfl) rfl
set_option maxRecDepth 20000 in
theorem ml_X10_347 : Cond.methodLink RX10 347 yX6_isLane ∈ gtb := gtb_5 9 (by rfl) rfl
set_option maxRecDepth 20000 in
theorem ml_X10_350 : Cond.methodLink RX10 350 yX6_renew ∈ gtb := gtb_5 12 (by rfl) rfl
set_option maxRecDepth 20000 in
theorem ml_X6_19 : Cond.methodLink RX6 19 yJ7_fill_53178 ∈ gtb := gtb_5 16 (by rfl) rfl
set_option maxRecDepth 20000 in
theorem ml_L_157 : Cond.methodLink RL 157 yX10_lay ∈ gtb := gtb_5 17 (by rfl) rfl
set_option maxRecDepth 20000 in
theorem ml_X10_357 : Cond.methodLink RX10 357 yX6_faultAt ∈ gtb := gtb_5 21 (by rfl) rfl
set_option maxRecDepth 20000 in
theorem ml_X10_360 : Cond.methodLink RX10 360 yX6_put ∈ gtb := gtb_5 25 (by rfl) rfl
set_option maxRecDepth 20000 in
theorem ml_L_161 : Cond.methodLink RL 161 yX10_read ∈ gtb := gtb_5 29 (by rfl) rfl
set_option maxRecDepth 20000 in
theorem ml_X10_363 : Cond.methodLink RX10 363 yX10_wholeYears ∈ gtb := gtb_5 33 (by rfl) rfl
set_option maxRecDepth 20000 in
theorem ml_X10_378 : Cond.methodLink RX10 378 yX0_yearsOf ∈ gtb := gtb_5 37 (by rfl) rfl
set_option maxRecDepth 20000 in
theorem ml_X10_367 : Cond.methodLink RX10 367 yX10_wrongCell ∈ gtb := gtb_5 41 (by rfl) rfl
set_option maxRecDepth 20000 in
theorem ml_X10_395 : Cond.methodLink RX10 395 yX6_cellAt ∈ gtb := gtb_5 45 (by rfl) rfl
set_option maxRecDepth 20000 in
theorem ml_X10_370 : Cond.methodLink RX10 370 yX10_filledYears ∈ gtb := gtb_5 49 (by rfl) rfl
set_option maxRecDepth 20000 in
theorem ml_X10_398 : Cond.methodLink RX10 398 yX10_isFilled ∈ gtb := gtb_5 53 (by rfl) rfl
set_option maxRecDepth 20000 in
theorem ml_X10_374 : Cond.methodLink RX10 374 yX10_copyYears ∈ gtb := gtb_5 57 (by rfl) rfl
set_option maxRecDepth 20000 in
theorem ml_X10_384 : Cond.methodLink RX10 384 yX10_loseYears ∈ gtb := gtb_5 61 (by rfl) rfl
set_option maxRecDepth 20000 in
theorem ml_L_165 : Cond.methodLink RL 165 yX10_torn ∈ gtb := gtb_5 65 (by rfl) rfl
set_option maxRecDepth 20000 in
theorem ml_L_169 : Cond.methodLink RL 169 yX10_count ∈ gtb := gtb_5 69 (by rfl) rfl
set_option maxRecDepth 20000 in
theorem ml_X10_391 : Cond.methodLink RX10 391 yX3_howManyNames ∈ gtb := gtb_5 73 (by rfl) rfl
set_option maxRecDepth 20000 in
theorem ml_X3_69 : Cond.methodLink RX3 69 yJ6_bitCount_0f7a4 ∈ gtb := gtb_5 77 (by rfl) rfl
set_option maxRecDepth 20000 in
theorem ml_L_12 : Cond.methodLink RL 12 yX11_init ∈ gtb := gtb_5 80 (by rfl) rfl
set_option maxRecDepth 20000 in
theorem ml_L_19 : Cond.methodLink RL 19 yX11_spelling ∈ gtb := gtb_6 49 (by rfl) rfl
set_option maxRecDepth 20000 in
theorem ml_X11_156 : Cond.methodLink RX11 156 yX11_in ∈ gtb := gtb_6 56 (by rfl) rfl
set_option maxRecDepth 20000 in
theorem ml_L_24 : Cond.methodLink RL 24 yX11_letters ∈ gtb := gtb_6 59 (by rfl) rfl
set_option maxRecDepth 20000 in
theorem ml_X11_166 : Cond.methodLink RX11 166 yX11_isSpelling ∈ gtb := gtb_6 63 (by rfl) rfl
set_option maxRecDepth 20000 in
theorem ml_L_28 : Cond.methodLink RL 28 yX11_feed ∈ gtb := gtb_6 68 (by rfl) rfl
set_option maxRecDepth 20000 in
theorem ml_L_33 : Cond.methodLink RL 33 yX11_end ∈ gtb := gtb_6 72 (by rfl) rfl
set_option maxRecDepth 20000 in
theorem ml_L_38 : Cond.methodLink RL 38 yX11_rules ∈ gtb := gtb_6 76 (by rfl) rfl
set_option maxRecDepth 20000 in
theorem ml_X11_212 : Cond.methodLink RX11 212 yX11_next ∈ gtb := gtb_6 80 (by rfl) rfl
set_option maxRecDepth 20000 in
theorem ml_X11_187 : Cond.methodLink RX11 187 yX11_byteAt ∈ gtb := gtb_6 84 (by rfl) rfl
set_option maxRecDepth 20000 in
theorem ml_X11_205 : Cond.methodLink RX11 205 yX11_fails ∈ gtb := gtb_6 92 (by rfl) rfl
set_option maxRecDepth 20000 in
theorem ml_X11_248 : Cond.methodLink RX11 248 yX11_readLine ∈ gtb := gtb_6 96 (by rfl) rfl
set_option maxRecDepth 20000 in
theorem ml_X11_228 : Cond.methodLink RX11 228 yX11_lineAt ∈ gtb := gtb_6 100 (by rfl) rfl
set_option maxRecDepth 20000 in
theorem ml_X11_235 : Cond.methodLink RX11 235 yX11_readSay ∈ gtb := gtb_6 104 (by rfl) rfl
set_option maxRecDepth 20000 in
theorem ml_X11_215 : Cond.methodLink RX11 215 yX11_wantName ∈ gtb := gtb_6 108 (by rfl) rfl
set_option maxRecDepth 20000 in
theorem ml_X11_218 : Cond.methodLink RX11 218 yX11_letter ∈ gtb := gtb_6 112 (by rfl) rfl
set_option maxRecDepth 20000 in
theorem ml_X11_239 : Cond.methodLink RX11 239 yX11_readLike ∈ gtb := gtb_6 116 (by rfl) rfl
set_option maxRecDepth 20000 in
theorem ml_X11_224 : Cond.methodLink RX11 224 yX11_number ∈ gtb := gtb_6 120 (by rfl) rfl
set_option maxRecDepth 20000 in
theorem ml_X11_242 : Cond.methodLink RX11 242 yX11_readSons ∈ gtb := gtb_6 124 (by rfl) rfl
set_option maxRecDepth 20000 in
theorem ml_L_42 : Cond.methodLink RL 42 yX11_fault ∈ gtb := gtb_6 128 (by rfl) rfl
set_option maxRecDepth 20000 in
theorem ml_L_46 : Cond.methodLink RL 46 yX11_rule ∈ gtb := gtb_6 132 (by rfl) rfl
set_option maxRecDepth 20000 in
theorem ml_L_50 : Cond.methodLink RL 50 yX11_sound ∈ gtb := gtb_6 137 (by rfl) rfl
set_option maxRecDepth 20000 in
theorem ml_X11_273 : Cond.methodLink RX11 273 yX11_laySound ∈ gtb := gtb_6 141 (by rfl) rfl
set_option maxRecDepth 20000 in
theorem ml_X11_261 : Cond.methodLink RX11 261 yX11_saidAt ∈ gtb := gtb_6 145 (by rfl) rfl
set_option maxRecDepth 20000 in
theorem ml_X11_264 : Cond.methodLink RX11 264 yX11_saidSize ∈ gtb := gtb_6 149 (by rfl) rfl
set_option maxRecDepth 20000 in
theorem ml_L_54 : Cond.methodLink RL 54 yX11_sounds ∈ gtb := gtb_6 153 (by rfl) rfl
set_option maxRecDepth 20000 in
theorem ml_L_59 : Cond.methodLink RL 59 yX11_apart ∈ gtb := gtb_6 157 (by rfl) rfl
set_option maxRecDepth 20000 in
theorem ml_X11_279 : Cond.methodLink RX11 279 yX11_layNames ∈ gtb := gtb_6 161 (by rfl) rfl
set_option maxRecDepth 20000 in
theorem ml_X11_276 : Cond.methodLink RX11 276 yX11_farOf ∈ gtb := gtb_6 165 (by rfl) rfl
set_option maxRecDepth 20000 in
theorem ml_X11_267 : Cond.methodLink RX11 267 yX11_changed ∈ gtb := gtb_6 169 (by rfl) rfl
set_option maxRecDepth 20000 in
theorem ml_X11_270 : Cond.methodLink RX11 270 yX11_less ∈ gtb := gtb_6 173 (by rfl) rfl
set_option maxRecDepth 20000 in
theorem ml_L_63 : Cond.methodLink RL 63 yX11_name ∈ gtb := gtb_6 176 (by rfl) rfl
set_option maxRecDepth 20000 in
theorem ml_L_68 : Cond.methodLink RL 68 yX11_chain ∈ gtb := gtb_6 180 (by rfl) rfl
set_option maxRecDepth 20000 in
theorem ml_X11_287 : Cond.methodLink RX11 287 yX11_layChains ∈ gtb := gtb_6 186 (by rfl) rfl
set_option maxRecDepth 20000 in
theorem ml_X11_290 : Cond.methodLink RX11 290 yX11_goesOn ∈ gtb := gtb_6 191 (by rfl) rfl
set_option maxRecDepth 20000 in
theorem ml_L_72 : Cond.methodLink RL 72 yX11_standing ∈ gtb := gtb_6 195 (by rfl) rfl
set_option maxRecDepth 20000 in
theorem ml_X11_296 : Cond.methodLink RX11 296 yX11_sizeOf ∈ gtb := gtb_6 200 (by rfl) rfl
set_option maxRecDepth 20000 in
theorem ml_X11_299 : Cond.methodLink RX11 299 yX11_firstAsFew ∈ gtb := gtb_6 203 (by rfl) rfl
set_option maxRecDepth 20000 in
theorem ml_L_76 : Cond.methodLink RL 76 yX11_place ∈ gtb := gtb_6 207 (by rfl) rfl
set_option maxRecDepth 20000 in
theorem ml_L_80 : Cond.methodLink RL 80 yX11_book ∈ gtb := gtb_6 212 (by rfl) rfl
set_option maxRecDepth 20000 in
theorem ml_X11_313 : Cond.methodLink RX11 313 yX11_isPlace ∈ gtb := gtb_6 216 (by rfl) rfl
set_option maxRecDepth 20000 in
theorem ml_L_85 : Cond.methodLink RL 85 yX11_hole ∈ gtb := gtb_6 222 (by rfl) rfl
set_option maxRecDepth 20000 in
theorem ml_X11_320 : Cond.methodLink RX11 320 yX11_isBook ∈ gtb := gtb_6 226 (by rfl) rfl
set_option maxRecDepth 20000 in
theorem ml_X11_323 : Cond.methodLink RX11 323 yX11_hasLine ∈ gtb := gtb_6 230 (by rfl) rfl
set_option maxRecDepth 20000 in
theorem ml_X11_326 : Cond.methodLink RX11 326 yX11_isHole ∈ gtb := gtb_6 234 (by rfl) rfl
set_option maxRecDepth 20000 in
theorem ml_L_89 : Cond.methodLink RL 89 yX11_bookOf ∈ gtb := gtb_6 238 (by rfl) rfl
set_option maxRecDepth 20000 in
theorem ml_X11_329 : Cond.methodLink RX11 329 yX11_linesOf ∈ gtb := gtb_7 2 (by rfl) rfl
set_option maxRecDepth 20000 in
theorem ml_L_94 : Cond.methodLink RL 94 yX11_line ∈ gtb := gtb_7 6 (by rfl) rfl
set_option maxRecDepth 20000 in
theorem ml_X11_337 : Cond.methodLink RX11 337 yX11_addLine ∈ gtb := gtb_7 11 (by rfl) rfl
set_option maxRecDepth 20000 in
theorem ml_L_98 : Cond.methodLink RL 98 yX11_day ∈ gtb := gtb_7 15 (by rfl) rfl
set_option maxRecDepth 20000 in
theorem ml_L_102 : Cond.methodLink RL 102 yX11_again ∈ gtb := gtb_7 20 (by rfl) rfl
set_option maxRecDepth 20000 in
theorem ml_X11_343 : Cond.methodLink RX11 343 yX11_isLine ∈ gtb := gtb_7 24 (by rfl) rfl
set_option maxRecDepth 20000 in
theorem ml_L_106 : Cond.methodLink RL 106 yX11_lineOf ∈ gtb := gtb_7 28 (by rfl) rfl
set_option maxRecDepth 20000 in
theorem ml_X11_349 : Cond.methodLink RX11 349 yX11_name ∈ gtb := gtb_7 32 (by rfl) rfl
set_option maxRecDepth 20000 in
theorem ml_L_110 : Cond.methodLink RL 110 yX11_known ∈ gtb := gtb_7 33 (by rfl) rfl
set_option maxRecDepth 20000 in
theorem ml_L_115 : Cond.methodLink RL 115 yX11_bearers ∈ gtb := gtb_7 37 (by rfl) rfl
set_option maxRecDepth 20000 in
theorem ml_X11_352 : Cond.methodLink RX11 352 yX11_worthOf ∈ gtb := gtb_7 41 (by rfl) rfl
set_option maxRecDepth 20000 in
theorem ml_L_119 : Cond.methodLink RL 119 yX11_first ∈ gtb := gtb_7 44 (by rfl) rfl
set_option maxRecDepth 20000 in
theorem ml_X11_355 : Cond.methodLink RX11 355 yX11_layFirsts ∈ gtb := gtb_7 48 (by rfl) rfl
set_option maxRecDepth 20000 in
theorem ml_L_123 : Cond.methodLink RL 123 yX11_starts ∈ gtb := gtb_7 52 (by rfl) rfl
set_option maxRecDepth 20000 in
theorem ml_X11_364 : Cond.methodLink RX11 364 yX11_withFirst ∈ gtb := gtb_7 57 (by rfl) rfl
set_option maxRecDepth 20000 in
theorem ml_X11_367 : Cond.methodLink RX11 367 yX11_doLet ∈ gtb := gtb_7 61 (by rfl) rfl
set_option maxRecDepth 20000 in
theorem ml_X11_358 : Cond.methodLink RX11 358 yX11_lets ∈ gtb := gtb_7 65 (by rfl) rfl
set_option maxRecDepth 20000 in
theorem ml_L_127 : Cond.methodLink RL 127 yX11_judge ∈ gtb := gtb_7 69 (by rfl) rfl
set_option maxRecDepth 20000 in
theorem ml_L_131 : Cond.methodLink RL 131 yX11_pace ∈ gtb := gtb_7 73 (by rfl) rfl
set_option maxRecDepth 20000 in
theorem ml_L_136 : Cond.methodLink RL 136 yX11_dies ∈ gtb := gtb_7 77 (by rfl) rfl
set_option maxRecDepth 20000 in
theorem ml_L_140 : Cond.methodLink RL 140 yX11_father ∈ gtb := gtb_7 81 (by rfl) rfl
set_option maxRecDepth 20000 in
theorem ml_L_144 : Cond.methodLink RL 144 yX11_kin ∈ gtb := gtb_7 85 (by rfl) rfl
set_option maxRecDepth 20000 in
theorem ml_X11_373 : Cond.methodLink RX11 373 yX11_kinOf ∈ gtb := gtb_7 89 (by rfl) rfl
set_option maxRecDepth 20000 in
theorem ml_X11_370 : Cond.methodLink RX11 370 yX11_stepsTo ∈ gtb := gtb_7 93 (by rfl) rfl
set_option maxRecDepth 20000 in
theorem ml_L_148 : Cond.methodLink RL 148 yX11_related ∈ gtb := gtb_7 97 (by rfl) rfl
set_option maxRecDepth 20000 in
theorem ml_L_152 : Cond.methodLink RL 152 yX11_issue ∈ gtb := gtb_7 101 (by rfl) rfl
set_option maxRecDepth 20000 in
theorem ml_L_156 : Cond.methodLink RL 156 yX11_sheet ∈ gtb := gtb_7 105 (by rfl) rfl
set_option maxRecDepth 20000 in
theorem ml_L_160 : Cond.methodLink RL 160 yX11_lay ∈ gtb := gtb_7 109 (by rfl) rfl
set_option maxRecDepth 20000 in
theorem ml_L_164 : Cond.methodLink RL 164 yX11_read ∈ gtb := gtb_7 113 (by rfl) rfl
set_option maxRecDepth 20000 in
theorem ml_X11_376 : Cond.methodLink RX11 376 yX11_faultAt ∈ gtb := gtb_7 117 (by rfl) rfl
set_option maxRecDepth 20000 in
theorem ml_L_168 : Cond.methodLink RL 168 yX11_torn ∈ gtb := gtb_7 121 (by rfl) rfl
set_option maxRecDepth 20000 in
theorem ml_L_172 : Cond.methodLink RL 172 yX11_count ∈ gtb := gtb_7 125 (by rfl) rfl
set_option maxRecDepth 20000 in
theorem kc_X9_105 : Jvm.Cond.constant RX9 105 (1048576) ∈ gtb := gtb_3 172 (by rfl) rfl
set_option maxRecDepth 20000 in
theorem kc_J6_264 : Jvm.Cond.constant RJ6 264 (65536) ∈ gtb := gtb_3 216 (by rfl) rfl
set_option maxRecDepth 20000 in
theorem kc_J6_265 : Jvm.Cond.constant RJ6 265 (1431655765) ∈ gtb := gtb_3 220 (by rfl) rfl
set_option maxRecDepth 20000 in
theorem kc_J6_266 : Jvm.Cond.constant RJ6 266 (858993459) ∈ gtb := gtb_3 221 (by rfl) rfl
set_option maxRecDepth 20000 in
theorem kc_J6_267 : Jvm.Cond.constant RJ6 267 (252645135) ∈ gtb := gtb_3 222 (by rfl) rfl
set_option maxRecDepth 20000 in
theorem kc_X11_282 : Jvm.Cond.constant RX11 282 (1000000) ∈ gtb := gtb_6 190 (by rfl) rfl
set_option maxRecDepth 20000 in
theorem kl_X9_41 : Jvm.Cond.constantLong RX9 41 (1125899906842624) ∈ gtb := gtb_2 155 (by rfl) rfl
set_option maxRecDepth 20000 in
theorem kl_X9_43 : Jvm.Cond.constantLong RX9 43 (31) ∈ gtb := gtb_2 156 (by rfl) rfl
set_option maxRecDepth 20000 in
theorem kl_X9_45 : Jvm.Cond.constantLong RX9 45 (26) ∈ gtb := gtb_2 157 (by rfl) rfl
set_option maxRecDepth 20000 in
theorem kl_X10_102 : Jvm.Cond.constantLong RX10 102 (-1) ∈ gtb := gtb_2 221 (by rfl) rfl
set_option maxRecDepth 20000 in
theorem kl_X9_70 : Jvm.Cond.constantLong RX9 70 (1152921504606846975) ∈ gtb := gtb_3 147 (by rfl) rfl
set_option maxRecDepth 20000 in
theorem kl_X0_44 : Jvm.Cond.constantLong RX0 44 (-1) ∈ gtb := gtb_4 30 (by rfl) rfl
set_option maxRecDepth 20000 in
theorem kl_J13_314 : Jvm.Cond.constantLong RJ13 314 (6148914691236517205) ∈ gtb := gtb_4 38 (by rfl) rfl
set_option maxRecDepth 20000 in
theorem kl_J13_316 : Jvm.Cond.constantLong RJ13 316 (3689348814741910323) ∈ gtb := gtb_4 39 (by rfl) rfl
set_option maxRecDepth 20000 in
theorem kl_J13_318 : Jvm.Cond.constantLong RJ13 318 (1085102592571150095) ∈ gtb := gtb_4 40 (by rfl) rfl
set_option maxRecDepth 20000 in
theorem kl_X11_160 : Jvm.Cond.constantLong RX11 160 (1125899906842624) ∈ gtb := gtb_6 53 (by rfl) rfl
set_option maxRecDepth 20000 in
theorem kl_X11_162 : Jvm.Cond.constantLong RX11 162 (31) ∈ gtb := gtb_6 54 (by rfl) rfl
set_option maxRecDepth 20000 in
theorem kl_X11_164 : Jvm.Cond.constantLong RX11 164 (26) ∈ gtb := gtb_6 55 (by rfl) rfl
set_option maxRecDepth 20000 in
theorem kl_X11_170 : Jvm.Cond.constantLong RX11 170 (-1) ∈ gtb := gtb_6 67 (by rfl) rfl
set_option maxRecDepth 20000 in
theorem kl_X11_197 : Jvm.Cond.constantLong RX11 197 (97) ∈ gtb := gtb_6 88 (by rfl) rfl
set_option maxRecDepth 20000 in
theorem kl_X11_199 : Jvm.Cond.constantLong RX11 199 (122) ∈ gtb := gtb_6 89 (by rfl) rfl
set_option maxRecDepth 20000 in
theorem kl_X11_201 : Jvm.Cond.constantLong RX11 201 (48) ∈ gtb := gtb_6 90 (by rfl) rfl
set_option maxRecDepth 20000 in
theorem kl_X11_203 : Jvm.Cond.constantLong RX11 203 (57) ∈ gtb := gtb_6 91 (by rfl) rfl
set_option maxRecDepth 20000 in
theorem kl_X11_259 : Jvm.Cond.constantLong RX11 259 (7) ∈ gtb := gtb_6 136 (by rfl) rfl
set_option maxRecDepth 20000 in
theorem kl_X11_283 : Jvm.Cond.constantLong RX11 283 (10) ∈ gtb := gtb_6 184 (by rfl) rfl
set_option maxRecDepth 20000 in
theorem kl_X11_285 : Jvm.Cond.constantLong RX11 285 (25) ∈ gtb := gtb_6 185 (by rfl) rfl
set_option maxRecDepth 20000 in
theorem kl_X11_294 : Jvm.Cond.constantLong RX11 294 (2) ∈ gtb := gtb_6 199 (by rfl) rfl
set_option maxRecDepth 20000 in
theorem kl_X11_311 : Jvm.Cond.constantLong RX11 311 (99) ∈ gtb := gtb_6 211 (by rfl) rfl
set_option maxRecDepth 20000 in
theorem kl_X11_316 : Jvm.Cond.constantLong RX11 316 (1500) ∈ gtb := gtb_6 220 (by rfl) rfl
set_option maxRecDepth 20000 in
theorem kl_X11_318 : Jvm.Cond.constantLong RX11 318 (1899) ∈ gtb := gtb_6 221 (by rfl) rfl
set_option maxRecDepth 20000 in
theorem kl_X11_335 : Jvm.Cond.constantLong RX11 335 (4) ∈ gtb := gtb_7 10 (by rfl) rfl
set_option maxRecDepth 20000 in
theorem kl_X11_341 : Jvm.Cond.constantLong RX11 341 (999) ∈ gtb := gtb_7 19 (by rfl) rfl
set_option maxRecDepth 20000 in
theorem kl_X11_362 : Jvm.Cond.constantLong RX11 362 (3) ∈ gtb := gtb_7 56 (by rfl) rfl
set_option maxRecDepth 20000 in
theorem kl_L_13 : Jvm.Cond.constantLong RL 13 (4294967295) ∈ gtb := gtb_7 129 (by rfl) rfl
set_option maxRecDepth 20000 in
theorem ini_L : Cond.initialized RL ∈ gtb := gtb_1 0 (by rfl) rfl
set_option maxRecDepth 20000 in
theorem ini_X10 : Cond.initialized RX10 ∈ gtb := gtb_1 1 (by rfl) rfl
set_option maxRecDepth 20000 in
theorem ini_X7 : Cond.initialized RX7 ∈ gtb := gtb_1 2 (by rfl) rfl
set_option maxRecDepth 20000 in
theorem ini_X8 : Cond.initialized RX8 ∈ gtb := gtb_1 3 (by rfl) rfl
set_option maxRecDepth 20000 in
theorem ini_X5 : Cond.initialized RX5 ∈ gtb := gtb_1 4 (by rfl) rfl
set_option maxRecDepth 20000 in
theorem ini_J10 : Cond.initialized RJ10 ∈ gtb := gtb_1 5 (by rfl) rfl
set_option maxRecDepth 20000 in
theorem ini_J7 : Cond.initialized RJ7 ∈ gtb := gtb_1 6 (by rfl) rfl
set_option maxRecDepth 20000 in
theorem ini_X9 : Cond.initialized RX9 ∈ gtb := gtb_1 7 (by rfl) rfl
set_option maxRecDepth 20000 in
theorem ini_X0 : Cond.initialized RX0 ∈ gtb := gtb_1 8 (by rfl) rfl
set_option maxRecDepth 20000 in
theorem ini_X3 : Cond.initialized RX3 ∈ gtb := gtb_1 9 (by rfl) rfl
set_option maxRecDepth 20000 in
theorem ini_X4 : Cond.initialized RX4 ∈ gtb := gtb_1 10 (by rfl) rfl
set_option maxRecDepth 20000 in
theorem ini_X2 : Cond.initialized RX2 ∈ gtb := gtb_1 11 (by rfl) rfl
set_option maxRecDepth 20000 in
theorem ini_X6 : Cond.initialized RX6 ∈ gtb := gtb_1 12 (by rfl) rfl
set_option maxRecDepth 20000 in
theorem ini_X11 : Cond.initialized RX11 ∈ gtb := gtb_1 13 (by rfl) rfl
set_option maxRecDepth 20000 in
theorem ini_J9 : Cond.initialized RJ9 ∈ gtb := gtb_1 14 (by rfl) rfl
set_option maxRecDepth 20000 in
theorem ini_J0 : Cond.initialized RJ0 ∈ gtb := gtb_1 15 (by rfl) rfl
set_option maxRecDepth 20000 in
theorem ini_J1 : Cond.initialized RJ1 ∈ gtb := gtb_1 16 (by rfl) rfl
set_option maxRecDepth 20000 in
theorem ini_J3 : Cond.initialized RJ3 ∈ gtb := gtb_1 17 (by rfl) rfl
set_option maxRecDepth 20000 in
theorem ini_J2 : Cond.initialized RJ2 ∈ gtb := gtb_1 18 (by rfl) rfl
set_option maxRecDepth 20000 in
theorem ini_X1 : Cond.initialized RX1 ∈ gtb := gtb_1 19 (by rfl) rfl
set_option maxRecDepth 20000 in
theorem ini_J6 : Cond.initialized RJ6 ∈ gtb := gtb_1 20 (by rfl) rfl
set_option maxRecDepth 20000 in
theorem ini_J13 : Cond.initialized RJ13 ∈ gtb := gtb_1 21 (by rfl) rfl
set_option maxRecDepth 20000 in
theorem mw_X0_init : mwI yX0_init cX0_init 1 none 0 := ⟨gtb_1 187 (by rfl) rfl, ini_X0, by decide, by decide, by decide +kernel⟩
set_option maxRecDepth 20000 in
theorem mi_X0_init : Cond.instanceMethod yX0_init ∈ gtb := gtb_1 186 (by rfl) rfl
set_option maxRecDepth 20000 in
theorem mw_X0_areYears : mwI yX0_areYears cX0_areYears 2 (some .boolean) 2 := ⟨gtb_4 1 (by rfl) rfl, ini_X0, by decide, by decide, by decide +kernel⟩
set_option maxRecDepth 20000 in
theorem ms_X0_areYears : Cond.static yX0_areYears ∈ gtb := gtb_4 0 (by rfl) rfl
set_option maxRecDepth 20000 in
theorem mw_X0_hasPlace : mwI yX0_hasPlace cX0_hasPlace 2 (some .boolean) 1 := ⟨gtb_3 238 (by rfl) rfl, ini_X0, by decide, by decide, by decide +kernel⟩
set_option maxRecDepth 20000 in
theorem mv_X0_hasPlace : mwV yX0_hasPlace := ⟨gtb_3 236 (by rfl) rfl, gtb_3 237 (by rfl) rfl⟩
set_option maxRecDepth 20000 in
theorem mw_X0_has : mwI yX0_has cX0_has 2 (some .boolean) 1 := ⟨gtb_4 13 (by rfl) rfl, ini_X0, by decide, by decide, by decide +kernel⟩
set_option maxRecDepth 20000 in
theorem mv_X0_has : mwV yX0_has := ⟨gtb_4 11 (by rfl) rfl, gtb_4 12 (by rfl) rfl⟩
set_option maxRecDepth 20000 in
theorem mw_X0_appendPlace : mwI yX0_appendPlace cX0_appendPlace 3 (some .int) 2 := ⟨gtb_3 230 (by rfl) rfl, ini_X0, by decide, by decide, by decide +kernel⟩
set_option maxRecDepth 20000 in
theorem mv_X0_appendPlace : mwV yX0_appendPlace := ⟨gtb_3 228 (by rfl) rfl, gtb_3 229 (by rfl) rfl⟩
set_option maxRecDepth 20000 in
theorem mw_X0_append : mwI yX0_append cX0_append 4 (some .int) 3 := ⟨gtb_4 5 (by rfl) rfl, ini_X0, by decide, by decide, by decide +kernel⟩
set_option maxRecDepth 20000 in
theorem mv_X0_append : mwV yX0_append := ⟨gtb_4 3 (by rfl) rfl, gtb_4 4 (by rfl) rfl⟩
set_option maxRecDepth 20000 in
theorem mw_X0_howFar : mwI yX0_howFar cX0_howFar 3 (some .int) 2 := ⟨gtb_4 156 (by rfl) rfl, ini_X0, by decide, by decide, by decide +kernel⟩
set_option maxRecDepth 20000 in
theorem mv_X0_howFar : mwV yX0_howFar := ⟨gtb_4 154 (by rfl) rfl, gtb_4 155 (by rfl) rfl⟩
set_option maxRecDepth 20000 in
theorem mw_X0_yearsOf : mwI yX0_yearsOf cX0_yearsOf 2 (some .int) 1 := ⟨gtb_5 40 (by rfl) rfl, ini_X0, by decide, by decide, by decide +kernel⟩
set_option maxRecDepth 20000 in
theorem mv_X0_yearsOf : mwV yX0_yearsOf := ⟨gtb_5 38 (by rfl) rfl, gtb_5 39 (by rfl) rfl⟩
set_option maxRecDepth 20000 in
theorem mw_X0_hasYear : mwI yX0_hasYear cX0_hasYear 3 (some .boolean) 2 := ⟨gtb_4 17 (by rfl) rfl, ini_X0, by decide, by decide, by decide +kernel⟩
set_option maxRecDepth 20000 in
theorem mv_X0_hasYear : mwV yX0_hasYear := ⟨gtb_4 15 (by rfl) rfl, gtb_4 16 (by rfl) rfl⟩
set_option maxRecDepth 20000 in
theorem mw_X0_isHole : mwI yX0_isHole cX0_isHole 3 (some .boolean) 2 := ⟨gtb_4 25 (by rfl) rfl, ini_X0, by decide, by decide, by decide +kernel⟩
set_option maxRecDepth 20000 in
theorem mv_X0_isHole : mwV yX0_isHole := ⟨gtb_4 23 (by rfl) rfl, gtb_4 24 (by rfl) rfl⟩
set_option maxRecDepth 20000 in
theorem mw_X0_setHole : mwI yX0_setHole cX0_setHole 6 none 3 := ⟨gtb_4 29 (by rfl) rfl, ini_X0, by decide, by decide, by decide +kernel⟩
set_option maxRecDepth 20000 in
theorem mv_X0_setHole : mwV yX0_setHole := ⟨gtb_4 27 (by rfl) rfl, gtb_4 28 (by rfl) rfl⟩
set_option maxRecDepth 20000 in
theorem mw_X0_latestReadable : mwI yX0_latestReadable cX0_latestReadable 3 (some .int) 1 := ⟨gtb_4 48 (by rfl) rfl, ini_X0, by decide, by decide, by decide +kernel⟩
set_option maxRecDepth 20000 in
theorem mv_X0_latestReadable : mwV yX0_latestReadable := ⟨gtb_4 46 (by rfl) rfl, gtb_4 47 (by rfl) rfl⟩
set_option maxRecDepth 20000 in
theorem mw_X0_readableYears : mwI yX0_readableYears cX0_readableYears 6 (some .int) 3 := ⟨gtb_4 100 (by rfl) rfl, ini_X0, by decide, by decide, by decide +kernel⟩
set_option maxRecDepth 20000 in
theorem mv_X0_readableYears : mwV yX0_readableYears := ⟨gtb_4 98 (by rfl) rfl, gtb_4 99 (by rfl) rfl⟩
set_option maxRecDepth 20000 in
theorem mw_X0_readableYearsOf : mwI yX0_readableYearsOf cX0_readableYearsOf 7 (some .int) 3 := ⟨gtb_4 104 (by rfl) rfl, ini_X0, by decide, by decide, by decide +kernel⟩
set_option maxRecDepth 20000 in
theorem mv_X0_readableYearsOf : mwV yX0_readableYearsOf := ⟨gtb_4 103 (by rfl) rfl, gtb_pr 23 (by rfl) rfl⟩
set_option maxRecDepth 20000 in
theorem mw_X1_fewest : mwI yX1_fewest cX1_fewest 6 (some .int) 2 := ⟨gtb_3 209 (by rfl) rfl, ini_X1, by decide, by decide, by decide +kernel⟩
set_option maxRecDepth 20000 in
theorem ms_X1_fewest : Cond.static yX1_fewest ∈ gtb := gtb_3 208 (by rfl) rfl
set_option maxRecDepth 20000 in
theorem mw_X1_suffices : mwI yX1_suffices cX1_suffices 7 (some .boolean) 4 := ⟨gtb_3 212 (by rfl) rfl, ini_X1, by decide, by decide, by decide +kernel⟩
set_option maxRecDepth 20000 in
theorem ms_X1_suffices : Cond.static yX1_suffices ∈ gtb := gtb_3 211 (by rfl) rfl
set_option maxRecDepth 20000 in
theorem mw_X2_init : mwI yX2_init cX2_init 1 none 0 := ⟨gtb_2 78 (by rfl) rfl, ini_X2, by decide, by decide, by decide +kernel⟩
set_option maxRecDepth 20000 in
theorem mi_X2_init : Cond.instanceMethod yX2_init ∈ gtb := gtb_2 77 (by rfl) rfl
set_option maxRecDepth 20000 in
theorem mw_X2_follow : mwI yX2_follow cX2_follow 4 none 2 := ⟨gtb_4 190 (by rfl) rfl, ini_X2, by decide, by decide, by decide +kernel⟩
set_option maxRecDepth 20000 in
theorem mv_X2_follow : mwV yX2_follow := ⟨gtb_4 188 (by rfl) rfl, gtb_4 189 (by rfl) rfl⟩
set_option maxRecDepth 20000 in
theorem mw_X2_addGeneration : mwI yX2_addGeneration cX2_addGeneration 10 none 1 := ⟨gtb_4 194 (by rfl) rfl, ini_X2, by decide, by decide, by decide +kernel⟩
set_option maxRecDepth 20000 in
theorem mv_X2_addGeneration : mwV yX2_addGeneration := ⟨gtb_4 193 (by rfl) rfl, gtb_pr 27 (by rfl) rfl⟩
set_option maxRecDepth 20000 in
theorem mw_X2_power : mwI yX2_power cX2_power 6 (some .long) 2 := ⟨gtb_4 197 (by rfl) rfl, ini_X2, by decide, by decide, by decide +kernel⟩
set_option maxRecDepth 20000 in
theorem ms_X2_power : Cond.static yX2_power ∈ gtb := gtb_4 196 (by rfl) rfl
set_option maxRecDepth 20000 in
theorem mw_X2_greatestDivisor : mwI yX2_greatestDivisor cX2_greatestDivisor 11 (some .long) 2 := ⟨gtb_4 200 (by rfl) rfl, ini_X2, by decide, by decide, by decide +kernel⟩
set_option maxRecDepth 20000 in
theorem ms_X2_greatestDivisor : Cond.static yX2_greatestDivisor ∈ gtb := gtb_4 199 (by rfl) rfl
set_option maxRecDepth 20000 in
theorem mw_X3_init : mwI yX3_init cX3_init 3 none 2 := ⟨gtb_1 226 (by rfl) rfl, ini_X3, by decide, by decide, by decide +kernel⟩
set_option maxRecDepth 20000 in
theorem mi_X3_init : Cond.instanceMethod yX3_init ∈ gtb := gtb_1 225 (by rfl) rfl
set_option maxRecDepth 20000 in
theorem mw_X3_isKind : mwI yX3_isKind cX3_isKind 1 (some .boolean) 1 := ⟨gtb_4 56 (by rfl) rfl, ini_X3, by decide, by decide, by decide +kernel⟩
set_option maxRecDepth 20000 in
theorem ms_X3_isKind : Cond.static yX3_isKind ∈ gtb := gtb_4 55 (by rfl) rfl
set_option maxRecDepth 20000 in
theorem mw_X3_has : mwI yX3_has cX3_has 2 (some .boolean) 1 := ⟨gtb_4 72 (by rfl) rfl, ini_X3, by decide, by decide, by decide +kernel⟩
set_option maxRecDepth 20000 in
theorem mv_X3_has : mwV yX3_has := ⟨gtb_4 70 (by rfl) rfl, gtb_4 71 (by rfl) rfl⟩
set_option maxRecDepth 20000 in
theorem mw_X3_append : mwI yX3_append cX3_append 6 (some .int) 5 := ⟨gtb_4 60 (by rfl) rfl, ini_X3, by decide, by decide, by decide +kernel⟩
set_option maxRecDepth 20000 in
theorem mv_X3_append : mwV yX3_append := ⟨gtb_4 58 (by rfl) rfl, gtb_4 59 (by rfl) rfl⟩
set_option maxRecDepth 20000 in
theorem mw_X3_reread : mwI yX3_reread cX3_reread 4 (some .int) 3 := ⟨gtb_4 76 (by rfl) rfl, ini_X3, by decide, by decide, by decide +kernel⟩
set_option maxRecDepth 20000 in
theorem mv_X3_reread : mwV yX3_reread := ⟨gtb_4 74 (by rfl) rfl, gtb_4 75 (by rfl) rfl⟩
set_option maxRecDepth 20000 in
theorem mw_X3_knownOn : mwI yX3_knownOn cX3_knownOn 5 (some .int) 2 := ⟨gtb_4 92 (by rfl) rfl, ini_X3, by decide, by decide, by decide +kernel⟩
set_option maxRecDepth 20000 in
theorem mv_X3_knownOn : mwV yX3_knownOn := ⟨gtb_4 90 (by rfl) rfl, gtb_4 91 (by rfl) rfl⟩
set_option maxRecDepth 20000 in
theorem mw_X3_areIn : mwI yX3_areIn cX3_areIn 4 (some .boolean) 2 := ⟨gtb_4 21 (by rfl) rfl, ini_X3, by decide, by decide, by decide +kernel⟩
set_option maxRecDepth 20000 in
theorem mv_X3_areIn : mwV yX3_areIn := ⟨gtb_4 19 (by rfl) rfl, gtb_4 20 (by rfl) rfl⟩
set_option maxRecDepth 20000 in
theorem mw_X3_howManyIn : mwI yX3_howManyIn cX3_howManyIn 4 (some .int) 1 := ⟨gtb_4 44 (by rfl) rfl, ini_X3, by decide, by decide, by decide +kernel⟩
set_option maxRecDepth 20000 in
theorem mv_X3_howManyIn : mwV yX3_howManyIn := ⟨gtb_4 42 (by rfl) rfl, gtb_4 43 (by rfl) rfl⟩
set_option maxRecDepth 20000 in
theorem mw_X3_nameOfLine : mwI yX3_nameOfLine cX3_nameOfLine 2 (some .int) 1 := ⟨gtb_4 84 (by rfl) rfl, ini_X3, by decide, by decide, by decide +kernel⟩
set_option maxRecDepth 20000 in
theorem mv_X3_nameOfLine : mwV yX3_nameOfLine := ⟨gtb_4 82 (by rfl) rfl, gtb_4 83 (by rfl) rfl⟩
set_option maxRecDepth 20000 in
theorem mw_X3_howManyNames : mwI yX3_howManyNames cX3_howManyNames 3 (some .int) 0 := ⟨gtb_5 76 (by rfl) rfl, ini_X3, by decide, by decide, by decide +kernel⟩
set_option maxRecDepth 20000 in
theorem mv_X3_howManyNames : mwV yX3_howManyNames := ⟨gtb_5 74 (by rfl) rfl, gtb_5 75 (by rfl) rfl⟩
set_option maxRecDepth 20000 in
theorem mw_X3_isAt : mwI yX3_isAt cX3_isAt 4 (some .boolean) 3 := ⟨gtb_4 116 (by rfl) rfl, ini_X3, by decide, by decide, by decide +kernel⟩
set_option maxRecDepth 20000 in
theorem mv_X3_isAt : mwV yX3_isAt := ⟨gtb_4 115 (by rfl) rfl, gtb_pr 24 (by rfl) rfl⟩
set_option maxRecDepth 20000 in
theorem mw_X3_worth : mwI yX3_worth cX3_worth 7 (some .int) 4 := ⟨gtb_4 112 (by rfl) rfl, ini_X3, by decide, by decide, by decide +kernel⟩
set_option maxRecDepth 20000 in
theorem mv_X3_worth : mwV yX3_worth := ⟨gtb_4 110 (by rfl) rfl, gtb_4 111 (by rfl) rfl⟩
set_option maxRecDepth 20000 in
theorem mw_X3_firstYear : mwI yX3_firstYear cX3_firstYear 6 (some .int) 2 := ⟨gtb_4 131 (by rfl) rfl, ini_X3, by decide, by decide, by decide +kernel⟩
set_option maxRecDepth 20000 in
theorem mv_X3_firstYear : mwV yX3_firstYear := ⟨gtb_4 129 (by rfl) rfl, gtb_4 130 (by rfl) rfl⟩
set_option maxRecDepth 20000 in
theorem mw_X3_mayBeFather : mwI yX3_mayBeFather cX3_mayBeFather 3 (some .boolean) 2 := ⟨gtb_4 208 (by rfl) rfl, ini_X3, by decide, by decide, by decide +kernel⟩
set_option maxRecDepth 20000 in
theorem mv_X3_mayBeFather : mwV yX3_mayBeFather := ⟨gtb_4 206 (by rfl) rfl, gtb_4 207 (by rfl) rfl⟩
set_option maxRecDepth 20000 in
theorem mw_X3_stepsUp : mwI yX3_stepsUp cX3_stepsUp 5 (some .int) 2 := ⟨gtb_4 220 (by rfl) rfl, ini_X3, by decide, by decide, by decide +kernel⟩
set_option maxRecDepth 20000 in
theorem mv_X3_stepsUp : mwV yX3_stepsUp := ⟨gtb_4 219 (by rfl) rfl, gtb_pr 28 (by rfl) rfl⟩
set_option maxRecDepth 20000 in
theorem mw_X3_stepsBetween : mwI yX3_stepsBetween cX3_stepsBetween 6 (some .int) 2 := ⟨gtb_4 216 (by rfl) rfl, ini_X3, by decide, by decide, by decide +kernel⟩
set_option maxRecDepth 20000 in
theorem mv_X3_stepsBetween : mwV yX3_stepsBetween := ⟨gtb_4 214 (by rfl) rfl, gtb_4 215 (by rfl) rfl⟩
set_option maxRecDepth 20000 in
theorem mw_X3_descendants : mwI yX3_descendants cX3_descendants 4 (some .int) 1 := ⟨gtb_4 232 (by rfl) rfl, ini_X3, by decide, by decide, by decide +kernel⟩
set_option maxRecDepth 20000 in
theorem mv_X3_descendants : mwV yX3_descendants := ⟨gtb_4 230 (by rfl) rfl, gtb_4 231 (by rfl) rfl⟩
set_option maxRecDepth 20000 in
theorem mw_X3_renamedDescendants : mwI yX3_renamedDescendants cX3_renamedDescendants 4 (some .int) 1 := ⟨gtb_4 236 (by rfl) rfl, ini_X3, by decide, by decide, by decide +kernel⟩
set_option maxRecDepth 20000 in
theorem mv_X3_renamedDescendants : mwV yX3_renamedDescendants := ⟨gtb_4 234 (by rfl) rfl, gtb_4 235 (by rfl) rfl⟩
set_option maxRecDepth 20000 in
theorem mw_X3_longestDescent : mwI yX3_longestDescent cX3_longestDescent 4 (some .int) 1 := ⟨gtb_5 0 (by rfl) rfl, ini_X3, by decide, by decide, by decide +kernel⟩
set_option maxRecDepth 20000 in
theorem mv_X3_longestDescent : mwV yX3_longestDescent := ⟨gtb_4 238 (by rfl) rfl, gtb_4 239 (by rfl) rfl⟩
set_option maxRecDepth 20000 in
theorem mw_X4_init : mwI yX4_init cX4_init 3 none 2 := ⟨gtb_2 47 (by rfl) rfl, ini_X4, by decide, by decide, by decide +kernel⟩
set_option maxRecDepth 20000 in
theorem mi_X4_init : Cond.instanceMethod yX4_init ∈ gtb := gtb_2 46 (by rfl) rfl
set_option maxRecDepth 20000 in
theorem mw_X4_gather : mwI yX4_gather cX4_gather 3 none 1 := ⟨gtb_4 139 (by rfl) rfl, ini_X4, by decide, by decide, by decide +kernel⟩
set_option maxRecDepth 20000 in
theorem mv_X4_gather : mwV yX4_gather := ⟨gtb_4 137 (by rfl) rfl, gtb_4 138 (by rfl) rfl⟩
set_option maxRecDepth 20000 in
theorem mw_X4_isPresent : mwI yX4_isPresent cX4_isPresent 2 (some .boolean) 1 := ⟨gtb_4 148 (by rfl) rfl, ini_X4, by decide, by decide, by decide +kernel⟩
set_option maxRecDepth 20000 in
theorem mv_X4_isPresent : mwV yX4_isPresent := ⟨gtb_4 147 (by rfl) rfl, gtb_pr 25 (by rfl) rfl⟩
set_option maxRecDepth 20000 in
theorem mw_X4_spread : mwI yX4_spread cX4_spread 3 none 1 := ⟨gtb_4 144 (by rfl) rfl, ini_X4, by decide, by decide, by decide +kernel⟩
set_option maxRecDepth 20000 in
theorem mv_X4_spread : mwV yX4_spread := ⟨gtb_4 142 (by rfl) rfl, gtb_4 143 (by rfl) rfl⟩
set_option maxRecDepth 20000 in
theorem mw_X4_reachOf : mwI yX4_reachOf cX4_reachOf 6 (some .int) 2 := ⟨gtb_4 152 (by rfl) rfl, ini_X4, by decide, by decide, by decide +kernel⟩
set_option maxRecDepth 20000 in
theorem mv_X4_reachOf : mwV yX4_reachOf := ⟨gtb_4 151 (by rfl) rfl, gtb_pr 26 (by rfl) rfl⟩
set_option maxRecDepth 20000 in
theorem mw_X4_letsAllCome : mwI yX4_letsAllCome cX4_letsAllCome 4 (some .boolean) 1 := ⟨gtb_4 169 (by rfl) rfl, ini_X4, by decide, by decide, by decide +kernel⟩
set_option maxRecDepth 20000 in
theorem mv_X4_letsAllCome : mwV yX4_letsAllCome := ⟨gtb_4 167 (by rfl) rfl, gtb_4 168 (by rfl) rfl⟩
set_option maxRecDepth 20000 in
theorem mw_X4_hasSingleStart : mwI yX4_hasSingleStart cX4_hasSingleStart 2 (some .boolean) 0 := ⟨gtb_4 182 (by rfl) rfl, ini_X4, by decide, by decide, by decide +kernel⟩
set_option maxRecDepth 20000 in
theorem mv_X4_hasSingleStart : mwV yX4_hasSingleStart := ⟨gtb_4 180 (by rfl) rfl, gtb_4 181 (by rfl) rfl⟩
set_option maxRecDepth 20000 in
theorem mw_X4_search : mwI yX4_search cX4_search 4 none 0 := ⟨gtb_4 164 (by rfl) rfl, ini_X4, by decide, by decide, by decide +kernel⟩
set_option maxRecDepth 20000 in
theorem mv_X4_search : mwV yX4_search := ⟨gtb_4 162 (by rfl) rfl, gtb_4 163 (by rfl) rfl⟩
set_option maxRecDepth 20000 in
theorem mw_X5_init : mwI yX5_init cX5_init 1 none 0 := ⟨gtb_1 89 (by rfl) rfl, ini_X5, by decide, by decide, by decide +kernel⟩
set_option maxRecDepth 20000 in
theorem mi_X5_init : Cond.instanceMethod yX5_init ∈ gtb := gtb_1 88 (by rfl) rfl
set_option maxRecDepth 20000 in
theorem mw_X5_forget : mwI yX5_forget cX5_forget 1 none 0 := ⟨gtb_1 94 (by rfl) rfl, ini_X5, by decide, by decide, by decide +kernel⟩
set_option maxRecDepth 20000 in
theorem mv_X5_forget : mwV yX5_forget := ⟨gtb_1 92 (by rfl) rfl, gtb_1 93 (by rfl) rfl⟩
set_option maxRecDepth 20000 in
theorem mw_X5_isChanged : mwI yX5_isChanged cX5_isChanged 3 (some .boolean) 1 := ⟨gtb_3 91 (by rfl) rfl, ini_X5, by decide, by decide, by decide +kernel⟩
set_option maxRecDepth 20000 in
theorem mv_X5_isChanged : mwV yX5_isChanged := ⟨gtb_3 89 (by rfl) rfl, gtb_3 90 (by rfl) rfl⟩
set_option maxRecDepth 20000 in
theorem mw_X5_appendChange : mwI yX5_appendChange cX5_appendChange 5 none 4 := ⟨gtb_3 95 (by rfl) rfl, ini_X5, by decide, by decide, by decide +kernel⟩
set_option maxRecDepth 20000 in
theorem mv_X5_appendChange : mwV yX5_appendChange := ⟨gtb_3 93 (by rfl) rfl, gtb_3 94 (by rfl) rfl⟩
set_option maxRecDepth 20000 in
theorem mw_X5_isLike : mwI yX5_isLike cX5_isLike 3 (some .boolean) 2 := ⟨gtb_2 197 (by rfl) rfl, ini_X5, by decide, by decide, by decide +kernel⟩
set_option maxRecDepth 20000 in
theorem mv_X5_isLike : mwV yX5_isLike := ⟨gtb_2 195 (by rfl) rfl, gtb_2 196 (by rfl) rfl⟩
set_option maxRecDepth 20000 in
theorem mw_X5_appendLike : mwI yX5_appendLike cX5_appendLike 4 none 3 := ⟨gtb_3 109 (by rfl) rfl, ini_X5, by decide, by decide, by decide +kernel⟩
set_option maxRecDepth 20000 in
theorem mv_X5_appendLike : mwV yX5_appendLike := ⟨gtb_3 107 (by rfl) rfl, gtb_3 108 (by rfl) rfl⟩
set_option maxRecDepth 20000 in
theorem mw_X5_swapCost : mwI yX5_swapCost cX5_swapCost 3 (some .int) 2 := ⟨gtb_2 193 (by rfl) rfl, ini_X5, by decide, by decide, by decide +kernel⟩
set_option maxRecDepth 20000 in
theorem mv_X5_swapCost : mwV yX5_swapCost := ⟨gtb_2 191 (by rfl) rfl, gtb_2 192 (by rfl) rfl⟩
set_option maxRecDepth 20000 in
theorem mw_X5_changeAt : mwI yX5_changeAt cX5_changeAt 7 (some .int) 2 := ⟨gtb_2 177 (by rfl) rfl, ini_X5, by decide, by decide, by decide +kernel⟩
set_option maxRecDepth 20000 in
theorem mv_X5_changeAt : mwV yX5_changeAt := ⟨gtb_2 175 (by rfl) rfl, gtb_2 176 (by rfl) rfl⟩
set_option maxRecDepth 20000 in
theorem mw_X5_standsAt : mwI yX5_standsAt cX5_standsAt 7 (some .boolean) 3 := ⟨gtb_2 181 (by rfl) rfl, ini_X5, by decide, by decide, by decide +kernel⟩
set_option maxRecDepth 20000 in
theorem mv_X5_standsAt : mwV yX5_standsAt := ⟨gtb_2 180 (by rfl) rfl, gtb_pr 2 (by rfl) rfl⟩
set_option maxRecDepth 20000 in
theorem mw_X6_init : mwI yX6_init cX6_init 1 none 0 := ⟨gtb_2 94 (by rfl) rfl, ini_X6, by decide, by decide, by decide +kernel⟩
set_option maxRecDepth 20000 in
theorem mi_X6_init : Cond.instanceMethod yX6_init ∈ gtb := gtb_2 93 (by rfl) rfl
set_option maxRecDepth 20000 in
theorem mw_X6_isLane : mwI yX6_isLane cX6_isLane 1 (some .boolean) 1 := ⟨gtb_5 11 (by rfl) rfl, ini_X6, by decide, by decide, by decide +kernel⟩
set_option maxRecDepth 20000 in
theorem ms_X6_isLane : Cond.static yX6_isLane ∈ gtb := gtb_5 10 (by rfl) rfl
set_option maxRecDepth 20000 in
theorem mw_X6_renew : mwI yX6_renew cX6_renew 3 none 2 := ⟨gtb_5 15 (by rfl) rfl, ini_X6, by decide, by decide, by decide +kernel⟩
set_option maxRecDepth 20000 in
theorem mv_X6_renew : mwV yX6_renew := ⟨gtb_5 13 (by rfl) rfl, gtb_5 14 (by rfl) rfl⟩
set_option maxRecDepth 20000 in
theorem mw_X6_faultAt : mwI yX6_faultAt cX6_faultAt 3 (some .int) 2 := ⟨gtb_5 24 (by rfl) rfl, ini_X6, by decide, by decide, by decide +kernel⟩
set_option maxRecDepth 20000 in
theorem mv_X6_faultAt : mwV yX6_faultAt := ⟨gtb_5 22 (by rfl) rfl, gtb_5 23 (by rfl) rfl⟩
set_option maxRecDepth 20000 in
theorem mw_X6_put : mwI yX6_put cX6_put 3 none 2 := ⟨gtb_5 28 (by rfl) rfl, ini_X6, by decide, by decide, by decide +kernel⟩
set_option maxRecDepth 20000 in
theorem mv_X6_put : mwV yX6_put := ⟨gtb_5 26 (by rfl) rfl, gtb_5 27 (by rfl) rfl⟩
set_option maxRecDepth 20000 in
theorem mw_X6_cellAt : mwI yX6_cellAt cX6_cellAt 2 (some .int) 1 := ⟨gtb_5 48 (by rfl) rfl, ini_X6, by decide, by decide, by decide +kernel⟩
set_option maxRecDepth 20000 in
theorem mv_X6_cellAt : mwV yX6_cellAt := ⟨gtb_5 46 (by rfl) rfl, gtb_5 47 (by rfl) rfl⟩
set_option maxRecDepth 20000 in
theorem mw_X7_init : mwI yX7_init cX7_init 1 none 0 := ⟨gtb_1 34 (by rfl) rfl, ini_X7, by decide, by decide, by decide +kernel⟩
set_option maxRecDepth 20000 in
theorem mi_X7_init : Cond.instanceMethod yX7_init ∈ gtb := gtb_1 33 (by rfl) rfl
set_option maxRecDepth 20000 in
theorem mw_X7_append : mwI yX7_append cX7_append 4 (some .boolean) 1 := ⟨gtb_2 229 (by rfl) rfl, ini_X7, by decide, by decide, by decide +kernel⟩
set_option maxRecDepth 20000 in
theorem mv_X7_append : mwV yX7_append := ⟨gtb_2 227 (by rfl) rfl, gtb_2 228 (by rfl) rfl⟩
set_option maxRecDepth 20000 in
theorem mw_X7_byteAt : mwI yX7_byteAt cX7_byteAt 2 (some .int) 1 := ⟨gtb_3 10 (by rfl) rfl, ini_X7, by decide, by decide, by decide +kernel⟩
set_option maxRecDepth 20000 in
theorem mv_X7_byteAt : mwV yX7_byteAt := ⟨gtb_3 8 (by rfl) rfl, gtb_3 9 (by rfl) rfl⟩
set_option maxRecDepth 20000 in
theorem mw_X8_init : mwI yX8_init cX8_init 2 none 1 := ⟨gtb_1 50 (by rfl) rfl, ini_X8, by decide, by decide, by decide +kernel⟩
set_option maxRecDepth 20000 in
theorem mi_X8_init : Cond.instanceMethod yX8_init ∈ gtb := gtb_1 49 (by rfl) rfl
set_option maxRecDepth 20000 in
theorem mw_X8_readInto : mwI yX8_readInto cX8_readInto 4 (some .int) 1 := ⟨gtb_3 1 (by rfl) rfl, ini_X8, by decide, by decide, by decide +kernel⟩
set_option maxRecDepth 20000 in
theorem mv_X8_readInto : mwV yX8_readInto := ⟨gtb_2 239 (by rfl) rfl, gtb_3 0 (by rfl) rfl⟩
set_option maxRecDepth 20000 in
theorem mw_X8_takeLine : mwI yX8_takeLine cX8_takeLine 1 (some .boolean) 0 := ⟨gtb_3 17 (by rfl) rfl, ini_X8, by decide, by decide, by decide +kernel⟩
set_option maxRecDepth 20000 in
theorem mv_X8_takeLine : mwV yX8_takeLine := ⟨gtb_3 16 (by rfl) rfl, gtb_pr 9 (by rfl) rfl⟩
set_option maxRecDepth 20000 in
theorem mw_X8_takeChange : mwI yX8_takeChange cX8_takeChange 6 (some .boolean) 1 := ⟨gtb_3 79 (by rfl) rfl, ini_X8, by decide, by decide, by decide +kernel⟩
set_option maxRecDepth 20000 in
theorem mv_X8_takeChange : mwV yX8_takeChange := ⟨gtb_3 78 (by rfl) rfl, gtb_pr 12 (by rfl) rfl⟩
set_option maxRecDepth 20000 in
theorem mw_X8_takeLike : mwI yX8_takeLike cX8_takeLike 3 (some .boolean) 0 := ⟨gtb_3 100 (by rfl) rfl, ini_X8, by decide, by decide, by decide +kernel⟩
set_option maxRecDepth 20000 in
theorem mv_X8_takeLike : mwV yX8_takeLike := ⟨gtb_3 99 (by rfl) rfl, gtb_pr 15 (by rfl) rfl⟩
set_option maxRecDepth 20000 in
theorem mw_X8_takeNumber : mwI yX8_takeNumber cX8_takeNumber 3 (some .boolean) 2 := ⟨gtb_3 114 (by rfl) rfl, ini_X8, by decide, by decide, by decide +kernel⟩
set_option maxRecDepth 20000 in
theorem mv_X8_takeNumber : mwV yX8_takeNumber := ⟨gtb_3 113 (by rfl) rfl, gtb_pr 17 (by rfl) rfl⟩
set_option maxRecDepth 20000 in
theorem mw_X8_takeSons : mwI yX8_takeSons cX8_takeSons 4 (some .boolean) 0 := ⟨gtb_3 126 (by rfl) rfl, ini_X8, by decide, by decide, by decide +kernel⟩
set_option maxRecDepth 20000 in
theorem mv_X8_takeSons : mwV yX8_takeSons := ⟨gtb_3 125 (by rfl) rfl, gtb_pr 19 (by rfl) rfl⟩
set_option maxRecDepth 20000 in
theorem mw_X8_tellOnce : mwI yX8_tellOnce cX8_tellOnce 2 (some .boolean) 1 := ⟨gtb_3 118 (by rfl) rfl, ini_X8, by decide, by decide, by decide +kernel⟩
set_option maxRecDepth 20000 in
theorem mv_X8_tellOnce : mwV yX8_tellOnce := ⟨gtb_3 117 (by rfl) rfl, gtb_pr 18 (by rfl) rfl⟩
set_option maxRecDepth 20000 in
theorem mw_X8_takeName : mwI yX8_takeName cX8_takeName 2 (some .boolean) 1 := ⟨gtb_3 83 (by rfl) rfl, ini_X8, by decide, by decide, by decide +kernel⟩
set_option maxRecDepth 20000 in
theorem mv_X8_takeName : mwV yX8_takeName := ⟨gtb_3 82 (by rfl) rfl, gtb_pr 13 (by rfl) rfl⟩
set_option maxRecDepth 20000 in
theorem mw_X8_takeBetween : mwI yX8_takeBetween cX8_takeBetween 3 (some .boolean) 2 := ⟨gtb_3 105 (by rfl) rfl, ini_X8, by decide, by decide, by decide +kernel⟩
set_option maxRecDepth 20000 in
theorem mv_X8_takeBetween : mwV yX8_takeBetween := ⟨gtb_3 104 (by rfl) rfl, gtb_pr 16 (by rfl) rfl⟩
set_option maxRecDepth 20000 in
theorem mw_X8_takeToken : mwI yX8_takeToken cX8_takeToken 2 (some .boolean) 1 := ⟨gtb_3 87 (by rfl) rfl, ini_X8, by decide, by decide, by decide +kernel⟩
set_option maxRecDepth 20000 in
theorem mv_X8_takeToken : mwV yX8_takeToken := ⟨gtb_3 86 (by rfl) rfl, gtb_pr 14 (by rfl) rfl⟩
set_option maxRecDepth 20000 in
theorem mw_X8_refuse : mwI yX8_refuse cX8_refuse 2 (some .boolean) 1 := ⟨gtb_3 21 (by rfl) rfl, ini_X8, by decide, by decide, by decide +kernel⟩
set_option maxRecDepth 20000 in
theorem mv_X8_refuse : mwV yX8_refuse := ⟨gtb_3 20 (by rfl) rfl, gtb_pr 10 (by rfl) rfl⟩
set_option maxRecDepth 20000 in
theorem mw_X8_isWord : mwI yX8_isWord cX8_isWord 3 (some .boolean) 1 := ⟨gtb_3 26 (by rfl) rfl, ini_X8, by decide, by decide, by decide +kernel⟩
set_option maxRecDepth 20000 in
theorem mv_X8_isWord : mwV yX8_isWord := ⟨gtb_3 25 (by rfl) rfl, gtb_pr 11 (by rfl) rfl⟩
set_option maxRecDepth 20000 in
theorem mw_X8_readToken : mwI yX8_readToken cX8_readToken 3 none 0 := ⟨gtb_3 6 (by rfl) rfl, ini_X8, by decide, by decide, by decide +kernel⟩
set_option maxRecDepth 20000 in
theorem mv_X8_readToken : mwV yX8_readToken := ⟨gtb_3 5 (by rfl) rfl, gtb_pr 8 (by rfl) rfl⟩
set_option maxRecDepth 20000 in
theorem mw_X8_kindOf : mwI yX8_kindOf cX8_kindOf 1 (some .int) 1 := ⟨gtb_3 13 (by rfl) rfl, ini_X8, by decide, by decide, by decide +kernel⟩
set_option maxRecDepth 20000 in
theorem ms_X8_kindOf : Cond.static yX8_kindOf ∈ gtb := gtb_3 12 (by rfl) rfl
set_option maxRecDepth 20000 in
theorem mw_X9_init : mwI yX9_init cX9_init 2 none 1 := ⟨gtb_1 143 (by rfl) rfl, ini_X9, by decide, by decide, by decide +kernel⟩
set_option maxRecDepth 20000 in
theorem mi_X9_init : Cond.instanceMethod yX9_init ∈ gtb := gtb_1 142 (by rfl) rfl
set_option maxRecDepth 20000 in
theorem mw_X9_isWord : mwI yX9_isWord cX9_isWord 7 (some .boolean) 1 := ⟨gtb_2 154 (by rfl) rfl, ini_X9, by decide, by decide, by decide +kernel⟩
set_option maxRecDepth 20000 in
theorem ms_X9_isWord : Cond.static yX9_isWord ∈ gtb := gtb_2 153 (by rfl) rfl
set_option maxRecDepth 20000 in
theorem mw_X9_has : mwI yX9_has cX9_has 2 (some .boolean) 1 := ⟨gtb_2 220 (by rfl) rfl, ini_X9, by decide, by decide, by decide +kernel⟩
set_option maxRecDepth 20000 in
theorem mv_X9_has : mwV yX9_has := ⟨gtb_2 218 (by rfl) rfl, gtb_2 219 (by rfl) rfl⟩
set_option maxRecDepth 20000 in
theorem mw_X9_holds : mwI yX9_holds cX9_holds 4 (some .boolean) 1 := ⟨gtb_2 161 (by rfl) rfl, ini_X9, by decide, by decide, by decide +kernel⟩
set_option maxRecDepth 20000 in
theorem mv_X9_holds : mwV yX9_holds := ⟨gtb_2 159 (by rfl) rfl, gtb_2 160 (by rfl) rfl⟩
set_option maxRecDepth 20000 in
theorem mw_X9_append : mwI yX9_append cX9_append 3 (some .int) 1 := ⟨gtb_2 165 (by rfl) rfl, ini_X9, by decide, by decide, by decide +kernel⟩
set_option maxRecDepth 20000 in
theorem mv_X9_append : mwV yX9_append := ⟨gtb_2 163 (by rfl) rfl, gtb_2 164 (by rfl) rfl⟩
set_option maxRecDepth 20000 in
theorem mw_X9_follow : mwI yX9_follow cX9_follow 3 none 1 := ⟨gtb_3 130 (by rfl) rfl, ini_X9, by decide, by decide, by decide +kernel⟩
set_option maxRecDepth 20000 in
theorem mv_X9_follow : mwV yX9_follow := ⟨gtb_3 128 (by rfl) rfl, gtb_3 129 (by rfl) rfl⟩
set_option maxRecDepth 20000 in
theorem mw_X9_settle : mwI yX9_settle cX9_settle 4 none 1 := ⟨gtb_2 169 (by rfl) rfl, ini_X9, by decide, by decide, by decide +kernel⟩
set_option maxRecDepth 20000 in
theorem mv_X9_settle : mwV yX9_settle := ⟨gtb_2 168 (by rfl) rfl, gtb_pr 0 (by rfl) rfl⟩
set_option maxRecDepth 20000 in
theorem mw_X9_soundOf : mwI yX9_soundOf cX9_soundOf 5 (some .long) 1 := ⟨gtb_3 146 (by rfl) rfl, ini_X9, by decide, by decide, by decide +kernel⟩
set_option maxRecDepth 20000 in
theorem mv_X9_soundOf : mwV yX9_soundOf := ⟨gtb_3 144 (by rfl) rfl, gtb_3 145 (by rfl) rfl⟩
set_option maxRecDepth 20000 in
theorem mw_X9_apartOf : mwI yX9_apartOf cX9_apartOf 3 (some .int) 2 := ⟨gtb_3 159 (by rfl) rfl, ini_X9, by decide, by decide, by decide +kernel⟩
set_option maxRecDepth 20000 in
theorem mv_X9_apartOf : mwV yX9_apartOf := ⟨gtb_3 157 (by rfl) rfl, gtb_3 158 (by rfl) rfl⟩
set_option maxRecDepth 20000 in
theorem mw_X9_howManyNames : mwI yX9_howManyNames cX9_howManyNames 3 (some .int) 0 := ⟨gtb_3 206 (by rfl) rfl, ini_X9, by decide, by decide, by decide +kernel⟩
set_option maxRecDepth 20000 in
theorem mv_X9_howManyNames : mwV yX9_howManyNames := ⟨gtb_3 204 (by rfl) rfl, gtb_3 205 (by rfl) rfl⟩
set_option maxRecDepth 20000 in
theorem mw_X9_hear : mwI yX9_hear cX9_hear 5 none 1 := ⟨gtb_2 173 (by rfl) rfl, ini_X9, by decide, by decide, by decide +kernel⟩
set_option maxRecDepth 20000 in
theorem mv_X9_hear : mwV yX9_hear := ⟨gtb_2 172 (by rfl) rfl, gtb_pr 1 (by rfl) rfl⟩
set_option maxRecDepth 20000 in
theorem mw_X9_appendSounds : mwI yX9_appendSounds cX9_appendSounds 5 none 3 := ⟨gtb_2 185 (by rfl) rfl, ini_X9, by decide, by decide, by decide +kernel⟩
set_option maxRecDepth 20000 in
theorem mv_X9_appendSounds : mwV yX9_appendSounds := ⟨gtb_2 184 (by rfl) rfl, gtb_pr 3 (by rfl) rfl⟩
set_option maxRecDepth 20000 in
theorem mw_X9_measure : mwI yX9_measure cX9_measure 10 (some .int) 2 := ⟨gtb_2 189 (by rfl) rfl, ini_X9, by decide, by decide, by decide +kernel⟩
set_option maxRecDepth 20000 in
theorem mv_X9_measure : mwV yX9_measure := ⟨gtb_2 188 (by rfl) rfl, gtb_pr 4 (by rfl) rfl⟩
set_option maxRecDepth 20000 in
theorem mw_X9_nameAll : mwI yX9_nameAll cX9_nameAll 4 none 0 := ⟨gtb_2 204 (by rfl) rfl, ini_X9, by decide, by decide, by decide +kernel⟩
set_option maxRecDepth 20000 in
theorem mv_X9_nameAll : mwV yX9_nameAll := ⟨gtb_2 203 (by rfl) rfl, gtb_pr 5 (by rfl) rfl⟩
set_option maxRecDepth 20000 in
theorem mw_X9_reachedFrom : mwI yX9_reachedFrom cX9_reachedFrom 6 (some .int) 1 := ⟨gtb_2 208 (by rfl) rfl, ini_X9, by decide, by decide, by decide +kernel⟩
set_option maxRecDepth 20000 in
theorem mv_X9_reachedFrom : mwV yX9_reachedFrom := ⟨gtb_2 207 (by rfl) rfl, gtb_pr 6 (by rfl) rfl⟩
set_option maxRecDepth 20000 in
theorem mw_X9_nameMembers : mwI yX9_nameMembers cX9_nameMembers 4 none 2 := ⟨gtb_2 212 (by rfl) rfl, ini_X9, by decide, by decide, by decide +kernel⟩
set_option maxRecDepth 20000 in
theorem mv_X9_nameMembers : mwV yX9_nameMembers := ⟨gtb_2 211 (by rfl) rfl, gtb_pr 7 (by rfl) rfl⟩
set_option maxRecDepth 20000 in
theorem mw_X9_walkTo : mwI yX9_walkTo cX9_walkTo 6 none 1 := ⟨gtb_3 171 (by rfl) rfl, ini_X9, by decide, by decide, by decide +kernel⟩
set_option maxRecDepth 20000 in
theorem mv_X9_walkTo : mwV yX9_walkTo := ⟨gtb_3 169 (by rfl) rfl, gtb_3 170 (by rfl) rfl⟩
set_option maxRecDepth 20000 in
theorem mw_X9_cheapestStep : mwI yX9_cheapestStep cX9_cheapestStep 4 (some .int) 1 := ⟨gtb_3 177 (by rfl) rfl, ini_X9, by decide, by decide, by decide +kernel⟩
set_option maxRecDepth 20000 in
theorem mv_X9_cheapestStep : mwV yX9_cheapestStep := ⟨gtb_3 176 (by rfl) rfl, gtb_pr 20 (by rfl) rfl⟩
set_option maxRecDepth 20000 in
theorem mw_X9_costOver : mwI yX9_costOver cX9_costOver 3 (some .int) 2 := ⟨gtb_3 181 (by rfl) rfl, ini_X9, by decide, by decide, by decide +kernel⟩
set_option maxRecDepth 20000 in
theorem mv_X9_costOver : mwV yX9_costOver := ⟨gtb_3 180 (by rfl) rfl, gtb_pr 21 (by rfl) rfl⟩
set_option maxRecDepth 20000 in
theorem mw_X9_chainLength : mwI yX9_chainLength cX9_chainLength 2 (some .int) 1 := ⟨gtb_3 189 (by rfl) rfl, ini_X9, by decide, by decide, by decide +kernel⟩
set_option maxRecDepth 20000 in
theorem mv_X9_chainLength : mwV yX9_chainLength := ⟨gtb_3 187 (by rfl) rfl, gtb_3 188 (by rfl) rfl⟩
set_option maxRecDepth 20000 in
theorem mw_X9_chainSum : mwI yX9_chainSum cX9_chainSum 2 (some .int) 1 := ⟨gtb_3 198 (by rfl) rfl, ini_X9, by decide, by decide, by decide +kernel⟩
set_option maxRecDepth 20000 in
theorem mv_X9_chainSum : mwV yX9_chainSum := ⟨gtb_3 196 (by rfl) rfl, gtb_3 197 (by rfl) rfl⟩
set_option maxRecDepth 20000 in
theorem mw_X9_chainMember : mwI yX9_chainMember cX9_chainMember 5 (some .int) 2 := ⟨gtb_3 185 (by rfl) rfl, ini_X9, by decide, by decide, by decide +kernel⟩
set_option maxRecDepth 20000 in
theorem mv_X9_chainMember : mwV yX9_chainMember := ⟨gtb_3 183 (by rfl) rfl, gtb_3 184 (by rfl) rfl⟩
set_option maxRecDepth 20000 in
theorem mw_X9_nextOnChain : mwI yX9_nextOnChain cX9_nextOnChain 3 (some .int) 1 := ⟨gtb_3 193 (by rfl) rfl, ini_X9, by decide, by decide, by decide +kernel⟩
set_option maxRecDepth 20000 in
theorem mv_X9_nextOnChain : mwV yX9_nextOnChain := ⟨gtb_3 192 (by rfl) rfl, gtb_pr 22 (by rfl) rfl⟩
set_option maxRecDepth 20000 in
theorem mw_X10_init : mwI yX10_init cX10_init 2 none 0 := ⟨gtb_1 26 (by rfl) rfl, ini_X10, by decide, by decide, by decide +kernel⟩
set_option maxRecDepth 20000 in
theorem mi_X10_init : Cond.instanceMethod yX10_init ∈ gtb := gtb_1 25 (by rfl) rfl
set_option maxRecDepth 20000 in
theorem mw_X10_spelling : mwI yX10_spelling cX10_spelling 3 (some .int) 1 := ⟨gtb_2 151 (by rfl) rfl, ini_X10, by decide, by decide, by decide +kernel⟩
set_option maxRecDepth 20000 in
theorem mv_X10_spelling : mwV yX10_spelling := ⟨gtb_2 149 (by rfl) rfl, gtb_2 150 (by rfl) rfl⟩
set_option maxRecDepth 20000 in
theorem mw_X10_letters : mwI yX10_letters cX10_letters 2 (some .long) 1 := ⟨gtb_2 216 (by rfl) rfl, ini_X10, by decide, by decide, by decide +kernel⟩
set_option maxRecDepth 20000 in
theorem mv_X10_letters : mwV yX10_letters := ⟨gtb_2 214 (by rfl) rfl, gtb_2 215 (by rfl) rfl⟩
set_option maxRecDepth 20000 in
theorem mw_X10_feed : mwI yX10_feed cX10_feed 3 (some .int) 1 := ⟨gtb_2 225 (by rfl) rfl, ini_X10, by decide, by decide, by decide +kernel⟩
set_option maxRecDepth 20000 in
theorem mv_X10_feed : mwV yX10_feed := ⟨gtb_2 223 (by rfl) rfl, gtb_2 224 (by rfl) rfl⟩
set_option maxRecDepth 20000 in
theorem mw_X10_end : mwI yX10_end cX10_end 3 (some .int) 1 := ⟨gtb_2 233 (by rfl) rfl, ini_X10, by decide, by decide, by decide +kernel⟩
set_option maxRecDepth 20000 in
theorem mv_X10_end : mwV yX10_end := ⟨gtb_2 231 (by rfl) rfl, gtb_2 232 (by rfl) rfl⟩
set_option maxRecDepth 20000 in
theorem mw_X10_rules : mwI yX10_rules cX10_rules 3 (some .int) 0 := ⟨gtb_2 237 (by rfl) rfl, ini_X10, by decide, by decide, by decide +kernel⟩
set_option maxRecDepth 20000 in
theorem mv_X10_rules : mwV yX10_rules := ⟨gtb_2 235 (by rfl) rfl, gtb_2 236 (by rfl) rfl⟩
set_option maxRecDepth 20000 in
theorem mw_X10_fault : mwI yX10_fault cX10_fault 1 (some .int) 0 := ⟨gtb_3 134 (by rfl) rfl, ini_X10, by decide, by decide, by decide +kernel⟩
set_option maxRecDepth 20000 in
theorem mv_X10_fault : mwV yX10_fault := ⟨gtb_3 132 (by rfl) rfl, gtb_3 133 (by rfl) rfl⟩
set_option maxRecDepth 20000 in
theorem mw_X10_rule : mwI yX10_rule cX10_rule 2 (some .int) 1 := ⟨gtb_3 138 (by rfl) rfl, ini_X10, by decide, by decide, by decide +kernel⟩
set_option maxRecDepth 20000 in
theorem mv_X10_rule : mwV yX10_rule := ⟨gtb_3 136 (by rfl) rfl, gtb_3 137 (by rfl) rfl⟩
set_option maxRecDepth 20000 in
theorem mw_X10_sound : mwI yX10_sound cX10_sound 2 (some .long) 1 := ⟨gtb_3 142 (by rfl) rfl, ini_X10, by decide, by decide, by decide +kernel⟩
set_option maxRecDepth 20000 in
theorem mv_X10_sound : mwV yX10_sound := ⟨gtb_3 140 (by rfl) rfl, gtb_3 141 (by rfl) rfl⟩
set_option maxRecDepth 20000 in
theorem mw_X10_sounds : mwI yX10_sounds cX10_sounds 2 (some .int) 1 := ⟨gtb_3 151 (by rfl) rfl, ini_X10, by decide, by decide, by decide +kernel⟩
set_option maxRecDepth 20000 in
theorem mv_X10_sounds : mwV yX10_sounds := ⟨gtb_3 149 (by rfl) rfl, gtb_3 150 (by rfl) rfl⟩
set_option maxRecDepth 20000 in
theorem mw_X10_apart : mwI yX10_apart cX10_apart 3 (some .int) 2 := ⟨gtb_3 155 (by rfl) rfl, ini_X10, by decide, by decide, by decide +kernel⟩
set_option maxRecDepth 20000 in
theorem mv_X10_apart : mwV yX10_apart := ⟨gtb_3 153 (by rfl) rfl, gtb_3 154 (by rfl) rfl⟩
set_option maxRecDepth 20000 in
theorem mw_X10_name : mwI yX10_name cX10_name 2 (some .int) 1 := ⟨gtb_3 163 (by rfl) rfl, ini_X10, by decide, by decide, by decide +kernel⟩
set_option maxRecDepth 20000 in
theorem mv_X10_name : mwV yX10_name := ⟨gtb_3 161 (by rfl) rfl, gtb_3 162 (by rfl) rfl⟩
set_option maxRecDepth 20000 in
theorem mw_X10_chain : mwI yX10_chain cX10_chain 5 (some .int) 3 := ⟨gtb_3 167 (by rfl) rfl, ini_X10, by decide, by decide, by decide +kernel⟩
set_option maxRecDepth 20000 in
theorem mv_X10_chain : mwV yX10_chain := ⟨gtb_3 165 (by rfl) rfl, gtb_3 166 (by rfl) rfl⟩
set_option maxRecDepth 20000 in
theorem mw_X10_standing : mwI yX10_standing cX10_standing 3 (some .int) 1 := ⟨gtb_3 202 (by rfl) rfl, ini_X10, by decide, by decide, by decide +kernel⟩
set_option maxRecDepth 20000 in
theorem mv_X10_standing : mwV yX10_standing := ⟨gtb_3 200 (by rfl) rfl, gtb_3 201 (by rfl) rfl⟩
set_option maxRecDepth 20000 in
theorem mw_X10_place : mwI yX10_place cX10_place 3 (some .int) 2 := ⟨gtb_3 226 (by rfl) rfl, ini_X10, by decide, by decide, by decide +kernel⟩
set_option maxRecDepth 20000 in
theorem mv_X10_place : mwV yX10_place := ⟨gtb_3 224 (by rfl) rfl, gtb_3 225 (by rfl) rfl⟩
set_option maxRecDepth 20000 in
theorem mw_X10_book : mwI yX10_book cX10_book 4 (some .int) 3 := ⟨gtb_3 234 (by rfl) rfl, ini_X10, by decide, by decide, by decide +kernel⟩
set_option maxRecDepth 20000 in
theorem mv_X10_book : mwV yX10_book := ⟨gtb_3 232 (by rfl) rfl, gtb_3 233 (by rfl) rfl⟩
set_option maxRecDepth 20000 in
theorem mw_X10_hole : mwI yX10_hole cX10_hole 5 (some .int) 3 := ⟨gtb_4 9 (by rfl) rfl, ini_X10, by decide, by decide, by decide +kernel⟩
set_option maxRecDepth 20000 in
theorem mv_X10_hole : mwV yX10_hole := ⟨gtb_4 7 (by rfl) rfl, gtb_4 8 (by rfl) rfl⟩
set_option maxRecDepth 20000 in
theorem mw_X10_bookOf : mwI yX10_bookOf cX10_bookOf 3 (some .int) 2 := ⟨gtb_4 34 (by rfl) rfl, ini_X10, by decide, by decide, by decide +kernel⟩
set_option maxRecDepth 20000 in
theorem mv_X10_bookOf : mwV yX10_bookOf := ⟨gtb_4 32 (by rfl) rfl, gtb_4 33 (by rfl) rfl⟩
set_option maxRecDepth 20000 in
theorem mw_X10_line : mwI yX10_line cX10_line 5 (some .int) 4 := ⟨gtb_4 53 (by rfl) rfl, ini_X10, by decide, by decide, by decide +kernel⟩
set_option maxRecDepth 20000 in
theorem mv_X10_line : mwV yX10_line := ⟨gtb_4 51 (by rfl) rfl, gtb_4 52 (by rfl) rfl⟩
set_option maxRecDepth 20000 in
theorem mw_X10_day : mwI yX10_day cX10_day 3 (some .int) 1 := ⟨gtb_4 64 (by rfl) rfl, ini_X10, by decide, by decide, by decide +kernel⟩
set_option maxRecDepth 20000 in
theorem mv_X10_day : mwV yX10_day := ⟨gtb_4 62 (by rfl) rfl, gtb_4 63 (by rfl) rfl⟩
set_option maxRecDepth 20000 in
theorem mw_X10_again : mwI yX10_again cX10_again 3 (some .int) 2 := ⟨gtb_4 68 (by rfl) rfl, ini_X10, by decide, by decide, by decide +kernel⟩
set_option maxRecDepth 20000 in
theorem mv_X10_again : mwV yX10_again := ⟨gtb_4 66 (by rfl) rfl, gtb_4 67 (by rfl) rfl⟩
set_option maxRecDepth 20000 in
theorem mw_X10_lineOf : mwI yX10_lineOf cX10_lineOf 3 (some .int) 2 := ⟨gtb_4 80 (by rfl) rfl, ini_X10, by decide, by decide, by decide +kernel⟩
set_option maxRecDepth 20000 in
theorem mv_X10_lineOf : mwV yX10_lineOf := ⟨gtb_4 78 (by rfl) rfl, gtb_4 79 (by rfl) rfl⟩
set_option maxRecDepth 20000 in
theorem mw_X10_known : mwI yX10_known cX10_known 3 (some .int) 2 := ⟨gtb_4 88 (by rfl) rfl, ini_X10, by decide, by decide, by decide +kernel⟩
set_option maxRecDepth 20000 in
theorem mv_X10_known : mwV yX10_known := ⟨gtb_4 86 (by rfl) rfl, gtb_4 87 (by rfl) rfl⟩
set_option maxRecDepth 20000 in
theorem mw_X10_bearers : mwI yX10_bearers cX10_bearers 10 (some .int) 5 := ⟨gtb_4 96 (by rfl) rfl, ini_X10, by decide, by decide, by decide +kernel⟩
set_option maxRecDepth 20000 in
theorem mv_X10_bearers : mwV yX10_bearers := ⟨gtb_4 94 (by rfl) rfl, gtb_4 95 (by rfl) rfl⟩
set_option maxRecDepth 20000 in
theorem mw_X10_first : mwI yX10_first cX10_first 3 (some .int) 2 := ⟨gtb_4 127 (by rfl) rfl, ini_X10, by decide, by decide, by decide +kernel⟩
set_option maxRecDepth 20000 in
theorem mv_X10_first : mwV yX10_first := ⟨gtb_4 125 (by rfl) rfl, gtb_4 126 (by rfl) rfl⟩
set_option maxRecDepth 20000 in
theorem mw_X10_starts : mwI yX10_starts cX10_starts 3 (some .int) 2 := ⟨gtb_4 135 (by rfl) rfl, ini_X10, by decide, by decide, by decide +kernel⟩
set_option maxRecDepth 20000 in
theorem mv_X10_starts : mwV yX10_starts := ⟨gtb_4 133 (by rfl) rfl, gtb_4 134 (by rfl) rfl⟩
set_option maxRecDepth 20000 in
theorem mw_X10_judge : mwI yX10_judge cX10_judge 3 (some .int) 2 := ⟨gtb_4 173 (by rfl) rfl, ini_X10, by decide, by decide, by decide +kernel⟩
set_option maxRecDepth 20000 in
theorem mv_X10_judge : mwV yX10_judge := ⟨gtb_4 171 (by rfl) rfl, gtb_4 172 (by rfl) rfl⟩
set_option maxRecDepth 20000 in
theorem mw_X10_pace : mwI yX10_pace cX10_pace 3 (some .int) 1 := ⟨gtb_4 178 (by rfl) rfl, ini_X10, by decide, by decide, by decide +kernel⟩
set_option maxRecDepth 20000 in
theorem mv_X10_pace : mwV yX10_pace := ⟨gtb_4 176 (by rfl) rfl, gtb_4 177 (by rfl) rfl⟩
set_option maxRecDepth 20000 in
theorem mw_X10_dies : mwI yX10_dies cX10_dies 3 (some .long) 2 := ⟨gtb_4 186 (by rfl) rfl, ini_X10, by decide, by decide, by decide +kernel⟩
set_option maxRecDepth 20000 in
theorem mv_X10_dies : mwV yX10_dies := ⟨gtb_4 184 (by rfl) rfl, gtb_4 185 (by rfl) rfl⟩
set_option maxRecDepth 20000 in
theorem mw_X10_father : mwI yX10_father cX10_father 4 (some .int) 2 := ⟨gtb_4 204 (by rfl) rfl, ini_X10, by decide, by decide, by decide +kernel⟩
set_option maxRecDepth 20000 in
theorem mv_X10_father : mwV yX10_father := ⟨gtb_4 202 (by rfl) rfl, gtb_4 203 (by rfl) rfl⟩
set_option maxRecDepth 20000 in
theorem mw_X10_kin : mwI yX10_kin cX10_kin 3 (some .int) 2 := ⟨gtb_4 212 (by rfl) rfl, ini_X10, by decide, by decide, by decide +kernel⟩
set_option maxRecDepth 20000 in
theorem mv_X10_kin : mwV yX10_kin := ⟨gtb_4 210 (by rfl) rfl, gtb_4 211 (by rfl) rfl⟩
set_option maxRecDepth 20000 in
theorem mw_X10_related : mwI yX10_related cX10_related 5 (some .int) 2 := ⟨gtb_4 224 (by rfl) rfl, ini_X10, by decide, by decide, by decide +kernel⟩
set_option maxRecDepth 20000 in
theorem mv_X10_related : mwV yX10_related := ⟨gtb_4 222 (by rfl) rfl, gtb_4 223 (by rfl) rfl⟩
set_option maxRecDepth 20000 in
theorem mw_X10_issue : mwI yX10_issue cX10_issue 3 (some .int) 2 := ⟨gtb_4 228 (by rfl) rfl, ini_X10, by decide, by decide, by decide +kernel⟩
set_option maxRecDepth 20000 in
theorem mv_X10_issue : mwV yX10_issue := ⟨gtb_4 226 (by rfl) rfl, gtb_4 227 (by rfl) rfl⟩
set_option maxRecDepth 20000 in
theorem mw_X10_sheet : mwI yX10_sheet cX10_sheet 4 (some .int) 3 := ⟨gtb_5 5 (by rfl) rfl, ini_X10, by decide, by decide, by decide +kernel⟩
set_option maxRecDepth 20000 in
theorem mv_X10_sheet : mwV yX10_sheet := ⟨gtb_5 3 (by rfl) rfl, gtb_5 4 (by rfl) rfl⟩
set_option maxRecDepth 20000 in
theorem mw_X10_lay : mwI yX10_lay cX10_lay 5 (some .int) 3 := ⟨gtb_5 20 (by rfl) rfl, ini_X10, by decide, by decide, by decide +kernel⟩
set_option maxRecDepth 20000 in
theorem mv_X10_lay : mwV yX10_lay := ⟨gtb_5 18 (by rfl) rfl, gtb_5 19 (by rfl) rfl⟩
set_option maxRecDepth 20000 in
theorem mw_X10_read : mwI yX10_read cX10_read 8 (some .int) 3 := ⟨gtb_5 32 (by rfl) rfl, ini_X10, by decide, by decide, by decide +kernel⟩
set_option maxRecDepth 20000 in
theorem mv_X10_read : mwV yX10_read := ⟨gtb_5 30 (by rfl) rfl, gtb_5 31 (by rfl) rfl⟩
set_option maxRecDepth 20000 in
theorem mw_X10_torn : mwI yX10_torn cX10_torn 1 (some .int) 0 := ⟨gtb_5 68 (by rfl) rfl, ini_X10, by decide, by decide, by decide +kernel⟩
set_option maxRecDepth 20000 in
theorem mv_X10_torn : mwV yX10_torn := ⟨gtb_5 66 (by rfl) rfl, gtb_5 67 (by rfl) rfl⟩
set_option maxRecDepth 20000 in
theorem mw_X10_count : mwI yX10_count cX10_count 2 (some .int) 1 := ⟨gtb_5 72 (by rfl) rfl, ini_X10, by decide, by decide, by decide +kernel⟩
set_option maxRecDepth 20000 in
theorem mv_X10_count : mwV yX10_count := ⟨gtb_5 70 (by rfl) rfl, gtb_5 71 (by rfl) rfl⟩
set_option maxRecDepth 20000 in
theorem mw_X10_isSheet : mwI yX10_isSheet cX10_isSheet 1 (some .boolean) 1 := ⟨gtb_5 8 (by rfl) rfl, ini_X10, by decide, by decide, by decide +kernel⟩
set_option maxRecDepth 20000 in
theorem ms_X10_isSheet : Cond.static yX10_isSheet ∈ gtb := gtb_5 7 (by rfl) rfl
set_option maxRecDepth 20000 in
theorem mw_X10_wholeYears : mwI yX10_wholeYears cX10_wholeYears 6 (some .int) 3 := ⟨gtb_5 36 (by rfl) rfl, ini_X10, by decide, by decide, by decide +kernel⟩
set_option maxRecDepth 20000 in
theorem mv_X10_wholeYears : mwV yX10_wholeYears := ⟨gtb_5 35 (by rfl) rfl, gtb_pr 29 (by rfl) rfl⟩
set_option maxRecDepth 20000 in
theorem mw_X10_wrongCell : mwI yX10_wrongCell cX10_wrongCell 6 (some .int) 3 := ⟨gtb_5 44 (by rfl) rfl, ini_X10, by decide, by decide, by decide +kernel⟩
set_option maxRecDepth 20000 in
theorem mv_X10_wrongCell : mwV yX10_wrongCell := ⟨gtb_5 43 (by rfl) rfl, gtb_pr 30 (by rfl) rfl⟩
set_option maxRecDepth 20000 in
theorem mw_X10_isFilled : mwI yX10_isFilled cX10_isFilled 4 (some .boolean) 3 := ⟨gtb_5 56 (by rfl) rfl, ini_X10, by decide, by decide, by decide +kernel⟩
set_option maxRecDepth 20000 in
theorem mv_X10_isFilled : mwV yX10_isFilled := ⟨gtb_5 55 (by rfl) rfl, gtb_pr 32 (by rfl) rfl⟩
set_option maxRecDepth 20000 in
theorem mw_X10_filledYears : mwI yX10_filledYears cX10_filledYears 6 (some .int) 3 := ⟨gtb_5 52 (by rfl) rfl, ini_X10, by decide, by decide, by decide +kernel⟩
set_option maxRecDepth 20000 in
theorem mv_X10_filledYears : mwV yX10_filledYears := ⟨gtb_5 51 (by rfl) rfl, gtb_pr 31 (by rfl) rfl⟩
set_option maxRecDepth 20000 in
theorem mw_X10_copyYears : mwI yX10_copyYears cX10_copyYears 5 none 3 := ⟨gtb_5 60 (by rfl) rfl, ini_X10, by decide, by decide, by decide +kernel⟩
set_option maxRecDepth 20000 in
theorem mv_X10_copyYears : mwV yX10_copyYears := ⟨gtb_5 59 (by rfl) rfl, gtb_pr 33 (by rfl) rfl⟩
set_option maxRecDepth 20000 in
theorem mw_X10_loseYears : mwI yX10_loseYears cX10_loseYears 4 none 2 := ⟨gtb_5 64 (by rfl) rfl, ini_X10, by decide, by decide, by decide +kernel⟩
set_option maxRecDepth 20000 in
theorem mv_X10_loseYears : mwV yX10_loseYears := ⟨gtb_5 63 (by rfl) rfl, gtb_pr 34 (by rfl) rfl⟩
set_option maxRecDepth 20000 in
theorem mw_X10_divideUp : mwI yX10_divideUp cX10_divideUp 2 (some .int) 2 := ⟨gtb_4 123 (by rfl) rfl, ini_X10, by decide, by decide, by decide +kernel⟩
set_option maxRecDepth 20000 in
theorem ms_X10_divideUp : Cond.static yX10_divideUp ∈ gtb := gtb_4 122 (by rfl) rfl
set_option maxRecDepth 20000 in
theorem mw_X11_init : mwI yX11_init cX11_init 1 none 0 := ⟨gtb_5 82 (by rfl) rfl, ini_X11, by decide, by decide, by decide +kernel⟩
set_option maxRecDepth 20000 in
theorem mi_X11_init : Cond.instanceMethod yX11_init ∈ gtb := gtb_5 81 (by rfl) rfl
set_option maxRecDepth 20000 in
theorem mw_X11_in : mwI yX11_in cX11_in 6 (some .boolean) 3 := ⟨gtb_6 58 (by rfl) rfl, ini_X11, by decide, by decide, by decide +kernel⟩
set_option maxRecDepth 20000 in
theorem ms_X11_in : Cond.static yX11_in ∈ gtb := gtb_6 57 (by rfl) rfl
set_option maxRecDepth 20000 in
theorem mw_X11_isSpelling : mwI yX11_isSpelling cX11_isSpelling 2 (some .boolean) 1 := ⟨gtb_6 66 (by rfl) rfl, ini_X11, by decide, by decide, by decide +kernel⟩
set_option maxRecDepth 20000 in
theorem mv_X11_isSpelling : mwV yX11_isSpelling := ⟨gtb_6 65 (by rfl) rfl, gtb_pr 35 (by rfl) rfl⟩
set_option maxRecDepth 20000 in
theorem mw_X11_spelling : mwI yX11_spelling cX11_spelling 10 (some .int) 1 := ⟨gtb_6 52 (by rfl) rfl, ini_X11, by decide, by decide, by decide +kernel⟩
set_option maxRecDepth 20000 in
theorem mv_X11_spelling : mwV yX11_spelling := ⟨gtb_6 50 (by rfl) rfl, gtb_6 51 (by rfl) rfl⟩
set_option maxRecDepth 20000 in
theorem mw_X11_letters : mwI yX11_letters cX11_letters 5 (some .long) 1 := ⟨gtb_6 62 (by rfl) rfl, ini_X11, by decide, by decide, by decide +kernel⟩
set_option maxRecDepth 20000 in
theorem mv_X11_letters : mwV yX11_letters := ⟨gtb_6 60 (by rfl) rfl, gtb_6 61 (by rfl) rfl⟩
set_option maxRecDepth 20000 in
theorem mw_X11_feed : mwI yX11_feed cX11_feed 4 (some .int) 1 := ⟨gtb_6 71 (by rfl) rfl, ini_X11, by decide, by decide, by decide +kernel⟩
set_option maxRecDepth 20000 in
theorem mv_X11_feed : mwV yX11_feed := ⟨gtb_6 69 (by rfl) rfl, gtb_6 70 (by rfl) rfl⟩
set_option maxRecDepth 20000 in
theorem mw_X11_end : mwI yX11_end cX11_end 3 (some .int) 1 := ⟨gtb_6 75 (by rfl) rfl, ini_X11, by decide, by decide, by decide +kernel⟩
set_option maxRecDepth 20000 in
theorem mv_X11_end : mwV yX11_end := ⟨gtb_6 73 (by rfl) rfl, gtb_6 74 (by rfl) rfl⟩
set_option maxRecDepth 20000 in
theorem mw_X11_byteAt : mwI yX11_byteAt cX11_byteAt 2 (some .int) 1 := ⟨gtb_6 87 (by rfl) rfl, ini_X11, by decide, by decide, by decide +kernel⟩
set_option maxRecDepth 20000 in
theorem mv_X11_byteAt : mwV yX11_byteAt := ⟨gtb_6 86 (by rfl) rfl, gtb_pr 37 (by rfl) rfl⟩
set_option maxRecDepth 20000 in
theorem mw_X11_fails : mwI yX11_fails cX11_fails 2 none 1 := ⟨gtb_6 95 (by rfl) rfl, ini_X11, by decide, by decide, by decide +kernel⟩
set_option maxRecDepth 20000 in
theorem mv_X11_fails : mwV yX11_fails := ⟨gtb_6 94 (by rfl) rfl, gtb_pr 38 (by rfl) rfl⟩
set_option maxRecDepth 20000 in
theorem mw_X11_next : mwI yX11_next cX11_next 2 none 0 := ⟨gtb_6 83 (by rfl) rfl, ini_X11, by decide, by decide, by decide +kernel⟩
set_option maxRecDepth 20000 in
theorem mv_X11_next : mwV yX11_next := ⟨gtb_6 82 (by rfl) rfl, gtb_pr 36 (by rfl) rfl⟩
set_option maxRecDepth 20000 in
theorem mw_X11_lineAt : mwI yX11_lineAt cX11_lineAt 4 (some .int) 0 := ⟨gtb_6 103 (by rfl) rfl, ini_X11, by decide, by decide, by decide +kernel⟩
set_option maxRecDepth 20000 in
theorem mv_X11_lineAt : mwV yX11_lineAt := ⟨gtb_6 102 (by rfl) rfl, gtb_pr 40 (by rfl) rfl⟩
set_option maxRecDepth 20000 in
theorem mw_X11_wantName : mwI yX11_wantName cX11_wantName 2 none 1 := ⟨gtb_6 111 (by rfl) rfl, ini_X11, by decide, by decide, by decide +kernel⟩
set_option maxRecDepth 20000 in
theorem mv_X11_wantName : mwV yX11_wantName := ⟨gtb_6 110 (by rfl) rfl, gtb_pr 42 (by rfl) rfl⟩
set_option maxRecDepth 20000 in
theorem mw_X11_letter : mwI yX11_letter cX11_letter 2 (some .int) 1 := ⟨gtb_6 115 (by rfl) rfl, ini_X11, by decide, by decide, by decide +kernel⟩
set_option maxRecDepth 20000 in
theorem mv_X11_letter : mwV yX11_letter := ⟨gtb_6 114 (by rfl) rfl, gtb_pr 43 (by rfl) rfl⟩
set_option maxRecDepth 20000 in
theorem mw_X11_number : mwI yX11_number cX11_number 3 (some .int) 2 := ⟨gtb_6 123 (by rfl) rfl, ini_X11, by decide, by decide, by decide +kernel⟩
set_option maxRecDepth 20000 in
theorem mv_X11_number : mwV yX11_number := ⟨gtb_6 122 (by rfl) rfl, gtb_pr 45 (by rfl) rfl⟩
set_option maxRecDepth 20000 in
theorem mw_X11_readSay : mwI yX11_readSay cX11_readSay 3 none 1 := ⟨gtb_6 107 (by rfl) rfl, ini_X11, by decide, by decide, by decide +kernel⟩
set_option maxRecDepth 20000 in
theorem mv_X11_readSay : mwV yX11_readSay := ⟨gtb_6 106 (by rfl) rfl, gtb_pr 41 (by rfl) rfl⟩
set_option maxRecDepth 20000 in
theorem mw_X11_readLike : mwI yX11_readLike cX11_readLike 4 none 0 := ⟨gtb_6 119 (by rfl) rfl, ini_X11, by decide, by decide, by decide +kernel⟩
set_option maxRecDepth 20000 in
theorem mv_X11_readLike : mwV yX11_readLike := ⟨gtb_6 118 (by rfl) rfl, gtb_pr 44 (by rfl) rfl⟩
set_option maxRecDepth 20000 in
theorem mw_X11_readSons : mwI yX11_readSons cX11_readSons 4 none 0 := ⟨gtb_6 127 (by rfl) rfl, ini_X11, by decide, by decide, by decide +kernel⟩
set_option maxRecDepth 20000 in
theorem mv_X11_readSons : mwV yX11_readSons := ⟨gtb_6 126 (by rfl) rfl, gtb_pr 46 (by rfl) rfl⟩
set_option maxRecDepth 20000 in
theorem mw_X11_readLine : mwI yX11_readLine cX11_readLine 2 none 0 := ⟨gtb_6 99 (by rfl) rfl, ini_X11, by decide, by decide, by decide +kernel⟩
set_option maxRecDepth 20000 in
theorem mv_X11_readLine : mwV yX11_readLine := ⟨gtb_6 98 (by rfl) rfl, gtb_pr 39 (by rfl) rfl⟩
set_option maxRecDepth 20000 in
theorem mw_X11_rules : mwI yX11_rules cX11_rules 2 (some .int) 0 := ⟨gtb_6 79 (by rfl) rfl, ini_X11, by decide, by decide, by decide +kernel⟩
set_option maxRecDepth 20000 in
theorem mv_X11_rules : mwV yX11_rules := ⟨gtb_6 77 (by rfl) rfl, gtb_6 78 (by rfl) rfl⟩
set_option maxRecDepth 20000 in
theorem mw_X11_fault : mwI yX11_fault cX11_fault 1 (some .int) 0 := ⟨gtb_6 131 (by rfl) rfl, ini_X11, by decide, by decide, by decide +kernel⟩
set_option maxRecDepth 20000 in
theorem mv_X11_fault : mwV yX11_fault := ⟨gtb_6 129 (by rfl) rfl, gtb_6 130 (by rfl) rfl⟩
set_option maxRecDepth 20000 in
theorem mw_X11_rule : mwI yX11_rule cX11_rule 2 (some .int) 1 := ⟨gtb_6 135 (by rfl) rfl, ini_X11, by decide, by decide, by decide +kernel⟩
set_option maxRecDepth 20000 in
theorem mv_X11_rule : mwV yX11_rule := ⟨gtb_6 133 (by rfl) rfl, gtb_6 134 (by rfl) rfl⟩
set_option maxRecDepth 20000 in
theorem mw_X11_saidAt : mwI yX11_saidAt cX11_saidAt 10 (some .int) 2 := ⟨gtb_6 148 (by rfl) rfl, ini_X11, by decide, by decide, by decide +kernel⟩
set_option maxRecDepth 20000 in
theorem mv_X11_saidAt : mwV yX11_saidAt := ⟨gtb_6 147 (by rfl) rfl, gtb_pr 48 (by rfl) rfl⟩
set_option maxRecDepth 20000 in
theorem mw_X11_saidSize : mwI yX11_saidSize cX11_saidSize 2 (some .int) 1 := ⟨gtb_6 152 (by rfl) rfl, ini_X11, by decide, by decide, by decide +kernel⟩
set_option maxRecDepth 20000 in
theorem mv_X11_saidSize : mwV yX11_saidSize := ⟨gtb_6 151 (by rfl) rfl, gtb_pr 49 (by rfl) rfl⟩
set_option maxRecDepth 20000 in
theorem mw_X11_laySound : mwI yX11_laySound cX11_laySound 6 none 1 := ⟨gtb_6 144 (by rfl) rfl, ini_X11, by decide, by decide, by decide +kernel⟩
set_option maxRecDepth 20000 in
theorem mv_X11_laySound : mwV yX11_laySound := ⟨gtb_6 143 (by rfl) rfl, gtb_pr 47 (by rfl) rfl⟩
set_option maxRecDepth 20000 in
theorem mw_X11_changed : mwI yX11_changed cX11_changed 4 (some .int) 2 := ⟨gtb_6 172 (by rfl) rfl, ini_X11, by decide, by decide, by decide +kernel⟩
set_option maxRecDepth 20000 in
theorem mv_X11_changed : mwV yX11_changed := ⟨gtb_6 171 (by rfl) rfl, gtb_pr 52 (by rfl) rfl⟩
set_option maxRecDepth 20000 in
theorem mw_X11_less : mwI yX11_less cX11_less 2 (some .int) 2 := ⟨gtb_6 175 (by rfl) rfl, ini_X11, by decide, by decide, by decide +kernel⟩
set_option maxRecDepth 20000 in
theorem ms_X11_less : Cond.static yX11_less ∈ gtb := gtb_6 174 (by rfl) rfl
set_option maxRecDepth 20000 in
theorem mw_X11_farOf : mwI yX11_farOf cX11_farOf 9 (some .int) 2 := ⟨gtb_6 168 (by rfl) rfl, ini_X11, by decide, by decide, by decide +kernel⟩
set_option maxRecDepth 20000 in
theorem mv_X11_farOf : mwV yX11_farOf := ⟨gtb_6 167 (by rfl) rfl, gtb_pr 51 (by rfl) rfl⟩
set_option maxRecDepth 20000 in
theorem mw_X11_layNames : mwI yX11_layNames cX11_layNames 4 none 0 := ⟨gtb_6 164 (by rfl) rfl, ini_X11, by decide, by decide, by decide +kernel⟩
set_option maxRecDepth 20000 in
theorem mv_X11_layNames : mwV yX11_layNames := ⟨gtb_6 163 (by rfl) rfl, gtb_pr 50 (by rfl) rfl⟩
set_option maxRecDepth 20000 in
theorem mw_X11_sound : mwI yX11_sound cX11_sound 6 (some .long) 1 := ⟨gtb_6 140 (by rfl) rfl, ini_X11, by decide, by decide, by decide +kernel⟩
set_option maxRecDepth 20000 in
theorem mv_X11_sound : mwV yX11_sound := ⟨gtb_6 138 (by rfl) rfl, gtb_6 139 (by rfl) rfl⟩
set_option maxRecDepth 20000 in
theorem mw_X11_sounds : mwI yX11_sounds cX11_sounds 2 (some .int) 1 := ⟨gtb_6 156 (by rfl) rfl, ini_X11, by decide, by decide, by decide +kernel⟩
set_option maxRecDepth 20000 in
theorem mv_X11_sounds : mwV yX11_sounds := ⟨gtb_6 154 (by rfl) rfl, gtb_6 155 (by rfl) rfl⟩
set_option maxRecDepth 20000 in
theorem mw_X11_apart : mwI yX11_apart cX11_apart 3 (some .int) 2 := ⟨gtb_6 160 (by rfl) rfl, ini_X11, by decide, by decide, by decide +kernel⟩
set_option maxRecDepth 20000 in
theorem mv_X11_apart : mwV yX11_apart := ⟨gtb_6 158 (by rfl) rfl, gtb_6 159 (by rfl) rfl⟩
set_option maxRecDepth 20000 in
theorem mw_X11_name : mwI yX11_name cX11_name 2 (some .int) 1 := ⟨gtb_6 179 (by rfl) rfl, ini_X11, by decide, by decide, by decide +kernel⟩
set_option maxRecDepth 20000 in
theorem mv_X11_name : mwV yX11_name := ⟨gtb_6 177 (by rfl) rfl, gtb_6 178 (by rfl) rfl⟩
set_option maxRecDepth 20000 in
theorem mw_X11_layChains : mwI yX11_layChains cX11_layChains 7 none 1 := ⟨gtb_6 189 (by rfl) rfl, ini_X11, by decide, by decide, by decide +kernel⟩
set_option maxRecDepth 20000 in
theorem mv_X11_layChains : mwV yX11_layChains := ⟨gtb_6 188 (by rfl) rfl, gtb_pr 53 (by rfl) rfl⟩
set_option maxRecDepth 20000 in
theorem mw_X11_goesOn : mwI yX11_goesOn cX11_goesOn 4 (some .boolean) 2 := ⟨gtb_6 194 (by rfl) rfl, ini_X11, by decide, by decide, by decide +kernel⟩
set_option maxRecDepth 20000 in
theorem mv_X11_goesOn : mwV yX11_goesOn := ⟨gtb_6 193 (by rfl) rfl, gtb_pr 54 (by rfl) rfl⟩
set_option maxRecDepth 20000 in
theorem mw_X11_chain : mwI yX11_chain cX11_chain 7 (some .int) 3 := ⟨gtb_6 183 (by rfl) rfl, ini_X11, by decide, by decide, by decide +kernel⟩
set_option maxRecDepth 20000 in
theorem mv_X11_chain : mwV yX11_chain := ⟨gtb_6 181 (by rfl) rfl, gtb_6 182 (by rfl) rfl⟩
set_option maxRecDepth 20000 in
theorem mw_X11_sizeOf : mwI yX11_sizeOf cX11_sizeOf 3 (some .int) 1 := ⟨gtb_6 202 (by rfl) rfl, ini_X11, by decide, by decide, by decide +kernel⟩
set_option maxRecDepth 20000 in
theorem ms_X11_sizeOf : Cond.static yX11_sizeOf ∈ gtb := gtb_6 201 (by rfl) rfl
set_option maxRecDepth 20000 in
theorem mw_X11_standing : mwI yX11_standing cX11_standing 8 (some .int) 1 := ⟨gtb_6 198 (by rfl) rfl, ini_X11, by decide, by decide, by decide +kernel⟩
set_option maxRecDepth 20000 in
theorem mv_X11_standing : mwV yX11_standing := ⟨gtb_6 196 (by rfl) rfl, gtb_6 197 (by rfl) rfl⟩
set_option maxRecDepth 20000 in
theorem mw_X11_firstAsFew : mwI yX11_firstAsFew cX11_firstAsFew 6 (some .int) 2 := ⟨gtb_6 206 (by rfl) rfl, ini_X11, by decide, by decide, by decide +kernel⟩
set_option maxRecDepth 20000 in
theorem mv_X11_firstAsFew : mwV yX11_firstAsFew := ⟨gtb_6 205 (by rfl) rfl, gtb_pr 55 (by rfl) rfl⟩
set_option maxRecDepth 20000 in
theorem mw_X11_isPlace : mwI yX11_isPlace cX11_isPlace 2 (some .boolean) 1 := ⟨gtb_6 219 (by rfl) rfl, ini_X11, by decide, by decide, by decide +kernel⟩
set_option maxRecDepth 20000 in
theorem mv_X11_isPlace : mwV yX11_isPlace := ⟨gtb_6 218 (by rfl) rfl, gtb_pr 56 (by rfl) rfl⟩
set_option maxRecDepth 20000 in
theorem mw_X11_isBook : mwI yX11_isBook cX11_isBook 2 (some .boolean) 1 := ⟨gtb_6 229 (by rfl) rfl, ini_X11, by decide, by decide, by decide +kernel⟩
set_option maxRecDepth 20000 in
theorem mv_X11_isBook : mwV yX11_isBook := ⟨gtb_6 228 (by rfl) rfl, gtb_pr 57 (by rfl) rfl⟩
set_option maxRecDepth 20000 in
theorem mw_X11_isLine : mwI yX11_isLine cX11_isLine 2 (some .boolean) 1 := ⟨gtb_7 27 (by rfl) rfl, ini_X11, by decide, by decide, by decide +kernel⟩
set_option maxRecDepth 20000 in
theorem mv_X11_isLine : mwV yX11_isLine := ⟨gtb_7 26 (by rfl) rfl, gtb_pr 62 (by rfl) rfl⟩
set_option maxRecDepth 20000 in
theorem mw_X11_place : mwI yX11_place cX11_place 3 (some .int) 2 := ⟨gtb_6 210 (by rfl) rfl, ini_X11, by decide, by decide, by decide +kernel⟩
set_option maxRecDepth 20000 in
theorem mv_X11_place : mwV yX11_place := ⟨gtb_6 208 (by rfl) rfl, gtb_6 209 (by rfl) rfl⟩
set_option maxRecDepth 20000 in
theorem mw_X11_book : mwI yX11_book cX11_book 4 (some .int) 3 := ⟨gtb_6 215 (by rfl) rfl, ini_X11, by decide, by decide, by decide +kernel⟩
set_option maxRecDepth 20000 in
theorem mv_X11_book : mwV yX11_book := ⟨gtb_6 213 (by rfl) rfl, gtb_6 214 (by rfl) rfl⟩
set_option maxRecDepth 20000 in
theorem mw_X11_linesOf : mwI yX11_linesOf cX11_linesOf 4 (some .int) 1 := ⟨gtb_7 5 (by rfl) rfl, ini_X11, by decide, by decide, by decide +kernel⟩
set_option maxRecDepth 20000 in
theorem mv_X11_linesOf : mwV yX11_linesOf := ⟨gtb_7 4 (by rfl) rfl, gtb_pr 60 (by rfl) rfl⟩
set_option maxRecDepth 20000 in
theorem mw_X11_isHole : mwI yX11_isHole cX11_isHole 3 (some .boolean) 2 := ⟨gtb_6 237 (by rfl) rfl, ini_X11, by decide, by decide, by decide +kernel⟩
set_option maxRecDepth 20000 in
theorem mv_X11_isHole : mwV yX11_isHole := ⟨gtb_6 236 (by rfl) rfl, gtb_pr 59 (by rfl) rfl⟩
set_option maxRecDepth 20000 in
theorem mw_X11_hole : mwI yX11_hole cX11_hole 5 (some .int) 3 := ⟨gtb_6 225 (by rfl) rfl, ini_X11, by decide, by decide, by decide +kernel⟩
set_option maxRecDepth 20000 in
theorem mv_X11_hole : mwV yX11_hole := ⟨gtb_6 223 (by rfl) rfl, gtb_6 224 (by rfl) rfl⟩
set_option maxRecDepth 20000 in
theorem mw_X11_bookOf : mwI yX11_bookOf cX11_bookOf 6 (some .int) 2 := ⟨gtb_7 1 (by rfl) rfl, ini_X11, by decide, by decide, by decide +kernel⟩
set_option maxRecDepth 20000 in
theorem mv_X11_bookOf : mwV yX11_bookOf := ⟨gtb_6 239 (by rfl) rfl, gtb_7 0 (by rfl) rfl⟩
set_option maxRecDepth 20000 in
theorem mw_X11_addLine : mwI yX11_addLine cX11_addLine 5 none 4 := ⟨gtb_7 14 (by rfl) rfl, ini_X11, by decide, by decide, by decide +kernel⟩
set_option maxRecDepth 20000 in
theorem mv_X11_addLine : mwV yX11_addLine := ⟨gtb_7 13 (by rfl) rfl, gtb_pr 61 (by rfl) rfl⟩
set_option maxRecDepth 20000 in
theorem mw_X11_line : mwI yX11_line cX11_line 5 (some .int) 4 := ⟨gtb_7 9 (by rfl) rfl, ini_X11, by decide, by decide, by decide +kernel⟩
set_option maxRecDepth 20000 in
theorem mv_X11_line : mwV yX11_line := ⟨gtb_7 7 (by rfl) rfl, gtb_7 8 (by rfl) rfl⟩
set_option maxRecDepth 20000 in
theorem mw_X11_day : mwI yX11_day cX11_day 3 (some .int) 1 := ⟨gtb_7 18 (by rfl) rfl, ini_X11, by decide, by decide, by decide +kernel⟩
set_option maxRecDepth 20000 in
theorem mv_X11_day : mwV yX11_day := ⟨gtb_7 16 (by rfl) rfl, gtb_7 17 (by rfl) rfl⟩
set_option maxRecDepth 20000 in
theorem mw_X11_again : mwI yX11_again cX11_again 3 (some .int) 2 := ⟨gtb_7 23 (by rfl) rfl, ini_X11, by decide, by decide, by decide +kernel⟩
set_option maxRecDepth 20000 in
theorem mv_X11_again : mwV yX11_again := ⟨gtb_7 21 (by rfl) rfl, gtb_7 22 (by rfl) rfl⟩
set_option maxRecDepth 20000 in
theorem mw_X11_lineOf : mwI yX11_lineOf cX11_lineOf 3 (some .int) 2 := ⟨gtb_7 31 (by rfl) rfl, ini_X11, by decide, by decide, by decide +kernel⟩
set_option maxRecDepth 20000 in
theorem mv_X11_lineOf : mwV yX11_lineOf := ⟨gtb_7 29 (by rfl) rfl, gtb_7 30 (by rfl) rfl⟩
set_option maxRecDepth 20000 in
theorem mw_X11_known : mwI yX11_known cX11_known 5 (some .int) 2 := ⟨gtb_7 36 (by rfl) rfl, ini_X11, by decide, by decide, by decide +kernel⟩
set_option maxRecDepth 20000 in
theorem mv_X11_known : mwV yX11_known := ⟨gtb_7 34 (by rfl) rfl, gtb_7 35 (by rfl) rfl⟩
set_option maxRecDepth 20000 in
theorem mw_X11_worthOf : mwI yX11_worthOf cX11_worthOf 1 (some .int) 1 := ⟨gtb_7 43 (by rfl) rfl, ini_X11, by decide, by decide, by decide +kernel⟩
set_option maxRecDepth 20000 in
theorem ms_X11_worthOf : Cond.static yX11_worthOf ∈ gtb := gtb_7 42 (by rfl) rfl
set_option maxRecDepth 20000 in
theorem mw_X11_bearers : mwI yX11_bearers cX11_bearers 10 (some .int) 5 := ⟨gtb_7 40 (by rfl) rfl, ini_X11, by decide, by decide, by decide +kernel⟩
set_option maxRecDepth 20000 in
theorem mv_X11_bearers : mwV yX11_bearers := ⟨gtb_7 38 (by rfl) rfl, gtb_7 39 (by rfl) rfl⟩
set_option maxRecDepth 20000 in
theorem mw_X11_layFirsts : mwI yX11_layFirsts cX11_layFirsts 4 none 1 := ⟨gtb_7 51 (by rfl) rfl, ini_X11, by decide, by decide, by decide +kernel⟩
set_option maxRecDepth 20000 in
theorem mv_X11_layFirsts : mwV yX11_layFirsts := ⟨gtb_7 50 (by rfl) rfl, gtb_pr 63 (by rfl) rfl⟩
set_option maxRecDepth 20000 in
theorem mw_X11_first : mwI yX11_first cX11_first 3 (some .int) 2 := ⟨gtb_7 47 (by rfl) rfl, ini_X11, by decide, by decide, by decide +kernel⟩
set_option maxRecDepth 20000 in
theorem mv_X11_first : mwV yX11_first := ⟨gtb_7 45 (by rfl) rfl, gtb_7 46 (by rfl) rfl⟩
set_option maxRecDepth 20000 in
theorem mw_X11_lets : mwI yX11_lets cX11_lets 7 (some .boolean) 3 := ⟨gtb_7 68 (by rfl) rfl, ini_X11, by decide, by decide, by decide +kernel⟩
set_option maxRecDepth 20000 in
theorem mv_X11_lets : mwV yX11_lets := ⟨gtb_7 67 (by rfl) rfl, gtb_pr 66 (by rfl) rfl⟩
set_option maxRecDepth 20000 in
theorem mw_X11_withFirst : mwI yX11_withFirst cX11_withFirst 3 (some .int) 0 := ⟨gtb_7 60 (by rfl) rfl, ini_X11, by decide, by decide, by decide +kernel⟩
set_option maxRecDepth 20000 in
theorem mv_X11_withFirst : mwV yX11_withFirst := ⟨gtb_7 59 (by rfl) rfl, gtb_pr 64 (by rfl) rfl⟩
set_option maxRecDepth 20000 in
theorem mw_X11_doLet : mwI yX11_doLet cX11_doLet 7 (some .boolean) 2 := ⟨gtb_7 64 (by rfl) rfl, ini_X11, by decide, by decide, by decide +kernel⟩
set_option maxRecDepth 20000 in
theorem mv_X11_doLet : mwV yX11_doLet := ⟨gtb_7 63 (by rfl) rfl, gtb_pr 65 (by rfl) rfl⟩
set_option maxRecDepth 20000 in
theorem mw_X11_starts : mwI yX11_starts cX11_starts 9 (some .int) 2 := ⟨gtb_7 55 (by rfl) rfl, ini_X11, by decide, by decide, by decide +kernel⟩
set_option maxRecDepth 20000 in
theorem mv_X11_starts : mwV yX11_starts := ⟨gtb_7 53 (by rfl) rfl, gtb_7 54 (by rfl) rfl⟩
set_option maxRecDepth 20000 in
theorem mw_X11_judge : mwI yX11_judge cX11_judge 3 (some .int) 2 := ⟨gtb_7 72 (by rfl) rfl, ini_X11, by decide, by decide, by decide +kernel⟩
set_option maxRecDepth 20000 in
theorem mv_X11_judge : mwV yX11_judge := ⟨gtb_7 70 (by rfl) rfl, gtb_7 71 (by rfl) rfl⟩
set_option maxRecDepth 20000 in
theorem mw_X11_pace : mwI yX11_pace cX11_pace 4 (some .int) 1 := ⟨gtb_7 76 (by rfl) rfl, ini_X11, by decide, by decide, by decide +kernel⟩
set_option maxRecDepth 20000 in
theorem mv_X11_pace : mwV yX11_pace := ⟨gtb_7 74 (by rfl) rfl, gtb_7 75 (by rfl) rfl⟩
set_option maxRecDepth 20000 in
theorem mw_X11_dies : mwI yX11_dies cX11_dies 15 (some .long) 2 := ⟨gtb_7 80 (by rfl) rfl, ini_X11, by decide, by decide, by decide +kernel⟩
set_option maxRecDepth 20000 in
theorem mv_X11_dies : mwV yX11_dies := ⟨gtb_7 78 (by rfl) rfl, gtb_7 79 (by rfl) rfl⟩
set_option maxRecDepth 20000 in
theorem mw_X11_father : mwI yX11_father cX11_father 4 (some .int) 2 := ⟨gtb_7 84 (by rfl) rfl, ini_X11, by decide, by decide, by decide +kernel⟩
set_option maxRecDepth 20000 in
theorem mv_X11_father : mwV yX11_father := ⟨gtb_7 82 (by rfl) rfl, gtb_7 83 (by rfl) rfl⟩
set_option maxRecDepth 20000 in
theorem mw_X11_stepsTo : mwI yX11_stepsTo cX11_stepsTo 5 (some .int) 2 := ⟨gtb_7 96 (by rfl) rfl, ini_X11, by decide, by decide, by decide +kernel⟩
set_option maxRecDepth 20000 in
theorem mv_X11_stepsTo : mwV yX11_stepsTo := ⟨gtb_7 95 (by rfl) rfl, gtb_pr 68 (by rfl) rfl⟩
set_option maxRecDepth 20000 in
theorem mw_X11_kinOf : mwI yX11_kinOf cX11_kinOf 7 (some .int) 2 := ⟨gtb_7 92 (by rfl) rfl, ini_X11, by decide, by decide, by decide +kernel⟩
set_option maxRecDepth 20000 in
theorem mv_X11_kinOf : mwV yX11_kinOf := ⟨gtb_7 91 (by rfl) rfl, gtb_pr 67 (by rfl) rfl⟩
set_option maxRecDepth 20000 in
theorem mw_X11_kin : mwI yX11_kin cX11_kin 3 (some .int) 2 := ⟨gtb_7 88 (by rfl) rfl, ini_X11, by decide, by decide, by decide +kernel⟩
set_option maxRecDepth 20000 in
theorem mv_X11_kin : mwV yX11_kin := ⟨gtb_7 86 (by rfl) rfl, gtb_7 87 (by rfl) rfl⟩
set_option maxRecDepth 20000 in
theorem mw_X11_related : mwI yX11_related cX11_related 3 (some .int) 2 := ⟨gtb_7 100 (by rfl) rfl, ini_X11, by decide, by decide, by decide +kernel⟩
set_option maxRecDepth 20000 in
theorem mv_X11_related : mwV yX11_related := ⟨gtb_7 98 (by rfl) rfl, gtb_7 99 (by rfl) rfl⟩
set_option maxRecDepth 20000 in
theorem mw_X11_issue : mwI yX11_issue cX11_issue 8 (some .int) 2 := ⟨gtb_7 104 (by rfl) rfl, ini_X11, by decide, by decide, by decide +kernel⟩
set_option maxRecDepth 20000 in
theorem mv_X11_issue : mwV yX11_issue := ⟨gtb_7 102 (by rfl) rfl, gtb_7 103 (by rfl) rfl⟩
set_option maxRecDepth 20000 in
theorem mw_X11_sheet : mwI yX11_sheet cX11_sheet 5 (some .int) 3 := ⟨gtb_7 108 (by rfl) rfl, ini_X11, by decide, by decide, by decide +kernel⟩
set_option maxRecDepth 20000 in
theorem mv_X11_sheet : mwV yX11_sheet := ⟨gtb_7 106 (by rfl) rfl, gtb_7 107 (by rfl) rfl⟩
set_option maxRecDepth 20000 in
theorem mw_X11_lay : mwI yX11_lay cX11_lay 4 (some .int) 3 := ⟨gtb_7 112 (by rfl) rfl, ini_X11, by decide, by decide, by decide +kernel⟩
set_option maxRecDepth 20000 in
theorem mv_X11_lay : mwV yX11_lay := ⟨gtb_7 110 (by rfl) rfl, gtb_7 111 (by rfl) rfl⟩
set_option maxRecDepth 20000 in
theorem mw_X11_faultAt : mwI yX11_faultAt cX11_faultAt 4 (some .int) 3 := ⟨gtb_7 120 (by rfl) rfl, ini_X11, by decide, by decide, by decide +kernel⟩
set_option maxRecDepth 20000 in
theorem mv_X11_faultAt : mwV yX11_faultAt := ⟨gtb_7 119 (by rfl) rfl, gtb_pr 69 (by rfl) rfl⟩
set_option maxRecDepth 20000 in
theorem mw_X11_hasLine : mwI yX11_hasLine cX11_hasLine 5 (some .boolean) 2 := ⟨gtb_6 233 (by rfl) rfl, ini_X11, by decide, by decide, by decide +kernel⟩
set_option maxRecDepth 20000 in
theorem mv_X11_hasLine : mwV yX11_hasLine := ⟨gtb_6 232 (by rfl) rfl, gtb_pr 58 (by rfl) rfl⟩
set_option maxRecDepth 20000 in
theorem mw_X11_read : mwI yX11_read cX11_read 9 (some .int) 3 := ⟨gtb_7 116 (by rfl) rfl, ini_X11, by decide, by decide, by decide +kernel⟩
set_option maxRecDepth 20000 in
theorem mv_X11_read : mwV yX11_read := ⟨gtb_7 114 (by rfl) rfl, gtb_7 115 (by rfl) rfl⟩
set_option maxRecDepth 20000 in
theorem mw_X11_torn : mwI yX11_torn cX11_torn 1 (some .int) 0 := ⟨gtb_7 124 (by rfl) rfl, ini_X11, by decide, by decide, by decide +kernel⟩
set_option maxRecDepth 20000 in
theorem mv_X11_torn : mwV yX11_torn := ⟨gtb_7 122 (by rfl) rfl, gtb_7 123 (by rfl) rfl⟩
set_option maxRecDepth 20000 in
theorem mw_X11_count : mwI yX11_count cX11_count 4 (some .int) 1 := ⟨gtb_7 128 (by rfl) rfl, ini_X11, by decide, by decide, by decide +kernel⟩
set_option maxRecDepth 20000 in
theorem mv_X11_count : mwV yX11_count := ⟨gtb_7 126 (by rfl) rfl, gtb_7 127 (by rfl) rfl⟩
set_option maxRecDepth 20000 in
theorem mw_J6_numberOfTrailingZeros_0f7a4 : mwI yJ6_numberOfTrailingZeros_0f7a4 cJ6_numberOfTrailingZeros_0f7a4 2 (some .int) 1 := ⟨gtb_3 215 (by rfl) rfl, ini_J6, by decide, by decide, by decide +kernel⟩
set_option maxRecDepth 20000 in
theorem ms_J6_numberOfTrailingZeros_0f7a4 : Cond.static yJ6_numberOfTrailingZeros_0f7a4 ∈ gtb := gtb_3 214 (by rfl) rfl
set_option maxRecDepth 20000 in
theorem mw_J6_bitCount_0f7a4 : mwI yJ6_bitCount_0f7a4 cJ6_bitCount_0f7a4 1 (some .int) 1 := ⟨gtb_3 219 (by rfl) rfl, ini_J6, by decide, by decide, by decide +kernel⟩
set_option maxRecDepth 20000 in
theorem ms_J6_bitCount_0f7a4 : Cond.static yJ6_bitCount_0f7a4 ∈ gtb := gtb_3 218 (by rfl) rfl
set_option maxRecDepth 20000 in
theorem mw_J13_bitCount_95d88 : mwI yJ13_bitCount_95d88 cJ13_bitCount_95d88 2 (some .int) 1 := ⟨gtb_4 37 (by rfl) rfl, ini_J13, by decide, by decide, by decide +kernel⟩
set_option maxRecDepth 20000 in
theorem ms_J13_bitCount_95d88 : Cond.static yJ13_bitCount_95d88 ∈ gtb := gtb_4 36 (by rfl) rfl
set_option maxRecDepth 20000 in
theorem mw_J9_abs_0f7a4 : mwI yJ9_abs_0f7a4 cJ9_abs_0f7a4 1 (some .int) 1 := ⟨gtb_4 159 (by rfl) rfl, ini_J9, by decide, by decide, by decide +kernel⟩
set_option maxRecDepth 20000 in
theorem ms_J9_abs_0f7a4 : Cond.static yJ9_abs_0f7a4 ∈ gtb := gtb_4 158 (by rfl) rfl
set_option maxRecDepth 20000 in
theorem mw_J9_max_7cf53 : mwI yJ9_max_7cf53 cJ9_max_7cf53 2 (some .int) 2 := ⟨gtb_4 108 (by rfl) rfl, ini_J9, by decide, by decide, by decide +kernel⟩
set_option maxRecDepth 20000 in
theorem ms_J9_max_7cf53 : Cond.static yJ9_max_7cf53 ∈ gtb := gtb_4 107 (by rfl) rfl
set_option maxRecDepth 20000 in
theorem mw_J9_min_7cf53 : mwI yJ9_min_7cf53 cJ9_min_7cf53 2 (some .int) 2 := ⟨gtb_2 200 (by rfl) rfl, ini_J9, by decide, by decide, by decide +kernel⟩
set_option maxRecDepth 20000 in
theorem ms_J9_min_7cf53 : Cond.static yJ9_min_7cf53 ∈ gtb := gtb_2 199 (by rfl) rfl
set_option maxRecDepth 20000 in
theorem mw_J0_length_8abf5 : mwI yJ0_length_8abf5 cJ0_length_8abf5 1 (some .int) 0 := ⟨gtb_3 30 (by rfl) rfl, ini_J0, by decide, by decide, by decide +kernel⟩
set_option maxRecDepth 20000 in
theorem mv_J0_length_8abf5 : mwV yJ0_length_8abf5 := ⟨gtb_3 28 (by rfl) rfl, gtb_3 29 (by rfl) rfl⟩
set_option maxRecDepth 20000 in
theorem mw_J0_charAt_5068e : mwI yJ0_charAt_5068e cJ0_charAt_5068e 2 (some .char) 1 := ⟨gtb_3 40 (by rfl) rfl, ini_J0, by decide, by decide, by decide +kernel⟩
set_option maxRecDepth 20000 in
theorem mv_J0_charAt_5068e : mwV yJ0_charAt_5068e := ⟨gtb_3 38 (by rfl) rfl, gtb_3 39 (by rfl) rfl⟩
set_option maxRecDepth 20000 in
theorem mw_J0_coder_7d493 : mwI yJ0_coder_7d493 cJ0_coder_7d493 1 (some .byte) 0 := ⟨gtb_3 34 (by rfl) rfl, ini_J0, by decide, by decide, by decide +kernel⟩
set_option maxRecDepth 20000 in
theorem mv_J0_coder_7d493 : mwV yJ0_coder_7d493 := ⟨gtb_3 32 (by rfl) rfl, gtb_3 33 (by rfl) rfl⟩
set_option maxRecDepth 20000 in
theorem mw_J0_isLatin1_aae02 : mwI yJ0_isLatin1_aae02 cJ0_isLatin1_aae02 1 (some .boolean) 0 := ⟨gtb_3 44 (by rfl) rfl, ini_J0, by decide, by decide, by decide +kernel⟩
set_option maxRecDepth 20000 in
theorem mv_J0_isLatin1_aae02 : mwV yJ0_isLatin1_aae02 := ⟨gtb_3 42 (by rfl) rfl, gtb_3 43 (by rfl) rfl⟩
set_option maxRecDepth 20000 in
theorem mw_J0_checkIndex_df160 : mwI yJ0_checkIndex_df160 cJ0_checkIndex_df160 2 none 2 := ⟨gtb_3 50 (by rfl) rfl, ini_J0, by decide, by decide, by decide +kernel⟩
set_option maxRecDepth 20000 in
theorem ms_J0_checkIndex_df160 : Cond.static yJ0_checkIndex_df160 ∈ gtb := gtb_3 49 (by rfl) rfl
set_option maxRecDepth 20000 in
theorem mw_J1_charAt_3b067 : mwI yJ1_charAt_3b067 cJ1_charAt_3b067 2 (some .char) 2 := ⟨gtb_3 47 (by rfl) rfl, ini_J1, by decide, by decide, by decide +kernel⟩
set_option maxRecDepth 20000 in
theorem ms_J1_charAt_3b067 : Cond.static yJ1_charAt_3b067 ∈ gtb := gtb_3 46 (by rfl) rfl
set_option maxRecDepth 20000 in
theorem mw_J2_getChar_3b067 : mwI yJ2_getChar_3b067 cJ2_getChar_3b067 2 (some .char) 2 := ⟨gtb_3 68 (by rfl) rfl, ini_J2, by decide, by decide, by decide +kernel⟩
set_option maxRecDepth 20000 in
theorem ms_J2_getChar_3b067 : Cond.static yJ2_getChar_3b067 ∈ gtb := gtb_3 67 (by rfl) rfl
set_option maxRecDepth 20000 in
theorem mw_J2_length_9d52b : mwI yJ2_length_9d52b cJ2_length_9d52b 1 (some .int) 1 := ⟨gtb_3 64 (by rfl) rfl, ini_J2, by decide, by decide, by decide +kernel⟩
set_option maxRecDepth 20000 in
theorem ms_J2_length_9d52b : Cond.static yJ2_length_9d52b ∈ gtb := gtb_3 63 (by rfl) rfl
set_option maxRecDepth 20000 in
theorem mw_J2_charAt_3b067 : mwI yJ2_charAt_3b067 cJ2_charAt_3b067 2 (some .char) 2 := ⟨gtb_3 58 (by rfl) rfl, ini_J2, by decide, by decide, by decide +kernel⟩
set_option maxRecDepth 20000 in
theorem ms_J2_charAt_3b067 : Cond.static yJ2_charAt_3b067 ∈ gtb := gtb_3 57 (by rfl) rfl
set_option maxRecDepth 20000 in
theorem mw_J2_checkIndex_2214a : mwI yJ2_checkIndex_2214a cJ2_checkIndex_2214a 2 none 2 := ⟨gtb_3 61 (by rfl) rfl, ini_J2, by decide, by decide, by decide +kernel⟩
set_option maxRecDepth 20000 in
theorem ms_J2_checkIndex_2214a : Cond.static yJ2_checkIndex_2214a ∈ gtb := gtb_3 60 (by rfl) rfl
set_option maxRecDepth 20000 in
theorem mw_J7_fill_53178 : mwI yJ7_fill_53178 cJ7_fill_53178 4 none 2 := ⟨gtb_1 102 (by rfl) rfl, ini_J7, by decide, by decide, by decide +kernel⟩
set_option maxRecDepth 20000 in
theorem ms_J7_fill_53178 : Cond.static yJ7_fill_53178 ∈ gtb := gtb_1 101 (by rfl) rfl
set_option maxRecDepth 20000 in
theorem mw_J3_checkIndex_8e157 : mwI yJ3_checkIndex_8e157 cJ3_checkIndex_8e157 3 (some .int) 3 := ⟨gtb_3 55 (by rfl) rfl, ini_J3, by decide, by decide, by decide +kernel⟩
set_option maxRecDepth 20000 in
theorem ms_J3_checkIndex_8e157 : Cond.static yJ3_checkIndex_8e157 ∈ gtb := gtb_3 54 (by rfl) rfl
