/-! what does not touch the memory's told part keeps the tie -/
section Frames
variable {σ σ' τ τ' : St}
theorem CP.fr {P : DP} (h : CP σ P) (e : Off 27 30 σ σ') : CP σ' P := by
  unfold CP
  rw [e 27 (by omega) (by omega), e 28 (by omega) (by omega), e 29 (by omega) (by omega)]
  exact h
theorem CB.fr {B : DB} (h : CB σ B) (e : Off 27 33 σ σ') (eJ : gJ σ' 33 = gJ σ 33) : CB σ' B := by
  unfold CB
  rw [e 27 (by omega) (by omega), e 30 (by omega) (by omega), e 31 (by omega) (by omega), e 32 (by omega) (by omega), eJ]
  exact h
theorem CL.fr {L : DL} (h : CL σ L) (e : Off 34 43 σ σ') : CL σ' L := by
  unfold CL
  rw [e 34 (by omega) (by omega), e 35 (by omega) (by omega), e 36 (by omega) (by omega), e 37 (by omega) (by omega), e 38 (by omega) (by omega), e 39 (by omega) (by omega), e 40 (by omega) (by omega), e 41 (by omega) (by omega), e 42 (by omega) (by omega)]
  exact h
theorem CR.fr {R : DR} (h : CR σ R) (e : Off 34 46 σ σ') : CR σ' R := by
  unfold CR
  rw [e 34 (by omega) (by omega), e 43 (by omega) (by omega), e 44 (by omega) (by omega), e 45 (by omega) (by omega)]
  exact h
theorem CZ.fr {a b c : Nat} (h : CZ σ a b c) (e : Off 0 1 σ σ') : CZ σ' a b c := by
  unfold CZ
  rw [e 0 (by omega) (by omega)]
  exact h
theorem CT.fr {T : DT} (h : CT σ T) (e : Off 1 3 σ σ') : CT σ' T := by
  unfold CT
  rw [e 1 (by omega) (by omega), e 2 (by omega) (by omega)]
  exact h
theorem CW.fr {W : DW} {U : DU} {nm : Nat → Nat} (h : CW σ W U nm) (e : Off 18 25 σ σ') (eJ : gJ σ' 19 = gJ σ 19) : CW σ' W U nm := by
  unfold CW
  rw [e 18 (by omega) (by omega), e 20 (by omega) (by omega), e 21 (by omega) (by omega), e 22 (by omega) (by omega), e 23 (by omega) (by omega), e 24 (by omega) (by omega), eJ]
  exact h
theorem CQ.fr {r : Nat} (h : CQ σ r) (e0 : gR σ' 0 = gR σ 0) (e1 : gR σ' 18 = gR σ 18) : CQ σ' r := by
  unfold CQ
  rw [e0, e1]
  exact h
/-- the class: all but the reader, costs, edits, origins, extinction -/
def ScC (σ σ' : St) : Prop := (∀ q, q ≠ 3 → q ≠ 25 → q ≠ 26 → ¬ (46 ≤ q ∧ q ≤ 49) → gI σ' q = gI σ q) ∧ (∀ q, q ≠ 49 → gJ σ' q = gJ σ q) ∧ gR σ' 0 = gR σ 0 ∧ gR σ' 18 = gR σ 18
theorem ScC.rf : ScC σ σ := ⟨fun _ _ _ _ _ => rfl, fun _ _ => rfl, rfl, rfl⟩
theorem RC.fr {A : ABS} (h : RC σ A) (e : ScC σ σ') : RC σ' A := by
  obtain ⟨hP, hB, hL, hR, hZ, hS, hT, hWd, r, hQ, hU⟩ := h
  have o : ∀ lo hi, (∀ q, lo ≤ q → q < hi → q ≠ 3 ∧ q ≠ 25 ∧ q ≠ 26 ∧ ¬ (46 ≤ q ∧ q ≤ 49)) → Off lo hi σ σ' := fun lo hi h q h1 h2 => by
    obtain ⟨a, b, c, d⟩ := h q h1 h2
    exact e.1 q a b c d
  exact ⟨hP.fr (o _ _ fun q h1 h2 => by omega), hB.fr (o _ _ fun q h1 h2 => by omega) (e.2.1 33 (by decide)), hL.fr (o _ _ fun q h1 h2 => by omega), hR.fr (o _ _ fun q h1 h2 => by omega), hZ.fr (o _ _ fun q h1 h2 => by omega), hS.fr (o _ _ fun q h1 h2 => by omega), hT.fr (o _ _ fun q h1 h2 => by omega), hWd.fr (o _ _ fun q h1 h2 => by omega) (e.2.1 19 (by decide)), r, hQ.fr e.2.2.1 e.2.2.2, hU.fr hQ.1 (o _ _ fun q h1 h2 => by omega)⟩
/-- the reference: all but its scratch -/
def ScM (τ τ' : St) : Prop := (∀ q, q ≠ 3 → ¬ (13 ≤ q ∧ q ≤ 26) → q ≠ 44 → gI τ' q = gI τ q) ∧ gJ τ' = gJ τ
theorem ScM.rf : ScM τ τ := ⟨fun _ _ _ _ => rfl, rfl⟩
theorem ScM.tr {τ'' : St} (h : ScM τ τ') (h' : ScM τ' τ'') : ScM τ τ'' := ⟨fun q a b c => (h'.1 q a b c).trans (h.1 q a b c), h'.2.trans h.2⟩
theorem RM.fr {A : ABS} (h : RM τ A) (e : ScM τ τ') : RM τ' A := by
  obtain ⟨mP, mB, mL, mR, mZ, mS, mT, mWd, mU, mK⟩ := h
  have o : ∀ q, q ≠ 3 ∧ ¬ (13 ≤ q ∧ q ≤ 26) ∧ q ≠ 44 → gI τ' q = gI τ q := fun q h => e.1 q h.1 h.2.1 h.2.2
  have oJ : gJ τ' 32 = gJ τ 32 := by rw [e.2]
  refine ⟨?_, ?_, ?_, ?_, ?_, ?_, ?_, ?_, ?_, ?_⟩
  · unfold MP; rw [o 0 (by omega), o 27 (by omega), o 28 (by omega)]; exact mP
  · unfold MB; rw [o 0 (by omega), o 29 (by omega), o 30 (by omega), o 31 (by omega), oJ]; exact mB
  · unfold ML; rw [o 0 (by omega), o 33 (by omega), o 34 (by omega), o 35 (by omega), o 36 (by omega), o 37 (by omega), o 38 (by omega), o 39 (by omega), o 40 (by omega)]; exact mL
  · unfold MR; rw [o 0 (by omega), o 41 (by omega), o 42 (by omega), o 43 (by omega)]; exact mR
  · unfold MZ; rw [o 0 (by omega)]; exact mZ
  · unfold MS; rw [o 45 (by omega), o 46 (by omega), o 47 (by omega)]; exact mS
  · unfold MT; rw [o 0 (by omega), o 4 (by omega)]; exact mT
  · unfold MW; rw [o 0 (by omega), o 1 (by omega), o 2 (by omega)]; exact mWd
  · unfold MU; rw [o 0 (by omega), o 7 (by omega), o 8 (by omega), o 9 (by omega), o 10 (by omega), o 11 (by omega), o 12 (by omega)]; exact mU
  · unfold MK; rw [o 5 (by omega), o 6 (by omega)]; exact mK
theorem Rel.fr (h : Rel σ τ) (e1 : ScC σ σ') (e2 : ScM τ τ') : Rel σ' τ' := by
  obtain ⟨A, hC, hM, hW⟩ := h
  exact ⟨A, hC.fr e1, hM.fr e2, hW⟩
theorem b8 (x : Int32) : (x <<< ((24 : Int32) &&& 31)) >>> ((24 : Int32) &&& 31) = x.toInt8.toInt32 := by
  apply Int32.toBitVec_inj.mp
  rw [Int32.toBitVec_shiftRight, Int32.toBitVec_shiftLeft]
  show (x.toBitVec <<< (((24 : Int32) &&& 31).toBitVec.smod 32)).sshiftRight (((24 : Int32) &&& 31).toBitVec.smod 32).toNat = (x.toBitVec.signExtend 8).signExtend 32
  rw [show (((24 : Int32) &&& 31).toBitVec.smod 32) = 24#32 by decide]
  apply BitVec.eq_of_getLsbD_eq
  intro i hi
  rw [BitVec.getLsbD_sshiftRight, BitVec.getLsbD_signExtend]
  simp [BitVec.getLsbD_shiftLeft, BitVec.msb_eq_getLsbD_last, BitVec.getLsbD_signExtend]
  by_cases h1 : i < 8
  · have : 24 + i < 32 := by omega
    have h2 : ¬ 24 + i < 24 := by omega
    simp [this, h1, hi, h2, show ¬ 32 ≤ i by omega]
  · have : ¬ 24 + i < 32 := by omega
    simp [this, h1, hi, BitVec.getElem_signExtend, show ¬ 32 ≤ i by omega]
theorem b16 (x : Int32) : (x <<< ((16 : Int32) &&& 31)) >>> ((16 : Int32) &&& 31) = x.toInt16.toInt32 := by
  apply Int32.toBitVec_inj.mp
  rw [Int32.toBitVec_shiftRight, Int32.toBitVec_shiftLeft]
  show (x.toBitVec <<< (((16 : Int32) &&& 31).toBitVec.smod 32)).sshiftRight (((16 : Int32) &&& 31).toBitVec.smod 32).toNat = (x.toBitVec.signExtend 16).signExtend 32
  rw [show (((16 : Int32) &&& 31).toBitVec.smod 32) = 16#32 by decide]
  apply BitVec.eq_of_getLsbD_eq
  intro i hi
  rw [BitVec.getLsbD_sshiftRight, BitVec.getLsbD_signExtend]
  simp [BitVec.getLsbD_shiftLeft, BitVec.msb_eq_getLsbD_last, BitVec.getLsbD_signExtend]
  by_cases h1 : i < 16
  · have : 16 + i < 32 := by omega
    have h2 : ¬ 16 + i < 16 := by omega
    simp [this, h1, hi, h2, show ¬ 32 ≤ i by omega]
  · have : ¬ 16 + i < 32 := by omega
    simp [this, h1, hi, BitVec.getElem_signExtend, show ¬ 32 ≤ i by omega]
end Frames
