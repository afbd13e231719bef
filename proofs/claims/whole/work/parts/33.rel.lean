/-! the rest of what the memories hold, and the tie between the two -/
def CZ (σ : St) (d tn fl : Nat) : Prop := gI σ 0 12 = nI d ∧ gI σ 0 11 = nI tn ∧ gI σ 0 10 = nI fl
def MZ (τ : St) (d tn fl : Nat) : Prop := gI τ 0 62 = nI d ∧ gI τ 0 67 = nI tn ∧ gI τ 0 6 = nI fl
def WZ (d tn fl : Nat) : Prop := d ≤ 999 ∧ tn ≤ 3 ∧ fl ≤ 5
/-- sheets: lane and size, or nothing; the cells -/
abbrev DS : Type := (Nat → Option (Nat × Nat)) × (Nat → Nat → Int32)
def CS (σ : St) (S : DS) : Prop := ∀ k, k < 4 → (∀ i, i < 64 → gI σ (55 + k) i = S.2 k i) ∧ (S.1 k = none → gI σ (51 + k) 2 = -4) ∧ ∀ l n, S.1 k = some (l, n) → gI σ (51 + k) 1 = nI l ∧ gI σ (51 + k) 2 = nI n
def MS (τ : St) (S : DS) : Prop := ∀ k, k < 4 → (∀ i, i < 64 → gI τ 47 (64 * k + i) = S.2 k i) ∧ (S.1 k = none → gI τ 45 k = -4) ∧ ∀ l n, S.1 k = some (l, n) → gI τ 45 k = nI l ∧ gI τ 46 k = nI n
def WS (S : DS) : Prop := ∀ k l n, S.1 k = some (l, n) → l ≤ 2 ∧ n ≤ 64
/-- the tape: how many, the bytes -/
abbrev DT : Type := Nat × (Nat → Nat)
def CT (σ : St) (T : DT) : Prop := gI σ 1 1 = nI T.1 ∧ ∀ i, i < T.1 → gI σ 2 i = sb_b (T.2 i)
def MT (τ : St) (T : DT) : Prop := gI τ 0 5 = nI T.1 ∧ ∀ i, i < T.1 → gI τ 4 i = nI (T.2 i)
def WTp (T : DT) : Prop := T.1 ≤ 200 ∧ ∀ i, i < T.1 → T.2 i < 256
def pk (l : List Nat) : Nat := l.foldl (fun a x => 32 * a + x) 0
def LTR (l : List Nat) : Prop := ∀ x ∈ l, 1 ≤ x ∧ x ≤ 26
/-- rules: numbers; how many say and mute, from, into; how many like, one, two, by -/
abbrev DU : Type := (Nat → Nat) × Nat × (Nat → List Nat) × (Nat → List Nat) × Nat × (Nat → Nat) × (Nat → Nat) × (Nat → Nat)
abbrev uN (U : DU) : Nat → Nat := U.1
abbrev uM (U : DU) : Nat := U.2.1
abbrev uF (U : DU) : Nat → List Nat := U.2.2.1
abbrev uI (U : DU) : Nat → List Nat := U.2.2.2.1
abbrev uK (U : DU) : Nat := U.2.2.2.2.1
abbrev uA (U : DU) : Nat → Nat := U.2.2.2.2.2.1
abbrev uB (U : DU) : Nat → Nat := U.2.2.2.2.2.2.1
abbrev uC (U : DU) : Nat → Nat := U.2.2.2.2.2.2.2
def fnd (U : DU) (a b : Nat) : Option Nat := ((List.range (uK U)).find? fun k => (uA U k == a && uB U k == b) || (uA U k == b && uB U k == a)).map (uC U)
def oC (o : Option Nat) : Int32 := match o with
  | none => -1
  | some c => nI c
def CU (σ : St) (r : Nat) (U : DU) : Prop := gI σ (4 + r) 6 = nI (uM U) ∧ gI σ (4 + r) 7 = nI (uK U) ∧ (∀ j, j < 8 → gI σ (6 + r) j = nI (uN U j)) ∧ (∀ c, c < uM U → gI σ (8 + r) c = nI (pk (uF U c)) ∧ gI σ (10 + r) c = nI (uF U c).length ∧ gI σ (12 + r) c = nI (pk (uI U c)) ∧ gI σ (14 + r) c = nI (uI U c).length) ∧ ∀ a b, a < 27 → b < 27 → gI σ (16 + r) (27 * a + b) = oC (fnd U a b)
def MU (τ : St) (U : DU) : Prop := gI τ 0 16 = nI (uM U) ∧ gI τ 0 19 = nI (uK U) ∧ (∀ j, j < 8 → gI τ 7 j = nI (uN U j)) ∧ (∀ c x, c < uM U → x < 3 → gI τ 8 (3 * c + x) = nI ((uF U c).getD x 0)) ∧ (∀ c x, c < uM U → x < 2 → gI τ 9 (2 * c + x) = nI ((uI U c).getD x 0)) ∧ ∀ k, k < uK U → gI τ 10 k = nI (uA U k) ∧ gI τ 11 k = nI (uB U k) ∧ gI τ 12 k = nI (uC U k)
def WU (U : DU) : Prop := uM U ≤ 12 ∧ (∀ c, c < uM U → 1 ≤ (uF U c).length ∧ (uF U c).length ≤ 3 ∧ LTR (uF U c) ∧ (uI U c).length ≤ 2 ∧ LTR (uI U c)) ∧ (∀ c c', c < uM U → c' < uM U → uF U c = uF U c' → c = c') ∧ uK U ≤ 40 ∧ (∀ k, k < uK U → 1 ≤ uA U k ∧ uA U k ≤ 26 ∧ 1 ≤ uB U k ∧ uB U k ≤ 26 ∧ uA U k ≠ uB U k ∧ uC U k ≤ 20) ∧ (∀ j, j < 8 → uN U j ≤ 20) ∧ 1 ≤ uN U 3 ∧ 1 ≤ uN U 4 + uN U 5 + uN U 6 + uN U 7 ∧ uN U 4 + uN U 5 + uN U 6 + uN U 7 ≤ 9
/-! sounds, how far apart, which is joined to which, names -/
def blen (U : DU) (best : Option Nat) : Nat := match best with
  | none => 0
  | some d => (uF U d).length
def chg (U : DU) (l : List Nat) : Option Nat := (List.range (uM U)).foldl (fun best c => if uF U c = l.take (uF U c).length ∧ blen U best < (uF U c).length then some c else best) none
def sndF (U : DU) : Nat → List Nat → List Nat
  | 0, _ => []
  | _ + 1, [] => []
  | n + 1, x :: t => match chg U (x :: t) with
    | none => x :: sndF U n t
    | some c => uI U c ++ sndF U n ((x :: t).drop (uF U c).length)
def snd (U : DU) (l : List Nat) : List Nat := sndF U l.length l
def cst (U : DU) (a b : Nat) : Nat := if a = b then 0 else (fnd U a b).getD (uN U 1)
def edN (up : Nat → Nat) (h dr : Nat) (c1 : Nat → Nat) : Nat → Nat
  | 0 => h
  | j + 1 => min (up j + c1 j) (dr + min (up (j + 1)) (edN up h dr c1 j))
def edR (c : Nat → Nat → Nat) (dr : Nat) (a b : Nat → Nat) : Nat → Nat → Nat
  | 0 => fun j => dr * j
  | i + 1 => edN (edR c dr a b i) (dr * (i + 1)) dr (fun j => c (a i) (b j))
def apl (U : DU) (a b : List Nat) : Nat := edR (cst U) (uN U 0) (fun i => a.getD i 0) (fun j => b.getD j 0) a.length b.length
/-- spellings: how many, their letters -/
abbrev DW : Type := Nat × (Nat → List Nat)
def ap (U : DU) (W : DW) (s t : Nat) : Nat := if s = t then 0 else apl U (snd U (W.2 s)) (snd U (W.2 t))
def jn (U : DU) (W : DW) (s t : Nat) : Bool := decide (ap U W s t ≤ uN U 2)
def pth (J : Nat → Nat → Bool) (n : Nat) : Nat → Nat → Nat → Prop
  | 0, s, t => s = t
  | k + 1, s, t => ∃ u, u < n ∧ J s u = true ∧ pth J n k u t
def Con_n (J : Nat → Nat → Bool) (n s t : Nat) : Prop := ∃ k, pth J n k s t
/-- nm tells each one's name: the least that a chain leads to -/
def NM (J : Nat → Nat → Bool) (n : Nat) (nm : Nat → Nat) : Prop := ∀ s, s < n → nm s < n ∧ Con_n J n s (nm s) ∧ ∀ t, t < n → Con_n J n s t → nm s ≤ t
/-- a set of numbers as bits -/
def bs (p : Nat → Bool) : Nat → Nat
  | 0 => 0
  | n + 1 => bs p n + if p n then 2 ^ n else 0
def CW (σ : St) (W : DW) (U : DU) (nm : Nat → Nat) : Prop := gI σ 18 1 = nI W.1 ∧ (∀ s, s < W.1 → gJ σ 19 s = lN (pk (W.2 s))) ∧ (∀ s, s < W.1 → gI σ 22 s = nI (snd U (W.2 s)).length) ∧ (∀ s i, s < W.1 → i < (snd U (W.2 s)).length → gI σ 23 (20 * s + i) = nI ((snd U (W.2 s)).getD i 0)) ∧ (∀ s t, s < W.1 → t < W.1 → gI σ 24 (16 * s + t) = nI (ap U W s t)) ∧ (∀ s, s < 16 → gI σ 24 (17 * s) = 0) ∧ (∀ s, s < W.1 → gI σ 20 s = nI (bs (jn U W s) W.1)) ∧ ∀ s, s < W.1 → gI σ 21 s = nI (nm s)
def MW (τ : St) (W : DW) : Prop := gI τ 0 0 = nI W.1 ∧ (∀ s, s < W.1 → gI τ 1 s = nI (W.2 s).length) ∧ ∀ s i, s < W.1 → i < (W.2 s).length → gI τ 2 (10 * s + i) = nI ((W.2 s).getD i 0)
def WW (W : DW) : Prop := W.1 ≤ 16 ∧ (∀ s, s < W.1 → 1 ≤ (W.2 s).length ∧ (W.2 s).length ≤ 10 ∧ LTR (W.2 s)) ∧ ∀ s t, s < W.1 → t < W.1 → W.2 s = W.2 t → s = t
/-- the system's own cells: which rules are told, which spare -/
def CQ (σ : St) (r : Nat) : Prop := r < 2 ∧ gR σ 0 8 = r ∧ gR σ 0 9 = 1 - r ∧ gR σ 18 5 = r
/-- the ints of the cells from lo to hi stay -/
def Off (lo hi : Nat) (σ σ' : St) : Prop := ∀ q, lo ≤ q → q < hi → gI σ' q = gI σ q
theorem Off.rf {lo hi : Nat} {σ : St} : Off lo hi σ σ := fun _ _ _ => rfl
theorem Off.tr {lo hi : Nat} {σ σ' σ'' : St} (h : Off lo hi σ σ') (h' : Off lo hi σ' σ'') : Off lo hi σ σ'' := fun q a b => (h' q a b).trans (h q a b)
theorem Off.sI {lo hi q j : Nat} {σ σ' : St} {v : Int32} (hq : q < lo ∨ hi ≤ q) (h : Off lo hi σ σ') : Off lo hi σ (sI σ' q j v) := fun p a b => (gI_sIn (by omega)).trans (h p a b)
theorem Off.sIf {lo hi q : Nat} {σ σ' : St} {f : Nat → Int32} (hq : q < lo ∨ hi ≤ q) (h : Off lo hi σ σ') : Off lo hi σ (sIf σ' q f) := fun p a b => (gI_sIfn (by omega)).trans (h p a b)
theorem Off.sJ {lo hi q j : Nat} {σ σ' : St} {v : Int64} (h : Off lo hi σ σ') : Off lo hi σ (sJ σ' q j v) := h
theorem Off.sR {lo hi q j v : Nat} {σ σ' : St} (h : Off lo hi σ σ') : Off lo hi σ (sR σ' q j v) := h
theorem Off.mono {lo hi lo' hi' : Nat} {σ σ' : St} (h : Off lo hi σ σ') (h1 : lo ≤ lo') (h2 : hi' ≤ hi) : Off lo' hi' σ σ' := fun q a b => h q (by omega) (by omega)
theorem CS.fr {σ σ' : St} {S : DS} (h : CS σ S) (e : Off 51 59 σ σ') : CS σ' S := fun k hk => by
  rw [e (55 + k) (by omega) (by omega), e (51 + k) (by omega) (by omega)]
  exact h k hk
theorem CU.fr {σ σ' : St} {r : Nat} {U : DU} (hr : r < 2) (h : CU σ r U) (e : Off 4 18 σ σ') : CU σ' r U := by
  unfold CU
  rw [e (4 + r) (by omega) (by omega), e (6 + r) (by omega) (by omega), e (8 + r) (by omega) (by omega), e (10 + r) (by omega) (by omega), e (12 + r) (by omega) (by omega), e (14 + r) (by omega) (by omega), e (16 + r) (by omega) (by omega)]
  exact h
/-- the reference's table of words -/
def MK (τ : St) : Prop := (∀ j, j < 9 → gI τ 5 j = nI ([0, 3, 7, 11, 15, 20, 24, 29, 33].getD j 0)) ∧ ∀ j, j < 33 → gI τ 6 j = nI ([115, 97, 121, 109, 117, 116, 101, 108, 105, 107, 101, 100, 114, 111, 112, 111, 116, 104, 101, 114, 106, 111, 105, 110, 109, 105, 108, 101, 115, 115, 111, 110, 115].getD j 0)
abbrev ABS : Type := DP × DB × DL × DR × (Nat × Nat × Nat) × DS × DT × DW × DU × (Nat → Nat)
abbrev aP (A : ABS) : DP := A.1
abbrev aB (A : ABS) : DB := A.2.1
abbrev aL (A : ABS) : DL := A.2.2.1
abbrev aR (A : ABS) : DR := A.2.2.2.1
abbrev aZ (A : ABS) : Nat × Nat × Nat := A.2.2.2.2.1
abbrev aS (A : ABS) : DS := A.2.2.2.2.2.1
abbrev aT (A : ABS) : DT := A.2.2.2.2.2.2.1
abbrev aW (A : ABS) : DW := A.2.2.2.2.2.2.2.1
abbrev aU (A : ABS) : DU := A.2.2.2.2.2.2.2.2.1
abbrev aN (A : ABS) : Nat → Nat := A.2.2.2.2.2.2.2.2.2
def RC (σ : St) (A : ABS) : Prop := CP σ (aP A) ∧ CB σ (aB A) ∧ CL σ (aL A) ∧ CR σ (aR A) ∧ CZ σ (aZ A).1 (aZ A).2.1 (aZ A).2.2 ∧ CS σ (aS A) ∧ CT σ (aT A) ∧ CW σ (aW A) (aU A) (aN A) ∧ ∃ r, CQ σ r ∧ CU σ r (aU A)
def RM (τ : St) (A : ABS) : Prop := MP τ (aP A) ∧ MB τ (aB A) ∧ ML τ (aL A) ∧ MR τ (aR A) ∧ MZ τ (aZ A).1 (aZ A).2.1 (aZ A).2.2 ∧ MS τ (aS A) ∧ MT τ (aT A) ∧ MW τ (aW A) ∧ MU τ (aU A) ∧ MK τ
def WA (A : ABS) : Prop := WP (aP A) ∧ WB (aP A).1 (aB A) ∧ WL (aW A).1 (aB A) (aL A) ∧ WR (aW A).1 (aL A) (aR A) ∧ WZ (aZ A).1 (aZ A).2.1 (aZ A).2.2 ∧ WS (aS A) ∧ WTp (aT A) ∧ WW (aW A) ∧ WU (aU A) ∧ NM (jn (aU A) (aW A)) (aW A).1 (aN A)
/-- the tie -/
def Rel (σ τ : St) : Prop := ∃ A : ABS, RC σ A ∧ RM τ A ∧ WA A
/-- two calls answer alike, and the tie holds behind them -/
def Eq2 (a b : Option (Int32 × St)) : Prop := ∃ r σ τ, a = some (r, σ) ∧ b = some (r, τ) ∧ Rel σ τ
def Eq2L (a b : Option (Int64 × St)) : Prop := ∃ r σ τ, a = some (r, σ) ∧ b = some (r, τ) ∧ Rel σ τ
def pu {α : Type} (a : Option α) (σ : St) : Option (α × St) := a.map fun r => (r, σ)
theorem Eq2.same {σ τ : St} (h : Rel σ τ) (r : Int32) : Eq2 (some (r, σ)) (some (r, τ)) := ⟨r, σ, τ, rfl, rfl, h⟩
theorem Eq2.of {a b : Option (Int32 × St)} {r : Int32} {σ τ : St} (ha : a = some (r, σ)) (hb : b = some (r, τ)) (h : Rel σ τ) : Eq2 a b := ⟨r, σ, τ, ha, hb, h⟩
theorem Eq2.pp {a b : Option Int32} {r : Int32} {σ τ : St} (ha : a = some r) (hb : b = some r) (h : Rel σ τ) : Eq2 (pu a σ) (pu b τ) := ⟨r, σ, τ, by rw [ha]; rfl, by rw [hb]; rfl, h⟩
theorem Eq2.ps {a : Option Int32} {b : Option (Int32 × St)} {r : Int32} {σ τ τ' : St} (ha : a = some r) (hb : b = some (r, τ')) (h : Rel σ τ') : Eq2 (pu a σ) b := ⟨r, σ, τ', by rw [ha]; rfl, hb, h⟩
