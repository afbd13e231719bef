/-- the tables' words that a callee may be given too -/
def gtb : List Cond := lw_tbl.filter goodWord
theorem gtb_of {c : Cond} (h : c ∈ lw_tbl) (hg : goodWord c = true) : c ∈ gtb := List.mem_filter.mpr ⟨h, hg⟩
theorem gtb_at {c : Cond} (i : Nat) (h : tables_1[i]? = some c) (hg : goodWord c = true) : c ∈ gtb := gtb_of (List.mem_append_right _ (List.mem_of_getElem? h)) hg
theorem gtb_pr {c : Cond} (i : Nat) (h : (k2_sels lw_privs)[i]? = some c) (hg : goodWord c = true) : c ∈ gtb := gtb_of (List.mem_append_left _ (List.mem_of_getElem? h)) hg
/-- the machine's side of a walk, in one word: program, launch, env, room, start, method, args, below, meth, code -/
abbrev MX : Type := Program × Launch × Env × Room × State × MethodId × Array Value × List Frame × Method × Code
abbrev mP (x : MX) : Program := x.1
abbrev mL (x : MX) : Launch := x.2.1
abbrev mE (x : MX) : Env := x.2.2.1
abbrev mR (x : MX) : Room := x.2.2.2.1
abbrev mS (x : MX) : State := x.2.2.2.2.1
abbrev mM (x : MX) : MethodId := x.2.2.2.2.2.1
abbrev mA (x : MX) : Array Value := x.2.2.2.2.2.2.1
abbrev mB (x : MX) : List Frame := x.2.2.2.2.2.2.2.1
abbrev mH (x : MX) : Method := x.2.2.2.2.2.2.2.2.1
abbrev mC (x : MX) : Code := x.2.2.2.2.2.2.2.2.2
/-- the world's side: class numbers, array kinds, addresses, shapes, how many cells; and the constants outside: what holds of a state and a heap for them -/
abbrev WX : Type := va_G × List (ClassId × FieldType) × (Nat → Nat) × Shp × Nat × Nat × Nat × (Nat → Nat) × (Nat → Nat)
abbrev wD (w : WX) : va_G := w.1
abbrev wT (w : WX) : List (ClassId × FieldType) := w.2.1
abbrev wAd (w : WX) : Nat → Nat := w.2.2.1
abbrev wSh (w : WX) : Shp := w.2.2.2.1
abbrev wN (w : WX) : Nat := w.2.2.2.2.1
abbrev wS1 (w : WX) : Nat := w.2.2.2.2.2.1
abbrev wS2 (w : WX) : Nat := w.2.2.2.2.2.2.1
abbrev wKs (w : WX) : Nat → Nat := w.2.2.2.2.2.2.2.1
abbrev wVs (w : WX) : Nat → Nat := w.2.2.2.2.2.2.2.2
def wA (w : WX) : Nat → Prop := fun q => ∃ i, i < wN w ∧ q = wAd w i
def wC (w : WX) (σ : St) : va_W := cells_ (wAd w) (wSh w) (wN w) σ
def tFirst : Nat → Int32 := fun j => [3, 4, 4, 5, 1, 1, 1, 1].getD j 0
def tWorth : Nat → Int32 := fun j => [2, 1, 2, 0, 1].getD j 0
def kLen : List Nat := [3, 4, 4, 4, 5, 4, 5, 4]
def kByt : List (List Int32) := [[115, 97, 121], [109, 117, 116, 101], [108, 105, 107, 101], [100, 114, 111, 112], [111, 116, 104, 101, 114], [106, 111, 105, 110], [109, 105, 108, 101, 115], [115, 111, 110, 115]]
def kIdx : Nat → Nat := fun i => [51, 57, 63, 68, 74, 76, 78, 80].getD i 0
def kTx : Nat → String := fun i => ["say", "mute", "like", "drop", "other", "join", "miles", "sons"].getD i ""
/-- the static rows and the String constants, as the Statement gives them, out of the cells' reach -/
def wE (w : WX) (U : State) (H : Heap) : Prop :=
  va_Z "FamilyNames$Rules" "AT_FIRST" "[I" (.ref (wS1 w)) (wA w) U H ∧ va_T .int (wS1 w) 8 (fun j => .int (tFirst j)) (wA w) U H ∧
  va_Z "FamilyNames$Lines" "WORTH" "[I" (.ref (wS2 w)) (wA w) U H ∧ va_T .int (wS2 w) 5 (fun j => .int (tWorth j)) (wA w) U H ∧
  va_Z "java/lang/String" "COMPACT_STRINGS" "Z" (.int 1) (wA w) U H ∧ va_Zq "jdk/internal/util/Preconditions" "SIOOBE_FORMATTER" "Ljava/util/function/BiFunction;" (wA w) U H ∧
  vk_S 8 kLen kByt (wKs w) (wVs w) (wA w) U H ∧ (∀ i, i < 8 → vk_R "FamilyNames$TextReader" (kIdx i) (kTx i) (wKs w i) U) ∧
  va_Nw (.methodLinkNest "FamilyNames$Origins" 51 yX10_divideUp "FamilyNames") U
theorem wE.warm {w : WX} {s U : State} {H : Heap} (hW : s.WarmedH U.vm) (h : wE w s H) : wE w U H :=
  ⟨h.1.moved hW.alike, h.2.1.moved hW.alike, h.2.2.1.moved hW.alike, h.2.2.2.1.moved hW.alike, h.2.2.2.2.1.moved hW.alike, h.2.2.2.2.2.1.moved hW.alike, h.2.2.2.2.2.2.1.moved hW.alike, fun i hi => (h.2.2.2.2.2.2.2.1 i hi).warm hW, h.2.2.2.2.2.2.2.2.warmM hW⟩
theorem wE.same {w : WX} {u U : State} {H : Heap} (hv : U.vm = u.vm) (h : wE w u H) : wE w U H :=
  ⟨h.1.moved (hv ▸ Vm.Alike.refl U.vm), h.2.1.moved (hv ▸ Vm.Alike.refl U.vm), h.2.2.1.moved (hv ▸ Vm.Alike.refl U.vm), h.2.2.2.1.moved (hv ▸ Vm.Alike.refl U.vm), h.2.2.2.2.1.moved (hv ▸ Vm.Alike.refl U.vm), h.2.2.2.2.2.1.moved (hv ▸ Vm.Alike.refl U.vm), h.2.2.2.2.2.2.1.moved (hv ▸ Vm.Alike.refl U.vm), fun i hi => (h.2.2.2.2.2.2.2.1 i hi).same hv, h.2.2.2.2.2.2.2.2.same rfl hv.symm⟩
theorem wE.kept {w : WX} {U : State} {H H1 : Heap} (h : wE w U H) (hq : ∀ a : Nat, a < H.size → ¬ wA w a → H1[a]? = H[a]?) : wE w U H1 :=
  ⟨h.1.kept hq, h.2.1.kept hq, h.2.2.1.kept hq, h.2.2.2.1.kept hq, h.2.2.2.2.1.kept hq, h.2.2.2.2.2.1.kept hq, h.2.2.2.2.2.2.1.kept hq, h.2.2.2.2.2.2.2.1, h.2.2.2.2.2.2.2.2⟩
def wInj (w : WX) : Prop := ∀ i j, i < wN w → j < wN w → wAd w i = wAd w j → i = j
theorem wC_D {w : WX} (h : wInj w) (σ : St) : va_D (wA w) (wC w σ) := by
  refine ⟨fun i j p q hi hj he => ?_, fun k q hk => ?_⟩
  · obtain ⟨h1, rfl⟩ := cells_of hi
    obtain ⟨h2, rfl⟩ := cells_of hj
    exact h i j h1 h2 he
  · obtain ⟨h1, rfl⟩ := cells_of hk
    exact ⟨k, h1, rfl⟩
/-- a method's end: what it returns, the memory behind it, nothing else changed -/
def wQ (w : WX) (o : Option Value × St) : Array Value → State → Outcome → State → Prop := fun _ st oc t => (oc = .returned o.1 ∧ va_P (wD w) vwCl (wC w o.2) t.heap) ∧ va_F (wA w) st t
/-- what holds all along a walk of a method of 'own' with these bytes -/
def Cok (x : MX) (w : WX) (own : String) (cc : ByteArray) (nL : Nat) (ret : Option FieldType) (fr lo : Nat) : Prop :=
  (mP x).tables.exec = Jvm.exec ∧ (mC x).code = cc ∧ (mC x).maxLocals = nL ∧ (mS x).vm.findClass own = some (mM x).cls ∧ (∀ c ∈ gtb, c.before (mA x) (mS x) = true) ∧
  (mH x).sig.returnType = ret ∧ (mH x).locks = false ∧ va_K (wD w) vwCl (wT w) (mS x) ∧ wInj w ∧ wE w (mS x) (mS x).heap ∧ mR x = { frames := fr, cells := 0, slots := 0, locals := lo }
/-- from this frame the machine comes to the method's end, with what k tells (nothing is claimed where k tells nothing) -/
def Sim (x : MX) (w : WX) (nL : Nat) {ρ : Type} (inj : ρ → Option Value × St) (k : Option ρ) (pc : Nat) (lv : List (Nat × Value)) (st : List Value) (σ : St) : Prop :=
  ∀ (H : Heap) (locs : List Loc) (ls : Array Slot) (r : ρ), k = some r → va_P (wD w) vwCl (wC w σ) H → va_S (wA w) (mS x).heap H locs → lv_has ls nL lv →
    W (mP x) (mL x) (mE x) (mR x) (mS x) (mM x) (mA x) (mB x) (mH x) (mC x) H locs 0 0 (MQ (mB x) (wQ w (inj r)) (mA x) (mS x) 0 0 (wA w)) (F0 (mM x) pc ls st)
section Rows
variable {x : MX} {w : WX} {own : String} {cc : ByteArray} {nL : Nat} {ret : Option FieldType} {fr lo : Nat} {ρ : Type} {inj : ρ → Option Value × St} {k : Option ρ} {pc : Nat} {lv : List (Nat × Value)} {st : List Value} {σ : St}
theorem S_sub (ks : List Nat) {lv' : List (Nat × Value)} (hl' : lv_pick lv ks = lv') (h : Sim x w nL inj k pc lv' st σ) : Sim x w nL inj k pc lv st σ :=
  fun H locs ls r hk hP hS hl => h H locs ls r hk hP hS (lv_sub hl ks hl')
theorem S_none : Sim x w nL inj none pc lv st σ := fun _ _ _ _ hk => by cases hk
theorem S_chk {i : Int32} {n : Nat} (h : vp_in i n → Sim x w nL inj k pc lv st σ) : Sim x w nL inj (chk i n k) pc lv st σ :=
  fun H locs ls r hk hP hS hl => h (chk_some hk).1 H locs ls r (chk_some hk).2 hP hS hl
theorem S_chkN {i n : Nat} (h : i < n → Sim x w nL inj k pc lv st σ) : Sim x w nL inj (chkN i n k) pc lv st σ :=
  fun H locs ls r hk hP hS hl => h (chkN_some hk).1 H locs ls r (chkN_some hk).2 hP hS hl
end Rows
