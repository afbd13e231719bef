/-! a contract out of a walk from the entry -/
theorem Con_of {w : WX} {l : Launch} {y : MethodName} {bytes : ByteArray} {maxL fr lo : Nat} {rt : Option FieldType} {av : List Value} {σ : St} {ρ : Type} {inj : ρ → Option Value × St} {k : Option ρ} {r : ρ} (hk : k = some r) (hy : plainName y.cls = true) (hlen : (lg_sl av).length ≤ maxL)
    (h : ∀ x : MX, mL x = l → Cok x w y.cls bytes maxL rt fr lo → Sim x w maxL inj k 0 (lv_args 0 av) [] σ) : Con w l y bytes maxL rt fr lo av σ (inj r) := by
  refine Met.ofW (cc := bytes) (maxL := maxL) (ret := rt) hy rfl ?_
  intro p e s m args below meth c s₁ B hml hv
  obtain ⟨rfl, hP, hK, hI, hE⟩ := hv
  have hts := atoms_spec (ws := Cond.code y bytes maxL rt :: gtb) B.pre
  have C : Cok (p, l, e, { frames := fr, cells := 0, slots := 0, locals := lo }, s, m, av.toArray, below, meth, c) w y.cls bytes maxL rt fr lo :=
    ⟨B.exec, B.bytes, hml, findClass_of_methodNamed B.named, fun c h => hts c (List.mem_cons_of_mem _ h), B.returns, B.notSynchronized, hK, hI, hE, rfl⟩
  rw [lg_entry_eq]
  exact h _ rfl C s.heap [] _ r hk hP va_S.rf (lv_entry av hlen)
def FU : Nat := 1000000
/-- a number, or a memory, under a name -/
def bnd {α β : Type} (a : α) (f : α → Option β) : Option β := f a
def jI (σ : St) (r : Int32) : Option Value × St := (some (.int r), σ)
def jL (σ : St) (r : Int64) : Option Value × St := (some (.long r), σ)
def jIS (r : Int32 × St) : Option Value × St := (some (.int r.1), r.2)
def jLS (r : Int64 × St) : Option Value × St := (some (.long r.1), r.2)
def jV (r : St) : Option Value × St := (none, r)
section More
variable {x : MX} {w : WX} {own : String} {cc : ByteArray} {nL : Nat} {ret : Option FieldType} {fr lo : Nat} {ρ : Type} {inj : ρ → Option Value × St} {k : Option ρ} {pc : Nat} {lv : List (Nat × Value)} {st : List Value} {σ : St}
theorem S_bndS {K : St → Option ρ} (h : ∀ s, s = σ → Sim x w nL inj (K s) pc lv st s) : Sim x w nL inj (bnd σ K) pc lv st σ := h σ rfl
theorem S_bndT {a : Int32} {K : Int32 → Option ρ} (h : ∀ v, v = a → Sim x w nL inj (K v) pc lv (.int v :: st) σ) : Sim x w nL inj (bnd a K) pc lv (.int a :: st) σ := h a rfl
theorem S_bndTL {a : Int64} {K : Int64 → Option ρ} (h : ∀ v, v = a → Sim x w nL inj (K v) pc lv (.long v :: st) σ) : Sim x w nL inj (bnd a K) pc lv (.long a :: st) σ := h a rfl
theorem S_chkB {v : Int32} (h : (v = 0 ∨ v = 1) → Sim x w nL inj k pc lv st σ) : Sim x w nL inj (chkB v k) pc lv st σ :=
  fun H locs ls r hk hP hS hl => h (chkB_some hk).1 H locs ls r (chkB_some hk).2 hP hS hl
theorem S_gets_WORTH (C : Cok x w RX3 cc nL ret fr lo) (hd : decode cc pc = .ok (.getstatic 83, 3)) (h : Sim x w nL inj k (pc + 3) lv (.ref (wS2 w) :: st) σ) : Sim x w nL inj k pc lv st σ :=
  fun H locs ls r hk hP hS hl => va_gets C.1 C.2.1 C.2.2.2.2.2.2.2.2.2.1.2.2.1 hS C.2.2.2.1 (C.2.2.2.2.1 (.fieldLink "FamilyNames$Lines" 83 "FamilyNames$Lines" "WORTH" "[I") (gtb_at 838 (by decide +kernel) rfl)) (fun _ z => z) hd (h H locs ls r hk hP hS hl)
theorem S_sald2 (C : Cok x w own cc nL ret fr lo) {i : Int32} (hd : decode cc pc = .ok (.iaload, 1)) (h : vp_in i 5 → Sim x w nL inj k (pc + 1) lv (.int (tWorth i.toNatClampNeg) :: st) σ) : Sim x w nL inj (chk i 5 k) pc lv (.int i :: .ref (wS2 w) :: st) σ :=
  fun H locs ls r hk hP hS hl => va_ti C.1 C.2.1 C.2.2.2.2.2.2.2.2.2.1.2.2.2.1 hS (chk_some hk).1 rfl hd (h (chk_some hk).1 H locs ls r (chk_some hk).2 hP hS hl)
theorem S_callN (C : Cok x w RX4 cc nL ret fr lo) {ρ1 : Type} {f : Option ρ1} {K : ρ1 → Option ρ} {inj1 : ρ1 → Option Value × St} {bytes : ByteArray} {maxL fr1 lo1 n : Nat} {rt : Option FieldType} {As st0 : List Value}
    (hm : mwI yX10_divideUp bytes maxL rt n) (hv : Cond.static yX10_divideUp ∈ gtb) (hcon : ∀ r, f = some r → Con w (mL x) yX10_divideUp bytes maxL rt fr1 lo1 As σ (inj1 r)) (hR : fr1 + 1 ≤ fr ∧ 8 + (maxL + 11) + lo1 ≤ lo) (hn : As.length = n)
    (hst : st0 = As.reverse ++ st) (hW : (st.map fun v => v.category).sum ≤ 8) (hd : decode cc pc = .ok (.invokestatic 51, 3))
    (h : ∀ r, Sim x w nL inj (K r) (pc + 3) lv ((inj1 r).1.toList ++ st) (inj1 r).2) : Sim x w nL inj (f.bind K) pc lv st0 σ := by
  intro H locs ls r hkk hP hS hls
  obtain ⟨r1, hf, hK⟩ := Option.bind_eq_some_iff.mp hkk
  subst hst
  refine S_back (f := (σ, none)) (o := inj1 r1) (av := As.toArray) (va_runSN (As := As) (rest := st) (n := n) (nL := nL) ⟨C.1, C.2.1, C.2.2.1, C.2.2.2.1, C.2.2.2.2.1⟩ (hcon r1 hf) ⟨va_cnB n C.2.2.2.2.1 (tbl_in hm.1) rfl rfl rfl C.2.2.2.2.2.2.2.2.2.1.2.2.2.2.2.2.2.2 (C.2.2.2.2.1 _ hm.2.1) hm.2.2 (by rw [C.2.2.2.2.2.2.2.2.2.2]; exact hR), C.2.2.2.2.1 _ hv, trivial⟩ ⟨pc_blind, pc_pre C hP hS⟩ rfl hn hls.1 rfl (lv_room hW) hd (cs0 C)) hS hls hK (h r1)
end More
