/-! constructors: the object under construction, and the cells that it has made, newest first -/
abbrev ZB : Type := va_G × ClassId × ClassId × ClassId × ClassId × Heap × Nat × Nat × (Nat → Nat) × (Nat → Nat)
abbrev bD (B : ZB) : va_G := B.1
abbrev bI (B : ZB) : ClassId := B.2.1
abbrev bJ (B : ZB) : ClassId := B.2.2.1
abbrev bY (B : ZB) : ClassId := B.2.2.2.1
abbrev bS (B : ZB) : ClassId := B.2.2.2.2.1
abbrev bH (B : ZB) : Heap := B.2.2.2.2.2.1
abbrev bT (B : ZB) : List (ClassId × FieldType) := [(bI B, .int), (bJ B, .long), (bY B, .byte), (bS B, .object "FamilyNames$Sheet")]
/-- what the start gives of a state: statics and constants, a private constructor's link, arrays over Sheet -/
def EB (B : ZB) (U : State) : Prop :=
  (∀ w : WX, wS1 w = B.2.2.2.2.2.2.1 → wS2 w = B.2.2.2.2.2.2.2.1 → wKs w = B.2.2.2.2.2.2.2.2.1 → wVs w = B.2.2.2.2.2.2.2.2.2 → (∀ q, wA w q → (bH B).size ≤ q) → wE w U (bH B)) ∧
  va_Nw (.methodLinkNest "FamilyNames" 71 yX2_init "FamilyNames") U ∧ va_AO "FamilyNames$Sheet" U
def HB (B : ZB) (H : Heap) : Prop := (bH B).size ≤ H.size ∧ ∀ q : Nat, q < (bH B).size → H[q]? = (bH B)[q]?
theorem EB.warm {B : ZB} {s U : State} (hW : s.WarmedH U.vm) (h : EB B s) : EB B U :=
  ⟨fun w a1 a2 a3 a4 a5 => wE.warm hW (h.1 w a1 a2 a3 a4 a5), h.2.1.warmM hW, h.2.2.moved hW.alike⟩
theorem EB.same {B : ZB} {u U : State} (hv : U.vm = u.vm) (h : EB B u) : EB B U :=
  ⟨fun w a1 a2 a3 a4 a5 => wE.same hv (h.1 w a1 a2 a3 a4 a5), h.2.1.same rfl hv.symm, h.2.2.moved (hv ▸ Vm.Alike.refl U.vm)⟩
def cA (h0 sz : Nat) : Nat → Prop := fun q => q = h0 ∨ sz ≤ q
def fls (N : Nat) (g : Nat → Value) : List Value := (List.range N).map g
def uf (g : Nat → Value) (k : Nat) (v : Value) : Nat → Value := fun j => bif Nat.beq j k then v else g j
theorem fls_len (N : Nat) (g : Nat → Value) : (fls N g).length = N := by simp [fls]
theorem fls_at {N k : Nat} (g : Nat → Value) (h : k < N) : (fls N g)[k]? = some (g k) := by simp [fls, h]
theorem fls_V {N k : Nat} (g : Nat → Value) (h : k < N) : vp_V (fls N g) k = g k := by
  unfold vp_V
  rw [List.getD_eq_getElem?_getD, fls_at g h]
  rfl
theorem fls_set (N : Nat) (g : Nat → Value) (k : Nat) (v : Value) : (fls N g).set k v = fls N (uf g k v) := by
  apply List.ext_getElem?
  intro j
  rw [List.getElem?_set]
  by_cases hj : j < N
  · rw [fls_at _ hj, fls_at _ hj, fls_len]
    by_cases hk : k = j
    · subst hk
      rw [if_pos rfl, if_pos hj]
      unfold uf
      rw [Nat.beq_refl]
      rfl
    · rw [if_neg hk]
      unfold uf
      rw [show Nat.beq j k = false by
        cases hb : Nat.beq j k
        · rfl
        · exact absurd (Nat.eq_of_beq_eq_true hb).symm hk]
      rfl
  · have h1 : (fls N g)[j]? = none := List.getElem?_eq_none (by rw [fls_len]; omega)
    have h2 : (fls N (uf g k v))[j]? = none := List.getElem?_eq_none (by rw [fls_len]; omega)
    rw [h1, h2, fls_len]
    by_cases hk : k = j
    · subst hk
      rw [if_pos rfl, if_neg hj]
    · rw [if_neg hk]
theorem P_iff {D : va_G} {cl : List vw_C} {ws : va_W} {H : Heap} : va_P D cl ws H ↔ ∀ c ∈ ws, va_at D cl c H :=
  ⟨fun h c hc => by
    obtain ⟨k, hk⟩ := List.mem_iff_getElem?.mp hc
    exact h k c hk, fun h k q hk => h q (List.mem_of_getElem? hk)⟩
theorem D_iff {A : Nat → Prop} {ws : va_W} : va_D A ws ↔ (ws.map (fun c => c.1)).Nodup ∧ ∀ c ∈ ws, A c.1 := by
  refine ⟨fun h => ⟨?_, fun c hc => ?_⟩, fun h => ⟨fun i j p q hi hj he => ?_, fun k q hk => h.2 q (List.mem_of_getElem? hk)⟩⟩
  · refine List.pairwise_iff_getElem.mpr fun i j hi hj hij he => ?_
    rw [List.length_map] at hi hj
    rw [List.getElem_map, List.getElem_map] at he
    have := h.1 i j _ _ (List.getElem?_eq_getElem hi) (List.getElem?_eq_getElem hj) he
    omega
  · obtain ⟨k, hk⟩ := List.mem_iff_getElem?.mp hc
    exact h.2 k c hk
  · have hn := List.pairwise_iff_getElem.mp h.1
    obtain ⟨hli, hi⟩ := List.getElem?_eq_some_iff.mp hi
    obtain ⟨hlj, hj⟩ := List.getElem?_eq_some_iff.mp hj
    rcases Nat.lt_trichotomy i j with h1 | h1 | h1
    · exact absurd (by rw [List.getElem_map, List.getElem_map, hi, hj]; exact he) (hn i j (by rw [List.length_map]; exact hli) (by rw [List.length_map]; exact hlj) h1)
    · exact h1
    · exact absurd (by rw [List.getElem_map, List.getElem_map, hi, hj]; exact he.symm) (hn j i (by rw [List.length_map]; exact hlj) (by rw [List.length_map]; exact hli) h1)
theorem P_front {D : va_G} {cl : List vw_C} {c0 c : Nat × va_E} {as : va_W} {H : Heap} (h : va_P D cl ((c0 :: as) ++ [c]) H) : va_P D cl (c0 :: c :: as) H :=
  P_iff.mpr fun q hq => P_iff.mp h q (by
    rcases List.mem_cons.mp hq with e | e
    · exact e ▸ List.mem_append_left _ List.mem_cons_self
    · rcases List.mem_cons.mp e with e | e
      · exact e ▸ List.mem_append_right _ List.mem_cons_self
      · exact List.mem_append_left _ (List.mem_cons_of_mem _ e))
theorem D_front {A : Nat → Prop} {c0 c : Nat × va_E} {as : va_W} (h : va_D A ((c0 :: as) ++ [c])) : va_D A (c0 :: c :: as) := by
  have hp : List.Perm ((c0 :: as) ++ [c]) (c0 :: c :: as) := (List.perm_append_singleton c as).cons c0
  rw [D_iff] at h ⊢
  exact ⟨(hp.map (fun c => c.1)).nodup_iff.mp h.1, fun q hq => h.2 q (hp.mem_iff.mpr hq)⟩
theorem I_join {D : va_G} {cl : List vw_C} {A : Nat → Prop} {c0 : Nat × va_E} {q : Nat} {e : va_E} {as u : va_W} {H H1 : Heap} (hP : va_P D cl (c0 :: (q, e) :: as) H) (hD : va_D A (c0 :: (q, e) :: as)) (hA : ∀ p : Nat, H.size ≤ p → A p)
    (hk : ∀ p : Nat, p < H.size → ¬ cA q H.size p → H1[p]? = H[p]?) (hP1 : va_P D cl u H1) (hD1 : va_D (cA q H.size) u) : va_P D cl (c0 :: (u ++ as)) H1 ∧ va_D A (c0 :: (u ++ as)) := by
  have hP' := P_iff.mp hP
  have hP1' := P_iff.mp hP1
  have hlt : ∀ c ∈ c0 :: (q, e) :: as, c.1 < H.size := fun c hc => (hP' c hc).lt
  rw [D_iff] at hD hD1
  obtain ⟨n1, n2⟩ := hD
  rw [List.map_cons, List.map_cons, List.nodup_cons, List.nodup_cons] at n1
  obtain ⟨n3, n4, n5⟩ := n1
  have hold : ∀ c ∈ c0 :: as, c.1 ≠ q ∧ c.1 < H.size := fun c hc => by
    rcases List.mem_cons.mp hc with rfl | hc
    · exact ⟨fun he => n3 (by rw [he]; exact List.mem_cons_self), hlt _ List.mem_cons_self⟩
    · exact ⟨fun he => n4 (by
        show q ∈ as.map (fun c => c.1)
        rw [← he]
        exact List.mem_map_of_mem (f := fun c : Nat × va_E => c.1) hc), hlt _ (List.mem_cons_of_mem _ (List.mem_cons_of_mem _ hc))⟩
  have hkeep : ∀ c ∈ c0 :: as, H1[c.1]? = H[c.1]? := fun c hc => hk c.1 (hold c hc).2 (fun hh => by
    rcases hh with hh | hh
    · exact (hold c hc).1 hh
    · exact absurd (hold c hc).2 (Nat.not_lt.mpr hh))
  have hat : ∀ c ∈ c0 :: as, va_at D cl c H1 := fun c hc => (hP' c (by
    rcases List.mem_cons.mp hc with e | e
    · exact e ▸ List.mem_cons_self
    · exact List.mem_cons_of_mem _ (List.mem_cons_of_mem _ e))).kept (hkeep c hc)
  have hdis : ∀ c ∈ u, ∀ c' ∈ c0 :: as, c.1 ≠ c'.1 := fun c hc c' hc' he => by
    rcases hD1.2 c hc with hh | hh
    · exact (hold c' hc').1 (by rw [← he]; exact hh)
    · exact absurd (hold c' hc').2 (by rw [← he]; exact Nat.not_lt.mpr hh)
  refine ⟨P_iff.mpr fun c hc => ?_, D_iff.mpr ⟨?_, fun c hc => ?_⟩⟩
  · rcases List.mem_cons.mp hc with e | hc
    · exact hat c (e ▸ List.mem_cons_self)
    · rcases List.mem_append.mp hc with hc | hc
      · exact hP1' c hc
      · exact hat c (List.mem_cons_of_mem _ hc)
  · rw [List.map_cons, List.nodup_cons, List.map_append, List.nodup_append]
    refine ⟨fun hm => ?_, hD1.1, n5, fun a ha b hb he => ?_⟩
    · rcases List.mem_append.mp hm with hm | hm
      · obtain ⟨c, hc, he⟩ := List.mem_map.mp hm
        exact hdis c hc c0 List.mem_cons_self he
      · exact n3 (List.mem_cons_of_mem _ hm)
    · obtain ⟨c, hc, rfl⟩ := List.mem_map.mp ha
      obtain ⟨c', hc', rfl⟩ := List.mem_map.mp hb
      exact hdis c hc c' (List.mem_cons_of_mem _ hc') he
  · rcases List.mem_cons.mp hc with e | hc
    · exact n2 c (e ▸ List.mem_cons_self)
    · rcases List.mem_append.mp hc with hc | hc
      · rcases hD1.2 c hc with hh | hh
        · rw [hh]
          exact n2 (q, e) (List.mem_cons_of_mem _ List.mem_cons_self)
        · exact hA _ hh
      · exact n2 c (List.mem_cons_of_mem _ (List.mem_cons_of_mem _ hc))
def IPc (B : ZB) (ci : Nat) (fs : List Value) (h0 sz : Nat) (av : List Value) : Array Value → State → Prop :=
  va_Pc av (fun U => U.heap.size = sz ∧ va_P (bD B) vwCl [(h0, .inr (ci, fs))] U.heap ∧ va_K (bD B) vwCl (bT B) U ∧ EB B U ∧ HB B U.heap ∧ (bH B).size ≤ h0)
def IQ (B : ZB) (h0 sz : Nat) (R : va_W → Prop) : Array Value → State → Outcome → State → Prop :=
  va_Qv R (fun u t => va_P (bD B) vwCl u t.heap ∧ va_D (cA h0 sz) u) (cA h0 sz)
/-- a constructor's contract -/
def IC (B : ZB) (l : Launch) (y : MethodName) (bytes : ByteArray) (maxL fr lo mc ms ci : Nat) (fs : List Value) (h0 sz : Nat) (av : List Value) (R : va_W → Prop) : Prop :=
  Met l y (Cond.code y bytes maxL none :: gtb) { frames := fr, cells := mc, slots := ms, locals := lo } (IPc B ci fs h0 sz av) (IQ B h0 sz R) mc ms (cA h0 sz)
def IOk (x : MX) (B : ZB) (own : String) (cc : ByteArray) (nL h0 fr lo mc ms : Nat) : Prop :=
  (mP x).tables.exec = Jvm.exec ∧ (mC x).code = cc ∧ (mC x).maxLocals = nL ∧ (mS x).vm.findClass own = some (mM x).cls ∧ (∀ c ∈ gtb, c.before (mA x) (mS x) = true) ∧
  (mH x).sig.returnType = none ∧ (mH x).locks = false ∧ (mH x).name = "<init>" ∧ va_K (bD B) vwCl (bT B) (mS x) ∧ EB B (mS x) ∧ HB B (mS x).heap ∧ (bH B).size ≤ h0 ∧ mR x = { frames := fr, cells := mc, slots := ms, locals := lo }
def ISim (x : MX) (B : ZB) (nL h0 mc ms : Nat) (R : va_W → Prop) (cs ss pc : Nat) (lv : List (Nat × Value)) (st : List Value) (o : va_E) (as : va_W) : Prop :=
  ∀ (H : Heap) (locs : List Loc) (ls : Array Slot), va_P (bD B) vwCl ((h0, o) :: as) H → va_D (cA h0 (mS x).heap.size) ((h0, o) :: as) → va_S (cA h0 (mS x).heap.size) (mS x).heap H locs → lv_has ls nL lv →
    W (mP x) (mL x) (mE x) (mR x) (mS x) (mM x) (mA x) (mB x) (mH x) (mC x) H locs cs ss (MQ (mB x) (IQ B h0 (mS x).heap.size R) (mA x) (mS x) mc ms (cA h0 (mS x).heap.size)) (F0 (mM x) pc ls st)
theorem IC_of {B : ZB} {l : Launch} {y : MethodName} {bytes : ByteArray} {maxL fr lo mc ms ci : Nat} {fs : List Value} {h0 : Nat} {av : List Value} {R : va_W → Prop} (hy : plainName y.cls = true) (hn : y.name = "<init>") (hlen : (lg_sl av).length ≤ maxL)
    (h : ∀ x : MX, mL x = l → IOk x B y.cls bytes maxL h0 fr lo mc ms → ISim x B maxL h0 mc ms R 0 0 0 (lv_args 0 av) [] (.inr (ci, fs)) []) (sz : Nat) : IC B l y bytes maxL fr lo mc ms ci fs h0 sz av R := by
  refine Met.ofW (cc := bytes) (maxL := maxL) (ret := none) hy rfl ?_
  intro p e s m args below meth c s₁ B1 hml hv
  obtain ⟨rfl, rfl, hP, hK, hE, hH, hh⟩ := hv
  have hts := atoms_spec (ws := Cond.code y bytes maxL none :: gtb) B1.pre
  have C : IOk (p, l, e, { frames := fr, cells := mc, slots := ms, locals := lo }, s, m, av.toArray, below, meth, c) B y.cls bytes maxL h0 fr lo mc ms :=
    ⟨B1.exec, B1.bytes, hml, findClass_of_methodNamed B1.named, fun c h => hts c (List.mem_cons_of_mem _ h), B1.returns, B1.notSynchronized, (name_of_methodNamed B1.named B1.method).1.trans hn, hK, hE, hH, hh, rfl⟩
  rw [lg_entry_eq]
  exact h _ rfl C s.heap [] _ hP (D_iff.mpr ⟨by simp, fun c hc => by
    rw [List.mem_singleton.mp hc]
    exact Or.inl rfl⟩) va_S.rf (lv_entry av hlen)
section IRows
variable {x : MX} {B : ZB} {own : String} {cc : ByteArray} {nL h0 fr lo mc ms : Nat} {R : va_W → Prop} {cs ss pc : Nat} {lv : List (Nat × Value)} {st : List Value} {o : va_E} {as : va_W}
theorem I_sub (ks : List Nat) {lv' : List (Nat × Value)} (hl' : lv_pick lv ks = lv') (h : ISim x B nL h0 mc ms R cs ss pc lv' st o as) : ISim x B nL h0 mc ms R cs ss pc lv st o as :=
  fun H locs ls hP hD hS hl => h H locs ls hP hD hS (lv_sub hl ks hl')
theorem I_aload_n (C : IOk x B own cc nL h0 fr lo mc ms) (j : Nat) {i : Fin 4} {a : Nat} (hd : decode cc pc = .ok (.aload_n i, 1)) (hj : lv[j]? = some ((i : Nat), .ref a)) (h : ISim x B nL h0 mc ms R cs ss (pc + 1) lv (.ref a :: st) o as) : ISim x B nL h0 mc ms R cs ss pc lv st o as := fun H locs ls hP hD hS hl => lv_aload_n C.1 C.2.1 hd rfl (lv_at hl j hj) (h H locs ls hP hD hS hl)
theorem I_iload_n (C : IOk x B own cc nL h0 fr lo mc ms) (j : Nat) {i : Fin 4} {a : Int32} (hd : decode cc pc = .ok (.iload_n i, 1)) (hj : lv[j]? = some ((i : Nat), .int a)) (h : ISim x B nL h0 mc ms R cs ss (pc + 1) lv (.int a :: st) o as) : ISim x B nL h0 mc ms R cs ss pc lv st o as := fun H locs ls hP hD hS hl => lv_iload_n C.1 C.2.1 hd rfl (lv_at hl j hj) (h H locs ls hP hD hS hl)
theorem I_iconst (C : IOk x B own cc nL h0 fr lo mc ms) (v : Int32) {n : Int} (hd : decode cc pc = .ok (.iconst n, 1)) (hv : Int32.ofInt n = v) (h : ISim x B nL h0 mc ms R cs ss (pc + 1) lv (.int v :: st) o as) : ISim x B nL h0 mc ms R cs ss pc lv st o as := fun H locs ls hP hD hS hl => lv_iconst C.1 C.2.1 hd hv (h H locs ls hP hD hS hl)
theorem I_bipush (C : IOk x B own cc nL h0 fr lo mc ms) (v : Int32) {n : Int} (hd : decode cc pc = .ok (.bipush n, 2)) (hv : (Int8.ofInt n).toInt32 = v) (h : ISim x B nL h0 mc ms R cs ss (pc + 2) lv (.int v :: st) o as) : ISim x B nL h0 mc ms R cs ss pc lv st o as := fun H locs ls hP hD hS hl => lv_bipush C.1 C.2.1 hd hv (h H locs ls hP hD hS hl)
theorem I_sipush (C : IOk x B own cc nL h0 fr lo mc ms) (v : Int32) {n : Int} (hd : decode cc pc = .ok (.sipush n, 3)) (hv : (Int16.ofInt n).toInt32 = v) (h : ISim x B nL h0 mc ms R cs ss (pc + 3) lv (.int v :: st) o as) : ISim x B nL h0 mc ms R cs ss pc lv st o as := fun H locs ls hP hD hS hl => lv_sipush C.1 C.2.1 hd hv (h H locs ls hP hD hS hl)
theorem I_dup (C : IOk x B own cc nL h0 fr lo mc ms) {a : Value} (hd : decode cc pc = .ok (.dup, 1)) (ha : a.category = 1) (h : ISim x B nL h0 mc ms R cs ss (pc + 1) lv (a :: a :: st) o as) : ISim x B nL h0 mc ms R cs ss pc lv (a :: st) o as := fun H locs ls hP hD hS hl => lv_dup C.1 C.2.1 hd ha (h H locs ls hP hD hS hl)
theorem I_istore_n (C : IOk x B own cc nL h0 fr lo mc ms) (lv1 : List (Nat × Value)) {f : Fin 4} {i : Nat} {a : Int32} (hd : decode cc pc = .ok (.istore_n f, 1)) (hi : (f : Nat) = i) (hn : i < nL) (hf : (i, Value.int a) :: lv.filter (fun q => !(q.1 == i) && !(q.1 + 1 == i && q.2.category == 2)) = lv1) (h : ISim x B nL h0 mc ms R cs ss (pc + 1) lv1 st o as) : ISim x B nL h0 mc ms R cs ss pc lv (.int a :: st) o as := fun H locs ls hP hD hS hl => lv_istore_n C.1 C.2.1 hd hi hl hn hf (fun ls1 hl1 => h H locs ls1 hP hD hS hl1)
theorem I_iinc (C : IOk x B own cc nL h0 fr lo mc ms) (j : Nat) (lv1 : List (Nat × Value)) {i : Nat} {n : Int} {a : Int32} (v : Int32) (hd : decode cc pc = .ok (.iinc i n, 3)) (hj : lv[j]? = some (i, .int a)) (hv : a + Int32.ofInt n = v) (hn : i < nL) (hf : (i, Value.int v) :: lv.filter (fun q => !(q.1 == i) && !(q.1 + 1 == i && q.2.category == 2)) = lv1) (h : ISim x B nL h0 mc ms R cs ss (pc + 3) lv1 st o as) : ISim x B nL h0 mc ms R cs ss pc lv st o as := fun H locs ls hP hD hS hl => lv_iinc C.1 C.2.1 hd hl hj hv hn hf (fun ls1 hl1 => h H locs ls1 hP hD hS hl1)
theorem I_icmp_ge (C : IOk x B own cc nL h0 fr lo mc ms) (tgt : Nat) {a b : Int32} {off : Int} (hd : decode cc pc = .ok (.if_icmp .ge off, 3)) (ht : (pc : Int) + off = (tgt : Int)) (ht1 : b ≤ a → ISim x B nL h0 mc ms R cs ss tgt lv st o as) (hf1 : ¬ b ≤ a → ISim x B nL h0 mc ms R cs ss (pc + 3) lv st o as) : ISim x B nL h0 mc ms R cs ss pc lv (.int b :: .int a :: st) o as := fun H locs ls hP hD hS hl => lv_icmp_ge C.1 C.2.1 hd ht (fun hc => ht1 hc H locs ls hP hD hS hl) (fun hc => hf1 hc H locs ls hP hD hS hl)
theorem I_goto (C : IOk x B own cc nL h0 fr lo mc ms) (tgt : Nat) {off : Int} (hd : decode cc pc = .ok (.goto off, 3)) (ht : (pc : Int) + off = (tgt : Int)) (h : ISim x B nL h0 mc ms R cs ss tgt lv st o as) : ISim x B nL h0 mc ms R cs ss pc lv st o as := fun H locs ls hP hD hS hl => lv_goto C.1 C.2.1 hd ht (h H locs ls hP hD hS hl)
theorem I_obj (C : IOk x B own cc nL h0 fr lo mc ms) {index a : Nat} (hl : Cond.methodLink own index objectInit ∈ gtb) (hd : decode cc pc = .ok (.invokespecial index, 3)) (hR : 1 ≤ fr ∧ (st.map fun v => v.category).sum + 12 ≤ lo) (h : ISim x B nL h0 mc ms R cs ss (pc + 3) lv st o as) : ISim x B nL h0 mc ms R cs ss pc lv (.ref a :: st) o as := fun H locs ls hP hD hS hls => by
  have eR := C.2.2.2.2.2.2.2.2.2.2.2.2
  refine W.objInit C.1 C.2.1 C.2.2.2.1 (C.2.2.2.2.1 _ hl) (C.2.2.2.2.1 (.instanceMethod objectInit) (gtb_1 28 (by rfl) rfl)) (C.2.2.2.2.1 (.code objectInit ⟨#[0xb1]⟩ 1 none) (gtb_1 29 (by rfl) rfl)) rfl (by rw [C.2.2.1]; exact hls.1) rfl hd (by rw [eR]; exact hR.1) (by
    rw [eR]
    show 2 * 0 + (st.map fun v => v.category).sum + 12 ≤ lo
    omega) ?_
  exact W.eq (g2 := F0 (mM x) (pc + 3) ls st) rfl (h H locs ls hP hD hS hls)
theorem cA_new {x : MX} {h0 : Nat} : ∀ q : Nat, (mS x).heap.size ≤ q → cA h0 (mS x).heap.size q := fun _ h => Or.inr h
theorem I_newI (C : IOk x B own cc nL h0 fr lo mc ms) {n : Int32} (N : Nat) (hn : ¬ n < 0) (hN : n.toNatClampNeg = N) (hb : N * 4 ≤ 536870912) (hc : cs + 1 ≤ mc ∧ ss + N ≤ ms) (hd : decode cc pc = .ok (.newarray .int, 2))
    (h : ∀ q, ISim x B nL h0 mc ms R (cs + 1) (ss + N) (pc + 2) lv (.ref q :: st) o ((q, .inl (bI B, N, .inl (fun _ => 0))) :: as)) : ISim x B nL h0 mc ms R cs ss pc lv (.int n :: st) o as := fun H locs ls hP hD hS hls => by
  have eR := C.2.2.2.2.2.2.2.2.2.2.2.2
  have hK := C.2.2.2.2.2.2.2.2.1
  refine va_newa (a0 := (N, .inl (fun _ => 0))) (ty := .int) (atype := .int) C.1 C.2.1 (C.2.2.2.2.1 (.arrayClass .int) (gtb_1 138 (by rfl) rfl)) rfl hK hP hD hS cA_new (fun _ => rfl) hn hN (by rw [show componentBytes FieldType.int = 4 from rfl]; exact hb) (by rw [eR]; exact hc.1) (by rw [eR]; exact hc.2) hd (fun q k1 H1 hK1 hP1 hD1 hS1 => ?_)
  have e1 : (mS x).vm.findClass ("[" ++ FieldType.int.toString) = some k1 := (hK1.2 4 (k1, .int) rfl).2
  have e2 : (mS x).vm.findClass ("[" ++ FieldType.int.toString) = some (bI B) := (hK.2 0 (bI B, .int) rfl).2
  have e : k1 = bI B := Option.some.inj (e1.symm.trans e2)
  subst e
  exact h q H1 locs ls (P_front hP1) (D_front hD1) hS1 hls
theorem I_newJ (C : IOk x B own cc nL h0 fr lo mc ms) {n : Int32} (N : Nat) (hn : ¬ n < 0) (hN : n.toNatClampNeg = N) (hb : N * 8 ≤ 536870912) (hc : cs + 1 ≤ mc ∧ ss + N ≤ ms) (hd : decode cc pc = .ok (.newarray .long, 2))
    (h : ∀ q, ISim x B nL h0 mc ms R (cs + 1) (ss + N) (pc + 2) lv (.ref q :: st) o ((q, .inl (bJ B, N, .inr (.inl (fun _ => 0)))) :: as)) : ISim x B nL h0 mc ms R cs ss pc lv (.int n :: st) o as := fun H locs ls hP hD hS hls => by
  have eR := C.2.2.2.2.2.2.2.2.2.2.2.2
  have hK := C.2.2.2.2.2.2.2.2.1
  refine va_newa (a0 := (N, .inr (.inl (fun _ => 0)))) (ty := .long) (atype := .long) C.1 C.2.1 (C.2.2.2.2.1 (.arrayClass .long) (gtb_1 182 (by rfl) rfl)) rfl hK hP hD hS cA_new (fun _ => rfl) hn hN (by rw [show componentBytes FieldType.long = 8 from rfl]; exact hb) (by rw [eR]; exact hc.1) (by rw [eR]; exact hc.2) hd (fun q k1 H1 hK1 hP1 hD1 hS1 => ?_)
  have e1 : (mS x).vm.findClass ("[" ++ FieldType.long.toString) = some k1 := (hK1.2 4 (k1, .long) rfl).2
  have e2 : (mS x).vm.findClass ("[" ++ FieldType.long.toString) = some (bJ B) := (hK.2 1 (bJ B, .long) rfl).2
  have e : k1 = bJ B := Option.some.inj (e1.symm.trans e2)
  subst e
  exact h q H1 locs ls (P_front hP1) (D_front hD1) hS1 hls
theorem I_newB (C : IOk x B own cc nL h0 fr lo mc ms) {n : Int32} (N : Nat) (hn : ¬ n < 0) (hN : n.toNatClampNeg = N) (hb : N * 1 ≤ 536870912) (hc : cs + 1 ≤ mc ∧ ss + N ≤ ms) (hd : decode cc pc = .ok (.newarray .byte, 2))
    (h : ∀ q, ISim x B nL h0 mc ms R (cs + 1) (ss + N) (pc + 2) lv (.ref q :: st) o ((q, .inl (bY B, N, .inl (fun _ => 0))) :: as)) : ISim x B nL h0 mc ms R cs ss pc lv (.int n :: st) o as := fun H locs ls hP hD hS hls => by
  have eR := C.2.2.2.2.2.2.2.2.2.2.2.2
  have hK := C.2.2.2.2.2.2.2.2.1
  refine va_newa (a0 := (N, .inl (fun _ => 0))) (ty := .byte) (atype := .byte) C.1 C.2.1 (C.2.2.2.2.1 (.arrayClass .byte) (gtb_1 45 (by rfl) rfl)) rfl hK hP hD hS cA_new (fun _ => rfl) hn hN (by rw [show componentBytes FieldType.byte = 1 from rfl]; exact hb) (by rw [eR]; exact hc.1) (by rw [eR]; exact hc.2) hd (fun q k1 H1 hK1 hP1 hD1 hS1 => ?_)
  have e1 : (mS x).vm.findClass ("[" ++ FieldType.byte.toString) = some k1 := (hK1.2 4 (k1, .byte) rfl).2
  have e2 : (mS x).vm.findClass ("[" ++ FieldType.byte.toString) = some (bY B) := (hK.2 2 (bY B, .byte) rfl).2
  have e : k1 = bY B := Option.some.inj (e1.symm.trans e2)
  subst e
  exact h q H1 locs ls (P_front hP1) (D_front hD1) hS1 hls
theorem I_newS (C : IOk x B own cc nL h0 fr lo mc ms) {n : Int32} {index : Nat} (N : Nat) (hl : Cond.classLink own index "FamilyNames$Sheet" ∈ gtb) (hn : ¬ n < 0) (hN : n.toNatClampNeg = N) (hb : N * 4 ≤ 536870912) (hc : cs + 1 ≤ mc ∧ ss + N ≤ ms) (hd : decode cc pc = .ok (.anewarray index, 3))
    (h : ∀ q, ISim x B nL h0 mc ms R (cs + 1) (ss + N) (pc + 3) lv (.ref q :: st) o ((q, .inl (bS B, N, .inr (.inr (.inr (.inr (fun _ => none)))))) :: as)) : ISim x B nL h0 mc ms R cs ss pc lv (.int n :: st) o as := fun H locs ls hP hD hS hls => by
  have eR := C.2.2.2.2.2.2.2.2.2.2.2.2
  have hK := C.2.2.2.2.2.2.2.2.1
  refine va_newq (C := "FamilyNames$Sheet") C.1 C.2.1 C.2.2.2.1 (C.2.2.2.2.1 _ hl) C.2.2.2.2.2.2.2.2.2.1.2.2 hK hP hD hS cA_new hn hN hb (by rw [eR]; exact hc.1) (by rw [eR]; exact hc.2) hd (fun q k1 H1 hK1 hP1 hD1 hS1 => ?_)
  obtain ⟨_, _, _, _, _, g1⟩ := (hK1.2 4 (k1, .object "FamilyNames$Sheet") rfl).2
  obtain ⟨_, _, _, _, _, g2⟩ := (hK.2 3 (bS B, .object "FamilyNames$Sheet") rfl).2
  have e : k1 = bS B := Option.some.inj (g1.symm.trans g2)
  subst e
  exact h q H1 locs ls (P_front hP1) (D_front hD1) hS1 hls
theorem I_new (C : IOk x B own cc nL h0 fr lo mc ms) {index ci N : Nat} {Cn : String} {T : u_T} (ty : Nat → FieldType) (hin : ∀ c ∈ u_ws Cn T N, c ∈ gtb) (hty : ∀ k, k < N → parseFieldDescriptor (T k).2.2.1 = some (ty k)) (hl : Cond.classLink own index Cn ∈ gtb) (hi : Cond.instantiable Cn N ∈ gtb) (hini : Cond.initialized Cn ∈ gtb) (hci : vwCl[ci]? = some (Cn, T, N)) (hc : cs + 1 ≤ mc ∧ ss + N ≤ ms) (hd : decode cc pc = .ok (.new index, 3))
    (h : ∀ q, (bH B).size ≤ q → ISim x B nL h0 mc ms R (cs + 1) (ss + N) (pc + 3) lv (.ref q :: st) o ((q, .inr (ci, fls N (fun j => defaultValue (ty j)))) :: as)) : ISim x B nL h0 mc ms R cs ss pc lv st o as := fun H locs ls hP hD hS hls => by
  have eR := C.2.2.2.2.2.2.2.2.2.2.2.2
  have hK := C.2.2.2.2.2.2.2.2.1
  refine va_new (fs := fls N (fun j => defaultValue (ty j))) C.1 C.2.1 C.2.2.2.2.1 hin ty hty C.2.2.2.1 (C.2.2.2.2.1 _ hl) (C.2.2.2.2.1 _ hi) (C.2.2.2.2.1 _ hini) hK hP hD hS cA_new hci (fun j hj => (fls_V (fun j => defaultValue (ty j)) hj).symm) (by rw [eR]; exact hc.1) (by rw [eR]; exact hc.2) hd (fun q H1 hP1 hD1 hS1 => ?_)
  have hq : cA h0 (mS x).heap.size q := (D_iff.mp (D_front hD1)).2 (q, _) (List.mem_cons_of_mem _ List.mem_cons_self)
  exact h q (by
    rcases hq with e | e
    · rw [e]; exact C.2.2.2.2.2.2.2.2.2.2.2.1
    · exact Nat.le_trans C.2.2.2.2.2.2.2.2.2.2.1.1 e) H1 locs ls (P_front hP1) (D_front hD1) hS1 hls
theorem I_put (C : IOk x B own cc nL h0 fr lo mc ms) {index ci N : Nat} {T : u_T} {g : Nat → Value} {v : Value} (k : Nat) (ty : Nat → FieldType) (hin : ∀ c ∈ u_ws own T N, c ∈ gtb) (hty : ∀ k, k < N → parseFieldDescriptor (T k).2.2.1 = some (ty k)) (hnm : ∀ a, a < N → ∀ b, b < N → a ≠ b → (T a).2.1 ≠ (T b).2.1) (hci : vwCl[ci]? = some (own, T, N)) (hk : k < N) (hl : Cond.fieldLink own index (T k).1 (T k).2.1 (T k).2.2.1 ∈ gtb) (hdc : (T k).1 = own) (hn : narrow (ty k) v = v) (hfit : fits (ty k) v = true) (hd : decode cc pc = .ok (.putfield index, 3))
    (h : ISim x B nL h0 mc ms R cs ss (pc + 3) lv st (.inr (ci, fls N (uf g k v))) as) : ISim x B nL h0 mc ms R cs ss pc lv (v :: .ref h0 :: st) (.inr (ci, fls N g)) as := fun H locs ls hP hD hS hls => by
  have hK := C.2.2.2.2.2.2.2.2.1
  have kk : ∀ (H1 : Heap) (locs1 : List Loc), va_P (bD B) vwCl (((h0, .inr (ci, fls N g)) :: as).set 0 (h0, .inr (ci, (fls N g).set k v))) H1 → va_D (cA h0 (mS x).heap.size) (((h0, .inr (ci, fls N g)) :: as).set 0 (h0, .inr (ci, (fls N g).set k v))) → va_S (cA h0 (mS x).heap.size) (mS x).heap H1 locs1 →
      W (mP x) (mL x) (mE x) (mR x) (mS x) (mM x) (mA x) (mB x) (mH x) (mC x) H1 locs1 cs ss (MQ (mB x) (IQ B h0 (mS x).heap.size R) (mA x) (mS x) mc ms (cA h0 (mS x).heap.size)) (F0 (mM x) (pc + 3) ls st) := fun H1 locs1 hP1 hD1 hS1 => by
    rw [fls_set] at hP1 hD1
    exact h H1 locs1 ls hP1 hD1 hS1 hls
  cases hf : (T k).2.2.2 with
  | false => exact va_put C.1 C.2.1 C.2.2.2.2.1 hin ty hty hnm C.2.2.2.1 hK hP hD hS 0 rfl hci k hk (C.2.2.2.2.1 _ hl) (fun _ z => z) hf (hty k hk) hn hfit (by rw [fls_len]; exact hk) hd kk
  | true => exact va_putF C.1 C.2.1 C.2.2.2.2.1 hin ty hty hnm C.2.2.2.1 hK hP hD hS 0 rfl hci k hk (C.2.2.2.2.1 _ hl) (fun _ z => z) hf C.2.2.2.2.2.2.2.1 hdc (hty k hk) hn hfit (by rw [fls_len]; exact hk) hd kk
theorem I_get (C : IOk x B own cc nL h0 fr lo mc ms) {index ci N : Nat} {T : u_T} {g : Nat → Value} (k : Nat) (v : Value) (hin : ∀ c ∈ u_ws own T N, c ∈ gtb) (hci : vwCl[ci]? = some (own, T, N)) (hk : k < N) (hl : Cond.fieldLink own index (T k).1 (T k).2.1 (T k).2.2.1 ∈ gtb) (hv : g k = v) (hd : decode cc pc = .ok (.getfield index, 3))
    (h : ISim x B nL h0 mc ms R cs ss (pc + 3) lv (v :: st) (.inr (ci, fls N g)) as) : ISim x B nL h0 mc ms R cs ss pc lv (.ref h0 :: st) (.inr (ci, fls N g)) as := fun H locs ls hP hD hS hls =>
  va_get C.1 C.2.1 C.2.2.2.2.1 hin C.2.2.2.1 C.2.2.2.2.2.2.2.2.1 hP 0 rfl hci k hk (C.2.2.2.2.1 _ hl) (fun _ z => z) (by rw [fls_at _ hk, hv]) hd (h H locs ls hP hD hS hls)
theorem I_iast (C : IOk x B own cc nL h0 fr lo mc ms) {q n : Nat} {f : Nat → Int32} {i v : Int32} (hi : vp_in i n) (hd : decode cc pc = .ok (.iastore, 1))
    (h : ISim x B nL h0 mc ms R cs ss (pc + 1) lv st o ((q, .inl (bI B, n, .inl (upd f i.toNatClampNeg v))) :: as)) : ISim x B nL h0 mc ms R cs ss pc lv (.int v :: .int i :: .ref q :: st) o ((q, .inl (bI B, n, .inl f)) :: as) := fun H locs ls hP hD hS hls =>
  va_iast C.1 C.2.1 C.2.2.2.2.2.2.2.2.1 hP hD hS 1 0 rfl rfl hi hd (fun H1 locs1 hP1 hD1 hS1 => h H1 locs1 ls hP1 hD1 hS1 hls)
theorem I_vret (C : IOk x B own cc nL h0 fr lo mc ms) (hR : R ((h0, o) :: as)) (hc : cs = mc) (hs : ss = ms) (hd : decode cc pc = .ok (.return_, 1)) : ISim x B nL h0 mc ms R cs ss pc lv [] o as := fun H locs ls hP hD hS hls => by
  subst hc
  subst hs
  exact W.vret C.1 C.2.1 C.2.2.2.2.2.1 (fun t ht hW => ⟨⟨_, rfl, hR, by rw [ht]; exact hP, hD⟩, hS.F ht⟩) hS.2.2 hd C.2.2.2.2.2.2.1
theorem I_HB (C : IOk x B own cc nL h0 fr lo mc ms) {H : Heap} {locs : List Loc} (hS : va_S (cA h0 (mS x).heap.size) (mS x).heap H locs) : HB B H := by
  obtain ⟨h1, h2⟩ := C.2.2.2.2.2.2.2.2.2.2.1
  have h3 := C.2.2.2.2.2.2.2.2.2.2.2.1
  refine ⟨Nat.le_trans h1 hS.1, fun q hq => ?_⟩
  rw [hS.2.1 q (Nat.lt_of_lt_of_le hq h1) (fun hh => by
    rcases hh with hh | hh
    · omega
    · omega)]
  exact h2 q hq
theorem I_blind {ci : Nat} {fs : List Value} {q sz : Nat} {av : List Value} : FrameBlind (IPc B ci fs q sz av) := fun a U g mk hh => by
  obtain ⟨q0, q1, qP, qK, qE, qH, qh⟩ := hh
  exact ⟨q0, q1, qP, va_K.moved (u := U) (U := U.calling g mk a) (Vm.Alike.refl U.vm) qK, EB.same (u := U) (U := U.calling g mk a) rfl qE, qH, qh⟩
theorem I_pre (C : IOk x B own cc nL h0 fr lo mc ms) {ci : Nat} {fs : List Value} {q : Nat} {av : List Value} {H : Heap} {locs : List Loc} (hP : va_P (bD B) vwCl ((h0, o) :: (q, .inr (ci, fs)) :: as) H) (hS : va_S (cA h0 (mS x).heap.size) (mS x).heap H locs) (hq : (bH B).size ≤ q) : ∀ U : State, U.heap = H → (mS x).WarmedH U.vm → IPc B ci fs q H.size av av.toArray U := fun U hU hW =>
  ⟨rfl, by rw [hU], by
    rw [hU]
    exact P_iff.mpr fun c hc => P_iff.mp hP c (by
      rw [List.mem_singleton.mp hc]
      exact List.mem_cons_of_mem _ List.mem_cons_self), va_K.moved hW.alike C.2.2.2.2.2.2.2.2.1, EB.warm hW C.2.2.2.2.2.2.2.2.2.1, by rw [hU]; exact I_HB C hS, hq⟩
theorem I_back (C : IOk x B own cc nL h0 fr lo mc ms) {ci mc1 ms1 : Nat} {fs : List Value} {q : Nat} {av : Array Value} {st0 : List Value} {R1 : va_W → Prop} {H : Heap} {locs : List Loc} {ls : Array Slot} (hP : va_P (bD B) vwCl ((h0, o) :: (q, .inr (ci, fs)) :: as) H) (hD : va_D (cA h0 (mS x).heap.size) ((h0, o) :: (q, .inr (ci, fs)) :: as)) (hS : va_S (cA h0 (mS x).heap.size) (mS x).heap H locs) (hls : lv_has ls nL lv)
    (hr : va_Run (mP x) (mL x) (mE x) (mR x) (mS x) (mM x) (mA x) (mB x) (mH x) (mC x) H locs cs ss mc1 ms1 (F0 (mM x) pc ls st0) st (IQ B q H.size R1 av) (cA q H.size))
    (h : ∀ u, R1 u → ISim x B nL h0 mc ms R (cs + mc1) (ss + ms1) (pc + 3) lv st o (u ++ as)) :
    W (mP x) (mL x) (mE x) (mR x) (mS x) (mM x) (mA x) (mB x) (mH x) (mC x) H locs cs ss (MQ (mB x) (IQ B h0 (mS x).heap.size R) (mA x) (mS x) mc ms (cA h0 (mS x).heap.size)) (F0 (mM x) pc ls st0) := by
  have hqA : cA h0 (mS x).heap.size q := (D_iff.mp hD).2 (q, _) (List.mem_cons_of_mem _ List.mem_cons_self)
  have hfr : ∀ p, cA q H.size p → cA h0 (mS x).heap.size p := fun p hp => by
    rcases hp with rfl | hp
    · exact hqA
    · exact Or.inr (Nat.le_trans hS.1 hp)
  refine va_callv hr hS (fun p _ hp => hfr p hp) hfr (fun u t H1 locs1 ht hvm hw hB hz hk hS1 => ?_)
  obtain ⟨hP1, hD1⟩ := hB
  rw [ht] at hP1
  obtain ⟨j1, j2⟩ := I_join hP hD (fun p hp => Or.inr (Nat.le_trans hS.1 hp)) hk hP1 hD1
  exact h u hw H1 locs1 ls j1 j2 hS1 hls
theorem I_call (C : IOk x B own cc nL h0 fr lo mc ms) {y : MethodName} {bytes : ByteArray} {maxL fr1 lo1 mc1 ms1 n index ci q : Nat} {fs As st0 : List Value} {R1 : va_W → Prop} (hm : mwI y bytes maxL none n) (hi : Cond.instanceMethod y ∈ gtb) (hl : Cond.methodLink own index y ∈ gtb) (hy : y.name = "<init>") (hcon : ∀ sz, IC B (mL x) y bytes maxL fr1 lo1 mc1 ms1 ci fs q sz (.ref q :: As) R1) (hq : (bH B).size ≤ q)
    (hR : fr1 + 1 ≤ fr ∧ 8 + (maxL + 11) + lo1 ≤ lo) (hn : As.length = n) (hc : cs + mc1 ≤ mc ∧ ss + ms1 ≤ ms) (hst : st0 = As.reverse ++ .ref q :: st) (hW : (st.map fun v => v.category).sum ≤ 8) (hd : decode cc pc = .ok (.invokespecial index, 3))
    (h : ∀ u, R1 u → ISim x B nL h0 mc ms R (cs + mc1) (ss + ms1) (pc + 3) lv st o (u ++ as)) : ISim x B nL h0 mc ms R cs ss pc lv st0 o ((q, .inr (ci, fs)) :: as) := fun H locs ls hP hD hS hls => by
  subst hst
  have eR := C.2.2.2.2.2.2.2.2.2.2.2.2
  refine I_back C hP hD hS hls (va_runI (As := As) (rest := st) (b := q) (n := n) (nL := nL) ⟨C.1, C.2.1, C.2.2.1, C.2.2.2.1, C.2.2.2.2.1⟩ (hcon H.size) ⟨callB_of n C.2.2.2.2.1 (tbl_in hm.1) rfl rfl rfl (C.2.2.2.2.1 _ hm.2.1) (C.2.2.2.2.1 _ hl) hm.2.2 (by rw [eR]; exact hR), hy, C.2.2.2.2.1 _ hi⟩ ⟨I_blind, I_pre C hP hS hq⟩ rfl hn hls.1 rfl (lv_room hW) hd (by rw [eR]; exact hc)) h
end IRows
