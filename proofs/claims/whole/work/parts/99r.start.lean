/-! the law's start: both systems made -/
theorem arrV_eqOn {cI : ClassId} {N : Nat} {f g : Nat → Value} (h : ∀ j, j < N → f j = g j) : arrV cI N f = arrV cI N g := by
  unfold arrV
  rw [show (fun j : Fin N => f j.val) = fun j : Fin N => g j.val from funext fun j => h j.val j.isLt]
theorem D_app {A : Nat → Prop} {u v : va_W} (h : va_D A (u ++ v)) : va_D A u ∧ va_D A v ∧ ∀ c ∈ u, ∀ c' ∈ v, c.1 ≠ c'.1 := by
  rw [D_iff, List.map_append, List.nodup_append] at h
  obtain ⟨⟨h1, h2, h3⟩, h4⟩ := h
  exact ⟨D_iff.mpr ⟨h1, fun c hc => h4 c (List.mem_append_left _ hc)⟩, D_iff.mpr ⟨h2, fun c hc => h4 c (List.mem_append_right _ hc)⟩, fun c hc c' hc' => h3 c.1 (List.mem_map_of_mem hc) c'.1 (List.mem_map_of_mem hc')⟩
theorem inj_of {A : Nat → Prop} {pm : List Nat} {a : Nat → Nat} {g : Nat → va_E} (h : va_D A (pm.map (fun q => (a q, g q)))) {i j : Nat} (hi : i ∈ pm) (hj : j ∈ pm) (he : a i = a j) : i = j := by
  obtain ⟨ki, hki⟩ := List.mem_iff_getElem?.mp hi
  obtain ⟨kj, hkj⟩ := List.mem_iff_getElem?.mp hj
  have e := h.1 ki kj (a i, g i) (a j, g j) (by rw [List.getElem?_map, hki]; rfl) (by rw [List.getElem?_map, hkj]; rfl) he
  subst e
  exact Option.some.inj (hki.symm.trans hkj)
theorem J_join {D : va_G} {cl : List vw_C} {A : Nat → Prop} {q : Nat} {e : va_E} {as u : va_W} {H H1 : Heap} (hP : va_P D cl ((q, e) :: as) H) (hD : va_D A ((q, e) :: as)) (hA : ∀ p : Nat, H.size ≤ p → A p)
    (hk : ∀ p : Nat, p < H.size → ¬ cA q H.size p → H1[p]? = H[p]?) (hP1 : va_P D cl u H1) (hD1 : va_D (cA q H.size) u) : va_P D cl (u ++ as) H1 ∧ va_D A (u ++ as) := by
  have hP' := P_iff.mp hP
  have hP1' := P_iff.mp hP1
  have hlt : ∀ c ∈ (q, e) :: as, c.1 < H.size := fun c hc => (hP' c hc).lt
  rw [D_iff] at hD hD1
  obtain ⟨n1, n2⟩ := hD
  rw [List.map_cons, List.nodup_cons] at n1
  obtain ⟨n4, n5⟩ := n1
  have hold : ∀ c ∈ as, c.1 ≠ q ∧ c.1 < H.size := fun c hc => ⟨fun he => n4 (by
        show q ∈ as.map (fun c => c.1)
        rw [← he]
        exact List.mem_map_of_mem (f := fun c : Nat × va_E => c.1) hc), hlt _ (List.mem_cons_of_mem _ hc)⟩
  have hkeep : ∀ c ∈ as, H1[c.1]? = H[c.1]? := fun c hc => hk c.1 (hold c hc).2 (fun hh => by
    rcases hh with hh | hh
    · exact (hold c hc).1 hh
    · exact absurd (hold c hc).2 (Nat.not_lt.mpr hh))
  have hat : ∀ c ∈ as, va_at D cl c H1 := fun c hc => (hP' c (List.mem_cons_of_mem _ hc)).kept (hkeep c hc)
  have hdis : ∀ c ∈ u, ∀ c' ∈ as, c.1 ≠ c'.1 := fun c hc c' hc' he => by
    rcases hD1.2 c hc with hh | hh
    · exact (hold c' hc').1 (by rw [← he]; exact hh)
    · exact absurd (hold c' hc').2 (by rw [← he]; exact Nat.not_lt.mpr hh)
  refine ⟨P_iff.mpr fun c hc => ?_, D_iff.mpr ⟨?_, fun c hc => ?_⟩⟩
  · rcases List.mem_append.mp hc with hc | hc
    · exact hP1' c hc
    · exact hat c hc
  · rw [List.map_append, List.nodup_append]
    refine ⟨hD1.1, n5, fun a ha b hb he => ?_⟩
    obtain ⟨c, hc, rfl⟩ := List.mem_map.mp ha
    obtain ⟨c', hc', rfl⟩ := List.mem_map.mp hb
    exact hdis c hc c' hc' he
  · rcases List.mem_append.mp hc with hc | hc
    · rcases hD1.2 c hc with hh | hh
      · rw [hh]
        exact n2 (q, e) List.mem_cons_self
      · exact hA _ hh
    · exact n2 c (List.mem_cons_of_mem _ hc)
theorem J_make {x : MX} {B : ZB} (c1 : (mP x).tables.exec = Jvm.exec) (c2 : (mC x).code = cL_law) (c3 : (mC x).maxLocals = 4) (c4 : (mS x).vm.findClass RL = some (mM x).cls) (c5 : ∀ c ∈ gtb, c.before (mA x) (mS x) = true) (c8 : mR x = room_1) (hK : va_K (bD B) vwCl (bT B) (mS x)) (hE : EB B (mS x)) (hH : bH B = (mS x).heap)
    {i1 i2 ci N maxL fr1 lo1 mc1 ms1 cs ss pc : Nat} {Cn : String} {T : u_T} {y : MethodName} {bytes : ByteArray} {R1 : Nat → va_W → Prop} (ty : Nat → FieldType) (hin : ∀ c ∈ u_ws Cn T N, c ∈ gtb) (hty : ∀ k, k < N → parseFieldDescriptor (T k).2.2.1 = some (ty k)) (hl : Cond.classLink RL i1 Cn ∈ gtb) (hi : Cond.instantiable Cn N ∈ gtb) (hini : Cond.initialized Cn ∈ gtb) (hci : vwCl[ci]? = some (Cn, T, N))
    (hm : mwI y bytes maxL none 0) (hmi : Cond.instanceMethod y ∈ gtb) (hml : Cond.methodLink RL i2 y ∈ gtb) (hy : y.name = "<init>") (hcon : ∀ q sz, IC B (mL x) y bytes maxL fr1 lo1 mc1 ms1 ci (fls N (fun j => defaultValue (ty j))) q sz [.ref q] (R1 q)) (hR : fr1 + 1 ≤ 2048 ∧ 8 + (maxL + 11) + lo1 ≤ 84000) (hc : cs + 1 + mc1 ≤ 600000 ∧ ss + N + ms1 ≤ 7302250)
    (hd1 : decode cL_law pc = .ok (.new i1, 3)) (hd2 : decode cL_law (pc + 3) = .ok (.dup, 1)) (hd3 : decode cL_law (pc + 3 + 1) = .ok (.invokespecial i2, 3))
    {ws : va_W} {H : Heap} {locs : List Loc} {ls : Array Slot} {lv : List (Nat × Value)} {Q : State → Prop} (hP : va_P (bD B) vwCl ws H) (hD : va_D (nwA x) ws) (hS : va_S (nwA x) (mS x).heap H locs) (hls : lv_has ls 4 lv)
    (h : ∀ (q : Nat) (u : va_W) (H1 : Heap) (locs1 : List Loc), R1 q u → va_P (bD B) vwCl (u ++ ws) H1 → va_D (nwA x) (u ++ ws) → va_S (nwA x) (mS x).heap H1 locs1 → W (mP x) (mL x) (mE x) (mR x) (mS x) (mM x) (mA x) (mB x) (mH x) (mC x) H1 locs1 (cs + 1 + mc1) (ss + N + ms1) Q (F0 (mM x) (pc + 3 + 1 + 3) ls [.ref q])) :
    W (mP x) (mL x) (mE x) (mR x) (mS x) (mM x) (mA x) (mB x) (mH x) (mC x) H locs cs ss Q (F0 (mM x) pc ls []) := by
  refine va_new (fs := fls N (fun j => defaultValue (ty j))) c1 c2 c5 hin ty hty c4 (c5 _ hl) (c5 _ hi) (c5 _ hini) hK hP hD hS (fun q hq => hq) hci (fun j hj => (fls_V (fun j => defaultValue (ty j)) hj).symm) (by
    rw [c8]
    show cs + 1 ≤ 600000
    omega) (by
    rw [c8]
    show ss + N ≤ 7302250
    omega) hd1 (fun q H1 hP1 hD1 hS1 => ?_)
  have hperm : List.Perm (ws ++ [(q, Sum.inr (ci, fls N (fun j => defaultValue (ty j))))]) ((q, Sum.inr (ci, fls N (fun j => defaultValue (ty j)))) :: ws) := List.perm_append_singleton _ ws
  have hP2 : va_P (bD B) vwCl ((q, .inr (ci, fls N (fun j => defaultValue (ty j)))) :: ws) H1 := P_iff.mpr fun c hc => P_iff.mp hP1 c (hperm.mem_iff.mpr hc)
  have hD2 : va_D (nwA x) ((q, .inr (ci, fls N (fun j => defaultValue (ty j)))) :: ws) := by
    rw [D_iff] at hD1 ⊢
    exact ⟨(hperm.map (fun c => c.1)).nodup_iff.mp hD1.1, fun c hc => hD1.2 c (hperm.mem_iff.mpr hc)⟩
  have hq0 : (mS x).heap.size ≤ q := hD2.2 0 _ rfl
  have hfr : ∀ p, cA q H1.size p → nwA x p := fun p hp => by
    rcases hp with rfl | hp
    · exact hq0
    · exact Nat.le_trans hS1.1 hp
  refine lv_dup c1 c2 hd2 rfl ?_
  have hr := va_runI (p := mP x) (l := mL x) (e := mE x) (R := mR x) (s := mS x) (m := mM x) (args := mA x) (below := mB x) (meth := mH x) (c := mC x) (H := H1) (locs := locs) (cells := cs + 1) (slots := ss + N) (g := F0 (mM x) (pc + 3 + 1) ls [.ref q, .ref q]) (As := []) (rest := [.ref q]) (b := q) (n := 0) (nL := 4) (own := RL) (index := i2) (cc := cL_law) ⟨c1, c2, c3, c4, c5⟩ (hcon q H1.size) ⟨callB_of 0 c5 (tbl_in hm.1) rfl rfl rfl (c5 _ hm.2.1) (c5 _ hml) hm.2.2 (by rw [c8]; exact hR), hy, c5 _ hmi⟩ ⟨I_blind, fun U hU hW => ⟨rfl, by rw [hU], by
      rw [hU]
      exact P_iff.mpr fun c hc => P_iff.mp hP2 c (by
        rw [List.mem_singleton.mp hc]
        exact List.mem_cons_self), va_K.moved hW.alike hK, EB.warm hW hE, by
      rw [hU, HB, hH]
      exact ⟨hS1.1, fun p hp => hS1.2.1 p hp (Nat.not_le.mpr hp)⟩, by rw [hH]; exact hq0⟩⟩ rfl rfl hls.1 rfl (lv_room (Nat.le_of_ble_eq_true rfl)) hd3 (by rw [c8]; exact hc)
  refine va_callv hr hS1 (fun p _ hp => hfr p hp) hfr (fun u t H2 locs2 ht hvm hw hB hz hk hS2 => ?_)
  obtain ⟨hPu, hDu⟩ := hB
  rw [ht] at hPu
  obtain ⟨j1, j2⟩ := J_join hP2 hD2 (fun p hp => Nat.le_trans hS1.1 hp) hk hPu hDu
  exact h q u H2 locs2 hw j1 j2 hS2
set_option maxRecDepth 100000 in
theorem start_B {args : Array Value} {s : State} (hgv : (Jvm.Cond.and given_1 narrow_1).before args s = true) (hts : ∀ w ∈ lw_tbl, w.before args s = true) : ∃ B : ZB, bH B = s.heap ∧ va_K (bD B) vwCl (bT B) s ∧ EB B s := by
  have hg : ∀ c ∈ gtb, c.before args s = true := fun c hc => hts c (List.mem_filter.mp hc).1
  obtain ⟨d0, i0, k0⟩ := u_known hg gX0 (hg _ is_X0)
  obtain ⟨d1, i1, k1⟩ := u_known hg gX2 (hg _ is_X2)
  obtain ⟨d2, i2, k2⟩ := u_known hg gX3 (hg _ is_X3)
  obtain ⟨d3, i3, k3⟩ := u_known hg gX4 (hg _ is_X4)
  obtain ⟨d4, i4, k4⟩ := u_known hg gX5 (hg _ is_X5)
  obtain ⟨d5, i5, k5⟩ := u_known hg gX6 (hg _ is_X6)
  obtain ⟨d6, i6, k6⟩ := u_known hg gX7 (hg _ is_X7)
  obtain ⟨d7, i7, k7⟩ := u_known hg gX8 (hg _ is_X8)
  obtain ⟨d8, i8, k8⟩ := u_known hg gX9 (hg _ is_X9)
  obtain ⟨d9, i9, k9⟩ := u_known hg gX10 (hg _ is_X10)
  obtain ⟨d10, i10, k10⟩ := u_known hg gX11 (hg _ is_X11)
  obtain ⟨cI, kI, mI, I1, I2, I3⟩ := Cond.arrayClass_spec (hg (.arrayClass .int) (gtb_1 138 (by rfl) rfl))
  obtain ⟨cJ, kJ, mJ, J1, J2, J3⟩ := Cond.arrayClass_spec (hg (.arrayClass .long) (gtb_1 182 (by rfl) rfl))
  obtain ⟨cY, kY, mY, Y1, Y2, Y3⟩ := Cond.arrayClass_spec (hg (.arrayClass .byte) (gtb_1 45 (by rfl) rfl))
  have hov : (Cond.arrayOver (.object "FamilyNames$Sheet")).before args s = true := hts _ (by decide +kernel)
  obtain ⟨mS, cS, kS, S1, S2, S3, S4, S5⟩ := Cond.arrayOver_spec hov
  obtain ⟨e1, e2, Ks, Vs, hw⟩ := wE_of hgv hts
  refine ⟨((fun c => ([d0, d1, d2, d3, d4, d5, d6, d7, d8, d9, d10] : List ClassId).getD c d0, fun c => ([i0, i1, i2, i3, i4, i5, i6, i7, i8, i9, i10] : List (Nat → Nat)).getD c i0), cI, cJ, cY, cS, s.heap, e1, e2, Ks, Vs), rfl, ⟨fun c q hq => ?_, fun k q hk => ?_⟩, hw, va_Nw.of rfl (hts _ (by decide +kernel)), va_AO.of hov⟩
  · have hlt : c < 11 := (List.getElem?_eq_some_iff.mp hq).1
    match c, hlt, hq with
    | 0, _, hq =>
      obtain rfl := Option.some.inj (show some ((RX0, TX0, 8) : vw_C) = some q from hq)
      exact k0
    | 1, _, hq =>
      obtain rfl := Option.some.inj (show some ((RX2, TX2, 2) : vw_C) = some q from hq)
      exact k1
    | 2, _, hq =>
      obtain rfl := Option.some.inj (show some ((RX3, TX3, 15) : vw_C) = some q from hq)
      exact k2
    | 3, _, hq =>
      obtain rfl := Option.some.inj (show some ((RX4, TX4, 7) : vw_C) = some q from hq)
      exact k3
    | 4, _, hq =>
      obtain rfl := Option.some.inj (show some ((RX5, TX5, 8) : vw_C) = some q from hq)
      exact k4
    | 5, _, hq =>
      obtain rfl := Option.some.inj (show some ((RX6, TX6, 3) : vw_C) = some q from hq)
      exact k5
    | 6, _, hq =>
      obtain rfl := Option.some.inj (show some ((RX7, TX7, 2) : vw_C) = some q from hq)
      exact k6
    | 7, _, hq =>
      obtain rfl := Option.some.inj (show some ((RX8, TX8, 10) : vw_C) = some q from hq)
      exact k7
    | 8, _, hq =>
      obtain rfl := Option.some.inj (show some ((RX9, TX9, 10) : vw_C) = some q from hq)
      exact k8
    | 9, _, hq =>
      obtain rfl := Option.some.inj (show some ((RX10, TX10, 13) : vw_C) = some q from hq)
      exact k9
    | 10, _, hq =>
      obtain rfl := Option.some.inj (show some ((RX11, TX11, 68) : vw_C) = some q from hq)
      exact k10
    | c + 11, hlt, _ => omega
  · have hlt : k < 4 := (List.getElem?_eq_some_iff.mp hk).1
    match k, hlt, hk with
    | 0, _, hk =>
      obtain rfl := Option.some.inj (show some ((cI, .int) : ClassId × FieldType) = some q from hk)
      exact ⟨fun N z => ⟨fun k h => (by cases h), kI, I2, mI, I3⟩, I1⟩
    | 1, _, hk =>
      obtain rfl := Option.some.inj (show some ((cJ, .long) : ClassId × FieldType) = some q from hk)
      exact ⟨fun N z => ⟨fun k h => (by cases h), kJ, J2, mJ, J3⟩, J1⟩
    | 2, _, hk =>
      obtain rfl := Option.some.inj (show some ((cY, .byte) : ClassId × FieldType) = some q from hk)
      exact ⟨fun N z => ⟨fun k h => (by cases h), kY, Y2, mY, Y3⟩, Y1⟩
    | 3, _, hk =>
      obtain rfl := Option.some.inj (show some ((cS, .object "FamilyNames$Sheet") : ClassId × FieldType) = some q from hk)
      exact ⟨fun N z => ⟨fun k h => (by cases h), kS, S3, mS, S4⟩, kS, mS, S3, S4, S1, S5⟩
    | k + 4, hlt, _ => omega
theorem pm10_in : ∀ q, q < 59 → q ∈ pm10 := by decide +kernel
theorem pm11_in : ∀ q, q < 48 → q ∈ pm11 := by decide +kernel
theorem pm10_lt : ∀ q ∈ pm10, q < 59 := by decide +kernel
theorem pm11_lt : ∀ q ∈ pm11, q < 48 := by decide +kernel
theorem P_10 {B : ZB} {a : Nat → Nat} {f : Nat → Option Nat} {H : Heap} (hf : ∀ j, j < 4 → f j = some (a (51 + j))) (h : ∀ c ∈ pm10.map (fun q => (a q, ce10 B a f q)), va_at (bD B) vwCl c H) : va_P (bD B) vwCl (wC (wxC (ztB B a)) σ0) H := fun k c hk => by
  obtain ⟨hlt, rfl⟩ := cells_of hk
  have hlt : k < 59 := hlt
  have h1 := h (a k, ce10 B a f k) (List.mem_map_of_mem (f := fun q => (a q, ce10 B a f q)) (pm10_in k hlt))
  by_cases e : k = 50
  · subst e
    have h2 : H[a 50]? = some (vp_cell (bS B) (4, .inr (.inr (.inr (.inr f))))) := h1
    show H[a 50]? = some (vp_cell (bS B) (4, .inr (.inr (.inr (.inr (fun j => some (a (51 + j))))))))
    rw [h2, vp_cell_q, vp_cell_q]
    exact congrArg some (arrV_eqOn fun j hj => by rw [hf j hj])
  · unfold ce10 at h1
    rw [show Nat.beq k 50 = false by
      cases hb : Nat.beq k 50
      · rfl
      · exact absurd (Nat.eq_of_beq_eq_true hb) e] at h1
    exact h1
theorem P_11 {B : ZB} {a : Nat → Nat} {H : Heap} (h : ∀ c ∈ pm11.map (fun q => (a q, cellAt (shM (ztB B a)) τ0 q)), va_at (bD B) vwCl c H) : va_P (bD B) vwCl (wC (wxM (ztB B a)) τ0) H := fun k c hk => by
  obtain ⟨hlt, rfl⟩ := cells_of hk
  exact h _ (List.mem_map_of_mem (f := fun q => (a q, cellAt (shM (ztB B a)) τ0 q)) (pm11_in k hlt))
set_option maxRecDepth 100000 in
/-- from the entry, for every script of at most 3072 ints, the law comes to its end with true -/
theorem whole_start {p : Program} {e : Env} {s : State} {m : MethodId} {below : List Frame} {meth : Method} {c : Code} (l : Launch) {b L : Nat} {xs : Nat → Int32} (hL : L ≤ 3072) (C0 : lw_At p s m meth c b L xs) : W p l e room_1 s m #[Value.ref b] below meth c s.heap [] 0 0 (lw_Z below #[Value.ref b] s) (entryFrame m ([Value.ref b] : List Value).toArray 4) := by
  obtain ⟨c1, c2, c3, c4, c5, c6, c7, c8, c9, c10⟩ := C0
  obtain ⟨B, hB, hK, hE⟩ := start_B c10 c6
  have hg : ∀ c ∈ gtb, c.before #[Value.ref b] s = true := fun c hc => c6 c (List.mem_filter.mp hc).1
  rw [lg_entry_eq]
  refine J_make (x := (p, l, e, room_1, s, m, #[Value.ref b], below, meth, c)) (B := B) (ws := []) (locs := []) (lv := [(0, .ref b)]) c1 c2 c4 c5 hg rfl hK hE hB tyX10 gX10 tyX10_ok cl_L_7 is_X10 ini_X10 (ci := 9) rfl mw_X10_init mi_X10_init ml_L_9 rfl (fun q sz => ic_X10 sz) (by decide) (by decide) dL_law_0 dL_law_3 dL_law_4 (P_iff.mpr (fun c hc => absurd hc List.not_mem_nil)) (D_iff.mpr ⟨List.nodup_nil, fun c hc => absurd hc List.not_mem_nil⟩) va_S.rf (lv_entry [.ref b] (Nat.le_of_ble_eq_true rfl)) (fun q1 u1 H1 locs1 r1 P1 D1 S1 => ?_)
  refine lv_astore_n c1 c2 dL_law_7 (i := 1) (lv' := [(1, .ref q1), (0, .ref b)]) rfl (lv_entry [.ref b] (Nat.le_of_ble_eq_true rfl)) (by decide) rfl (fun ls1 hl1 => ?_)
  refine J_make (x := (p, l, e, room_1, s, m, #[Value.ref b], below, meth, c)) (B := B) c1 c2 c4 c5 hg rfl hK hE hB tyX11 gX11 tyX11_ok cl_L_10 is_X11 ini_X11 (ci := 10) rfl mw_X11_init mi_X11_init ml_L_12 rfl (fun q sz => ic_X11 sz) (by decide) (by decide) dL_law_8 dL_law_11 dL_law_12 P1 D1 S1 hl1 (fun q2 u2 H2 locs2 r2 P2 D2 S2 => ?_)
  refine lv_astore_n c1 c2 dL_law_15 (i := 2) (lv' := [(2, .ref q2), (1, .ref q1), (0, .ref b)]) rfl hl1 (by decide) rfl (fun ls2 hl2 => ?_)
  refine lv_iconst c1 c2 (v := 0) dL_law_16 (by decide) ?_
  refine lv_istore_n c1 c2 dL_law_17 (i := 3) (lv' := [(3, .int 0), (2, .ref q2), (1, .ref q1), (0, .ref b)]) rfl hl2 (by decide) rfl (fun ls3 hl3 => ?_)
  obtain ⟨a, f, ea, ef, eu⟩ := r1
  obtain ⟨a', ea', eu'⟩ := r2
  subst ea
  subst ea'
  obtain ⟨D3, D4, D5⟩ := D_app D2
  rw [List.append_nil] at D4 D5
  rw [List.append_nil] at P2
  have hP2 := P_iff.mp P2
  rw [eu] at D4
  rw [eu'] at D3
  have A1 : ∀ q, wA (wxC (ztB B a)) q → s.heap.size ≤ q ∧ ∃ c ∈ u1, c.1 = q := fun q hq => by
    obtain ⟨i, hi, rfl⟩ := hq
    have hm : (a i, ce10 B a f i) ∈ pm10.map (fun q => (a q, ce10 B a f q)) := List.mem_map_of_mem (f := fun q => (a q, ce10 B a f q)) (pm10_in i hi)
    exact ⟨(D_iff.mp D4).2 _ hm, _, by rw [eu]; exact hm, rfl⟩
  have A2 : ∀ q, wA (wxM (ztB B a')) q → s.heap.size ≤ q ∧ ∃ c ∈ u2, c.1 = q := fun q hq => by
    obtain ⟨i, hi, rfl⟩ := hq
    have hm : (a' i, cellAt (shM (ztB B a')) τ0 i) ∈ pm11.map (fun q => (a' q, cellAt (shM (ztB B a')) τ0 q)) := List.mem_map_of_mem (f := fun q => (a' q, cellAt (shM (ztB B a')) τ0 q)) (pm11_in i hi)
    exact ⟨(D_iff.mp D3).2 _ hm, _, by rw [eu']; exact hm, rfl⟩
  have hE1 : wE (wxC (ztB B a)) s s.heap := hB ▸ hE.1 (wxC (ztB B a)) rfl rfl rfl rfl (fun q hq => by rw [hB]; exact (A1 q hq).1)
  have hE2 : wE (wxM (ztB B a')) s s.heap := hB ▸ hE.1 (wxM (ztB B a')) rfl rfl rfl rfl (fun q hq => by rw [hB]; exact (A2 q hq).1)
  have C : Lok (p, l, e, room_1, s, m, #[Value.ref b], below, meth, c) (wxC (ztB B a)) (wxM (ztB B a')) b L xs :=
    ⟨c1, c2, c4, c5, hg, ⟨c3, c9, rfl, rfl⟩, ⟨hK, fun i j hi hj he => inj_of D4 (pm10_in i hi) (pm10_in j hj) he, hE1, fun q hq => ⟨(A1 q hq).1, fun hq' => by
        obtain ⟨v1, hv1, e1⟩ := (A1 q hq).2
        obtain ⟨v2, hv2, e2⟩ := (A2 q hq').2
        exact D5 v2 hv2 v1 hv1 (e2.trans e1.symm)⟩⟩, ⟨hK, fun i j hi hj he => inj_of D3 (pm11_in i hi) (pm11_in j hj) he, hE2, fun q hq => ⟨(A2 q hq).1, fun hq' => by
        obtain ⟨v1, hv1, e1⟩ := (A1 q hq').2
        obtain ⟨v2, hv2, e2⟩ := (A2 q hq).2
        exact D5 v2 hv2 v1 hv1 (e2.trans e1.symm)⟩⟩, c7, c8⟩
  exact law_loop C hL (by decide) (by decide) (L + 6) 0 σ0 τ0 (by omega) (by omega) Rel_0 H2 locs2 ls3 (P_10 ef (fun c hc => hP2 c (List.mem_append_right _ (by rw [eu]; exact hc)))) (P_11 (fun c hc => hP2 c (List.mem_append_left _ (by rw [eu']; exact hc)))) S2 hl3
