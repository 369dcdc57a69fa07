theorem lc_L_7 : Cond.classLink RL 7 RX7 ∈ zTbl := zmem 101 (by decide +kernel) rfl
theorem lc_L_10 : Cond.classLink RL 10 RX8 ∈ zTbl := zmem 968 (by decide +kernel) rfl
theorem lm_L_9 : Cond.methodLink RL 9 yX7_init ∈ zTbl := zmem 103 (by decide +kernel) rfl
theorem lm_L_12 : Cond.methodLink RL 12 yX8_init ∈ zTbl := zmem 970 (by decide +kernel) rfl
theorem q2_X7_init : Cond.instanceMethod yX7_init ∈ zTbl := zmem 104 (by decide +kernel) rfl
theorem q5_X7_init : Cond.code yX7_init cX7_init 2 none ∈ zTbl := zmem 105 (by decide +kernel) rfl
theorem qd_X7_init : yX7_init.cls ≠ "java/lang/invoke/MethodHandle" ∧ yX7_init.cls ≠ "java/lang/invoke/VarHandle" ∧ (parseMethodDescriptor yX7_init.desc).map (fun d => d.parameters.length) = some 0 := by decide +kernel
theorem q2_X8_init : Cond.instanceMethod yX8_init ∈ zTbl := zmem 971 (by decide +kernel) rfl
theorem q5_X8_init : Cond.code yX8_init cX8_init 2 none ∈ zTbl := zmem 972 (by decide +kernel) rfl
theorem qd_X8_init : yX8_init.cls ≠ "java/lang/invoke/MethodHandle" ∧ yX8_init.cls ≠ "java/lang/invoke/VarHandle" ∧ (parseMethodDescriptor yX8_init.desc).map (fun d => d.parameters.length) = some 0 := by decide +kernel
theorem lii_X1 : Cond.instantiable RX1 4 ∈ zTbl := zmem 191 (by decide +kernel) rfl
theorem lii_X2 : Cond.instantiable RX2 3 ∈ zTbl := zmem 269 (by decide +kernel) rfl
theorem lii_X3 : Cond.instantiable RX3 6 ∈ zTbl := zmem 217 (by decide +kernel) rfl
theorem lii_X4 : Cond.instantiable RX4 7 ∈ zTbl := zmem 211 (by decide +kernel) rfl
theorem lii_X6 : Cond.instantiable RX6 18 ∈ zTbl := zmem 110 (by decide +kernel) rfl
theorem lii_X7 : Cond.instantiable RX7 8 ∈ zTbl := zmem 102 (by decide +kernel) rfl
theorem lii_X8 : Cond.instantiable RX8 20 ∈ zTbl := zmem 969 (by decide +kernel) rfl
theorem zc_callA {p : Program} {l : Launch} {e : Env} {R : Room} {s : State} {m : MethodId} {args : Array Value} {below : List Frame} {meth : Method} {c : Code} {D : va_G} {T : zT} {A : Nat → Prop} {cc : ByteArray} {own : String} {nL cells slots : Nat} {ret : Option FieldType} {Q : State → Prop} {pc : Nat} {lv : List (Nat × Value)} {st : List Value} {ws : va_W} (hB : zBc p s m args meth c D T A cc own nL ret) {y : MethodName} {bytes : ByteArray} {maxL n : Nat} {fr lo mc ms index b : Nat} {st0 As : List Value} {X : State → Prop} {w1 : (Nat → Nat) → va_W} (hXb : ∀ (U : State) (g : JFrame) (mk : MethodId) (a : Array Value), X U → X (U.calling g mk a)) (hX : ∀ (H : Heap) (locs : List Loc) (U : State), va_D A ws → va_S A s.heap H locs → U.heap = H → s.WarmedH U.vm → X U) (hM : zMc l y bytes maxL fr lo mc ms D T X (.ref b :: As) ws w1) (l1 : Cond.methodLink own index y ∈ zTbl) (l2 : Cond.instanceMethod y ∈ zTbl) (l4 : Cond.initialized y.cls ∈ zTbl) (l5 : Cond.code y bytes maxL none ∈ zTbl) (hy1 : y.name = "<init>") (hd : y.cls ≠ "java/lang/invoke/MethodHandle" ∧ y.cls ≠ "java/lang/invoke/VarHandle" ∧ (parseMethodDescriptor y.desc).map (fun d => d.parameters.length) = some n) (hR : fr + 1 ≤ R.frames ∧ 8 + (maxL + 11) + lo ≤ R.locals) (hn : As.length = n) (hst : st0 = As.reverse ++ .ref b :: st) (hcat : (st.map fun v => v.category).sum ≤ 8) (hcs : cells + mc ≤ R.cells ∧ slots + ms ≤ R.slots) (d : decode cc pc = .ok (.invokespecial index, 3)) (k : ∀ u : Nat → Nat, zC p l e R s m args below meth c D T A nL (cells + mc) (slots + ms) Q (pc + 3) lv st (w1 u)) : zC p l e R s m args below meth c D T A nL cells slots Q pc lv st0 ws := by
  intro H locs ls hP hD hS hl T0 hT X9
  have hB4 : CallB R s args own index y bytes maxL none (.code y bytes maxL none :: zTbl) { frames := fr, cells := mc, slots := ms, locals := lo } mc ms n := callB_of n hB.2.2.2.2.2.1 (zgood (fun w hw => (List.mem_cons.mp hw).elim (fun q => q ▸ l5) id)) rfl rfl rfl (hB.2.2.2.2.2.1 _ l4) (hB.2.2.2.2.2.1 _ l1) hd hR
  have hrun := va_runI (g := F0 m pc ls st0) (below := below) (meth := meth) (e := e) (As := As) (n := n) (nL := nL) (rest := st) (locs := locs) (cells := cells) (slots := slots) ⟨hB.1, hB.2.1, hB.2.2.2.1, hB.2.2.2.2.1, hB.2.2.2.2.2.1⟩ (hM H.size) ⟨hB4, hy1, hB.2.2.2.2.2.1 _ l2⟩ ⟨fun a U g mk q => ⟨q.1, q.2.1, q.2.2.1, va_K.moved (u := U) (U := U.calling g mk a) (Vm.Alike.refl U.vm) q.2.2.2.1, q.2.2.2.2.1, hXb _ _ _ _ q.2.2.2.2.2⟩, fun U hU hW => ⟨rfl, by rw [hU], by rw [hU]; exact hP, va_K.moved hW.alike hB.2.2.2.2.2.2.2.1, hD.weaken (fun _ _ _ _ => trivial), hX H locs U hD hS hU hW⟩⟩ rfl hn hl.1 hst (lv_room hcat) d hcs
  obtain ⟨v, st₀, t, T', L2, h0, X', hL, e1, e2, ⟨hv, ⟨u, hP1, hD1⟩, hz, hk⟩, st1⟩ := hrun T0 hT X9
  cases hv
  rw [h0] at hz hk
  rw [← e1] at hz hk hP1
  have hF : ∀ q, va_A ws H.size q → A q := fun q h => by
    rcases h with ⟨k2, e9, h⟩ | h
    · exact hD.2 k2 _ h
    · exact hB.2.2.2.2.2.2.2.2 q (Nat.le_trans hS.1 h)
  obtain ⟨t2, a1, b1⟩ := k u T'.heap (locs ++ L2) ls hP1 (hD1.weaken (fun _ q _ h => hF q.1 h)) ⟨Nat.le_trans hS.1 hz, fun q h1 h2 => by rw [hk q (Nat.lt_of_lt_of_le h1 hS.1) (fun z => h2 (hF q z))]; exact hS.2.1 q h1 h2, fun q hq => by
      rcases List.mem_append.mp hq with h | h
      · exact hS.2.2 q h
      · exact hF _ (hL q h)⟩ hl T' rfl X'
  exact ⟨t2, st1 t2 a1, b1⟩
theorem zW_inj {T : zT} {ad : Nat → Nat} {A : Nat → Prop} {I : zI} {L : zL} (h : va_D A (zW T ad I L)) : zInj ad ∧ ∀ q, zAd ad q → A q :=
  ⟨fun i j hi hj he => h.1 i j _ _ (zW_get hi) (zW_get hj) he, fun q hq => by
    obtain ⟨i, hi, rfl⟩ := hq
    exact h.2 i _ (zW_get hi)⟩
theorem zgl {w : Cond} (h : w ∈ zTbl) : w ∈ lw_tbl := (List.mem_filter.mp h).1
theorem zN3_calling {U : State} {g : JFrame} {mk : MethodId} {a : Array Value} (h : zN3 U) : zN3 (U.calling g mk a) := ⟨va_Nw.same rfl rfl h.1, va_Nw.same rfl rfl h.2.1, va_Nw.same rfl rfl h.2.2.1, va_AO.moved (Vm.Alike.refl U.vm) h.2.2.2.1, va_Nw.same rfl rfl h.2.2.2.2⟩
theorem zN3_warm {s U : State} (hW : s.WarmedH U.vm) (h : zN3 s) : zN3 U := ⟨h.1.warmM hW, h.2.1.warmM hW, h.2.2.1.warmM hW, va_AO.moved hW.alike h.2.2.2.1, h.2.2.2.2.warmM hW⟩
/-- the classes of the rows, out of the tables -/
theorem zT_of {args : Array Value} {s : State} (hts : ∀ w ∈ lw_tbl, w.before args s = true) : ∃ T : zT, ∀ (k : Nat) (q : ClassId × FieldType), (zty T)[k]? = some q → ArrOfT s q.1 q.2 ∧ va_RA s q.1 q.2 := by
  obtain ⟨cI, kI, pI, i1, i2, i3⟩ := Cond.arrayClass_spec (hts _ (zgl zl_ac))
  obtain ⟨cJ, kJ, pJ, j1, j2, j3⟩ := Cond.arrayClass_spec (hts _ (zgl zl_acL))
  obtain ⟨pS, cS, kS, s1, s2, s3, s4, s5⟩ := Cond.arrayOver_spec (hts _ (List.mem_of_getElem? z_ao))
  refine ⟨(cI, cJ, cS), fun k q hq => ?_⟩
  match k, hq with
  | 0, hq => cases hq; exact ⟨fun n z => ⟨fun k h => (by cases h), kI, i2, pI, i3⟩, i1⟩
  | 1, hq => cases hq; exact ⟨fun n z => ⟨fun k h => (by cases h), kJ, j2, pJ, j3⟩, j1⟩
  | 2, hq => cases hq; exact ⟨fun n z => ⟨fun k h => (by cases h), kS, s3, pS, s4⟩, kS, pS, s3, s4, s1, s5⟩
  | k + 3, hq => simp [zty] at hq
set_option maxHeartbeats 8000000 in
set_option maxRecDepth 100000 in
theorem whole_open {Inv : zI → Prop} {n : Nat} {J : zI} (hS : zSteps Inv n) (hJ : fX8_init n zI0 = some J) (hI : Inv J) {p : Program} {e : Env} {s : State} {m : MethodId} {below : List Frame} {meth : Method} {c : Code} (l : Launch) {b Ln : Nat} {xs : Nat → Int32} (hLn : Ln ≤ 3072) (C0 : lw_At p s m meth c b Ln xs) : W p l e room_1 s m #[Value.ref b] below meth c s.heap [] 0 0 (lw_Z below #[Value.ref b] s) (entryFrame m ([Value.ref b] : List Value).toArray 4) := by
  obtain ⟨hx, hb, hr, hml, hown, hts, hX, hbl, hlocks, hgv⟩ := C0
  have htz : ∀ w ∈ zTbl, w.before #[Value.ref b] s = true := fun w hw => hts w (zgl hw)
  obtain ⟨c0, i0, hK0⟩ := u_known (C := RX1) (T := TX1) (N := 4) (n := 4) htz zi_X1 (htz _ lii_X1)
  obtain ⟨c1, i1, hK1⟩ := u_known (C := RX2) (T := TX2) (N := 3) (n := 3) htz zi_X2 (htz _ lii_X2)
  obtain ⟨c2, i2, hK2⟩ := u_known (C := RX3) (T := TX3) (N := 6) (n := 6) htz zi_X3 (htz _ lii_X3)
  obtain ⟨c3, i3, hK3⟩ := u_known (C := RX4) (T := TX4) (N := 7) (n := 7) htz zi_X4 (htz _ lii_X4)
  obtain ⟨c4, i4, hK4⟩ := u_known (C := RX6) (T := TX6) (N := 18) (n := 18) htz zi_X6 (htz _ lii_X6)
  obtain ⟨c5, i5, hK5⟩ := u_known (C := RX7) (T := TX7) (N := 8) (n := 8) htz zi_X7 (htz _ lii_X7)
  obtain ⟨c6, i6, hK6⟩ := u_known (C := RX8) (T := TX8) (N := 20) (n := 20) htz zi_X8 (htz _ lii_X8)
  obtain ⟨T, hT⟩ := zT_of hts
  obtain ⟨D, hKD⟩ : ∃ D : va_G, ∀ (k : Nat) (q : vw_C), vwCl[k]? = some q → u_Kn s q.1 q.2.1 q.2.2 (D.1 k) (D.2 k) := by
    refine ⟨(fun k => if k = 0 then c0 else if k = 1 then c1 else if k = 2 then c2 else if k = 3 then c3 else if k = 4 then c4 else if k = 5 then c5 else c6, fun k => if k = 0 then i0 else if k = 1 then i1 else if k = 2 then i2 else if k = 3 then i3 else if k = 4 then i4 else if k = 5 then i5 else i6), ?_⟩
    intro k q hq
    match k, hq with
    | 0, hq => cases hq; exact hK0
    | 1, hq => cases hq; exact hK1
    | 2, hq => cases hq; exact hK2
    | 3, hq => cases hq; exact hK3
    | 4, hq => cases hq; exact hK4
    | 5, hq => cases hq; exact hK5
    | 6, hq => cases hq; exact hK6
    | k + 7, hq => simp [vwCl] at hq
  have hK : va_K D vwCl (zty T) s := ⟨hKD, hT⟩
  obtain ⟨A, hA⟩ : ∃ A : Nat → Prop, A = fun q => s.heap.size ≤ q := ⟨_, rfl⟩
  have hAs : ∀ a : Nat, a < s.heap.size → ¬ A a := fun a ha => by rw [hA]; exact Nat.not_le.mpr ha
  obtain ⟨sK, sV, hR⟩ := zR_of (A := A) hts hgv hAs
  have hN : zN3 s := ⟨va_Nw.of rfl (hts _ (List.mem_of_getElem? z_n24)), va_Nw.of rfl (hts _ (List.mem_of_getElem? z_n31)), va_Nw.of rfl (hts _ (List.mem_of_getElem? z_n46)), va_AO.of (hts _ (List.mem_of_getElem? z_ao)), va_Nw.of rfl (hts _ (List.mem_of_getElem? z_n11))⟩
  have hB : zBc p s m #[Value.ref b] meth c D T A code RL 4 ret := ⟨hx, hb, hr, hml, hown, htz, hlocks, hK, fun q h => by rw [hA]; exact h⟩
  rw [lg_entry_eq]
  have main : zC p l e room_1 s m #[Value.ref b] below meth c D T A 4 0 0 (lw_Z below #[Value.ref b] s) 0 [(0, .ref b)] [] [] := by
    refine zc_new_X7 (fs := [.null, .null, .null, .int 0, .null, .null, .null, .null]) hB zfs_X7 lc_L_7 lii_X7 q4_X7 (Nat.le_of_ble_eq_true rfl) (Nat.le_of_ble_eq_true rfl) dL_law_0 (fun q0 => ?_)
    refine zc_cs (cells' := 1) (slots' := 8) rfl rfl ?_
    refine zc_dup hB rfl dL_law_3 ?_
    refine zc_callI (X := zN3) (st := [.ref q0]) (As := []) (wr := []) (x := (q0, .inr (5, [.null, .null, .null, .int 0, .null, .null, .null, .null]))) hB rfl (fun _ _ _ _ h => zN3_calling h) (fun _ _ _ _ _ _ hW => zN3_warm hW hN) (mcX7_init (l := l) (D := D) (T := T) q0) lm_L_9 q2_X7_init q4_X7 q5_X7_init rfl qd_X7_init ⟨Nat.le_of_ble_eq_true rfl, Nat.le_of_ble_eq_true rfl⟩ rfl rfl (Nat.le_of_ble_eq_true rfl) ⟨Nat.le_of_ble_eq_true rfl, Nat.le_of_ble_eq_true rfl⟩ dL_law_4 (fun u => ?_)
    refine zc_cs (cells' := 50) (slots' := 1224) rfl rfl ?_
    refine zc_ws (ws' := zWn 50 T (zad0 q0 u) zI0 (fun _ _ => 0)) rfl ?_
    refine zc_astore_n (lv' := [(1, .ref q0), (0, .ref b)]) hB rfl (by decide) rfl dL_law_7 ?_
    refine zc_new_X8 (fs := [.null, .null, .null, .int 0, .null, .int 0, .null, .null, .null, .int 0, .int 0, .int 0, .int 0, .int 0, .int 0, .int 0, .null, .null, .null, .null]) hB zfs_X8 lc_L_10 lii_X8 q4_X8 (Nat.le_of_ble_eq_true rfl) (Nat.le_of_ble_eq_true rfl) dL_law_8 (fun q1 => ?_)
    refine zc_cs (cells' := 51) (slots' := 1244) rfl rfl ?_
    refine zc_dup hB rfl dL_law_11 ?_
    refine zc_callA (st := [.ref q1]) (As := []) hB (X := fun U => zR sK sV (va_A (zWn 50 T (zad0 q0 u) zI0 (fun _ _ => 0) ++ [(q1, .inr (6, [.null, .null, .null, .int 0, .null, .int 0, .null, .null, .null, .int 0, .int 0, .int 0, .int 0, .int 0, .int 0, .int 0, .null, .null, .null, .null]))]) U.heap.size) U) (fun U g mk a h => h.to (U := U.calling g mk a) (Vm.Alike.refl U.vm) (fun _ _ _ => rfl) (fun _ _ _ _ q => q.same rfl) (fun _ _ _ _ q => va_Nw.same rfl rfl q)) (fun H locs U hD1 hS1 hU hW => ?_) (mcX8_init (l := l) (D := D) (T := T) (sK := sK) (sV := sV) (zad0 q0 u) q1 n J hJ) lm_L_12 q2_X8_init q4_X8 q5_X8_init rfl qd_X8_init ⟨Nat.le_of_ble_eq_true rfl, Nat.le_of_ble_eq_true rfl⟩ rfl rfl (Nat.le_of_ble_eq_true rfl) ⟨Nat.le_of_ble_eq_true rfl, Nat.le_of_ble_eq_true rfl⟩ dL_law_12 (fun u2 => ?_)
    · refine (hR.to (U := U) hW.alike (fun a h1 h2 => by rw [hU]; exact hS1.2.1 a h1 h2) (fun _ _ _ _ q => q.warm hW) (fun _ _ _ _ q => q.warmM hW)).narrow (fun q hq => ?_)
      rcases hq with ⟨k, e9, hq⟩ | hq
      · exact hD1.2 k _ hq
      · rw [hA]
        rw [hU] at hq
        exact Nat.le_trans hS1.1 hq
    refine zc_cs (cells' := 62) (slots' := 2579) rfl rfl ?_
    refine zc_astore_n (lv' := [(2, .ref q1), (1, .ref q0), (0, .ref b)]) hB rfl (by decide) rfl dL_law_15 ?_
    refine zc_iconst (v := nI 0) hB (by decide) dL_law_16 ?_
    refine zc_istore_n (lv' := [(3, .int (nI 0)), (2, .ref q1), (1, .ref q0), (0, .ref b)]) hB rfl (by decide) rfl dL_law_17 ?_
    refine zc_sub (lv' := [(0, .ref b), (1, .ref q0), (2, .ref q1), (3, .int (nI 0))]) [3, 2, 1, 0] rfl ?_
    intro H locs ls hP hD hS9 hl
    obtain ⟨hi, hAA⟩ := zW_inj hD
    have hB2 : zB p s m #[Value.ref b] meth c D T (zadx (zad0 q0 u) q1 u2) A sK sV code RL 4 ret := ⟨hx, hb, hr, hml, hown, htz, hlocks, ⟨hK, hR⟩, hi, hAA⟩
    exact law_loop (l := l) (cells := 62) (slots := 2579) hS hB2 hA hX hbl hLn ⟨Nat.le_of_ble_eq_true rfl, Nat.le_of_ble_eq_true rfl⟩ (Ln + 6) 0 (by omega) (by omega) J (fun _ _ => 0) hI () rfl H locs ls hP hS9 hl
  have hP0 : va_P D vwCl [] s.heap := fun k q h => by simp at h
  have hD0 : va_D A [] := ⟨fun i j p q h => by simp at h, fun k q h => by simp at h⟩
  exact main s.heap [] _ hP0 hD0 va_S.rf (lv_entry ([.ref b]) (n := 4) (Nat.le_of_ble_eq_true rfl))
