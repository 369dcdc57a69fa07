theorem zsAt_ok : ∀ i : Nat, i < 36 → ∀ j : Nat, j < zsLen i → ((zsAt i j &&& 255).toUInt32 % 65536).toInt32 = zsAt i j := by decide +kernel
theorem zsLen_lt : ∀ i : Nat, i < 36 → zsLen i < 2 ^ 31 := by decide +kernel
section ZSTR
variable {α β γ ω σ χ : Type} {p : Program} {l : Launch} {e : Env} {R : Room} {s : State} {m : MethodId} {args : Array Value} {below : List Frame} {meth : Method} {c : Code} {D : va_G} {T : zT} {ad sK sV : Nat → Nat} {A : Nat → Prop} {cc : ByteArray} {own : String} {nL cells slots : Nat} {ret : Option FieldType} {Qf : ω → State → Prop} {pc : Nat} {lv : List (Nat × Value)} {st : List Value} {I : zI} {L : zL} {K : α → Option ω} {t : Option α}
theorem zr_sval (hB : zB p s m args meth c D T ad A sK sV cc own nL ret) {index i : Nat} (hi : i < 36) (hln : Cond.fieldLink own index "java/lang/String" "value" "[B" ∈ zTbl) (d : decode cc pc = .ok (.getfield index, 3)) (k : zZ p l e R s m args below meth c D T ad A nL cells slots Qf (pc + 3) lv (.ref (sV i) :: st) I L K (t)) : zZ p l e R s m args below meth c D T ad A nL cells slots Qf pc lv (.ref (sK i) :: st) I L K (t) := fun o ho H locs ls hP hS hl => vk_getf hB.1 hB.2.1 (hB.2.2.2.2.2.2.2.1.2.1 i hi).2.2.1 hS hB.2.2.2.2.1 (hB.2.2.2.2.2.1 _ hln) (fun _ h => h) d (k o ho H locs ls hP hS hl)
theorem zr_scod (hB : zB p s m args meth c D T ad A sK sV cc own nL ret) {index i : Nat} (hi : i < 36) (hln : Cond.fieldLink own index "java/lang/String" "coder" "B" ∈ zTbl) (d : decode cc pc = .ok (.getfield index, 3)) (k : zZ p l e R s m args below meth c D T ad A nL cells slots Qf (pc + 3) lv (.int 0 :: st) I L K (t)) : zZ p l e R s m args below meth c D T ad A nL cells slots Qf pc lv (.ref (sK i) :: st) I L K (t) := fun o ho H locs ls hP hS hl => vk_getf hB.1 hB.2.1 (hB.2.2.2.2.2.2.2.1.2.1 i hi).2.1 hS hB.2.2.2.2.1 (hB.2.2.2.2.2.1 _ hln) (fun _ h => h) d (k o ho H locs ls hP hS hl)
theorem zr_stlen (hB : zB p s m args meth c D T ad A sK sV cc own nL ret) {i : Nat} (hi : i < 36) (d : decode cc pc = .ok (.arraylength, 1)) (k : zZ p l e R s m args below meth c D T ad A nL cells slots Qf (pc + 1) lv (.int (nI (zsLen i)) :: st) I L K (t)) : zZ p l e R s m args below meth c D T ad A nL cells slots Qf pc lv (.ref (sV i) :: st) I L K (t) := fun o ho H locs ls hP hS hl => va_tlen hB.1 hB.2.1 (hB.2.2.2.2.2.2.2.1.2.1 i hi).2.2.2 hS rfl d (k o ho H locs ls hP hS hl)
theorem zr_stb (hB : zB p s m args meth c D T ad A sK sV cc own nL ret) {i : Nat} {j : Int32} (hi : i < 36) (hj : vp_in j (zsLen i)) (d : decode cc pc = .ok (.baload, 1)) (k : zZ p l e R s m args below meth c D T ad A nL cells slots Qf (pc + 1) lv (.int (zsAt i (zn j)) :: st) I L K (t)) : zZ p l e R s m args below meth c D T ad A nL cells slots Qf pc lv (.int j :: .ref (sV i) :: st) I L K (t) := fun o ho H locs ls hP hS hl => va_tb hB.1 hB.2.1 (hB.2.2.2.2.2.2.2.1.2.1 i hi).2.2.2 hS hj rfl d (k o ho H locs ls hP hS hl)
theorem zr_cs (hB : zB p s m args meth c D T ad A sK sV cc own nL ret) {index : Nat} (hln : Cond.fieldLink own index "java/lang/String" "COMPACT_STRINGS" "Z" ∈ zTbl) (d : decode cc pc = .ok (.getstatic index, 3)) (k : zZ p l e R s m args below meth c D T ad A nL cells slots Qf (pc + 3) lv (.int 1 :: st) I L K (t)) : zZ p l e R s m args below meth c D T ad A nL cells slots Qf pc lv (st) I L K (t) := fun o ho H locs ls hP hS hl => va_gets hB.1 hB.2.1 hB.2.2.2.2.2.2.2.1.2.2.2.1 hS hB.2.2.2.2.1 (hB.2.2.2.2.2.1 _ hln) (fun _ h => h) d (k o ho H locs ls hP hS hl)
theorem zr_fm (hB : zB p s m args meth c D T ad A sK sV cc own nL ret) {index : Nat} (hln : Cond.fieldLink own index "jdk/internal/util/Preconditions" "SIOOBE_FORMATTER" "Ljava/util/function/BiFunction;" ∈ zTbl) (d : decode cc pc = .ok (.getstatic index, 3)) (k : ∀ v : Value, (v = .null ∨ ∃ q, v = .ref q) → zZ p l e R s m args below meth c D T ad A nL cells slots Qf (pc + 3) lv (v :: st) I L K (t)) : zZ p l e R s m args below meth c D T ad A nL cells slots Qf pc lv (st) I L K (t) := by
  intro o ho H locs ls hP hS hl
  rcases hB.2.2.2.2.2.2.2.1.2.2.2.2.1 with h | ⟨q, h⟩
  · exact va_gets hB.1 hB.2.1 h hS hB.2.2.2.2.1 (hB.2.2.2.2.2.1 _ hln) (fun _ h => h) d (k _ (Or.inl rfl) o ho H locs ls hP hS hl)
  · exact va_gets hB.1 hB.2.1 h hS hB.2.2.2.2.1 (hB.2.2.2.2.2.1 _ hln) (fun _ h => h) d (k _ (Or.inr ⟨q, rfl⟩) o ho H locs ls hP hS hl)
theorem zr_i2c (hB : zB p s m args meth c D T ad A sK sV cc own nL ret) {x : Int32} (d : decode cc pc = .ok (.i2c, 1)) (k : zZ p l e R s m args below meth c D T ad A nL cells slots Qf (pc + 1) lv (.int (x.toUInt32 % 65536).toInt32 :: st) I L K (t)) : zZ p l e R s m args below meth c D T ad A nL cells slots Qf pc lv (.int x :: st) I L K (t) := fun o ho H locs ls hP hS hl => lv_i2c hB.1 hB.2.1 d rfl (k o ho H locs ls hP hS hl)
theorem zr_callT (hB : zB p s m args meth c D T ad A sK sV cc own nL ret) {y : MethodName} {bytes : ByteArray} {maxL n : Nat} {rt : Option FieldType} {fr lo index i : Nat} {st0 As : List Value} {y0 : zO} (hi : i < 36) (hM : zMet l y bytes maxL rt fr lo D T ad sK sV (.ref (sK i) :: As) I L y0) (l1 : Cond.methodLink own index y ∈ zTbl) (l2 : Cond.instanceMethod y ∈ zTbl) (l3 : Cond.selects "java/lang/String" y y ∈ zTbl) (l4 : Cond.initialized y.cls ∈ zTbl) (l5 : Cond.code y bytes maxL rt ∈ zTbl) (hd : y.cls ≠ "java/lang/invoke/MethodHandle" ∧ y.cls ≠ "java/lang/invoke/VarHandle" ∧ (parseMethodDescriptor y.desc).map (fun d => d.parameters.length) = some n) (hR : fr + 1 ≤ R.frames ∧ 8 + (maxL + 11) + lo ≤ R.locals) (hn : As.length = n) (hst : st0 = As.reverse ++ .ref (sK i) :: st) (hcat : (st.map fun v => v.category).sum ≤ 8) (hcs : cells ≤ R.cells ∧ slots ≤ R.slots) (d : decode cc pc = .ok (.invokevirtual index, 3)) (k : zZ p l e R s m args below meth c D T ad A nL cells slots Qf (pc + 3) lv (y0.1.toList ++ st) y0.2.1 y0.2.2 K (t)) : zZ p l e R s m args below meth c D T ad A nL cells slots Qf pc lv (st0) I L K (t) := by
  intro o ho H locs ls hP hS hl
  refine z_after (va_runV (C := "java/lang/String") (As := As) (n := n) (nL := nL) ⟨hB.1, hB.2.1, hB.2.2.2.1, hB.2.2.2.2.1, hB.2.2.2.2.2.1⟩ hM ⟨z_pre hB l1 l4 l5 hd hR, hB.2.2.2.2.2.1 _ l2, hB.2.2.2.2.2.1 _ l3⟩ ⟨zU.blind, by obtain ⟨cell, g1, g2, g3, -⟩ := (hB.2.2.2.2.2.2.2.1.2.1 i hi).1.kept hS.2.1; exact ⟨cell, g1, g2, g3⟩, fun U hU hW => ⟨rfl, by rw [hU]; exact hP, hB.2.2.2.2.2.2.2.1.call hB.2.2.2.2.2.2.2.2.2 hS hU hW⟩⟩ rfl hn hl.1 hst (lv_room hcat) d hcs) hB.2.2.2.2.2.2.2.2.2 hS hl (k o ho)
theorem zr_callZ (hB : zB p s m args meth c D T ad A sK sV cc own nL ret) {y : MethodName} {bytes : ByteArray} {maxL n : Nat} {rt : Option FieldType} {fr lo index : Nat} {st0 As : List Value} {y0 : zO} (hM : zMet l y bytes maxL rt fr lo D T ad sK sV As I L y0) (l1 : Cond.methodLink own index y ∈ zTbl) (l2 : Cond.static y ∈ zTbl) (l4 : Cond.initialized y.cls ∈ zTbl) (l5 : Cond.code y bytes maxL rt ∈ zTbl) (hd : y.cls ≠ "java/lang/invoke/MethodHandle" ∧ y.cls ≠ "java/lang/invoke/VarHandle" ∧ (parseMethodDescriptor y.desc).map (fun d => d.parameters.length) = some n) (hR : fr + 1 ≤ R.frames ∧ 8 + (maxL + 11) + lo ≤ R.locals) (hn : As.length = n) (hst : st0 = As.reverse ++ st) (hcat : (st.map fun v => v.category).sum ≤ 8) (hcs : cells ≤ R.cells ∧ slots ≤ R.slots) (d : decode cc pc = .ok (.invokestatic index, 3)) (k : zZ p l e R s m args below meth c D T ad A nL cells slots Qf (pc + 3) lv (y0.1.toList ++ st) y0.2.1 y0.2.2 K (t)) : zZ p l e R s m args below meth c D T ad A nL cells slots Qf pc lv (st0) I L K (t) := zr_callS (tc := some ()) (tk := fun _ => t) (embc := fun _ => y0) hB (fun _ _ => hM) l1 l2 l4 l5 hd hR hn hst hcat hcs d (fun _ => k)
end ZSTR
theorem q2_J0_coder : Cond.instanceMethod yJ0_coder_7d493 ∈ zTbl := by decide +kernel
theorem q3_J0_coder : Cond.selects "java/lang/String" yJ0_coder_7d493 yJ0_coder_7d493 ∈ zTbl := by decide +kernel
theorem q5_J0_coder : Cond.code yJ0_coder_7d493 cJ0_coder_7d493 1 (some .byte) ∈ zTbl := by decide +kernel
theorem qd_J0_coder : yJ0_coder_7d493.cls ≠ "java/lang/invoke/MethodHandle" ∧ yJ0_coder_7d493.cls ≠ "java/lang/invoke/VarHandle" ∧ (parseMethodDescriptor yJ0_coder_7d493.desc).map (fun d => d.parameters.length) = some 0 := by decide +kernel
theorem q2_J0_length : Cond.instanceMethod yJ0_length_8abf5 ∈ zTbl := by decide +kernel
theorem q3_J0_length : Cond.selects "java/lang/String" yJ0_length_8abf5 yJ0_length_8abf5 ∈ zTbl := by decide +kernel
theorem q5_J0_length : Cond.code yJ0_length_8abf5 cJ0_length_8abf5 1 (some .int) ∈ zTbl := by decide +kernel
theorem qd_J0_length : yJ0_length_8abf5.cls ≠ "java/lang/invoke/MethodHandle" ∧ yJ0_length_8abf5.cls ≠ "java/lang/invoke/VarHandle" ∧ (parseMethodDescriptor yJ0_length_8abf5.desc).map (fun d => d.parameters.length) = some 0 := by decide +kernel
theorem q2_J0_isLatin1 : Cond.instanceMethod yJ0_isLatin1_aae02 ∈ zTbl := by decide +kernel
theorem q3_J0_isLatin1 : Cond.selects "java/lang/String" yJ0_isLatin1_aae02 yJ0_isLatin1_aae02 ∈ zTbl := by decide +kernel
theorem q5_J0_isLatin1 : Cond.code yJ0_isLatin1_aae02 cJ0_isLatin1_aae02 1 (some .boolean) ∈ zTbl := by decide +kernel
theorem qd_J0_isLatin1 : yJ0_isLatin1_aae02.cls ≠ "java/lang/invoke/MethodHandle" ∧ yJ0_isLatin1_aae02.cls ≠ "java/lang/invoke/VarHandle" ∧ (parseMethodDescriptor yJ0_isLatin1_aae02.desc).map (fun d => d.parameters.length) = some 0 := by decide +kernel
theorem q2_J0_charAt : Cond.instanceMethod yJ0_charAt_5068e ∈ zTbl := by decide +kernel
theorem q3_J0_charAt : Cond.selects "java/lang/String" yJ0_charAt_5068e yJ0_charAt_5068e ∈ zTbl := by decide +kernel
theorem q5_J0_charAt : Cond.code yJ0_charAt_5068e cJ0_charAt_5068e 2 (some .char) ∈ zTbl := by decide +kernel
theorem qd_J0_charAt : yJ0_charAt_5068e.cls ≠ "java/lang/invoke/MethodHandle" ∧ yJ0_charAt_5068e.cls ≠ "java/lang/invoke/VarHandle" ∧ (parseMethodDescriptor yJ0_charAt_5068e.desc).map (fun d => d.parameters.length) = some 1 := by decide +kernel
theorem q2_J0_checkIndex : Cond.static yJ0_checkIndex_df160 ∈ zTbl := by decide +kernel
theorem q5_J0_checkIndex : Cond.code yJ0_checkIndex_df160 cJ0_checkIndex_df160 2 none ∈ zTbl := by decide +kernel
theorem qd_J0_checkIndex : yJ0_checkIndex_df160.cls ≠ "java/lang/invoke/MethodHandle" ∧ yJ0_checkIndex_df160.cls ≠ "java/lang/invoke/VarHandle" ∧ (parseMethodDescriptor yJ0_checkIndex_df160.desc).map (fun d => d.parameters.length) = some 2 := by decide +kernel
theorem q2_J3_checkIndex : Cond.static yJ3_checkIndex_8e157 ∈ zTbl := by decide +kernel
theorem q5_J3_checkIndex : Cond.code yJ3_checkIndex_8e157 cJ3_checkIndex_8e157 3 (some .int) ∈ zTbl := by decide +kernel
theorem qd_J3_checkIndex : yJ3_checkIndex_8e157.cls ≠ "java/lang/invoke/MethodHandle" ∧ yJ3_checkIndex_8e157.cls ≠ "java/lang/invoke/VarHandle" ∧ (parseMethodDescriptor yJ3_checkIndex_8e157.desc).map (fun d => d.parameters.length) = some 3 := by decide +kernel
theorem q2_J1_charAt : Cond.static yJ1_charAt_3b067 ∈ zTbl := by decide +kernel
theorem q5_J1_charAt : Cond.code yJ1_charAt_3b067 cJ1_charAt_3b067 2 (some .char) ∈ zTbl := by decide +kernel
theorem qd_J1_charAt : yJ1_charAt_3b067.cls ≠ "java/lang/invoke/MethodHandle" ∧ yJ1_charAt_3b067.cls ≠ "java/lang/invoke/VarHandle" ∧ (parseMethodDescriptor yJ1_charAt_3b067.desc).map (fun d => d.parameters.length) = some 2 := by decide +kernel
theorem q2_J7_fillL : Cond.static yJ7_fill_d0a16 ∈ zTbl := by decide +kernel
theorem q5_J7_fillL : Cond.code yJ7_fill_d0a16 cJ7_fill_d0a16 5 none ∈ zTbl := by decide +kernel
theorem qd_J7_fillL : yJ7_fill_d0a16.cls ≠ "java/lang/invoke/MethodHandle" ∧ yJ7_fill_d0a16.cls ≠ "java/lang/invoke/VarHandle" ∧ (parseMethodDescriptor yJ7_fill_d0a16.desc).map (fun d => d.parameters.length) = some 2 := by decide +kernel
theorem q2_J7_fill : Cond.static yJ7_fill_53178 ∈ zTbl := by decide +kernel
theorem q5_J7_fill : Cond.code yJ7_fill_53178 cJ7_fill_53178 4 none ∈ zTbl := by decide +kernel
theorem qd_J7_fill : yJ7_fill_53178.cls ≠ "java/lang/invoke/MethodHandle" ∧ yJ7_fill_53178.cls ≠ "java/lang/invoke/VarHandle" ∧ (parseMethodDescriptor yJ7_fill_53178.desc).map (fun d => d.parameters.length) = some 2 := by decide +kernel
theorem q4_J0 : Cond.initialized RJ0 ∈ zTbl := by decide +kernel
theorem q4_J1 : Cond.initialized RJ1 ∈ zTbl := by decide +kernel
theorem q4_J3 : Cond.initialized RJ3 ∈ zTbl := by decide +kernel
theorem q4_J7 : Cond.initialized RJ7 ∈ zTbl := by decide +kernel
theorem lf_J0_9 : Cond.fieldLink RJ0 9 "java/lang/String" "value" "[B" ∈ zTbl := by decide +kernel
theorem lf_J0_15 : Cond.fieldLink RJ0 15 "java/lang/String" "coder" "B" ∈ zTbl := by decide +kernel
theorem lf_J0_38 : Cond.fieldLink RJ0 38 "java/lang/String" "COMPACT_STRINGS" "Z" ∈ zTbl := by decide +kernel
theorem lf_J0_1053 : Cond.fieldLink RJ0 1053 "jdk/internal/util/Preconditions" "SIOOBE_FORMATTER" "Ljava/util/function/BiFunction;" ∈ zTbl := by decide +kernel
theorem lm_J0_335 : Cond.methodLink RJ0 335 yJ0_coder_7d493 ∈ zTbl := by decide +kernel
theorem lm_J0_492 : Cond.methodLink RJ0 492 yJ0_isLatin1_aae02 ∈ zTbl := by decide +kernel
theorem lm_J0_495 : Cond.methodLink RJ0 495 yJ1_charAt_3b067 ∈ zTbl := by decide +kernel
theorem lm_J0_1059 : Cond.methodLink RJ0 1059 yJ3_checkIndex_8e157 ∈ zTbl := by decide +kernel
theorem lm_J1_9 : Cond.methodLink RJ1 9 yJ0_checkIndex_df160 ∈ zTbl := by decide +kernel
set_option maxRecDepth 100000 in
theorem mJ0_coder {l : Launch} {D : va_G} {T : zT} {ad sK sV : Nat → Nat} (hi : zInj ad) {i : Nat} (h36 : i < 36) (I : zI) (L : zL) : zMet l yJ0_coder_7d493 cJ0_coder_7d493 1 (some .byte) 0 0 D T ad sK sV [.ref (sK i)] I L (some (.int 0), I, L) := by
  refine zMet.of hi (by decide +kernel) (Nat.le_of_ble_eq_true rfl) (fun p e s m args below meth c hB => ?_)
  refine zr_top (emb := fun o => o) (t := some ((some (.int 0), I, L) : zO)) ?_ rfl
  refine zr_cs hB lf_J0_38 dJ0_coder_7d493_0 ?_
  have e0 : (some ((some (.int 0), I, L) : zO)) = if (1 : Int32) = 0 then none else some ((some (.int 0), I, L) : zO) := by rw [if_neg (by decide)]
  rw [e0]
  refine zr_ifeq (tgt := 13) hB (by decide) dJ0_coder_7d493_3 (fun o ho => by cases ho) ?_
  refine zr_aload_n hB 0 rfl rfl dJ0_coder_7d493_6 ?_
  refine zr_scod hB h36 lf_J0_15 dJ0_coder_7d493_7 ?_
  refine zr_goto (tgt := 14) hB (by decide) dJ0_coder_7d493_10 ?_
  intro o ho H locs ls hP hS hl
  have ho2 : ((some (.int 0), I, L) : zO) = o := Option.some.inj ho
  subst ho2
  exact W.zret hB.1 hB.2.1 hB.2.2.1 rfl (fun t ht hW => ⟨rfl, by rw [ht]; exact hP, hS.F ht⟩) hS.2.2 dJ0_coder_7d493_14 hB.2.2.2.2.2.2.1
set_option maxRecDepth 100000 in
theorem mJ0_isLatin1 {l : Launch} {D : va_G} {T : zT} {ad sK sV : Nat → Nat} (hi : zInj ad) {i : Nat} (h36 : i < 36) (I : zI) (L : zL) : zMet l yJ0_isLatin1_aae02 cJ0_isLatin1_aae02 1 (some .boolean) 0 0 D T ad sK sV [.ref (sK i)] I L (some (.int 1), I, L) := by
  refine zMet.of hi (by decide +kernel) (Nat.le_of_ble_eq_true rfl) (fun p e s m args below meth c hB => ?_)
  refine zr_top (emb := fun o => o) (t := some ((some (.int 1), I, L) : zO)) ?_ rfl
  refine zr_cs hB lf_J0_38 dJ0_isLatin1_aae02_0 ?_
  have e0 : (some ((some (.int 1), I, L) : zO)) = if (1 : Int32) = 0 then none else some ((some (.int 1), I, L) : zO) := by rw [if_neg (by decide)]
  rw [e0]
  refine zr_ifeq (tgt := 17) hB (by decide) dJ0_isLatin1_aae02_3 (fun o ho => by cases ho) ?_
  refine zr_aload_n hB 0 rfl rfl dJ0_isLatin1_aae02_6 ?_
  refine zr_scod hB h36 lf_J0_15 dJ0_isLatin1_aae02_7 ?_
  have e1 : (some ((some (.int 1), I, L) : zO)) = if (0 : Int32) = 0 then some ((some (.int 1), I, L) : zO) else none := by rw [if_pos rfl]
  rw [e1]
  refine zr_ifne (tgt := 17) hB (by decide) dJ0_isLatin1_aae02_10 (fun o ho => by cases ho) ?_
  refine zr_iconst (v := 1) hB (by decide) dJ0_isLatin1_aae02_13 ?_
  refine zr_goto (tgt := 18) hB (by decide) dJ0_isLatin1_aae02_14 ?_
  exact zr_zretC (by decide) hB rfl rfl dJ0_isLatin1_aae02_18

set_option maxRecDepth 100000 in
theorem mJ0_length {l : Launch} {D : va_G} {T : zT} {ad sK sV : Nat → Nat} (hi : zInj ad) {i : Nat} (h36 : i < 36) (I : zI) (L : zL) : zMet l yJ0_length_8abf5 cJ0_length_8abf5 1 (some .int) 1 20 D T ad sK sV [.ref (sK i)] I L (some (.int (nI (zsLen i))), I, L) := by
  refine zMet.of hi (by decide +kernel) (Nat.le_of_ble_eq_true rfl) (fun p e s m args below meth c hB => ?_)
  refine zr_top (emb := fun o => o) (t := some ((some (.int (nI (zsLen i))), I, L) : zO)) ?_ rfl
  refine zr_aload_n hB 0 rfl rfl dJ0_length_8abf5_0 ?_
  refine zr_sval hB h36 lf_J0_9 dJ0_length_8abf5_1 ?_
  refine zr_stlen hB h36 dJ0_length_8abf5_4 ?_
  refine zr_aload_n hB 0 rfl rfl dJ0_length_8abf5_5 ?_
  refine zr_callT (st := [.int (nI (zsLen i))]) (As := []) (y0 := (some (.int 0), I, L)) hB h36 (mJ0_coder hi h36 I L) lm_J0_335 q2_J0_coder q3_J0_coder q4_J0 q5_J0_coder qd_J0_coder (by decide) rfl rfl (Nat.le_of_ble_eq_true rfl) ⟨Nat.zero_le _, Nat.zero_le _⟩ dJ0_length_8abf5_6 ?_
  refine zr_ishr hB dJ0_length_8abf5_9 ?_
  have e2 : zshr (nI (zsLen i)) 0 = nI (zsLen i) := by
    unfold zshr
    rw [show (0 : Int32) &&& 31 = 0 from by decide]
    simp
  rw [e2]
  exact zr_iret hB rfl rfl dJ0_length_8abf5_10

set_option maxRecDepth 100000 in
theorem mJ3_checkIndex {l : Launch} {D : va_G} {T : zT} {ad sK sV : Nat → Nat} (hi : zInj ad) {j n : Int32} (h0 : 0 ≤ j) (h1 : j < n) {v : Value} (hv : v = .null ∨ ∃ q, v = .ref q) (I : zI) (L : zL) : zMet l yJ3_checkIndex_8e157 cJ3_checkIndex_8e157 3 (some .int) 0 0 D T ad sK sV [.int j, .int n, v] I L (some (.int j), I, L) := by
  refine zMet.of hi (by decide +kernel) (by rcases hv with rfl | ⟨q, rfl⟩ <;> exact Nat.le_of_ble_eq_true rfl) (fun p e s m args below meth c hB => ?_)
  refine zr_top (emb := fun o => o) (t := some ((some (.int j), I, L) : zO)) ?_ rfl
  have hlv : ∃ lv, lv_args 0 [.int j, .int n, v] = (0, .int j) :: (1, .int n) :: lv := ⟨_, rfl⟩
  obtain ⟨lv, hlv⟩ := hlv
  rw [hlv]
  refine zr_iload_n hB 0 rfl rfl dJ3_checkIndex_8e157_0 ?_
  have e0 : (some ((some (.int j), I, L) : zO)) = if j < 0 then none else some ((some (.int j), I, L) : zO) := by rw [if_neg (Int32.not_lt.mpr h0)]
  rw [e0]
  refine zr_iflt (tgt := 9) hB (by decide) dJ3_checkIndex_8e157_1 (fun o ho => by cases ho) ?_
  refine zr_iload_n hB 0 rfl rfl dJ3_checkIndex_8e157_4 ?_
  refine zr_iload_n hB 1 rfl rfl dJ3_checkIndex_8e157_5 ?_
  have e1 : (some ((some (.int j), I, L) : zO)) = if j < n then some ((some (.int j), I, L) : zO) else none := by rw [if_pos h1]
  rw [e1]
  refine zr_icmp_lt (tgt := 16) hB (by decide) dJ3_checkIndex_8e157_6 ?_ (fun o ho => by cases ho)
  refine zr_iload_n hB 0 rfl rfl dJ3_checkIndex_8e157_16 ?_
  exact zr_iret hB rfl rfl dJ3_checkIndex_8e157_17

set_option maxRecDepth 100000 in
theorem mJ0_checkIndex {l : Launch} {D : va_G} {T : zT} {ad sK sV : Nat → Nat} (hi : zInj ad) {j n : Int32} (h0 : 0 ≤ j) (h1 : j < n) (I : zI) (L : zL) : zMet l yJ0_checkIndex_df160 cJ0_checkIndex_df160 2 none 1 22 D T ad sK sV [.int j, .int n] I L (none, I, L) := by
  refine zMet.of hi (by decide +kernel) (Nat.le_of_ble_eq_true rfl) (fun p e s m args below meth c hB => ?_)
  refine zr_top (emb := fun o => o) (t := some ((none, I, L) : zO)) ?_ rfl
  refine zr_iload_n hB 0 rfl rfl dJ0_checkIndex_df160_0 ?_
  refine zr_iload_n hB 1 rfl rfl dJ0_checkIndex_df160_1 ?_
  refine zr_fm hB lf_J0_1053 dJ0_checkIndex_df160_2 (fun v hv => ?_)
  refine zr_callZ (st := []) (As := [.int j, .int n, v]) (y0 := (some (.int j), I, L)) hB (mJ3_checkIndex hi h0 h1 hv I L) lm_J0_1059 q2_J3_checkIndex q4_J3 q5_J3_checkIndex qd_J3_checkIndex (by decide) rfl rfl (Nat.le_of_ble_eq_true rfl) ⟨Nat.zero_le _, Nat.zero_le _⟩ dJ0_checkIndex_df160_5 ?_
  refine zr_pop hB rfl dJ0_checkIndex_df160_8 ?_
  exact zr_vret hB rfl rfl dJ0_checkIndex_df160_9

set_option maxRecDepth 100000 in
theorem mJ1_charAt {l : Launch} {D : va_G} {T : zT} {ad sK sV : Nat → Nat} (hi : zInj ad) {i : Nat} (h36 : i < 36) {j : Int32} (hj : vp_in j (zsLen i)) (I : zI) (L : zL) : zMet l yJ1_charAt_3b067 cJ1_charAt_3b067 2 (some .char) 2 43 D T ad sK sV [.ref (sV i), .int j] I L (some (.int (zsAt i (zn j))), I, L) := by
  refine zMet.of hi (by decide +kernel) (Nat.le_of_ble_eq_true rfl) (fun p e s m args below meth c hB => ?_)
  refine zr_top (emb := fun o => o) (t := some ((some (.int (zsAt i (zn j))), I, L) : zO)) ?_ rfl
  have h0 : 0 ≤ j := Int32.not_lt.mp (fun q => hj (Or.inl q))
  have h1 : j < nI (zsLen i) := by
    obtain ⟨k, hk, rfl⟩ := vp_in_of hj (zsLen_lt i h36)
    exact nI_lt hk (zsLen_lt i h36)
  refine zr_iload_n hB 1 rfl rfl dJ1_charAt_3b067_0 ?_
  refine zr_aload_n hB 0 rfl rfl dJ1_charAt_3b067_1 ?_
  refine zr_stlen hB h36 dJ1_charAt_3b067_2 ?_
  refine zr_callZ (st := []) (As := [.int j, .int (nI (zsLen i))]) (y0 := (none, I, L)) hB (mJ0_checkIndex hi h0 h1 I L) lm_J1_9 q2_J0_checkIndex q4_J0 q5_J0_checkIndex qd_J0_checkIndex (by decide) rfl rfl (Nat.le_of_ble_eq_true rfl) ⟨Nat.zero_le _, Nat.zero_le _⟩ dJ1_charAt_3b067_3 ?_
  refine zr_aload_n hB 0 rfl rfl dJ1_charAt_3b067_6 ?_
  refine zr_iload_n hB 1 rfl rfl dJ1_charAt_3b067_7 ?_
  refine zr_stb hB h36 hj dJ1_charAt_3b067_8 ?_
  refine zr_sipush (v := 255) hB (by decide) dJ1_charAt_3b067_9 ?_
  refine zr_iand hB dJ1_charAt_3b067_12 ?_
  refine zr_i2c hB dJ1_charAt_3b067_13 ?_
  rw [← zsAt_ok i h36 (zn j) (vp_lt hj)]
  rw [zsAt_ok i h36 (zn j) (vp_lt hj)]
  have e9 := zsAt_ok i h36 (zn j) (vp_lt hj)
  intro o ho H locs ls hP hS hl
  have ho2 : ((some (.int (zsAt i (zn j))), I, L) : zO) = o := Option.some.inj ho
  subst ho2
  exact W.zret hB.1 hB.2.1 hB.2.2.1 (by first | (rw [← e9]; exact pk_nc _) | exact pk_nc _) (fun t ht hW => ⟨by first | rfl | rw [e9], by rw [ht]; exact hP, hS.F ht⟩) hS.2.2 dJ1_charAt_3b067_14 hB.2.2.2.2.2.2.1
set_option maxRecDepth 100000 in
theorem mJ0_charAt {l : Launch} {D : va_G} {T : zT} {ad sK sV : Nat → Nat} (hi : zInj ad) {i : Nat} (h36 : i < 36) {j : Int32} (hj : vp_in j (zsLen i)) (I : zI) (L : zL) : zMet l yJ0_charAt_5068e cJ0_charAt_5068e 2 (some .char) 3 64 D T ad sK sV [.ref (sK i), .int j] I L (some (.int (zsAt i (zn j))), I, L) := by
  refine zMet.of hi (by decide +kernel) (Nat.le_of_ble_eq_true rfl) (fun p e s m args below meth c hB => ?_)
  refine zr_top (emb := fun o => o) (t := some ((some (.int (zsAt i (zn j))), I, L) : zO)) ?_ rfl
  refine zr_aload_n hB 0 rfl rfl dJ0_charAt_5068e_0 ?_
  refine zr_callT (st := []) (As := []) (y0 := (some (.int 1), I, L)) hB h36 (mJ0_isLatin1 hi h36 I L) lm_J0_492 q2_J0_isLatin1 q3_J0_isLatin1 q4_J0 q5_J0_isLatin1 qd_J0_isLatin1 (by decide) rfl rfl (Nat.le_of_ble_eq_true rfl) ⟨Nat.zero_le _, Nat.zero_le _⟩ dJ0_charAt_5068e_1 ?_
  have e0 : (some ((some (.int (zsAt i (zn j))), I, L) : zO)) = if (1 : Int32) = 0 then none else some ((some (.int (zsAt i (zn j))), I, L) : zO) := by rw [if_neg (by decide)]
  rw [e0]
  refine zr_ifeq (tgt := 16) hB (by decide) dJ0_charAt_5068e_4 (fun o ho => by cases ho) ?_
  refine zr_aload_n hB 0 rfl rfl dJ0_charAt_5068e_7 ?_
  refine zr_sval hB h36 lf_J0_9 dJ0_charAt_5068e_8 ?_
  refine zr_iload_n hB 1 rfl rfl dJ0_charAt_5068e_11 ?_
  refine zr_callZ (st := []) (As := [.ref (sV i), .int j]) (y0 := (some (.int (zsAt i (zn j))), I, L)) hB (mJ1_charAt hi h36 hj I L) lm_J0_495 q2_J1_charAt q4_J1 q5_J1_charAt qd_J1_charAt (by decide) rfl rfl (Nat.le_of_ble_eq_true rfl) ⟨Nat.zero_le _, Nat.zero_le _⟩ dJ0_charAt_5068e_12 ?_
  have e9 := zsAt_ok i h36 (zn j) (vp_lt hj)
  intro o ho H locs ls hP hS hl
  have ho2 : ((some (.int (zsAt i (zn j))), I, L) : zO) = o := Option.some.inj ho
  subst ho2
  exact W.zret hB.1 hB.2.1 hB.2.2.1 (by rw [← e9]; exact pk_nc _) (fun t ht hW => ⟨rfl, by rw [ht]; exact hP, hS.F ht⟩) hS.2.2 dJ0_charAt_5068e_15 hB.2.2.2.2.2.2.1
section ZSTR2
variable {α β γ ω σ χ : Type} {p : Program} {l : Launch} {e : Env} {R : Room} {s : State} {m : MethodId} {args : Array Value} {below : List Frame} {meth : Method} {c : Code} {D : va_G} {T : zT} {ad sK sV : Nat → Nat} {A : Nat → Prop} {cc : ByteArray} {own : String} {nL cells slots : Nat} {ret : Option FieldType} {Qf : ω → State → Prop} {pc : Nat} {lv : List (Nat × Value)} {st : List Value} {I : zI} {L : zL} {K : α → Option ω} {t : Option α}
theorem zr_slen (hB : zB p s m args meth c D T ad A sK sV cc own nL ret) {index i : Nat} (hf : 2 ≤ R.frames) (hlo : 40 ≤ R.locals) (hst : (st.map fun v => v.category).sum ≤ 8) (hcs : cells ≤ R.cells ∧ slots ≤ R.slots) (l1 : Cond.methodLink own index yJ0_length_8abf5 ∈ zTbl) (d : decode cc pc = .ok (.invokevirtual index, 3)) (k : zZ p l e R s m args below meth c D T ad A nL cells slots Qf (pc + 3) lv (.int (nI (zsLen i)) :: st) I L K (t)) : zZ p l e R s m args below meth c D T ad A nL cells slots Qf pc lv (.ref (sK i) :: st) I L K (zgs i t) := zr_gs (fun h36 => zr_callT (st := st) (As := []) (y0 := (some (.int (nI (zsLen i))), I, L)) hB h36 (mJ0_length hB.2.2.2.2.2.2.2.2.1 h36 I L) l1 q2_J0_length q3_J0_length q4_J0 q5_J0_length qd_J0_length ⟨hf, hlo⟩ rfl rfl hst hcs d k)
theorem zr_scharAt (hB : zB p s m args meth c D T ad A sK sV cc own nL ret) {index i : Nat} {j : Int32} (hf : 4 ≤ R.frames) (hlo : 85 ≤ R.locals) (hst : (st.map fun v => v.category).sum ≤ 8) (hcs : cells ≤ R.cells ∧ slots ≤ R.slots) (l1 : Cond.methodLink own index yJ0_charAt_5068e ∈ zTbl) (d : decode cc pc = .ok (.invokevirtual index, 3)) (k : zZ p l e R s m args below meth c D T ad A nL cells slots Qf (pc + 3) lv (.int (zsAt i (zn j)) :: st) I L K (t)) : zZ p l e R s m args below meth c D T ad A nL cells slots Qf pc lv (.int j :: .ref (sK i) :: st) I L K (zgs i (zg j (zsLen i) t)) := zr_gs (fun h36 => zr_gd (fun hj => zr_callT (st := st) (As := [.int j]) (y0 := (some (.int (zsAt i (zn j))), I, L)) hB h36 (mJ0_charAt hB.2.2.2.2.2.2.2.2.1 h36 hj I L) l1 q2_J0_charAt q3_J0_charAt q4_J0 q5_J0_charAt qd_J0_charAt ⟨hf, hlo⟩ rfl rfl hst hcs d k))
theorem zr_fill (hB : zB p s m args meth c D T ad A sK sV cc own nL ret) {index ca n : Nat} {v : Int32} (hA : zA ca n) (hf : 1 ≤ R.frames) (hlo : 25 ≤ R.locals) (hst : (st.map fun v => v.category).sum ≤ 8) (hcs : cells ≤ R.cells ∧ slots ≤ R.slots) (l1 : Cond.methodLink own index yJ7_fill_53178 ∈ zTbl) (d : decode cc pc = .ok (.invokestatic index, 3)) (k : zZ p l e R s m args below meth c D T ad A nL cells slots Qf (pc + 3) lv (st) (zfill I ca n v) L K (t)) : zZ p l e R s m args below meth c D T ad A nL cells slots Qf pc lv (.int v :: .ref (ad ca) :: st) I L K (t) := zr_callZ (st := st) (As := [.ref (ad ca), .int v]) (y0 := (none, zfill I ca n v, L)) hB (mJ7_fill_53178 hB.2.2.2.2.2.2.2.2.1 hA v I L) l1 q2_J7_fill q4_J7 q5_J7_fill qd_J7_fill ⟨hf, by omega⟩ rfl rfl hst hcs d k
theorem zr_fillL (hB : zB p s m args meth c D T ad A sK sV cc own nL ret) {index ca n : Nat} {v : Int64} (hA : zAL ca n) (hf : 1 ≤ R.frames) (hlo : 25 ≤ R.locals) (hst : (st.map fun v => v.category).sum ≤ 8) (hcs : cells ≤ R.cells ∧ slots ≤ R.slots) (l1 : Cond.methodLink own index yJ7_fill_d0a16 ∈ zTbl) (d : decode cc pc = .ok (.invokestatic index, 3)) (k : zZ p l e R s m args below meth c D T ad A nL cells slots Qf (pc + 3) lv (st) I (zfillL L ca n v) K (t)) : zZ p l e R s m args below meth c D T ad A nL cells slots Qf pc lv (.long v :: .ref (ad ca) :: st) I L K (t) := zr_callZ (st := st) (As := [.ref (ad ca), .long v]) (y0 := (none, I, zfillL L ca n v)) hB (mJ7_fill_d0a16 hB.2.2.2.2.2.2.2.2.1 hA v I L) l1 q2_J7_fillL q4_J7 q5_J7_fillL qd_J7_fillL ⟨hf, by omega⟩ rfl rfl hst hcs d k
end ZSTR2
