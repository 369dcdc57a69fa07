def fX5_nameOf (a1 : Int32) : Option (Nat) :=
  if a1 = 0 then
    some 0
  else
  if a1 = 1 then
    some 1
  else
  if a1 = 2 then
    some 2
  else
  if a1 = 3 then
    some 3
  else
  if a1 = 4 then
    some 4
  else
  if a1 = 5 then
    some 5
  else
  if a1 = 6 then
    some 6
  else
  if a1 = 7 then
    some 7
  else
  if a1 = 8 then
    some 8
  else
  if a1 = 9 then
    some 9
  else
  if a1 = 10 then
    some 10
  else
  if a1 = 11 then
    some 11
  else
  if a1 = 12 then
    some 12
  else
  if a1 = 13 then
    some 13
  else
  if a1 = 14 then
    some 14
  else
  if a1 = 15 then
    some 15
  else
  if a1 = 16 then
    some 16
  else
  some 17
set_option maxHeartbeats 4000000 in
set_option maxRecDepth 100000 in
theorem mX5_nameOf {l : Launch} {D : va_G} {T : zT} {ad sK sV : Nat → Nat} (hi : zInj ad) (a1 : Int32)  (I : zI) (L : zL) : ∀ o, fX5_nameOf a1 = some o → zMet l yX5_nameOf cX5_nameOf 1 (some (.object "java/lang/String")) 0 0 D T ad sK sV [.int a1] I L (em_s0 sK I L o) := by
  intro o ho
  refine zMet.of hi (by decide +kernel) (Nat.le_of_ble_eq_true rfl) (fun p e s m args below meth c hB => ?_)
  refine zr_top (emb := em_s0 sK I L) (t := fX5_nameOf a1) ?_ ho
  unfold fX5_nameOf
  refine zr_iload_n hB 0 rfl rfl dX5_nameOf_0 ?_
  refine zr_case (fun q1_0 => ?_) (fun q1_0 => ?_)
  · refine zr_tsIn (tgt := 84) (v := 0) hB q1_0 dX5_nameOf_1 (by decide) (by decide) rfl (by decide) ?_
    refine zr_ldcS (i := 0) hB (by decide) rfl dX5_nameOf_84 ?_
    exact zr_sret hB rfl rfl dX5_nameOf_86
  · refine zr_case (fun q1_1 => ?_) (fun q1_1 => ?_)
    · refine zr_tsIn (tgt := 87) (v := 1) hB q1_1 dX5_nameOf_1 (by decide) (by decide) rfl (by decide) ?_
      refine zr_ldcS (i := 1) hB (by decide) rfl dX5_nameOf_87 ?_
      exact zr_sret hB rfl rfl dX5_nameOf_89
    · refine zr_case (fun q1_2 => ?_) (fun q1_2 => ?_)
      · refine zr_tsIn (tgt := 90) (v := 2) hB q1_2 dX5_nameOf_1 (by decide) (by decide) rfl (by decide) ?_
        refine zr_ldcS (i := 2) hB (by decide) rfl dX5_nameOf_90 ?_
        exact zr_sret hB rfl rfl dX5_nameOf_92
      · refine zr_case (fun q1_3 => ?_) (fun q1_3 => ?_)
        · refine zr_tsIn (tgt := 93) (v := 3) hB q1_3 dX5_nameOf_1 (by decide) (by decide) rfl (by decide) ?_
          refine zr_ldcS (i := 3) hB (by decide) rfl dX5_nameOf_93 ?_
          exact zr_sret hB rfl rfl dX5_nameOf_95
        · refine zr_case (fun q1_4 => ?_) (fun q1_4 => ?_)
          · refine zr_tsIn (tgt := 96) (v := 4) hB q1_4 dX5_nameOf_1 (by decide) (by decide) rfl (by decide) ?_
            refine zr_ldcS (i := 4) hB (by decide) rfl dX5_nameOf_96 ?_
            exact zr_sret hB rfl rfl dX5_nameOf_98
          · refine zr_case (fun q1_5 => ?_) (fun q1_5 => ?_)
            · refine zr_tsIn (tgt := 99) (v := 5) hB q1_5 dX5_nameOf_1 (by decide) (by decide) rfl (by decide) ?_
              refine zr_ldcS (i := 5) hB (by decide) rfl dX5_nameOf_99 ?_
              exact zr_sret hB rfl rfl dX5_nameOf_101
            · refine zr_case (fun q1_6 => ?_) (fun q1_6 => ?_)
              · refine zr_tsIn (tgt := 102) (v := 6) hB q1_6 dX5_nameOf_1 (by decide) (by decide) rfl (by decide) ?_
                refine zr_ldcS (i := 6) hB (by decide) rfl dX5_nameOf_102 ?_
                exact zr_sret hB rfl rfl dX5_nameOf_104
              · refine zr_case (fun q1_7 => ?_) (fun q1_7 => ?_)
                · refine zr_tsIn (tgt := 105) (v := 7) hB q1_7 dX5_nameOf_1 (by decide) (by decide) rfl (by decide) ?_
                  refine zr_ldcS (i := 7) hB (by decide) rfl dX5_nameOf_105 ?_
                  exact zr_sret hB rfl rfl dX5_nameOf_107
                · refine zr_case (fun q1_8 => ?_) (fun q1_8 => ?_)
                  · refine zr_tsIn (tgt := 108) (v := 8) hB q1_8 dX5_nameOf_1 (by decide) (by decide) rfl (by decide) ?_
                    refine zr_ldcS (i := 8) hB (by decide) rfl dX5_nameOf_108 ?_
                    exact zr_sret hB rfl rfl dX5_nameOf_110
                  · refine zr_case (fun q1_9 => ?_) (fun q1_9 => ?_)
                    · refine zr_tsIn (tgt := 111) (v := 9) hB q1_9 dX5_nameOf_1 (by decide) (by decide) rfl (by decide) ?_
                      refine zr_ldcS (i := 9) hB (by decide) rfl dX5_nameOf_111 ?_
                      exact zr_sret hB rfl rfl dX5_nameOf_113
                    · refine zr_case (fun q1_10 => ?_) (fun q1_10 => ?_)
                      · refine zr_tsIn (tgt := 114) (v := 10) hB q1_10 dX5_nameOf_1 (by decide) (by decide) rfl (by decide) ?_
                        refine zr_ldcS (i := 10) hB (by decide) rfl dX5_nameOf_114 ?_
                        exact zr_sret hB rfl rfl dX5_nameOf_116
                      · refine zr_case (fun q1_11 => ?_) (fun q1_11 => ?_)
                        · refine zr_tsIn (tgt := 117) (v := 11) hB q1_11 dX5_nameOf_1 (by decide) (by decide) rfl (by decide) ?_
                          refine zr_ldcS (i := 11) hB (by decide) rfl dX5_nameOf_117 ?_
                          exact zr_sret hB rfl rfl dX5_nameOf_119
                        · refine zr_case (fun q1_12 => ?_) (fun q1_12 => ?_)
                          · refine zr_tsIn (tgt := 120) (v := 12) hB q1_12 dX5_nameOf_1 (by decide) (by decide) rfl (by decide) ?_
                            refine zr_ldcS (i := 12) hB (by decide) rfl dX5_nameOf_120 ?_
                            exact zr_sret hB rfl rfl dX5_nameOf_122
                          · refine zr_case (fun q1_13 => ?_) (fun q1_13 => ?_)
                            · refine zr_tsIn (tgt := 123) (v := 13) hB q1_13 dX5_nameOf_1 (by decide) (by decide) rfl (by decide) ?_
                              refine zr_ldcS (i := 13) hB (by decide) rfl dX5_nameOf_123 ?_
                              exact zr_sret hB rfl rfl dX5_nameOf_125
                            · refine zr_case (fun q1_14 => ?_) (fun q1_14 => ?_)
                              · refine zr_tsIn (tgt := 126) (v := 14) hB q1_14 dX5_nameOf_1 (by decide) (by decide) rfl (by decide) ?_
                                refine zr_ldcS (i := 14) hB (by decide) rfl dX5_nameOf_126 ?_
                                exact zr_sret hB rfl rfl dX5_nameOf_128
                              · refine zr_case (fun q1_15 => ?_) (fun q1_15 => ?_)
                                · refine zr_tsIn (tgt := 129) (v := 15) hB q1_15 dX5_nameOf_1 (by decide) (by decide) rfl (by decide) ?_
                                  refine zr_ldcS (i := 15) hB (by decide) rfl dX5_nameOf_129 ?_
                                  exact zr_sret hB rfl rfl dX5_nameOf_131
                                · refine zr_case (fun q1_16 => ?_) (fun q1_16 => ?_)
                                  · refine zr_tsIn (tgt := 132) (v := 16) hB q1_16 dX5_nameOf_1 (by decide) (by decide) rfl (by decide) ?_
                                    refine zr_ldcS (i := 16) hB (by decide) rfl dX5_nameOf_132 ?_
                                    exact zr_sret hB rfl rfl dX5_nameOf_134
                                  · refine zr_tsOut (tgt := 135) hB dX5_nameOf_1 (by have h0 := lv_neT q1_0 (show (0 : Int32).toInt = 0 from rfl); have h1 := lv_neT q1_1 (show (1 : Int32).toInt = 1 from rfl); have h2 := lv_neT q1_2 (show (2 : Int32).toInt = 2 from rfl); have h3 := lv_neT q1_3 (show (3 : Int32).toInt = 3 from rfl); have h4 := lv_neT q1_4 (show (4 : Int32).toInt = 4 from rfl); have h5 := lv_neT q1_5 (show (5 : Int32).toInt = 5 from rfl); have h6 := lv_neT q1_6 (show (6 : Int32).toInt = 6 from rfl); have h7 := lv_neT q1_7 (show (7 : Int32).toInt = 7 from rfl); have h8 := lv_neT q1_8 (show (8 : Int32).toInt = 8 from rfl); have h9 := lv_neT q1_9 (show (9 : Int32).toInt = 9 from rfl); have h10 := lv_neT q1_10 (show (10 : Int32).toInt = 10 from rfl); have h11 := lv_neT q1_11 (show (11 : Int32).toInt = 11 from rfl); have h12 := lv_neT q1_12 (show (12 : Int32).toInt = 12 from rfl); have h13 := lv_neT q1_13 (show (13 : Int32).toInt = 13 from rfl); have h14 := lv_neT q1_14 (show (14 : Int32).toInt = 14 from rfl); have h15 := lv_neT q1_15 (show (15 : Int32).toInt = 15 from rfl); have h16 := lv_neT q1_16 (show (16 : Int32).toInt = 16 from rfl); omega) (by decide) ?_
                                    refine zr_ldcS (i := 17) hB (by decide) rfl dX5_nameOf_135 ?_
                                    exact zr_sret hB rfl rfl dX5_nameOf_137

def gX3_wordIn_2 (n : Nat) (a1 : Int32) (a2 : Int32) (I : zI) (s1 : Int32) : Option ((Int32) ⊕ ((Int32) ⊕ (Unit))) :=
  if 17 ≤ s1 then
    some (.inr (.inr ()))
  else
  zb (fX5_nameOf s1) fun o11 =>
  zb (fX3_isWordIn n o11 a1 a2 I) fun o13 =>
  if o13 = 0 then
    zl (s1 + 1) fun v14 =>
    some (.inl v14)
  else
  some (.inr (.inl s1))
def fX3_wordIn (n : Nat) (a1 : Int32) (a2 : Int32) (I : zI) : Option (Int32) :=
  zbs (zit (gX3_wordIn_2 n a1 a2 I) n 0) fun x2 : Unit =>
  some (-1)
set_option maxHeartbeats 4000000 in
set_option maxRecDepth 100000 in
theorem mX3_wordIn {l : Launch} {D : va_G} {T : zT} {ad sK sV : Nat → Nat} (hi : zInj ad) (n : Nat) (a1 : Int32) (a2 : Int32)  (I : zI) (L : zL) : ∀ o, fX3_wordIn n a1 a2 I = some o → zMet l yX3_wordIn cX3_wordIn 4 (some .int) 5 125 D T ad sK sV [.ref (ad 33), .int a1, .int a2] I L (em_i0 I L o) := by
  intro o ho
  refine zMet.of hi (by decide +kernel) (Nat.le_of_ble_eq_true rfl) (fun p e s m args below meth c hB => ?_)
  refine zr_top (emb := em_i0 I L) (t := fX3_wordIn n a1 a2 I) ?_ ho
  unfold fX3_wordIn
  refine zr_iconst (v := 0) hB (by decide) dX3_wordIn_0 ?_
  refine zr_istore_n (lv' := [(3, .int 0), (0, .ref (ad 33)), (1, .int a1), (2, .int a2)]) hB rfl (by decide) rfl dX3_wordIn_1 ?_
  refine zr_joins (pcJ := 29) (fun x2 : Unit => []) (fun _ => []) (fun x2 => I) (fun x2 => L) (fun x2 => ?_) (fun K8 hi6 hx7 => ?_)
  · refine zr_iconst (v := (-1)) hB (by decide) dX3_wordIn_29 ?_
    exact zr_iret hB rfl rfl dX3_wordIn_30
  · refine zr_sub (lv' := (fun s1 : Int32 => [(3, .int s1), (0, .ref (ad 33)), (1, .int a1), (2, .int a2)]) 0) [0, 1, 2, 3] rfl (zr_loops (fun s1 : Int32 => [(3, .int s1), (0, .ref (ad 33)), (1, .int a1), (2, .int a2)]) (fun s1 => I) (fun s1 => L) (fun x2 : Unit => []) (fun x2 => I) (fun x2 => L) hi6 hx7 (fun s1 K9 hc3 hi5 hx4 => ?_) n 0)
    unfold gX3_wordIn_2
    refine zr_iload_n hB 0 rfl rfl dX3_wordIn_2 ?_
    refine zr_bipush (v := 17) hB (by decide) dX3_wordIn_3 ?_
    refine zr_icmp_ge (tgt := 29) hB (by decide) dX3_wordIn_5 ?_ ?_
    · exact zr_sub [] rfl (hx4 ())
    · refine zr_aload_n hB 1 rfl rfl dX3_wordIn_8 ?_
      refine zr_iload_n hB 0 rfl rfl dX3_wordIn_9 ?_
      refine zr_callS (st := [.ref (ad 33)]) (As := [.int s1]) (embc := em_s0 sK I L) hB (mX5_nameOf (sK := sK) (sV := sV) hi s1 I L) lm_X3_55 q2_X5_nameOf q4_X5 q5_X5_nameOf qd_X5_nameOf (by decide) rfl rfl (Nat.le_of_ble_eq_true rfl) ⟨Nat.zero_le _, Nat.zero_le _⟩ dX3_wordIn_10 (zr_ks0 (fun o11 => ?_))
      refine zr_iload_n hB 2 rfl rfl dX3_wordIn_13 ?_
      refine zr_iload_n hB 3 rfl rfl dX3_wordIn_14 ?_
      refine zr_callV (st := []) (C := RX3) (As := [.ref (sK o11), .int a1, .int a2]) (embc := em_i0 I L) hB (mX3_isWordIn (sK := sK) (sV := sV) hi n o11 a1 a2 I L) (zW_X3 rfl) rfl rfl lm_X3_59 q2_X3_isWordIn q3_X3_isWordIn q4_X3 q5_X3_isWordIn qd_X3_isWordIn (by decide) rfl rfl (Nat.le_of_ble_eq_true rfl) ⟨Nat.zero_le _, Nat.zero_le _⟩ dX3_wordIn_15 (zr_ki0 (fun o13 => ?_))
      refine zr_ifeq (tgt := 23) hB (by decide) dX3_wordIn_18 ?_ ?_
      · refine zr_iincL hB (j := 0) (n := 1) (w := 1) rfl (by decide) (by decide) dX3_wordIn_23 (fun v14 lv' hlv => ?_)
        obtain rfl : lv' = [(3, .int v14), (0, .ref (ad 33)), (1, .int a1), (2, .int a2)] := hlv.symm.trans rfl
        refine zr_goto (tgt := 2) hB (by decide) dX3_wordIn_26 ?_
        exact zr_sub [0, 1, 2, 3] rfl (hc3 v14)
      · refine zr_iload_n hB 0 rfl rfl dX3_wordIn_21 ?_
        refine hi5 _ _ _ _ _ _ ?_
        exact zr_iret hB rfl rfl dX3_wordIn_22

def fX3_valueOf (n : Nat) (a1 : Int32) (a2 : Int32) (a3 : Int32) (I : zI) : Option (Int32) :=
  if a1 = 1 then
    zb (fX3_wordIn n a2 a3 I) fun o2 =>
    some o2
  else
  if a1 = 2 then
    zb (fX3_numberIn n a2 a3 I) fun o4 =>
    some o4
  else
  some 0
set_option maxHeartbeats 4000000 in
set_option maxRecDepth 100000 in
theorem mX3_valueOf {l : Launch} {D : va_G} {T : zT} {ad sK sV : Nat → Nat} (hi : zInj ad) (n : Nat) (a1 : Int32) (a2 : Int32) (a3 : Int32)  (I : zI) (L : zL) : ∀ o, fX3_valueOf n a1 a2 a3 I = some o → zMet l yX3_valueOf cX3_valueOf 4 (some .int) 6 148 D T ad sK sV [.ref (ad 33), .int a1, .int a2, .int a3] I L (em_i0 I L o) := by
  intro o ho
  refine zMet.of hi (by decide +kernel) (Nat.le_of_ble_eq_true rfl) (fun p e s m args below meth c hB => ?_)
  refine zr_top (emb := em_i0 I L) (t := fX3_valueOf n a1 a2 a3 I) ?_ ho
  unfold fX3_valueOf
  refine zr_iload_n hB 1 rfl rfl dX3_valueOf_0 ?_
  refine zr_case (fun q1_0 => ?_) (fun q1_0 => ?_)
  · refine zr_lsw (tgt := 28) (off := 27) hB dX3_valueOf_1 (by decide) (by rw [q1_0]; try rfl) (by decide) ?_
    refine zr_aload_n hB 0 rfl rfl dX3_valueOf_28 ?_
    refine zr_iload_n hB 2 rfl rfl dX3_valueOf_29 ?_
    refine zr_iload_n hB 3 rfl rfl dX3_valueOf_30 ?_
    refine zr_callV (st := []) (C := RX3) (As := [.int a2, .int a3]) (embc := em_i0 I L) hB (mX3_wordIn (sK := sK) (sV := sV) hi n a2 a3 I L) (zW_X3 rfl) rfl rfl lm_X3_46 q2_X3_wordIn q3_X3_wordIn q4_X3 q5_X3_wordIn qd_X3_wordIn (by decide) rfl rfl (Nat.le_of_ble_eq_true rfl) ⟨Nat.zero_le _, Nat.zero_le _⟩ dX3_valueOf_31 (zr_ki0 (fun o2 => ?_))
    exact zr_iret hB rfl rfl dX3_valueOf_34
  · refine zr_case (fun q1_1 => ?_) (fun q1_1 => ?_)
    · refine zr_lsw (tgt := 35) (off := 34) hB dX3_valueOf_1 (by decide) (by rw [q1_1]; try rfl) (by decide) ?_
      refine zr_aload_n hB 0 rfl rfl dX3_valueOf_35 ?_
      refine zr_iload_n hB 2 rfl rfl dX3_valueOf_36 ?_
      refine zr_iload_n hB 3 rfl rfl dX3_valueOf_37 ?_
      refine zr_callV (st := []) (C := RX3) (As := [.int a2, .int a3]) (embc := em_i0 I L) hB (mX3_numberIn (sK := sK) (sV := sV) hi n a2 a3 I L) (zW_X3 rfl) rfl rfl lm_X3_50 q2_X3_numberIn q3_X3_numberIn q4_X3 q5_X3_numberIn qd_X3_numberIn (by decide) rfl rfl (Nat.le_of_ble_eq_true rfl) ⟨Nat.zero_le _, Nat.zero_le _⟩ dX3_valueOf_38 (zr_ki0 (fun o4 => ?_))
      exact zr_iret hB rfl rfl dX3_valueOf_41
    · refine zr_lsw (tgt := 42) (off := 41) hB dX3_valueOf_1 (by decide) (by show Op.lookupswitch.offset [(1, 27), (2, 34)] 41 (a1).toInt = 41; rw [lv_osw q1_0 (show (1 : Int32).toInt = 1 from rfl), lv_osw q1_1 (show (2 : Int32).toInt = 2 from rfl)]; rfl) (by decide) ?_
      refine zr_iconst (v := 0) hB (by decide) dX3_valueOf_42 ?_
      exact zr_iret hB rfl rfl dX3_valueOf_43

def gX3_split_9 (n : Nat) (s2 : Int32 × Int32 × zI) : Option ((Int32 × Int32 × zI) ⊕ (zI)) :=
  if 120 ≤ s2.2.1 then
    some (.inr s2.2.2)
  else
  if (s2.2.2 33 1) ≤ s2.1 then
    some (.inr s2.2.2)
  else
  zb (fX3_endOf n s2.1 s2.2.2) fun o12 =>
  zg s2.1 120 (
  zb (fX3_kindOf (s2.2.2 34 (zn s2.1))) fun o14 =>
  if o14 = 4 then
    zl (s2.2.1 + 1) fun v15 =>
    some (.inl (o12, v15, s2.2.2))
  else
  zb (fX3_valueOf n o14 s2.1 o12 s2.2.2) fun o17 =>
  zb (fX3_addToken o14 o17 s2.1 s2.2.2) fun o20 =>
  zl (s2.2.1 + 1) fun v21 =>
  some (.inl (o12, v21, o20)))
def fX3_split (n : Nat) (I : zI) : Option (zI) :=
  zl (zup I 33 5 0) fun J1 =>
  zb (zit (gX3_split_9 n) n (0, 0, J1)) fun x3 : zI =>
  some x3
set_option maxHeartbeats 4000000 in
set_option maxRecDepth 100000 in
theorem mX3_split {l : Launch} {D : va_G} {T : zT} {ad sK sV : Nat → Nat} (hi : zInj ad) (n : Nat)   (I : zI) (L : zL) : ∀ o, fX3_split n I = some o → zMet l yX3_split cX3_split 5 none 7 171 D T ad sK sV [.ref (ad 33)] I L (em_vI L o) := by
  intro o ho
  refine zMet.of hi (by decide +kernel) (Nat.le_of_ble_eq_true rfl) (fun p e s m args below meth c hB => ?_)
  refine zr_top (emb := em_vI L) (t := fX3_split n I) ?_ ho
  unfold fX3_split
  refine zr_aload_n hB 0 rfl rfl dX3_split_0 ?_
  refine zr_iconst (v := 0) hB (by decide) dX3_split_1 ?_
  refine zr_put_X3 (w := 33) (k := 5) hB rfl (by decide) rfl rfl rfl lf_X3_28 rfl dX3_split_2 ?_
  refine zr_letM (fun J1 => ?_)
  refine zr_iconst (v := 0) hB (by decide) dX3_split_5 ?_
  refine zr_istore_n (lv' := [(1, .int 0), (0, .ref (ad 33))]) hB rfl (by decide) rfl dX3_split_6 ?_
  refine zr_iconst (v := 0) hB (by decide) dX3_split_7 ?_
  refine zr_istore_n (lv' := [(2, .int 0), (1, .int 0), (0, .ref (ad 33))]) hB rfl (by decide) rfl dX3_split_8 ?_
  refine zr_join (pcJ := 69) (fun x3 : zI => []) (fun _ => []) (fun x3 => x3) (fun x3 => L) (fun x3 => ?_) (fun K9 hx8 => ?_)
  · exact zr_vret hB rfl rfl dX3_split_69
  · refine zr_sub (lv' := (fun s2 : Int32 × Int32 × zI => [(1, .int s2.1), (2, .int s2.2.1), (0, .ref (ad 33))]) (0, 0, J1)) [1, 0, 2] rfl (zr_loop (fun s2 : Int32 × Int32 × zI => [(1, .int s2.1), (2, .int s2.2.1), (0, .ref (ad 33))]) (fun s2 => s2.2.2) (fun s2 => L) (fun x3 : zI => []) (fun x3 => x3) (fun x3 => L) hx8 (fun s2 K10 hc4 hx5 => ?_) n (0, 0, J1))
    unfold gX3_split_9
    refine zr_iload_n hB 1 rfl rfl dX3_split_9 ?_
    refine zr_bipush (v := 120) hB (by decide) dX3_split_10 ?_
    refine zr_icmp_ge (tgt := 69) hB (by decide) dX3_split_12 ?_ ?_
    · exact zr_sub [] rfl (hx5 s2.2.2)
    · refine zr_iload_n hB 0 rfl rfl dX3_split_15 ?_
      refine zr_aload_n hB 2 rfl rfl dX3_split_16 ?_
      refine zr_get_X3 (w := 33) (k := 1) (v := .int (s2.2.2 33 1)) hB rfl (by decide) rfl lf_X3_24 rfl dX3_split_17 ?_
      refine zr_icmp_ge (tgt := 69) hB (by decide) dX3_split_20 ?_ ?_
      · exact zr_sub [] rfl (hx5 s2.2.2)
      · refine zr_aload_n hB 2 rfl rfl dX3_split_23 ?_
        refine zr_iload_n hB 0 rfl rfl dX3_split_24 ?_
        refine zr_callV (st := []) (C := RX3) (As := [.int s2.1]) (embc := em_i0 s2.2.2 L) hB (mX3_endOf (sK := sK) (sV := sV) hi n s2.1 s2.2.2 L) (zW_X3 rfl) rfl rfl lm_X3_31 q2_X3_endOf q3_X3_endOf q4_X3 q5_X3_endOf qd_X3_endOf (by decide) rfl rfl (Nat.le_of_ble_eq_true rfl) ⟨Nat.zero_le _, Nat.zero_le _⟩ dX3_split_25 (zr_ki0 (fun o12 => ?_))
        refine zr_istore_n (lv' := [(3, .int o12), (1, .int s2.1), (2, .int s2.2.1), (0, .ref (ad 33))]) hB rfl (by decide) rfl dX3_split_28 ?_
        refine zr_aload_n hB 3 rfl rfl dX3_split_29 ?_
        refine zr_get_X3 (w := 33) (k := 0) (v := .ref (ad 34)) hB rfl (by decide) rfl lf_X3_11 rfl dX3_split_30 ?_
        refine zr_iload_n hB 1 rfl rfl dX3_split_33 ?_
        refine zr_iaload hB zA_34 dX3_split_34 ?_
        refine zr_callS (st := []) (As := [.int (s2.2.2 34 (zn s2.1))]) (embc := em_i0 s2.2.2 L) hB (mX3_kindOf (sK := sK) (sV := sV) hi (s2.2.2 34 (zn s2.1)) s2.2.2 L) lm_X3_35 q2_X3_kindOf q4_X3 q5_X3_kindOf qd_X3_kindOf (by decide) rfl rfl (Nat.le_of_ble_eq_true rfl) ⟨Nat.zero_le _, Nat.zero_le _⟩ dX3_split_35 (zr_ki0 (fun o14 => ?_))
        refine zr_istore (lv' := [(4, .int o14), (3, .int o12), (1, .int s2.1), (2, .int s2.2.1), (0, .ref (ad 33))]) hB (by decide) rfl dX3_split_38 ?_
        refine zr_iload hB 0 rfl dX3_split_40 ?_
        refine zr_iconst (v := 4) hB (by decide) dX3_split_42 ?_
        refine zr_icmp_eq (tgt := 61) hB (by decide) dX3_split_43 ?_ ?_
        · refine zr_iload_n hB 1 rfl rfl dX3_split_61 ?_
          refine zr_istore_n (lv' := [(1, .int o12), (4, .int o14), (3, .int o12), (2, .int s2.2.1), (0, .ref (ad 33))]) hB rfl (by decide) rfl dX3_split_62 ?_
          refine zr_iincL hB (j := 3) (n := 1) (w := 1) rfl (by decide) (by decide) dX3_split_63 (fun v15 lv' hlv => ?_)
          obtain rfl : lv' = [(2, .int v15), (1, .int o12), (4, .int o14), (3, .int o12), (0, .ref (ad 33))] := hlv.symm.trans rfl
          refine zr_goto (tgt := 9) hB (by decide) dX3_split_66 ?_
          exact zr_sub [1, 0, 4] rfl (hc4 (o12, v15, s2.2.2))
        · refine zr_aload_n hB 4 rfl rfl dX3_split_46 ?_
          refine zr_iload hB 0 rfl dX3_split_47 ?_
          refine zr_aload_n hB 4 rfl rfl dX3_split_49 ?_
          refine zr_iload hB 0 rfl dX3_split_50 ?_
          refine zr_iload_n hB 2 rfl rfl dX3_split_52 ?_
          refine zr_iload_n hB 1 rfl rfl dX3_split_53 ?_
          refine zr_callV (st := [.int o14, .ref (ad 33)]) (C := RX3) (As := [.int o14, .int s2.1, .int o12]) (embc := em_i0 s2.2.2 L) hB (mX3_valueOf (sK := sK) (sV := sV) hi n o14 s2.1 o12 s2.2.2 L) (zW_X3 rfl) rfl rfl lm_X3_38 q2_X3_valueOf q3_X3_valueOf q4_X3 q5_X3_valueOf qd_X3_valueOf (by decide) rfl rfl (Nat.le_of_ble_eq_true rfl) ⟨Nat.zero_le _, Nat.zero_le _⟩ dX3_split_54 (zr_ki0 (fun o17 => ?_))
          refine zr_iload_n hB 2 rfl rfl dX3_split_57 ?_
          refine zr_callV (st := []) (C := RX3) (As := [.int o14, .int o17, .int s2.1]) (embc := em_vI L) hB (mX3_addToken (sK := sK) (sV := sV) hi o14 o17 s2.1 s2.2.2 L) (zW_X3 rfl) rfl rfl lm_X3_42 q2_X3_addToken q3_X3_addToken q4_X3 q5_X3_addToken qd_X3_addToken (by decide) rfl rfl (Nat.le_of_ble_eq_true rfl) ⟨Nat.zero_le _, Nat.zero_le _⟩ dX3_split_58 (zr_kvI (fun o20 => ?_))
          refine zr_iload_n hB 1 rfl rfl dX3_split_61 ?_
          refine zr_istore_n (lv' := [(1, .int o12), (4, .int o14), (3, .int o12), (2, .int s2.2.1), (0, .ref (ad 33))]) hB rfl (by decide) rfl dX3_split_62 ?_
          refine zr_iincL hB (j := 3) (n := 1) (w := 1) rfl (by decide) (by decide) dX3_split_63 (fun v21 lv' hlv => ?_)
          obtain rfl : lv' = [(2, .int v21), (1, .int o12), (4, .int o14), (3, .int o12), (0, .ref (ad 33))] := hlv.symm.trans rfl
          refine zr_goto (tgt := 9) hB (by decide) dX3_split_66 ?_
          exact zr_sub [1, 0, 4] rfl (hc4 (o12, v21, o20))

def fX3_wordAt (a1 : Int32) (I : zI) : Option (Int32) :=
  zb (
    zbs (
      if a1 < 0 then
        some (.inr ())
      else
      if (I 33 5) ≤ a1 then
        some (.inr ())
      else
      zg a1 120 (
      if (I 35 (zn a1)) = 1 then
        some (.inl 1)
      else
      some (.inr ()))) fun x5 : Unit =>
    some 0) fun x1 : Int32 =>
  if x1 = 0 then
    some (-1)
  else
  zg a1 120 (
  some (I 36 (zn a1)))
set_option maxHeartbeats 4000000 in
set_option maxRecDepth 100000 in
theorem mX3_wordAt {l : Launch} {D : va_G} {T : zT} {ad sK sV : Nat → Nat} (hi : zInj ad) (a1 : Int32)  (I : zI) (L : zL) : ∀ o, fX3_wordAt a1 I = some o → zMet l yX3_wordAt cX3_wordAt 3 (some .int) 0 0 D T ad sK sV [.ref (ad 33), .int a1] I L (em_i0 I L o) := by
  intro o ho
  refine zMet.of hi (by decide +kernel) (Nat.le_of_ble_eq_true rfl) (fun p e s m args below meth c hB => ?_)
  refine zr_top (emb := em_i0 I L) (t := fX3_wordAt a1 I) ?_ ho
  unfold fX3_wordAt
  refine zr_iload_n hB 1 rfl rfl dX3_wordAt_0 ?_
  refine zr_join (pcJ := 27) (fun x1 : Int32 => [(0, .ref (ad 33)), (1, .int a1)]) (fun x1 => [.int x1]) (fun x1 => I) (fun x1 => L) (fun x1 => ?_) (fun K4 hj2 => ?_)
  · refine zr_istore_n (lv' := [(2, .int x1), (0, .ref (ad 33)), (1, .int a1)]) hB rfl (by decide) rfl dX3_wordAt_27 ?_
    refine zr_iload_n hB 0 rfl rfl dX3_wordAt_28 ?_
    refine zr_ifeq (tgt := 41) hB (by decide) dX3_wordAt_29 ?_ ?_
    · refine zr_iconst (v := (-1)) hB (by decide) dX3_wordAt_41 ?_
      exact zr_iret hB rfl rfl dX3_wordAt_42
    · refine zr_aload_n hB 1 rfl rfl dX3_wordAt_32 ?_
      refine zr_get_X3 (w := 33) (k := 3) (v := .ref (ad 36)) hB rfl (by decide) rfl lf_X3_18 rfl dX3_wordAt_33 ?_
      refine zr_iload_n hB 2 rfl rfl dX3_wordAt_36 ?_
      refine zr_iaload hB zA_36 dX3_wordAt_37 ?_
      refine zr_goto (tgt := 42) hB (by decide) dX3_wordAt_38 ?_
      exact zr_iret hB rfl rfl dX3_wordAt_42
  · refine zr_joins (pcJ := 26) (fun x5 : Unit => [(0, .ref (ad 33)), (1, .int a1)]) (fun x5 => []) (fun x5 => I) (fun x5 => L) (fun x5 => ?_) (fun K8 hi7 hj6 => ?_)
    · refine zr_iconst (v := 0) hB (by decide) dX3_wordAt_26 ?_
      exact zr_sub [0, 1] rfl (hj2 0)
    · refine zr_iflt (tgt := 26) hB (by decide) dX3_wordAt_1 ?_ ?_
      · exact zr_sub [0, 1] rfl (hj6 ())
      · refine zr_iload_n hB 1 rfl rfl dX3_wordAt_4 ?_
        refine zr_aload_n hB 0 rfl rfl dX3_wordAt_5 ?_
        refine zr_get_X3 (w := 33) (k := 5) (v := .int (I 33 5)) hB rfl (by decide) rfl lf_X3_28 rfl dX3_wordAt_6 ?_
        refine zr_icmp_ge (tgt := 26) hB (by decide) dX3_wordAt_9 ?_ ?_
        · exact zr_sub [0, 1] rfl (hj6 ())
        · refine zr_aload_n hB 0 rfl rfl dX3_wordAt_12 ?_
          refine zr_get_X3 (w := 33) (k := 2) (v := .ref (ad 35)) hB rfl (by decide) rfl lf_X3_15 rfl dX3_wordAt_13 ?_
          refine zr_iload_n hB 1 rfl rfl dX3_wordAt_16 ?_
          refine zr_iaload hB zA_35 dX3_wordAt_17 ?_
          refine zr_iconst (v := 1) hB (by decide) dX3_wordAt_18 ?_
          refine zr_icmp_ne (tgt := 26) hB (by decide) dX3_wordAt_19 ?_ ?_
          · exact zr_sub [0, 1] rfl (hj6 ())
          · refine zr_iconst (v := 1) hB (by decide) dX3_wordAt_22 ?_
            refine zr_goto (tgt := 27) hB (by decide) dX3_wordAt_23 ?_
            refine hi7 _ _ _ _ _ _ ?_
            exact zr_sub [0, 1] rfl (hj2 1)

def fX4_addItem (a1 : Int32) (a2 : Int32) (a3 : Int32) (a4 : Int32) (I : zI) : Option (zI) :=
  if (I 38 2) < 30 then
    zl ((I 38 2) * 4) fun v1 =>
    zg v1 120 (
    zl (zup I 39 (zn v1) a1) fun J2 =>
    zg (v1 + 1) 120 (
    zl (zup J2 39 (zn (v1 + 1)) a2) fun J3 =>
    zg (v1 + 2) 120 (
    zl (zup J3 39 (zn (v1 + 2)) a3) fun J4 =>
    zg (v1 + 3) 120 (
    zl (zup J4 39 (zn (v1 + 3)) a4) fun J5 =>
    zl (zup J5 38 2 ((J5 38 2) + 1)) fun J6 =>
    some J6))))
  else
  some I
set_option maxHeartbeats 4000000 in
set_option maxRecDepth 100000 in
theorem mX4_addItem {l : Launch} {D : va_G} {T : zT} {ad sK sV : Nat → Nat} (hi : zInj ad) (a1 : Int32) (a2 : Int32) (a3 : Int32) (a4 : Int32)  (I : zI) (L : zL) : ∀ o, fX4_addItem a1 a2 a3 a4 I = some o → zMet l yX4_addItem cX4_addItem 6 none 0 0 D T ad sK sV [.ref (ad 38), .int a1, .int a2, .int a3, .int a4] I L (em_vI L o) := by
  intro o ho
  refine zMet.of hi (by decide +kernel) (Nat.le_of_ble_eq_true rfl) (fun p e s m args below meth c hB => ?_)
  refine zr_top (emb := em_vI L) (t := fX4_addItem a1 a2 a3 a4 I) ?_ ho
  unfold fX4_addItem
  refine zr_aload_n hB 0 rfl rfl dX4_addItem_0 ?_
  refine zr_get_X4 (w := 38) (k := 2) (v := .int (I 38 2)) hB rfl (by decide) rfl lf_X4_29 rfl dX4_addItem_1 ?_
  refine zr_bipush (v := 30) hB (by decide) dX4_addItem_4 ?_
  refine zr_icmp_lt (tgt := 10) hB (by decide) dX4_addItem_6 ?_ ?_
  · refine zr_aload_n hB 0 rfl rfl dX4_addItem_10 ?_
    refine zr_get_X4 (w := 38) (k := 2) (v := .int (I 38 2)) hB rfl (by decide) rfl lf_X4_29 rfl dX4_addItem_11 ?_
    refine zr_iconst (v := 4) hB (by decide) dX4_addItem_14 ?_
    refine zr_imul hB dX4_addItem_15 ?_
    refine zr_letI (fun v1 => ?_)
    refine zr_istore (lv' := [(5, .int v1), (0, .ref (ad 38)), (1, .int a1), (2, .int a2), (3, .int a3), (4, .int a4)]) hB (by decide) rfl dX4_addItem_16 ?_
    refine zr_aload_n hB 1 rfl rfl dX4_addItem_18 ?_
    refine zr_get_X4 (w := 38) (k := 1) (v := .ref (ad 39)) hB rfl (by decide) rfl lf_X4_18 rfl dX4_addItem_19 ?_
    refine zr_iload hB 0 rfl dX4_addItem_22 ?_
    refine zr_iload_n hB 2 rfl rfl dX4_addItem_24 ?_
    refine zr_iastore hB zA_39 dX4_addItem_25 ?_
    refine zr_letM (fun J2 => ?_)
    refine zr_aload_n hB 1 rfl rfl dX4_addItem_26 ?_
    refine zr_get_X4 (w := 38) (k := 1) (v := .ref (ad 39)) hB rfl (by decide) rfl lf_X4_18 rfl dX4_addItem_27 ?_
    refine zr_iload hB 0 rfl dX4_addItem_30 ?_
    refine zr_iconst (v := 1) hB (by decide) dX4_addItem_32 ?_
    refine zr_iadd hB dX4_addItem_33 ?_
    refine zr_iload_n hB 3 rfl rfl dX4_addItem_34 ?_
    refine zr_iastore hB zA_39 dX4_addItem_35 ?_
    refine zr_letM (fun J3 => ?_)
    refine zr_aload_n hB 1 rfl rfl dX4_addItem_36 ?_
    refine zr_get_X4 (w := 38) (k := 1) (v := .ref (ad 39)) hB rfl (by decide) rfl lf_X4_18 rfl dX4_addItem_37 ?_
    refine zr_iload hB 0 rfl dX4_addItem_40 ?_
    refine zr_iconst (v := 2) hB (by decide) dX4_addItem_42 ?_
    refine zr_iadd hB dX4_addItem_43 ?_
    refine zr_iload_n hB 4 rfl rfl dX4_addItem_44 ?_
    refine zr_iastore hB zA_39 dX4_addItem_45 ?_
    refine zr_letM (fun J4 => ?_)
    refine zr_aload_n hB 1 rfl rfl dX4_addItem_46 ?_
    refine zr_get_X4 (w := 38) (k := 1) (v := .ref (ad 39)) hB rfl (by decide) rfl lf_X4_18 rfl dX4_addItem_47 ?_
    refine zr_iload hB 0 rfl dX4_addItem_50 ?_
    refine zr_iconst (v := 3) hB (by decide) dX4_addItem_52 ?_
    refine zr_iadd hB dX4_addItem_53 ?_
    refine zr_iload hB 5 rfl dX4_addItem_54 ?_
    refine zr_iastore hB zA_39 dX4_addItem_56 ?_
    refine zr_letM (fun J5 => ?_)
    refine zr_aload_n hB 1 rfl rfl dX4_addItem_57 ?_
    refine zr_dup hB rfl dX4_addItem_58 ?_
    refine zr_get_X4 (w := 38) (k := 2) (v := .int (J5 38 2)) hB rfl (by decide) rfl lf_X4_29 rfl dX4_addItem_59 ?_
    refine zr_iconst (v := 1) hB (by decide) dX4_addItem_62 ?_
    refine zr_iadd hB dX4_addItem_63 ?_
    refine zr_put_X4 (w := 38) (k := 2) hB rfl (by decide) rfl rfl rfl lf_X4_29 rfl dX4_addItem_64 ?_
    refine zr_letM (fun J6 => ?_)
    exact zr_vret hB rfl rfl dX4_addItem_67
  · exact zr_vret hB rfl rfl dX4_addItem_9

def fX3_numberAt (a1 : Int32) (I : zI) : Option (Int32) :=
  zb (
    zbs (
      if a1 < 0 then
        some (.inr ())
      else
      if (I 33 5) ≤ a1 then
        some (.inr ())
      else
      zg a1 120 (
      if (I 35 (zn a1)) = 2 then
        some (.inl 1)
      else
      some (.inr ()))) fun x5 : Unit =>
    some 0) fun x1 : Int32 =>
  if x1 = 0 then
    some (-1)
  else
  zg a1 120 (
  some (I 36 (zn a1)))
set_option maxHeartbeats 4000000 in
set_option maxRecDepth 100000 in
theorem mX3_numberAt {l : Launch} {D : va_G} {T : zT} {ad sK sV : Nat → Nat} (hi : zInj ad) (a1 : Int32)  (I : zI) (L : zL) : ∀ o, fX3_numberAt a1 I = some o → zMet l yX3_numberAt cX3_numberAt 3 (some .int) 0 0 D T ad sK sV [.ref (ad 33), .int a1] I L (em_i0 I L o) := by
  intro o ho
  refine zMet.of hi (by decide +kernel) (Nat.le_of_ble_eq_true rfl) (fun p e s m args below meth c hB => ?_)
  refine zr_top (emb := em_i0 I L) (t := fX3_numberAt a1 I) ?_ ho
  unfold fX3_numberAt
  refine zr_iload_n hB 1 rfl rfl dX3_numberAt_0 ?_
  refine zr_join (pcJ := 27) (fun x1 : Int32 => [(0, .ref (ad 33)), (1, .int a1)]) (fun x1 => [.int x1]) (fun x1 => I) (fun x1 => L) (fun x1 => ?_) (fun K4 hj2 => ?_)
  · refine zr_istore_n (lv' := [(2, .int x1), (0, .ref (ad 33)), (1, .int a1)]) hB rfl (by decide) rfl dX3_numberAt_27 ?_
    refine zr_iload_n hB 0 rfl rfl dX3_numberAt_28 ?_
    refine zr_ifeq (tgt := 41) hB (by decide) dX3_numberAt_29 ?_ ?_
    · refine zr_iconst (v := (-1)) hB (by decide) dX3_numberAt_41 ?_
      exact zr_iret hB rfl rfl dX3_numberAt_42
    · refine zr_aload_n hB 1 rfl rfl dX3_numberAt_32 ?_
      refine zr_get_X3 (w := 33) (k := 3) (v := .ref (ad 36)) hB rfl (by decide) rfl lf_X3_18 rfl dX3_numberAt_33 ?_
      refine zr_iload_n hB 2 rfl rfl dX3_numberAt_36 ?_
      refine zr_iaload hB zA_36 dX3_numberAt_37 ?_
      refine zr_goto (tgt := 42) hB (by decide) dX3_numberAt_38 ?_
      exact zr_iret hB rfl rfl dX3_numberAt_42
  · refine zr_joins (pcJ := 26) (fun x5 : Unit => [(0, .ref (ad 33)), (1, .int a1)]) (fun x5 => []) (fun x5 => I) (fun x5 => L) (fun x5 => ?_) (fun K8 hi7 hj6 => ?_)
    · refine zr_iconst (v := 0) hB (by decide) dX3_numberAt_26 ?_
      exact zr_sub [0, 1] rfl (hj2 0)
    · refine zr_iflt (tgt := 26) hB (by decide) dX3_numberAt_1 ?_ ?_
      · exact zr_sub [0, 1] rfl (hj6 ())
      · refine zr_iload_n hB 1 rfl rfl dX3_numberAt_4 ?_
        refine zr_aload_n hB 0 rfl rfl dX3_numberAt_5 ?_
        refine zr_get_X3 (w := 33) (k := 5) (v := .int (I 33 5)) hB rfl (by decide) rfl lf_X3_28 rfl dX3_numberAt_6 ?_
        refine zr_icmp_ge (tgt := 26) hB (by decide) dX3_numberAt_9 ?_ ?_
        · exact zr_sub [0, 1] rfl (hj6 ())
        · refine zr_aload_n hB 0 rfl rfl dX3_numberAt_12 ?_
          refine zr_get_X3 (w := 33) (k := 2) (v := .ref (ad 35)) hB rfl (by decide) rfl lf_X3_15 rfl dX3_numberAt_13 ?_
          refine zr_iload_n hB 1 rfl rfl dX3_numberAt_16 ?_
          refine zr_iaload hB zA_35 dX3_numberAt_17 ?_
          refine zr_iconst (v := 2) hB (by decide) dX3_numberAt_18 ?_
          refine zr_icmp_ne (tgt := 26) hB (by decide) dX3_numberAt_19 ?_ ?_
          · exact zr_sub [0, 1] rfl (hj6 ())
          · refine zr_iconst (v := 1) hB (by decide) dX3_numberAt_22 ?_
            refine zr_goto (tgt := 27) hB (by decide) dX3_numberAt_23 ?_
            refine hi7 _ _ _ _ _ _ ?_
            exact zr_sub [0, 1] rfl (hj2 1)

def fX4_refuse (I : zI) : Option (zI) :=
  if (I 38 6) = (-1) then
    zl (zup I 38 6 (I 38 3)) fun J1 =>
    some J1
  else
  some I
set_option maxHeartbeats 4000000 in
set_option maxRecDepth 100000 in
theorem mX4_refuse {l : Launch} {D : va_G} {T : zT} {ad sK sV : Nat → Nat} (hi : zInj ad)   (I : zI) (L : zL) : ∀ o, fX4_refuse I = some o → zMet l yX4_refuse cX4_refuse 1 none 0 0 D T ad sK sV [.ref (ad 38)] I L (em_vI L o) := by
  intro o ho
  refine zMet.of hi (by decide +kernel) (Nat.le_of_ble_eq_true rfl) (fun p e s m args below meth c hB => ?_)
  refine zr_top (emb := em_vI L) (t := fX4_refuse I) ?_ ho
  unfold fX4_refuse
  refine zr_aload_n hB 0 rfl rfl dX4_refuse_0 ?_
  refine zr_get_X4 (w := 38) (k := 6) (v := .int (I 38 6)) hB rfl (by decide) rfl lf_X4_35 rfl dX4_refuse_1 ?_
  refine zr_iconst (v := (-1)) hB (by decide) dX4_refuse_4 ?_
  refine zr_icmp_ne (tgt := 16) hB (by decide) dX4_refuse_5 ?_ ?_
  · exact zr_vret hB rfl rfl dX4_refuse_16
  · refine zr_aload_n hB 0 rfl rfl dX4_refuse_8 ?_
    refine zr_aload_n hB 0 rfl rfl dX4_refuse_9 ?_
    refine zr_get_X4 (w := 38) (k := 3) (v := .int (I 38 3)) hB rfl (by decide) rfl lf_X4_32 rfl dX4_refuse_10 ?_
    refine zr_put_X4 (w := 38) (k := 6) hB rfl (by decide) rfl rfl rfl lf_X4_35 rfl dX4_refuse_13 ?_
    refine zr_letM (fun J1 => ?_)
    exact zr_vret hB rfl rfl dX4_refuse_16

def fX4_takeNumber (a1 : Int32) (a2 : Int32) (a3 : Int32) (I : zI) : Option (Int32 × zI) :=
  zb (fX3_numberAt (I 38 3) I) fun o2 =>
  zb (fX7_isWithin o2 a1 a2) fun o4 =>
  if o4 = 0 then
    zb (fX4_refuse I) fun o7 =>
    some (a1, o7)
  else
  if o2 = a3 then
    zb (fX4_refuse I) fun o11 =>
    some (a1, o11)
  else
  zl (zup I 38 3 ((I 38 3) + 1)) fun J8 =>
  some (o2, J8)
set_option maxHeartbeats 4000000 in
set_option maxRecDepth 100000 in
theorem mX4_takeNumber {l : Launch} {D : va_G} {T : zT} {ad sK sV : Nat → Nat} (hi : zInj ad) (a1 : Int32) (a2 : Int32) (a3 : Int32)  (I : zI) (L : zL) : ∀ o, fX4_takeNumber a1 a2 a3 I = some o → zMet l yX4_takeNumber cX4_takeNumber 5 (some .int) 1 22 D T ad sK sV [.ref (ad 38), .int a1, .int a2, .int a3] I L (em_iI L o) := by
  intro o ho
  refine zMet.of hi (by decide +kernel) (Nat.le_of_ble_eq_true rfl) (fun p e s m args below meth c hB => ?_)
  refine zr_top (emb := em_iI L) (t := fX4_takeNumber a1 a2 a3 I) ?_ ho
  unfold fX4_takeNumber
  refine zr_aload_n hB 0 rfl rfl dX4_takeNumber_0 ?_
  refine zr_get_X4 (w := 38) (k := 0) (v := .ref (ad 33)) hB rfl (by decide) rfl lf_X4_12 rfl dX4_takeNumber_1 ?_
  refine zr_aload_n hB 0 rfl rfl dX4_takeNumber_4 ?_
  refine zr_get_X4 (w := 38) (k := 3) (v := .int (I 38 3)) hB rfl (by decide) rfl lf_X4_32 rfl dX4_takeNumber_5 ?_
  refine zr_callV (st := []) (C := RX3) (As := [.int (I 38 3)]) (embc := em_i0 I L) hB (mX3_numberAt (sK := sK) (sV := sV) hi (I 38 3) I L) (zW_X3 rfl) rfl rfl lm_X4_92 q2_X3_numberAt q3_X3_numberAt q4_X3 q5_X3_numberAt qd_X3_numberAt (by decide) rfl rfl (Nat.le_of_ble_eq_true rfl) ⟨Nat.zero_le _, Nat.zero_le _⟩ dX4_takeNumber_8 (zr_ki0 (fun o2 => ?_))
  refine zr_istore (lv' := [(4, .int o2), (0, .ref (ad 38)), (1, .int a1), (2, .int a2), (3, .int a3)]) hB (by decide) rfl dX4_takeNumber_11 ?_
  refine zr_iload hB 0 rfl dX4_takeNumber_13 ?_
  refine zr_iload_n hB 2 rfl rfl dX4_takeNumber_15 ?_
  refine zr_iload_n hB 3 rfl rfl dX4_takeNumber_16 ?_
  refine zr_callN (st := []) (As := [.int o2, .int a1, .int a2]) (embc := em_i0 I L) hB (mX7_isWithin (sK := sK) (sV := sV) hi o2 a1 a2 I L) (fun h => h.2.2.2.2.2) q2_X7_isWithin q4_X7 q5_X7_isWithin qd_X7_isWithin (by decide) rfl rfl (Nat.le_of_ble_eq_true rfl) ⟨Nat.zero_le _, Nat.zero_le _⟩ dX4_takeNumber_17 (zr_ki0 (fun o4 => ?_))
  refine zr_ifeq (tgt := 29) hB (by decide) dX4_takeNumber_20 ?_ ?_
  · refine zr_aload_n hB 1 rfl rfl dX4_takeNumber_29 ?_
    refine zr_callV (st := []) (C := RX4) (As := []) (embc := em_vI L) hB (mX4_refuse (sK := sK) (sV := sV) hi  I L) (zW_X4 rfl) rfl rfl lm_X4_75 q2_X4_refuse q3_X4_refuse q4_X4 q5_X4_refuse qd_X4_refuse (by decide) rfl rfl (Nat.le_of_ble_eq_true rfl) ⟨Nat.zero_le _, Nat.zero_le _⟩ dX4_takeNumber_30 (zr_kvI (fun o7 => ?_))
    refine zr_iload_n hB 2 rfl rfl dX4_takeNumber_33 ?_
    exact zr_iret hB rfl rfl dX4_takeNumber_34
  · refine zr_iload hB 0 rfl dX4_takeNumber_23 ?_
    refine zr_iload_n hB 4 rfl rfl dX4_takeNumber_25 ?_
    refine zr_icmp_ne (tgt := 35) hB (by decide) dX4_takeNumber_26 ?_ ?_
    · refine zr_aload_n hB 1 rfl rfl dX4_takeNumber_35 ?_
      refine zr_dup hB rfl dX4_takeNumber_36 ?_
      refine zr_get_X4 (w := 38) (k := 3) (v := .int (I 38 3)) hB rfl (by decide) rfl lf_X4_32 rfl dX4_takeNumber_37 ?_
      refine zr_iconst (v := 1) hB (by decide) dX4_takeNumber_40 ?_
      refine zr_iadd hB dX4_takeNumber_41 ?_
      refine zr_put_X4 (w := 38) (k := 3) hB rfl (by decide) rfl rfl rfl lf_X4_32 rfl dX4_takeNumber_42 ?_
      refine zr_letM (fun J8 => ?_)
      refine zr_iload hB 0 rfl dX4_takeNumber_45 ?_
      exact zr_iret hB rfl rfl dX4_takeNumber_47
    · refine zr_aload_n hB 1 rfl rfl dX4_takeNumber_29 ?_
      refine zr_callV (st := []) (C := RX4) (As := []) (embc := em_vI L) hB (mX4_refuse (sK := sK) (sV := sV) hi  I L) (zW_X4 rfl) rfl rfl lm_X4_75 q2_X4_refuse q3_X4_refuse q4_X4 q5_X4_refuse qd_X4_refuse (by decide) rfl rfl (Nat.le_of_ble_eq_true rfl) ⟨Nat.zero_le _, Nat.zero_le _⟩ dX4_takeNumber_30 (zr_kvI (fun o11 => ?_))
      refine zr_iload_n hB 2 rfl rfl dX4_takeNumber_33 ?_
      exact zr_iret hB rfl rfl dX4_takeNumber_34

def fX4_parseDoor (a1 : Int32) (I : zI) : Option (zI) :=
  zl (zup I 38 3 ((I 38 3) + 1)) fun J1 =>
  zb (fX4_takeNumber 0 7 (-1) J1) fun o4 =>
  zb (fX4_takeNumber 0 7 o4.1 o4.2) fun o7 =>
  zb (fX4_addItem 2 o4.1 o7.1 a1 o7.2) fun o10 =>
  some o10
set_option maxHeartbeats 4000000 in
set_option maxRecDepth 100000 in
theorem mX4_parseDoor {l : Launch} {D : va_G} {T : zT} {ad sK sV : Nat → Nat} (hi : zInj ad) (a1 : Int32)  (I : zI) (L : zL) : ∀ o, fX4_parseDoor a1 I = some o → zMet l yX4_parseDoor cX4_parseDoor 4 none 2 46 D T ad sK sV [.ref (ad 38), .int a1] I L (em_vI L o) := by
  intro o ho
  refine zMet.of hi (by decide +kernel) (Nat.le_of_ble_eq_true rfl) (fun p e s m args below meth c hB => ?_)
  refine zr_top (emb := em_vI L) (t := fX4_parseDoor a1 I) ?_ ho
  unfold fX4_parseDoor
  refine zr_aload_n hB 0 rfl rfl dX4_parseDoor_0 ?_
  refine zr_dup hB rfl dX4_parseDoor_1 ?_
  refine zr_get_X4 (w := 38) (k := 3) (v := .int (I 38 3)) hB rfl (by decide) rfl lf_X4_32 rfl dX4_parseDoor_2 ?_
  refine zr_iconst (v := 1) hB (by decide) dX4_parseDoor_5 ?_
  refine zr_iadd hB dX4_parseDoor_6 ?_
  refine zr_put_X4 (w := 38) (k := 3) hB rfl (by decide) rfl rfl rfl lf_X4_32 rfl dX4_parseDoor_7 ?_
  refine zr_letM (fun J1 => ?_)
  refine zr_aload_n hB 0 rfl rfl dX4_parseDoor_10 ?_
  refine zr_iconst (v := 0) hB (by decide) dX4_parseDoor_11 ?_
  refine zr_bipush (v := 7) hB (by decide) dX4_parseDoor_12 ?_
  refine zr_iconst (v := (-1)) hB (by decide) dX4_parseDoor_14 ?_
  refine zr_callV (st := []) (C := RX4) (As := [.int 0, .int 7, .int (-1)]) (embc := em_iI L) hB (mX4_takeNumber (sK := sK) (sV := sV) hi 0 7 (-1) J1 L) (zW_X4 rfl) rfl rfl lm_X4_88 q2_X4_takeNumber q3_X4_takeNumber q4_X4 q5_X4_takeNumber qd_X4_takeNumber (by decide) rfl rfl (Nat.le_of_ble_eq_true rfl) ⟨Nat.zero_le _, Nat.zero_le _⟩ dX4_parseDoor_15 (zr_kiI (fun o4 => ?_))
  refine zr_istore_n (lv' := [(2, .int o4.1), (0, .ref (ad 38)), (1, .int a1)]) hB rfl (by decide) rfl dX4_parseDoor_18 ?_
  refine zr_aload_n hB 1 rfl rfl dX4_parseDoor_19 ?_
  refine zr_iconst (v := 0) hB (by decide) dX4_parseDoor_20 ?_
  refine zr_bipush (v := 7) hB (by decide) dX4_parseDoor_21 ?_
  refine zr_iload_n hB 0 rfl rfl dX4_parseDoor_23 ?_
  refine zr_callV (st := []) (C := RX4) (As := [.int 0, .int 7, .int o4.1]) (embc := em_iI L) hB (mX4_takeNumber (sK := sK) (sV := sV) hi 0 7 o4.1 o4.2 L) (zW_X4 rfl) rfl rfl lm_X4_88 q2_X4_takeNumber q3_X4_takeNumber q4_X4 q5_X4_takeNumber qd_X4_takeNumber (by decide) rfl rfl (Nat.le_of_ble_eq_true rfl) ⟨Nat.zero_le _, Nat.zero_le _⟩ dX4_parseDoor_24 (zr_kiI (fun o7 => ?_))
  refine zr_istore_n (lv' := [(3, .int o7.1), (2, .int o4.1), (0, .ref (ad 38)), (1, .int a1)]) hB rfl (by decide) rfl dX4_parseDoor_27 ?_
  refine zr_aload_n hB 2 rfl rfl dX4_parseDoor_28 ?_
  refine zr_iconst (v := 2) hB (by decide) dX4_parseDoor_29 ?_
  refine zr_iload_n hB 1 rfl rfl dX4_parseDoor_30 ?_
  refine zr_iload_n hB 0 rfl rfl dX4_parseDoor_31 ?_
  refine zr_iload_n hB 3 rfl rfl dX4_parseDoor_32 ?_
  refine zr_callV (st := []) (C := RX4) (As := [.int 2, .int o4.1, .int o7.1, .int a1]) (embc := em_vI L) hB (mX4_addItem (sK := sK) (sV := sV) hi 2 o4.1 o7.1 a1 o7.2 L) (zW_X4 rfl) rfl rfl lm_X4_84 q2_X4_addItem q3_X4_addItem q4_X4 q5_X4_addItem qd_X4_addItem (by decide) rfl rfl (Nat.le_of_ble_eq_true rfl) ⟨Nat.zero_le _, Nat.zero_le _⟩ dX4_parseDoor_33 (zr_kvI (fun o10 => ?_))
  exact zr_vret hB rfl rfl dX4_parseDoor_36

def fX4_takePerhaps (a1 : Int32) (a2 : Int32) (a3 : Int32) (a4 : Int32) (I : zI) : Option (Int32 × zI) :=
  zb (fX3_wordAt (I 38 3) I) fun o2 =>
  if o2 = a1 then
    zl (zup I 38 3 ((I 38 3) + 1)) fun J3 =>
    zb (fX4_takeNumber a2 a3 (-1) J3) fun o6 =>
    some (o6.1, o6.2)
  else
  some (a4, I)
set_option maxHeartbeats 4000000 in
set_option maxRecDepth 100000 in
theorem mX4_takePerhaps {l : Launch} {D : va_G} {T : zT} {ad sK sV : Nat → Nat} (hi : zInj ad) (a1 : Int32) (a2 : Int32) (a3 : Int32) (a4 : Int32)  (I : zI) (L : zL) : ∀ o, fX4_takePerhaps a1 a2 a3 a4 I = some o → zMet l yX4_takePerhaps cX4_takePerhaps 5 (some .int) 2 46 D T ad sK sV [.ref (ad 38), .int a1, .int a2, .int a3, .int a4] I L (em_iI L o) := by
  intro o ho
  refine zMet.of hi (by decide +kernel) (Nat.le_of_ble_eq_true rfl) (fun p e s m args below meth c hB => ?_)
  refine zr_top (emb := em_iI L) (t := fX4_takePerhaps a1 a2 a3 a4 I) ?_ ho
  unfold fX4_takePerhaps
  refine zr_aload_n hB 0 rfl rfl dX4_takePerhaps_0 ?_
  refine zr_get_X4 (w := 38) (k := 0) (v := .ref (ad 33)) hB rfl (by decide) rfl lf_X4_12 rfl dX4_takePerhaps_1 ?_
  refine zr_aload_n hB 0 rfl rfl dX4_takePerhaps_4 ?_
  refine zr_get_X4 (w := 38) (k := 3) (v := .int (I 38 3)) hB rfl (by decide) rfl lf_X4_32 rfl dX4_takePerhaps_5 ?_
  refine zr_callV (st := []) (C := RX3) (As := [.int (I 38 3)]) (embc := em_i0 I L) hB (mX3_wordAt (sK := sK) (sV := sV) hi (I 38 3) I L) (zW_X3 rfl) rfl rfl lm_X4_54 q2_X3_wordAt q3_X3_wordAt q4_X3 q5_X3_wordAt qd_X3_wordAt (by decide) rfl rfl (Nat.le_of_ble_eq_true rfl) ⟨Nat.zero_le _, Nat.zero_le _⟩ dX4_takePerhaps_8 (zr_ki0 (fun o2 => ?_))
  refine zr_iload_n hB 1 rfl rfl dX4_takePerhaps_11 ?_
  refine zr_icmp_eq (tgt := 18) hB (by decide) dX4_takePerhaps_12 ?_ ?_
  · refine zr_aload_n hB 0 rfl rfl dX4_takePerhaps_18 ?_
    refine zr_dup hB rfl dX4_takePerhaps_19 ?_
    refine zr_get_X4 (w := 38) (k := 3) (v := .int (I 38 3)) hB rfl (by decide) rfl lf_X4_32 rfl dX4_takePerhaps_20 ?_
    refine zr_iconst (v := 1) hB (by decide) dX4_takePerhaps_23 ?_
    refine zr_iadd hB dX4_takePerhaps_24 ?_
    refine zr_put_X4 (w := 38) (k := 3) hB rfl (by decide) rfl rfl rfl lf_X4_32 rfl dX4_takePerhaps_25 ?_
    refine zr_letM (fun J3 => ?_)
    refine zr_aload_n hB 0 rfl rfl dX4_takePerhaps_28 ?_
    refine zr_iload_n hB 2 rfl rfl dX4_takePerhaps_29 ?_
    refine zr_iload_n hB 3 rfl rfl dX4_takePerhaps_30 ?_
    refine zr_iconst (v := (-1)) hB (by decide) dX4_takePerhaps_31 ?_
    refine zr_callV (st := []) (C := RX4) (As := [.int a2, .int a3, .int (-1)]) (embc := em_iI L) hB (mX4_takeNumber (sK := sK) (sV := sV) hi a2 a3 (-1) J3 L) (zW_X4 rfl) rfl rfl lm_X4_88 q2_X4_takeNumber q3_X4_takeNumber q4_X4 q5_X4_takeNumber qd_X4_takeNumber (by decide) rfl rfl (Nat.le_of_ble_eq_true rfl) ⟨Nat.zero_le _, Nat.zero_le _⟩ dX4_takePerhaps_32 (zr_kiI (fun o6 => ?_))
    exact zr_iret hB rfl rfl dX4_takePerhaps_35
  · refine zr_iload hB 4 rfl dX4_takePerhaps_15 ?_
    exact zr_iret hB rfl rfl dX4_takePerhaps_17

def fX4_parseOne (I : zI) : Option (zI) :=
  if (I 38 5) < 4 then
    zl (zup I 38 5 ((I 38 5) + 1)) fun J1 =>
    zl (zup J1 38 3 ((J1 38 3) + 1)) fun J2 =>
    zb (fX4_takePerhaps 13 0 7 0 J2) fun o5 =>
    zb (fX4_takePerhaps 15 0 4 0 o5.2) fun o8 =>
    zb (fX4_takePerhaps 16 0 60 10 o8.2) fun o11 =>
    zb (fX4_addItem 1 ((o8.1 * 8) + o5.1) o11.1 0 o11.2) fun o14 =>
    some o14
  else
  zb (fX4_refuse I) fun o17 =>
  some o17
set_option maxHeartbeats 4000000 in
set_option maxRecDepth 100000 in
theorem mX4_parseOne {l : Launch} {D : va_G} {T : zT} {ad sK sV : Nat → Nat} (hi : zInj ad)   (I : zI) (L : zL) : ∀ o, fX4_parseOne I = some o → zMet l yX4_parseOne cX4_parseOne 4 none 3 70 D T ad sK sV [.ref (ad 38)] I L (em_vI L o) := by
  intro o ho
  refine zMet.of hi (by decide +kernel) (Nat.le_of_ble_eq_true rfl) (fun p e s m args below meth c hB => ?_)
  refine zr_top (emb := em_vI L) (t := fX4_parseOne I) ?_ ho
  unfold fX4_parseOne
  refine zr_aload_n hB 0 rfl rfl dX4_parseOne_0 ?_
  refine zr_get_X4 (w := 38) (k := 5) (v := .int (I 38 5)) hB rfl (by decide) rfl lf_X4_26 rfl dX4_parseOne_1 ?_
  refine zr_iconst (v := 4) hB (by decide) dX4_parseOne_4 ?_
  refine zr_icmp_lt (tgt := 13) hB (by decide) dX4_parseOne_5 ?_ ?_
  · refine zr_aload_n hB 0 rfl rfl dX4_parseOne_13 ?_
    refine zr_dup hB rfl dX4_parseOne_14 ?_
    refine zr_get_X4 (w := 38) (k := 5) (v := .int (I 38 5)) hB rfl (by decide) rfl lf_X4_26 rfl dX4_parseOne_15 ?_
    refine zr_iconst (v := 1) hB (by decide) dX4_parseOne_18 ?_
    refine zr_iadd hB dX4_parseOne_19 ?_
    refine zr_put_X4 (w := 38) (k := 5) hB rfl (by decide) rfl rfl rfl lf_X4_26 rfl dX4_parseOne_20 ?_
    refine zr_letM (fun J1 => ?_)
    refine zr_aload_n hB 0 rfl rfl dX4_parseOne_23 ?_
    refine zr_dup hB rfl dX4_parseOne_24 ?_
    refine zr_get_X4 (w := 38) (k := 3) (v := .int (J1 38 3)) hB rfl (by decide) rfl lf_X4_32 rfl dX4_parseOne_25 ?_
    refine zr_iconst (v := 1) hB (by decide) dX4_parseOne_28 ?_
    refine zr_iadd hB dX4_parseOne_29 ?_
    refine zr_put_X4 (w := 38) (k := 3) hB rfl (by decide) rfl rfl rfl lf_X4_32 rfl dX4_parseOne_30 ?_
    refine zr_letM (fun J2 => ?_)
    refine zr_aload_n hB 0 rfl rfl dX4_parseOne_33 ?_
    refine zr_bipush (v := 13) hB (by decide) dX4_parseOne_34 ?_
    refine zr_iconst (v := 0) hB (by decide) dX4_parseOne_36 ?_
    refine zr_bipush (v := 7) hB (by decide) dX4_parseOne_37 ?_
    refine zr_iconst (v := 0) hB (by decide) dX4_parseOne_39 ?_
    refine zr_callV (st := []) (C := RX4) (As := [.int 13, .int 0, .int 7, .int 0]) (embc := em_iI L) hB (mX4_takePerhaps (sK := sK) (sV := sV) hi 13 0 7 0 J2 L) (zW_X4 rfl) rfl rfl lm_X4_80 q2_X4_takePerhaps q3_X4_takePerhaps q4_X4 q5_X4_takePerhaps qd_X4_takePerhaps (by decide) rfl rfl (Nat.le_of_ble_eq_true rfl) ⟨Nat.zero_le _, Nat.zero_le _⟩ dX4_parseOne_40 (zr_kiI (fun o5 => ?_))
    refine zr_istore_n (lv' := [(1, .int o5.1), (0, .ref (ad 38))]) hB rfl (by decide) rfl dX4_parseOne_43 ?_
    refine zr_aload_n hB 1 rfl rfl dX4_parseOne_44 ?_
    refine zr_bipush (v := 15) hB (by decide) dX4_parseOne_45 ?_
    refine zr_iconst (v := 0) hB (by decide) dX4_parseOne_47 ?_
    refine zr_iconst (v := 4) hB (by decide) dX4_parseOne_48 ?_
    refine zr_iconst (v := 0) hB (by decide) dX4_parseOne_49 ?_
    refine zr_callV (st := []) (C := RX4) (As := [.int 15, .int 0, .int 4, .int 0]) (embc := em_iI L) hB (mX4_takePerhaps (sK := sK) (sV := sV) hi 15 0 4 0 o5.2 L) (zW_X4 rfl) rfl rfl lm_X4_80 q2_X4_takePerhaps q3_X4_takePerhaps q4_X4 q5_X4_takePerhaps qd_X4_takePerhaps (by decide) rfl rfl (Nat.le_of_ble_eq_true rfl) ⟨Nat.zero_le _, Nat.zero_le _⟩ dX4_parseOne_50 (zr_kiI (fun o8 => ?_))
    refine zr_istore_n (lv' := [(2, .int o8.1), (1, .int o5.1), (0, .ref (ad 38))]) hB rfl (by decide) rfl dX4_parseOne_53 ?_
    refine zr_aload_n hB 2 rfl rfl dX4_parseOne_54 ?_
    refine zr_bipush (v := 16) hB (by decide) dX4_parseOne_55 ?_
    refine zr_iconst (v := 0) hB (by decide) dX4_parseOne_57 ?_
    refine zr_bipush (v := 60) hB (by decide) dX4_parseOne_58 ?_
    refine zr_bipush (v := 10) hB (by decide) dX4_parseOne_60 ?_
    refine zr_callV (st := []) (C := RX4) (As := [.int 16, .int 0, .int 60, .int 10]) (embc := em_iI L) hB (mX4_takePerhaps (sK := sK) (sV := sV) hi 16 0 60 10 o8.2 L) (zW_X4 rfl) rfl rfl lm_X4_80 q2_X4_takePerhaps q3_X4_takePerhaps q4_X4 q5_X4_takePerhaps qd_X4_takePerhaps (by decide) rfl rfl (Nat.le_of_ble_eq_true rfl) ⟨Nat.zero_le _, Nat.zero_le _⟩ dX4_parseOne_62 (zr_kiI (fun o11 => ?_))
    refine zr_istore_n (lv' := [(3, .int o11.1), (2, .int o8.1), (1, .int o5.1), (0, .ref (ad 38))]) hB rfl (by decide) rfl dX4_parseOne_65 ?_
    refine zr_aload_n hB 3 rfl rfl dX4_parseOne_66 ?_
    refine zr_iconst (v := 1) hB (by decide) dX4_parseOne_67 ?_
    refine zr_iload_n hB 1 rfl rfl dX4_parseOne_68 ?_
    refine zr_bipush (v := 8) hB (by decide) dX4_parseOne_69 ?_
    refine zr_imul hB dX4_parseOne_71 ?_
    refine zr_iload_n hB 2 rfl rfl dX4_parseOne_72 ?_
    refine zr_iadd hB dX4_parseOne_73 ?_
    refine zr_iload_n hB 0 rfl rfl dX4_parseOne_74 ?_
    refine zr_iconst (v := 0) hB (by decide) dX4_parseOne_75 ?_
    refine zr_callV (st := []) (C := RX4) (As := [.int 1, .int ((o8.1 * 8) + o5.1), .int o11.1, .int 0]) (embc := em_vI L) hB (mX4_addItem (sK := sK) (sV := sV) hi 1 ((o8.1 * 8) + o5.1) o11.1 0 o11.2 L) (zW_X4 rfl) rfl rfl lm_X4_84 q2_X4_addItem q3_X4_addItem q4_X4 q5_X4_addItem qd_X4_addItem (by decide) rfl rfl (Nat.le_of_ble_eq_true rfl) ⟨Nat.zero_le _, Nat.zero_le _⟩ dX4_parseOne_76 (zr_kvI (fun o14 => ?_))
    exact zr_vret hB rfl rfl dX4_parseOne_79
  · refine zr_aload_n hB 0 rfl rfl dX4_parseOne_8 ?_
    refine zr_callV (st := []) (C := RX4) (As := []) (embc := em_vI L) hB (mX4_refuse (sK := sK) (sV := sV) hi  I L) (zW_X4 rfl) rfl rfl lm_X4_75 q2_X4_refuse q3_X4_refuse q4_X4 q5_X4_refuse qd_X4_refuse (by decide) rfl rfl (Nat.le_of_ble_eq_true rfl) ⟨Nat.zero_le _, Nat.zero_le _⟩ dX4_parseOne_9 (zr_kvI (fun o17 => ?_))
    exact zr_vret hB rfl rfl dX4_parseOne_12

def fX4_parseRule (a1 : Int32) (a2 : Int32) (I : zI) : Option (zI) :=
  zl (zup I 38 3 ((I 38 3) + 1)) fun J1 =>
  zb (fX4_takeNumber 0 a2 (-1) J1) fun o4 =>
  zb (fX4_addItem 3 a1 o4.1 0 o4.2) fun o7 =>
  some o7
set_option maxHeartbeats 4000000 in
set_option maxRecDepth 100000 in
theorem mX4_parseRule {l : Launch} {D : va_G} {T : zT} {ad sK sV : Nat → Nat} (hi : zInj ad) (a1 : Int32) (a2 : Int32)  (I : zI) (L : zL) : ∀ o, fX4_parseRule a1 a2 I = some o → zMet l yX4_parseRule cX4_parseRule 4 none 2 46 D T ad sK sV [.ref (ad 38), .int a1, .int a2] I L (em_vI L o) := by
  intro o ho
  refine zMet.of hi (by decide +kernel) (Nat.le_of_ble_eq_true rfl) (fun p e s m args below meth c hB => ?_)
  refine zr_top (emb := em_vI L) (t := fX4_parseRule a1 a2 I) ?_ ho
  unfold fX4_parseRule
  refine zr_aload_n hB 0 rfl rfl dX4_parseRule_0 ?_
  refine zr_dup hB rfl dX4_parseRule_1 ?_
  refine zr_get_X4 (w := 38) (k := 3) (v := .int (I 38 3)) hB rfl (by decide) rfl lf_X4_32 rfl dX4_parseRule_2 ?_
  refine zr_iconst (v := 1) hB (by decide) dX4_parseRule_5 ?_
  refine zr_iadd hB dX4_parseRule_6 ?_
  refine zr_put_X4 (w := 38) (k := 3) hB rfl (by decide) rfl rfl rfl lf_X4_32 rfl dX4_parseRule_7 ?_
  refine zr_letM (fun J1 => ?_)
  refine zr_aload_n hB 0 rfl rfl dX4_parseRule_10 ?_
  refine zr_iconst (v := 0) hB (by decide) dX4_parseRule_11 ?_
  refine zr_iload_n hB 2 rfl rfl dX4_parseRule_12 ?_
  refine zr_iconst (v := (-1)) hB (by decide) dX4_parseRule_13 ?_
  refine zr_callV (st := []) (C := RX4) (As := [.int 0, .int a2, .int (-1)]) (embc := em_iI L) hB (mX4_takeNumber (sK := sK) (sV := sV) hi 0 a2 (-1) J1 L) (zW_X4 rfl) rfl rfl lm_X4_88 q2_X4_takeNumber q3_X4_takeNumber q4_X4 q5_X4_takeNumber qd_X4_takeNumber (by decide) rfl rfl (Nat.le_of_ble_eq_true rfl) ⟨Nat.zero_le _, Nat.zero_le _⟩ dX4_parseRule_14 (zr_kiI (fun o4 => ?_))
  refine zr_istore_n (lv' := [(3, .int o4.1), (0, .ref (ad 38)), (1, .int a1), (2, .int a2)]) hB rfl (by decide) rfl dX4_parseRule_17 ?_
  refine zr_aload_n hB 1 rfl rfl dX4_parseRule_18 ?_
  refine zr_iconst (v := 3) hB (by decide) dX4_parseRule_19 ?_
  refine zr_iload_n hB 2 rfl rfl dX4_parseRule_20 ?_
  refine zr_iload_n hB 0 rfl rfl dX4_parseRule_21 ?_
  refine zr_iconst (v := 0) hB (by decide) dX4_parseRule_22 ?_
  refine zr_callV (st := []) (C := RX4) (As := [.int 3, .int a1, .int o4.1, .int 0]) (embc := em_vI L) hB (mX4_addItem (sK := sK) (sV := sV) hi 3 a1 o4.1 0 o4.2 L) (zW_X4 rfl) rfl rfl lm_X4_84 q2_X4_addItem q3_X4_addItem q4_X4 q5_X4_addItem qd_X4_addItem (by decide) rfl rfl (Nat.le_of_ble_eq_true rfl) ⟨Nat.zero_le _, Nat.zero_le _⟩ dX4_parseRule_23 (zr_kvI (fun o7 => ?_))
  exact zr_vret hB rfl rfl dX4_parseRule_26

def fX4_parseThing (a1 : Int32) (I : zI) : Option (zI) :=
  if (I 38 4) < 8 then
    zl (zup I 38 4 ((I 38 4) + 1)) fun J1 =>
    zl (zup J1 38 3 ((J1 38 3) + 1)) fun J2 =>
    zb (fX4_takePerhaps 13 0 7 0 J2) fun o5 =>
    zb (fX4_takePerhaps 14 1 60 8 o5.2) fun o8 =>
    zb (fX4_addItem 0 a1 o5.1 o8.1 o8.2) fun o11 =>
    some o11
  else
  zb (fX4_refuse I) fun o14 =>
  some o14
set_option maxHeartbeats 4000000 in
set_option maxRecDepth 100000 in
theorem mX4_parseThing {l : Launch} {D : va_G} {T : zT} {ad sK sV : Nat → Nat} (hi : zInj ad) (a1 : Int32)  (I : zI) (L : zL) : ∀ o, fX4_parseThing a1 I = some o → zMet l yX4_parseThing cX4_parseThing 4 none 3 70 D T ad sK sV [.ref (ad 38), .int a1] I L (em_vI L o) := by
  intro o ho
  refine zMet.of hi (by decide +kernel) (Nat.le_of_ble_eq_true rfl) (fun p e s m args below meth c hB => ?_)
  refine zr_top (emb := em_vI L) (t := fX4_parseThing a1 I) ?_ ho
  unfold fX4_parseThing
  refine zr_aload_n hB 0 rfl rfl dX4_parseThing_0 ?_
  refine zr_get_X4 (w := 38) (k := 4) (v := .int (I 38 4)) hB rfl (by decide) rfl lf_X4_22 rfl dX4_parseThing_1 ?_
  refine zr_bipush (v := 8) hB (by decide) dX4_parseThing_4 ?_
  refine zr_icmp_lt (tgt := 14) hB (by decide) dX4_parseThing_6 ?_ ?_
  · refine zr_aload_n hB 0 rfl rfl dX4_parseThing_14 ?_
    refine zr_dup hB rfl dX4_parseThing_15 ?_
    refine zr_get_X4 (w := 38) (k := 4) (v := .int (I 38 4)) hB rfl (by decide) rfl lf_X4_22 rfl dX4_parseThing_16 ?_
    refine zr_iconst (v := 1) hB (by decide) dX4_parseThing_19 ?_
    refine zr_iadd hB dX4_parseThing_20 ?_
    refine zr_put_X4 (w := 38) (k := 4) hB rfl (by decide) rfl rfl rfl lf_X4_22 rfl dX4_parseThing_21 ?_
    refine zr_letM (fun J1 => ?_)
    refine zr_aload_n hB 0 rfl rfl dX4_parseThing_24 ?_
    refine zr_dup hB rfl dX4_parseThing_25 ?_
    refine zr_get_X4 (w := 38) (k := 3) (v := .int (J1 38 3)) hB rfl (by decide) rfl lf_X4_32 rfl dX4_parseThing_26 ?_
    refine zr_iconst (v := 1) hB (by decide) dX4_parseThing_29 ?_
    refine zr_iadd hB dX4_parseThing_30 ?_
    refine zr_put_X4 (w := 38) (k := 3) hB rfl (by decide) rfl rfl rfl lf_X4_32 rfl dX4_parseThing_31 ?_
    refine zr_letM (fun J2 => ?_)
    refine zr_aload_n hB 0 rfl rfl dX4_parseThing_34 ?_
    refine zr_bipush (v := 13) hB (by decide) dX4_parseThing_35 ?_
    refine zr_iconst (v := 0) hB (by decide) dX4_parseThing_37 ?_
    refine zr_bipush (v := 7) hB (by decide) dX4_parseThing_38 ?_
    refine zr_iconst (v := 0) hB (by decide) dX4_parseThing_40 ?_
    refine zr_callV (st := []) (C := RX4) (As := [.int 13, .int 0, .int 7, .int 0]) (embc := em_iI L) hB (mX4_takePerhaps (sK := sK) (sV := sV) hi 13 0 7 0 J2 L) (zW_X4 rfl) rfl rfl lm_X4_80 q2_X4_takePerhaps q3_X4_takePerhaps q4_X4 q5_X4_takePerhaps qd_X4_takePerhaps (by decide) rfl rfl (Nat.le_of_ble_eq_true rfl) ⟨Nat.zero_le _, Nat.zero_le _⟩ dX4_parseThing_41 (zr_kiI (fun o5 => ?_))
    refine zr_istore_n (lv' := [(2, .int o5.1), (0, .ref (ad 38)), (1, .int a1)]) hB rfl (by decide) rfl dX4_parseThing_44 ?_
    refine zr_aload_n hB 1 rfl rfl dX4_parseThing_45 ?_
    refine zr_bipush (v := 14) hB (by decide) dX4_parseThing_46 ?_
    refine zr_iconst (v := 1) hB (by decide) dX4_parseThing_48 ?_
    refine zr_bipush (v := 60) hB (by decide) dX4_parseThing_49 ?_
    refine zr_bipush (v := 8) hB (by decide) dX4_parseThing_51 ?_
    refine zr_callV (st := []) (C := RX4) (As := [.int 14, .int 1, .int 60, .int 8]) (embc := em_iI L) hB (mX4_takePerhaps (sK := sK) (sV := sV) hi 14 1 60 8 o5.2 L) (zW_X4 rfl) rfl rfl lm_X4_80 q2_X4_takePerhaps q3_X4_takePerhaps q4_X4 q5_X4_takePerhaps qd_X4_takePerhaps (by decide) rfl rfl (Nat.le_of_ble_eq_true rfl) ⟨Nat.zero_le _, Nat.zero_le _⟩ dX4_parseThing_53 (zr_kiI (fun o8 => ?_))
    refine zr_istore_n (lv' := [(3, .int o8.1), (2, .int o5.1), (0, .ref (ad 38)), (1, .int a1)]) hB rfl (by decide) rfl dX4_parseThing_56 ?_
    refine zr_aload_n hB 2 rfl rfl dX4_parseThing_57 ?_
    refine zr_iconst (v := 0) hB (by decide) dX4_parseThing_58 ?_
    refine zr_iload_n hB 3 rfl rfl dX4_parseThing_59 ?_
    refine zr_iload_n hB 1 rfl rfl dX4_parseThing_60 ?_
    refine zr_iload_n hB 0 rfl rfl dX4_parseThing_61 ?_
    refine zr_callV (st := []) (C := RX4) (As := [.int 0, .int a1, .int o5.1, .int o8.1]) (embc := em_vI L) hB (mX4_addItem (sK := sK) (sV := sV) hi 0 a1 o5.1 o8.1 o8.2 L) (zW_X4 rfl) rfl rfl lm_X4_84 q2_X4_addItem q3_X4_addItem q4_X4 q5_X4_addItem qd_X4_addItem (by decide) rfl rfl (Nat.le_of_ble_eq_true rfl) ⟨Nat.zero_le _, Nat.zero_le _⟩ dX4_parseThing_62 (zr_kvI (fun o11 => ?_))
    exact zr_vret hB rfl rfl dX4_parseThing_65
  · refine zr_aload_n hB 0 rfl rfl dX4_parseThing_9 ?_
    refine zr_callV (st := []) (C := RX4) (As := []) (embc := em_vI L) hB (mX4_refuse (sK := sK) (sV := sV) hi  I L) (zW_X4 rfl) rfl rfl lm_X4_75 q2_X4_refuse q3_X4_refuse q4_X4 q5_X4_refuse qd_X4_refuse (by decide) rfl rfl (Nat.le_of_ble_eq_true rfl) ⟨Nat.zero_le _, Nat.zero_le _⟩ dX4_parseThing_10 (zr_kvI (fun o14 => ?_))
    exact zr_vret hB rfl rfl dX4_parseThing_13

def fX4_parseItem (I : zI) : Option (zI) :=
  zb (fX3_wordAt (I 38 3) I) fun o2 =>
  if o2 = 7 then
    zb (fX4_parseOne I) fun o5 =>
    some o5
  else
  if o2 = 8 then
    zb (fX4_parseDoor 1 I) fun o8 =>
    some o8
  else
  if o2 = 9 then
    zb (fX4_parseDoor 0 I) fun o11 =>
    some o11
  else
  if o2 = 10 then
    zb (fX4_parseRule 0 7 I) fun o14 =>
    some o14
  else
  if o2 = 11 then
    zb (fX4_parseRule 1 7 I) fun o17 =>
    some o17
  else
  if o2 = 12 then
    zb (fX4_parseRule 2 100 I) fun o20 =>
    some o20
  else
  zb (fX7_isKind o2) fun o22 =>
  if o22 = 0 then
    zb (fX4_refuse I) fun o25 =>
    some o25
  else
  zb (fX4_parseThing o2 I) fun o28 =>
  some o28
set_option maxHeartbeats 4000000 in
set_option maxRecDepth 100000 in
theorem mX4_parseItem {l : Launch} {D : va_G} {T : zT} {ad sK sV : Nat → Nat} (hi : zInj ad)   (I : zI) (L : zL) : ∀ o, fX4_parseItem I = some o → zMet l yX4_parseItem cX4_parseItem 2 none 4 93 D T ad sK sV [.ref (ad 38)] I L (em_vI L o) := by
  intro o ho
  refine zMet.of hi (by decide +kernel) (Nat.le_of_ble_eq_true rfl) (fun p e s m args below meth c hB => ?_)
  refine zr_top (emb := em_vI L) (t := fX4_parseItem I) ?_ ho
  unfold fX4_parseItem
  refine zr_aload_n hB 0 rfl rfl dX4_parseItem_0 ?_
  refine zr_get_X4 (w := 38) (k := 0) (v := .ref (ad 33)) hB rfl (by decide) rfl lf_X4_12 rfl dX4_parseItem_1 ?_
  refine zr_aload_n hB 0 rfl rfl dX4_parseItem_4 ?_
  refine zr_get_X4 (w := 38) (k := 3) (v := .int (I 38 3)) hB rfl (by decide) rfl lf_X4_32 rfl dX4_parseItem_5 ?_
  refine zr_callV (st := []) (C := RX3) (As := [.int (I 38 3)]) (embc := em_i0 I L) hB (mX3_wordAt (sK := sK) (sV := sV) hi (I 38 3) I L) (zW_X3 rfl) rfl rfl lm_X4_54 q2_X3_wordAt q3_X3_wordAt q4_X3 q5_X3_wordAt qd_X3_wordAt (by decide) rfl rfl (Nat.le_of_ble_eq_true rfl) ⟨Nat.zero_le _, Nat.zero_le _⟩ dX4_parseItem_8 (zr_ki0 (fun o2 => ?_))
  refine zr_istore_n (lv' := [(1, .int o2), (0, .ref (ad 38))]) hB rfl (by decide) rfl dX4_parseItem_11 ?_
  refine zr_iload_n hB 0 rfl rfl dX4_parseItem_12 ?_
  refine zr_case (fun q13_0 => ?_) (fun q13_0 => ?_)
  · refine zr_tsIn (tgt := 52) (v := 7) hB q13_0 dX4_parseItem_13 (by decide) (by decide) rfl (by decide) ?_
    refine zr_aload_n hB 1 rfl rfl dX4_parseItem_52 ?_
    refine zr_callV (st := []) (C := RX4) (As := []) (embc := em_vI L) hB (mX4_parseOne (sK := sK) (sV := sV) hi  I L) (zW_X4 rfl) rfl rfl lm_X4_57 q2_X4_parseOne q3_X4_parseOne q4_X4 q5_X4_parseOne qd_X4_parseOne (by decide) rfl rfl (Nat.le_of_ble_eq_true rfl) ⟨Nat.zero_le _, Nat.zero_le _⟩ dX4_parseItem_53 (zr_kvI (fun o5 => ?_))
    refine zr_goto (tgt := 124) hB (by decide) dX4_parseItem_56 ?_
    exact zr_vret hB rfl rfl dX4_parseItem_124
  · refine zr_case (fun q13_1 => ?_) (fun q13_1 => ?_)
    · refine zr_tsIn (tgt := 59) (v := 8) hB q13_1 dX4_parseItem_13 (by decide) (by decide) rfl (by decide) ?_
      refine zr_aload_n hB 1 rfl rfl dX4_parseItem_59 ?_
      refine zr_iconst (v := 1) hB (by decide) dX4_parseItem_60 ?_
      refine zr_callV (st := []) (C := RX4) (As := [.int 1]) (embc := em_vI L) hB (mX4_parseDoor (sK := sK) (sV := sV) hi 1 I L) (zW_X4 rfl) rfl rfl lm_X4_60 q2_X4_parseDoor q3_X4_parseDoor q4_X4 q5_X4_parseDoor qd_X4_parseDoor (by decide) rfl rfl (Nat.le_of_ble_eq_true rfl) ⟨Nat.zero_le _, Nat.zero_le _⟩ dX4_parseItem_61 (zr_kvI (fun o8 => ?_))
      refine zr_goto (tgt := 124) hB (by decide) dX4_parseItem_64 ?_
      exact zr_vret hB rfl rfl dX4_parseItem_124
    · refine zr_case (fun q13_2 => ?_) (fun q13_2 => ?_)
      · refine zr_tsIn (tgt := 67) (v := 9) hB q13_2 dX4_parseItem_13 (by decide) (by decide) rfl (by decide) ?_
        refine zr_aload_n hB 1 rfl rfl dX4_parseItem_67 ?_
        refine zr_iconst (v := 0) hB (by decide) dX4_parseItem_68 ?_
        refine zr_callV (st := []) (C := RX4) (As := [.int 0]) (embc := em_vI L) hB (mX4_parseDoor (sK := sK) (sV := sV) hi 0 I L) (zW_X4 rfl) rfl rfl lm_X4_60 q2_X4_parseDoor q3_X4_parseDoor q4_X4 q5_X4_parseDoor qd_X4_parseDoor (by decide) rfl rfl (Nat.le_of_ble_eq_true rfl) ⟨Nat.zero_le _, Nat.zero_le _⟩ dX4_parseItem_69 (zr_kvI (fun o11 => ?_))
        refine zr_goto (tgt := 124) hB (by decide) dX4_parseItem_72 ?_
        exact zr_vret hB rfl rfl dX4_parseItem_124
      · refine zr_case (fun q13_3 => ?_) (fun q13_3 => ?_)
        · refine zr_tsIn (tgt := 75) (v := 10) hB q13_3 dX4_parseItem_13 (by decide) (by decide) rfl (by decide) ?_
          refine zr_aload_n hB 1 rfl rfl dX4_parseItem_75 ?_
          refine zr_iconst (v := 0) hB (by decide) dX4_parseItem_76 ?_
          refine zr_bipush (v := 7) hB (by decide) dX4_parseItem_77 ?_
          refine zr_callV (st := []) (C := RX4) (As := [.int 0, .int 7]) (embc := em_vI L) hB (mX4_parseRule (sK := sK) (sV := sV) hi 0 7 I L) (zW_X4 rfl) rfl rfl lm_X4_64 q2_X4_parseRule q3_X4_parseRule q4_X4 q5_X4_parseRule qd_X4_parseRule (by decide) rfl rfl (Nat.le_of_ble_eq_true rfl) ⟨Nat.zero_le _, Nat.zero_le _⟩ dX4_parseItem_79 (zr_kvI (fun o14 => ?_))
          refine zr_goto (tgt := 124) hB (by decide) dX4_parseItem_82 ?_
          exact zr_vret hB rfl rfl dX4_parseItem_124
        · refine zr_case (fun q13_4 => ?_) (fun q13_4 => ?_)
          · refine zr_tsIn (tgt := 85) (v := 11) hB q13_4 dX4_parseItem_13 (by decide) (by decide) rfl (by decide) ?_
            refine zr_aload_n hB 1 rfl rfl dX4_parseItem_85 ?_
            refine zr_iconst (v := 1) hB (by decide) dX4_parseItem_86 ?_
            refine zr_bipush (v := 7) hB (by decide) dX4_parseItem_87 ?_
            refine zr_callV (st := []) (C := RX4) (As := [.int 1, .int 7]) (embc := em_vI L) hB (mX4_parseRule (sK := sK) (sV := sV) hi 1 7 I L) (zW_X4 rfl) rfl rfl lm_X4_64 q2_X4_parseRule q3_X4_parseRule q4_X4 q5_X4_parseRule qd_X4_parseRule (by decide) rfl rfl (Nat.le_of_ble_eq_true rfl) ⟨Nat.zero_le _, Nat.zero_le _⟩ dX4_parseItem_89 (zr_kvI (fun o17 => ?_))
            refine zr_goto (tgt := 124) hB (by decide) dX4_parseItem_92 ?_
            exact zr_vret hB rfl rfl dX4_parseItem_124
          · refine zr_case (fun q13_5 => ?_) (fun q13_5 => ?_)
            · refine zr_tsIn (tgt := 95) (v := 12) hB q13_5 dX4_parseItem_13 (by decide) (by decide) rfl (by decide) ?_
              refine zr_aload_n hB 1 rfl rfl dX4_parseItem_95 ?_
              refine zr_iconst (v := 2) hB (by decide) dX4_parseItem_96 ?_
              refine zr_bipush (v := 100) hB (by decide) dX4_parseItem_97 ?_
              refine zr_callV (st := []) (C := RX4) (As := [.int 2, .int 100]) (embc := em_vI L) hB (mX4_parseRule (sK := sK) (sV := sV) hi 2 100 I L) (zW_X4 rfl) rfl rfl lm_X4_64 q2_X4_parseRule q3_X4_parseRule q4_X4 q5_X4_parseRule qd_X4_parseRule (by decide) rfl rfl (Nat.le_of_ble_eq_true rfl) ⟨Nat.zero_le _, Nat.zero_le _⟩ dX4_parseItem_99 (zr_kvI (fun o20 => ?_))
              refine zr_goto (tgt := 124) hB (by decide) dX4_parseItem_102 ?_
              exact zr_vret hB rfl rfl dX4_parseItem_124
            · refine zr_tsOut (tgt := 105) hB dX4_parseItem_13 (by have h0 := lv_neT q13_0 (show (7 : Int32).toInt = 7 from rfl); have h1 := lv_neT q13_1 (show (8 : Int32).toInt = 8 from rfl); have h2 := lv_neT q13_2 (show (9 : Int32).toInt = 9 from rfl); have h3 := lv_neT q13_3 (show (10 : Int32).toInt = 10 from rfl); have h4 := lv_neT q13_4 (show (11 : Int32).toInt = 11 from rfl); have h5 := lv_neT q13_5 (show (12 : Int32).toInt = 12 from rfl); omega) (by decide) ?_
              refine zr_iload_n hB 0 rfl rfl dX4_parseItem_105 ?_
              refine zr_callN (st := []) (As := [.int o2]) (embc := em_i0 I L) hB (mX7_isKind (sK := sK) (sV := sV) hi o2 I L) (fun h => h.2.2.2.2.1) q2_X7_isKind q4_X7 q5_X7_isKind qd_X7_isKind (by decide) rfl rfl (Nat.le_of_ble_eq_true rfl) ⟨Nat.zero_le _, Nat.zero_le _⟩ dX4_parseItem_106 (zr_ki0 (fun o22 => ?_))
              refine zr_ifeq (tgt := 120) hB (by decide) dX4_parseItem_109 ?_ ?_
              · refine zr_aload_n hB 1 rfl rfl dX4_parseItem_120 ?_
                refine zr_callV (st := []) (C := RX4) (As := []) (embc := em_vI L) hB (mX4_refuse (sK := sK) (sV := sV) hi  I L) (zW_X4 rfl) rfl rfl lm_X4_75 q2_X4_refuse q3_X4_refuse q4_X4 q5_X4_refuse qd_X4_refuse (by decide) rfl rfl (Nat.le_of_ble_eq_true rfl) ⟨Nat.zero_le _, Nat.zero_le _⟩ dX4_parseItem_121 (zr_kvI (fun o25 => ?_))
                exact zr_vret hB rfl rfl dX4_parseItem_124
              · refine zr_aload_n hB 1 rfl rfl dX4_parseItem_112 ?_
                refine zr_iload_n hB 0 rfl rfl dX4_parseItem_113 ?_
                refine zr_callV (st := []) (C := RX4) (As := [.int o2]) (embc := em_vI L) hB (mX4_parseThing (sK := sK) (sV := sV) hi o2 I L) (zW_X4 rfl) rfl rfl lm_X4_72 q2_X4_parseThing q3_X4_parseThing q4_X4 q5_X4_parseThing qd_X4_parseThing (by decide) rfl rfl (Nat.le_of_ble_eq_true rfl) ⟨Nat.zero_le _, Nat.zero_le _⟩ dX4_parseItem_114 (zr_kvI (fun o28 => ?_))
                refine zr_goto (tgt := 124) hB (by decide) dX4_parseItem_117 ?_
                exact zr_vret hB rfl rfl dX4_parseItem_124

def fX4_takeSign (I : zI) : Option (zI) :=
  zb (fX3_kindAt (I 38 3) I) fun o2 =>
  if o2 = 3 then
    zl (zup I 38 3 ((I 38 3) + 1)) fun J3 =>
    some J3
  else
  zb (fX4_refuse I) fun o6 =>
  some o6
set_option maxHeartbeats 4000000 in
set_option maxRecDepth 100000 in
theorem mX4_takeSign {l : Launch} {D : va_G} {T : zT} {ad sK sV : Nat → Nat} (hi : zInj ad)   (I : zI) (L : zL) : ∀ o, fX4_takeSign I = some o → zMet l yX4_takeSign cX4_takeSign 1 none 1 21 D T ad sK sV [.ref (ad 38)] I L (em_vI L o) := by
  intro o ho
  refine zMet.of hi (by decide +kernel) (Nat.le_of_ble_eq_true rfl) (fun p e s m args below meth c hB => ?_)
  refine zr_top (emb := em_vI L) (t := fX4_takeSign I) ?_ ho
  unfold fX4_takeSign
  refine zr_aload_n hB 0 rfl rfl dX4_takeSign_0 ?_
  refine zr_get_X4 (w := 38) (k := 0) (v := .ref (ad 33)) hB rfl (by decide) rfl lf_X4_12 rfl dX4_takeSign_1 ?_
  refine zr_aload_n hB 0 rfl rfl dX4_takeSign_4 ?_
  refine zr_get_X4 (w := 38) (k := 3) (v := .int (I 38 3)) hB rfl (by decide) rfl lf_X4_32 rfl dX4_takeSign_5 ?_
  refine zr_callV (st := []) (C := RX3) (As := [.int (I 38 3)]) (embc := em_i0 I L) hB (mX3_kindAt (sK := sK) (sV := sV) hi (I 38 3) I L) (zW_X3 rfl) rfl rfl lm_X4_44 q2_X3_kindAt q3_X3_kindAt q4_X3 q5_X3_kindAt qd_X3_kindAt (by decide) rfl rfl (Nat.le_of_ble_eq_true rfl) ⟨Nat.zero_le _, Nat.zero_le _⟩ dX4_takeSign_8 (zr_ki0 (fun o2 => ?_))
  refine zr_iconst (v := 3) hB (by decide) dX4_takeSign_11 ?_
  refine zr_icmp_eq (tgt := 20) hB (by decide) dX4_takeSign_12 ?_ ?_
  · refine zr_aload_n hB 0 rfl rfl dX4_takeSign_20 ?_
    refine zr_dup hB rfl dX4_takeSign_21 ?_
    refine zr_get_X4 (w := 38) (k := 3) (v := .int (I 38 3)) hB rfl (by decide) rfl lf_X4_32 rfl dX4_takeSign_22 ?_
    refine zr_iconst (v := 1) hB (by decide) dX4_takeSign_25 ?_
    refine zr_iadd hB dX4_takeSign_26 ?_
    refine zr_put_X4 (w := 38) (k := 3) hB rfl (by decide) rfl rfl rfl lf_X4_32 rfl dX4_takeSign_27 ?_
    refine zr_letM (fun J3 => ?_)
    exact zr_vret hB rfl rfl dX4_takeSign_30
  · refine zr_aload_n hB 0 rfl rfl dX4_takeSign_15 ?_
    refine zr_callV (st := []) (C := RX4) (As := []) (embc := em_vI L) hB (mX4_refuse (sK := sK) (sV := sV) hi  I L) (zW_X4 rfl) rfl rfl lm_X4_75 q2_X4_refuse q3_X4_refuse q4_X4 q5_X4_refuse qd_X4_refuse (by decide) rfl rfl (Nat.le_of_ble_eq_true rfl) ⟨Nat.zero_le _, Nat.zero_le _⟩ dX4_takeSign_16 (zr_kvI (fun o6 => ?_))
    exact zr_vret hB rfl rfl dX4_takeSign_19

def gX4_parse_37  (s9 : Int32 × Int32 × zI) : Option ((Int32 × Int32 × zI) ⊕ (zI)) :=
  if 120 < s9.2.1 then
    some (.inr s9.2.2)
  else
  if s9.1 = 0 then
    some (.inr s9.2.2)
  else
  zb (fX4_parseItem s9.2.2) fun o20 =>
  zb (
    zbs (
      if (o20 38 6) = (-1) then
        zb (fX3_kindAt (o20 38 3) o20) fun o30 =>
        if o30 = 0 then
          some (.inr ())
        else
        some (.inl 1)
      else
      some (.inr ())) fun x25 : Unit =>
    some 0) fun x21 : Int32 =>
  if x21 = 0 then
    zl (s9.2.1 + 1) fun v31 =>
    some (.inl (x21, v31, o20))
  else
  zb (fX4_takeSign o20) fun o34 =>
  zl (s9.2.1 + 1) fun v35 =>
  some (.inl (x21, v35, o34))
def fX4_parse (n : Nat) (a1 : Int32) (a2 : Int32) (I : zI) : Option (Int32 × zI) :=
  zl (zup I 38 4 a1) fun J1 =>
  zl (zup J1 38 5 a2) fun J2 =>
  zl (zup J2 38 2 0) fun J3 =>
  zl (zup J3 38 3 0) fun J4 =>
  zl (zup J4 38 6 (-1)) fun J5 =>
  zb (fX3_split n J5) fun o8 =>
  zb (zit gX4_parse_37 n (1, 0, o8)) fun x10 : zI =>
  if (x10 38 6) = (-1) then
    some ((-1), x10)
  else
  zb (fX3_beginAt (x10 38 6) x10) fun o37 =>
  some (o37, x10)
set_option maxHeartbeats 4000000 in
set_option maxRecDepth 100000 in
theorem mX4_parse {l : Launch} {D : va_G} {T : zT} {ad sK sV : Nat → Nat} (hi : zInj ad) (n : Nat) (a1 : Int32) (a2 : Int32)  (I : zI) (L : zL) : ∀ o, fX4_parse n a1 a2 I = some o → zMet l yX4_parse cX4_parse 5 (some .int) 8 195 D T ad sK sV [.ref (ad 38), .int a1, .int a2] I L (em_iI L o) := by
  intro o ho
  refine zMet.of hi (by decide +kernel) (Nat.le_of_ble_eq_true rfl) (fun p e s m args below meth c hB => ?_)
  refine zr_top (emb := em_iI L) (t := fX4_parse n a1 a2 I) ?_ ho
  unfold fX4_parse
  refine zr_aload_n hB 0 rfl rfl dX4_parse_0 ?_
  refine zr_iload_n hB 1 rfl rfl dX4_parse_1 ?_
  refine zr_put_X4 (w := 38) (k := 4) hB rfl (by decide) rfl rfl rfl lf_X4_22 rfl dX4_parse_2 ?_
  refine zr_letM (fun J1 => ?_)
  refine zr_aload_n hB 0 rfl rfl dX4_parse_5 ?_
  refine zr_iload_n hB 2 rfl rfl dX4_parse_6 ?_
  refine zr_put_X4 (w := 38) (k := 5) hB rfl (by decide) rfl rfl rfl lf_X4_26 rfl dX4_parse_7 ?_
  refine zr_letM (fun J2 => ?_)
  refine zr_aload_n hB 0 rfl rfl dX4_parse_10 ?_
  refine zr_iconst (v := 0) hB (by decide) dX4_parse_11 ?_
  refine zr_put_X4 (w := 38) (k := 2) hB rfl (by decide) rfl rfl rfl lf_X4_29 rfl dX4_parse_12 ?_
  refine zr_letM (fun J3 => ?_)
  refine zr_aload_n hB 0 rfl rfl dX4_parse_15 ?_
  refine zr_iconst (v := 0) hB (by decide) dX4_parse_16 ?_
  refine zr_put_X4 (w := 38) (k := 3) hB rfl (by decide) rfl rfl rfl lf_X4_32 rfl dX4_parse_17 ?_
  refine zr_letM (fun J4 => ?_)
  refine zr_aload_n hB 0 rfl rfl dX4_parse_20 ?_
  refine zr_iconst (v := (-1)) hB (by decide) dX4_parse_21 ?_
  refine zr_put_X4 (w := 38) (k := 6) hB rfl (by decide) rfl rfl rfl lf_X4_35 rfl dX4_parse_22 ?_
  refine zr_letM (fun J5 => ?_)
  refine zr_aload_n hB 0 rfl rfl dX4_parse_25 ?_
  refine zr_get_X4 (w := 38) (k := 0) (v := .ref (ad 33)) hB rfl (by decide) rfl lf_X4_12 rfl dX4_parse_26 ?_
  refine zr_callV (st := []) (C := RX3) (As := []) (embc := em_vI L) hB (mX3_split (sK := sK) (sV := sV) hi n J5 L) (zW_X3 rfl) rfl rfl lm_X4_38 q2_X3_split q3_X3_split q4_X3 q5_X3_split qd_X3_split (by decide) rfl rfl (Nat.le_of_ble_eq_true rfl) ⟨Nat.zero_le _, Nat.zero_le _⟩ dX4_parse_29 (zr_kvI (fun o8 => ?_))
  refine zr_iconst (v := 1) hB (by decide) dX4_parse_32 ?_
  refine zr_istore_n (lv' := [(3, .int 1), (0, .ref (ad 38)), (1, .int a1), (2, .int a2)]) hB rfl (by decide) rfl dX4_parse_33 ?_
  refine zr_iconst (v := 0) hB (by decide) dX4_parse_34 ?_
  refine zr_istore (lv' := [(4, .int 0), (3, .int 1), (0, .ref (ad 38)), (1, .int a1), (2, .int a2)]) hB (by decide) rfl dX4_parse_35 ?_
  refine zr_join (pcJ := 94) (fun x10 : zI => [(0, .ref (ad 38))]) (fun _ => []) (fun x10 => x10) (fun x10 => L) (fun x10 => ?_) (fun K16 hx15 => ?_)
  · refine zr_aload_n hB 0 rfl rfl dX4_parse_94 ?_
    refine zr_get_X4 (w := 38) (k := 6) (v := .int (x10 38 6)) hB rfl (by decide) rfl lf_X4_35 rfl dX4_parse_95 ?_
    refine zr_iconst (v := (-1)) hB (by decide) dX4_parse_98 ?_
    refine zr_icmp_ne (tgt := 106) hB (by decide) dX4_parse_99 ?_ ?_
    · refine zr_aload_n hB 0 rfl rfl dX4_parse_106 ?_
      refine zr_get_X4 (w := 38) (k := 0) (v := .ref (ad 33)) hB rfl (by decide) rfl lf_X4_12 rfl dX4_parse_107 ?_
      refine zr_aload_n hB 0 rfl rfl dX4_parse_110 ?_
      refine zr_get_X4 (w := 38) (k := 6) (v := .int (x10 38 6)) hB rfl (by decide) rfl lf_X4_35 rfl dX4_parse_111 ?_
      refine zr_callV (st := []) (C := RX3) (As := [.int (x10 38 6)]) (embc := em_i0 x10 L) hB (mX3_beginAt (sK := sK) (sV := sV) hi (x10 38 6) x10 L) (zW_X3 rfl) rfl rfl lm_X4_51 q2_X3_beginAt q3_X3_beginAt q4_X3 q5_X3_beginAt qd_X3_beginAt (by decide) rfl rfl (Nat.le_of_ble_eq_true rfl) ⟨Nat.zero_le _, Nat.zero_le _⟩ dX4_parse_114 (zr_ki0 (fun o37 => ?_))
      exact zr_iret hB rfl rfl dX4_parse_117
    · refine zr_iconst (v := (-1)) hB (by decide) dX4_parse_102 ?_
      refine zr_goto (tgt := 117) hB (by decide) dX4_parse_103 ?_
      exact zr_iret hB rfl rfl dX4_parse_117
  · refine zr_sub (lv' := (fun s9 : Int32 × Int32 × zI => [(3, .int s9.1), (4, .int s9.2.1), (0, .ref (ad 38))]) (1, 0, o8)) [1, 0, 2] rfl (zr_loop (fun s9 : Int32 × Int32 × zI => [(3, .int s9.1), (4, .int s9.2.1), (0, .ref (ad 38))]) (fun s9 => s9.2.2) (fun s9 => L) (fun x10 : zI => [(0, .ref (ad 38))]) (fun x10 => x10) (fun x10 => L) hx15 (fun s9 K17 hc11 hx12 => ?_) n (1, 0, o8))
    unfold gX4_parse_37
    refine zr_iload hB 1 rfl dX4_parse_37 ?_
    refine zr_bipush (v := 120) hB (by decide) dX4_parse_39 ?_
    refine zr_icmp_gt (tgt := 94) hB (by decide) dX4_parse_41 ?_ ?_
    · exact zr_sub [2] rfl (hx12 s9.2.2)
    · refine zr_iload_n hB 0 rfl rfl dX4_parse_44 ?_
      refine zr_ifeq (tgt := 94) hB (by decide) dX4_parse_45 ?_ ?_
      · exact zr_sub [2] rfl (hx12 s9.2.2)
      · refine zr_aload_n hB 2 rfl rfl dX4_parse_48 ?_
        refine zr_callV (st := []) (C := RX4) (As := []) (embc := em_vI L) hB (mX4_parseItem (sK := sK) (sV := sV) hi  s9.2.2 L) (zW_X4 rfl) rfl rfl lm_X4_41 q2_X4_parseItem q3_X4_parseItem q4_X4 q5_X4_parseItem qd_X4_parseItem (by decide) rfl rfl (Nat.le_of_ble_eq_true rfl) ⟨Nat.zero_le _, Nat.zero_le _⟩ dX4_parse_49 (zr_kvI (fun o20 => ?_))
        refine zr_aload_n hB 2 rfl rfl dX4_parse_52 ?_
        refine zr_get_X4 (w := 38) (k := 6) (v := .int (o20 38 6)) hB rfl (by decide) rfl lf_X4_35 rfl dX4_parse_53 ?_
        refine zr_iconst (v := (-1)) hB (by decide) dX4_parse_56 ?_
        refine zr_join (pcJ := 79) (fun x21 : Int32 => [(4, .int s9.2.1), (0, .ref (ad 38))]) (fun x21 => [.int x21]) (fun x21 => o20) (fun x21 => L) (fun x21 => ?_) (fun K24 hj22 => ?_)
        · refine zr_istore_n (lv' := [(3, .int x21), (4, .int s9.2.1), (0, .ref (ad 38))]) hB rfl (by decide) rfl dX4_parse_79 ?_
          refine zr_iload_n hB 0 rfl rfl dX4_parse_80 ?_
          refine zr_ifeq (tgt := 88) hB (by decide) dX4_parse_81 ?_ ?_
          · refine zr_iincL hB (j := 1) (n := 1) (w := 1) rfl (by decide) (by decide) dX4_parse_88 (fun v31 lv' hlv => ?_)
            obtain rfl : lv' = [(4, .int v31), (3, .int x21), (0, .ref (ad 38))] := hlv.symm.trans rfl
            refine zr_goto (tgt := 37) hB (by decide) dX4_parse_91 ?_
            exact zr_sub [1, 0, 2] rfl (hc11 (x21, v31, o20))
          · refine zr_aload_n hB 2 rfl rfl dX4_parse_84 ?_
            refine zr_callV (st := []) (C := RX4) (As := []) (embc := em_vI L) hB (mX4_takeSign (sK := sK) (sV := sV) hi  o20 L) (zW_X4 rfl) rfl rfl lm_X4_48 q2_X4_takeSign q3_X4_takeSign q4_X4 q5_X4_takeSign qd_X4_takeSign (by decide) rfl rfl (Nat.le_of_ble_eq_true rfl) ⟨Nat.zero_le _, Nat.zero_le _⟩ dX4_parse_85 (zr_kvI (fun o34 => ?_))
            refine zr_iincL hB (j := 1) (n := 1) (w := 1) rfl (by decide) (by decide) dX4_parse_88 (fun v35 lv' hlv => ?_)
            obtain rfl : lv' = [(4, .int v35), (3, .int x21), (0, .ref (ad 38))] := hlv.symm.trans rfl
            refine zr_goto (tgt := 37) hB (by decide) dX4_parse_91 ?_
            exact zr_sub [1, 0, 2] rfl (hc11 (x21, v35, o34))
        · refine zr_joins (pcJ := 78) (fun x25 : Unit => [(4, .int s9.2.1), (0, .ref (ad 38))]) (fun x25 => []) (fun x25 => o20) (fun x25 => L) (fun x25 => ?_) (fun K28 hi27 hj26 => ?_)
          · refine zr_iconst (v := 0) hB (by decide) dX4_parse_78 ?_
            exact zr_sub [0, 1] rfl (hj22 0)
          · refine zr_icmp_ne (tgt := 78) hB (by decide) dX4_parse_57 ?_ ?_
            · exact zr_sub [1, 2] rfl (hj26 ())
            · refine zr_aload_n hB 2 rfl rfl dX4_parse_60 ?_
              refine zr_get_X4 (w := 38) (k := 0) (v := .ref (ad 33)) hB rfl (by decide) rfl lf_X4_12 rfl dX4_parse_61 ?_
              refine zr_aload_n hB 2 rfl rfl dX4_parse_64 ?_
              refine zr_get_X4 (w := 38) (k := 3) (v := .int (o20 38 3)) hB rfl (by decide) rfl lf_X4_32 rfl dX4_parse_65 ?_
              refine zr_callV (st := []) (C := RX3) (As := [.int (o20 38 3)]) (embc := em_i0 o20 L) hB (mX3_kindAt (sK := sK) (sV := sV) hi (o20 38 3) o20 L) (zW_X3 rfl) rfl rfl lm_X4_44 q2_X3_kindAt q3_X3_kindAt q4_X3 q5_X3_kindAt qd_X3_kindAt (by decide) rfl rfl (Nat.le_of_ble_eq_true rfl) ⟨Nat.zero_le _, Nat.zero_le _⟩ dX4_parse_68 (zr_ki0 (fun o30 => ?_))
              refine zr_ifeq (tgt := 78) hB (by decide) dX4_parse_71 ?_ ?_
              · exact zr_sub [1, 2] rfl (hj26 ())
              · refine zr_iconst (v := 1) hB (by decide) dX4_parse_74 ?_
                refine zr_goto (tgt := 79) hB (by decide) dX4_parse_75 ?_
                refine hi27 _ _ _ _ _ _ ?_
                exact zr_sub [1, 2] rfl (hj22 1)

def fX7_makeSo (a1 : Int32) (I : zI) : Option (zI) :=
  zg (a1 + 1) 120 (
  zl (I 39 (zn (a1 + 1))) fun v1 =>
  zg (a1 + 2) 120 (
  zl (I 39 (zn (a1 + 2))) fun v2 =>
  zg (a1 + 3) 120 (
  zl (I 39 (zn (a1 + 3))) fun v3 =>
  zg a1 120 (
  zl (I 39 (zn a1)) fun v4 =>
  if v4 = 0 then
    zb (fX6_addThing 1 v1 v2 v3 I) fun o7 =>
    some o7.2
  else
  if v4 = 1 then
    zb (fX6_addOne 1 v1 v2 I) fun o10 =>
    some o10.2
  else
  if v4 = 2 then
    if v3 = 1 then
      zb (fX6_setDoor 1 v1 v2 1 I) fun o16 =>
      some o16
    else
    zb (fX6_setDoor 1 v1 v2 0 I) fun o13 =>
    some o13
  else
  zb (fX6_setRule 1 v1 v2 I) fun o19 =>
  some o19.2))))
set_option maxHeartbeats 4000000 in
set_option maxRecDepth 100000 in
theorem mX7_makeSo {l : Launch} {D : va_G} {T : zT} {ad sK sV : Nat → Nat} (hi : zInj ad) (a1 : Int32)  (I : zI) (L : zL) : ∀ o, fX7_makeSo a1 I = some o → zMet l yX7_makeSo cX7_makeSo 5 none 1 23 D T ad sK sV [.ref (ad 0), .int a1] I L (em_vI L o) := by
  intro o ho
  refine zMet.of hi (by decide +kernel) (Nat.le_of_ble_eq_true rfl) (fun p e s m args below meth c hB => ?_)
  refine zr_top (emb := em_vI L) (t := fX7_makeSo a1 I) ?_ ho
  unfold fX7_makeSo
  refine zr_aload_n hB 0 rfl rfl dX7_makeSo_0 ?_
  refine zr_get_X7 (w := 0) (k := 5) (v := .ref (ad 38)) hB rfl (by decide) rfl lf_X7_32 rfl dX7_makeSo_1 ?_
  refine zr_get_X4 (w := 38) (k := 1) (v := .ref (ad 39)) hB rfl (by decide) rfl lf_X7_319 rfl dX7_makeSo_4 ?_
  refine zr_iload_n hB 1 rfl rfl dX7_makeSo_7 ?_
  refine zr_iconst (v := 1) hB (by decide) dX7_makeSo_8 ?_
  refine zr_iadd hB dX7_makeSo_9 ?_
  refine zr_iaload hB zA_39 dX7_makeSo_10 ?_
  refine zr_letI (fun v1 => ?_)
  refine zr_istore_n (lv' := [(2, .int v1), (0, .ref (ad 0)), (1, .int a1)]) hB rfl (by decide) rfl dX7_makeSo_11 ?_
  refine zr_aload_n hB 1 rfl rfl dX7_makeSo_12 ?_
  refine zr_get_X7 (w := 0) (k := 5) (v := .ref (ad 38)) hB rfl (by decide) rfl lf_X7_32 rfl dX7_makeSo_13 ?_
  refine zr_get_X4 (w := 38) (k := 1) (v := .ref (ad 39)) hB rfl (by decide) rfl lf_X7_319 rfl dX7_makeSo_16 ?_
  refine zr_iload_n hB 2 rfl rfl dX7_makeSo_19 ?_
  refine zr_iconst (v := 2) hB (by decide) dX7_makeSo_20 ?_
  refine zr_iadd hB dX7_makeSo_21 ?_
  refine zr_iaload hB zA_39 dX7_makeSo_22 ?_
  refine zr_letI (fun v2 => ?_)
  refine zr_istore_n (lv' := [(3, .int v2), (2, .int v1), (0, .ref (ad 0)), (1, .int a1)]) hB rfl (by decide) rfl dX7_makeSo_23 ?_
  refine zr_aload_n hB 2 rfl rfl dX7_makeSo_24 ?_
  refine zr_get_X7 (w := 0) (k := 5) (v := .ref (ad 38)) hB rfl (by decide) rfl lf_X7_32 rfl dX7_makeSo_25 ?_
  refine zr_get_X4 (w := 38) (k := 1) (v := .ref (ad 39)) hB rfl (by decide) rfl lf_X7_319 rfl dX7_makeSo_28 ?_
  refine zr_iload_n hB 3 rfl rfl dX7_makeSo_31 ?_
  refine zr_iconst (v := 3) hB (by decide) dX7_makeSo_32 ?_
  refine zr_iadd hB dX7_makeSo_33 ?_
  refine zr_iaload hB zA_39 dX7_makeSo_34 ?_
  refine zr_letI (fun v3 => ?_)
  refine zr_istore (lv' := [(4, .int v3), (3, .int v2), (2, .int v1), (0, .ref (ad 0)), (1, .int a1)]) hB (by decide) rfl dX7_makeSo_35 ?_
  refine zr_aload_n hB 3 rfl rfl dX7_makeSo_37 ?_
  refine zr_get_X7 (w := 0) (k := 5) (v := .ref (ad 38)) hB rfl (by decide) rfl lf_X7_32 rfl dX7_makeSo_38 ?_
  refine zr_get_X4 (w := 38) (k := 1) (v := .ref (ad 39)) hB rfl (by decide) rfl lf_X7_319 rfl dX7_makeSo_41 ?_
  refine zr_iload_n hB 4 rfl rfl dX7_makeSo_44 ?_
  refine zr_iaload hB zA_39 dX7_makeSo_45 ?_
  refine zr_letI (fun v4 => ?_)
  refine zr_case (fun q46_0 => ?_) (fun q46_0 => ?_)
  · refine zr_tsIn (tgt := 72) (v := 0) hB q46_0 dX7_makeSo_46 (by decide) (by decide) rfl (by decide) ?_
    refine zr_aload_n hB 3 rfl rfl dX7_makeSo_72 ?_
    refine zr_get_X7 (w := 0) (k := 0) (v := .ref (ad 1)) hB rfl (by decide) rfl lf_X7_12 rfl dX7_makeSo_73 ?_
    refine zr_iload_n hB 2 rfl rfl dX7_makeSo_76 ?_
    refine zr_iload_n hB 1 rfl rfl dX7_makeSo_77 ?_
    refine zr_iload hB 0 rfl dX7_makeSo_78 ?_
    refine zr_callV (st := []) (C := RX6) (As := [.int v1, .int v2, .int v3]) (embc := em_iI L) hB (mX6_addThing (sK := sK) (sV := sV) hi 1 v1 v2 v3 (Or.inl rfl) I L) (zW_X6 (Or.inl rfl)) rfl rfl lm_X7_80 q2_X6_addThing q3_X6_addThing q4_X6 q5_X6_addThing qd_X6_addThing (by decide) rfl rfl (Nat.le_of_ble_eq_true rfl) ⟨Nat.zero_le _, Nat.zero_le _⟩ dX7_makeSo_80 (zr_kiI (fun o7 => ?_))
    refine zr_pop hB rfl dX7_makeSo_83 ?_
    refine zr_goto (tgt := 133) hB (by decide) dX7_makeSo_84 ?_
    exact zr_vret hB rfl rfl dX7_makeSo_133
  · refine zr_case (fun q46_1 => ?_) (fun q46_1 => ?_)
    · refine zr_tsIn (tgt := 87) (v := 1) hB q46_1 dX7_makeSo_46 (by decide) (by decide) rfl (by decide) ?_
      refine zr_aload_n hB 3 rfl rfl dX7_makeSo_87 ?_
      refine zr_get_X7 (w := 0) (k := 0) (v := .ref (ad 1)) hB rfl (by decide) rfl lf_X7_12 rfl dX7_makeSo_88 ?_
      refine zr_iload_n hB 2 rfl rfl dX7_makeSo_91 ?_
      refine zr_iload_n hB 1 rfl rfl dX7_makeSo_92 ?_
      refine zr_callV (st := []) (C := RX6) (As := [.int v1, .int v2]) (embc := em_iI L) hB (mX6_addOne (sK := sK) (sV := sV) hi 1 v1 v2 (Or.inl rfl) I L) (zW_X6 (Or.inl rfl)) rfl rfl lm_X7_106 q2_X6_addOne q3_X6_addOne q4_X6 q5_X6_addOne qd_X6_addOne (by decide) rfl rfl (Nat.le_of_ble_eq_true rfl) ⟨Nat.zero_le _, Nat.zero_le _⟩ dX7_makeSo_93 (zr_kiI (fun o10 => ?_))
      refine zr_pop hB rfl dX7_makeSo_96 ?_
      refine zr_goto (tgt := 133) hB (by decide) dX7_makeSo_97 ?_
      exact zr_vret hB rfl rfl dX7_makeSo_133
    · refine zr_case (fun q46_2 => ?_) (fun q46_2 => ?_)
      · refine zr_tsIn (tgt := 100) (v := 2) hB q46_2 dX7_makeSo_46 (by decide) (by decide) rfl (by decide) ?_
        refine zr_aload_n hB 3 rfl rfl dX7_makeSo_100 ?_
        refine zr_get_X7 (w := 0) (k := 0) (v := .ref (ad 1)) hB rfl (by decide) rfl lf_X7_12 rfl dX7_makeSo_101 ?_
        refine zr_iload_n hB 2 rfl rfl dX7_makeSo_104 ?_
        refine zr_iload_n hB 1 rfl rfl dX7_makeSo_105 ?_
        refine zr_iload hB 0 rfl dX7_makeSo_106 ?_
        refine zr_iconst (v := 1) hB (by decide) dX7_makeSo_108 ?_
        refine zr_icmp_ne (tgt := 116) hB (by decide) dX7_makeSo_109 ?_ ?_
        · refine zr_iconst (v := 0) hB (by decide) dX7_makeSo_116 ?_
          refine zr_callV (st := []) (C := RX6) (As := [.int v1, .int v2, .int 0]) (embc := em_vI L) hB (mX6_setDoor (sK := sK) (sV := sV) hi 1 v1 v2 0 (Or.inl rfl) I L) (zW_X6 (Or.inl rfl)) rfl rfl lm_X7_64 q2_X6_setDoor q3_X6_setDoor q4_X6 q5_X6_setDoor qd_X6_setDoor (by decide) rfl rfl (Nat.le_of_ble_eq_true rfl) ⟨Nat.zero_le _, Nat.zero_le _⟩ dX7_makeSo_117 (zr_kvI (fun o13 => ?_))
          refine zr_goto (tgt := 133) hB (by decide) dX7_makeSo_120 ?_
          exact zr_vret hB rfl rfl dX7_makeSo_133
        · refine zr_iconst (v := 1) hB (by decide) dX7_makeSo_112 ?_
          refine zr_goto (tgt := 117) hB (by decide) dX7_makeSo_113 ?_
          refine zr_callV (st := []) (C := RX6) (As := [.int v1, .int v2, .int 1]) (embc := em_vI L) hB (mX6_setDoor (sK := sK) (sV := sV) hi 1 v1 v2 1 (Or.inl rfl) I L) (zW_X6 (Or.inl rfl)) rfl rfl lm_X7_64 q2_X6_setDoor q3_X6_setDoor q4_X6 q5_X6_setDoor qd_X6_setDoor (by decide) rfl rfl (Nat.le_of_ble_eq_true rfl) ⟨Nat.zero_le _, Nat.zero_le _⟩ dX7_makeSo_117 (zr_kvI (fun o16 => ?_))
          refine zr_goto (tgt := 133) hB (by decide) dX7_makeSo_120 ?_
          exact zr_vret hB rfl rfl dX7_makeSo_133
      · refine zr_tsOut (tgt := 123) hB dX7_makeSo_46 (by have h0 := lv_neT q46_0 (show (0 : Int32).toInt = 0 from rfl); have h1 := lv_neT q46_1 (show (1 : Int32).toInt = 1 from rfl); have h2 := lv_neT q46_2 (show (2 : Int32).toInt = 2 from rfl); omega) (by decide) ?_
        refine zr_aload_n hB 3 rfl rfl dX7_makeSo_123 ?_
        refine zr_get_X7 (w := 0) (k := 0) (v := .ref (ad 1)) hB rfl (by decide) rfl lf_X7_12 rfl dX7_makeSo_124 ?_
        refine zr_iload_n hB 2 rfl rfl dX7_makeSo_127 ?_
        refine zr_iload_n hB 1 rfl rfl dX7_makeSo_128 ?_
        refine zr_callV (st := []) (C := RX6) (As := [.int v1, .int v2]) (embc := em_iI L) hB (mX6_setRule (sK := sK) (sV := sV) hi 1 v1 v2 (Or.inl rfl) I L) (zW_X6 (Or.inl rfl)) rfl rfl lm_X7_68 q2_X6_setRule q3_X6_setRule q4_X6 q5_X6_setRule qd_X6_setRule (by decide) rfl rfl (Nat.le_of_ble_eq_true rfl) ⟨Nat.zero_le _, Nat.zero_le _⟩ dX7_makeSo_129 (zr_kiI (fun o19 => ?_))
        refine zr_pop hB rfl dX7_makeSo_132 ?_
        exact zr_vret hB rfl rfl dX7_makeSo_133

def gX7_text_44  (s5 : Int32 × zI) : Option ((Int32 × zI) ⊕ (zI)) :=
  if (s5.2 38 2) ≤ s5.1 then
    some (.inr s5.2)
  else
  zb (fX7_makeSo (s5.1 * 4) s5.2) fun o16 =>
  zl (s5.1 + 1) fun v17 =>
  some (.inl (v17, o16))
def fX7_text (n : Nat) (I : zI) : Option (Int32 × zI) :=
  zb (fX4_parse n (I 1 4) (I 1 8) I) fun o3 =>
  zl (zup o3.2 33 1 0) fun J4 =>
  if o3.1 = (-1) then
    zb (zit gX7_text_44 n (0, J4)) fun x6 : zI =>
    some (x6 38 2, x6)
  else
  some ((-1) - o3.1, J4)
set_option maxHeartbeats 4000000 in
set_option maxRecDepth 100000 in
theorem mX7_text {l : Launch} {D : va_G} {T : zT} {ad sK sV : Nat → Nat} (hi : zInj ad) (n : Nat)   (I : zI) (L : zL) : ∀ o, fX7_text n I = some o → zMet l yX7_text cX7_text 3 (some .int) 9 219 D T ad sK sV [.ref (ad 0)] I L (em_iI L o) := by
  intro o ho
  refine zMet.of hi (by decide +kernel) (Nat.le_of_ble_eq_true rfl) (fun p e s m args below meth c hB => ?_)
  refine zr_top (emb := em_iI L) (t := fX7_text n I) ?_ ho
  unfold fX7_text
  refine zr_aload_n hB 0 rfl rfl dX7_text_0 ?_
  refine zr_get_X7 (w := 0) (k := 5) (v := .ref (ad 38)) hB rfl (by decide) rfl lf_X7_32 rfl dX7_text_1 ?_
  refine zr_aload_n hB 0 rfl rfl dX7_text_4 ?_
  refine zr_get_X7 (w := 0) (k := 0) (v := .ref (ad 1)) hB rfl (by decide) rfl lf_X7_12 rfl dX7_text_5 ?_
  refine zr_get_X6 (w := 1) (k := 4) (v := .int (I 1 4)) hB (Or.inl rfl) (by decide) rfl lf_X7_75 rfl dX7_text_8 ?_
  refine zr_aload_n hB 0 rfl rfl dX7_text_11 ?_
  refine zr_get_X7 (w := 0) (k := 0) (v := .ref (ad 1)) hB rfl (by decide) rfl lf_X7_12 rfl dX7_text_12 ?_
  refine zr_get_X6 (w := 1) (k := 8) (v := .int (I 1 8)) hB (Or.inl rfl) (by decide) rfl lf_X7_103 rfl dX7_text_15 ?_
  refine zr_callV (st := []) (C := RX4) (As := [.int (I 1 4), .int (I 1 8)]) (embc := em_iI L) hB (mX4_parse (sK := sK) (sV := sV) hi n (I 1 4) (I 1 8) I L) (zW_X4 rfl) rfl rfl lm_X7_258 q2_X4_parse q3_X4_parse q4_X4 q5_X4_parse qd_X4_parse (by decide) rfl rfl (Nat.le_of_ble_eq_true rfl) ⟨Nat.zero_le _, Nat.zero_le _⟩ dX7_text_18 (zr_kiI (fun o3 => ?_))
  refine zr_istore_n (lv' := [(1, .int o3.1), (0, .ref (ad 0))]) hB rfl (by decide) rfl dX7_text_21 ?_
  refine zr_aload_n hB 1 rfl rfl dX7_text_22 ?_
  refine zr_get_X7 (w := 0) (k := 5) (v := .ref (ad 38)) hB rfl (by decide) rfl lf_X7_32 rfl dX7_text_23 ?_
  refine zr_get_X4 (w := 38) (k := 0) (v := .ref (ad 33)) hB rfl (by decide) rfl lf_X7_246 rfl dX7_text_26 ?_
  refine zr_iconst (v := 0) hB (by decide) dX7_text_29 ?_
  refine zr_put_X3 (w := 33) (k := 1) hB rfl (by decide) rfl rfl rfl lf_X7_250 rfl dX7_text_30 ?_
  refine zr_letM (fun J4 => ?_)
  refine zr_iload_n hB 0 rfl rfl dX7_text_33 ?_
  refine zr_iconst (v := (-1)) hB (by decide) dX7_text_34 ?_
  refine zr_icmp_eq (tgt := 42) hB (by decide) dX7_text_35 ?_ ?_
  · refine zr_iconst (v := 0) hB (by decide) dX7_text_42 ?_
    refine zr_istore_n (lv' := [(2, .int 0), (1, .int o3.1), (0, .ref (ad 0))]) hB rfl (by decide) rfl dX7_text_43 ?_
    refine zr_join (pcJ := 68) (fun x6 : zI => [(0, .ref (ad 0))]) (fun _ => []) (fun x6 => x6) (fun x6 => L) (fun x6 => ?_) (fun K12 hx11 => ?_)
    · refine zr_aload_n hB 0 rfl rfl dX7_text_68 ?_
      refine zr_get_X7 (w := 0) (k := 5) (v := .ref (ad 38)) hB rfl (by decide) rfl lf_X7_32 rfl dX7_text_69 ?_
      refine zr_get_X4 (w := 38) (k := 2) (v := .int (x6 38 2)) hB rfl (by decide) rfl lf_X7_261 rfl dX7_text_72 ?_
      exact zr_iret hB rfl rfl dX7_text_75
    · refine zr_sub (lv' := (fun s5 : Int32 × zI => [(2, .int s5.1), (0, .ref (ad 0))]) (0, J4)) [0, 2] rfl (zr_loop (fun s5 : Int32 × zI => [(2, .int s5.1), (0, .ref (ad 0))]) (fun s5 => s5.2) (fun s5 => L) (fun x6 : zI => [(0, .ref (ad 0))]) (fun x6 => x6) (fun x6 => L) hx11 (fun s5 K13 hc7 hx8 => ?_) n (0, J4))
      unfold gX7_text_44
      refine zr_iload_n hB 0 rfl rfl dX7_text_44 ?_
      refine zr_aload_n hB 1 rfl rfl dX7_text_45 ?_
      refine zr_get_X7 (w := 0) (k := 5) (v := .ref (ad 38)) hB rfl (by decide) rfl lf_X7_32 rfl dX7_text_46 ?_
      refine zr_get_X4 (w := 38) (k := 2) (v := .int (s5.2 38 2)) hB rfl (by decide) rfl lf_X7_261 rfl dX7_text_49 ?_
      refine zr_icmp_ge (tgt := 68) hB (by decide) dX7_text_52 ?_ ?_
      · exact zr_sub [1] rfl (hx8 s5.2)
      · refine zr_aload_n hB 1 rfl rfl dX7_text_55 ?_
        refine zr_iload_n hB 0 rfl rfl dX7_text_56 ?_
        refine zr_iconst (v := 4) hB (by decide) dX7_text_57 ?_
        refine zr_imul hB dX7_text_58 ?_
        refine zr_callV (st := []) (C := RX7) (As := [.int (s5.1 * 4)]) (embc := em_vI L) hB (mX7_makeSo (sK := sK) (sV := sV) hi (s5.1 * 4) s5.2 L) (zW_X7 rfl) rfl rfl lm_X7_264 q2_X7_makeSo q3_X7_makeSo q4_X7 q5_X7_makeSo qd_X7_makeSo (by decide) rfl rfl (Nat.le_of_ble_eq_true rfl) ⟨Nat.zero_le _, Nat.zero_le _⟩ dX7_text_59 (zr_kvI (fun o16 => ?_))
        refine zr_iincL hB (j := 0) (n := 1) (w := 1) rfl (by decide) (by decide) dX7_text_62 (fun v17 lv' hlv => ?_)
        obtain rfl : lv' = [(2, .int v17), (0, .ref (ad 0))] := hlv.symm.trans rfl
        refine zr_goto (tgt := 44) hB (by decide) dX7_text_65 ?_
        exact zr_sub [0, 1] rfl (hc7 (v17, o16))
  · refine zr_iconst (v := (-1)) hB (by decide) dX7_text_38 ?_
    refine zr_iload_n hB 0 rfl rfl dX7_text_39 ?_
    refine zr_isub hB dX7_text_40 ?_
    exact zr_iret hB rfl rfl dX7_text_41

def fX7_hold (a1 : Int32) (a2 : Int32) (I : zI) : Option (Int32 × zI) :=
  zb (fX7_isWithin a1 0 9) fun o2 =>
  if o2 = 0 then
    zb (fX7_finding (-1000001) I) fun o5 =>
    some (o5.1, o5.2)
  else
  if a2 = (-1) then
    zg a1 10 (
    zl (zup I 9 (zn a1) a2) fun J6 =>
    some (1, J6))
  else
  zb (fX7_isThing a2 I) fun o8 =>
  if o8 = 0 then
    zb (fX7_finding (-1000001) I) fun o12 =>
    some (o12.1, o12.2)
  else
  zg a1 10 (
  zl (zup I 9 (zn a1) a2) fun J9 =>
  some (1, J9))
set_option maxHeartbeats 4000000 in
set_option maxRecDepth 100000 in
theorem mX7_hold {l : Launch} {D : va_G} {T : zT} {ad sK sV : Nat → Nat} (hi : zInj ad) (a1 : Int32) (a2 : Int32)  (I : zI) (L : zL) : ∀ o, fX7_hold a1 a2 I = some o → zMet l yX7_hold cX7_hold 3 (some .int) 2 44 D T ad sK sV [.ref (ad 0), .int a1, .int a2] I L (em_iI L o) := by
  intro o ho
  refine zMet.of hi (by decide +kernel) (Nat.le_of_ble_eq_true rfl) (fun p e s m args below meth c hB => ?_)
  refine zr_top (emb := em_iI L) (t := fX7_hold a1 a2 I) ?_ ho
  unfold fX7_hold
  refine zr_iload_n hB 1 rfl rfl dX7_hold_0 ?_
  refine zr_iconst (v := 0) hB (by decide) dX7_hold_1 ?_
  refine zr_bipush (v := 9) hB (by decide) dX7_hold_2 ?_
  refine zr_callS (st := []) (As := [.int a1, .int 0, .int 9]) (embc := em_i0 I L) hB (mX7_isWithin (sK := sK) (sV := sV) hi a1 0 9 I L) lm_X7_51 q2_X7_isWithin q4_X7 q5_X7_isWithin qd_X7_isWithin (by decide) rfl rfl (Nat.le_of_ble_eq_true rfl) ⟨Nat.zero_le _, Nat.zero_le _⟩ dX7_hold_4 (zr_ki0 (fun o2 => ?_))
  refine zr_ifeq (tgt := 23) hB (by decide) dX7_hold_7 ?_ ?_
  · refine zr_aload_n hB 0 rfl rfl dX7_hold_23 ?_
    refine zr_ldc (v := (-1000001)) hB lk_X7_55 dX7_hold_24 ?_
    refine zr_callV (st := []) (C := RX7) (As := [.int (-1000001)]) (embc := em_iI L) hB (mX7_finding (sK := sK) (sV := sV) hi (-1000001) I L) (zW_X7 rfl) rfl rfl lm_X7_56 q2_X7_finding q3_X7_finding q4_X7 q5_X7_finding qd_X7_finding (by decide) rfl rfl (Nat.le_of_ble_eq_true rfl) ⟨Nat.zero_le _, Nat.zero_le _⟩ dX7_hold_26 (zr_kiI (fun o5 => ?_))
    exact zr_iret hB rfl rfl dX7_hold_29
  · refine zr_iload_n hB 2 rfl rfl dX7_hold_10 ?_
    refine zr_iconst (v := (-1)) hB (by decide) dX7_hold_11 ?_
    refine zr_icmp_eq (tgt := 30) hB (by decide) dX7_hold_12 ?_ ?_
    · refine zr_aload_n hB 0 rfl rfl dX7_hold_30 ?_
      refine zr_get_X7 (w := 0) (k := 0) (v := .ref (ad 1)) hB rfl (by decide) rfl lf_X7_12 rfl dX7_hold_31 ?_
      refine zr_get_X6 (w := 1) (k := 17) (v := .ref (ad 9)) hB (Or.inl rfl) (by decide) rfl lf_X7_268 rfl dX7_hold_34 ?_
      refine zr_iload_n hB 1 rfl rfl dX7_hold_37 ?_
      refine zr_iload_n hB 2 rfl rfl dX7_hold_38 ?_
      refine zr_iastore hB zA_9 dX7_hold_39 ?_
      refine zr_letM (fun J6 => ?_)
      refine zr_iconst (v := 1) hB (by decide) dX7_hold_40 ?_
      exact zr_iret hB rfl rfl dX7_hold_41
    · refine zr_aload_n hB 0 rfl rfl dX7_hold_15 ?_
      refine zr_iload_n hB 2 rfl rfl dX7_hold_16 ?_
      refine zr_callV (st := []) (C := RX7) (As := [.int a2]) (embc := em_i0 I L) hB (mX7_isThing (sK := sK) (sV := sV) hi a2 I L) (zW_X7 rfl) rfl rfl lm_X7_84 q2_X7_isThing q3_X7_isThing q4_X7 q5_X7_isThing qd_X7_isThing (by decide) rfl rfl (Nat.le_of_ble_eq_true rfl) ⟨Nat.zero_le _, Nat.zero_le _⟩ dX7_hold_17 (zr_ki0 (fun o8 => ?_))
      refine zr_ifne (tgt := 30) hB (by decide) dX7_hold_20 ?_ ?_
      · refine zr_aload_n hB 0 rfl rfl dX7_hold_30 ?_
        refine zr_get_X7 (w := 0) (k := 0) (v := .ref (ad 1)) hB rfl (by decide) rfl lf_X7_12 rfl dX7_hold_31 ?_
        refine zr_get_X6 (w := 1) (k := 17) (v := .ref (ad 9)) hB (Or.inl rfl) (by decide) rfl lf_X7_268 rfl dX7_hold_34 ?_
        refine zr_iload_n hB 1 rfl rfl dX7_hold_37 ?_
        refine zr_iload_n hB 2 rfl rfl dX7_hold_38 ?_
        refine zr_iastore hB zA_9 dX7_hold_39 ?_
        refine zr_letM (fun J9 => ?_)
        refine zr_iconst (v := 1) hB (by decide) dX7_hold_40 ?_
        exact zr_iret hB rfl rfl dX7_hold_41
      · refine zr_aload_n hB 0 rfl rfl dX7_hold_23 ?_
        refine zr_ldc (v := (-1000001)) hB lk_X7_55 dX7_hold_24 ?_
        refine zr_callV (st := []) (C := RX7) (As := [.int (-1000001)]) (embc := em_iI L) hB (mX7_finding (sK := sK) (sV := sV) hi (-1000001) I L) (zW_X7 rfl) rfl rfl lm_X7_56 q2_X7_finding q3_X7_finding q4_X7 q5_X7_finding qd_X7_finding (by decide) rfl rfl (Nat.le_of_ble_eq_true rfl) ⟨Nat.zero_le _, Nat.zero_le _⟩ dX7_hold_26 (zr_kiI (fun o12 => ?_))
        exact zr_iret hB rfl rfl dX7_hold_29

def fX0_kindAbove (a1 : Int32) : Option (Int32) :=
  if a1 = 2 then
    some 1
  else
  if a1 = 3 then
    some 2
  else
  if a1 = 4 then
    some 0
  else
  if a1 = 5 then
    some 4
  else
  some 0
set_option maxHeartbeats 4000000 in
set_option maxRecDepth 100000 in
theorem mX0_kindAbove {l : Launch} {D : va_G} {T : zT} {ad sK sV : Nat → Nat} (hi : zInj ad) (a1 : Int32)  (I : zI) (L : zL) : ∀ o, fX0_kindAbove a1 = some o → zMet l yX0_kindAbove cX0_kindAbove 1 (some .int) 0 0 D T ad sK sV [.int a1] I L (em_i0 I L o) := by
  intro o ho
  refine zMet.of hi (by decide +kernel) (Nat.le_of_ble_eq_true rfl) (fun p e s m args below meth c hB => ?_)
  refine zr_top (emb := em_i0 I L) (t := fX0_kindAbove a1) ?_ ho
  unfold fX0_kindAbove
  refine zr_iload_n hB 0 rfl rfl dX0_kindAbove_0 ?_
  refine zr_case (fun q1_0 => ?_) (fun q1_0 => ?_)
  · refine zr_tsIn (tgt := 32) (v := 2) hB q1_0 dX0_kindAbove_1 (by decide) (by decide) rfl (by decide) ?_
    refine zr_iconst (v := 1) hB (by decide) dX0_kindAbove_32 ?_
    exact zr_iret hB rfl rfl dX0_kindAbove_33
  · refine zr_case (fun q1_1 => ?_) (fun q1_1 => ?_)
    · refine zr_tsIn (tgt := 34) (v := 3) hB q1_1 dX0_kindAbove_1 (by decide) (by decide) rfl (by decide) ?_
      refine zr_iconst (v := 2) hB (by decide) dX0_kindAbove_34 ?_
      exact zr_iret hB rfl rfl dX0_kindAbove_35
    · refine zr_case (fun q1_2 => ?_) (fun q1_2 => ?_)
      · refine zr_tsIn (tgt := 38) (v := 4) hB q1_2 dX0_kindAbove_1 (by decide) (by decide) rfl (by decide) ?_
        refine zr_iconst (v := 0) hB (by decide) dX0_kindAbove_38 ?_
        exact zr_iret hB rfl rfl dX0_kindAbove_39
      · refine zr_case (fun q1_3 => ?_) (fun q1_3 => ?_)
        · refine zr_tsIn (tgt := 36) (v := 5) hB q1_3 dX0_kindAbove_1 (by decide) (by decide) rfl (by decide) ?_
          refine zr_iconst (v := 4) hB (by decide) dX0_kindAbove_36 ?_
          exact zr_iret hB rfl rfl dX0_kindAbove_37
        · refine zr_tsOut (tgt := 38) hB dX0_kindAbove_1 (by have h0 := lv_neT q1_0 (show (2 : Int32).toInt = 2 from rfl); have h1 := lv_neT q1_1 (show (3 : Int32).toInt = 3 from rfl); have h2 := lv_neT q1_2 (show (4 : Int32).toInt = 4 from rfl); have h3 := lv_neT q1_3 (show (5 : Int32).toInt = 5 from rfl); omega) (by decide) ?_
          refine zr_iconst (v := 0) hB (by decide) dX0_kindAbove_38 ?_
          exact zr_iret hB rfl rfl dX0_kindAbove_39

def gX0_isUnder_4 (a2 : Int32) (s1 : Int32 × Int32) : Option ((Int32 × Int32) ⊕ (Int32)) :=
  if 7 ≤ s1.2 then
    some (.inr s1.1)
  else
  if s1.1 = a2 then
    some (.inr s1.1)
  else
  if s1.1 = 0 then
    some (.inr s1.1)
  else
  zb (fX0_kindAbove s1.1) fun o11 =>
  zl (s1.2 + 1) fun v12 =>
  some (.inl (o11, v12))
def fX0_isUnder (n : Nat) (a1 : Int32) (a2 : Int32) : Option (Int32) :=
  zb (zit (gX0_isUnder_4 a2) n (a1, 0)) fun x2 : Int32 =>
  if x2 = a2 then
    some 1
  else
  some 0
set_option maxHeartbeats 4000000 in
set_option maxRecDepth 100000 in
theorem mX0_isUnder {l : Launch} {D : va_G} {T : zT} {ad sK sV : Nat → Nat} (hi : zInj ad) (n : Nat) (a1 : Int32) (a2 : Int32)  (I : zI) (L : zL) : ∀ o, fX0_isUnder n a1 a2 = some o → zMet l yX0_isUnder cX0_isUnder 4 (some .boolean) 1 20 D T ad sK sV [.int a1, .int a2] I L (em_i0 I L o) := by
  intro o ho
  refine zMet.of hi (by decide +kernel) (Nat.le_of_ble_eq_true rfl) (fun p e s m args below meth c hB => ?_)
  refine zr_top (emb := em_i0 I L) (t := fX0_isUnder n a1 a2) ?_ ho
  unfold fX0_isUnder
  refine zr_iload_n hB 0 rfl rfl dX0_isUnder_0 ?_
  refine zr_istore_n (lv' := [(2, .int a1), (0, .int a1), (1, .int a2)]) hB rfl (by decide) rfl dX0_isUnder_1 ?_
  refine zr_iconst (v := 0) hB (by decide) dX0_isUnder_2 ?_
  refine zr_istore_n (lv' := [(3, .int 0), (2, .int a1), (0, .int a1), (1, .int a2)]) hB rfl (by decide) rfl dX0_isUnder_3 ?_
  refine zr_join (pcJ := 30) (fun x2 : Int32 => [(2, .int x2), (1, .int a2)]) (fun _ => []) (fun x2 => I) (fun x2 => L) (fun x2 => ?_) (fun K8 hx7 => ?_)
  · refine zr_iload_n hB 0 rfl rfl dX0_isUnder_30 ?_
    refine zr_iload_n hB 1 rfl rfl dX0_isUnder_31 ?_
    refine zr_icmp_ne (tgt := 39) hB (by decide) dX0_isUnder_32 ?_ ?_
    · refine zr_iconst (v := 0) hB (by decide) dX0_isUnder_39 ?_
      exact zr_zretC (by decide) hB rfl rfl dX0_isUnder_40
    · refine zr_iconst (v := 1) hB (by decide) dX0_isUnder_35 ?_
      refine zr_goto (tgt := 40) hB (by decide) dX0_isUnder_36 ?_
      exact zr_zretC (by decide) hB rfl rfl dX0_isUnder_40
  · refine zr_sub (lv' := (fun s1 : Int32 × Int32 => [(2, .int s1.1), (3, .int s1.2), (1, .int a2)]) (a1, 0)) [1, 0, 3] rfl (zr_loop (fun s1 : Int32 × Int32 => [(2, .int s1.1), (3, .int s1.2), (1, .int a2)]) (fun s1 => I) (fun s1 => L) (fun x2 : Int32 => [(2, .int x2), (1, .int a2)]) (fun x2 => I) (fun x2 => L) hx7 (fun s1 K9 hc3 hx4 => ?_) n (a1, 0))
    unfold gX0_isUnder_4
    refine zr_iload_n hB 1 rfl rfl dX0_isUnder_4 ?_
    refine zr_bipush (v := 7) hB (by decide) dX0_isUnder_5 ?_
    refine zr_icmp_ge (tgt := 30) hB (by decide) dX0_isUnder_7 ?_ ?_
    · exact zr_sub [0, 2] rfl (hx4 s1.1)
    · refine zr_iload_n hB 0 rfl rfl dX0_isUnder_10 ?_
      refine zr_iload_n hB 2 rfl rfl dX0_isUnder_11 ?_
      refine zr_icmp_eq (tgt := 30) hB (by decide) dX0_isUnder_12 ?_ ?_
      · exact zr_sub [0, 2] rfl (hx4 s1.1)
      · refine zr_iload_n hB 0 rfl rfl dX0_isUnder_15 ?_
        refine zr_ifeq (tgt := 30) hB (by decide) dX0_isUnder_16 ?_ ?_
        · exact zr_sub [0, 2] rfl (hx4 s1.1)
        · refine zr_iload_n hB 0 rfl rfl dX0_isUnder_19 ?_
          refine zr_callS (st := []) (As := [.int s1.1]) (embc := em_i0 I L) hB (mX0_kindAbove (sK := sK) (sV := sV) hi s1.1 I L) lm_X0_9 q2_X0_kindAbove q4_X0 q5_X0_kindAbove qd_X0_kindAbove (by decide) rfl rfl (Nat.le_of_ble_eq_true rfl) ⟨Nat.zero_le _, Nat.zero_le _⟩ dX0_isUnder_20 (zr_ki0 (fun o11 => ?_))
          refine zr_istore_n (lv' := [(2, .int o11), (3, .int s1.2), (1, .int a2)]) hB rfl (by decide) rfl dX0_isUnder_23 ?_
          refine zr_iincL hB (j := 1) (n := 1) (w := 1) rfl (by decide) (by decide) dX0_isUnder_24 (fun v12 lv' hlv => ?_)
          obtain rfl : lv' = [(3, .int v12), (2, .int o11), (1, .int a2)] := hlv.symm.trans rfl
          refine zr_goto (tgt := 4) hB (by decide) dX0_isUnder_27 ?_
          exact zr_sub [1, 0, 2] rfl (hc3 (o11, v12))

def fX7_as (n : Nat) (a1 : Int32) (a2 : Int32) (I : zI) : Option (Int32 × zI) :=
  zb (fX7_isWithin a1 0 9) fun o2 =>
  if o2 = 0 then
    zb (fX7_finding (-1000001) I) fun o5 =>
    some (o5.1, o5.2)
  else
  zb (fX7_isKind a2) fun o7 =>
  if o7 = 0 then
    zb (fX7_finding (-1000001) I) fun o21 =>
    some (o21.1, o21.2)
  else
  zg a1 10 (
  zl (I 9 (zn a1)) fun v8 =>
  zb (fX7_isThing v8 I) fun o10 =>
  if o10 = 0 then
    zb (fX7_finding (-1000006) I) fun o18 =>
    some (o18.1, o18.2)
  else
  zg v8 8 (
  zb (fX0_isUnder n (I 3 (zn v8)) a2) fun o12 =>
  if o12 = 0 then
    zb (fX7_finding (-1000003) I) fun o15 =>
    some (o15.1, o15.2)
  else
  some (v8, I)))
set_option maxHeartbeats 4000000 in
set_option maxRecDepth 100000 in
theorem mX7_as {l : Launch} {D : va_G} {T : zT} {ad sK sV : Nat → Nat} (hi : zInj ad) (n : Nat) (a1 : Int32) (a2 : Int32)  (I : zI) (L : zL) : ∀ o, fX7_as n a1 a2 I = some o → zMet l yX7_as cX7_as 4 (some .int) 2 44 D T ad sK sV [.ref (ad 0), .int a1, .int a2] I L (em_iI L o) := by
  intro o ho
  refine zMet.of hi (by decide +kernel) (Nat.le_of_ble_eq_true rfl) (fun p e s m args below meth c hB => ?_)
  refine zr_top (emb := em_iI L) (t := fX7_as n a1 a2 I) ?_ ho
  unfold fX7_as
  refine zr_iload_n hB 1 rfl rfl dX7_as_0 ?_
  refine zr_iconst (v := 0) hB (by decide) dX7_as_1 ?_
  refine zr_bipush (v := 9) hB (by decide) dX7_as_2 ?_
  refine zr_callS (st := []) (As := [.int a1, .int 0, .int 9]) (embc := em_i0 I L) hB (mX7_isWithin (sK := sK) (sV := sV) hi a1 0 9 I L) lm_X7_51 q2_X7_isWithin q4_X7 q5_X7_isWithin qd_X7_isWithin (by decide) rfl rfl (Nat.le_of_ble_eq_true rfl) ⟨Nat.zero_le _, Nat.zero_le _⟩ dX7_as_4 (zr_ki0 (fun o2 => ?_))
  refine zr_ifeq (tgt := 17) hB (by decide) dX7_as_7 ?_ ?_
  · refine zr_aload_n hB 0 rfl rfl dX7_as_17 ?_
    refine zr_ldc (v := (-1000001)) hB lk_X7_55 dX7_as_18 ?_
    refine zr_callV (st := []) (C := RX7) (As := [.int (-1000001)]) (embc := em_iI L) hB (mX7_finding (sK := sK) (sV := sV) hi (-1000001) I L) (zW_X7 rfl) rfl rfl lm_X7_56 q2_X7_finding q3_X7_finding q4_X7 q5_X7_finding qd_X7_finding (by decide) rfl rfl (Nat.le_of_ble_eq_true rfl) ⟨Nat.zero_le _, Nat.zero_le _⟩ dX7_as_20 (zr_kiI (fun o5 => ?_))
    exact zr_iret hB rfl rfl dX7_as_23
  · refine zr_iload_n hB 2 rfl rfl dX7_as_10 ?_
    refine zr_callS (st := []) (As := [.int a2]) (embc := em_i0 I L) hB (mX7_isKind (sK := sK) (sV := sV) hi a2 I L) lm_X7_72 q2_X7_isKind q4_X7 q5_X7_isKind qd_X7_isKind (by decide) rfl rfl (Nat.le_of_ble_eq_true rfl) ⟨Nat.zero_le _, Nat.zero_le _⟩ dX7_as_11 (zr_ki0 (fun o7 => ?_))
    refine zr_ifne (tgt := 24) hB (by decide) dX7_as_14 ?_ ?_
    · refine zr_aload_n hB 0 rfl rfl dX7_as_24 ?_
      refine zr_get_X7 (w := 0) (k := 0) (v := .ref (ad 1)) hB rfl (by decide) rfl lf_X7_12 rfl dX7_as_25 ?_
      refine zr_get_X6 (w := 1) (k := 17) (v := .ref (ad 9)) hB (Or.inl rfl) (by decide) rfl lf_X7_268 rfl dX7_as_28 ?_
      refine zr_iload_n hB 1 rfl rfl dX7_as_31 ?_
      refine zr_iaload hB zA_9 dX7_as_32 ?_
      refine zr_letI (fun v8 => ?_)
      refine zr_istore_n (lv' := [(3, .int v8), (0, .ref (ad 0)), (1, .int a1), (2, .int a2)]) hB rfl (by decide) rfl dX7_as_33 ?_
      refine zr_aload_n hB 1 rfl rfl dX7_as_34 ?_
      refine zr_iload_n hB 0 rfl rfl dX7_as_35 ?_
      refine zr_callV (st := []) (C := RX7) (As := [.int v8]) (embc := em_i0 I L) hB (mX7_isThing (sK := sK) (sV := sV) hi v8 I L) (zW_X7 rfl) rfl rfl lm_X7_84 q2_X7_isThing q3_X7_isThing q4_X7 q5_X7_isThing qd_X7_isThing (by decide) rfl rfl (Nat.le_of_ble_eq_true rfl) ⟨Nat.zero_le _, Nat.zero_le _⟩ dX7_as_36 (zr_ki0 (fun o10 => ?_))
      refine zr_ifne (tgt := 50) hB (by decide) dX7_as_39 ?_ ?_
      · refine zr_aload_n hB 1 rfl rfl dX7_as_50 ?_
        refine zr_get_X7 (w := 0) (k := 0) (v := .ref (ad 1)) hB rfl (by decide) rfl lf_X7_12 rfl dX7_as_51 ?_
        refine zr_get_X6 (w := 1) (k := 5) (v := .ref (ad 3)) hB (Or.inl rfl) (by decide) rfl lf_X7_219 rfl dX7_as_54 ?_
        refine zr_iload_n hB 0 rfl rfl dX7_as_57 ?_
        refine zr_iaload hB zA_3 dX7_as_58 ?_
        refine zr_iload_n hB 3 rfl rfl dX7_as_59 ?_
        refine zr_callS (st := []) (As := [.int (I 3 (zn v8)), .int a2]) (embc := em_i0 I L) hB (mX0_isUnder (sK := sK) (sV := sV) hi n (I 3 (zn v8)) a2 I L) lm_X7_272 q2_X0_isUnder q4_X0 q5_X0_isUnder qd_X0_isUnder (by decide) rfl rfl (Nat.le_of_ble_eq_true rfl) ⟨Nat.zero_le _, Nat.zero_le _⟩ dX7_as_60 (zr_ki0 (fun o12 => ?_))
        refine zr_ifeq (tgt := 70) hB (by decide) dX7_as_63 ?_ ?_
        · refine zr_aload_n hB 1 rfl rfl dX7_as_70 ?_
          refine zr_ldcw (v := (-1000003)) hB lk_X7_277 dX7_as_71 ?_
          refine zr_callV (st := []) (C := RX7) (As := [.int (-1000003)]) (embc := em_iI L) hB (mX7_finding (sK := sK) (sV := sV) hi (-1000003) I L) (zW_X7 rfl) rfl rfl lm_X7_56 q2_X7_finding q3_X7_finding q4_X7 q5_X7_finding qd_X7_finding (by decide) rfl rfl (Nat.le_of_ble_eq_true rfl) ⟨Nat.zero_le _, Nat.zero_le _⟩ dX7_as_74 (zr_kiI (fun o15 => ?_))
          exact zr_iret hB rfl rfl dX7_as_77
        · refine zr_iload_n hB 0 rfl rfl dX7_as_66 ?_
          refine zr_goto (tgt := 77) hB (by decide) dX7_as_67 ?_
          exact zr_iret hB rfl rfl dX7_as_77
      · refine zr_aload_n hB 1 rfl rfl dX7_as_42 ?_
        refine zr_ldcw (v := (-1000006)) hB lk_X7_271 dX7_as_43 ?_
        refine zr_callV (st := []) (C := RX7) (As := [.int (-1000006)]) (embc := em_iI L) hB (mX7_finding (sK := sK) (sV := sV) hi (-1000006) I L) (zW_X7 rfl) rfl rfl lm_X7_56 q2_X7_finding q3_X7_finding q4_X7 q5_X7_finding qd_X7_finding (by decide) rfl rfl (Nat.le_of_ble_eq_true rfl) ⟨Nat.zero_le _, Nat.zero_le _⟩ dX7_as_46 (zr_kiI (fun o18 => ?_))
        exact zr_iret hB rfl rfl dX7_as_49
    · refine zr_aload_n hB 0 rfl rfl dX7_as_17 ?_
      refine zr_ldc (v := (-1000001)) hB lk_X7_55 dX7_as_18 ?_
      refine zr_callV (st := []) (C := RX7) (As := [.int (-1000001)]) (embc := em_iI L) hB (mX7_finding (sK := sK) (sV := sV) hi (-1000001) I L) (zW_X7 rfl) rfl rfl lm_X7_56 q2_X7_finding q3_X7_finding q4_X7 q5_X7_finding qd_X7_finding (by decide) rfl rfl (Nat.le_of_ble_eq_true rfl) ⟨Nat.zero_le _, Nat.zero_le _⟩ dX7_as_20 (zr_kiI (fun o21 => ?_))
      exact zr_iret hB rfl rfl dX7_as_23

def fX2_renew (w : Nat) (a1 : Int32) (a2 : Int32) (I : zI) : Option (zI) :=
  zl (zup I w 0 a1) fun J1 =>
  if a1 = 0 then
    zl (zup J1 w 1 0) fun J4 =>
    zl (zfill J4 (w + 1) 40 0) fun J5 =>
    some J5
  else
  zl (zup J1 w 1 a2) fun J2 =>
  zl (zfill J2 (w + 1) 40 0) fun J3 =>
  some J3
set_option maxHeartbeats 4000000 in
set_option maxRecDepth 100000 in
theorem mX2_renew {l : Launch} {D : va_G} {T : zT} {ad sK sV : Nat → Nat} (hi : zInj ad) (w : Nat) (a1 : Int32) (a2 : Int32) (hw : zO_X2 w) (I : zI) (L : zL) : ∀ o, fX2_renew w a1 a2 I = some o → zMet l yX2_renew cX2_renew 3 none 1 25 D T ad sK sV [.ref (ad w), .int a1, .int a2] I L (em_vI L o) := by
  intro o ho
  refine zMet.of hi (by decide +kernel) (Nat.le_of_ble_eq_true rfl) (fun p e s m args below meth c hB => ?_)
  refine zr_top (emb := em_vI L) (t := fX2_renew w a1 a2 I) ?_ ho
  unfold fX2_renew
  refine zr_aload_n hB 0 rfl rfl dX2_renew_0 ?_
  refine zr_iload_n hB 1 rfl rfl dX2_renew_1 ?_
  refine zr_put_X2 (w := w) (k := 0) hB hw (by decide) rfl rfl rfl lf_X2_15 rfl dX2_renew_2 ?_
  refine zr_letM (fun J1 => ?_)
  refine zr_aload_n hB 0 rfl rfl dX2_renew_5 ?_
  refine zr_iload_n hB 1 rfl rfl dX2_renew_6 ?_
  refine zr_ifne (tgt := 14) hB (by decide) dX2_renew_7 ?_ ?_
  · refine zr_iload_n hB 2 rfl rfl dX2_renew_14 ?_
    refine zr_put_X2 (w := w) (k := 1) hB hw (by decide) rfl rfl rfl lf_X2_19 rfl dX2_renew_15 ?_
    refine zr_letM (fun J2 => ?_)
    refine zr_aload_n hB 0 rfl rfl dX2_renew_18 ?_
    refine zr_get_X2 (w := w) (k := 2) (v := .ref (ad (w + 1))) hB hw (by decide) rfl lf_X2_9 rfl dX2_renew_19 ?_
    refine zr_iconst (v := 0) hB (by decide) dX2_renew_22 ?_
    refine zr_fill hB (zA_X2_1 hw) (by decide) (by decide) (Nat.le_of_ble_eq_true rfl) ⟨Nat.zero_le _, Nat.zero_le _⟩ lm_X2_22 dX2_renew_23 ?_
    refine zr_letM (fun J3 => ?_)
    exact zr_vret hB rfl rfl dX2_renew_26
  · refine zr_iconst (v := 0) hB (by decide) dX2_renew_10 ?_
    refine zr_goto (tgt := 15) hB (by decide) dX2_renew_11 ?_
    refine zr_put_X2 (w := w) (k := 1) hB hw (by decide) rfl rfl rfl lf_X2_19 rfl dX2_renew_15 ?_
    refine zr_letM (fun J4 => ?_)
    refine zr_aload_n hB 0 rfl rfl dX2_renew_18 ?_
    refine zr_get_X2 (w := w) (k := 2) (v := .ref (ad (w + 1))) hB hw (by decide) rfl lf_X2_9 rfl dX2_renew_19 ?_
    refine zr_iconst (v := 0) hB (by decide) dX2_renew_22 ?_
    refine zr_fill hB (zA_X2_1 hw) (by decide) (by decide) (Nat.le_of_ble_eq_true rfl) ⟨Nat.zero_le _, Nat.zero_le _⟩ lm_X2_22 dX2_renew_23 ?_
    refine zr_letM (fun J5 => ?_)
    exact zr_vret hB rfl rfl dX2_renew_26

def fX7_isSheet (a1 : Int32) : Option (Int32) :=
  zb (fX7_isWithin a1 0 3) fun o2 =>
  zgb o2 (
  some o2)
set_option maxHeartbeats 4000000 in
set_option maxRecDepth 100000 in
theorem mX7_isSheet {l : Launch} {D : va_G} {T : zT} {ad sK sV : Nat → Nat} (hi : zInj ad) (a1 : Int32)  (I : zI) (L : zL) : ∀ o, fX7_isSheet a1 = some o → zMet l yX7_isSheet cX7_isSheet 1 (some .boolean) 1 22 D T ad sK sV [.int a1] I L (em_i0 I L o) := by
  intro o ho
  refine zMet.of hi (by decide +kernel) (Nat.le_of_ble_eq_true rfl) (fun p e s m args below meth c hB => ?_)
  refine zr_top (emb := em_i0 I L) (t := fX7_isSheet a1) ?_ ho
  unfold fX7_isSheet
  refine zr_iload_n hB 0 rfl rfl dX7_isSheet_0 ?_
  refine zr_iconst (v := 0) hB (by decide) dX7_isSheet_1 ?_
  refine zr_iconst (v := 3) hB (by decide) dX7_isSheet_2 ?_
  refine zr_callS (st := []) (As := [.int a1, .int 0, .int 3]) (embc := em_i0 I L) hB (mX7_isWithin (sK := sK) (sV := sV) hi a1 0 3 I L) lm_X7_51 q2_X7_isWithin q4_X7 q5_X7_isWithin qd_X7_isWithin (by decide) rfl rfl (Nat.le_of_ble_eq_true rfl) ⟨Nat.zero_le _, Nat.zero_le _⟩ dX7_isSheet_3 (zr_ki0 (fun o2 => ?_))
  refine zr_gb (fun hv => ?_)
  exact zr_zretC hv hB rfl rfl dX7_isSheet_6

def fX7_sheet (a1 : Int32) (a2 : Int32) (a3 : Int32) (I : zI) : Option (Int32 × zI) :=
  zb (fX7_isSheet a1) fun o2 =>
  if o2 = 0 then
    zb (fX7_finding (-1000001) I) fun o5 =>
    some (o5.1, o5.2)
  else
  zbs (
    if a2 = 0 then
      some (.inr ())
    else
    if a2 = 8 then
      some (.inr ())
    else
    if a2 = 16 then
      some (.inr ())
    else
    if a2 = 32 then
      some (.inr ())
    else
    zb (fX7_finding (-1000001) I) fun o12 =>
    some (.inl (o12.1, o12.2))) fun x6 : Unit =>
  if 0 ≤ a3 then
    if a3 ≤ 40 then
      zg a1 4 (
      zb (fX2_renew (42 + 2 * zn a1) a2 a3 I) fun o16 =>
      zg a1 4 (
      some (o16 (42 + 2 * zn a1) 1, o16)))
    else
    zb (fX7_finding (-1000001) I) fun o20 =>
    some (o20.1, o20.2)
  else
  zb (fX7_finding (-1000007) I) fun o23 =>
  some (o23.1, o23.2)
set_option maxHeartbeats 4000000 in
set_option maxRecDepth 100000 in
theorem mX7_sheet {l : Launch} {D : va_G} {T : zT} {ad sK sV : Nat → Nat} (hi : zInj ad) (a1 : Int32) (a2 : Int32) (a3 : Int32)  (I : zI) (L : zL) : ∀ o, fX7_sheet a1 a2 a3 I = some o → zMet l yX7_sheet cX7_sheet 4 (some .int) 2 47 D T ad sK sV [.ref (ad 0), .int a1, .int a2, .int a3] I L (em_iI L o) := by
  intro o ho
  refine zMet.of hi (by decide +kernel) (Nat.le_of_ble_eq_true rfl) (fun p e s m args below meth c hB => ?_)
  refine zr_top (emb := em_iI L) (t := fX7_sheet a1 a2 a3 I) ?_ ho
  unfold fX7_sheet
  refine zr_iload_n hB 1 rfl rfl dX7_sheet_0 ?_
  refine zr_callS (st := []) (As := [.int a1]) (embc := em_i0 I L) hB (mX7_isSheet (sK := sK) (sV := sV) hi a1 I L) lm_X7_278 q2_X7_isSheet q4_X7 q5_X7_isSheet qd_X7_isSheet (by decide) rfl rfl (Nat.le_of_ble_eq_true rfl) ⟨Nat.zero_le _, Nat.zero_le _⟩ dX7_sheet_1 (zr_ki0 (fun o2 => ?_))
  refine zr_ifeq (tgt := 29) hB (by decide) dX7_sheet_4 ?_ ?_
  · refine zr_aload_n hB 0 rfl rfl dX7_sheet_29 ?_
    refine zr_ldc (v := (-1000001)) hB lk_X7_55 dX7_sheet_30 ?_
    refine zr_callV (st := []) (C := RX7) (As := [.int (-1000001)]) (embc := em_iI L) hB (mX7_finding (sK := sK) (sV := sV) hi (-1000001) I L) (zW_X7 rfl) rfl rfl lm_X7_56 q2_X7_finding q3_X7_finding q4_X7 q5_X7_finding qd_X7_finding (by decide) rfl rfl (Nat.le_of_ble_eq_true rfl) ⟨Nat.zero_le _, Nat.zero_le _⟩ dX7_sheet_32 (zr_kiI (fun o5 => ?_))
    exact zr_iret hB rfl rfl dX7_sheet_35
  · refine zr_iload_n hB 2 rfl rfl dX7_sheet_7 ?_
    refine zr_joins (pcJ := 36) (fun x6 : Unit => [(0, .ref (ad 0)), (1, .int a1), (2, .int a2), (3, .int a3)]) (fun x6 => []) (fun x6 => I) (fun x6 => L) (fun x6 => ?_) (fun K9 hi8 hj7 => ?_)
    · refine zr_iload_n hB 3 rfl rfl dX7_sheet_36 ?_
      refine zr_ifge (tgt := 47) hB (by decide) dX7_sheet_37 ?_ ?_
      · refine zr_iload_n hB 3 rfl rfl dX7_sheet_47 ?_
        refine zr_bipush (v := 40) hB (by decide) dX7_sheet_48 ?_
        refine zr_icmp_le (tgt := 60) hB (by decide) dX7_sheet_50 ?_ ?_
        · refine zr_aload_n hB 0 rfl rfl dX7_sheet_60 ?_
          refine zr_get_X7 (w := 0) (k := 6) (v := .ref (ad 40)) hB rfl (by decide) rfl lf_X7_38 rfl dX7_sheet_61 ?_
          refine zr_iload_n hB 1 rfl rfl dX7_sheet_64 ?_
          refine zr_aaloadH hB dX7_sheet_65 (fun h13 => ?_)
          refine zr_iload_n hB 2 rfl rfl dX7_sheet_66 ?_
          refine zr_iload_n hB 3 rfl rfl dX7_sheet_67 ?_
          refine zr_callV (st := []) (C := RX2) (As := [.int a2, .int a3]) (embc := em_vI L) hB (mX2_renew (sK := sK) (sV := sV) hi (42 + 2 * zn a1) a2 a3 (zS_of (vp_lt h13)) I L) (zW_X2 (zS_of (vp_lt h13))) rfl rfl lm_X7_281 q2_X2_renew q3_X2_renew q4_X2 q5_X2_renew qd_X2_renew (by decide) rfl rfl (Nat.le_of_ble_eq_true rfl) ⟨Nat.zero_le _, Nat.zero_le _⟩ dX7_sheet_68 (zr_kvI (fun o16 => ?_))
          refine zr_aload_n hB 0 rfl rfl dX7_sheet_71 ?_
          refine zr_get_X7 (w := 0) (k := 6) (v := .ref (ad 40)) hB rfl (by decide) rfl lf_X7_38 rfl dX7_sheet_72 ?_
          refine zr_iload_n hB 1 rfl rfl dX7_sheet_75 ?_
          refine zr_aaloadH hB dX7_sheet_76 (fun h17 => ?_)
          refine zr_get_X2 (w := 42 + 2 * zn a1) (k := 1) (v := .int (o16 (42 + 2 * zn a1) 1)) hB (zS_of (vp_lt h17)) (by decide) rfl lf_X7_284 rfl dX7_sheet_77 ?_
          exact zr_iret hB rfl rfl dX7_sheet_80
        · refine zr_aload_n hB 0 rfl rfl dX7_sheet_53 ?_
          refine zr_ldc (v := (-1000001)) hB lk_X7_55 dX7_sheet_54 ?_
          refine zr_callV (st := []) (C := RX7) (As := [.int (-1000001)]) (embc := em_iI L) hB (mX7_finding (sK := sK) (sV := sV) hi (-1000001) I L) (zW_X7 rfl) rfl rfl lm_X7_56 q2_X7_finding q3_X7_finding q4_X7 q5_X7_finding qd_X7_finding (by decide) rfl rfl (Nat.le_of_ble_eq_true rfl) ⟨Nat.zero_le _, Nat.zero_le _⟩ dX7_sheet_56 (zr_kiI (fun o20 => ?_))
          exact zr_iret hB rfl rfl dX7_sheet_59
      · refine zr_aload_n hB 0 rfl rfl dX7_sheet_40 ?_
        refine zr_ldc (v := (-1000007)) hB lk_X7_234 dX7_sheet_41 ?_
        refine zr_callV (st := []) (C := RX7) (As := [.int (-1000007)]) (embc := em_iI L) hB (mX7_finding (sK := sK) (sV := sV) hi (-1000007) I L) (zW_X7 rfl) rfl rfl lm_X7_56 q2_X7_finding q3_X7_finding q4_X7 q5_X7_finding qd_X7_finding (by decide) rfl rfl (Nat.le_of_ble_eq_true rfl) ⟨Nat.zero_le _, Nat.zero_le _⟩ dX7_sheet_43 (zr_kiI (fun o23 => ?_))
        exact zr_iret hB rfl rfl dX7_sheet_46
    · refine zr_ifeq (tgt := 36) hB (by decide) dX7_sheet_8 ?_ ?_
      · exact zr_sub [0, 1, 2, 3] rfl (hj7 ())
      · refine zr_iload_n hB 2 rfl rfl dX7_sheet_11 ?_
        refine zr_bipush (v := 8) hB (by decide) dX7_sheet_12 ?_
        refine zr_icmp_eq (tgt := 36) hB (by decide) dX7_sheet_14 ?_ ?_
        · exact zr_sub [0, 1, 2, 3] rfl (hj7 ())
        · refine zr_iload_n hB 2 rfl rfl dX7_sheet_17 ?_
          refine zr_bipush (v := 16) hB (by decide) dX7_sheet_18 ?_
          refine zr_icmp_eq (tgt := 36) hB (by decide) dX7_sheet_20 ?_ ?_
          · exact zr_sub [0, 1, 2, 3] rfl (hj7 ())
          · refine zr_iload_n hB 2 rfl rfl dX7_sheet_23 ?_
            refine zr_bipush (v := 32) hB (by decide) dX7_sheet_24 ?_
            refine zr_icmp_eq (tgt := 36) hB (by decide) dX7_sheet_26 ?_ ?_
            · exact zr_sub [0, 1, 2, 3] rfl (hj7 ())
            · refine zr_aload_n hB 0 rfl rfl dX7_sheet_29 ?_
              refine zr_ldc (v := (-1000001)) hB lk_X7_55 dX7_sheet_30 ?_
              refine zr_callV (st := []) (C := RX7) (As := [.int (-1000001)]) (embc := em_iI L) hB (mX7_finding (sK := sK) (sV := sV) hi (-1000001) I L) (zW_X7 rfl) rfl rfl lm_X7_56 q2_X7_finding q3_X7_finding q4_X7 q5_X7_finding qd_X7_finding (by decide) rfl rfl (Nat.le_of_ble_eq_true rfl) ⟨Nat.zero_le _, Nat.zero_le _⟩ dX7_sheet_32 (zr_kiI (fun o12 => ?_))
              refine hi8 _ _ _ _ _ _ ?_
              exact zr_iret hB rfl rfl dX7_sheet_35

def fX2_isMissing (w : Nat) (I : zI) : Option (Int32) :=
  if (I w 0) = 0 then
    some 1
  else
  some 0
set_option maxHeartbeats 4000000 in
set_option maxRecDepth 100000 in
theorem mX2_isMissing {l : Launch} {D : va_G} {T : zT} {ad sK sV : Nat → Nat} (hi : zInj ad) (w : Nat) (hw : zO_X2 w) (I : zI) (L : zL) : ∀ o, fX2_isMissing w I = some o → zMet l yX2_isMissing cX2_isMissing 1 (some .boolean) 0 0 D T ad sK sV [.ref (ad w)] I L (em_i0 I L o) := by
  intro o ho
  refine zMet.of hi (by decide +kernel) (Nat.le_of_ble_eq_true rfl) (fun p e s m args below meth c hB => ?_)
  refine zr_top (emb := em_i0 I L) (t := fX2_isMissing w I) ?_ ho
  unfold fX2_isMissing
  refine zr_aload_n hB 0 rfl rfl dX2_isMissing_0 ?_
  refine zr_get_X2 (w := w) (k := 0) (v := .int (I w 0)) hB hw (by decide) rfl lf_X2_15 rfl dX2_isMissing_1 ?_
  refine zr_ifne (tgt := 11) hB (by decide) dX2_isMissing_4 ?_ ?_
  · refine zr_iconst (v := 0) hB (by decide) dX2_isMissing_11 ?_
    exact zr_zretC (by decide) hB rfl rfl dX2_isMissing_12
  · refine zr_iconst (v := 1) hB (by decide) dX2_isMissing_7 ?_
    refine zr_goto (tgt := 12) hB (by decide) dX2_isMissing_8 ?_
    exact zr_zretC (by decide) hB rfl rfl dX2_isMissing_12

def fX2_put (w : Nat) (a1 : Int32) (a2 : Int32) (I : zI) : Option (zI) :=
  zl (I w 0) fun v1 =>
  if v1 = 8 then
    zg a1 40 (
    zl (zup I (w + 1) (zn a1) a2.toInt8.toInt32) fun J2 =>
    some J2)
  else
  if v1 = 16 then
    zg a1 40 (
    zl (zup I (w + 1) (zn a1) a2.toInt16.toInt32) fun J3 =>
    some J3)
  else
  zg a1 40 (
  zl (zup I (w + 1) (zn a1) a2) fun J4 =>
  some J4)
set_option maxHeartbeats 4000000 in
set_option maxRecDepth 100000 in
theorem mX2_put {l : Launch} {D : va_G} {T : zT} {ad sK sV : Nat → Nat} (hi : zInj ad) (w : Nat) (a1 : Int32) (a2 : Int32) (hw : zO_X2 w) (I : zI) (L : zL) : ∀ o, fX2_put w a1 a2 I = some o → zMet l yX2_put cX2_put 3 none 0 0 D T ad sK sV [.ref (ad w), .int a1, .int a2] I L (em_vI L o) := by
  intro o ho
  refine zMet.of hi (by decide +kernel) (Nat.le_of_ble_eq_true rfl) (fun p e s m args below meth c hB => ?_)
  refine zr_top (emb := em_vI L) (t := fX2_put w a1 a2 I) ?_ ho
  unfold fX2_put
  refine zr_aload_n hB 0 rfl rfl dX2_put_0 ?_
  refine zr_get_X2 (w := w) (k := 0) (v := .int (I w 0)) hB hw (by decide) rfl lf_X2_15 rfl dX2_put_1 ?_
  refine zr_letI (fun v1 => ?_)
  refine zr_case (fun q4_0 => ?_) (fun q4_0 => ?_)
  · refine zr_lsw (tgt := 32) (off := 28) hB dX2_put_4 (by decide) (by rw [q4_0]; try rfl) (by decide) ?_
    refine zr_aload_n hB 0 rfl rfl dX2_put_32 ?_
    refine zr_get_X2 (w := w) (k := 2) (v := .ref (ad (w + 1))) hB hw (by decide) rfl lf_X2_9 rfl dX2_put_33 ?_
    refine zr_iload_n hB 1 rfl rfl dX2_put_36 ?_
    refine zr_iload_n hB 2 rfl rfl dX2_put_37 ?_
    refine zr_i2b hB dX2_put_38 ?_
    refine zr_iastore hB (zA_X2_1 hw) dX2_put_39 ?_
    refine zr_letM (fun J2 => ?_)
    refine zr_goto (tgt := 61) hB (by decide) dX2_put_40 ?_
    exact zr_vret hB rfl rfl dX2_put_61
  · refine zr_case (fun q4_1 => ?_) (fun q4_1 => ?_)
    · refine zr_lsw (tgt := 43) (off := 39) hB dX2_put_4 (by decide) (by rw [q4_1]; try rfl) (by decide) ?_
      refine zr_aload_n hB 0 rfl rfl dX2_put_43 ?_
      refine zr_get_X2 (w := w) (k := 2) (v := .ref (ad (w + 1))) hB hw (by decide) rfl lf_X2_9 rfl dX2_put_44 ?_
      refine zr_iload_n hB 1 rfl rfl dX2_put_47 ?_
      refine zr_iload_n hB 2 rfl rfl dX2_put_48 ?_
      refine zr_i2s hB dX2_put_49 ?_
      refine zr_iastore hB (zA_X2_1 hw) dX2_put_50 ?_
      refine zr_letM (fun J3 => ?_)
      refine zr_goto (tgt := 61) hB (by decide) dX2_put_51 ?_
      exact zr_vret hB rfl rfl dX2_put_61
    · refine zr_lsw (tgt := 54) (off := 50) hB dX2_put_4 (by decide) (by show Op.lookupswitch.offset [(8, 28), (16, 39)] 50 (v1).toInt = 50; rw [lv_osw q4_0 (show (8 : Int32).toInt = 8 from rfl), lv_osw q4_1 (show (16 : Int32).toInt = 16 from rfl)]; rfl) (by decide) ?_
      refine zr_aload_n hB 0 rfl rfl dX2_put_54 ?_
      refine zr_get_X2 (w := w) (k := 2) (v := .ref (ad (w + 1))) hB hw (by decide) rfl lf_X2_9 rfl dX2_put_55 ?_
      refine zr_iload_n hB 1 rfl rfl dX2_put_58 ?_
      refine zr_iload_n hB 2 rfl rfl dX2_put_59 ?_
      refine zr_iastore hB (zA_X2_1 hw) dX2_put_60 ?_
      refine zr_letM (fun J4 => ?_)
      exact zr_vret hB rfl rfl dX2_put_61

def fX7_write (a1 : Int32) (a2 : Int32) (a3 : Int32) (I : zI) : Option (Int32 × zI) :=
  zb (fX7_isSheet a1) fun o2 =>
  if o2 = 0 then
    zb (fX7_finding (-1000001) I) fun o21 =>
    some (o21.1, o21.2)
  else
  zg a1 4 (
  zb (fX2_isMissing (42 + 2 * zn a1) I) fun o5 =>
  if o5 = 0 then
    zg a1 4 (
    zb (fX7_isWithin a2 0 ((I (42 + 2 * zn a1) 1) - 1)) fun o8 =>
    if o8 = 0 then
      zb (fX7_finding (-1000001) I) fun o15 =>
      some (o15.1, o15.2)
    else
    zg a1 4 (
    zb (fX2_put (42 + 2 * zn a1) a2 a3 I) fun o12 =>
    some (1, o12)))
  else
  zb (fX7_finding (-1000006) I) fun o18 =>
  some (o18.1, o18.2))
set_option maxHeartbeats 4000000 in
set_option maxRecDepth 100000 in
theorem mX7_write {l : Launch} {D : va_G} {T : zT} {ad sK sV : Nat → Nat} (hi : zInj ad) (a1 : Int32) (a2 : Int32) (a3 : Int32)  (I : zI) (L : zL) : ∀ o, fX7_write a1 a2 a3 I = some o → zMet l yX7_write cX7_write 4 (some .int) 2 44 D T ad sK sV [.ref (ad 0), .int a1, .int a2, .int a3] I L (em_iI L o) := by
  intro o ho
  refine zMet.of hi (by decide +kernel) (Nat.le_of_ble_eq_true rfl) (fun p e s m args below meth c hB => ?_)
  refine zr_top (emb := em_iI L) (t := fX7_write a1 a2 a3 I) ?_ ho
  unfold fX7_write
  refine zr_iload_n hB 1 rfl rfl dX7_write_0 ?_
  refine zr_callS (st := []) (As := [.int a1]) (embc := em_i0 I L) hB (mX7_isSheet (sK := sK) (sV := sV) hi a1 I L) lm_X7_278 q2_X7_isSheet q4_X7 q5_X7_isSheet qd_X7_isSheet (by decide) rfl rfl (Nat.le_of_ble_eq_true rfl) ⟨Nat.zero_le _, Nat.zero_le _⟩ dX7_write_1 (zr_ki0 (fun o2 => ?_))
  refine zr_ifne (tgt := 14) hB (by decide) dX7_write_4 ?_ ?_
  · refine zr_aload_n hB 0 rfl rfl dX7_write_14 ?_
    refine zr_get_X7 (w := 0) (k := 6) (v := .ref (ad 40)) hB rfl (by decide) rfl lf_X7_38 rfl dX7_write_15 ?_
    refine zr_iload_n hB 1 rfl rfl dX7_write_18 ?_
    refine zr_aaloadH hB dX7_write_19 (fun h3 => ?_)
    refine zr_callV (st := []) (C := RX2) (As := []) (embc := em_i0 I L) hB (mX2_isMissing (sK := sK) (sV := sV) hi (42 + 2 * zn a1) (zS_of (vp_lt h3)) I L) (zW_X2 (zS_of (vp_lt h3))) rfl rfl lm_X7_285 q2_X2_isMissing q3_X2_isMissing q4_X2 q5_X2_isMissing qd_X2_isMissing (by decide) rfl rfl (Nat.le_of_ble_eq_true rfl) ⟨Nat.zero_le _, Nat.zero_le _⟩ dX7_write_20 (zr_ki0 (fun o5 => ?_))
    refine zr_ifeq (tgt := 34) hB (by decide) dX7_write_23 ?_ ?_
    · refine zr_iload_n hB 2 rfl rfl dX7_write_34 ?_
      refine zr_iconst (v := 0) hB (by decide) dX7_write_35 ?_
      refine zr_aload_n hB 0 rfl rfl dX7_write_36 ?_
      refine zr_get_X7 (w := 0) (k := 6) (v := .ref (ad 40)) hB rfl (by decide) rfl lf_X7_38 rfl dX7_write_37 ?_
      refine zr_iload_n hB 1 rfl rfl dX7_write_40 ?_
      refine zr_aaloadH hB dX7_write_41 (fun h6 => ?_)
      refine zr_get_X2 (w := 42 + 2 * zn a1) (k := 1) (v := .int (I (42 + 2 * zn a1) 1)) hB (zS_of (vp_lt h6)) (by decide) rfl lf_X7_284 rfl dX7_write_42 ?_
      refine zr_iconst (v := 1) hB (by decide) dX7_write_45 ?_
      refine zr_isub hB dX7_write_46 ?_
      refine zr_callS (st := []) (As := [.int a2, .int 0, .int ((I (42 + 2 * zn a1) 1) - 1)]) (embc := em_i0 I L) hB (mX7_isWithin (sK := sK) (sV := sV) hi a2 0 ((I (42 + 2 * zn a1) 1) - 1) I L) lm_X7_51 q2_X7_isWithin q4_X7 q5_X7_isWithin qd_X7_isWithin (by decide) rfl rfl (Nat.le_of_ble_eq_true rfl) ⟨Nat.zero_le _, Nat.zero_le _⟩ dX7_write_47 (zr_ki0 (fun o8 => ?_))
      refine zr_ifne (tgt := 60) hB (by decide) dX7_write_50 ?_ ?_
      · refine zr_aload_n hB 0 rfl rfl dX7_write_60 ?_
        refine zr_get_X7 (w := 0) (k := 6) (v := .ref (ad 40)) hB rfl (by decide) rfl lf_X7_38 rfl dX7_write_61 ?_
        refine zr_iload_n hB 1 rfl rfl dX7_write_64 ?_
        refine zr_aaloadH hB dX7_write_65 (fun h9 => ?_)
        refine zr_iload_n hB 2 rfl rfl dX7_write_66 ?_
        refine zr_iload_n hB 3 rfl rfl dX7_write_67 ?_
        refine zr_callV (st := []) (C := RX2) (As := [.int a2, .int a3]) (embc := em_vI L) hB (mX2_put (sK := sK) (sV := sV) hi (42 + 2 * zn a1) a2 a3 (zS_of (vp_lt h9)) I L) (zW_X2 (zS_of (vp_lt h9))) rfl rfl lm_X7_289 q2_X2_put q3_X2_put q4_X2 q5_X2_put qd_X2_put (by decide) rfl rfl (Nat.le_of_ble_eq_true rfl) ⟨Nat.zero_le _, Nat.zero_le _⟩ dX7_write_68 (zr_kvI (fun o12 => ?_))
        refine zr_iconst (v := 1) hB (by decide) dX7_write_71 ?_
        exact zr_iret hB rfl rfl dX7_write_72
      · refine zr_aload_n hB 0 rfl rfl dX7_write_53 ?_
        refine zr_ldc (v := (-1000001)) hB lk_X7_55 dX7_write_54 ?_
        refine zr_callV (st := []) (C := RX7) (As := [.int (-1000001)]) (embc := em_iI L) hB (mX7_finding (sK := sK) (sV := sV) hi (-1000001) I L) (zW_X7 rfl) rfl rfl lm_X7_56 q2_X7_finding q3_X7_finding q4_X7 q5_X7_finding qd_X7_finding (by decide) rfl rfl (Nat.le_of_ble_eq_true rfl) ⟨Nat.zero_le _, Nat.zero_le _⟩ dX7_write_56 (zr_kiI (fun o15 => ?_))
        exact zr_iret hB rfl rfl dX7_write_59
    · refine zr_aload_n hB 0 rfl rfl dX7_write_26 ?_
      refine zr_ldcw (v := (-1000006)) hB lk_X7_271 dX7_write_27 ?_
      refine zr_callV (st := []) (C := RX7) (As := [.int (-1000006)]) (embc := em_iI L) hB (mX7_finding (sK := sK) (sV := sV) hi (-1000006) I L) (zW_X7 rfl) rfl rfl lm_X7_56 q2_X7_finding q3_X7_finding q4_X7 q5_X7_finding qd_X7_finding (by decide) rfl rfl (Nat.le_of_ble_eq_true rfl) ⟨Nat.zero_le _, Nat.zero_le _⟩ dX7_write_30 (zr_kiI (fun o18 => ?_))
      exact zr_iret hB rfl rfl dX7_write_33
  · refine zr_aload_n hB 0 rfl rfl dX7_write_7 ?_
    refine zr_ldc (v := (-1000001)) hB lk_X7_55 dX7_write_8 ?_
    refine zr_callV (st := []) (C := RX7) (As := [.int (-1000001)]) (embc := em_iI L) hB (mX7_finding (sK := sK) (sV := sV) hi (-1000001) I L) (zW_X7 rfl) rfl rfl lm_X7_56 q2_X7_finding q3_X7_finding q4_X7 q5_X7_finding qd_X7_finding (by decide) rfl rfl (Nat.le_of_ble_eq_true rfl) ⟨Nat.zero_le _, Nat.zero_le _⟩ dX7_write_10 (zr_kiI (fun o21 => ?_))
    exact zr_iret hB rfl rfl dX7_write_13

def fX2_hasRow (w : Nat) (a1 : Int32) (a2 : Int32) (I : zI) : Option (Int32) :=
  if a1 < 0 then
    some 0
  else
  if a2 < 0 then
    some 0
  else
  if (I w 1) < a2 then
    some 0
  else
  if ((I w 1) - a2) < a1 then
    some 0
  else
  some 1
set_option maxHeartbeats 4000000 in
set_option maxRecDepth 100000 in
theorem mX2_hasRow {l : Launch} {D : va_G} {T : zT} {ad sK sV : Nat → Nat} (hi : zInj ad) (w : Nat) (a1 : Int32) (a2 : Int32) (hw : zO_X2 w) (I : zI) (L : zL) : ∀ o, fX2_hasRow w a1 a2 I = some o → zMet l yX2_hasRow cX2_hasRow 3 (some .boolean) 0 0 D T ad sK sV [.ref (ad w), .int a1, .int a2] I L (em_i0 I L o) := by
  intro o ho
  refine zMet.of hi (by decide +kernel) (Nat.le_of_ble_eq_true rfl) (fun p e s m args below meth c hB => ?_)
  refine zr_top (emb := em_i0 I L) (t := fX2_hasRow w a1 a2 I) ?_ ho
  unfold fX2_hasRow
  refine zr_iload_n hB 1 rfl rfl dX2_hasRow_0 ?_
  refine zr_iflt (tgt := 30) hB (by decide) dX2_hasRow_1 ?_ ?_
  · refine zr_iconst (v := 0) hB (by decide) dX2_hasRow_30 ?_
    exact zr_zretC (by decide) hB rfl rfl dX2_hasRow_31
  · refine zr_iload_n hB 2 rfl rfl dX2_hasRow_4 ?_
    refine zr_iflt (tgt := 30) hB (by decide) dX2_hasRow_5 ?_ ?_
    · refine zr_iconst (v := 0) hB (by decide) dX2_hasRow_30 ?_
      exact zr_zretC (by decide) hB rfl rfl dX2_hasRow_31
    · refine zr_iload_n hB 2 rfl rfl dX2_hasRow_8 ?_
      refine zr_aload_n hB 0 rfl rfl dX2_hasRow_9 ?_
      refine zr_get_X2 (w := w) (k := 1) (v := .int (I w 1)) hB hw (by decide) rfl lf_X2_19 rfl dX2_hasRow_10 ?_
      refine zr_icmp_gt (tgt := 30) hB (by decide) dX2_hasRow_13 ?_ ?_
      · refine zr_iconst (v := 0) hB (by decide) dX2_hasRow_30 ?_
        exact zr_zretC (by decide) hB rfl rfl dX2_hasRow_31
      · refine zr_iload_n hB 1 rfl rfl dX2_hasRow_16 ?_
        refine zr_aload_n hB 0 rfl rfl dX2_hasRow_17 ?_
        refine zr_get_X2 (w := w) (k := 1) (v := .int (I w 1)) hB hw (by decide) rfl lf_X2_19 rfl dX2_hasRow_18 ?_
        refine zr_iload_n hB 2 rfl rfl dX2_hasRow_21 ?_
        refine zr_isub hB dX2_hasRow_22 ?_
        refine zr_icmp_gt (tgt := 30) hB (by decide) dX2_hasRow_23 ?_ ?_
        · refine zr_iconst (v := 0) hB (by decide) dX2_hasRow_30 ?_
          exact zr_zretC (by decide) hB rfl rfl dX2_hasRow_31
        · refine zr_iconst (v := 1) hB (by decide) dX2_hasRow_26 ?_
          refine zr_goto (tgt := 31) hB (by decide) dX2_hasRow_27 ?_
          exact zr_zretC (by decide) hB rfl rfl dX2_hasRow_31

def fX7_copy (a1 : Int32) (a2 : Int32) (a3 : Int32) (a4 : Int32) (a5 : Int32) (I : zI) : Option (Int32 × zI) :=
  zb (fX7_isSheet a1) fun o2 =>
  if o2 = 0 then
    zb (fX7_finding (-1000001) I) fun o5 =>
    some (o5.1, o5.2)
  else
  zb (fX7_isSheet a3) fun o7 =>
  if o7 = 0 then
    zb (fX7_finding (-1000001) I) fun o42 =>
    some (o42.1, o42.2)
  else
  zg a1 4 (
  zb (fX2_isMissing (42 + 2 * zn a1) I) fun o10 =>
  if o10 = 0 then
    zg a3 4 (
    zb (fX2_isMissing (42 + 2 * zn a3) I) fun o16 =>
    if o16 = 0 then
      zg a1 4 (
      zg a3 4 (
      if (I (42 + 2 * zn a1) 0) = (I (42 + 2 * zn a3) 0) then
        zg a1 4 (
        zb (fX2_hasRow (42 + 2 * zn a1) a2 a5 I) fun o21 =>
        if o21 = 0 then
          zb (fX7_finding (-1000001) I) fun o24 =>
          some (o24.1, o24.2)
        else
        zg a3 4 (
        zb (fX2_hasRow (42 + 2 * zn a3) a4 a5 I) fun o27 =>
        if o27 = 0 then
          zb (fX7_finding (-1000001) I) fun o33 =>
          some (o33.1, o33.2)
        else
        zg a1 4 (
        zg a3 4 (
        zgc a2 a4 a5 40 40 (
        zl (zset I (42 + 2 * zn a3 + 1) (va_cpy (I (42 + 2 * zn a1 + 1)) (I (42 + 2 * zn a3 + 1)) (zn a2) (zn a4) (zn a5))) fun J30 =>
        some (a5, J30))))))
      else
      zb (fX7_finding (-1000003) I) fun o36 =>
      some (o36.1, o36.2)))
    else
    zb (fX7_finding (-1000006) I) fun o39 =>
    some (o39.1, o39.2))
  else
  zb (fX7_finding (-1000006) I) fun o13 =>
  some (o13.1, o13.2))
set_option maxHeartbeats 4000000 in
set_option maxRecDepth 100000 in
theorem mX7_copy {l : Launch} {D : va_G} {T : zT} {ad sK sV : Nat → Nat} (hi : zInj ad) (a1 : Int32) (a2 : Int32) (a3 : Int32) (a4 : Int32) (a5 : Int32)  (I : zI) (L : zL) : ∀ o, fX7_copy a1 a2 a3 a4 a5 I = some o → zMet l yX7_copy cX7_copy 6 (some .int) 2 44 D T ad sK sV [.ref (ad 0), .int a1, .int a2, .int a3, .int a4, .int a5] I L (em_iI L o) := by
  intro o ho
  refine zMet.of hi (by decide +kernel) (Nat.le_of_ble_eq_true rfl) (fun p e s m args below meth c hB => ?_)
  refine zr_top (emb := em_iI L) (t := fX7_copy a1 a2 a3 a4 a5 I) ?_ ho
  unfold fX7_copy
  refine zr_iload_n hB 1 rfl rfl dX7_copy_0 ?_
  refine zr_callS (st := []) (As := [.int a1]) (embc := em_i0 I L) hB (mX7_isSheet (sK := sK) (sV := sV) hi a1 I L) lm_X7_278 q2_X7_isSheet q4_X7 q5_X7_isSheet qd_X7_isSheet (by decide) rfl rfl (Nat.le_of_ble_eq_true rfl) ⟨Nat.zero_le _, Nat.zero_le _⟩ dX7_copy_1 (zr_ki0 (fun o2 => ?_))
  refine zr_ifeq (tgt := 14) hB (by decide) dX7_copy_4 ?_ ?_
  · refine zr_aload_n hB 0 rfl rfl dX7_copy_14 ?_
    refine zr_ldc (v := (-1000001)) hB lk_X7_55 dX7_copy_15 ?_
    refine zr_callV (st := []) (C := RX7) (As := [.int (-1000001)]) (embc := em_iI L) hB (mX7_finding (sK := sK) (sV := sV) hi (-1000001) I L) (zW_X7 rfl) rfl rfl lm_X7_56 q2_X7_finding q3_X7_finding q4_X7 q5_X7_finding qd_X7_finding (by decide) rfl rfl (Nat.le_of_ble_eq_true rfl) ⟨Nat.zero_le _, Nat.zero_le _⟩ dX7_copy_17 (zr_kiI (fun o5 => ?_))
    exact zr_iret hB rfl rfl dX7_copy_20
  · refine zr_iload_n hB 3 rfl rfl dX7_copy_7 ?_
    refine zr_callS (st := []) (As := [.int a3]) (embc := em_i0 I L) hB (mX7_isSheet (sK := sK) (sV := sV) hi a3 I L) lm_X7_278 q2_X7_isSheet q4_X7 q5_X7_isSheet qd_X7_isSheet (by decide) rfl rfl (Nat.le_of_ble_eq_true rfl) ⟨Nat.zero_le _, Nat.zero_le _⟩ dX7_copy_8 (zr_ki0 (fun o7 => ?_))
    refine zr_ifne (tgt := 21) hB (by decide) dX7_copy_11 ?_ ?_
    · refine zr_aload_n hB 0 rfl rfl dX7_copy_21 ?_
      refine zr_get_X7 (w := 0) (k := 6) (v := .ref (ad 40)) hB rfl (by decide) rfl lf_X7_38 rfl dX7_copy_22 ?_
      refine zr_iload_n hB 1 rfl rfl dX7_copy_25 ?_
      refine zr_aaloadH hB dX7_copy_26 (fun h8 => ?_)
      refine zr_callV (st := []) (C := RX2) (As := []) (embc := em_i0 I L) hB (mX2_isMissing (sK := sK) (sV := sV) hi (42 + 2 * zn a1) (zS_of (vp_lt h8)) I L) (zW_X2 (zS_of (vp_lt h8))) rfl rfl lm_X7_285 q2_X2_isMissing q3_X2_isMissing q4_X2 q5_X2_isMissing qd_X2_isMissing (by decide) rfl rfl (Nat.le_of_ble_eq_true rfl) ⟨Nat.zero_le _, Nat.zero_le _⟩ dX7_copy_27 (zr_ki0 (fun o10 => ?_))
      refine zr_ifne (tgt := 45) hB (by decide) dX7_copy_30 ?_ ?_
      · refine zr_aload_n hB 0 rfl rfl dX7_copy_45 ?_
        refine zr_ldcw (v := (-1000006)) hB lk_X7_271 dX7_copy_46 ?_
        refine zr_callV (st := []) (C := RX7) (As := [.int (-1000006)]) (embc := em_iI L) hB (mX7_finding (sK := sK) (sV := sV) hi (-1000006) I L) (zW_X7 rfl) rfl rfl lm_X7_56 q2_X7_finding q3_X7_finding q4_X7 q5_X7_finding qd_X7_finding (by decide) rfl rfl (Nat.le_of_ble_eq_true rfl) ⟨Nat.zero_le _, Nat.zero_le _⟩ dX7_copy_49 (zr_kiI (fun o13 => ?_))
        exact zr_iret hB rfl rfl dX7_copy_52
      · refine zr_aload_n hB 0 rfl rfl dX7_copy_33 ?_
        refine zr_get_X7 (w := 0) (k := 6) (v := .ref (ad 40)) hB rfl (by decide) rfl lf_X7_38 rfl dX7_copy_34 ?_
        refine zr_iload_n hB 3 rfl rfl dX7_copy_37 ?_
        refine zr_aaloadH hB dX7_copy_38 (fun h14 => ?_)
        refine zr_callV (st := []) (C := RX2) (As := []) (embc := em_i0 I L) hB (mX2_isMissing (sK := sK) (sV := sV) hi (42 + 2 * zn a3) (zS_of (vp_lt h14)) I L) (zW_X2 (zS_of (vp_lt h14))) rfl rfl lm_X7_285 q2_X2_isMissing q3_X2_isMissing q4_X2 q5_X2_isMissing qd_X2_isMissing (by decide) rfl rfl (Nat.le_of_ble_eq_true rfl) ⟨Nat.zero_le _, Nat.zero_le _⟩ dX7_copy_39 (zr_ki0 (fun o16 => ?_))
        refine zr_ifeq (tgt := 53) hB (by decide) dX7_copy_42 ?_ ?_
        · refine zr_aload_n hB 0 rfl rfl dX7_copy_53 ?_
          refine zr_get_X7 (w := 0) (k := 6) (v := .ref (ad 40)) hB rfl (by decide) rfl lf_X7_38 rfl dX7_copy_54 ?_
          refine zr_iload_n hB 1 rfl rfl dX7_copy_57 ?_
          refine zr_aaloadH hB dX7_copy_58 (fun h17 => ?_)
          refine zr_get_X2 (w := 42 + 2 * zn a1) (k := 0) (v := .int (I (42 + 2 * zn a1) 0)) hB (zS_of (vp_lt h17)) (by decide) rfl lf_X7_292 rfl dX7_copy_59 ?_
          refine zr_aload_n hB 0 rfl rfl dX7_copy_62 ?_
          refine zr_get_X7 (w := 0) (k := 6) (v := .ref (ad 40)) hB rfl (by decide) rfl lf_X7_38 rfl dX7_copy_63 ?_
          refine zr_iload_n hB 3 rfl rfl dX7_copy_66 ?_
          refine zr_aaloadH hB dX7_copy_67 (fun h18 => ?_)
          refine zr_get_X2 (w := 42 + 2 * zn a3) (k := 0) (v := .int (I (42 + 2 * zn a3) 0)) hB (zS_of (vp_lt h18)) (by decide) rfl lf_X7_292 rfl dX7_copy_68 ?_
          refine zr_icmp_eq (tgt := 82) hB (by decide) dX7_copy_71 ?_ ?_
          · refine zr_aload_n hB 0 rfl rfl dX7_copy_82 ?_
            refine zr_get_X7 (w := 0) (k := 6) (v := .ref (ad 40)) hB rfl (by decide) rfl lf_X7_38 rfl dX7_copy_83 ?_
            refine zr_iload_n hB 1 rfl rfl dX7_copy_86 ?_
            refine zr_aaloadH hB dX7_copy_87 (fun h19 => ?_)
            refine zr_iload_n hB 2 rfl rfl dX7_copy_88 ?_
            refine zr_iload hB 5 rfl dX7_copy_89 ?_
            refine zr_callV (st := []) (C := RX2) (As := [.int a2, .int a5]) (embc := em_i0 I L) hB (mX2_hasRow (sK := sK) (sV := sV) hi (42 + 2 * zn a1) a2 a5 (zS_of (vp_lt h19)) I L) (zW_X2 (zS_of (vp_lt h19))) rfl rfl lm_X7_295 q2_X2_hasRow q3_X2_hasRow q4_X2 q5_X2_hasRow qd_X2_hasRow (by decide) rfl rfl (Nat.le_of_ble_eq_true rfl) ⟨Nat.zero_le _, Nat.zero_le _⟩ dX7_copy_91 (zr_ki0 (fun o21 => ?_))
            refine zr_ifeq (tgt := 113) hB (by decide) dX7_copy_94 ?_ ?_
            · refine zr_aload_n hB 0 rfl rfl dX7_copy_113 ?_
              refine zr_ldc (v := (-1000001)) hB lk_X7_55 dX7_copy_114 ?_
              refine zr_callV (st := []) (C := RX7) (As := [.int (-1000001)]) (embc := em_iI L) hB (mX7_finding (sK := sK) (sV := sV) hi (-1000001) I L) (zW_X7 rfl) rfl rfl lm_X7_56 q2_X7_finding q3_X7_finding q4_X7 q5_X7_finding qd_X7_finding (by decide) rfl rfl (Nat.le_of_ble_eq_true rfl) ⟨Nat.zero_le _, Nat.zero_le _⟩ dX7_copy_116 (zr_kiI (fun o24 => ?_))
              exact zr_iret hB rfl rfl dX7_copy_119
            · refine zr_aload_n hB 0 rfl rfl dX7_copy_97 ?_
              refine zr_get_X7 (w := 0) (k := 6) (v := .ref (ad 40)) hB rfl (by decide) rfl lf_X7_38 rfl dX7_copy_98 ?_
              refine zr_iload_n hB 3 rfl rfl dX7_copy_101 ?_
              refine zr_aaloadH hB dX7_copy_102 (fun h25 => ?_)
              refine zr_iload hB 4 rfl dX7_copy_103 ?_
              refine zr_iload hB 5 rfl dX7_copy_105 ?_
              refine zr_callV (st := []) (C := RX2) (As := [.int a4, .int a5]) (embc := em_i0 I L) hB (mX2_hasRow (sK := sK) (sV := sV) hi (42 + 2 * zn a3) a4 a5 (zS_of (vp_lt h25)) I L) (zW_X2 (zS_of (vp_lt h25))) rfl rfl lm_X7_295 q2_X2_hasRow q3_X2_hasRow q4_X2 q5_X2_hasRow qd_X2_hasRow (by decide) rfl rfl (Nat.le_of_ble_eq_true rfl) ⟨Nat.zero_le _, Nat.zero_le _⟩ dX7_copy_107 (zr_ki0 (fun o27 => ?_))
              refine zr_ifne (tgt := 120) hB (by decide) dX7_copy_110 ?_ ?_
              · refine zr_aload_n hB 0 rfl rfl dX7_copy_120 ?_
                refine zr_get_X7 (w := 0) (k := 6) (v := .ref (ad 40)) hB rfl (by decide) rfl lf_X7_38 rfl dX7_copy_121 ?_
                refine zr_iload_n hB 1 rfl rfl dX7_copy_124 ?_
                refine zr_aaloadH hB dX7_copy_125 (fun h28 => ?_)
                refine zr_get_X2 (w := 42 + 2 * zn a1) (k := 2) (v := .ref (ad (42 + 2 * zn a1 + 1))) hB (zS_of (vp_lt h28)) (by decide) rfl lf_X7_298 rfl dX7_copy_126 ?_
                refine zr_iload_n hB 2 rfl rfl dX7_copy_129 ?_
                refine zr_aload_n hB 0 rfl rfl dX7_copy_130 ?_
                refine zr_get_X7 (w := 0) (k := 6) (v := .ref (ad 40)) hB rfl (by decide) rfl lf_X7_38 rfl dX7_copy_131 ?_
                refine zr_iload_n hB 3 rfl rfl dX7_copy_134 ?_
                refine zr_aaloadH hB dX7_copy_135 (fun h29 => ?_)
                refine zr_get_X2 (w := 42 + 2 * zn a3) (k := 2) (v := .ref (ad (42 + 2 * zn a3 + 1))) hB (zS_of (vp_lt h29)) (by decide) rfl lf_X7_298 rfl dX7_copy_136 ?_
                refine zr_iload hB 4 rfl dX7_copy_139 ?_
                refine zr_iload hB 5 rfl dX7_copy_141 ?_
                refine zr_copy hB (zA_X2_1 (zS_of (vp_lt h28))) (zA_X2_1 (zS_of (vp_lt h29))) (by decide) (by decide) (Nat.le_of_ble_eq_true rfl) lm_X7_301 dX7_copy_143 ?_
                refine zr_letM (fun J30 => ?_)
                refine zr_iload hB 5 rfl dX7_copy_146 ?_
                exact zr_iret hB rfl rfl dX7_copy_148
              · refine zr_aload_n hB 0 rfl rfl dX7_copy_113 ?_
                refine zr_ldc (v := (-1000001)) hB lk_X7_55 dX7_copy_114 ?_
                refine zr_callV (st := []) (C := RX7) (As := [.int (-1000001)]) (embc := em_iI L) hB (mX7_finding (sK := sK) (sV := sV) hi (-1000001) I L) (zW_X7 rfl) rfl rfl lm_X7_56 q2_X7_finding q3_X7_finding q4_X7 q5_X7_finding qd_X7_finding (by decide) rfl rfl (Nat.le_of_ble_eq_true rfl) ⟨Nat.zero_le _, Nat.zero_le _⟩ dX7_copy_116 (zr_kiI (fun o33 => ?_))
                exact zr_iret hB rfl rfl dX7_copy_119
          · refine zr_aload_n hB 0 rfl rfl dX7_copy_74 ?_
            refine zr_ldcw (v := (-1000003)) hB lk_X7_277 dX7_copy_75 ?_
            refine zr_callV (st := []) (C := RX7) (As := [.int (-1000003)]) (embc := em_iI L) hB (mX7_finding (sK := sK) (sV := sV) hi (-1000003) I L) (zW_X7 rfl) rfl rfl lm_X7_56 q2_X7_finding q3_X7_finding q4_X7 q5_X7_finding qd_X7_finding (by decide) rfl rfl (Nat.le_of_ble_eq_true rfl) ⟨Nat.zero_le _, Nat.zero_le _⟩ dX7_copy_78 (zr_kiI (fun o36 => ?_))
            exact zr_iret hB rfl rfl dX7_copy_81
        · refine zr_aload_n hB 0 rfl rfl dX7_copy_45 ?_
          refine zr_ldcw (v := (-1000006)) hB lk_X7_271 dX7_copy_46 ?_
          refine zr_callV (st := []) (C := RX7) (As := [.int (-1000006)]) (embc := em_iI L) hB (mX7_finding (sK := sK) (sV := sV) hi (-1000006) I L) (zW_X7 rfl) rfl rfl lm_X7_56 q2_X7_finding q3_X7_finding q4_X7 q5_X7_finding qd_X7_finding (by decide) rfl rfl (Nat.le_of_ble_eq_true rfl) ⟨Nat.zero_le _, Nat.zero_le _⟩ dX7_copy_49 (zr_kiI (fun o39 => ?_))
          exact zr_iret hB rfl rfl dX7_copy_52
    · refine zr_aload_n hB 0 rfl rfl dX7_copy_14 ?_
      refine zr_ldc (v := (-1000001)) hB lk_X7_55 dX7_copy_15 ?_
      refine zr_callV (st := []) (C := RX7) (As := [.int (-1000001)]) (embc := em_iI L) hB (mX7_finding (sK := sK) (sV := sV) hi (-1000001) I L) (zW_X7 rfl) rfl rfl lm_X7_56 q2_X7_finding q3_X7_finding q4_X7 q5_X7_finding qd_X7_finding (by decide) rfl rfl (Nat.le_of_ble_eq_true rfl) ⟨Nat.zero_le _, Nat.zero_le _⟩ dX7_copy_17 (zr_kiI (fun o42 => ?_))
      exact zr_iret hB rfl rfl dX7_copy_20

def gX7_load_38 (a1 : Int32) (s6 : Int32 × Int32 × zI) : Option ((Int32 × Int32 × zI) ⊕ (Int32 × zI)) :=
  zg a1 4 (
  if (s6.2.2 (42 + 2 * zn a1) 1) ≤ s6.2.1 then
    some (.inr (s6.1, s6.2.2))
  else
  zb (fX7_isThing s6.2.1 s6.2.2) fun o17 =>
  if o17 = 0 then
    some (.inr (s6.1, s6.2.2))
  else
  zg a1 4 (
  zg s6.2.1 40 (
  zl (s6.2.2 (42 + 2 * zn a1 + 1) (zn s6.2.1)) fun v19 =>
  zb (fX7_isRoom v19) fun o21 =>
  if o21 = 0 then
    some (.inr (s6.1, s6.2.2))
  else
  zg s6.2.1 8 (
  zl (zup s6.2.2 4 (zn s6.2.1) v19) fun J22 =>
  zl (s6.1 + 1) fun v23 =>
  zl (s6.2.1 + 1) fun v24 =>
  some (.inl (v23, v24, J22))))))
def fX7_load (n : Nat) (a1 : Int32) (I : zI) : Option (Int32 × zI) :=
  zb (fX7_isSheet a1) fun o2 =>
  if o2 = 0 then
    zb (fX7_finding (-1000001) I) fun o30 =>
    some (o30.1, o30.2)
  else
  zg a1 4 (
  zb (fX2_isMissing (42 + 2 * zn a1) I) fun o5 =>
  if o5 = 0 then
    zb (zit (gX7_load_38 a1) n (0, 0, I)) fun x7 : Int32 × zI =>
    some (x7.1, x7.2)
  else
  zb (fX7_finding (-1000006) I) fun o27 =>
  some (o27.1, o27.2))
set_option maxHeartbeats 4000000 in
set_option maxRecDepth 100000 in
theorem mX7_load {l : Launch} {D : va_G} {T : zT} {ad sK sV : Nat → Nat} (hi : zInj ad) (n : Nat) (a1 : Int32)  (I : zI) (L : zL) : ∀ o, fX7_load n a1 I = some o → zMet l yX7_load cX7_load 5 (some .int) 2 44 D T ad sK sV [.ref (ad 0), .int a1] I L (em_iI L o) := by
  intro o ho
  refine zMet.of hi (by decide +kernel) (Nat.le_of_ble_eq_true rfl) (fun p e s m args below meth c hB => ?_)
  refine zr_top (emb := em_iI L) (t := fX7_load n a1 I) ?_ ho
  unfold fX7_load
  refine zr_iload_n hB 1 rfl rfl dX7_load_0 ?_
  refine zr_callS (st := []) (As := [.int a1]) (embc := em_i0 I L) hB (mX7_isSheet (sK := sK) (sV := sV) hi a1 I L) lm_X7_278 q2_X7_isSheet q4_X7 q5_X7_isSheet qd_X7_isSheet (by decide) rfl rfl (Nat.le_of_ble_eq_true rfl) ⟨Nat.zero_le _, Nat.zero_le _⟩ dX7_load_1 (zr_ki0 (fun o2 => ?_))
  refine zr_ifne (tgt := 14) hB (by decide) dX7_load_4 ?_ ?_
  · refine zr_aload_n hB 0 rfl rfl dX7_load_14 ?_
    refine zr_get_X7 (w := 0) (k := 6) (v := .ref (ad 40)) hB rfl (by decide) rfl lf_X7_38 rfl dX7_load_15 ?_
    refine zr_iload_n hB 1 rfl rfl dX7_load_18 ?_
    refine zr_aaloadH hB dX7_load_19 (fun h3 => ?_)
    refine zr_callV (st := []) (C := RX2) (As := []) (embc := em_i0 I L) hB (mX2_isMissing (sK := sK) (sV := sV) hi (42 + 2 * zn a1) (zS_of (vp_lt h3)) I L) (zW_X2 (zS_of (vp_lt h3))) rfl rfl lm_X7_285 q2_X2_isMissing q3_X2_isMissing q4_X2 q5_X2_isMissing qd_X2_isMissing (by decide) rfl rfl (Nat.le_of_ble_eq_true rfl) ⟨Nat.zero_le _, Nat.zero_le _⟩ dX7_load_20 (zr_ki0 (fun o5 => ?_))
    refine zr_ifeq (tgt := 34) hB (by decide) dX7_load_23 ?_ ?_
    · refine zr_iconst (v := 0) hB (by decide) dX7_load_34 ?_
      refine zr_istore_n (lv' := [(2, .int 0), (0, .ref (ad 0)), (1, .int a1)]) hB rfl (by decide) rfl dX7_load_35 ?_
      refine zr_iconst (v := 0) hB (by decide) dX7_load_36 ?_
      refine zr_istore_n (lv' := [(3, .int 0), (2, .int 0), (0, .ref (ad 0)), (1, .int a1)]) hB rfl (by decide) rfl dX7_load_37 ?_
      refine zr_join (pcJ := 103) (fun x7 : Int32 × zI => [(2, .int x7.1)]) (fun _ => []) (fun x7 => x7.2) (fun x7 => L) (fun x7 => ?_) (fun K13 hx12 => ?_)
      · refine zr_iload_n hB 0 rfl rfl dX7_load_103 ?_
        exact zr_iret hB rfl rfl dX7_load_104
      · refine zr_sub (lv' := (fun s6 : Int32 × Int32 × zI => [(2, .int s6.1), (3, .int s6.2.1), (0, .ref (ad 0)), (1, .int a1)]) (0, 0, I)) [1, 0, 2, 3] rfl (zr_loop (fun s6 : Int32 × Int32 × zI => [(2, .int s6.1), (3, .int s6.2.1), (0, .ref (ad 0)), (1, .int a1)]) (fun s6 => s6.2.2) (fun s6 => L) (fun x7 : Int32 × zI => [(2, .int x7.1)]) (fun x7 => x7.2) (fun x7 => L) hx12 (fun s6 K14 hc8 hx9 => ?_) n (0, 0, I))
        unfold gX7_load_38
        refine zr_iload_n hB 1 rfl rfl dX7_load_38 ?_
        refine zr_aload_n hB 2 rfl rfl dX7_load_39 ?_
        refine zr_get_X7 (w := 0) (k := 6) (v := .ref (ad 40)) hB rfl (by decide) rfl lf_X7_38 rfl dX7_load_40 ?_
        refine zr_iload_n hB 3 rfl rfl dX7_load_43 ?_
        refine zr_aaloadH hB dX7_load_44 (fun h15 => ?_)
        refine zr_get_X2 (w := 42 + 2 * zn a1) (k := 1) (v := .int (s6.2.2 (42 + 2 * zn a1) 1)) hB (zS_of (vp_lt h15)) (by decide) rfl lf_X7_284 rfl dX7_load_45 ?_
        refine zr_icmp_ge (tgt := 103) hB (by decide) dX7_load_48 ?_ ?_
        · exact zr_sub [0] rfl (hx9 (s6.1, s6.2.2))
        · refine zr_aload_n hB 2 rfl rfl dX7_load_51 ?_
          refine zr_iload_n hB 1 rfl rfl dX7_load_52 ?_
          refine zr_callV (st := []) (C := RX7) (As := [.int s6.2.1]) (embc := em_i0 s6.2.2 L) hB (mX7_isThing (sK := sK) (sV := sV) hi s6.2.1 s6.2.2 L) (zW_X7 rfl) rfl rfl lm_X7_84 q2_X7_isThing q3_X7_isThing q4_X7 q5_X7_isThing qd_X7_isThing (by decide) rfl rfl (Nat.le_of_ble_eq_true rfl) ⟨Nat.zero_le _, Nat.zero_le _⟩ dX7_load_53 (zr_ki0 (fun o17 => ?_))
          refine zr_ifeq (tgt := 103) hB (by decide) dX7_load_56 ?_ ?_
          · exact zr_sub [0] rfl (hx9 (s6.1, s6.2.2))
          · refine zr_aload_n hB 2 rfl rfl dX7_load_59 ?_
            refine zr_get_X7 (w := 0) (k := 6) (v := .ref (ad 40)) hB rfl (by decide) rfl lf_X7_38 rfl dX7_load_60 ?_
            refine zr_iload_n hB 3 rfl rfl dX7_load_63 ?_
            refine zr_aaloadH hB dX7_load_64 (fun h18 => ?_)
            refine zr_get_X2 (w := 42 + 2 * zn a1) (k := 2) (v := .ref (ad (42 + 2 * zn a1 + 1))) hB (zS_of (vp_lt h18)) (by decide) rfl lf_X7_298 rfl dX7_load_65 ?_
            refine zr_iload_n hB 1 rfl rfl dX7_load_68 ?_
            refine zr_iaload hB (zA_X2_1 (zS_of (vp_lt h18))) dX7_load_69 ?_
            refine zr_letI (fun v19 => ?_)
            refine zr_istore (lv' := [(4, .int v19), (2, .int s6.1), (3, .int s6.2.1), (0, .ref (ad 0)), (1, .int a1)]) hB (by decide) rfl dX7_load_70 ?_
            refine zr_iload hB 0 rfl dX7_load_72 ?_
            refine zr_callS (st := []) (As := [.int v19]) (embc := em_i0 s6.2.2 L) hB (mX7_isRoom (sK := sK) (sV := sV) hi v19 s6.2.2 L) lm_X7_47 q2_X7_isRoom q4_X7 q5_X7_isRoom qd_X7_isRoom (by decide) rfl rfl (Nat.le_of_ble_eq_true rfl) ⟨Nat.zero_le _, Nat.zero_le _⟩ dX7_load_74 (zr_ki0 (fun o21 => ?_))
            refine zr_ifne (tgt := 83) hB (by decide) dX7_load_77 ?_ ?_
            · refine zr_aload_n hB 3 rfl rfl dX7_load_83 ?_
              refine zr_get_X7 (w := 0) (k := 0) (v := .ref (ad 1)) hB rfl (by decide) rfl lf_X7_12 rfl dX7_load_84 ?_
              refine zr_get_X6 (w := 1) (k := 6) (v := .ref (ad 4)) hB (Or.inl rfl) (by decide) rfl lf_X7_150 rfl dX7_load_87 ?_
              refine zr_iload_n hB 2 rfl rfl dX7_load_90 ?_
              refine zr_iload hB 0 rfl dX7_load_91 ?_
              refine zr_iastore hB zA_4 dX7_load_93 ?_
              refine zr_letM (fun J22 => ?_)
              refine zr_iincL hB (j := 1) (n := 1) (w := 1) rfl (by decide) (by decide) dX7_load_94 (fun v23 lv' hlv => ?_)
              obtain rfl : lv' = [(2, .int v23), (4, .int v19), (3, .int s6.2.1), (0, .ref (ad 0)), (1, .int a1)] := hlv.symm.trans rfl
              refine zr_iincL hB (j := 2) (n := 1) (w := 1) rfl (by decide) (by decide) dX7_load_97 (fun v24 lv' hlv => ?_)
              obtain rfl : lv' = [(3, .int v24), (2, .int v23), (4, .int v19), (0, .ref (ad 0)), (1, .int a1)] := hlv.symm.trans rfl
              refine zr_goto (tgt := 38) hB (by decide) dX7_load_100 ?_
              exact zr_sub [1, 0, 3, 4] rfl (hc8 (v23, v24, J22))
            · refine zr_goto (tgt := 103) hB (by decide) dX7_load_80 ?_
              exact zr_sub [1] rfl (hx9 (s6.1, s6.2.2))
    · refine zr_aload_n hB 0 rfl rfl dX7_load_26 ?_
      refine zr_ldcw (v := (-1000006)) hB lk_X7_271 dX7_load_27 ?_
      refine zr_callV (st := []) (C := RX7) (As := [.int (-1000006)]) (embc := em_iI L) hB (mX7_finding (sK := sK) (sV := sV) hi (-1000006) I L) (zW_X7 rfl) rfl rfl lm_X7_56 q2_X7_finding q3_X7_finding q4_X7 q5_X7_finding qd_X7_finding (by decide) rfl rfl (Nat.le_of_ble_eq_true rfl) ⟨Nat.zero_le _, Nat.zero_le _⟩ dX7_load_30 (zr_kiI (fun o27 => ?_))
      exact zr_iret hB rfl rfl dX7_load_33
  · refine zr_aload_n hB 0 rfl rfl dX7_load_7 ?_
    refine zr_ldc (v := (-1000001)) hB lk_X7_55 dX7_load_8 ?_
    refine zr_callV (st := []) (C := RX7) (As := [.int (-1000001)]) (embc := em_iI L) hB (mX7_finding (sK := sK) (sV := sV) hi (-1000001) I L) (zW_X7 rfl) rfl rfl lm_X7_56 q2_X7_finding q3_X7_finding q4_X7 q5_X7_finding qd_X7_finding (by decide) rfl rfl (Nat.le_of_ble_eq_true rfl) ⟨Nat.zero_le _, Nat.zero_le _⟩ dX7_load_10 (zr_kiI (fun o30 => ?_))
    exact zr_iret hB rfl rfl dX7_load_13

