def gX8_brings_4  (s1 : Int32 × zI) : Option ((Int32 × zI) ⊕ (zI)) :=
  if s1.1 < 5 then
    some (.inr s1.2)
  else
  zg ((60 + s1.1) - 5) 120 (
  zg (60 + s1.1) 120 (
  zl (zup s1.2 51 (zn (60 + s1.1)) (s1.2 51 (zn ((60 + s1.1) - 5)))) fun J10 =>
  zl (s1.1 + (-1)) fun v11 =>
  some (.inl (v11, J10))))
def fX8_brings (n : Nat) (a1 : Int32) (a2 : Int32) (a3 : Int32) (a4 : Int32) (I : zI) : Option (Int32 × zI) :=
  zb (zit gX8_brings_4 n (59, I)) fun x2 : zI =>
  zg 60 120 (
  zl (zup x2 51 (zn 60) a1) fun J12 =>
  zg 61 120 (
  zl (zup J12 51 (zn 61) a2) fun J13 =>
  zg (36 + a2) 120 (
  zg 62 120 (
  zl (zup J13 51 (zn 62) (J13 51 (zn (36 + a2)))) fun J14 =>
  zg 63 120 (
  zl (zup J14 51 (zn 63) a3) fun J15 =>
  zg 64 120 (
  zl (zup J15 51 (zn 64) a4) fun J16 =>
  zg 17 120 (
  zg 17 120 (
  zl (zup J16 51 (zn 17) (if (J16 51 (zn 17)) + 1 < 12 then (J16 51 (zn 17)) + 1 else 12)) fun J17 =>
  zg (36 + a2) 120 (
  zl (zup J17 51 (zn (36 + a2)) a3) fun J18 =>
  zg 13 120 (
  zg 13 120 (
  zl (zup J18 51 (zn 13) ((J18 51 (zn 13)) + 1)) fun J19 =>
  zg 14 120 (
  zg 14 120 (
  zl (zup J19 51 (zn 14) ((J19 51 (zn 14)) + a4)) fun J20 =>
  some (a4, J20))))))))))))))
set_option maxHeartbeats 4000000 in
set_option maxRecDepth 100000 in
theorem mX8_brings {l : Launch} {D : va_G} {T : zT} {ad sK sV : Nat → Nat} (hi : zInj ad) (n : Nat) (a1 : Int32) (a2 : Int32) (a3 : Int32) (a4 : Int32)  (I : zI) (L : zL) : ∀ o, fX8_brings n a1 a2 a3 a4 I = some o → zMet l yX8_brings cX8_brings 6 (some .int) 1 21 D T ad sK sV [.ref (ad 50), .int a1, .int a2, .int a3, .int a4] I L (em_iI L o) := by
  intro o ho
  refine zMet.of hi (by decide +kernel) (Nat.le_of_ble_eq_true rfl) (fun p e s m args below meth c hB => ?_)
  refine zr_top (emb := em_iI L) (t := fX8_brings n a1 a2 a3 a4 I) ?_ ho
  unfold fX8_brings
  refine zr_bipush (v := 59) hB (by decide) dX8_brings_0 ?_
  refine zr_istore (lv' := [(5, .int 59), (0, .ref (ad 50)), (1, .int a1), (2, .int a2), (3, .int a3), (4, .int a4)]) hB (by decide) rfl dX8_brings_2 ?_
  refine zr_join (pcJ := 38) (fun x2 : zI => [(0, .ref (ad 50)), (1, .int a1), (2, .int a2), (3, .int a3), (4, .int a4)]) (fun _ => []) (fun x2 => x2) (fun x2 => L) (fun x2 => ?_) (fun K8 hx7 => ?_)
  · refine zr_aload_n hB 0 rfl rfl dX8_brings_38 ?_
    refine zr_get_X8 (w := 50) (k := 0) (v := .ref (ad 51)) hB rfl (by decide) rfl lf_X8_9 rfl dX8_brings_39 ?_
    refine zr_bipush (v := 60) hB (by decide) dX8_brings_42 ?_
    refine zr_iload_n hB 1 rfl rfl dX8_brings_44 ?_
    refine zr_iastore hB zA_51 dX8_brings_45 ?_
    refine zr_letM (fun J12 => ?_)
    refine zr_aload_n hB 0 rfl rfl dX8_brings_46 ?_
    refine zr_get_X8 (w := 50) (k := 0) (v := .ref (ad 51)) hB rfl (by decide) rfl lf_X8_9 rfl dX8_brings_47 ?_
    refine zr_bipush (v := 61) hB (by decide) dX8_brings_50 ?_
    refine zr_iload_n hB 2 rfl rfl dX8_brings_52 ?_
    refine zr_iastore hB zA_51 dX8_brings_53 ?_
    refine zr_letM (fun J13 => ?_)
    refine zr_aload_n hB 0 rfl rfl dX8_brings_54 ?_
    refine zr_get_X8 (w := 50) (k := 0) (v := .ref (ad 51)) hB rfl (by decide) rfl lf_X8_9 rfl dX8_brings_55 ?_
    refine zr_bipush (v := 62) hB (by decide) dX8_brings_58 ?_
    refine zr_aload_n hB 0 rfl rfl dX8_brings_60 ?_
    refine zr_get_X8 (w := 50) (k := 0) (v := .ref (ad 51)) hB rfl (by decide) rfl lf_X8_9 rfl dX8_brings_61 ?_
    refine zr_bipush (v := 36) hB (by decide) dX8_brings_64 ?_
    refine zr_iload_n hB 2 rfl rfl dX8_brings_66 ?_
    refine zr_iadd hB dX8_brings_67 ?_
    refine zr_iaload hB zA_51 dX8_brings_68 ?_
    refine zr_iastore hB zA_51 dX8_brings_69 ?_
    refine zr_letM (fun J14 => ?_)
    refine zr_aload_n hB 0 rfl rfl dX8_brings_70 ?_
    refine zr_get_X8 (w := 50) (k := 0) (v := .ref (ad 51)) hB rfl (by decide) rfl lf_X8_9 rfl dX8_brings_71 ?_
    refine zr_bipush (v := 63) hB (by decide) dX8_brings_74 ?_
    refine zr_iload_n hB 3 rfl rfl dX8_brings_76 ?_
    refine zr_iastore hB zA_51 dX8_brings_77 ?_
    refine zr_letM (fun J15 => ?_)
    refine zr_aload_n hB 0 rfl rfl dX8_brings_78 ?_
    refine zr_get_X8 (w := 50) (k := 0) (v := .ref (ad 51)) hB rfl (by decide) rfl lf_X8_9 rfl dX8_brings_79 ?_
    refine zr_bipush (v := 64) hB (by decide) dX8_brings_82 ?_
    refine zr_iload hB 4 rfl dX8_brings_84 ?_
    refine zr_iastore hB zA_51 dX8_brings_86 ?_
    refine zr_letM (fun J16 => ?_)
    refine zr_aload_n hB 0 rfl rfl dX8_brings_87 ?_
    refine zr_get_X8 (w := 50) (k := 0) (v := .ref (ad 51)) hB rfl (by decide) rfl lf_X8_9 rfl dX8_brings_88 ?_
    refine zr_bipush (v := 17) hB (by decide) dX8_brings_91 ?_
    refine zr_bipush (v := 12) hB (by decide) dX8_brings_93 ?_
    refine zr_aload_n hB 0 rfl rfl dX8_brings_95 ?_
    refine zr_get_X8 (w := 50) (k := 0) (v := .ref (ad 51)) hB rfl (by decide) rfl lf_X8_9 rfl dX8_brings_96 ?_
    refine zr_bipush (v := 17) hB (by decide) dX8_brings_99 ?_
    refine zr_iaload hB zA_51 dX8_brings_101 ?_
    refine zr_iconst (v := 1) hB (by decide) dX8_brings_102 ?_
    refine zr_iadd hB dX8_brings_103 ?_
    refine zr_min hB (by decide) (by decide) (Nat.le_of_ble_eq_true rfl) ⟨Nat.zero_le _, Nat.zero_le _⟩ lm_X8_124 dX8_brings_104 ?_
    refine zr_iastore hB zA_51 dX8_brings_107 ?_
    refine zr_letM (fun J17 => ?_)
    refine zr_aload_n hB 0 rfl rfl dX8_brings_108 ?_
    refine zr_get_X8 (w := 50) (k := 0) (v := .ref (ad 51)) hB rfl (by decide) rfl lf_X8_9 rfl dX8_brings_109 ?_
    refine zr_bipush (v := 36) hB (by decide) dX8_brings_112 ?_
    refine zr_iload_n hB 2 rfl rfl dX8_brings_114 ?_
    refine zr_iadd hB dX8_brings_115 ?_
    refine zr_iload_n hB 3 rfl rfl dX8_brings_116 ?_
    refine zr_iastore hB zA_51 dX8_brings_117 ?_
    refine zr_letM (fun J18 => ?_)
    refine zr_aload_n hB 0 rfl rfl dX8_brings_118 ?_
    refine zr_get_X8 (w := 50) (k := 0) (v := .ref (ad 51)) hB rfl (by decide) rfl lf_X8_9 rfl dX8_brings_119 ?_
    refine zr_bipush (v := 13) hB (by decide) dX8_brings_122 ?_
    refine zr_dup2 hB rfl rfl dX8_brings_124 ?_
    refine zr_iaload hB zA_51 dX8_brings_125 ?_
    refine zr_iconst (v := 1) hB (by decide) dX8_brings_126 ?_
    refine zr_iadd hB dX8_brings_127 ?_
    refine zr_iastore hB zA_51 dX8_brings_128 ?_
    refine zr_letM (fun J19 => ?_)
    refine zr_aload_n hB 0 rfl rfl dX8_brings_129 ?_
    refine zr_get_X8 (w := 50) (k := 0) (v := .ref (ad 51)) hB rfl (by decide) rfl lf_X8_9 rfl dX8_brings_130 ?_
    refine zr_bipush (v := 14) hB (by decide) dX8_brings_133 ?_
    refine zr_dup2 hB rfl rfl dX8_brings_135 ?_
    refine zr_iaload hB zA_51 dX8_brings_136 ?_
    refine zr_iload hB 4 rfl dX8_brings_137 ?_
    refine zr_iadd hB dX8_brings_139 ?_
    refine zr_iastore hB zA_51 dX8_brings_140 ?_
    refine zr_letM (fun J20 => ?_)
    refine zr_iload hB 4 rfl dX8_brings_141 ?_
    exact zr_iret hB rfl rfl dX8_brings_143
  · refine zr_sub (lv' := (fun s1 : Int32 × zI => [(5, .int s1.1), (0, .ref (ad 50)), (1, .int a1), (2, .int a2), (3, .int a3), (4, .int a4)]) (59, I)) [0, 1, 2, 3, 4, 5] rfl (zr_loop (fun s1 : Int32 × zI => [(5, .int s1.1), (0, .ref (ad 50)), (1, .int a1), (2, .int a2), (3, .int a3), (4, .int a4)]) (fun s1 => s1.2) (fun s1 => L) (fun x2 : zI => [(0, .ref (ad 50)), (1, .int a1), (2, .int a2), (3, .int a3), (4, .int a4)]) (fun x2 => x2) (fun x2 => L) hx7 (fun s1 K9 hc3 hx4 => ?_) n (59, I))
    unfold gX8_brings_4
    refine zr_iload hB 0 rfl dX8_brings_4 ?_
    refine zr_iconst (v := 5) hB (by decide) dX8_brings_6 ?_
    refine zr_icmp_lt (tgt := 38) hB (by decide) dX8_brings_7 ?_ ?_
    · exact zr_sub [1, 2, 3, 4, 5] rfl (hx4 s1.2)
    · refine zr_aload_n hB 1 rfl rfl dX8_brings_10 ?_
      refine zr_get_X8 (w := 50) (k := 0) (v := .ref (ad 51)) hB rfl (by decide) rfl lf_X8_9 rfl dX8_brings_11 ?_
      refine zr_bipush (v := 60) hB (by decide) dX8_brings_14 ?_
      refine zr_iload hB 0 rfl dX8_brings_16 ?_
      refine zr_iadd hB dX8_brings_18 ?_
      refine zr_aload_n hB 1 rfl rfl dX8_brings_19 ?_
      refine zr_get_X8 (w := 50) (k := 0) (v := .ref (ad 51)) hB rfl (by decide) rfl lf_X8_9 rfl dX8_brings_20 ?_
      refine zr_bipush (v := 60) hB (by decide) dX8_brings_23 ?_
      refine zr_iload hB 0 rfl dX8_brings_25 ?_
      refine zr_iadd hB dX8_brings_27 ?_
      refine zr_iconst (v := 5) hB (by decide) dX8_brings_28 ?_
      refine zr_isub hB dX8_brings_29 ?_
      refine zr_iaload hB zA_51 dX8_brings_30 ?_
      refine zr_iastore hB zA_51 dX8_brings_31 ?_
      refine zr_letM (fun J10 => ?_)
      refine zr_iincL hB (j := 0) (n := -1) (w := (-1)) rfl (by decide) (by decide) dX8_brings_32 (fun v11 lv' hlv => ?_)
      obtain rfl : lv' = [(5, .int v11), (0, .ref (ad 50)), (1, .int a1), (2, .int a2), (3, .int a3), (4, .int a4)] := hlv.symm.trans rfl
      refine zr_goto (tgt := 4) hB (by decide) dX8_brings_35 ?_
      exact zr_sub [0, 1, 2, 3, 4, 5] rfl (hc3 (v11, J10))

def fX8_carry (n : Nat) (a1 : Int32) (a2 : Int32) (a3 : Int32) (I : zI) : Option (Int32 × zI) :=
  zb (fX8_isOne a1 I) fun o2 =>
  if o2 = 0 then
    zb (fX8_finding 0 I) fun o5 =>
    some (o5.1, o5.2)
  else
  zb (fX8_isThing a2 I) fun o7 =>
  if o7 = 0 then
    zb (fX8_finding 0 I) fun o10 =>
    some (o10.1, o10.2)
  else
  zb (fX8_isRoom a3) fun o12 =>
  if o12 = 0 then
    zb (fX8_finding 0 I) fun o30 =>
    some (o30.1, o30.2)
  else
  zb (fX8_canCarry a1 a2 a3 I) fun o14 =>
  if o14 = 0 then
    zb (fX8_finding 4 I) fun o27 =>
    some (o27.1, o27.2)
  else
  zb (fX8_standing n a3 a1 I) fun o16 =>
  zb (fX8_brings n a1 a2 a3 o16 I) fun o19 =>
  zb (fX8_levelOf a1 o19.2) fun o21 =>
  zb (fX8_goes a1 o21 a3 o19.2) fun o24 =>
  some (o19.1, o24)
set_option maxHeartbeats 4000000 in
set_option maxRecDepth 100000 in
theorem mX8_carry {l : Launch} {D : va_G} {T : zT} {ad sK sV : Nat → Nat} (hi : zInj ad) (n : Nat) (a1 : Int32) (a2 : Int32) (a3 : Int32)  (I : zI) (L : zL) : ∀ o, fX8_carry n a1 a2 a3 I = some o → zMet l yX8_carry cX8_carry 5 (some .int) 3 68 D T ad sK sV [.ref (ad 50), .int a1, .int a2, .int a3] I L (em_iI L o) := by
  intro o ho
  refine zMet.of hi (by decide +kernel) (Nat.le_of_ble_eq_true rfl) (fun p e s m args below meth c hB => ?_)
  refine zr_top (emb := em_iI L) (t := fX8_carry n a1 a2 a3 I) ?_ ho
  unfold fX8_carry
  refine zr_aload_n hB 0 rfl rfl dX8_carry_0 ?_
  refine zr_iload_n hB 1 rfl rfl dX8_carry_1 ?_
  refine zr_callV (st := []) (C := RX8) (As := [.int a1]) (embc := em_i0 I L) hB (mX8_isOne (sK := sK) (sV := sV) hi a1 I L) (zW_X8 rfl) rfl rfl lm_X8_106 q2_X8_isOne q3_X8_isOne q4_X8 q5_X8_isOne qd_X8_isOne (by decide) rfl rfl (Nat.le_of_ble_eq_true rfl) ⟨Nat.zero_le _, Nat.zero_le _⟩ dX8_carry_2 (zr_ki0 (fun o2 => ?_))
  refine zr_ifeq (tgt := 23) hB (by decide) dX8_carry_5 ?_ ?_
  · refine zr_aload_n hB 0 rfl rfl dX8_carry_23 ?_
    refine zr_iconst (v := 0) hB (by decide) dX8_carry_24 ?_
    refine zr_callV (st := []) (C := RX8) (As := [.int 0]) (embc := em_iI L) hB (mX8_finding (sK := sK) (sV := sV) hi 0 I L) (zW_X8 rfl) rfl rfl lm_X8_74 q2_X8_finding q3_X8_finding q4_X8 q5_X8_finding qd_X8_finding (by decide) rfl rfl (Nat.le_of_ble_eq_true rfl) ⟨Nat.zero_le _, Nat.zero_le _⟩ dX8_carry_25 (zr_kiI (fun o5 => ?_))
    exact zr_iret hB rfl rfl dX8_carry_28
  · refine zr_aload_n hB 0 rfl rfl dX8_carry_8 ?_
    refine zr_iload_n hB 2 rfl rfl dX8_carry_9 ?_
    refine zr_callV (st := []) (C := RX8) (As := [.int a2]) (embc := em_i0 I L) hB (mX8_isThing (sK := sK) (sV := sV) hi a2 I L) (zW_X8 rfl) rfl rfl lm_X8_90 q2_X8_isThing q3_X8_isThing q4_X8 q5_X8_isThing qd_X8_isThing (by decide) rfl rfl (Nat.le_of_ble_eq_true rfl) ⟨Nat.zero_le _, Nat.zero_le _⟩ dX8_carry_10 (zr_ki0 (fun o7 => ?_))
    refine zr_ifeq (tgt := 23) hB (by decide) dX8_carry_13 ?_ ?_
    · refine zr_aload_n hB 0 rfl rfl dX8_carry_23 ?_
      refine zr_iconst (v := 0) hB (by decide) dX8_carry_24 ?_
      refine zr_callV (st := []) (C := RX8) (As := [.int 0]) (embc := em_iI L) hB (mX8_finding (sK := sK) (sV := sV) hi 0 I L) (zW_X8 rfl) rfl rfl lm_X8_74 q2_X8_finding q3_X8_finding q4_X8 q5_X8_finding qd_X8_finding (by decide) rfl rfl (Nat.le_of_ble_eq_true rfl) ⟨Nat.zero_le _, Nat.zero_le _⟩ dX8_carry_25 (zr_kiI (fun o10 => ?_))
      exact zr_iret hB rfl rfl dX8_carry_28
    · refine zr_iload_n hB 3 rfl rfl dX8_carry_16 ?_
      refine zr_callS (st := []) (As := [.int a3]) (embc := em_i0 I L) hB (mX8_isRoom (sK := sK) (sV := sV) hi a3 I L) lm_X8_70 q2_X8_isRoom q4_X8 q5_X8_isRoom qd_X8_isRoom (by decide) rfl rfl (Nat.le_of_ble_eq_true rfl) ⟨Nat.zero_le _, Nat.zero_le _⟩ dX8_carry_17 (zr_ki0 (fun o12 => ?_))
      refine zr_ifne (tgt := 29) hB (by decide) dX8_carry_20 ?_ ?_
      · refine zr_aload_n hB 0 rfl rfl dX8_carry_29 ?_
        refine zr_iload_n hB 1 rfl rfl dX8_carry_30 ?_
        refine zr_iload_n hB 2 rfl rfl dX8_carry_31 ?_
        refine zr_iload_n hB 3 rfl rfl dX8_carry_32 ?_
        refine zr_callV (st := []) (C := RX8) (As := [.int a1, .int a2, .int a3]) (embc := em_i0 I L) hB (mX8_canCarry (sK := sK) (sV := sV) hi a1 a2 a3 I L) (zW_X8 rfl) rfl rfl lm_X8_129 q2_X8_canCarry q3_X8_canCarry q4_X8 q5_X8_canCarry qd_X8_canCarry (by decide) rfl rfl (Nat.le_of_ble_eq_true rfl) ⟨Nat.zero_le _, Nat.zero_le _⟩ dX8_carry_33 (zr_ki0 (fun o14 => ?_))
        refine zr_ifne (tgt := 45) hB (by decide) dX8_carry_36 ?_ ?_
        · refine zr_aload_n hB 0 rfl rfl dX8_carry_45 ?_
          refine zr_iload_n hB 1 rfl rfl dX8_carry_46 ?_
          refine zr_iload_n hB 2 rfl rfl dX8_carry_47 ?_
          refine zr_iload_n hB 3 rfl rfl dX8_carry_48 ?_
          refine zr_aload_n hB 0 rfl rfl dX8_carry_49 ?_
          refine zr_iload_n hB 3 rfl rfl dX8_carry_50 ?_
          refine zr_iload_n hB 1 rfl rfl dX8_carry_51 ?_
          refine zr_callV (st := [.int a3, .int a2, .int a1, .ref (ad 50)]) (C := RX8) (As := [.int a3, .int a1]) (embc := em_i0 I L) hB (mX8_standing (sK := sK) (sV := sV) hi n a3 a1 I L) (zW_X8 rfl) rfl rfl lm_X8_133 q2_X8_standing q3_X8_standing q4_X8 q5_X8_standing qd_X8_standing (by decide) rfl rfl (Nat.le_of_ble_eq_true rfl) ⟨Nat.zero_le _, Nat.zero_le _⟩ dX8_carry_52 (zr_ki0 (fun o16 => ?_))
          refine zr_callV (st := []) (C := RX8) (As := [.int a1, .int a2, .int a3, .int o16]) (embc := em_iI L) hB (mX8_brings (sK := sK) (sV := sV) hi n a1 a2 a3 o16 I L) (zW_X8 rfl) rfl rfl lm_X8_136 q2_X8_brings q3_X8_brings q4_X8 q5_X8_brings qd_X8_brings (by decide) rfl rfl (Nat.le_of_ble_eq_true rfl) ⟨Nat.zero_le _, Nat.zero_le _⟩ dX8_carry_55 (zr_kiI (fun o19 => ?_))
          refine zr_istore (lv' := [(4, .int o19.1), (0, .ref (ad 50)), (1, .int a1), (2, .int a2), (3, .int a3)]) hB (by decide) rfl dX8_carry_58 ?_
          refine zr_aload_n hB 1 rfl rfl dX8_carry_60 ?_
          refine zr_iload_n hB 2 rfl rfl dX8_carry_61 ?_
          refine zr_aload_n hB 1 rfl rfl dX8_carry_62 ?_
          refine zr_iload_n hB 2 rfl rfl dX8_carry_63 ?_
          refine zr_callV (st := [.int a1, .ref (ad 50)]) (C := RX8) (As := [.int a1]) (embc := em_i0 o19.2 L) hB (mX8_levelOf (sK := sK) (sV := sV) hi a1 o19.2 L) (zW_X8 rfl) rfl rfl lm_X8_115 q2_X8_levelOf q3_X8_levelOf q4_X8 q5_X8_levelOf qd_X8_levelOf (by decide) rfl rfl (Nat.le_of_ble_eq_true rfl) ⟨Nat.zero_le _, Nat.zero_le _⟩ dX8_carry_64 (zr_ki0 (fun o21 => ?_))
          refine zr_iload_n hB 4 rfl rfl dX8_carry_67 ?_
          refine zr_callV (st := []) (C := RX8) (As := [.int a1, .int o21, .int a3]) (embc := em_vI L) hB (mX8_goes (sK := sK) (sV := sV) hi a1 o21 a3 o19.2 L) (zW_X8 rfl) rfl rfl lm_X8_118 q2_X8_goes q3_X8_goes q4_X8 q5_X8_goes qd_X8_goes (by decide) rfl rfl (Nat.le_of_ble_eq_true rfl) ⟨Nat.zero_le _, Nat.zero_le _⟩ dX8_carry_68 (zr_kvI (fun o24 => ?_))
          refine zr_iload hB 0 rfl dX8_carry_71 ?_
          exact zr_iret hB rfl rfl dX8_carry_73
        · refine zr_aload_n hB 0 rfl rfl dX8_carry_39 ?_
          refine zr_iconst (v := 4) hB (by decide) dX8_carry_40 ?_
          refine zr_callV (st := []) (C := RX8) (As := [.int 4]) (embc := em_iI L) hB (mX8_finding (sK := sK) (sV := sV) hi 4 I L) (zW_X8 rfl) rfl rfl lm_X8_74 q2_X8_finding q3_X8_finding q4_X8 q5_X8_finding qd_X8_finding (by decide) rfl rfl (Nat.le_of_ble_eq_true rfl) ⟨Nat.zero_le _, Nat.zero_le _⟩ dX8_carry_41 (zr_kiI (fun o27 => ?_))
          exact zr_iret hB rfl rfl dX8_carry_44
      · refine zr_aload_n hB 0 rfl rfl dX8_carry_23 ?_
        refine zr_iconst (v := 0) hB (by decide) dX8_carry_24 ?_
        refine zr_callV (st := []) (C := RX8) (As := [.int 0]) (embc := em_iI L) hB (mX8_finding (sK := sK) (sV := sV) hi 0 I L) (zW_X8 rfl) rfl rfl lm_X8_74 q2_X8_finding q3_X8_finding q4_X8 q5_X8_finding qd_X8_finding (by decide) rfl rfl (Nat.le_of_ble_eq_true rfl) ⟨Nat.zero_le _, Nat.zero_le _⟩ dX8_carry_25 (zr_kiI (fun o30 => ?_))
        exact zr_iret hB rfl rfl dX8_carry_28

def fX8_reach (n : Nat) (a1 : Int32) (a2 : Int32) (a3 : Int32) (I : zI) : Option (Int32 × zI) :=
  zb (fX8_isOne a1 I) fun o2 =>
  if o2 = 0 then
    zb (fX8_finding 0 I) fun o5 =>
    some (o5.1, o5.2)
  else
  zb (fX8_isThing a2 I) fun o7 =>
  if o7 = 0 then
    zb (fX8_finding 0 I) fun o10 =>
    some (o10.1, o10.2)
  else
  zb (fX8_isRoom a3) fun o12 =>
  if o12 = 0 then
    zb (fX8_finding 0 I) fun o25 =>
    some (o25.1, o25.2)
  else
  zb (fX8_canReach a1 a2 a3 I) fun o14 =>
  if o14 = 0 then
    zb (fX8_finding 4 I) fun o17 =>
    some (o17.1, o17.2)
  else
  zb (fX8_standing n a3 (-1) I) fun o19 =>
  zb (fX8_brings n a1 a2 a3 o19 I) fun o22 =>
  some (o22.1, o22.2)
set_option maxHeartbeats 4000000 in
set_option maxRecDepth 100000 in
theorem mX8_reach {l : Launch} {D : va_G} {T : zT} {ad sK sV : Nat → Nat} (hi : zInj ad) (n : Nat) (a1 : Int32) (a2 : Int32) (a3 : Int32)  (I : zI) (L : zL) : ∀ o, fX8_reach n a1 a2 a3 I = some o → zMet l yX8_reach cX8_reach 4 (some .int) 3 68 D T ad sK sV [.ref (ad 50), .int a1, .int a2, .int a3] I L (em_iI L o) := by
  intro o ho
  refine zMet.of hi (by decide +kernel) (Nat.le_of_ble_eq_true rfl) (fun p e s m args below meth c hB => ?_)
  refine zr_top (emb := em_iI L) (t := fX8_reach n a1 a2 a3 I) ?_ ho
  unfold fX8_reach
  refine zr_aload_n hB 0 rfl rfl dX8_reach_0 ?_
  refine zr_iload_n hB 1 rfl rfl dX8_reach_1 ?_
  refine zr_callV (st := []) (C := RX8) (As := [.int a1]) (embc := em_i0 I L) hB (mX8_isOne (sK := sK) (sV := sV) hi a1 I L) (zW_X8 rfl) rfl rfl lm_X8_106 q2_X8_isOne q3_X8_isOne q4_X8 q5_X8_isOne qd_X8_isOne (by decide) rfl rfl (Nat.le_of_ble_eq_true rfl) ⟨Nat.zero_le _, Nat.zero_le _⟩ dX8_reach_2 (zr_ki0 (fun o2 => ?_))
  refine zr_ifeq (tgt := 23) hB (by decide) dX8_reach_5 ?_ ?_
  · refine zr_aload_n hB 0 rfl rfl dX8_reach_23 ?_
    refine zr_iconst (v := 0) hB (by decide) dX8_reach_24 ?_
    refine zr_callV (st := []) (C := RX8) (As := [.int 0]) (embc := em_iI L) hB (mX8_finding (sK := sK) (sV := sV) hi 0 I L) (zW_X8 rfl) rfl rfl lm_X8_74 q2_X8_finding q3_X8_finding q4_X8 q5_X8_finding qd_X8_finding (by decide) rfl rfl (Nat.le_of_ble_eq_true rfl) ⟨Nat.zero_le _, Nat.zero_le _⟩ dX8_reach_25 (zr_kiI (fun o5 => ?_))
    exact zr_iret hB rfl rfl dX8_reach_28
  · refine zr_aload_n hB 0 rfl rfl dX8_reach_8 ?_
    refine zr_iload_n hB 2 rfl rfl dX8_reach_9 ?_
    refine zr_callV (st := []) (C := RX8) (As := [.int a2]) (embc := em_i0 I L) hB (mX8_isThing (sK := sK) (sV := sV) hi a2 I L) (zW_X8 rfl) rfl rfl lm_X8_90 q2_X8_isThing q3_X8_isThing q4_X8 q5_X8_isThing qd_X8_isThing (by decide) rfl rfl (Nat.le_of_ble_eq_true rfl) ⟨Nat.zero_le _, Nat.zero_le _⟩ dX8_reach_10 (zr_ki0 (fun o7 => ?_))
    refine zr_ifeq (tgt := 23) hB (by decide) dX8_reach_13 ?_ ?_
    · refine zr_aload_n hB 0 rfl rfl dX8_reach_23 ?_
      refine zr_iconst (v := 0) hB (by decide) dX8_reach_24 ?_
      refine zr_callV (st := []) (C := RX8) (As := [.int 0]) (embc := em_iI L) hB (mX8_finding (sK := sK) (sV := sV) hi 0 I L) (zW_X8 rfl) rfl rfl lm_X8_74 q2_X8_finding q3_X8_finding q4_X8 q5_X8_finding qd_X8_finding (by decide) rfl rfl (Nat.le_of_ble_eq_true rfl) ⟨Nat.zero_le _, Nat.zero_le _⟩ dX8_reach_25 (zr_kiI (fun o10 => ?_))
      exact zr_iret hB rfl rfl dX8_reach_28
    · refine zr_iload_n hB 3 rfl rfl dX8_reach_16 ?_
      refine zr_callS (st := []) (As := [.int a3]) (embc := em_i0 I L) hB (mX8_isRoom (sK := sK) (sV := sV) hi a3 I L) lm_X8_70 q2_X8_isRoom q4_X8 q5_X8_isRoom qd_X8_isRoom (by decide) rfl rfl (Nat.le_of_ble_eq_true rfl) ⟨Nat.zero_le _, Nat.zero_le _⟩ dX8_reach_17 (zr_ki0 (fun o12 => ?_))
      refine zr_ifne (tgt := 29) hB (by decide) dX8_reach_20 ?_ ?_
      · refine zr_aload_n hB 0 rfl rfl dX8_reach_29 ?_
        refine zr_iload_n hB 1 rfl rfl dX8_reach_30 ?_
        refine zr_iload_n hB 2 rfl rfl dX8_reach_31 ?_
        refine zr_iload_n hB 3 rfl rfl dX8_reach_32 ?_
        refine zr_callV (st := []) (C := RX8) (As := [.int a1, .int a2, .int a3]) (embc := em_i0 I L) hB (mX8_canReach (sK := sK) (sV := sV) hi a1 a2 a3 I L) (zW_X8 rfl) rfl rfl lm_X8_140 q2_X8_canReach q3_X8_canReach q4_X8 q5_X8_canReach qd_X8_canReach (by decide) rfl rfl (Nat.le_of_ble_eq_true rfl) ⟨Nat.zero_le _, Nat.zero_le _⟩ dX8_reach_33 (zr_ki0 (fun o14 => ?_))
        refine zr_ifeq (tgt := 55) hB (by decide) dX8_reach_36 ?_ ?_
        · refine zr_aload_n hB 0 rfl rfl dX8_reach_55 ?_
          refine zr_iconst (v := 4) hB (by decide) dX8_reach_56 ?_
          refine zr_callV (st := []) (C := RX8) (As := [.int 4]) (embc := em_iI L) hB (mX8_finding (sK := sK) (sV := sV) hi 4 I L) (zW_X8 rfl) rfl rfl lm_X8_74 q2_X8_finding q3_X8_finding q4_X8 q5_X8_finding qd_X8_finding (by decide) rfl rfl (Nat.le_of_ble_eq_true rfl) ⟨Nat.zero_le _, Nat.zero_le _⟩ dX8_reach_57 (zr_kiI (fun o17 => ?_))
          exact zr_iret hB rfl rfl dX8_reach_60
        · refine zr_aload_n hB 0 rfl rfl dX8_reach_39 ?_
          refine zr_iload_n hB 1 rfl rfl dX8_reach_40 ?_
          refine zr_iload_n hB 2 rfl rfl dX8_reach_41 ?_
          refine zr_iload_n hB 3 rfl rfl dX8_reach_42 ?_
          refine zr_aload_n hB 0 rfl rfl dX8_reach_43 ?_
          refine zr_iload_n hB 3 rfl rfl dX8_reach_44 ?_
          refine zr_iconst (v := (-1)) hB (by decide) dX8_reach_45 ?_
          refine zr_callV (st := [.int a3, .int a2, .int a1, .ref (ad 50)]) (C := RX8) (As := [.int a3, .int (-1)]) (embc := em_i0 I L) hB (mX8_standing (sK := sK) (sV := sV) hi n a3 (-1) I L) (zW_X8 rfl) rfl rfl lm_X8_133 q2_X8_standing q3_X8_standing q4_X8 q5_X8_standing qd_X8_standing (by decide) rfl rfl (Nat.le_of_ble_eq_true rfl) ⟨Nat.zero_le _, Nat.zero_le _⟩ dX8_reach_46 (zr_ki0 (fun o19 => ?_))
          refine zr_callV (st := []) (C := RX8) (As := [.int a1, .int a2, .int a3, .int o19]) (embc := em_iI L) hB (mX8_brings (sK := sK) (sV := sV) hi n a1 a2 a3 o19 I L) (zW_X8 rfl) rfl rfl lm_X8_136 q2_X8_brings q3_X8_brings q4_X8 q5_X8_brings qd_X8_brings (by decide) rfl rfl (Nat.le_of_ble_eq_true rfl) ⟨Nat.zero_le _, Nat.zero_le _⟩ dX8_reach_49 (zr_kiI (fun o22 => ?_))
          refine zr_goto (tgt := 60) hB (by decide) dX8_reach_52 ?_
          exact zr_iret hB rfl rfl dX8_reach_60
      · refine zr_aload_n hB 0 rfl rfl dX8_reach_23 ?_
        refine zr_iconst (v := 0) hB (by decide) dX8_reach_24 ?_
        refine zr_callV (st := []) (C := RX8) (As := [.int 0]) (embc := em_iI L) hB (mX8_finding (sK := sK) (sV := sV) hi 0 I L) (zW_X8 rfl) rfl rfl lm_X8_74 q2_X8_finding q3_X8_finding q4_X8 q5_X8_finding qd_X8_finding (by decide) rfl rfl (Nat.le_of_ble_eq_true rfl) ⟨Nat.zero_le _, Nat.zero_le _⟩ dX8_reach_25 (zr_kiI (fun o25 => ?_))
        exact zr_iret hB rfl rfl dX8_reach_28

def fX8_lift (a1 : Int32) (a2 : Int32) (a3 : Int32) (I : zI) : Option (Int32 × zI) :=
  zb (fX8_isOne a1 I) fun o2 =>
  if o2 = 0 then
    zb (fX8_finding 0 I) fun o5 =>
    some (o5.1, o5.2)
  else
  zb (fX8_isOne a2 I) fun o7 =>
  if o7 = 0 then
    zb (fX8_finding 0 I) fun o10 =>
    some (o10.1, o10.2)
  else
  if a1 = a2 then
    zb (fX8_finding 0 I) fun o13 =>
    some (o13.1, o13.2)
  else
  zb (fX8_isRoom a3) fun o15 =>
  if o15 = 0 then
    zb (fX8_finding 0 I) fun o41 =>
    some (o41.1, o41.2)
  else
  zb (fX8_isBefore a1 I) fun o17 =>
  if o17 = 0 then
    zb (fX8_finding 4 I) fun o20 =>
    some (o20.1, o20.2)
  else
  zb (fX8_levelOf a2 I) fun o22 =>
  zb (fX8_levelOf a1 I) fun o24 =>
  if o22 = (o24 + 1) then
    zb (fX8_roomOf a2 I) fun o29 =>
    if o29 = a3 then
      zb (fX8_finding 4 I) fun o38 =>
      some (o38.1, o38.2)
    else
    zb (fX8_levelOf a2 I) fun o31 =>
    zb (fX8_goes a2 o31 a3 I) fun o34 =>
    zg 13 120 (
    zg 13 120 (
    zl (zup o34 51 (zn 13) ((o34 51 (zn 13)) + 1)) fun J35 =>
    zg 13 120 (
    some (J35 51 (zn 13), J35))))
  else
  zb (fX8_finding 4 I) fun o27 =>
  some (o27.1, o27.2)
set_option maxHeartbeats 4000000 in
set_option maxRecDepth 100000 in
theorem mX8_lift {l : Launch} {D : va_G} {T : zT} {ad sK sV : Nat → Nat} (hi : zInj ad) (a1 : Int32) (a2 : Int32) (a3 : Int32)  (I : zI) (L : zL) : ∀ o, fX8_lift a1 a2 a3 I = some o → zMet l yX8_lift cX8_lift 4 (some .int) 2 46 D T ad sK sV [.ref (ad 50), .int a1, .int a2, .int a3] I L (em_iI L o) := by
  intro o ho
  refine zMet.of hi (by decide +kernel) (Nat.le_of_ble_eq_true rfl) (fun p e s m args below meth c hB => ?_)
  refine zr_top (emb := em_iI L) (t := fX8_lift a1 a2 a3 I) ?_ ho
  unfold fX8_lift
  refine zr_aload_n hB 0 rfl rfl dX8_lift_0 ?_
  refine zr_iload_n hB 1 rfl rfl dX8_lift_1 ?_
  refine zr_callV (st := []) (C := RX8) (As := [.int a1]) (embc := em_i0 I L) hB (mX8_isOne (sK := sK) (sV := sV) hi a1 I L) (zW_X8 rfl) rfl rfl lm_X8_106 q2_X8_isOne q3_X8_isOne q4_X8 q5_X8_isOne qd_X8_isOne (by decide) rfl rfl (Nat.le_of_ble_eq_true rfl) ⟨Nat.zero_le _, Nat.zero_le _⟩ dX8_lift_2 (zr_ki0 (fun o2 => ?_))
  refine zr_ifeq (tgt := 28) hB (by decide) dX8_lift_5 ?_ ?_
  · refine zr_aload_n hB 0 rfl rfl dX8_lift_28 ?_
    refine zr_iconst (v := 0) hB (by decide) dX8_lift_29 ?_
    refine zr_callV (st := []) (C := RX8) (As := [.int 0]) (embc := em_iI L) hB (mX8_finding (sK := sK) (sV := sV) hi 0 I L) (zW_X8 rfl) rfl rfl lm_X8_74 q2_X8_finding q3_X8_finding q4_X8 q5_X8_finding qd_X8_finding (by decide) rfl rfl (Nat.le_of_ble_eq_true rfl) ⟨Nat.zero_le _, Nat.zero_le _⟩ dX8_lift_30 (zr_kiI (fun o5 => ?_))
    exact zr_iret hB rfl rfl dX8_lift_33
  · refine zr_aload_n hB 0 rfl rfl dX8_lift_8 ?_
    refine zr_iload_n hB 2 rfl rfl dX8_lift_9 ?_
    refine zr_callV (st := []) (C := RX8) (As := [.int a2]) (embc := em_i0 I L) hB (mX8_isOne (sK := sK) (sV := sV) hi a2 I L) (zW_X8 rfl) rfl rfl lm_X8_106 q2_X8_isOne q3_X8_isOne q4_X8 q5_X8_isOne qd_X8_isOne (by decide) rfl rfl (Nat.le_of_ble_eq_true rfl) ⟨Nat.zero_le _, Nat.zero_le _⟩ dX8_lift_10 (zr_ki0 (fun o7 => ?_))
    refine zr_ifeq (tgt := 28) hB (by decide) dX8_lift_13 ?_ ?_
    · refine zr_aload_n hB 0 rfl rfl dX8_lift_28 ?_
      refine zr_iconst (v := 0) hB (by decide) dX8_lift_29 ?_
      refine zr_callV (st := []) (C := RX8) (As := [.int 0]) (embc := em_iI L) hB (mX8_finding (sK := sK) (sV := sV) hi 0 I L) (zW_X8 rfl) rfl rfl lm_X8_74 q2_X8_finding q3_X8_finding q4_X8 q5_X8_finding qd_X8_finding (by decide) rfl rfl (Nat.le_of_ble_eq_true rfl) ⟨Nat.zero_le _, Nat.zero_le _⟩ dX8_lift_30 (zr_kiI (fun o10 => ?_))
      exact zr_iret hB rfl rfl dX8_lift_33
    · refine zr_iload_n hB 1 rfl rfl dX8_lift_16 ?_
      refine zr_iload_n hB 2 rfl rfl dX8_lift_17 ?_
      refine zr_icmp_eq (tgt := 28) hB (by decide) dX8_lift_18 ?_ ?_
      · refine zr_aload_n hB 0 rfl rfl dX8_lift_28 ?_
        refine zr_iconst (v := 0) hB (by decide) dX8_lift_29 ?_
        refine zr_callV (st := []) (C := RX8) (As := [.int 0]) (embc := em_iI L) hB (mX8_finding (sK := sK) (sV := sV) hi 0 I L) (zW_X8 rfl) rfl rfl lm_X8_74 q2_X8_finding q3_X8_finding q4_X8 q5_X8_finding qd_X8_finding (by decide) rfl rfl (Nat.le_of_ble_eq_true rfl) ⟨Nat.zero_le _, Nat.zero_le _⟩ dX8_lift_30 (zr_kiI (fun o13 => ?_))
        exact zr_iret hB rfl rfl dX8_lift_33
      · refine zr_iload_n hB 3 rfl rfl dX8_lift_21 ?_
        refine zr_callS (st := []) (As := [.int a3]) (embc := em_i0 I L) hB (mX8_isRoom (sK := sK) (sV := sV) hi a3 I L) lm_X8_70 q2_X8_isRoom q4_X8 q5_X8_isRoom qd_X8_isRoom (by decide) rfl rfl (Nat.le_of_ble_eq_true rfl) ⟨Nat.zero_le _, Nat.zero_le _⟩ dX8_lift_22 (zr_ki0 (fun o15 => ?_))
        refine zr_ifne (tgt := 34) hB (by decide) dX8_lift_25 ?_ ?_
        · refine zr_aload_n hB 0 rfl rfl dX8_lift_34 ?_
          refine zr_iload_n hB 1 rfl rfl dX8_lift_35 ?_
          refine zr_callV (st := []) (C := RX8) (As := [.int a1]) (embc := em_i0 I L) hB (mX8_isBefore (sK := sK) (sV := sV) hi a1 I L) (zW_X8 rfl) rfl rfl lm_X8_121 q2_X8_isBefore q3_X8_isBefore q4_X8 q5_X8_isBefore qd_X8_isBefore (by decide) rfl rfl (Nat.le_of_ble_eq_true rfl) ⟨Nat.zero_le _, Nat.zero_le _⟩ dX8_lift_36 (zr_ki0 (fun o17 => ?_))
          refine zr_ifeq (tgt := 66) hB (by decide) dX8_lift_39 ?_ ?_
          · refine zr_aload_n hB 0 rfl rfl dX8_lift_66 ?_
            refine zr_iconst (v := 4) hB (by decide) dX8_lift_67 ?_
            refine zr_callV (st := []) (C := RX8) (As := [.int 4]) (embc := em_iI L) hB (mX8_finding (sK := sK) (sV := sV) hi 4 I L) (zW_X8 rfl) rfl rfl lm_X8_74 q2_X8_finding q3_X8_finding q4_X8 q5_X8_finding qd_X8_finding (by decide) rfl rfl (Nat.le_of_ble_eq_true rfl) ⟨Nat.zero_le _, Nat.zero_le _⟩ dX8_lift_68 (zr_kiI (fun o20 => ?_))
            exact zr_iret hB rfl rfl dX8_lift_71
          · refine zr_aload_n hB 0 rfl rfl dX8_lift_42 ?_
            refine zr_iload_n hB 2 rfl rfl dX8_lift_43 ?_
            refine zr_callV (st := []) (C := RX8) (As := [.int a2]) (embc := em_i0 I L) hB (mX8_levelOf (sK := sK) (sV := sV) hi a2 I L) (zW_X8 rfl) rfl rfl lm_X8_115 q2_X8_levelOf q3_X8_levelOf q4_X8 q5_X8_levelOf qd_X8_levelOf (by decide) rfl rfl (Nat.le_of_ble_eq_true rfl) ⟨Nat.zero_le _, Nat.zero_le _⟩ dX8_lift_44 (zr_ki0 (fun o22 => ?_))
            refine zr_aload_n hB 0 rfl rfl dX8_lift_47 ?_
            refine zr_iload_n hB 1 rfl rfl dX8_lift_48 ?_
            refine zr_callV (st := [.int o22]) (C := RX8) (As := [.int a1]) (embc := em_i0 I L) hB (mX8_levelOf (sK := sK) (sV := sV) hi a1 I L) (zW_X8 rfl) rfl rfl lm_X8_115 q2_X8_levelOf q3_X8_levelOf q4_X8 q5_X8_levelOf qd_X8_levelOf (by decide) rfl rfl (Nat.le_of_ble_eq_true rfl) ⟨Nat.zero_le _, Nat.zero_le _⟩ dX8_lift_49 (zr_ki0 (fun o24 => ?_))
            refine zr_iconst (v := 1) hB (by decide) dX8_lift_52 ?_
            refine zr_iadd hB dX8_lift_53 ?_
            refine zr_icmp_ne (tgt := 66) hB (by decide) dX8_lift_54 ?_ ?_
            · refine zr_aload_n hB 0 rfl rfl dX8_lift_66 ?_
              refine zr_iconst (v := 4) hB (by decide) dX8_lift_67 ?_
              refine zr_callV (st := []) (C := RX8) (As := [.int 4]) (embc := em_iI L) hB (mX8_finding (sK := sK) (sV := sV) hi 4 I L) (zW_X8 rfl) rfl rfl lm_X8_74 q2_X8_finding q3_X8_finding q4_X8 q5_X8_finding qd_X8_finding (by decide) rfl rfl (Nat.le_of_ble_eq_true rfl) ⟨Nat.zero_le _, Nat.zero_le _⟩ dX8_lift_68 (zr_kiI (fun o27 => ?_))
              exact zr_iret hB rfl rfl dX8_lift_71
            · refine zr_aload_n hB 0 rfl rfl dX8_lift_57 ?_
              refine zr_iload_n hB 2 rfl rfl dX8_lift_58 ?_
              refine zr_callV (st := []) (C := RX8) (As := [.int a2]) (embc := em_i0 I L) hB (mX8_roomOf (sK := sK) (sV := sV) hi a2 I L) (zW_X8 rfl) rfl rfl lm_X8_109 q2_X8_roomOf q3_X8_roomOf q4_X8 q5_X8_roomOf qd_X8_roomOf (by decide) rfl rfl (Nat.le_of_ble_eq_true rfl) ⟨Nat.zero_le _, Nat.zero_le _⟩ dX8_lift_59 (zr_ki0 (fun o29 => ?_))
              refine zr_iload_n hB 3 rfl rfl dX8_lift_62 ?_
              refine zr_icmp_ne (tgt := 72) hB (by decide) dX8_lift_63 ?_ ?_
              · refine zr_aload_n hB 0 rfl rfl dX8_lift_72 ?_
                refine zr_iload_n hB 2 rfl rfl dX8_lift_73 ?_
                refine zr_aload_n hB 0 rfl rfl dX8_lift_74 ?_
                refine zr_iload_n hB 2 rfl rfl dX8_lift_75 ?_
                refine zr_callV (st := [.int a2, .ref (ad 50)]) (C := RX8) (As := [.int a2]) (embc := em_i0 I L) hB (mX8_levelOf (sK := sK) (sV := sV) hi a2 I L) (zW_X8 rfl) rfl rfl lm_X8_115 q2_X8_levelOf q3_X8_levelOf q4_X8 q5_X8_levelOf qd_X8_levelOf (by decide) rfl rfl (Nat.le_of_ble_eq_true rfl) ⟨Nat.zero_le _, Nat.zero_le _⟩ dX8_lift_76 (zr_ki0 (fun o31 => ?_))
                refine zr_iload_n hB 3 rfl rfl dX8_lift_79 ?_
                refine zr_callV (st := []) (C := RX8) (As := [.int a2, .int o31, .int a3]) (embc := em_vI L) hB (mX8_goes (sK := sK) (sV := sV) hi a2 o31 a3 I L) (zW_X8 rfl) rfl rfl lm_X8_118 q2_X8_goes q3_X8_goes q4_X8 q5_X8_goes qd_X8_goes (by decide) rfl rfl (Nat.le_of_ble_eq_true rfl) ⟨Nat.zero_le _, Nat.zero_le _⟩ dX8_lift_80 (zr_kvI (fun o34 => ?_))
                refine zr_aload_n hB 0 rfl rfl dX8_lift_83 ?_
                refine zr_get_X8 (w := 50) (k := 0) (v := .ref (ad 51)) hB rfl (by decide) rfl lf_X8_9 rfl dX8_lift_84 ?_
                refine zr_bipush (v := 13) hB (by decide) dX8_lift_87 ?_
                refine zr_dup2 hB rfl rfl dX8_lift_89 ?_
                refine zr_iaload hB zA_51 dX8_lift_90 ?_
                refine zr_iconst (v := 1) hB (by decide) dX8_lift_91 ?_
                refine zr_iadd hB dX8_lift_92 ?_
                refine zr_iastore hB zA_51 dX8_lift_93 ?_
                refine zr_letM (fun J35 => ?_)
                refine zr_aload_n hB 0 rfl rfl dX8_lift_94 ?_
                refine zr_get_X8 (w := 50) (k := 0) (v := .ref (ad 51)) hB rfl (by decide) rfl lf_X8_9 rfl dX8_lift_95 ?_
                refine zr_bipush (v := 13) hB (by decide) dX8_lift_98 ?_
                refine zr_iaload hB zA_51 dX8_lift_100 ?_
                exact zr_iret hB rfl rfl dX8_lift_101
              · refine zr_aload_n hB 0 rfl rfl dX8_lift_66 ?_
                refine zr_iconst (v := 4) hB (by decide) dX8_lift_67 ?_
                refine zr_callV (st := []) (C := RX8) (As := [.int 4]) (embc := em_iI L) hB (mX8_finding (sK := sK) (sV := sV) hi 4 I L) (zW_X8 rfl) rfl rfl lm_X8_74 q2_X8_finding q3_X8_finding q4_X8 q5_X8_finding qd_X8_finding (by decide) rfl rfl (Nat.le_of_ble_eq_true rfl) ⟨Nat.zero_le _, Nat.zero_le _⟩ dX8_lift_68 (zr_kiI (fun o38 => ?_))
                exact zr_iret hB rfl rfl dX8_lift_71
        · refine zr_aload_n hB 0 rfl rfl dX8_lift_28 ?_
          refine zr_iconst (v := 0) hB (by decide) dX8_lift_29 ?_
          refine zr_callV (st := []) (C := RX8) (As := [.int 0]) (embc := em_iI L) hB (mX8_finding (sK := sK) (sV := sV) hi 0 I L) (zW_X8 rfl) rfl rfl lm_X8_74 q2_X8_finding q3_X8_finding q4_X8 q5_X8_finding qd_X8_finding (by decide) rfl rfl (Nat.le_of_ble_eq_true rfl) ⟨Nat.zero_le _, Nat.zero_le _⟩ dX8_lift_30 (zr_kiI (fun o41 => ?_))
          exact zr_iret hB rfl rfl dX8_lift_33

def fX8_now (a1 : Int32) (I : zI) : Option (Int32 × zI) :=
  if a1 = 0 then
    zg 13 120 (
    some (I 51 (zn 13), I))
  else
  if a1 = 1 then
    zg 15 120 (
    some (I 51 (zn 15), I))
  else
  if a1 = 2 then
    zg 8 120 (
    some (I 51 (zn 8), I))
  else
  if a1 = 3 then
    zg 9 120 (
    some (I 51 (zn 9), I))
  else
  if a1 = 4 then
    zg 10 120 (
    some (I 51 (zn 10), I))
  else
  if a1 = 5 then
    zg 14 120 (
    some (I 51 (zn 14), I))
  else
  if a1 = 6 then
    zg 17 120 (
    some (I 51 (zn 17), I))
  else
  zb (fX8_finding 0 I) fun o3 =>
  some (o3.1, o3.2)
set_option maxHeartbeats 4000000 in
set_option maxRecDepth 100000 in
theorem mX8_now {l : Launch} {D : va_G} {T : zT} {ad sK sV : Nat → Nat} (hi : zInj ad) (a1 : Int32)  (I : zI) (L : zL) : ∀ o, fX8_now a1 I = some o → zMet l yX8_now cX8_now 2 (some .int) 1 21 D T ad sK sV [.ref (ad 50), .int a1] I L (em_iI L o) := by
  intro o ho
  refine zMet.of hi (by decide +kernel) (Nat.le_of_ble_eq_true rfl) (fun p e s m args below meth c hB => ?_)
  refine zr_top (emb := em_iI L) (t := fX8_now a1 I) ?_ ho
  unfold fX8_now
  refine zr_iload_n hB 1 rfl rfl dX8_now_0 ?_
  refine zr_case (fun q1_0 => ?_) (fun q1_0 => ?_)
  · refine zr_tsIn (tgt := 44) (v := 0) hB q1_0 dX8_now_1 (by decide) (by decide) rfl (by decide) ?_
    refine zr_aload_n hB 0 rfl rfl dX8_now_44 ?_
    refine zr_get_X8 (w := 50) (k := 0) (v := .ref (ad 51)) hB rfl (by decide) rfl lf_X8_9 rfl dX8_now_45 ?_
    refine zr_bipush (v := 13) hB (by decide) dX8_now_48 ?_
    refine zr_iaload hB zA_51 dX8_now_50 ?_
    exact zr_iret hB rfl rfl dX8_now_51
  · refine zr_case (fun q1_1 => ?_) (fun q1_1 => ?_)
    · refine zr_tsIn (tgt := 52) (v := 1) hB q1_1 dX8_now_1 (by decide) (by decide) rfl (by decide) ?_
      refine zr_aload_n hB 0 rfl rfl dX8_now_52 ?_
      refine zr_get_X8 (w := 50) (k := 0) (v := .ref (ad 51)) hB rfl (by decide) rfl lf_X8_9 rfl dX8_now_53 ?_
      refine zr_bipush (v := 15) hB (by decide) dX8_now_56 ?_
      refine zr_iaload hB zA_51 dX8_now_58 ?_
      exact zr_iret hB rfl rfl dX8_now_59
    · refine zr_case (fun q1_2 => ?_) (fun q1_2 => ?_)
      · refine zr_tsIn (tgt := 60) (v := 2) hB q1_2 dX8_now_1 (by decide) (by decide) rfl (by decide) ?_
        refine zr_aload_n hB 0 rfl rfl dX8_now_60 ?_
        refine zr_get_X8 (w := 50) (k := 0) (v := .ref (ad 51)) hB rfl (by decide) rfl lf_X8_9 rfl dX8_now_61 ?_
        refine zr_bipush (v := 8) hB (by decide) dX8_now_64 ?_
        refine zr_iaload hB zA_51 dX8_now_66 ?_
        exact zr_iret hB rfl rfl dX8_now_67
      · refine zr_case (fun q1_3 => ?_) (fun q1_3 => ?_)
        · refine zr_tsIn (tgt := 68) (v := 3) hB q1_3 dX8_now_1 (by decide) (by decide) rfl (by decide) ?_
          refine zr_aload_n hB 0 rfl rfl dX8_now_68 ?_
          refine zr_get_X8 (w := 50) (k := 0) (v := .ref (ad 51)) hB rfl (by decide) rfl lf_X8_9 rfl dX8_now_69 ?_
          refine zr_bipush (v := 9) hB (by decide) dX8_now_72 ?_
          refine zr_iaload hB zA_51 dX8_now_74 ?_
          exact zr_iret hB rfl rfl dX8_now_75
        · refine zr_case (fun q1_4 => ?_) (fun q1_4 => ?_)
          · refine zr_tsIn (tgt := 76) (v := 4) hB q1_4 dX8_now_1 (by decide) (by decide) rfl (by decide) ?_
            refine zr_aload_n hB 0 rfl rfl dX8_now_76 ?_
            refine zr_get_X8 (w := 50) (k := 0) (v := .ref (ad 51)) hB rfl (by decide) rfl lf_X8_9 rfl dX8_now_77 ?_
            refine zr_bipush (v := 10) hB (by decide) dX8_now_80 ?_
            refine zr_iaload hB zA_51 dX8_now_82 ?_
            exact zr_iret hB rfl rfl dX8_now_83
          · refine zr_case (fun q1_5 => ?_) (fun q1_5 => ?_)
            · refine zr_tsIn (tgt := 84) (v := 5) hB q1_5 dX8_now_1 (by decide) (by decide) rfl (by decide) ?_
              refine zr_aload_n hB 0 rfl rfl dX8_now_84 ?_
              refine zr_get_X8 (w := 50) (k := 0) (v := .ref (ad 51)) hB rfl (by decide) rfl lf_X8_9 rfl dX8_now_85 ?_
              refine zr_bipush (v := 14) hB (by decide) dX8_now_88 ?_
              refine zr_iaload hB zA_51 dX8_now_90 ?_
              exact zr_iret hB rfl rfl dX8_now_91
            · refine zr_case (fun q1_6 => ?_) (fun q1_6 => ?_)
              · refine zr_tsIn (tgt := 92) (v := 6) hB q1_6 dX8_now_1 (by decide) (by decide) rfl (by decide) ?_
                refine zr_aload_n hB 0 rfl rfl dX8_now_92 ?_
                refine zr_get_X8 (w := 50) (k := 0) (v := .ref (ad 51)) hB rfl (by decide) rfl lf_X8_9 rfl dX8_now_93 ?_
                refine zr_bipush (v := 17) hB (by decide) dX8_now_96 ?_
                refine zr_iaload hB zA_51 dX8_now_98 ?_
                exact zr_iret hB rfl rfl dX8_now_99
              · refine zr_tsOut (tgt := 100) hB dX8_now_1 (by have h0 := lv_neT q1_0 (show (0 : Int32).toInt = 0 from rfl); have h1 := lv_neT q1_1 (show (1 : Int32).toInt = 1 from rfl); have h2 := lv_neT q1_2 (show (2 : Int32).toInt = 2 from rfl); have h3 := lv_neT q1_3 (show (3 : Int32).toInt = 3 from rfl); have h4 := lv_neT q1_4 (show (4 : Int32).toInt = 4 from rfl); have h5 := lv_neT q1_5 (show (5 : Int32).toInt = 5 from rfl); have h6 := lv_neT q1_6 (show (6 : Int32).toInt = 6 from rfl); omega) (by decide) ?_
                refine zr_aload_n hB 0 rfl rfl dX8_now_100 ?_
                refine zr_iconst (v := 0) hB (by decide) dX8_now_101 ?_
                refine zr_callV (st := []) (C := RX8) (As := [.int 0]) (embc := em_iI L) hB (mX8_finding (sK := sK) (sV := sV) hi 0 I L) (zW_X8 rfl) rfl rfl lm_X8_74 q2_X8_finding q3_X8_finding q4_X8 q5_X8_finding qd_X8_finding (by decide) rfl rfl (Nat.le_of_ble_eq_true rfl) ⟨Nat.zero_le _, Nat.zero_le _⟩ dX8_now_102 (zr_kiI (fun o3 => ?_))
                exact zr_iret hB rfl rfl dX8_now_105

def fX8_book (a1 : Int32) (a2 : Int32) (I : zI) : Option (Int32 × zI) :=
  if a1 < 0 then
    zb (fX8_finding 0 I) fun o3 =>
    some (o3.1, o3.2)
  else
  zb (fX8_within a2.toInt64 0 4) fun o5 =>
  if o5 = 0 then
    zb (fX8_finding 0 I) fun o11 =>
    some (o11.1, o11.2)
  else
  zg 17 120 (
  if (I 51 (zn 17)) ≤ a1 then
    zb (fX8_finding 3 I) fun o8 =>
    some (o8.1, o8.2)
  else
  zg ((60 + (5 * a1)) + a2) 120 (
  some (I 51 (zn ((60 + (5 * a1)) + a2)), I)))
set_option maxHeartbeats 4000000 in
set_option maxRecDepth 100000 in
theorem mX8_book {l : Launch} {D : va_G} {T : zT} {ad sK sV : Nat → Nat} (hi : zInj ad) (a1 : Int32) (a2 : Int32)  (I : zI) (L : zL) : ∀ o, fX8_book a1 a2 I = some o → zMet l yX8_book cX8_book 3 (some .int) 1 25 D T ad sK sV [.ref (ad 50), .int a1, .int a2] I L (em_iI L o) := by
  intro o ho
  refine zMet.of hi (by decide +kernel) (Nat.le_of_ble_eq_true rfl) (fun p e s m args below meth c hB => ?_)
  refine zr_top (emb := em_iI L) (t := fX8_book a1 a2 I) ?_ ho
  unfold fX8_book
  refine zr_iload_n hB 1 rfl rfl dX8_book_0 ?_
  refine zr_iflt (tgt := 16) hB (by decide) dX8_book_1 ?_ ?_
  · refine zr_aload_n hB 0 rfl rfl dX8_book_16 ?_
    refine zr_iconst (v := 0) hB (by decide) dX8_book_17 ?_
    refine zr_callV (st := []) (C := RX8) (As := [.int 0]) (embc := em_iI L) hB (mX8_finding (sK := sK) (sV := sV) hi 0 I L) (zW_X8 rfl) rfl rfl lm_X8_74 q2_X8_finding q3_X8_finding q4_X8 q5_X8_finding qd_X8_finding (by decide) rfl rfl (Nat.le_of_ble_eq_true rfl) ⟨Nat.zero_le _, Nat.zero_le _⟩ dX8_book_18 (zr_kiI (fun o3 => ?_))
    exact zr_iret hB rfl rfl dX8_book_21
  · refine zr_iload_n hB 2 rfl rfl dX8_book_4 ?_
    refine zr_i2l hB dX8_book_5 ?_
    refine zr_lconst (v := 0) hB (by decide) dX8_book_6 ?_
    refine zr_ldc2 (v := 4) hB lj_X8_143 dX8_book_7 ?_
    refine zr_callS (st := []) (As := [.long a2.toInt64, .long 0, .long 4]) (embc := em_i0 I L) hB (mX8_within (sK := sK) (sV := sV) hi a2.toInt64 0 4 I L) lm_X8_54 q2_X8_within q4_X8 q5_X8_within qd_X8_within (by decide) rfl rfl (Nat.le_of_ble_eq_true rfl) ⟨Nat.zero_le _, Nat.zero_le _⟩ dX8_book_10 (zr_ki0 (fun o5 => ?_))
    refine zr_ifne (tgt := 22) hB (by decide) dX8_book_13 ?_ ?_
    · refine zr_iload_n hB 1 rfl rfl dX8_book_22 ?_
      refine zr_aload_n hB 0 rfl rfl dX8_book_23 ?_
      refine zr_get_X8 (w := 50) (k := 0) (v := .ref (ad 51)) hB rfl (by decide) rfl lf_X8_9 rfl dX8_book_24 ?_
      refine zr_bipush (v := 17) hB (by decide) dX8_book_27 ?_
      refine zr_iaload hB zA_51 dX8_book_29 ?_
      refine zr_icmp_ge (tgt := 49) hB (by decide) dX8_book_30 ?_ ?_
      · refine zr_aload_n hB 0 rfl rfl dX8_book_49 ?_
        refine zr_iconst (v := 3) hB (by decide) dX8_book_50 ?_
        refine zr_callV (st := []) (C := RX8) (As := [.int 3]) (embc := em_iI L) hB (mX8_finding (sK := sK) (sV := sV) hi 3 I L) (zW_X8 rfl) rfl rfl lm_X8_74 q2_X8_finding q3_X8_finding q4_X8 q5_X8_finding qd_X8_finding (by decide) rfl rfl (Nat.le_of_ble_eq_true rfl) ⟨Nat.zero_le _, Nat.zero_le _⟩ dX8_book_51 (zr_kiI (fun o8 => ?_))
        exact zr_iret hB rfl rfl dX8_book_54
      · refine zr_aload_n hB 0 rfl rfl dX8_book_33 ?_
        refine zr_get_X8 (w := 50) (k := 0) (v := .ref (ad 51)) hB rfl (by decide) rfl lf_X8_9 rfl dX8_book_34 ?_
        refine zr_bipush (v := 60) hB (by decide) dX8_book_37 ?_
        refine zr_iconst (v := 5) hB (by decide) dX8_book_39 ?_
        refine zr_iload_n hB 1 rfl rfl dX8_book_40 ?_
        refine zr_imul hB dX8_book_41 ?_
        refine zr_iadd hB dX8_book_42 ?_
        refine zr_iload_n hB 2 rfl rfl dX8_book_43 ?_
        refine zr_iadd hB dX8_book_44 ?_
        refine zr_iaload hB zA_51 dX8_book_45 ?_
        refine zr_goto (tgt := 54) hB (by decide) dX8_book_46 ?_
        exact zr_iret hB rfl rfl dX8_book_54
    · refine zr_aload_n hB 0 rfl rfl dX8_book_16 ?_
      refine zr_iconst (v := 0) hB (by decide) dX8_book_17 ?_
      refine zr_callV (st := []) (C := RX8) (As := [.int 0]) (embc := em_iI L) hB (mX8_finding (sK := sK) (sV := sV) hi 0 I L) (zW_X8 rfl) rfl rfl lm_X8_74 q2_X8_finding q3_X8_finding q4_X8 q5_X8_finding qd_X8_finding (by decide) rfl rfl (Nat.le_of_ble_eq_true rfl) ⟨Nat.zero_le _, Nat.zero_le _⟩ dX8_book_18 (zr_kiI (fun o11 => ?_))
      exact zr_iret hB rfl rfl dX8_book_21

def fX8_finds (a1 : Int32) (a2 : Int32) (a3 : Int32) (I : zI) : Option (zI) :=
  zl ((8 * a1) + a2) fun v1 =>
  zg v1 320 (
  if 0 ≤ (I 56 (zn v1)) then
    some I
  else
  zg v1 320 (
  zl (zup I 56 (zn v1) a3) fun J2 =>
  zg (J2 50 9) 320 (
  zl (zup J2 57 (zn (J2 50 9)) v1) fun J3 =>
  zl (zup J3 50 9 ((J3 50 9) + 1)) fun J4 =>
  some J4)))
set_option maxHeartbeats 4000000 in
set_option maxRecDepth 100000 in
theorem mX8_finds {l : Launch} {D : va_G} {T : zT} {ad sK sV : Nat → Nat} (hi : zInj ad) (a1 : Int32) (a2 : Int32) (a3 : Int32)  (I : zI) (L : zL) : ∀ o, fX8_finds a1 a2 a3 I = some o → zMet l yX8_finds cX8_finds 5 none 0 0 D T ad sK sV [.ref (ad 50), .int a1, .int a2, .int a3] I L (em_vI L o) := by
  intro o ho
  refine zMet.of hi (by decide +kernel) (Nat.le_of_ble_eq_true rfl) (fun p e s m args below meth c hB => ?_)
  refine zr_top (emb := em_vI L) (t := fX8_finds a1 a2 a3 I) ?_ ho
  unfold fX8_finds
  refine zr_bipush (v := 8) hB (by decide) dX8_finds_0 ?_
  refine zr_iload_n hB 1 rfl rfl dX8_finds_2 ?_
  refine zr_imul hB dX8_finds_3 ?_
  refine zr_iload_n hB 2 rfl rfl dX8_finds_4 ?_
  refine zr_iadd hB dX8_finds_5 ?_
  refine zr_letI (fun v1 => ?_)
  refine zr_istore (lv' := [(4, .int v1), (0, .ref (ad 50)), (1, .int a1), (2, .int a2), (3, .int a3)]) hB (by decide) rfl dX8_finds_6 ?_
  refine zr_aload_n hB 1 rfl rfl dX8_finds_8 ?_
  refine zr_get_X8 (w := 50) (k := 7) (v := .ref (ad 56)) hB rfl (by decide) rfl lf_X8_25 rfl dX8_finds_9 ?_
  refine zr_iload hB 0 rfl dX8_finds_12 ?_
  refine zr_iaload hB zA_56 dX8_finds_14 ?_
  refine zr_ifge (tgt := 47) hB (by decide) dX8_finds_15 ?_ ?_
  · exact zr_vret hB rfl rfl dX8_finds_47
  · refine zr_aload_n hB 1 rfl rfl dX8_finds_18 ?_
    refine zr_get_X8 (w := 50) (k := 7) (v := .ref (ad 56)) hB rfl (by decide) rfl lf_X8_25 rfl dX8_finds_19 ?_
    refine zr_iload hB 0 rfl dX8_finds_22 ?_
    refine zr_iload_n hB 4 rfl rfl dX8_finds_24 ?_
    refine zr_iastore hB zA_56 dX8_finds_25 ?_
    refine zr_letM (fun J2 => ?_)
    refine zr_aload_n hB 1 rfl rfl dX8_finds_26 ?_
    refine zr_get_X8 (w := 50) (k := 8) (v := .ref (ad 57)) hB rfl (by decide) rfl lf_X8_28 rfl dX8_finds_27 ?_
    refine zr_aload_n hB 1 rfl rfl dX8_finds_30 ?_
    refine zr_get_X8 (w := 50) (k := 9) (v := .int (J2 50 9)) hB rfl (by decide) rfl lf_X8_145 rfl dX8_finds_31 ?_
    refine zr_iload hB 0 rfl dX8_finds_34 ?_
    refine zr_iastore hB zA_57 dX8_finds_36 ?_
    refine zr_letM (fun J3 => ?_)
    refine zr_aload_n hB 1 rfl rfl dX8_finds_37 ?_
    refine zr_dup hB rfl dX8_finds_38 ?_
    refine zr_get_X8 (w := 50) (k := 9) (v := .int (J3 50 9)) hB rfl (by decide) rfl lf_X8_145 rfl dX8_finds_39 ?_
    refine zr_iconst (v := 1) hB (by decide) dX8_finds_42 ?_
    refine zr_iadd hB dX8_finds_43 ?_
    refine zr_put_X8 (w := 50) (k := 9) hB rfl (by decide) rfl rfl rfl lf_X8_145 rfl dX8_finds_44 ?_
    refine zr_letM (fun J4 => ?_)
    exact zr_vret hB rfl rfl dX8_finds_47

def gX8_stepsFrom_54 (a5 : Int32) (a6 : Int32) (v1 : Int32) (v2 : Int32) (x3 : Int32) (s13 : Int32 × zI) : Option ((Int32 × zI) ⊕ (zI)) :=
  if 8 ≤ s13.1 then
    some (.inr s13.2)
  else
  zb (fX8_isOpen v1 s13.1 s13.2) fun o23 =>
  if o23 = 0 then
    zl (s13.1 + 1) fun v24 =>
    some (.inl (v24, s13.2))
  else
  zb (fX8_finds ((8 * v2) + s13.1) a5 a6 s13.2) fun o27 =>
  if x3 = 0 then
    zl (s13.1 + 1) fun v28 =>
    some (.inl (v28, o27))
  else
  zb (fX8_finds ((8 * v2) + s13.1) s13.1 a6 o27) fun o31 =>
  zl (s13.1 + 1) fun v32 =>
  some (.inl (v32, o31))
def gX8_stepsFrom_252 (a4 : Int32) (a6 : Int32) (x55 : Int32) (s65 : Int32 × zI) : Option ((Int32 × zI) ⊕ (zI)) :=
  if 8 ≤ s65.1 then
    some (.inr s65.2)
  else
  if x55 = 0 then
    some (.inr s65.2)
  else
  zb (fX8_finds a4 s65.1 a6 s65.2) fun o76 =>
  zl (s65.1 + 1) fun v77 =>
  some (.inl (v77, o76))
def fX8_stepsFrom (n : Nat) (a1 : Int32) (a2 : Int32) (a3 : Int32) (a4 : Int32) (a5 : Int32) (a6 : Int32) (I : zI) : Option (zI) :=
  zl (zrem a4 8) fun v1 =>
  zl (a4 / 8) fun v2 =>
  zb (
    zbs (
      if a2 < 0 then
        some (.inr ())
      else
      if a5 = v1 then
        zb (fX8_weighs a2 v2 I) fun o12 =>
        zg (56 + a1) 120 (
        if (I 51 (zn (56 + a1))) < o12 then
          some (.inr ())
        else
        some (.inl 1))
      else
      some (.inr ())) fun x7 : Unit =>
    some 0) fun x3 : Int32 =>
  zb (zit (gX8_stepsFrom_54 a5 a6 v1 v2 x3) n (0, I)) fun x14 : zI =>
  zg 8 120 (
  zb (
    zbs (
      if v1 = (x14 51 (zn 8)) then
        if 4 ≤ v2 then
          some (.inr ())
        else
        some (.inl 1)
      else
      some (.inr ())) fun x37 : Unit =>
    some 0) fun x33 : Int32 =>
  zb (
    if x33 = 0 then
      some x14
    else
    zg 9 120 (
    zb (fX8_finds ((8 * (v2 + 1)) + (x14 51 (zn 9))) a5 a6 x14) fun o47 =>
    some o47)) fun x41 : zI =>
  zg 9 120 (
  zb (
    if v1 = (x41 51 (zn 9)) then
      if v2 ≤ 0 then
        some x41
      else
      zg 8 120 (
      zb (fX8_finds ((8 * (v2 - 1)) + (x41 51 (zn 8))) a5 a6 x41) fun o54 =>
      some o54)
    else
    some x41) fun x48 : zI =>
  zb (
    zbs (
      if a3 = 0 then
        some (.inr ())
      else
      if a2 < 0 then
        some (.inr ())
      else
      if x33 = 0 then
        some (.inr ())
      else
      zb (fX8_weighs a2 (v2 + 1) x48) fun o64 =>
      zg (56 + a1) 120 (
      if (x48 51 (zn (56 + a1))) < o64 then
        some (.inr ())
      else
      some (.inl 1))) fun x59 : Unit =>
    some 0) fun x55 : Int32 =>
  zb (zit (gX8_stepsFrom_252 a4 a6 x55) n (0, x48)) fun x66 : zI =>
  some x66))
set_option maxHeartbeats 4000000 in
set_option maxRecDepth 100000 in
theorem mX8_stepsFrom {l : Launch} {D : va_G} {T : zT} {ad sK sV : Nat → Nat} (hi : zInj ad) (n : Nat) (a1 : Int32) (a2 : Int32) (a3 : Int32) (a4 : Int32) (a5 : Int32) (a6 : Int32)  (I : zI) (L : zL) : ∀ o, fX8_stepsFrom n a1 a2 a3 a4 a5 a6 I = some o → zMet l yX8_stepsFrom cX8_stepsFrom 13 none 2 45 D T ad sK sV [.ref (ad 50), .int a1, .int a2, .int a3, .int a4, .int a5, .int a6] I L (em_vI L o) := by
  intro o ho
  refine zMet.of hi (by decide +kernel) (Nat.le_of_ble_eq_true rfl) (fun p e s m args below meth c hB => ?_)
  refine zr_top (emb := em_vI L) (t := fX8_stepsFrom n a1 a2 a3 a4 a5 a6 I) ?_ ho
  unfold fX8_stepsFrom
  refine zr_iload hB 4 rfl dX8_stepsFrom_0 ?_
  refine zr_bipush (v := 8) hB (by decide) dX8_stepsFrom_2 ?_
  refine zr_iremC hB (by decide) dX8_stepsFrom_4 ?_
  refine zr_letI (fun v1 => ?_)
  refine zr_istore (lv' := [(7, .int v1), (0, .ref (ad 50)), (1, .int a1), (2, .int a2), (3, .int a3), (4, .int a4), (5, .int a5), (6, .int a6)]) hB (by decide) rfl dX8_stepsFrom_5 ?_
  refine zr_iload hB 5 rfl dX8_stepsFrom_7 ?_
  refine zr_bipush (v := 8) hB (by decide) dX8_stepsFrom_9 ?_
  refine zr_idivC hB (by decide) dX8_stepsFrom_11 ?_
  refine zr_letI (fun v2 => ?_)
  refine zr_istore (lv' := [(8, .int v2), (7, .int v1), (0, .ref (ad 50)), (1, .int a1), (2, .int a2), (3, .int a3), (4, .int a4), (5, .int a5), (6, .int a6)]) hB (by decide) rfl dX8_stepsFrom_12 ?_
  refine zr_iload_n hB 4 rfl rfl dX8_stepsFrom_14 ?_
  refine zr_join (pcJ := 49) (fun x3 : Int32 => [(8, .int v2), (7, .int v1), (0, .ref (ad 50)), (1, .int a1), (2, .int a2), (3, .int a3), (4, .int a4), (5, .int a5), (6, .int a6)]) (fun x3 => [.int x3]) (fun x3 => I) (fun x3 => L) (fun x3 => ?_) (fun K6 hj4 => ?_)
  · refine zr_istore (lv' := [(9, .int x3), (8, .int v2), (7, .int v1), (0, .ref (ad 50)), (1, .int a1), (2, .int a2), (3, .int a3), (4, .int a4), (5, .int a5), (6, .int a6)]) hB (by decide) rfl dX8_stepsFrom_49 ?_
    refine zr_iconst (v := 0) hB (by decide) dX8_stepsFrom_51 ?_
    refine zr_istore (lv' := [(10, .int 0), (9, .int x3), (8, .int v2), (7, .int v1), (0, .ref (ad 50)), (1, .int a1), (2, .int a2), (3, .int a3), (4, .int a4), (5, .int a5), (6, .int a6)]) hB (by decide) rfl dX8_stepsFrom_52 ?_
    refine zr_join (pcJ := 115) (fun x14 : zI => [(8, .int v2), (7, .int v1), (0, .ref (ad 50)), (1, .int a1), (2, .int a2), (3, .int a3), (4, .int a4), (5, .int a5), (6, .int a6)]) (fun _ => []) (fun x14 => x14) (fun x14 => L) (fun x14 => ?_) (fun K20 hx19 => ?_)
    · refine zr_iload hB 1 rfl dX8_stepsFrom_115 ?_
      refine zr_aload_n hB 2 rfl rfl dX8_stepsFrom_117 ?_
      refine zr_get_X8 (w := 50) (k := 0) (v := .ref (ad 51)) hB rfl (by decide) rfl lf_X8_9 rfl dX8_stepsFrom_118 ?_
      refine zr_bipush (v := 8) hB (by decide) dX8_stepsFrom_121 ?_
      refine zr_iaload hB zA_51 dX8_stepsFrom_123 ?_
      refine zr_join (pcJ := 138) (fun x33 : Int32 => [(8, .int v2), (7, .int v1), (0, .ref (ad 50)), (1, .int a1), (2, .int a2), (3, .int a3), (4, .int a4), (5, .int a5), (6, .int a6)]) (fun x33 => [.int x33]) (fun x33 => x14) (fun x33 => L) (fun x33 => ?_) (fun K36 hj34 => ?_)
      · refine zr_istore (lv' := [(10, .int x33), (8, .int v2), (7, .int v1), (0, .ref (ad 50)), (1, .int a1), (2, .int a2), (3, .int a3), (4, .int a4), (5, .int a5), (6, .int a6)]) hB (by decide) rfl dX8_stepsFrom_138 ?_
        refine zr_iload hB 0 rfl dX8_stepsFrom_140 ?_
        refine zr_join (pcJ := 168) (fun x41 : zI => [(10, .int x33), (8, .int v2), (7, .int v1), (0, .ref (ad 50)), (1, .int a1), (2, .int a2), (3, .int a3), (4, .int a4), (5, .int a5), (6, .int a6)]) (fun x41 => []) (fun x41 => x41) (fun x41 => L) (fun x41 => ?_) (fun K44 hj42 => ?_)
        · refine zr_iload hB 2 rfl dX8_stepsFrom_168 ?_
          refine zr_aload_n hB 3 rfl rfl dX8_stepsFrom_170 ?_
          refine zr_get_X8 (w := 50) (k := 0) (v := .ref (ad 51)) hB rfl (by decide) rfl lf_X8_9 rfl dX8_stepsFrom_171 ?_
          refine zr_bipush (v := 9) hB (by decide) dX8_stepsFrom_174 ?_
          refine zr_iaload hB zA_51 dX8_stepsFrom_176 ?_
          refine zr_join (pcJ := 208) (fun x48 : zI => [(10, .int x33), (8, .int v2), (0, .ref (ad 50)), (1, .int a1), (2, .int a2), (3, .int a3), (4, .int a4), (6, .int a6)]) (fun x48 => []) (fun x48 => x48) (fun x48 => L) (fun x48 => ?_) (fun K51 hj49 => ?_)
          · refine zr_iload_n hB 5 rfl rfl dX8_stepsFrom_208 ?_
            refine zr_join (pcJ := 247) (fun x55 : Int32 => [(0, .ref (ad 50)), (4, .int a4), (6, .int a6)]) (fun x55 => [.int x55]) (fun x55 => x48) (fun x55 => L) (fun x55 => ?_) (fun K58 hj56 => ?_)
            · refine zr_istore (lv' := [(11, .int x55), (0, .ref (ad 50)), (4, .int a4), (6, .int a6)]) hB (by decide) rfl dX8_stepsFrom_247 ?_
              refine zr_iconst (v := 0) hB (by decide) dX8_stepsFrom_249 ?_
              refine zr_istore (lv' := [(12, .int 0), (11, .int x55), (0, .ref (ad 50)), (4, .int a4), (6, .int a6)]) hB (by decide) rfl dX8_stepsFrom_250 ?_
              refine zr_join (pcJ := 280) (fun x66 : zI => []) (fun _ => []) (fun x66 => x66) (fun x66 => L) (fun x66 => ?_) (fun K72 hx71 => ?_)
              · exact zr_vret hB rfl rfl dX8_stepsFrom_280
              · refine zr_sub (lv' := (fun s65 : Int32 × zI => [(12, .int s65.1), (11, .int x55), (0, .ref (ad 50)), (4, .int a4), (6, .int a6)]) (0, x48)) [0, 1, 2, 3, 4] rfl (zr_loop (fun s65 : Int32 × zI => [(12, .int s65.1), (11, .int x55), (0, .ref (ad 50)), (4, .int a4), (6, .int a6)]) (fun s65 => s65.2) (fun s65 => L) (fun x66 : zI => []) (fun x66 => x66) (fun x66 => L) hx71 (fun s65 K73 hc67 hx68 => ?_) n (0, x48))
                unfold gX8_stepsFrom_252
                refine zr_iload hB 0 rfl dX8_stepsFrom_252 ?_
                refine zr_bipush (v := 8) hB (by decide) dX8_stepsFrom_254 ?_
                refine zr_icmp_ge (tgt := 280) hB (by decide) dX8_stepsFrom_256 ?_ ?_
                · exact zr_sub [] rfl (hx68 s65.2)
                · refine zr_iload hB 1 rfl dX8_stepsFrom_259 ?_
                  refine zr_ifeq (tgt := 280) hB (by decide) dX8_stepsFrom_261 ?_ ?_
                  · exact zr_sub [] rfl (hx68 s65.2)
                  · refine zr_aload_n hB 2 rfl rfl dX8_stepsFrom_264 ?_
                    refine zr_iload hB 3 rfl dX8_stepsFrom_265 ?_
                    refine zr_iload hB 0 rfl dX8_stepsFrom_267 ?_
                    refine zr_iload hB 4 rfl dX8_stepsFrom_269 ?_
                    refine zr_callV (st := []) (C := RX8) (As := [.int a4, .int s65.1, .int a6]) (embc := em_vI L) hB (mX8_finds (sK := sK) (sV := sV) hi a4 s65.1 a6 s65.2 L) (zW_X8 rfl) rfl rfl lm_X8_149 q2_X8_finds q3_X8_finds q4_X8 q5_X8_finds qd_X8_finds (by decide) rfl rfl (Nat.le_of_ble_eq_true rfl) ⟨Nat.zero_le _, Nat.zero_le _⟩ dX8_stepsFrom_271 (zr_kvI (fun o76 => ?_))
                    refine zr_iincL hB (j := 0) (n := 1) (w := 1) rfl (by decide) (by decide) dX8_stepsFrom_274 (fun v77 lv' hlv => ?_)
                    obtain rfl : lv' = [(12, .int v77), (11, .int x55), (0, .ref (ad 50)), (4, .int a4), (6, .int a6)] := hlv.symm.trans rfl
                    refine zr_goto (tgt := 252) hB (by decide) dX8_stepsFrom_277 ?_
                    exact zr_sub [0, 1, 2, 3, 4] rfl (hc67 (v77, o76))
            · refine zr_joins (pcJ := 246) (fun x59 : Unit => [(0, .ref (ad 50)), (4, .int a4), (6, .int a6)]) (fun x59 => []) (fun x59 => x48) (fun x59 => L) (fun x59 => ?_) (fun K62 hi61 hj60 => ?_)
              · refine zr_iconst (v := 0) hB (by decide) dX8_stepsFrom_246 ?_
                exact zr_sub [0, 1, 2] rfl (hj56 0)
              · refine zr_ifeq (tgt := 246) hB (by decide) dX8_stepsFrom_209 ?_ ?_
                · exact zr_sub [2, 6, 7] rfl (hj60 ())
                · refine zr_iload_n hB 4 rfl rfl dX8_stepsFrom_212 ?_
                  refine zr_iflt (tgt := 246) hB (by decide) dX8_stepsFrom_213 ?_ ?_
                  · exact zr_sub [2, 6, 7] rfl (hj60 ())
                  · refine zr_iload hB 0 rfl dX8_stepsFrom_216 ?_
                    refine zr_ifeq (tgt := 246) hB (by decide) dX8_stepsFrom_218 ?_ ?_
                    · exact zr_sub [2, 6, 7] rfl (hj60 ())
                    · refine zr_aload_n hB 2 rfl rfl dX8_stepsFrom_221 ?_
                      refine zr_iload_n hB 4 rfl rfl dX8_stepsFrom_222 ?_
                      refine zr_iload hB 1 rfl dX8_stepsFrom_223 ?_
                      refine zr_iconst (v := 1) hB (by decide) dX8_stepsFrom_225 ?_
                      refine zr_iadd hB dX8_stepsFrom_226 ?_
                      refine zr_callV (st := []) (C := RX8) (As := [.int a2, .int (v2 + 1)]) (embc := em_i0 x48 L) hB (mX8_weighs (sK := sK) (sV := sV) hi a2 (v2 + 1) x48 L) (zW_X8 rfl) rfl rfl lm_X8_93 q2_X8_weighs q3_X8_weighs q4_X8 q5_X8_weighs qd_X8_weighs (by decide) rfl rfl (Nat.le_of_ble_eq_true rfl) ⟨Nat.zero_le _, Nat.zero_le _⟩ dX8_stepsFrom_227 (zr_ki0 (fun o64 => ?_))
                      refine zr_aload_n hB 2 rfl rfl dX8_stepsFrom_230 ?_
                      refine zr_get_X8 (w := 50) (k := 0) (v := .ref (ad 51)) hB rfl (by decide) rfl lf_X8_9 rfl dX8_stepsFrom_231 ?_
                      refine zr_bipush (v := 56) hB (by decide) dX8_stepsFrom_234 ?_
                      refine zr_iload_n hB 3 rfl rfl dX8_stepsFrom_236 ?_
                      refine zr_iadd hB dX8_stepsFrom_237 ?_
                      refine zr_iaload hB zA_51 dX8_stepsFrom_238 ?_
                      refine zr_icmp_gt (tgt := 246) hB (by decide) dX8_stepsFrom_239 ?_ ?_
                      · exact zr_sub [2, 6, 7] rfl (hj60 ())
                      · refine zr_iconst (v := 1) hB (by decide) dX8_stepsFrom_242 ?_
                        refine zr_goto (tgt := 247) hB (by decide) dX8_stepsFrom_243 ?_
                        refine hi61 _ _ _ _ _ _ ?_
                        exact zr_sub [2, 6, 7] rfl (hj56 1)
          · refine zr_icmp_ne (tgt := 208) hB (by decide) dX8_stepsFrom_177 ?_ ?_
            · exact zr_sub [0, 1, 3, 4, 5, 6, 7, 9] rfl (hj49 x41)
            · refine zr_iload hB 1 rfl dX8_stepsFrom_180 ?_
              refine zr_ifle (tgt := 208) hB (by decide) dX8_stepsFrom_182 ?_ ?_
              · exact zr_sub [0, 1, 3, 4, 5, 6, 7, 9] rfl (hj49 x41)
              · refine zr_aload_n hB 3 rfl rfl dX8_stepsFrom_185 ?_
                refine zr_bipush (v := 8) hB (by decide) dX8_stepsFrom_186 ?_
                refine zr_iload hB 1 rfl dX8_stepsFrom_188 ?_
                refine zr_iconst (v := 1) hB (by decide) dX8_stepsFrom_190 ?_
                refine zr_isub hB dX8_stepsFrom_191 ?_
                refine zr_imul hB dX8_stepsFrom_192 ?_
                refine zr_aload_n hB 3 rfl rfl dX8_stepsFrom_193 ?_
                refine zr_get_X8 (w := 50) (k := 0) (v := .ref (ad 51)) hB rfl (by decide) rfl lf_X8_9 rfl dX8_stepsFrom_194 ?_
                refine zr_bipush (v := 8) hB (by decide) dX8_stepsFrom_197 ?_
                refine zr_iaload hB zA_51 dX8_stepsFrom_199 ?_
                refine zr_iadd hB dX8_stepsFrom_200 ?_
                refine zr_iload hB 8 rfl dX8_stepsFrom_201 ?_
                refine zr_iload hB 9 rfl dX8_stepsFrom_203 ?_
                refine zr_callV (st := []) (C := RX8) (As := [.int ((8 * (v2 - 1)) + (x41 51 (zn 8))), .int a5, .int a6]) (embc := em_vI L) hB (mX8_finds (sK := sK) (sV := sV) hi ((8 * (v2 - 1)) + (x41 51 (zn 8))) a5 a6 x41 L) (zW_X8 rfl) rfl rfl lm_X8_149 q2_X8_finds q3_X8_finds q4_X8 q5_X8_finds qd_X8_finds (by decide) rfl rfl (Nat.le_of_ble_eq_true rfl) ⟨Nat.zero_le _, Nat.zero_le _⟩ dX8_stepsFrom_205 (zr_kvI (fun o54 => ?_))
                exact zr_sub [0, 1, 3, 4, 5, 6, 7, 9] rfl (hj49 o54)
        · refine zr_ifeq (tgt := 168) hB (by decide) dX8_stepsFrom_142 ?_ ?_
          · exact zr_sub [0, 1, 2, 3, 4, 5, 6, 7, 8, 9] rfl (hj42 x14)
          · refine zr_aload_n hB 3 rfl rfl dX8_stepsFrom_145 ?_
            refine zr_bipush (v := 8) hB (by decide) dX8_stepsFrom_146 ?_
            refine zr_iload hB 1 rfl dX8_stepsFrom_148 ?_
            refine zr_iconst (v := 1) hB (by decide) dX8_stepsFrom_150 ?_
            refine zr_iadd hB dX8_stepsFrom_151 ?_
            refine zr_imul hB dX8_stepsFrom_152 ?_
            refine zr_aload_n hB 3 rfl rfl dX8_stepsFrom_153 ?_
            refine zr_get_X8 (w := 50) (k := 0) (v := .ref (ad 51)) hB rfl (by decide) rfl lf_X8_9 rfl dX8_stepsFrom_154 ?_
            refine zr_bipush (v := 9) hB (by decide) dX8_stepsFrom_157 ?_
            refine zr_iaload hB zA_51 dX8_stepsFrom_159 ?_
            refine zr_iadd hB dX8_stepsFrom_160 ?_
            refine zr_iload hB 8 rfl dX8_stepsFrom_161 ?_
            refine zr_iload hB 9 rfl dX8_stepsFrom_163 ?_
            refine zr_callV (st := []) (C := RX8) (As := [.int ((8 * (v2 + 1)) + (x14 51 (zn 9))), .int a5, .int a6]) (embc := em_vI L) hB (mX8_finds (sK := sK) (sV := sV) hi ((8 * (v2 + 1)) + (x14 51 (zn 9))) a5 a6 x14 L) (zW_X8 rfl) rfl rfl lm_X8_149 q2_X8_finds q3_X8_finds q4_X8 q5_X8_finds qd_X8_finds (by decide) rfl rfl (Nat.le_of_ble_eq_true rfl) ⟨Nat.zero_le _, Nat.zero_le _⟩ dX8_stepsFrom_165 (zr_kvI (fun o47 => ?_))
            exact zr_sub [0, 1, 2, 3, 4, 5, 6, 7, 8, 9] rfl (hj42 o47)
      · refine zr_joins (pcJ := 137) (fun x37 : Unit => [(8, .int v2), (7, .int v1), (0, .ref (ad 50)), (1, .int a1), (2, .int a2), (3, .int a3), (4, .int a4), (5, .int a5), (6, .int a6)]) (fun x37 => []) (fun x37 => x14) (fun x37 => L) (fun x37 => ?_) (fun K40 hi39 hj38 => ?_)
        · refine zr_iconst (v := 0) hB (by decide) dX8_stepsFrom_137 ?_
          exact zr_sub [0, 1, 2, 3, 4, 5, 6, 7, 8] rfl (hj34 0)
        · refine zr_icmp_ne (tgt := 137) hB (by decide) dX8_stepsFrom_124 ?_ ?_
          · exact zr_sub [0, 1, 2, 3, 4, 5, 6, 7, 8] rfl (hj38 ())
          · refine zr_iload hB 0 rfl dX8_stepsFrom_127 ?_
            refine zr_iconst (v := 4) hB (by decide) dX8_stepsFrom_129 ?_
            refine zr_icmp_ge (tgt := 137) hB (by decide) dX8_stepsFrom_130 ?_ ?_
            · exact zr_sub [0, 1, 2, 3, 4, 5, 6, 7, 8] rfl (hj38 ())
            · refine zr_iconst (v := 1) hB (by decide) dX8_stepsFrom_133 ?_
              refine zr_goto (tgt := 138) hB (by decide) dX8_stepsFrom_134 ?_
              refine hi39 _ _ _ _ _ _ ?_
              exact zr_sub [0, 1, 2, 3, 4, 5, 6, 7, 8] rfl (hj34 1)
    · refine zr_sub (lv' := (fun s13 : Int32 × zI => [(10, .int s13.1), (9, .int x3), (8, .int v2), (7, .int v1), (0, .ref (ad 50)), (1, .int a1), (2, .int a2), (3, .int a3), (4, .int a4), (5, .int a5), (6, .int a6)]) (0, I)) [0, 1, 2, 3, 4, 5, 6, 7, 8, 9, 10] rfl (zr_loop (fun s13 : Int32 × zI => [(10, .int s13.1), (9, .int x3), (8, .int v2), (7, .int v1), (0, .ref (ad 50)), (1, .int a1), (2, .int a2), (3, .int a3), (4, .int a4), (5, .int a5), (6, .int a6)]) (fun s13 => s13.2) (fun s13 => L) (fun x14 : zI => [(8, .int v2), (7, .int v1), (0, .ref (ad 50)), (1, .int a1), (2, .int a2), (3, .int a3), (4, .int a4), (5, .int a5), (6, .int a6)]) (fun x14 => x14) (fun x14 => L) hx19 (fun s13 K21 hc15 hx16 => ?_) n (0, I))
      unfold gX8_stepsFrom_54
      refine zr_iload hB 0 rfl dX8_stepsFrom_54 ?_
      refine zr_bipush (v := 8) hB (by decide) dX8_stepsFrom_56 ?_
      refine zr_icmp_ge (tgt := 115) hB (by decide) dX8_stepsFrom_58 ?_ ?_
      · exact zr_sub [2, 3, 4, 5, 6, 7, 8, 9, 10] rfl (hx16 s13.2)
      · refine zr_aload_n hB 4 rfl rfl dX8_stepsFrom_61 ?_
        refine zr_iload hB 3 rfl dX8_stepsFrom_62 ?_
        refine zr_iload hB 0 rfl dX8_stepsFrom_64 ?_
        refine zr_callV (st := []) (C := RX8) (As := [.int v1, .int s13.1]) (embc := em_i0 s13.2 L) hB (mX8_isOpen (sK := sK) (sV := sV) hi v1 s13.1 s13.2 L) (zW_X8 rfl) rfl rfl lm_X8_77 q2_X8_isOpen q3_X8_isOpen q4_X8 q5_X8_isOpen qd_X8_isOpen (by decide) rfl rfl (Nat.le_of_ble_eq_true rfl) ⟨Nat.zero_le _, Nat.zero_le _⟩ dX8_stepsFrom_66 (zr_ki0 (fun o23 => ?_))
        refine zr_ifeq (tgt := 109) hB (by decide) dX8_stepsFrom_69 ?_ ?_
        · refine zr_iincL hB (j := 0) (n := 1) (w := 1) rfl (by decide) (by decide) dX8_stepsFrom_109 (fun v24 lv' hlv => ?_)
          obtain rfl : lv' = [(10, .int v24), (9, .int x3), (8, .int v2), (7, .int v1), (0, .ref (ad 50)), (1, .int a1), (2, .int a2), (3, .int a3), (4, .int a4), (5, .int a5), (6, .int a6)] := hlv.symm.trans rfl
          refine zr_goto (tgt := 54) hB (by decide) dX8_stepsFrom_112 ?_
          exact zr_sub [0, 1, 2, 3, 4, 5, 6, 7, 8, 9, 10] rfl (hc15 (v24, s13.2))
        · refine zr_aload_n hB 4 rfl rfl dX8_stepsFrom_72 ?_
          refine zr_bipush (v := 8) hB (by decide) dX8_stepsFrom_73 ?_
          refine zr_iload hB 2 rfl dX8_stepsFrom_75 ?_
          refine zr_imul hB dX8_stepsFrom_77 ?_
          refine zr_iload hB 0 rfl dX8_stepsFrom_78 ?_
          refine zr_iadd hB dX8_stepsFrom_80 ?_
          refine zr_iload hB 9 rfl dX8_stepsFrom_81 ?_
          refine zr_iload hB 10 rfl dX8_stepsFrom_83 ?_
          refine zr_callV (st := []) (C := RX8) (As := [.int ((8 * v2) + s13.1), .int a5, .int a6]) (embc := em_vI L) hB (mX8_finds (sK := sK) (sV := sV) hi ((8 * v2) + s13.1) a5 a6 s13.2 L) (zW_X8 rfl) rfl rfl lm_X8_149 q2_X8_finds q3_X8_finds q4_X8 q5_X8_finds qd_X8_finds (by decide) rfl rfl (Nat.le_of_ble_eq_true rfl) ⟨Nat.zero_le _, Nat.zero_le _⟩ dX8_stepsFrom_85 (zr_kvI (fun o27 => ?_))
          refine zr_iload hB 1 rfl dX8_stepsFrom_88 ?_
          refine zr_ifeq (tgt := 109) hB (by decide) dX8_stepsFrom_90 ?_ ?_
          · refine zr_iincL hB (j := 0) (n := 1) (w := 1) rfl (by decide) (by decide) dX8_stepsFrom_109 (fun v28 lv' hlv => ?_)
            obtain rfl : lv' = [(10, .int v28), (9, .int x3), (8, .int v2), (7, .int v1), (0, .ref (ad 50)), (1, .int a1), (2, .int a2), (3, .int a3), (4, .int a4), (5, .int a5), (6, .int a6)] := hlv.symm.trans rfl
            refine zr_goto (tgt := 54) hB (by decide) dX8_stepsFrom_112 ?_
            exact zr_sub [0, 1, 2, 3, 4, 5, 6, 7, 8, 9, 10] rfl (hc15 (v28, o27))
          · refine zr_aload_n hB 4 rfl rfl dX8_stepsFrom_93 ?_
            refine zr_bipush (v := 8) hB (by decide) dX8_stepsFrom_94 ?_
            refine zr_iload hB 2 rfl dX8_stepsFrom_96 ?_
            refine zr_imul hB dX8_stepsFrom_98 ?_
            refine zr_iload hB 0 rfl dX8_stepsFrom_99 ?_
            refine zr_iadd hB dX8_stepsFrom_101 ?_
            refine zr_iload hB 0 rfl dX8_stepsFrom_102 ?_
            refine zr_iload hB 10 rfl dX8_stepsFrom_104 ?_
            refine zr_callV (st := []) (C := RX8) (As := [.int ((8 * v2) + s13.1), .int s13.1, .int a6]) (embc := em_vI L) hB (mX8_finds (sK := sK) (sV := sV) hi ((8 * v2) + s13.1) s13.1 a6 o27 L) (zW_X8 rfl) rfl rfl lm_X8_149 q2_X8_finds q3_X8_finds q4_X8 q5_X8_finds qd_X8_finds (by decide) rfl rfl (Nat.le_of_ble_eq_true rfl) ⟨Nat.zero_le _, Nat.zero_le _⟩ dX8_stepsFrom_106 (zr_kvI (fun o31 => ?_))
            refine zr_iincL hB (j := 0) (n := 1) (w := 1) rfl (by decide) (by decide) dX8_stepsFrom_109 (fun v32 lv' hlv => ?_)
            obtain rfl : lv' = [(10, .int v32), (9, .int x3), (8, .int v2), (7, .int v1), (0, .ref (ad 50)), (1, .int a1), (2, .int a2), (3, .int a3), (4, .int a4), (5, .int a5), (6, .int a6)] := hlv.symm.trans rfl
            refine zr_goto (tgt := 54) hB (by decide) dX8_stepsFrom_112 ?_
            exact zr_sub [0, 1, 2, 3, 4, 5, 6, 7, 8, 9, 10] rfl (hc15 (v32, o31))
  · refine zr_joins (pcJ := 48) (fun x7 : Unit => [(8, .int v2), (7, .int v1), (0, .ref (ad 50)), (1, .int a1), (2, .int a2), (3, .int a3), (4, .int a4), (5, .int a5), (6, .int a6)]) (fun x7 => []) (fun x7 => I) (fun x7 => L) (fun x7 => ?_) (fun K10 hi9 hj8 => ?_)
    · refine zr_iconst (v := 0) hB (by decide) dX8_stepsFrom_48 ?_
      exact zr_sub [0, 1, 2, 3, 4, 5, 6, 7, 8] rfl (hj4 0)
    · refine zr_iflt (tgt := 48) hB (by decide) dX8_stepsFrom_15 ?_ ?_
      · exact zr_sub [0, 1, 2, 3, 4, 5, 6, 7, 8] rfl (hj8 ())
      · refine zr_iload hB 7 rfl dX8_stepsFrom_18 ?_
        refine zr_iload hB 1 rfl dX8_stepsFrom_20 ?_
        refine zr_icmp_ne (tgt := 48) hB (by decide) dX8_stepsFrom_22 ?_ ?_
        · exact zr_sub [0, 1, 2, 3, 4, 5, 6, 7, 8] rfl (hj8 ())
        · refine zr_aload_n hB 2 rfl rfl dX8_stepsFrom_25 ?_
          refine zr_iload_n hB 4 rfl rfl dX8_stepsFrom_26 ?_
          refine zr_iload hB 0 rfl dX8_stepsFrom_27 ?_
          refine zr_callV (st := []) (C := RX8) (As := [.int a2, .int v2]) (embc := em_i0 I L) hB (mX8_weighs (sK := sK) (sV := sV) hi a2 v2 I L) (zW_X8 rfl) rfl rfl lm_X8_93 q2_X8_weighs q3_X8_weighs q4_X8 q5_X8_weighs qd_X8_weighs (by decide) rfl rfl (Nat.le_of_ble_eq_true rfl) ⟨Nat.zero_le _, Nat.zero_le _⟩ dX8_stepsFrom_29 (zr_ki0 (fun o12 => ?_))
          refine zr_aload_n hB 2 rfl rfl dX8_stepsFrom_32 ?_
          refine zr_get_X8 (w := 50) (k := 0) (v := .ref (ad 51)) hB rfl (by decide) rfl lf_X8_9 rfl dX8_stepsFrom_33 ?_
          refine zr_bipush (v := 56) hB (by decide) dX8_stepsFrom_36 ?_
          refine zr_iload_n hB 3 rfl rfl dX8_stepsFrom_38 ?_
          refine zr_iadd hB dX8_stepsFrom_39 ?_
          refine zr_iaload hB zA_51 dX8_stepsFrom_40 ?_
          refine zr_icmp_gt (tgt := 48) hB (by decide) dX8_stepsFrom_41 ?_ ?_
          · exact zr_sub [0, 1, 2, 3, 4, 5, 6, 7, 8] rfl (hj8 ())
          · refine zr_iconst (v := 1) hB (by decide) dX8_stepsFrom_44 ?_
            refine zr_goto (tgt := 49) hB (by decide) dX8_stepsFrom_45 ?_
            refine hi9 _ _ _ _ _ _ ?_
            exact zr_sub [0, 1, 2, 3, 4, 5, 6, 7, 8] rfl (hj4 1)

def gX8_walksAll_3  (s1 : Int32 × zI) : Option ((Int32 × zI) ⊕ (zI)) :=
  if 320 ≤ s1.1 then
    some (.inr s1.2)
  else
  zg s1.1 320 (
  zl (zup s1.2 56 (zn s1.1) (-1)) fun J10 =>
  zl (s1.1 + 1) fun v11 =>
  some (.inl (v11, J10)))
def gX8_walksAll_66 (n : Nat) (a1 : Int32) (a2 : Int32) (a3 : Int32) (s21 : zI) : Option ((zI) ⊕ (zI)) :=
  if (s21 50 9) ≤ (s21 50 10) then
    some (.inr s21)
  else
  zg (s21 50 10) 320 (
  zl (s21 57 (zn (s21 50 10))) fun v30 =>
  zl (zup s21 50 10 ((s21 50 10) + 1)) fun J31 =>
  zg v30 320 (
  zb (fX8_stepsFrom n a1 a2 a3 (v30 / 8) (zrem v30 8) ((J31 56 (zn v30)) + 1) J31) fun o34 =>
  some (.inl o34)))
def fX8_walksAll (n : Nat) (a1 : Int32) (a2 : Int32) (a3 : Int32) (I : zI) : Option (zI) :=
  zb (zit gX8_walksAll_3 n (0, I)) fun x2 : zI =>
  zl (zup x2 50 9 0) fun J12 =>
  zl (zup J12 50 10 0) fun J13 =>
  zg (52 + a1) 120 (
  zb (
    if 0 ≤ a2 then
      zg (36 + a2) 120 (
      some (J13 51 (zn (36 + a2))))
    else
    some 0) fun x14 : Int32 =>
  zb (fX8_finds (J13 51 (zn (52 + a1))) x14 0 J13) fun o20 =>
  zb (zit (gX8_walksAll_66 n a1 a2 a3) n o20) fun x22 : zI =>
  some x22)
set_option maxHeartbeats 4000000 in
set_option maxRecDepth 100000 in
theorem mX8_walksAll {l : Launch} {D : va_G} {T : zT} {ad sK sV : Nat → Nat} (hi : zInj ad) (n : Nat) (a1 : Int32) (a2 : Int32) (a3 : Int32)  (I : zI) (L : zL) : ∀ o, fX8_walksAll n a1 a2 a3 I = some o → zMet l yX8_walksAll cX8_walksAll 5 none 3 77 D T ad sK sV [.ref (ad 50), .int a1, .int a2, .int a3] I L (em_vI L o) := by
  intro o ho
  refine zMet.of hi (by decide +kernel) (Nat.le_of_ble_eq_true rfl) (fun p e s m args below meth c hB => ?_)
  refine zr_top (emb := em_vI L) (t := fX8_walksAll n a1 a2 a3 I) ?_ ho
  unfold fX8_walksAll
  refine zr_iconst (v := 0) hB (by decide) dX8_walksAll_0 ?_
  refine zr_istore (lv' := [(4, .int 0), (0, .ref (ad 50)), (1, .int a1), (2, .int a2), (3, .int a3)]) hB (by decide) rfl dX8_walksAll_1 ?_
  refine zr_join (pcJ := 25) (fun x2 : zI => [(0, .ref (ad 50)), (1, .int a1), (2, .int a2), (3, .int a3)]) (fun _ => []) (fun x2 => x2) (fun x2 => L) (fun x2 => ?_) (fun K8 hx7 => ?_)
  · refine zr_aload_n hB 0 rfl rfl dX8_walksAll_25 ?_
    refine zr_iconst (v := 0) hB (by decide) dX8_walksAll_26 ?_
    refine zr_put_X8 (w := 50) (k := 9) hB rfl (by decide) rfl rfl rfl lf_X8_145 rfl dX8_walksAll_27 ?_
    refine zr_letM (fun J12 => ?_)
    refine zr_aload_n hB 0 rfl rfl dX8_walksAll_30 ?_
    refine zr_iconst (v := 0) hB (by decide) dX8_walksAll_31 ?_
    refine zr_put_X8 (w := 50) (k := 10) hB rfl (by decide) rfl rfl rfl lf_X8_152 rfl dX8_walksAll_32 ?_
    refine zr_letM (fun J13 => ?_)
    refine zr_aload_n hB 0 rfl rfl dX8_walksAll_35 ?_
    refine zr_aload_n hB 0 rfl rfl dX8_walksAll_36 ?_
    refine zr_get_X8 (w := 50) (k := 0) (v := .ref (ad 51)) hB rfl (by decide) rfl lf_X8_9 rfl dX8_walksAll_37 ?_
    refine zr_bipush (v := 52) hB (by decide) dX8_walksAll_40 ?_
    refine zr_iload_n hB 1 rfl rfl dX8_walksAll_42 ?_
    refine zr_iadd hB dX8_walksAll_43 ?_
    refine zr_iaload hB zA_51 dX8_walksAll_44 ?_
    refine zr_iload_n hB 2 rfl rfl dX8_walksAll_45 ?_
    refine zr_join (pcJ := 62) (fun x14 : Int32 => [(0, .ref (ad 50)), (1, .int a1), (2, .int a2), (3, .int a3)]) (fun x14 => [.int x14, .int (J13 51 (zn (52 + a1))), .ref (ad 50)]) (fun x14 => J13) (fun x14 => L) (fun x14 => ?_) (fun K17 hj15 => ?_)
    · refine zr_iconst (v := 0) hB (by decide) dX8_walksAll_62 ?_
      refine zr_callV (st := []) (C := RX8) (As := [.int (J13 51 (zn (52 + a1))), .int x14, .int 0]) (embc := em_vI L) hB (mX8_finds (sK := sK) (sV := sV) hi (J13 51 (zn (52 + a1))) x14 0 J13 L) (zW_X8 rfl) rfl rfl lm_X8_149 q2_X8_finds q3_X8_finds q4_X8 q5_X8_finds qd_X8_finds (by decide) rfl rfl (Nat.le_of_ble_eq_true rfl) ⟨Nat.zero_le _, Nat.zero_le _⟩ dX8_walksAll_63 (zr_kvI (fun o20 => ?_))
      refine zr_join (pcJ := 127) (fun x22 : zI => []) (fun _ => []) (fun x22 => x22) (fun x22 => L) (fun x22 => ?_) (fun K28 hx27 => ?_)
      · exact zr_vret hB rfl rfl dX8_walksAll_127
      · refine zr_sub (lv' := (fun s21 : zI => [(0, .ref (ad 50)), (1, .int a1), (2, .int a2), (3, .int a3)]) o20) [0, 1, 2, 3] rfl (zr_loop (fun s21 : zI => [(0, .ref (ad 50)), (1, .int a1), (2, .int a2), (3, .int a3)]) (fun s21 => s21) (fun s21 => L) (fun x22 : zI => []) (fun x22 => x22) (fun x22 => L) hx27 (fun s21 K29 hc23 hx24 => ?_) n o20)
        unfold gX8_walksAll_66
        refine zr_aload_n hB 0 rfl rfl dX8_walksAll_66 ?_
        refine zr_get_X8 (w := 50) (k := 10) (v := .int (s21 50 10)) hB rfl (by decide) rfl lf_X8_152 rfl dX8_walksAll_67 ?_
        refine zr_aload_n hB 0 rfl rfl dX8_walksAll_70 ?_
        refine zr_get_X8 (w := 50) (k := 9) (v := .int (s21 50 9)) hB rfl (by decide) rfl lf_X8_145 rfl dX8_walksAll_71 ?_
        refine zr_icmp_ge (tgt := 127) hB (by decide) dX8_walksAll_74 ?_ ?_
        · exact zr_sub [] rfl (hx24 s21)
        · refine zr_aload_n hB 0 rfl rfl dX8_walksAll_77 ?_
          refine zr_get_X8 (w := 50) (k := 8) (v := .ref (ad 57)) hB rfl (by decide) rfl lf_X8_28 rfl dX8_walksAll_78 ?_
          refine zr_aload_n hB 0 rfl rfl dX8_walksAll_81 ?_
          refine zr_get_X8 (w := 50) (k := 10) (v := .int (s21 50 10)) hB rfl (by decide) rfl lf_X8_152 rfl dX8_walksAll_82 ?_
          refine zr_iaload hB zA_57 dX8_walksAll_85 ?_
          refine zr_letI (fun v30 => ?_)
          refine zr_istore (lv' := [(4, .int v30), (0, .ref (ad 50)), (1, .int a1), (2, .int a2), (3, .int a3)]) hB (by decide) rfl dX8_walksAll_86 ?_
          refine zr_aload_n hB 1 rfl rfl dX8_walksAll_88 ?_
          refine zr_dup hB rfl dX8_walksAll_89 ?_
          refine zr_get_X8 (w := 50) (k := 10) (v := .int (s21 50 10)) hB rfl (by decide) rfl lf_X8_152 rfl dX8_walksAll_90 ?_
          refine zr_iconst (v := 1) hB (by decide) dX8_walksAll_93 ?_
          refine zr_iadd hB dX8_walksAll_94 ?_
          refine zr_put_X8 (w := 50) (k := 10) hB rfl (by decide) rfl rfl rfl lf_X8_152 rfl dX8_walksAll_95 ?_
          refine zr_letM (fun J31 => ?_)
          refine zr_aload_n hB 1 rfl rfl dX8_walksAll_98 ?_
          refine zr_iload_n hB 2 rfl rfl dX8_walksAll_99 ?_
          refine zr_iload_n hB 3 rfl rfl dX8_walksAll_100 ?_
          refine zr_iload_n hB 4 rfl rfl dX8_walksAll_101 ?_
          refine zr_iload hB 0 rfl dX8_walksAll_102 ?_
          refine zr_bipush (v := 8) hB (by decide) dX8_walksAll_104 ?_
          refine zr_idivC hB (by decide) dX8_walksAll_106 ?_
          refine zr_iload hB 0 rfl dX8_walksAll_107 ?_
          refine zr_bipush (v := 8) hB (by decide) dX8_walksAll_109 ?_
          refine zr_iremC hB (by decide) dX8_walksAll_111 ?_
          refine zr_aload_n hB 1 rfl rfl dX8_walksAll_112 ?_
          refine zr_get_X8 (w := 50) (k := 7) (v := .ref (ad 56)) hB rfl (by decide) rfl lf_X8_25 rfl dX8_walksAll_113 ?_
          refine zr_iload hB 0 rfl dX8_walksAll_116 ?_
          refine zr_iaload hB zA_56 dX8_walksAll_118 ?_
          refine zr_iconst (v := 1) hB (by decide) dX8_walksAll_119 ?_
          refine zr_iadd hB dX8_walksAll_120 ?_
          refine zr_callV (st := []) (C := RX8) (As := [.int a1, .int a2, .int a3, .int (v30 / 8), .int (zrem v30 8), .int ((J31 56 (zn v30)) + 1)]) (embc := em_vI L) hB (mX8_stepsFrom (sK := sK) (sV := sV) hi n a1 a2 a3 (v30 / 8) (zrem v30 8) ((J31 56 (zn v30)) + 1) J31 L) (zW_X8 rfl) rfl rfl lm_X8_155 q2_X8_stepsFrom q3_X8_stepsFrom q4_X8 q5_X8_stepsFrom qd_X8_stepsFrom (by decide) rfl rfl (Nat.le_of_ble_eq_true rfl) ⟨Nat.zero_le _, Nat.zero_le _⟩ dX8_walksAll_121 (zr_kvI (fun o34 => ?_))
          refine zr_goto (tgt := 66) hB (by decide) dX8_walksAll_124 ?_
          exact zr_sub [1, 2, 3, 4] rfl (hc23 o34)
    · refine zr_ifge (tgt := 53) hB (by decide) dX8_walksAll_46 ?_ ?_
      · refine zr_aload_n hB 0 rfl rfl dX8_walksAll_53 ?_
        refine zr_get_X8 (w := 50) (k := 0) (v := .ref (ad 51)) hB rfl (by decide) rfl lf_X8_9 rfl dX8_walksAll_54 ?_
        refine zr_bipush (v := 36) hB (by decide) dX8_walksAll_57 ?_
        refine zr_iload_n hB 2 rfl rfl dX8_walksAll_59 ?_
        refine zr_iadd hB dX8_walksAll_60 ?_
        refine zr_iaload hB zA_51 dX8_walksAll_61 ?_
        exact zr_sub [0, 1, 2, 3] rfl (hj15 (J13 51 (zn (36 + a2))))
      · refine zr_iconst (v := 0) hB (by decide) dX8_walksAll_49 ?_
        refine zr_goto (tgt := 62) hB (by decide) dX8_walksAll_50 ?_
        exact zr_sub [0, 1, 2, 3] rfl (hj15 0)
  · refine zr_sub (lv' := (fun s1 : Int32 × zI => [(4, .int s1.1), (0, .ref (ad 50)), (1, .int a1), (2, .int a2), (3, .int a3)]) (0, I)) [0, 1, 2, 3, 4] rfl (zr_loop (fun s1 : Int32 × zI => [(4, .int s1.1), (0, .ref (ad 50)), (1, .int a1), (2, .int a2), (3, .int a3)]) (fun s1 => s1.2) (fun s1 => L) (fun x2 : zI => [(0, .ref (ad 50)), (1, .int a1), (2, .int a2), (3, .int a3)]) (fun x2 => x2) (fun x2 => L) hx7 (fun s1 K9 hc3 hx4 => ?_) n (0, I))
    unfold gX8_walksAll_3
    refine zr_iload hB 0 rfl dX8_walksAll_3 ?_
    refine zr_sipush (v := 320) hB (by decide) dX8_walksAll_5 ?_
    refine zr_icmp_ge (tgt := 25) hB (by decide) dX8_walksAll_8 ?_ ?_
    · exact zr_sub [1, 2, 3, 4] rfl (hx4 s1.2)
    · refine zr_aload_n hB 1 rfl rfl dX8_walksAll_11 ?_
      refine zr_get_X8 (w := 50) (k := 7) (v := .ref (ad 56)) hB rfl (by decide) rfl lf_X8_25 rfl dX8_walksAll_12 ?_
      refine zr_iload hB 0 rfl dX8_walksAll_15 ?_
      refine zr_iconst (v := (-1)) hB (by decide) dX8_walksAll_17 ?_
      refine zr_iastore hB zA_56 dX8_walksAll_18 ?_
      refine zr_letM (fun J10 => ?_)
      refine zr_iincL hB (j := 0) (n := 1) (w := 1) rfl (by decide) (by decide) dX8_walksAll_19 (fun v11 lv' hlv => ?_)
      obtain rfl : lv' = [(4, .int v11), (0, .ref (ad 50)), (1, .int a1), (2, .int a2), (3, .int a3)] := hlv.symm.trans rfl
      refine zr_goto (tgt := 3) hB (by decide) dX8_walksAll_22 ?_
      exact zr_sub [0, 1, 2, 3, 4] rfl (hc3 (v11, J10))

def gX8_ways_27 (o5 : zI) (s6 : Int64 × Int32) : Option ((Int64 × Int32) ⊕ (Int64)) :=
  if 40 ≤ s6.2 then
    some (.inr s6.1)
  else
  zg (8 * s6.2) 320 (
  if 0 ≤ (o5 56 (zn (8 * s6.2))) then
    zl (s6.1 ||| (zshlL 1 s6.2)) fun v15 =>
    zl (s6.2 + 1) fun v16 =>
    some (.inl (v15, v16))
  else
  zl (s6.1 ||| 0) fun v17 =>
  zl (s6.2 + 1) fun v18 =>
  some (.inl (v17, v18)))
def fX8_ways (n : Nat) (a1 : Int32) (I : zI) : Option (Int64 × zI) :=
  zb (fX8_isOne a1 I) fun o2 =>
  if o2 = 0 then
    zb (fX8_finding 0 I) fun o21 =>
    some (o21.1.toInt64, o21.2)
  else
  zb (fX8_walksAll n a1 (-1) 0 I) fun o5 =>
  zb (zit (gX8_ways_27 o5) n (0, 0)) fun x7 : Int64 =>
  some (x7, o5)
set_option maxHeartbeats 4000000 in
set_option maxRecDepth 100000 in
theorem mX8_ways {l : Launch} {D : va_G} {T : zT} {ad sK sV : Nat → Nat} (hi : zInj ad) (n : Nat) (a1 : Int32)  (I : zI) (L : zL) : ∀ o, fX8_ways n a1 I = some o → zMet l yX8_ways cX8_ways 5 (some .long) 4 101 D T ad sK sV [.ref (ad 50), .int a1] I L (em_lI L o) := by
  intro o ho
  refine zMet.of hi (by decide +kernel) (Nat.le_of_ble_eq_true rfl) (fun p e s m args below meth c hB => ?_)
  refine zr_top (emb := em_lI L) (t := fX8_ways n a1 I) ?_ ho
  unfold fX8_ways
  refine zr_aload_n hB 0 rfl rfl dX8_ways_0 ?_
  refine zr_iload_n hB 1 rfl rfl dX8_ways_1 ?_
  refine zr_callV (st := []) (C := RX8) (As := [.int a1]) (embc := em_i0 I L) hB (mX8_isOne (sK := sK) (sV := sV) hi a1 I L) (zW_X8 rfl) rfl rfl lm_X8_106 q2_X8_isOne q3_X8_isOne q4_X8 q5_X8_isOne qd_X8_isOne (by decide) rfl rfl (Nat.le_of_ble_eq_true rfl) ⟨Nat.zero_le _, Nat.zero_le _⟩ dX8_ways_2 (zr_ki0 (fun o2 => ?_))
  refine zr_ifne (tgt := 15) hB (by decide) dX8_ways_5 ?_ ?_
  · refine zr_aload_n hB 0 rfl rfl dX8_ways_15 ?_
    refine zr_iload_n hB 1 rfl rfl dX8_ways_16 ?_
    refine zr_iconst (v := (-1)) hB (by decide) dX8_ways_17 ?_
    refine zr_iconst (v := 0) hB (by decide) dX8_ways_18 ?_
    refine zr_callV (st := []) (C := RX8) (As := [.int a1, .int (-1), .int 0]) (embc := em_vI L) hB (mX8_walksAll (sK := sK) (sV := sV) hi n a1 (-1) 0 I L) (zW_X8 rfl) rfl rfl lm_X8_159 q2_X8_walksAll q3_X8_walksAll q4_X8 q5_X8_walksAll qd_X8_walksAll (by decide) rfl rfl (Nat.le_of_ble_eq_true rfl) ⟨Nat.zero_le _, Nat.zero_le _⟩ dX8_ways_19 (zr_kvI (fun o5 => ?_))
    refine zr_lconst (v := 0) hB (by decide) dX8_ways_22 ?_
    refine zr_lstore_n (lv' := [(2, .long 0), (0, .ref (ad 50)), (1, .int a1)]) hB rfl (by decide) rfl dX8_ways_23 ?_
    refine zr_iconst (v := 0) hB (by decide) dX8_ways_24 ?_
    refine zr_istore (lv' := [(4, .int 0), (2, .long 0), (0, .ref (ad 50)), (1, .int a1)]) hB (by decide) rfl dX8_ways_25 ?_
    refine zr_join (pcJ := 64) (fun x7 : Int64 => [(2, .long x7)]) (fun _ => []) (fun x7 => o5) (fun x7 => L) (fun x7 => ?_) (fun K13 hx12 => ?_)
    · refine zr_lload_n hB 0 rfl rfl dX8_ways_64 ?_
      exact zr_lret hB rfl rfl dX8_ways_65
    · refine zr_sub (lv' := (fun s6 : Int64 × Int32 => [(2, .long s6.1), (4, .int s6.2), (0, .ref (ad 50))]) (0, 0)) [1, 0, 2] rfl (zr_loop (fun s6 : Int64 × Int32 => [(2, .long s6.1), (4, .int s6.2), (0, .ref (ad 50))]) (fun s6 => o5) (fun s6 => L) (fun x7 : Int64 => [(2, .long x7)]) (fun x7 => o5) (fun x7 => L) hx12 (fun s6 K14 hc8 hx9 => ?_) n (0, 0))
      unfold gX8_ways_27
      refine zr_iload hB 1 rfl dX8_ways_27 ?_
      refine zr_bipush (v := 40) hB (by decide) dX8_ways_29 ?_
      refine zr_icmp_ge (tgt := 64) hB (by decide) dX8_ways_31 ?_ ?_
      · exact zr_sub [0] rfl (hx9 s6.1)
      · refine zr_lload_n hB 0 rfl rfl dX8_ways_34 ?_
        refine zr_aload_n hB 2 rfl rfl dX8_ways_35 ?_
        refine zr_get_X8 (w := 50) (k := 7) (v := .ref (ad 56)) hB rfl (by decide) rfl lf_X8_25 rfl dX8_ways_36 ?_
        refine zr_bipush (v := 8) hB (by decide) dX8_ways_39 ?_
        refine zr_iload hB 1 rfl dX8_ways_41 ?_
        refine zr_imul hB dX8_ways_43 ?_
        refine zr_iaload hB zA_56 dX8_ways_44 ?_
        refine zr_ifge (tgt := 52) hB (by decide) dX8_ways_45 ?_ ?_
        · refine zr_lconst (v := 1) hB (by decide) dX8_ways_52 ?_
          refine zr_iload hB 1 rfl dX8_ways_53 ?_
          refine zr_lshl hB dX8_ways_55 ?_
          refine zr_lor hB dX8_ways_56 ?_
          refine zr_letL (fun v15 => ?_)
          refine zr_lstore_n (lv' := [(2, .long v15), (4, .int s6.2), (0, .ref (ad 50))]) hB rfl (by decide) rfl dX8_ways_57 ?_
          refine zr_iincL hB (j := 1) (n := 1) (w := 1) rfl (by decide) (by decide) dX8_ways_58 (fun v16 lv' hlv => ?_)
          obtain rfl : lv' = [(4, .int v16), (2, .long v15), (0, .ref (ad 50))] := hlv.symm.trans rfl
          refine zr_goto (tgt := 27) hB (by decide) dX8_ways_61 ?_
          exact zr_sub [1, 0, 2] rfl (hc8 (v15, v16))
        · refine zr_lconst (v := 0) hB (by decide) dX8_ways_48 ?_
          refine zr_goto (tgt := 56) hB (by decide) dX8_ways_49 ?_
          refine zr_lor hB dX8_ways_56 ?_
          refine zr_letL (fun v17 => ?_)
          refine zr_lstore_n (lv' := [(2, .long v17), (4, .int s6.2), (0, .ref (ad 50))]) hB rfl (by decide) rfl dX8_ways_57 ?_
          refine zr_iincL hB (j := 1) (n := 1) (w := 1) rfl (by decide) (by decide) dX8_ways_58 (fun v18 lv' hlv => ?_)
          obtain rfl : lv' = [(4, .int v18), (2, .long v17), (0, .ref (ad 50))] := hlv.symm.trans rfl
          refine zr_goto (tgt := 27) hB (by decide) dX8_ways_61 ?_
          exact zr_sub [1, 0, 2] rfl (hc8 (v17, v18))
  · refine zr_aload_n hB 0 rfl rfl dX8_ways_8 ?_
    refine zr_iconst (v := 0) hB (by decide) dX8_ways_9 ?_
    refine zr_callV (st := []) (C := RX8) (As := [.int 0]) (embc := em_iI L) hB (mX8_finding (sK := sK) (sV := sV) hi 0 I L) (zW_X8 rfl) rfl rfl lm_X8_74 q2_X8_finding q3_X8_finding q4_X8 q5_X8_finding qd_X8_finding (by decide) rfl rfl (Nat.le_of_ble_eq_true rfl) ⟨Nat.zero_le _, Nat.zero_le _⟩ dX8_ways_10 (zr_kiI (fun o21 => ?_))
    refine zr_i2l hB dX8_ways_13 ?_
    exact zr_lret hB rfl rfl dX8_ways_14

def fX8_orNone (a1 : Int32) (I : zI) : Option (Int32 × zI) :=
  if 0 ≤ a1 then
    some (a1, I)
  else
  zb (fX8_finding 3 I) fun o3 =>
  some (o3.1, o3.2)
set_option maxHeartbeats 4000000 in
set_option maxRecDepth 100000 in
theorem mX8_orNone {l : Launch} {D : va_G} {T : zT} {ad sK sV : Nat → Nat} (hi : zInj ad) (a1 : Int32)  (I : zI) (L : zL) : ∀ o, fX8_orNone a1 I = some o → zMet l yX8_orNone cX8_orNone 2 (some .int) 1 21 D T ad sK sV [.ref (ad 50), .int a1] I L (em_iI L o) := by
  intro o ho
  refine zMet.of hi (by decide +kernel) (Nat.le_of_ble_eq_true rfl) (fun p e s m args below meth c hB => ?_)
  refine zr_top (emb := em_iI L) (t := fX8_orNone a1 I) ?_ ho
  unfold fX8_orNone
  refine zr_iload_n hB 1 rfl rfl dX8_orNone_0 ?_
  refine zr_ifge (tgt := 12) hB (by decide) dX8_orNone_1 ?_ ?_
  · refine zr_iload_n hB 1 rfl rfl dX8_orNone_12 ?_
    exact zr_iret hB rfl rfl dX8_orNone_13
  · refine zr_aload_n hB 0 rfl rfl dX8_orNone_4 ?_
    refine zr_iconst (v := 3) hB (by decide) dX8_orNone_5 ?_
    refine zr_callV (st := []) (C := RX8) (As := [.int 3]) (embc := em_iI L) hB (mX8_finding (sK := sK) (sV := sV) hi 3 I L) (zW_X8 rfl) rfl rfl lm_X8_74 q2_X8_finding q3_X8_finding q4_X8 q5_X8_finding qd_X8_finding (by decide) rfl rfl (Nat.le_of_ble_eq_true rfl) ⟨Nat.zero_le _, Nat.zero_le _⟩ dX8_orNone_6 (zr_kiI (fun o3 => ?_))
    refine zr_goto (tgt := 13) hB (by decide) dX8_orNone_9 ?_
    exact zr_iret hB rfl rfl dX8_orNone_13

def fX8_far (n : Nat) (a1 : Int32) (a2 : Int32) (I : zI) : Option (Int32 × zI) :=
  zb (fX8_isOne a1 I) fun o2 =>
  if o2 = 0 then
    zb (fX8_finding 0 I) fun o5 =>
    some (o5.1, o5.2)
  else
  zb (fX8_isPlace a2) fun o7 =>
  if o7 = 0 then
    zb (fX8_finding 0 I) fun o16 =>
    some (o16.1, o16.2)
  else
  zb (fX8_walksAll n a1 (-1) 0 I) fun o10 =>
  zg (8 * a2) 320 (
  zb (fX8_orNone (o10 56 (zn (8 * a2))) o10) fun o13 =>
  some (o13.1, o13.2))
set_option maxHeartbeats 4000000 in
set_option maxRecDepth 100000 in
theorem mX8_far {l : Launch} {D : va_G} {T : zT} {ad sK sV : Nat → Nat} (hi : zInj ad) (n : Nat) (a1 : Int32) (a2 : Int32)  (I : zI) (L : zL) : ∀ o, fX8_far n a1 a2 I = some o → zMet l yX8_far cX8_far 3 (some .int) 4 101 D T ad sK sV [.ref (ad 50), .int a1, .int a2] I L (em_iI L o) := by
  intro o ho
  refine zMet.of hi (by decide +kernel) (Nat.le_of_ble_eq_true rfl) (fun p e s m args below meth c hB => ?_)
  refine zr_top (emb := em_iI L) (t := fX8_far n a1 a2 I) ?_ ho
  unfold fX8_far
  refine zr_aload_n hB 0 rfl rfl dX8_far_0 ?_
  refine zr_iload_n hB 1 rfl rfl dX8_far_1 ?_
  refine zr_callV (st := []) (C := RX8) (As := [.int a1]) (embc := em_i0 I L) hB (mX8_isOne (sK := sK) (sV := sV) hi a1 I L) (zW_X8 rfl) rfl rfl lm_X8_106 q2_X8_isOne q3_X8_isOne q4_X8 q5_X8_isOne qd_X8_isOne (by decide) rfl rfl (Nat.le_of_ble_eq_true rfl) ⟨Nat.zero_le _, Nat.zero_le _⟩ dX8_far_2 (zr_ki0 (fun o2 => ?_))
  refine zr_ifeq (tgt := 15) hB (by decide) dX8_far_5 ?_ ?_
  · refine zr_aload_n hB 0 rfl rfl dX8_far_15 ?_
    refine zr_iconst (v := 0) hB (by decide) dX8_far_16 ?_
    refine zr_callV (st := []) (C := RX8) (As := [.int 0]) (embc := em_iI L) hB (mX8_finding (sK := sK) (sV := sV) hi 0 I L) (zW_X8 rfl) rfl rfl lm_X8_74 q2_X8_finding q3_X8_finding q4_X8 q5_X8_finding qd_X8_finding (by decide) rfl rfl (Nat.le_of_ble_eq_true rfl) ⟨Nat.zero_le _, Nat.zero_le _⟩ dX8_far_17 (zr_kiI (fun o5 => ?_))
    exact zr_iret hB rfl rfl dX8_far_20
  · refine zr_iload_n hB 2 rfl rfl dX8_far_8 ?_
    refine zr_callS (st := []) (As := [.int a2]) (embc := em_i0 I L) hB (mX8_isPlace (sK := sK) (sV := sV) hi a2 I L) lm_X8_99 q2_X8_isPlace q4_X8 q5_X8_isPlace qd_X8_isPlace (by decide) rfl rfl (Nat.le_of_ble_eq_true rfl) ⟨Nat.zero_le _, Nat.zero_le _⟩ dX8_far_9 (zr_ki0 (fun o7 => ?_))
    refine zr_ifne (tgt := 21) hB (by decide) dX8_far_12 ?_ ?_
    · refine zr_aload_n hB 0 rfl rfl dX8_far_21 ?_
      refine zr_iload_n hB 1 rfl rfl dX8_far_22 ?_
      refine zr_iconst (v := (-1)) hB (by decide) dX8_far_23 ?_
      refine zr_iconst (v := 0) hB (by decide) dX8_far_24 ?_
      refine zr_callV (st := []) (C := RX8) (As := [.int a1, .int (-1), .int 0]) (embc := em_vI L) hB (mX8_walksAll (sK := sK) (sV := sV) hi n a1 (-1) 0 I L) (zW_X8 rfl) rfl rfl lm_X8_159 q2_X8_walksAll q3_X8_walksAll q4_X8 q5_X8_walksAll qd_X8_walksAll (by decide) rfl rfl (Nat.le_of_ble_eq_true rfl) ⟨Nat.zero_le _, Nat.zero_le _⟩ dX8_far_25 (zr_kvI (fun o10 => ?_))
      refine zr_aload_n hB 0 rfl rfl dX8_far_28 ?_
      refine zr_aload_n hB 0 rfl rfl dX8_far_29 ?_
      refine zr_get_X8 (w := 50) (k := 7) (v := .ref (ad 56)) hB rfl (by decide) rfl lf_X8_25 rfl dX8_far_30 ?_
      refine zr_bipush (v := 8) hB (by decide) dX8_far_33 ?_
      refine zr_iload_n hB 2 rfl rfl dX8_far_35 ?_
      refine zr_imul hB dX8_far_36 ?_
      refine zr_iaload hB zA_56 dX8_far_37 ?_
      refine zr_callV (st := []) (C := RX8) (As := [.int (o10 56 (zn (8 * a2)))]) (embc := em_iI L) hB (mX8_orNone (sK := sK) (sV := sV) hi (o10 56 (zn (8 * a2))) o10 L) (zW_X8 rfl) rfl rfl lm_X8_162 q2_X8_orNone q3_X8_orNone q4_X8 q5_X8_orNone qd_X8_orNone (by decide) rfl rfl (Nat.le_of_ble_eq_true rfl) ⟨Nat.zero_le _, Nat.zero_le _⟩ dX8_far_38 (zr_kiI (fun o13 => ?_))
      exact zr_iret hB rfl rfl dX8_far_41
    · refine zr_aload_n hB 0 rfl rfl dX8_far_15 ?_
      refine zr_iconst (v := 0) hB (by decide) dX8_far_16 ?_
      refine zr_callV (st := []) (C := RX8) (As := [.int 0]) (embc := em_iI L) hB (mX8_finding (sK := sK) (sV := sV) hi 0 I L) (zW_X8 rfl) rfl rfl lm_X8_74 q2_X8_finding q3_X8_finding q4_X8 q5_X8_finding qd_X8_finding (by decide) rfl rfl (Nat.le_of_ble_eq_true rfl) ⟨Nat.zero_le _, Nat.zero_le _⟩ dX8_far_17 (zr_kiI (fun o16 => ?_))
      exact zr_iret hB rfl rfl dX8_far_20

def gX8_leastFor_4 (a1 : Int32) (I : zI) (s1 : Int32 × Int32) : Option ((Int32 × Int32) ⊕ (Int32)) :=
  if 40 ≤ s1.2 then
    some (.inr s1.1)
  else
  zg ((8 * s1.2) + a1) 320 (
  zl (I 56 (zn ((8 * s1.2) + a1))) fun v10 =>
  if v10 < 0 then
    zl (s1.2 + 1) fun v11 =>
    some (.inl (s1.1, v11))
  else
  if s1.1 < 0 then
    zl (s1.2 + 1) fun v12 =>
    some (.inl (v10, v12))
  else
  if s1.1 ≤ v10 then
    zl (s1.2 + 1) fun v13 =>
    some (.inl (s1.1, v13))
  else
  zl (s1.2 + 1) fun v14 =>
  some (.inl (v10, v14)))
def fX8_leastFor (n : Nat) (a1 : Int32) (I : zI) : Option (Int32) :=
  zb (zit (gX8_leastFor_4 a1 I) n ((-1), 0)) fun x2 : Int32 =>
  some x2
set_option maxHeartbeats 4000000 in
set_option maxRecDepth 100000 in
theorem mX8_leastFor {l : Launch} {D : va_G} {T : zT} {ad sK sV : Nat → Nat} (hi : zInj ad) (n : Nat) (a1 : Int32)  (I : zI) (L : zL) : ∀ o, fX8_leastFor n a1 I = some o → zMet l yX8_leastFor cX8_leastFor 5 (some .int) 0 0 D T ad sK sV [.ref (ad 50), .int a1] I L (em_i0 I L o) := by
  intro o ho
  refine zMet.of hi (by decide +kernel) (Nat.le_of_ble_eq_true rfl) (fun p e s m args below meth c hB => ?_)
  refine zr_top (emb := em_i0 I L) (t := fX8_leastFor n a1 I) ?_ ho
  unfold fX8_leastFor
  refine zr_iconst (v := (-1)) hB (by decide) dX8_leastFor_0 ?_
  refine zr_istore_n (lv' := [(2, .int (-1)), (0, .ref (ad 50)), (1, .int a1)]) hB rfl (by decide) rfl dX8_leastFor_1 ?_
  refine zr_iconst (v := 0) hB (by decide) dX8_leastFor_2 ?_
  refine zr_istore_n (lv' := [(3, .int 0), (2, .int (-1)), (0, .ref (ad 50)), (1, .int a1)]) hB rfl (by decide) rfl dX8_leastFor_3 ?_
  refine zr_join (pcJ := 51) (fun x2 : Int32 => [(2, .int x2)]) (fun _ => []) (fun x2 => I) (fun x2 => L) (fun x2 => ?_) (fun K8 hx7 => ?_)
  · refine zr_iload_n hB 0 rfl rfl dX8_leastFor_51 ?_
    exact zr_iret hB rfl rfl dX8_leastFor_52
  · refine zr_sub (lv' := (fun s1 : Int32 × Int32 => [(2, .int s1.1), (3, .int s1.2), (0, .ref (ad 50)), (1, .int a1)]) ((-1), 0)) [1, 0, 2, 3] rfl (zr_loop (fun s1 : Int32 × Int32 => [(2, .int s1.1), (3, .int s1.2), (0, .ref (ad 50)), (1, .int a1)]) (fun s1 => I) (fun s1 => L) (fun x2 : Int32 => [(2, .int x2)]) (fun x2 => I) (fun x2 => L) hx7 (fun s1 K9 hc3 hx4 => ?_) n ((-1), 0))
    unfold gX8_leastFor_4
    refine zr_iload_n hB 1 rfl rfl dX8_leastFor_4 ?_
    refine zr_bipush (v := 40) hB (by decide) dX8_leastFor_5 ?_
    refine zr_icmp_ge (tgt := 51) hB (by decide) dX8_leastFor_7 ?_ ?_
    · exact zr_sub [0] rfl (hx4 s1.1)
    · refine zr_aload_n hB 2 rfl rfl dX8_leastFor_10 ?_
      refine zr_get_X8 (w := 50) (k := 7) (v := .ref (ad 56)) hB rfl (by decide) rfl lf_X8_25 rfl dX8_leastFor_11 ?_
      refine zr_bipush (v := 8) hB (by decide) dX8_leastFor_14 ?_
      refine zr_iload_n hB 1 rfl rfl dX8_leastFor_16 ?_
      refine zr_imul hB dX8_leastFor_17 ?_
      refine zr_iload_n hB 3 rfl rfl dX8_leastFor_18 ?_
      refine zr_iadd hB dX8_leastFor_19 ?_
      refine zr_iaload hB zA_56 dX8_leastFor_20 ?_
      refine zr_letI (fun v10 => ?_)
      refine zr_istore (lv' := [(4, .int v10), (2, .int s1.1), (3, .int s1.2), (0, .ref (ad 50)), (1, .int a1)]) hB (by decide) rfl dX8_leastFor_21 ?_
      refine zr_iload hB 0 rfl dX8_leastFor_23 ?_
      refine zr_iflt (tgt := 43) hB (by decide) dX8_leastFor_25 ?_ ?_
      · refine zr_iload_n hB 1 rfl rfl dX8_leastFor_43 ?_
        refine zr_istore_n (lv' := [(2, .int s1.1), (4, .int v10), (3, .int s1.2), (0, .ref (ad 50)), (1, .int a1)]) hB rfl (by decide) rfl dX8_leastFor_44 ?_
        refine zr_iincL hB (j := 2) (n := 1) (w := 1) rfl (by decide) (by decide) dX8_leastFor_45 (fun v11 lv' hlv => ?_)
        obtain rfl : lv' = [(3, .int v11), (2, .int s1.1), (4, .int v10), (0, .ref (ad 50)), (1, .int a1)] := hlv.symm.trans rfl
        refine zr_goto (tgt := 4) hB (by decide) dX8_leastFor_48 ?_
        exact zr_sub [1, 0, 3, 4] rfl (hc3 (s1.1, v11))
      · refine zr_iload_n hB 1 rfl rfl dX8_leastFor_28 ?_
        refine zr_iflt (tgt := 38) hB (by decide) dX8_leastFor_29 ?_ ?_
        · refine zr_iload hB 0 rfl dX8_leastFor_38 ?_
          refine zr_goto (tgt := 44) hB (by decide) dX8_leastFor_40 ?_
          refine zr_istore_n (lv' := [(2, .int v10), (4, .int v10), (3, .int s1.2), (0, .ref (ad 50)), (1, .int a1)]) hB rfl (by decide) rfl dX8_leastFor_44 ?_
          refine zr_iincL hB (j := 2) (n := 1) (w := 1) rfl (by decide) (by decide) dX8_leastFor_45 (fun v12 lv' hlv => ?_)
          obtain rfl : lv' = [(3, .int v12), (2, .int v10), (4, .int v10), (0, .ref (ad 50)), (1, .int a1)] := hlv.symm.trans rfl
          refine zr_goto (tgt := 4) hB (by decide) dX8_leastFor_48 ?_
          exact zr_sub [1, 0, 3, 4] rfl (hc3 (v10, v12))
        · refine zr_iload hB 0 rfl dX8_leastFor_32 ?_
          refine zr_iload_n hB 1 rfl rfl dX8_leastFor_34 ?_
          refine zr_icmp_ge (tgt := 43) hB (by decide) dX8_leastFor_35 ?_ ?_
          · refine zr_iload_n hB 1 rfl rfl dX8_leastFor_43 ?_
            refine zr_istore_n (lv' := [(2, .int s1.1), (4, .int v10), (3, .int s1.2), (0, .ref (ad 50)), (1, .int a1)]) hB rfl (by decide) rfl dX8_leastFor_44 ?_
            refine zr_iincL hB (j := 2) (n := 1) (w := 1) rfl (by decide) (by decide) dX8_leastFor_45 (fun v13 lv' hlv => ?_)
            obtain rfl : lv' = [(3, .int v13), (2, .int s1.1), (4, .int v10), (0, .ref (ad 50)), (1, .int a1)] := hlv.symm.trans rfl
            refine zr_goto (tgt := 4) hB (by decide) dX8_leastFor_48 ?_
            exact zr_sub [1, 0, 3, 4] rfl (hc3 (s1.1, v13))
          · refine zr_iload hB 0 rfl dX8_leastFor_38 ?_
            refine zr_goto (tgt := 44) hB (by decide) dX8_leastFor_40 ?_
            refine zr_istore_n (lv' := [(2, .int v10), (4, .int v10), (3, .int s1.2), (0, .ref (ad 50)), (1, .int a1)]) hB rfl (by decide) rfl dX8_leastFor_44 ?_
            refine zr_iincL hB (j := 2) (n := 1) (w := 1) rfl (by decide) (by decide) dX8_leastFor_45 (fun v14 lv' hlv => ?_)
            obtain rfl : lv' = [(3, .int v14), (2, .int v10), (4, .int v10), (0, .ref (ad 50)), (1, .int a1)] := hlv.symm.trans rfl
            refine zr_goto (tgt := 4) hB (by decide) dX8_leastFor_48 ?_
            exact zr_sub [1, 0, 3, 4] rfl (hc3 (v10, v14))

def fX8_stepsOf (n : Nat) (a1 : Int32) (a2 : Int32) (a3 : Int32) (I : zI) : Option (Int32 × zI) :=
  zb (fX8_walksAll n a1 a2 1 I) fun o3 =>
  zb (fX8_leastFor n a3 o3) fun o5 =>
  some (o5, o3)
set_option maxHeartbeats 4000000 in
set_option maxRecDepth 100000 in
theorem mX8_stepsOf {l : Launch} {D : va_G} {T : zT} {ad sK sV : Nat → Nat} (hi : zInj ad) (n : Nat) (a1 : Int32) (a2 : Int32) (a3 : Int32)  (I : zI) (L : zL) : ∀ o, fX8_stepsOf n a1 a2 a3 I = some o → zMet l yX8_stepsOf cX8_stepsOf 4 (some .int) 4 101 D T ad sK sV [.ref (ad 50), .int a1, .int a2, .int a3] I L (em_iI L o) := by
  intro o ho
  refine zMet.of hi (by decide +kernel) (Nat.le_of_ble_eq_true rfl) (fun p e s m args below meth c hB => ?_)
  refine zr_top (emb := em_iI L) (t := fX8_stepsOf n a1 a2 a3 I) ?_ ho
  unfold fX8_stepsOf
  refine zr_aload_n hB 0 rfl rfl dX8_stepsOf_0 ?_
  refine zr_iload_n hB 1 rfl rfl dX8_stepsOf_1 ?_
  refine zr_iload_n hB 2 rfl rfl dX8_stepsOf_2 ?_
  refine zr_iconst (v := 1) hB (by decide) dX8_stepsOf_3 ?_
  refine zr_callV (st := []) (C := RX8) (As := [.int a1, .int a2, .int 1]) (embc := em_vI L) hB (mX8_walksAll (sK := sK) (sV := sV) hi n a1 a2 1 I L) (zW_X8 rfl) rfl rfl lm_X8_159 q2_X8_walksAll q3_X8_walksAll q4_X8 q5_X8_walksAll qd_X8_walksAll (by decide) rfl rfl (Nat.le_of_ble_eq_true rfl) ⟨Nat.zero_le _, Nat.zero_le _⟩ dX8_stepsOf_4 (zr_kvI (fun o3 => ?_))
  refine zr_aload_n hB 0 rfl rfl dX8_stepsOf_7 ?_
  refine zr_iload_n hB 3 rfl rfl dX8_stepsOf_8 ?_
  refine zr_callV (st := []) (C := RX8) (As := [.int a3]) (embc := em_i0 o3 L) hB (mX8_leastFor (sK := sK) (sV := sV) hi n a3 o3 L) (zW_X8 rfl) rfl rfl lm_X8_165 q2_X8_leastFor q3_X8_leastFor q4_X8 q5_X8_leastFor qd_X8_leastFor (by decide) rfl rfl (Nat.le_of_ble_eq_true rfl) ⟨Nat.zero_le _, Nat.zero_le _⟩ dX8_stepsOf_9 (zr_ki0 (fun o5 => ?_))
  exact zr_iret hB rfl rfl dX8_stepsOf_12

def fX8_isTask (a1 : Int32) (a2 : Int32) (a3 : Int32) (I : zI) : Option (Int32) :=
  zb (fX8_isOne a1 I) fun o2 =>
  if o2 = 0 then
    some 0
  else
  zb (fX8_isThing a2 I) fun o4 =>
  if o4 = 0 then
    some 0
  else
  zb (fX8_isRoom a3) fun o6 =>
  if o6 = 0 then
    some 0
  else
  some 1
set_option maxHeartbeats 4000000 in
set_option maxRecDepth 100000 in
theorem mX8_isTask {l : Launch} {D : va_G} {T : zT} {ad sK sV : Nat → Nat} (hi : zInj ad) (a1 : Int32) (a2 : Int32) (a3 : Int32)  (I : zI) (L : zL) : ∀ o, fX8_isTask a1 a2 a3 I = some o → zMet l yX8_isTask cX8_isTask 4 (some .boolean) 2 46 D T ad sK sV [.ref (ad 50), .int a1, .int a2, .int a3] I L (em_i0 I L o) := by
  intro o ho
  refine zMet.of hi (by decide +kernel) (Nat.le_of_ble_eq_true rfl) (fun p e s m args below meth c hB => ?_)
  refine zr_top (emb := em_i0 I L) (t := fX8_isTask a1 a2 a3 I) ?_ ho
  unfold fX8_isTask
  refine zr_aload_n hB 0 rfl rfl dX8_isTask_0 ?_
  refine zr_iload_n hB 1 rfl rfl dX8_isTask_1 ?_
  refine zr_callV (st := []) (C := RX8) (As := [.int a1]) (embc := em_i0 I L) hB (mX8_isOne (sK := sK) (sV := sV) hi a1 I L) (zW_X8 rfl) rfl rfl lm_X8_106 q2_X8_isOne q3_X8_isOne q4_X8 q5_X8_isOne qd_X8_isOne (by decide) rfl rfl (Nat.le_of_ble_eq_true rfl) ⟨Nat.zero_le _, Nat.zero_le _⟩ dX8_isTask_2 (zr_ki0 (fun o2 => ?_))
  refine zr_ifeq (tgt := 27) hB (by decide) dX8_isTask_5 ?_ ?_
  · refine zr_iconst (v := 0) hB (by decide) dX8_isTask_27 ?_
    exact zr_zretC (by decide) hB rfl rfl dX8_isTask_28
  · refine zr_aload_n hB 0 rfl rfl dX8_isTask_8 ?_
    refine zr_iload_n hB 2 rfl rfl dX8_isTask_9 ?_
    refine zr_callV (st := []) (C := RX8) (As := [.int a2]) (embc := em_i0 I L) hB (mX8_isThing (sK := sK) (sV := sV) hi a2 I L) (zW_X8 rfl) rfl rfl lm_X8_90 q2_X8_isThing q3_X8_isThing q4_X8 q5_X8_isThing qd_X8_isThing (by decide) rfl rfl (Nat.le_of_ble_eq_true rfl) ⟨Nat.zero_le _, Nat.zero_le _⟩ dX8_isTask_10 (zr_ki0 (fun o4 => ?_))
    refine zr_ifeq (tgt := 27) hB (by decide) dX8_isTask_13 ?_ ?_
    · refine zr_iconst (v := 0) hB (by decide) dX8_isTask_27 ?_
      exact zr_zretC (by decide) hB rfl rfl dX8_isTask_28
    · refine zr_iload_n hB 3 rfl rfl dX8_isTask_16 ?_
      refine zr_callS (st := []) (As := [.int a3]) (embc := em_i0 I L) hB (mX8_isRoom (sK := sK) (sV := sV) hi a3 I L) lm_X8_70 q2_X8_isRoom q4_X8 q5_X8_isRoom qd_X8_isRoom (by decide) rfl rfl (Nat.le_of_ble_eq_true rfl) ⟨Nat.zero_le _, Nat.zero_le _⟩ dX8_isTask_17 (zr_ki0 (fun o6 => ?_))
      refine zr_ifeq (tgt := 27) hB (by decide) dX8_isTask_20 ?_ ?_
      · refine zr_iconst (v := 0) hB (by decide) dX8_isTask_27 ?_
        exact zr_zretC (by decide) hB rfl rfl dX8_isTask_28
      · refine zr_iconst (v := 1) hB (by decide) dX8_isTask_23 ?_
        refine zr_goto (tgt := 28) hB (by decide) dX8_isTask_24 ?_
        exact zr_zretC (by decide) hB rfl rfl dX8_isTask_28

def fX8_task (n : Nat) (a1 : Int32) (a2 : Int32) (a3 : Int32) (I : zI) : Option (Int32 × zI) :=
  zb (fX8_isTask a1 a2 a3 I) fun o2 =>
  if o2 = 0 then
    zb (fX8_finding 0 I) fun o5 =>
    some (o5.1, o5.2)
  else
  zb (fX8_stepsOf n a1 a2 a3 I) fun o8 =>
  zb (fX8_orNone o8.1 o8.2) fun o11 =>
  some (o11.1, o11.2)
set_option maxHeartbeats 4000000 in
set_option maxRecDepth 100000 in
theorem mX8_task {l : Launch} {D : va_G} {T : zT} {ad sK sV : Nat → Nat} (hi : zInj ad) (n : Nat) (a1 : Int32) (a2 : Int32) (a3 : Int32)  (I : zI) (L : zL) : ∀ o, fX8_task n a1 a2 a3 I = some o → zMet l yX8_task cX8_task 4 (some .int) 5 124 D T ad sK sV [.ref (ad 50), .int a1, .int a2, .int a3] I L (em_iI L o) := by
  intro o ho
  refine zMet.of hi (by decide +kernel) (Nat.le_of_ble_eq_true rfl) (fun p e s m args below meth c hB => ?_)
  refine zr_top (emb := em_iI L) (t := fX8_task n a1 a2 a3 I) ?_ ho
  unfold fX8_task
  refine zr_aload_n hB 0 rfl rfl dX8_task_0 ?_
  refine zr_iload_n hB 1 rfl rfl dX8_task_1 ?_
  refine zr_iload_n hB 2 rfl rfl dX8_task_2 ?_
  refine zr_iload_n hB 3 rfl rfl dX8_task_3 ?_
  refine zr_callV (st := []) (C := RX8) (As := [.int a1, .int a2, .int a3]) (embc := em_i0 I L) hB (mX8_isTask (sK := sK) (sV := sV) hi a1 a2 a3 I L) (zW_X8 rfl) rfl rfl lm_X8_168 q2_X8_isTask q3_X8_isTask q4_X8 q5_X8_isTask qd_X8_isTask (by decide) rfl rfl (Nat.le_of_ble_eq_true rfl) ⟨Nat.zero_le _, Nat.zero_le _⟩ dX8_task_4 (zr_ki0 (fun o2 => ?_))
  refine zr_ifeq (tgt := 24) hB (by decide) dX8_task_7 ?_ ?_
  · refine zr_aload_n hB 0 rfl rfl dX8_task_24 ?_
    refine zr_iconst (v := 0) hB (by decide) dX8_task_25 ?_
    refine zr_callV (st := []) (C := RX8) (As := [.int 0]) (embc := em_iI L) hB (mX8_finding (sK := sK) (sV := sV) hi 0 I L) (zW_X8 rfl) rfl rfl lm_X8_74 q2_X8_finding q3_X8_finding q4_X8 q5_X8_finding qd_X8_finding (by decide) rfl rfl (Nat.le_of_ble_eq_true rfl) ⟨Nat.zero_le _, Nat.zero_le _⟩ dX8_task_26 (zr_kiI (fun o5 => ?_))
    exact zr_iret hB rfl rfl dX8_task_29
  · refine zr_aload_n hB 0 rfl rfl dX8_task_10 ?_
    refine zr_aload_n hB 0 rfl rfl dX8_task_11 ?_
    refine zr_iload_n hB 1 rfl rfl dX8_task_12 ?_
    refine zr_iload_n hB 2 rfl rfl dX8_task_13 ?_
    refine zr_iload_n hB 3 rfl rfl dX8_task_14 ?_
    refine zr_callV (st := [.ref (ad 50)]) (C := RX8) (As := [.int a1, .int a2, .int a3]) (embc := em_iI L) hB (mX8_stepsOf (sK := sK) (sV := sV) hi n a1 a2 a3 I L) (zW_X8 rfl) rfl rfl lm_X8_171 q2_X8_stepsOf q3_X8_stepsOf q4_X8 q5_X8_stepsOf qd_X8_stepsOf (by decide) rfl rfl (Nat.le_of_ble_eq_true rfl) ⟨Nat.zero_le _, Nat.zero_le _⟩ dX8_task_15 (zr_kiI (fun o8 => ?_))
    refine zr_callV (st := []) (C := RX8) (As := [.int o8.1]) (embc := em_iI L) hB (mX8_orNone (sK := sK) (sV := sV) hi o8.1 o8.2 L) (zW_X8 rfl) rfl rfl lm_X8_162 q2_X8_orNone q3_X8_orNone q4_X8 q5_X8_orNone qd_X8_orNone (by decide) rfl rfl (Nat.le_of_ble_eq_true rfl) ⟨Nat.zero_le _, Nat.zero_le _⟩ dX8_task_18 (zr_kiI (fun o11 => ?_))
    refine zr_goto (tgt := 29) hB (by decide) dX8_task_21 ?_
    exact zr_iret hB rfl rfl dX8_task_29

def fX8_begins (I : zI) : Option (zI) :=
  zl (zup I 50 11 (-1)) fun J1 =>
  zl (zup J1 50 12 (-1)) fun J2 =>
  some J2
set_option maxHeartbeats 4000000 in
set_option maxRecDepth 100000 in
theorem mX8_begins {l : Launch} {D : va_G} {T : zT} {ad sK sV : Nat → Nat} (hi : zInj ad)   (I : zI) (L : zL) : ∀ o, fX8_begins I = some o → zMet l yX8_begins cX8_begins 1 none 0 0 D T ad sK sV [.ref (ad 50)] I L (em_vI L o) := by
  intro o ho
  refine zMet.of hi (by decide +kernel) (Nat.le_of_ble_eq_true rfl) (fun p e s m args below meth c hB => ?_)
  refine zr_top (emb := em_vI L) (t := fX8_begins I) ?_ ho
  unfold fX8_begins
  refine zr_aload_n hB 0 rfl rfl dX8_begins_0 ?_
  refine zr_iconst (v := (-1)) hB (by decide) dX8_begins_1 ?_
  refine zr_put_X8 (w := 50) (k := 11) hB rfl (by decide) rfl rfl rfl lf_X8_174 rfl dX8_begins_2 ?_
  refine zr_letM (fun J1 => ?_)
  refine zr_aload_n hB 0 rfl rfl dX8_begins_5 ?_
  refine zr_iconst (v := (-1)) hB (by decide) dX8_begins_6 ?_
  refine zr_put_X8 (w := 50) (k := 12) hB rfl (by decide) rfl rfl rfl lf_X8_177 rfl dX8_begins_7 ?_
  refine zr_letM (fun J2 => ?_)
  exact zr_vret hB rfl rfl dX8_begins_10

def fX8_tries (a1 : Int32) (a2 : Int32) (I : zI) : Option (zI) :=
  if a2 < 0 then
    some I
  else
  if (I 50 11) < 0 then
    zl (zup I 50 11 a1) fun J1 =>
    zl (zup J1 50 12 a2) fun J2 =>
    some J2
  else
  if (I 50 12) ≤ a2 then
    some I
  else
  zl (zup I 50 11 a1) fun J3 =>
  zl (zup J3 50 12 a2) fun J4 =>
  some J4
set_option maxHeartbeats 4000000 in
set_option maxRecDepth 100000 in
theorem mX8_tries {l : Launch} {D : va_G} {T : zT} {ad sK sV : Nat → Nat} (hi : zInj ad) (a1 : Int32) (a2 : Int32)  (I : zI) (L : zL) : ∀ o, fX8_tries a1 a2 I = some o → zMet l yX8_tries cX8_tries 3 none 0 0 D T ad sK sV [.ref (ad 50), .int a1, .int a2] I L (em_vI L o) := by
  intro o ho
  refine zMet.of hi (by decide +kernel) (Nat.le_of_ble_eq_true rfl) (fun p e s m args below meth c hB => ?_)
  refine zr_top (emb := em_vI L) (t := fX8_tries a1 a2 I) ?_ ho
  unfold fX8_tries
  refine zr_iload_n hB 2 rfl rfl dX8_tries_0 ?_
  refine zr_iflt (tgt := 29) hB (by decide) dX8_tries_1 ?_ ?_
  · exact zr_vret hB rfl rfl dX8_tries_29
  · refine zr_aload_n hB 0 rfl rfl dX8_tries_4 ?_
    refine zr_get_X8 (w := 50) (k := 11) (v := .int (I 50 11)) hB rfl (by decide) rfl lf_X8_174 rfl dX8_tries_5 ?_
    refine zr_iflt (tgt := 19) hB (by decide) dX8_tries_8 ?_ ?_
    · refine zr_aload_n hB 0 rfl rfl dX8_tries_19 ?_
      refine zr_iload_n hB 1 rfl rfl dX8_tries_20 ?_
      refine zr_put_X8 (w := 50) (k := 11) hB rfl (by decide) rfl rfl rfl lf_X8_174 rfl dX8_tries_21 ?_
      refine zr_letM (fun J1 => ?_)
      refine zr_aload_n hB 0 rfl rfl dX8_tries_24 ?_
      refine zr_iload_n hB 2 rfl rfl dX8_tries_25 ?_
      refine zr_put_X8 (w := 50) (k := 12) hB rfl (by decide) rfl rfl rfl lf_X8_177 rfl dX8_tries_26 ?_
      refine zr_letM (fun J2 => ?_)
      exact zr_vret hB rfl rfl dX8_tries_29
    · refine zr_iload_n hB 2 rfl rfl dX8_tries_11 ?_
      refine zr_aload_n hB 0 rfl rfl dX8_tries_12 ?_
      refine zr_get_X8 (w := 50) (k := 12) (v := .int (I 50 12)) hB rfl (by decide) rfl lf_X8_177 rfl dX8_tries_13 ?_
      refine zr_icmp_ge (tgt := 29) hB (by decide) dX8_tries_16 ?_ ?_
      · exact zr_vret hB rfl rfl dX8_tries_29
      · refine zr_aload_n hB 0 rfl rfl dX8_tries_19 ?_
        refine zr_iload_n hB 1 rfl rfl dX8_tries_20 ?_
        refine zr_put_X8 (w := 50) (k := 11) hB rfl (by decide) rfl rfl rfl lf_X8_174 rfl dX8_tries_21 ?_
        refine zr_letM (fun J3 => ?_)
        refine zr_aload_n hB 0 rfl rfl dX8_tries_24 ?_
        refine zr_iload_n hB 2 rfl rfl dX8_tries_25 ?_
        refine zr_put_X8 (w := 50) (k := 12) hB rfl (by decide) rfl rfl rfl lf_X8_177 rfl dX8_tries_26 ?_
        refine zr_letM (fun J4 => ?_)
        exact zr_vret hB rfl rfl dX8_tries_29

def gX8_who_27 (n : Nat) (a1 : Int32) (a2 : Int32) (s11 : Int32 × zI) : Option ((Int32 × zI) ⊕ (zI)) :=
  zg 12 120 (
  if (s11.2 51 (zn 12)) ≤ s11.1 then
    some (.inr s11.2)
  else
  zb (fX8_stepsOf n s11.1 a1 a2 s11.2) fun o22 =>
  zb (fX8_tries s11.1 o22.1 o22.2) fun o25 =>
  zl (s11.1 + 1) fun v26 =>
  some (.inl (v26, o25)))
def fX8_who (n : Nat) (a1 : Int32) (a2 : Int32) (I : zI) : Option (Int32 × zI) :=
  zb (fX8_isThing a1 I) fun o2 =>
  if o2 = 0 then
    zb (fX8_finding 0 I) fun o5 =>
    some (o5.1, o5.2)
  else
  zb (fX8_isRoom a2) fun o7 =>
  if o7 = 0 then
    zb (fX8_finding 0 I) fun o32 =>
    some (o32.1, o32.2)
  else
  zb (fX8_begins I) fun o10 =>
  zb (zit (gX8_who_27 n a1 a2) n (0, o10)) fun x12 : zI =>
  zb (fX8_orNone (x12 50 11) x12) fun o29 =>
  some (o29.1, o29.2)
set_option maxHeartbeats 4000000 in
set_option maxRecDepth 100000 in
theorem mX8_who {l : Launch} {D : va_G} {T : zT} {ad sK sV : Nat → Nat} (hi : zInj ad) (n : Nat) (a1 : Int32) (a2 : Int32)  (I : zI) (L : zL) : ∀ o, fX8_who n a1 a2 I = some o → zMet l yX8_who cX8_who 4 (some .int) 5 124 D T ad sK sV [.ref (ad 50), .int a1, .int a2] I L (em_iI L o) := by
  intro o ho
  refine zMet.of hi (by decide +kernel) (Nat.le_of_ble_eq_true rfl) (fun p e s m args below meth c hB => ?_)
  refine zr_top (emb := em_iI L) (t := fX8_who n a1 a2 I) ?_ ho
  unfold fX8_who
  refine zr_aload_n hB 0 rfl rfl dX8_who_0 ?_
  refine zr_iload_n hB 1 rfl rfl dX8_who_1 ?_
  refine zr_callV (st := []) (C := RX8) (As := [.int a1]) (embc := em_i0 I L) hB (mX8_isThing (sK := sK) (sV := sV) hi a1 I L) (zW_X8 rfl) rfl rfl lm_X8_90 q2_X8_isThing q3_X8_isThing q4_X8 q5_X8_isThing qd_X8_isThing (by decide) rfl rfl (Nat.le_of_ble_eq_true rfl) ⟨Nat.zero_le _, Nat.zero_le _⟩ dX8_who_2 (zr_ki0 (fun o2 => ?_))
  refine zr_ifeq (tgt := 15) hB (by decide) dX8_who_5 ?_ ?_
  · refine zr_aload_n hB 0 rfl rfl dX8_who_15 ?_
    refine zr_iconst (v := 0) hB (by decide) dX8_who_16 ?_
    refine zr_callV (st := []) (C := RX8) (As := [.int 0]) (embc := em_iI L) hB (mX8_finding (sK := sK) (sV := sV) hi 0 I L) (zW_X8 rfl) rfl rfl lm_X8_74 q2_X8_finding q3_X8_finding q4_X8 q5_X8_finding qd_X8_finding (by decide) rfl rfl (Nat.le_of_ble_eq_true rfl) ⟨Nat.zero_le _, Nat.zero_le _⟩ dX8_who_17 (zr_kiI (fun o5 => ?_))
    exact zr_iret hB rfl rfl dX8_who_20
  · refine zr_iload_n hB 2 rfl rfl dX8_who_8 ?_
    refine zr_callS (st := []) (As := [.int a2]) (embc := em_i0 I L) hB (mX8_isRoom (sK := sK) (sV := sV) hi a2 I L) lm_X8_70 q2_X8_isRoom q4_X8 q5_X8_isRoom qd_X8_isRoom (by decide) rfl rfl (Nat.le_of_ble_eq_true rfl) ⟨Nat.zero_le _, Nat.zero_le _⟩ dX8_who_9 (zr_ki0 (fun o7 => ?_))
    refine zr_ifne (tgt := 21) hB (by decide) dX8_who_12 ?_ ?_
    · refine zr_aload_n hB 0 rfl rfl dX8_who_21 ?_
      refine zr_callV (st := []) (C := RX8) (As := []) (embc := em_vI L) hB (mX8_begins (sK := sK) (sV := sV) hi  I L) (zW_X8 rfl) rfl rfl lm_X8_180 q2_X8_begins q3_X8_begins q4_X8 q5_X8_begins qd_X8_begins (by decide) rfl rfl (Nat.le_of_ble_eq_true rfl) ⟨Nat.zero_le _, Nat.zero_le _⟩ dX8_who_22 (zr_kvI (fun o10 => ?_))
      refine zr_iconst (v := 0) hB (by decide) dX8_who_25 ?_
      refine zr_istore_n (lv' := [(3, .int 0), (0, .ref (ad 50)), (1, .int a1), (2, .int a2)]) hB rfl (by decide) rfl dX8_who_26 ?_
      refine zr_join (pcJ := 56) (fun x12 : zI => [(0, .ref (ad 50))]) (fun _ => []) (fun x12 => x12) (fun x12 => L) (fun x12 => ?_) (fun K18 hx17 => ?_)
      · refine zr_aload_n hB 0 rfl rfl dX8_who_56 ?_
        refine zr_aload_n hB 0 rfl rfl dX8_who_57 ?_
        refine zr_get_X8 (w := 50) (k := 11) (v := .int (x12 50 11)) hB rfl (by decide) rfl lf_X8_174 rfl dX8_who_58 ?_
        refine zr_callV (st := []) (C := RX8) (As := [.int (x12 50 11)]) (embc := em_iI L) hB (mX8_orNone (sK := sK) (sV := sV) hi (x12 50 11) x12 L) (zW_X8 rfl) rfl rfl lm_X8_162 q2_X8_orNone q3_X8_orNone q4_X8 q5_X8_orNone qd_X8_orNone (by decide) rfl rfl (Nat.le_of_ble_eq_true rfl) ⟨Nat.zero_le _, Nat.zero_le _⟩ dX8_who_61 (zr_kiI (fun o29 => ?_))
        exact zr_iret hB rfl rfl dX8_who_64
      · refine zr_sub (lv' := (fun s11 : Int32 × zI => [(3, .int s11.1), (0, .ref (ad 50)), (1, .int a1), (2, .int a2)]) (0, o10)) [0, 1, 2, 3] rfl (zr_loop (fun s11 : Int32 × zI => [(3, .int s11.1), (0, .ref (ad 50)), (1, .int a1), (2, .int a2)]) (fun s11 => s11.2) (fun s11 => L) (fun x12 : zI => [(0, .ref (ad 50))]) (fun x12 => x12) (fun x12 => L) hx17 (fun s11 K19 hc13 hx14 => ?_) n (0, o10))
        unfold gX8_who_27
        refine zr_iload_n hB 0 rfl rfl dX8_who_27 ?_
        refine zr_aload_n hB 1 rfl rfl dX8_who_28 ?_
        refine zr_get_X8 (w := 50) (k := 0) (v := .ref (ad 51)) hB rfl (by decide) rfl lf_X8_9 rfl dX8_who_29 ?_
        refine zr_bipush (v := 12) hB (by decide) dX8_who_32 ?_
        refine zr_iaload hB zA_51 dX8_who_34 ?_
        refine zr_icmp_ge (tgt := 56) hB (by decide) dX8_who_35 ?_ ?_
        · exact zr_sub [1] rfl (hx14 s11.2)
        · refine zr_aload_n hB 1 rfl rfl dX8_who_38 ?_
          refine zr_iload_n hB 0 rfl rfl dX8_who_39 ?_
          refine zr_aload_n hB 1 rfl rfl dX8_who_40 ?_
          refine zr_iload_n hB 0 rfl rfl dX8_who_41 ?_
          refine zr_iload_n hB 2 rfl rfl dX8_who_42 ?_
          refine zr_iload_n hB 3 rfl rfl dX8_who_43 ?_
          refine zr_callV (st := [.int s11.1, .ref (ad 50)]) (C := RX8) (As := [.int s11.1, .int a1, .int a2]) (embc := em_iI L) hB (mX8_stepsOf (sK := sK) (sV := sV) hi n s11.1 a1 a2 s11.2 L) (zW_X8 rfl) rfl rfl lm_X8_171 q2_X8_stepsOf q3_X8_stepsOf q4_X8 q5_X8_stepsOf qd_X8_stepsOf (by decide) rfl rfl (Nat.le_of_ble_eq_true rfl) ⟨Nat.zero_le _, Nat.zero_le _⟩ dX8_who_44 (zr_kiI (fun o22 => ?_))
          refine zr_callV (st := []) (C := RX8) (As := [.int s11.1, .int o22.1]) (embc := em_vI L) hB (mX8_tries (sK := sK) (sV := sV) hi s11.1 o22.1 o22.2 L) (zW_X8 rfl) rfl rfl lm_X8_183 q2_X8_tries q3_X8_tries q4_X8 q5_X8_tries qd_X8_tries (by decide) rfl rfl (Nat.le_of_ble_eq_true rfl) ⟨Nat.zero_le _, Nat.zero_le _⟩ dX8_who_47 (zr_kvI (fun o25 => ?_))
          refine zr_iincL hB (j := 0) (n := 1) (w := 1) rfl (by decide) (by decide) dX8_who_50 (fun v26 lv' hlv => ?_)
          obtain rfl : lv' = [(3, .int v26), (0, .ref (ad 50)), (1, .int a1), (2, .int a2)] := hlv.symm.trans rfl
          refine zr_goto (tgt := 27) hB (by decide) dX8_who_53 ?_
          exact zr_sub [0, 1, 2, 3] rfl (hc13 (v26, o25))
    · refine zr_aload_n hB 0 rfl rfl dX8_who_15 ?_
      refine zr_iconst (v := 0) hB (by decide) dX8_who_16 ?_
      refine zr_callV (st := []) (C := RX8) (As := [.int 0]) (embc := em_iI L) hB (mX8_finding (sK := sK) (sV := sV) hi 0 I L) (zW_X8 rfl) rfl rfl lm_X8_74 q2_X8_finding q3_X8_finding q4_X8 q5_X8_finding qd_X8_finding (by decide) rfl rfl (Nat.le_of_ble_eq_true rfl) ⟨Nat.zero_le _, Nat.zero_le _⟩ dX8_who_17 (zr_kiI (fun o32 => ?_))
      exact zr_iret hB rfl rfl dX8_who_20

def gX8_roomsFor_13 (n : Nat) (o3 : zI) (s4 : Int32 × Int32) : Option ((Int32 × Int32) ⊕ (Int32)) :=
  if 8 ≤ s4.2 then
    some (.inr s4.1)
  else
  zb (fX8_leastFor n s4.2 o3) fun o14 =>
  if 0 ≤ o14 then
    zl (s4.1 ||| (zshl 1 s4.2)) fun v15 =>
    zl (s4.2 + 1) fun v16 =>
    some (.inl (v15, v16))
  else
  zl (s4.1 ||| 0) fun v17 =>
  zl (s4.2 + 1) fun v18 =>
  some (.inl (v17, v18))
def fX8_roomsFor (n : Nat) (a1 : Int32) (a2 : Int32) (a3 : Int32) (I : zI) : Option (Int32 × zI) :=
  zb (fX8_walksAll n a1 a2 a3 I) fun o3 =>
  zb (zit (gX8_roomsFor_13 n o3) n (0, 0)) fun x5 : Int32 =>
  some (x5, o3)
set_option maxHeartbeats 4000000 in
set_option maxRecDepth 100000 in
theorem mX8_roomsFor {l : Launch} {D : va_G} {T : zT} {ad sK sV : Nat → Nat} (hi : zInj ad) (n : Nat) (a1 : Int32) (a2 : Int32) (a3 : Int32)  (I : zI) (L : zL) : ∀ o, fX8_roomsFor n a1 a2 a3 I = some o → zMet l yX8_roomsFor cX8_roomsFor 6 (some .int) 4 101 D T ad sK sV [.ref (ad 50), .int a1, .int a2, .int a3] I L (em_iI L o) := by
  intro o ho
  refine zMet.of hi (by decide +kernel) (Nat.le_of_ble_eq_true rfl) (fun p e s m args below meth c hB => ?_)
  refine zr_top (emb := em_iI L) (t := fX8_roomsFor n a1 a2 a3 I) ?_ ho
  unfold fX8_roomsFor
  refine zr_aload_n hB 0 rfl rfl dX8_roomsFor_0 ?_
  refine zr_iload_n hB 1 rfl rfl dX8_roomsFor_1 ?_
  refine zr_iload_n hB 2 rfl rfl dX8_roomsFor_2 ?_
  refine zr_iload_n hB 3 rfl rfl dX8_roomsFor_3 ?_
  refine zr_callV (st := []) (C := RX8) (As := [.int a1, .int a2, .int a3]) (embc := em_vI L) hB (mX8_walksAll (sK := sK) (sV := sV) hi n a1 a2 a3 I L) (zW_X8 rfl) rfl rfl lm_X8_159 q2_X8_walksAll q3_X8_walksAll q4_X8 q5_X8_walksAll qd_X8_walksAll (by decide) rfl rfl (Nat.le_of_ble_eq_true rfl) ⟨Nat.zero_le _, Nat.zero_le _⟩ dX8_roomsFor_4 (zr_kvI (fun o3 => ?_))
  refine zr_iconst (v := 0) hB (by decide) dX8_roomsFor_7 ?_
  refine zr_istore (lv' := [(4, .int 0), (0, .ref (ad 50)), (1, .int a1), (2, .int a2), (3, .int a3)]) hB (by decide) rfl dX8_roomsFor_8 ?_
  refine zr_iconst (v := 0) hB (by decide) dX8_roomsFor_10 ?_
  refine zr_istore (lv' := [(5, .int 0), (4, .int 0), (0, .ref (ad 50)), (1, .int a1), (2, .int a2), (3, .int a3)]) hB (by decide) rfl dX8_roomsFor_11 ?_
  refine zr_join (pcJ := 48) (fun x5 : Int32 => [(4, .int x5)]) (fun _ => []) (fun x5 => o3) (fun x5 => L) (fun x5 => ?_) (fun K11 hx10 => ?_)
  · refine zr_iload hB 0 rfl dX8_roomsFor_48 ?_
    exact zr_iret hB rfl rfl dX8_roomsFor_50
  · refine zr_sub (lv' := (fun s4 : Int32 × Int32 => [(4, .int s4.1), (5, .int s4.2), (0, .ref (ad 50))]) (0, 0)) [1, 0, 2] rfl (zr_loop (fun s4 : Int32 × Int32 => [(4, .int s4.1), (5, .int s4.2), (0, .ref (ad 50))]) (fun s4 => o3) (fun s4 => L) (fun x5 : Int32 => [(4, .int x5)]) (fun x5 => o3) (fun x5 => L) hx10 (fun s4 K12 hc6 hx7 => ?_) n (0, 0))
    unfold gX8_roomsFor_13
    refine zr_iload hB 1 rfl dX8_roomsFor_13 ?_
    refine zr_bipush (v := 8) hB (by decide) dX8_roomsFor_15 ?_
    refine zr_icmp_ge (tgt := 48) hB (by decide) dX8_roomsFor_17 ?_ ?_
    · exact zr_sub [0] rfl (hx7 s4.1)
    · refine zr_iload hB 0 rfl dX8_roomsFor_20 ?_
      refine zr_aload_n hB 2 rfl rfl dX8_roomsFor_22 ?_
      refine zr_iload hB 1 rfl dX8_roomsFor_23 ?_
      refine zr_callV (st := [.int s4.1]) (C := RX8) (As := [.int s4.2]) (embc := em_i0 o3 L) hB (mX8_leastFor (sK := sK) (sV := sV) hi n s4.2 o3 L) (zW_X8 rfl) rfl rfl lm_X8_165 q2_X8_leastFor q3_X8_leastFor q4_X8 q5_X8_leastFor qd_X8_leastFor (by decide) rfl rfl (Nat.le_of_ble_eq_true rfl) ⟨Nat.zero_le _, Nat.zero_le _⟩ dX8_roomsFor_25 (zr_ki0 (fun o14 => ?_))
      refine zr_ifge (tgt := 35) hB (by decide) dX8_roomsFor_28 ?_ ?_
      · refine zr_iconst (v := 1) hB (by decide) dX8_roomsFor_35 ?_
        refine zr_iload hB 1 rfl dX8_roomsFor_36 ?_
        refine zr_ishl hB dX8_roomsFor_38 ?_
        refine zr_ior hB dX8_roomsFor_39 ?_
        refine zr_letI (fun v15 => ?_)
        refine zr_istore (lv' := [(4, .int v15), (5, .int s4.2), (0, .ref (ad 50))]) hB (by decide) rfl dX8_roomsFor_40 ?_
        refine zr_iincL hB (j := 1) (n := 1) (w := 1) rfl (by decide) (by decide) dX8_roomsFor_42 (fun v16 lv' hlv => ?_)
        obtain rfl : lv' = [(5, .int v16), (4, .int v15), (0, .ref (ad 50))] := hlv.symm.trans rfl
        refine zr_goto (tgt := 13) hB (by decide) dX8_roomsFor_45 ?_
        exact zr_sub [1, 0, 2] rfl (hc6 (v15, v16))
      · refine zr_iconst (v := 0) hB (by decide) dX8_roomsFor_31 ?_
        refine zr_goto (tgt := 39) hB (by decide) dX8_roomsFor_32 ?_
        refine zr_ior hB dX8_roomsFor_39 ?_
        refine zr_letI (fun v17 => ?_)
        refine zr_istore (lv' := [(4, .int v17), (5, .int s4.2), (0, .ref (ad 50))]) hB (by decide) rfl dX8_roomsFor_40 ?_
        refine zr_iincL hB (j := 1) (n := 1) (w := 1) rfl (by decide) (by decide) dX8_roomsFor_42 (fun v18 lv' hlv => ?_)
        obtain rfl : lv' = [(5, .int v18), (4, .int v17), (0, .ref (ad 50))] := hlv.symm.trans rfl
        refine zr_goto (tgt := 13) hB (by decide) dX8_roomsFor_45 ?_
        exact zr_sub [1, 0, 2] rfl (hc6 (v17, v18))

def fX8_can (n : Nat) (a1 : Int32) (a2 : Int32) (I : zI) : Option (Int32 × zI) :=
  zb (fX8_isOne a1 I) fun o2 =>
  if o2 = 0 then
    zb (fX8_finding 0 I) fun o5 =>
    some (o5.1, o5.2)
  else
  zb (fX8_isThing a2 I) fun o7 =>
  if o7 = 0 then
    zb (fX8_finding 0 I) fun o10 =>
    some (o10.1, o10.2)
  else
  zb (fX8_roomsFor n a1 a2 1 I) fun o13 =>
  some (o13.1, o13.2)
set_option maxHeartbeats 4000000 in
set_option maxRecDepth 100000 in
theorem mX8_can {l : Launch} {D : va_G} {T : zT} {ad sK sV : Nat → Nat} (hi : zInj ad) (n : Nat) (a1 : Int32) (a2 : Int32)  (I : zI) (L : zL) : ∀ o, fX8_can n a1 a2 I = some o → zMet l yX8_can cX8_can 3 (some .int) 5 126 D T ad sK sV [.ref (ad 50), .int a1, .int a2] I L (em_iI L o) := by
  intro o ho
  refine zMet.of hi (by decide +kernel) (Nat.le_of_ble_eq_true rfl) (fun p e s m args below meth c hB => ?_)
  refine zr_top (emb := em_iI L) (t := fX8_can n a1 a2 I) ?_ ho
  unfold fX8_can
  refine zr_aload_n hB 0 rfl rfl dX8_can_0 ?_
  refine zr_iload_n hB 1 rfl rfl dX8_can_1 ?_
  refine zr_callV (st := []) (C := RX8) (As := [.int a1]) (embc := em_i0 I L) hB (mX8_isOne (sK := sK) (sV := sV) hi a1 I L) (zW_X8 rfl) rfl rfl lm_X8_106 q2_X8_isOne q3_X8_isOne q4_X8 q5_X8_isOne qd_X8_isOne (by decide) rfl rfl (Nat.le_of_ble_eq_true rfl) ⟨Nat.zero_le _, Nat.zero_le _⟩ dX8_can_2 (zr_ki0 (fun o2 => ?_))
  refine zr_ifeq (tgt := 26) hB (by decide) dX8_can_5 ?_ ?_
  · refine zr_aload_n hB 0 rfl rfl dX8_can_26 ?_
    refine zr_iconst (v := 0) hB (by decide) dX8_can_27 ?_
    refine zr_callV (st := []) (C := RX8) (As := [.int 0]) (embc := em_iI L) hB (mX8_finding (sK := sK) (sV := sV) hi 0 I L) (zW_X8 rfl) rfl rfl lm_X8_74 q2_X8_finding q3_X8_finding q4_X8 q5_X8_finding qd_X8_finding (by decide) rfl rfl (Nat.le_of_ble_eq_true rfl) ⟨Nat.zero_le _, Nat.zero_le _⟩ dX8_can_28 (zr_kiI (fun o5 => ?_))
    exact zr_iret hB rfl rfl dX8_can_31
  · refine zr_aload_n hB 0 rfl rfl dX8_can_8 ?_
    refine zr_iload_n hB 2 rfl rfl dX8_can_9 ?_
    refine zr_callV (st := []) (C := RX8) (As := [.int a2]) (embc := em_i0 I L) hB (mX8_isThing (sK := sK) (sV := sV) hi a2 I L) (zW_X8 rfl) rfl rfl lm_X8_90 q2_X8_isThing q3_X8_isThing q4_X8 q5_X8_isThing qd_X8_isThing (by decide) rfl rfl (Nat.le_of_ble_eq_true rfl) ⟨Nat.zero_le _, Nat.zero_le _⟩ dX8_can_10 (zr_ki0 (fun o7 => ?_))
    refine zr_ifeq (tgt := 26) hB (by decide) dX8_can_13 ?_ ?_
    · refine zr_aload_n hB 0 rfl rfl dX8_can_26 ?_
      refine zr_iconst (v := 0) hB (by decide) dX8_can_27 ?_
      refine zr_callV (st := []) (C := RX8) (As := [.int 0]) (embc := em_iI L) hB (mX8_finding (sK := sK) (sV := sV) hi 0 I L) (zW_X8 rfl) rfl rfl lm_X8_74 q2_X8_finding q3_X8_finding q4_X8 q5_X8_finding qd_X8_finding (by decide) rfl rfl (Nat.le_of_ble_eq_true rfl) ⟨Nat.zero_le _, Nat.zero_le _⟩ dX8_can_28 (zr_kiI (fun o10 => ?_))
      exact zr_iret hB rfl rfl dX8_can_31
    · refine zr_aload_n hB 0 rfl rfl dX8_can_16 ?_
      refine zr_iload_n hB 1 rfl rfl dX8_can_17 ?_
      refine zr_iload_n hB 2 rfl rfl dX8_can_18 ?_
      refine zr_iconst (v := 1) hB (by decide) dX8_can_19 ?_
      refine zr_callV (st := []) (C := RX8) (As := [.int a1, .int a2, .int 1]) (embc := em_iI L) hB (mX8_roomsFor (sK := sK) (sV := sV) hi n a1 a2 1 I L) (zW_X8 rfl) rfl rfl lm_X8_186 q2_X8_roomsFor q3_X8_roomsFor q4_X8 q5_X8_roomsFor qd_X8_roomsFor (by decide) rfl rfl (Nat.le_of_ble_eq_true rfl) ⟨Nat.zero_le _, Nat.zero_le _⟩ dX8_can_20 (zr_kiI (fun o13 => ?_))
      refine zr_goto (tgt := 31) hB (by decide) dX8_can_23 ?_
      exact zr_iret hB rfl rfl dX8_can_31

def fX8_above_ (n : Nat) (a1 : Int32) (a2 : Int32) (I : zI) : Option (Int32 × zI) :=
  zb (fX8_isOne a1 I) fun o2 =>
  if o2 = 0 then
    zb (fX8_finding 0 I) fun o5 =>
    some (o5.1, o5.2)
  else
  zb (fX8_isThing a2 I) fun o7 =>
  if o7 = 0 then
    zb (fX8_finding 0 I) fun o10 =>
    some (o10.1, o10.2)
  else
  zb (fX8_roomsFor n a1 a2 1 I) fun o13 =>
  zb (fX8_roomsFor n a1 a2 0 o13.2) fun o16 =>
  some (o13.1 &&& (o16.1 ^^^ (-1)), o16.2)
set_option maxHeartbeats 4000000 in
set_option maxRecDepth 100000 in
theorem mX8_above_ {l : Launch} {D : va_G} {T : zT} {ad sK sV : Nat → Nat} (hi : zInj ad) (n : Nat) (a1 : Int32) (a2 : Int32)  (I : zI) (L : zL) : ∀ o, fX8_above_ n a1 a2 I = some o → zMet l yX8_above_ cX8_above_ 3 (some .int) 5 126 D T ad sK sV [.ref (ad 50), .int a1, .int a2] I L (em_iI L o) := by
  intro o ho
  refine zMet.of hi (by decide +kernel) (Nat.le_of_ble_eq_true rfl) (fun p e s m args below meth c hB => ?_)
  refine zr_top (emb := em_iI L) (t := fX8_above_ n a1 a2 I) ?_ ho
  unfold fX8_above_
  refine zr_aload_n hB 0 rfl rfl dX8_above__0 ?_
  refine zr_iload_n hB 1 rfl rfl dX8_above__1 ?_
  refine zr_callV (st := []) (C := RX8) (As := [.int a1]) (embc := em_i0 I L) hB (mX8_isOne (sK := sK) (sV := sV) hi a1 I L) (zW_X8 rfl) rfl rfl lm_X8_106 q2_X8_isOne q3_X8_isOne q4_X8 q5_X8_isOne qd_X8_isOne (by decide) rfl rfl (Nat.le_of_ble_eq_true rfl) ⟨Nat.zero_le _, Nat.zero_le _⟩ dX8_above__2 (zr_ki0 (fun o2 => ?_))
  refine zr_ifeq (tgt := 36) hB (by decide) dX8_above__5 ?_ ?_
  · refine zr_aload_n hB 0 rfl rfl dX8_above__36 ?_
    refine zr_iconst (v := 0) hB (by decide) dX8_above__37 ?_
    refine zr_callV (st := []) (C := RX8) (As := [.int 0]) (embc := em_iI L) hB (mX8_finding (sK := sK) (sV := sV) hi 0 I L) (zW_X8 rfl) rfl rfl lm_X8_74 q2_X8_finding q3_X8_finding q4_X8 q5_X8_finding qd_X8_finding (by decide) rfl rfl (Nat.le_of_ble_eq_true rfl) ⟨Nat.zero_le _, Nat.zero_le _⟩ dX8_above__38 (zr_kiI (fun o5 => ?_))
    exact zr_iret hB rfl rfl dX8_above__41
  · refine zr_aload_n hB 0 rfl rfl dX8_above__8 ?_
    refine zr_iload_n hB 2 rfl rfl dX8_above__9 ?_
    refine zr_callV (st := []) (C := RX8) (As := [.int a2]) (embc := em_i0 I L) hB (mX8_isThing (sK := sK) (sV := sV) hi a2 I L) (zW_X8 rfl) rfl rfl lm_X8_90 q2_X8_isThing q3_X8_isThing q4_X8 q5_X8_isThing qd_X8_isThing (by decide) rfl rfl (Nat.le_of_ble_eq_true rfl) ⟨Nat.zero_le _, Nat.zero_le _⟩ dX8_above__10 (zr_ki0 (fun o7 => ?_))
    refine zr_ifeq (tgt := 36) hB (by decide) dX8_above__13 ?_ ?_
    · refine zr_aload_n hB 0 rfl rfl dX8_above__36 ?_
      refine zr_iconst (v := 0) hB (by decide) dX8_above__37 ?_
      refine zr_callV (st := []) (C := RX8) (As := [.int 0]) (embc := em_iI L) hB (mX8_finding (sK := sK) (sV := sV) hi 0 I L) (zW_X8 rfl) rfl rfl lm_X8_74 q2_X8_finding q3_X8_finding q4_X8 q5_X8_finding qd_X8_finding (by decide) rfl rfl (Nat.le_of_ble_eq_true rfl) ⟨Nat.zero_le _, Nat.zero_le _⟩ dX8_above__38 (zr_kiI (fun o10 => ?_))
      exact zr_iret hB rfl rfl dX8_above__41
    · refine zr_aload_n hB 0 rfl rfl dX8_above__16 ?_
      refine zr_iload_n hB 1 rfl rfl dX8_above__17 ?_
      refine zr_iload_n hB 2 rfl rfl dX8_above__18 ?_
      refine zr_iconst (v := 1) hB (by decide) dX8_above__19 ?_
      refine zr_callV (st := []) (C := RX8) (As := [.int a1, .int a2, .int 1]) (embc := em_iI L) hB (mX8_roomsFor (sK := sK) (sV := sV) hi n a1 a2 1 I L) (zW_X8 rfl) rfl rfl lm_X8_186 q2_X8_roomsFor q3_X8_roomsFor q4_X8 q5_X8_roomsFor qd_X8_roomsFor (by decide) rfl rfl (Nat.le_of_ble_eq_true rfl) ⟨Nat.zero_le _, Nat.zero_le _⟩ dX8_above__20 (zr_kiI (fun o13 => ?_))
      refine zr_aload_n hB 0 rfl rfl dX8_above__23 ?_
      refine zr_iload_n hB 1 rfl rfl dX8_above__24 ?_
      refine zr_iload_n hB 2 rfl rfl dX8_above__25 ?_
      refine zr_iconst (v := 0) hB (by decide) dX8_above__26 ?_
      refine zr_callV (st := [.int o13.1]) (C := RX8) (As := [.int a1, .int a2, .int 0]) (embc := em_iI L) hB (mX8_roomsFor (sK := sK) (sV := sV) hi n a1 a2 0 o13.2 L) (zW_X8 rfl) rfl rfl lm_X8_186 q2_X8_roomsFor q3_X8_roomsFor q4_X8 q5_X8_roomsFor qd_X8_roomsFor (by decide) rfl rfl (Nat.le_of_ble_eq_true rfl) ⟨Nat.zero_le _, Nat.zero_le _⟩ dX8_above__27 (zr_kiI (fun o16 => ?_))
      refine zr_iconst (v := (-1)) hB (by decide) dX8_above__30 ?_
      refine zr_ixor hB dX8_above__31 ?_
      refine zr_iand hB dX8_above__32 ?_
      refine zr_goto (tgt := 41) hB (by decide) dX8_above__33 ?_
      exact zr_iret hB rfl rfl dX8_above__41

def gX8_strong_41 (n : Nat) (a1 : Int32) (a2 : Int32) (a3 : Int32) (s5 : Int32 × zI) : Option ((Int32 × zI) ⊕ (Int32 × zI)) :=
  if 60 < s5.1 then
    some (.inr (s5.1, s5.2))
  else
  zb (fX8_stepsOf n a1 a2 a3 s5.2) fun o16 =>
  if 0 ≤ o16.1 then
    some (.inr (s5.1, o16.2))
  else
  zl (s5.1 + 1) fun v17 =>
  zg (56 + a1) 120 (
  zl (zup o16.2 51 (zn (56 + a1)) v17) fun J18 =>
  some (.inl (v17, J18)))
def fX8_strong (n : Nat) (a1 : Int32) (a2 : Int32) (a3 : Int32) (I : zI) : Option (Int32 × zI) :=
  zb (fX8_isTask a1 a2 a3 I) fun o2 =>
  if o2 = 0 then
    zb (fX8_finding 0 I) fun o25 =>
    some (o25.1, o25.2)
  else
  zg (56 + a1) 120 (
  zl (I 51 (zn (56 + a1))) fun v3 =>
  zg (56 + a1) 120 (
  zl (zup I 51 (zn (56 + a1)) 0) fun J4 =>
  zb (zit (gX8_strong_41 n a1 a2 a3) n (0, J4)) fun x6 : Int32 × zI =>
  zg (56 + a1) 120 (
  zl (zup x6.2 51 (zn (56 + a1)) v3) fun J19 =>
  if 60 < x6.1 then
    zb (fX8_finding 3 J19) fun o22 =>
    some (o22.1, o22.2)
  else
  some (x6.1, J19))))
set_option maxHeartbeats 4000000 in
set_option maxRecDepth 100000 in
theorem mX8_strong {l : Launch} {D : va_G} {T : zT} {ad sK sV : Nat → Nat} (hi : zInj ad) (n : Nat) (a1 : Int32) (a2 : Int32) (a3 : Int32)  (I : zI) (L : zL) : ∀ o, fX8_strong n a1 a2 a3 I = some o → zMet l yX8_strong cX8_strong 6 (some .int) 5 124 D T ad sK sV [.ref (ad 50), .int a1, .int a2, .int a3] I L (em_iI L o) := by
  intro o ho
  refine zMet.of hi (by decide +kernel) (Nat.le_of_ble_eq_true rfl) (fun p e s m args below meth c hB => ?_)
  refine zr_top (emb := em_iI L) (t := fX8_strong n a1 a2 a3 I) ?_ ho
  unfold fX8_strong
  refine zr_aload_n hB 0 rfl rfl dX8_strong_0 ?_
  refine zr_iload_n hB 1 rfl rfl dX8_strong_1 ?_
  refine zr_iload_n hB 2 rfl rfl dX8_strong_2 ?_
  refine zr_iload_n hB 3 rfl rfl dX8_strong_3 ?_
  refine zr_callV (st := []) (C := RX8) (As := [.int a1, .int a2, .int a3]) (embc := em_i0 I L) hB (mX8_isTask (sK := sK) (sV := sV) hi a1 a2 a3 I L) (zW_X8 rfl) rfl rfl lm_X8_168 q2_X8_isTask q3_X8_isTask q4_X8 q5_X8_isTask qd_X8_isTask (by decide) rfl rfl (Nat.le_of_ble_eq_true rfl) ⟨Nat.zero_le _, Nat.zero_le _⟩ dX8_strong_4 (zr_ki0 (fun o2 => ?_))
  refine zr_ifne (tgt := 16) hB (by decide) dX8_strong_7 ?_ ?_
  · refine zr_aload_n hB 0 rfl rfl dX8_strong_16 ?_
    refine zr_get_X8 (w := 50) (k := 0) (v := .ref (ad 51)) hB rfl (by decide) rfl lf_X8_9 rfl dX8_strong_17 ?_
    refine zr_bipush (v := 56) hB (by decide) dX8_strong_20 ?_
    refine zr_iload_n hB 1 rfl rfl dX8_strong_22 ?_
    refine zr_iadd hB dX8_strong_23 ?_
    refine zr_iaload hB zA_51 dX8_strong_24 ?_
    refine zr_letI (fun v3 => ?_)
    refine zr_istore (lv' := [(4, .int v3), (0, .ref (ad 50)), (1, .int a1), (2, .int a2), (3, .int a3)]) hB (by decide) rfl dX8_strong_25 ?_
    refine zr_iconst (v := 0) hB (by decide) dX8_strong_27 ?_
    refine zr_istore (lv' := [(5, .int 0), (4, .int v3), (0, .ref (ad 50)), (1, .int a1), (2, .int a2), (3, .int a3)]) hB (by decide) rfl dX8_strong_28 ?_
    refine zr_aload_n hB 2 rfl rfl dX8_strong_30 ?_
    refine zr_get_X8 (w := 50) (k := 0) (v := .ref (ad 51)) hB rfl (by decide) rfl lf_X8_9 rfl dX8_strong_31 ?_
    refine zr_bipush (v := 56) hB (by decide) dX8_strong_34 ?_
    refine zr_iload_n hB 3 rfl rfl dX8_strong_36 ?_
    refine zr_iadd hB dX8_strong_37 ?_
    refine zr_iload hB 0 rfl dX8_strong_38 ?_
    refine zr_iastore hB zA_51 dX8_strong_40 ?_
    refine zr_letM (fun J4 => ?_)
    refine zr_join (pcJ := 75) (fun x6 : Int32 × zI => [(5, .int x6.1), (4, .int v3), (0, .ref (ad 50)), (1, .int a1)]) (fun _ => []) (fun x6 => x6.2) (fun x6 => L) (fun x6 => ?_) (fun K12 hx11 => ?_)
    · refine zr_aload_n hB 2 rfl rfl dX8_strong_75 ?_
      refine zr_get_X8 (w := 50) (k := 0) (v := .ref (ad 51)) hB rfl (by decide) rfl lf_X8_9 rfl dX8_strong_76 ?_
      refine zr_bipush (v := 56) hB (by decide) dX8_strong_79 ?_
      refine zr_iload_n hB 3 rfl rfl dX8_strong_81 ?_
      refine zr_iadd hB dX8_strong_82 ?_
      refine zr_iload hB 1 rfl dX8_strong_83 ?_
      refine zr_iastore hB zA_51 dX8_strong_85 ?_
      refine zr_letM (fun J19 => ?_)
      refine zr_iload hB 0 rfl dX8_strong_86 ?_
      refine zr_bipush (v := 60) hB (by decide) dX8_strong_88 ?_
      refine zr_icmp_gt (tgt := 98) hB (by decide) dX8_strong_90 ?_ ?_
      · refine zr_aload_n hB 2 rfl rfl dX8_strong_98 ?_
        refine zr_iconst (v := 3) hB (by decide) dX8_strong_99 ?_
        refine zr_callV (st := []) (C := RX8) (As := [.int 3]) (embc := em_iI L) hB (mX8_finding (sK := sK) (sV := sV) hi 3 J19 L) (zW_X8 rfl) rfl rfl lm_X8_74 q2_X8_finding q3_X8_finding q4_X8 q5_X8_finding qd_X8_finding (by decide) rfl rfl (Nat.le_of_ble_eq_true rfl) ⟨Nat.zero_le _, Nat.zero_le _⟩ dX8_strong_100 (zr_kiI (fun o22 => ?_))
        exact zr_iret hB rfl rfl dX8_strong_103
      · refine zr_iload hB 0 rfl dX8_strong_93 ?_
        refine zr_goto (tgt := 103) hB (by decide) dX8_strong_95 ?_
        exact zr_iret hB rfl rfl dX8_strong_103
    · refine zr_sub (lv' := (fun s5 : Int32 × zI => [(5, .int s5.1), (4, .int v3), (0, .ref (ad 50)), (1, .int a1), (2, .int a2), (3, .int a3)]) (0, J4)) [0, 1, 2, 3, 4, 5] rfl (zr_loop (fun s5 : Int32 × zI => [(5, .int s5.1), (4, .int v3), (0, .ref (ad 50)), (1, .int a1), (2, .int a2), (3, .int a3)]) (fun s5 => s5.2) (fun s5 => L) (fun x6 : Int32 × zI => [(5, .int x6.1), (4, .int v3), (0, .ref (ad 50)), (1, .int a1)]) (fun x6 => x6.2) (fun x6 => L) hx11 (fun s5 K13 hc7 hx8 => ?_) n (0, J4))
      unfold gX8_strong_41
      refine zr_iload hB 0 rfl dX8_strong_41 ?_
      refine zr_bipush (v := 60) hB (by decide) dX8_strong_43 ?_
      refine zr_icmp_gt (tgt := 75) hB (by decide) dX8_strong_45 ?_ ?_
      · exact zr_sub [0, 1, 2, 3] rfl (hx8 (s5.1, s5.2))
      · refine zr_aload_n hB 2 rfl rfl dX8_strong_48 ?_
        refine zr_iload_n hB 3 rfl rfl dX8_strong_49 ?_
        refine zr_iload_n hB 4 rfl rfl dX8_strong_50 ?_
        refine zr_iload_n hB 5 rfl rfl dX8_strong_51 ?_
        refine zr_callV (st := []) (C := RX8) (As := [.int a1, .int a2, .int a3]) (embc := em_iI L) hB (mX8_stepsOf (sK := sK) (sV := sV) hi n a1 a2 a3 s5.2 L) (zW_X8 rfl) rfl rfl lm_X8_171 q2_X8_stepsOf q3_X8_stepsOf q4_X8 q5_X8_stepsOf qd_X8_stepsOf (by decide) rfl rfl (Nat.le_of_ble_eq_true rfl) ⟨Nat.zero_le _, Nat.zero_le _⟩ dX8_strong_52 (zr_kiI (fun o16 => ?_))
        refine zr_ifge (tgt := 75) hB (by decide) dX8_strong_55 ?_ ?_
        · exact zr_sub [0, 1, 2, 3] rfl (hx8 (s5.1, o16.2))
        · refine zr_iincL hB (j := 0) (n := 1) (w := 1) rfl (by decide) (by decide) dX8_strong_58 (fun v17 lv' hlv => ?_)
          obtain rfl : lv' = [(5, .int v17), (4, .int v3), (0, .ref (ad 50)), (1, .int a1), (2, .int a2), (3, .int a3)] := hlv.symm.trans rfl
          refine zr_aload_n hB 2 rfl rfl dX8_strong_61 ?_
          refine zr_get_X8 (w := 50) (k := 0) (v := .ref (ad 51)) hB rfl (by decide) rfl lf_X8_9 rfl dX8_strong_62 ?_
          refine zr_bipush (v := 56) hB (by decide) dX8_strong_65 ?_
          refine zr_iload_n hB 3 rfl rfl dX8_strong_67 ?_
          refine zr_iadd hB dX8_strong_68 ?_
          refine zr_iload hB 0 rfl dX8_strong_69 ?_
          refine zr_iastore hB zA_51 dX8_strong_71 ?_
          refine zr_letM (fun J18 => ?_)
          refine zr_goto (tgt := 41) hB (by decide) dX8_strong_72 ?_
          exact zr_sub [0, 1, 2, 3, 4, 5] rfl (hc7 (v17, J18))
  · refine zr_aload_n hB 0 rfl rfl dX8_strong_10 ?_
    refine zr_iconst (v := 0) hB (by decide) dX8_strong_11 ?_
    refine zr_callV (st := []) (C := RX8) (As := [.int 0]) (embc := em_iI L) hB (mX8_finding (sK := sK) (sV := sV) hi 0 I L) (zW_X8 rfl) rfl rfl lm_X8_74 q2_X8_finding q3_X8_finding q4_X8 q5_X8_finding qd_X8_finding (by decide) rfl rfl (Nat.le_of_ble_eq_true rfl) ⟨Nat.zero_le _, Nat.zero_le _⟩ dX8_strong_12 (zr_kiI (fun o25 => ?_))
    exact zr_iret hB rfl rfl dX8_strong_15

def gX8_kindFor_34 (n : Nat) (a1 : Int32) (a2 : Int32) (a3 : Int32) (s7 : Int32 × zI) : Option ((Int32 × zI) ⊕ (zI)) :=
  if 7 ≤ s7.1 then
    some (.inr s7.2)
  else
  zg (28 + a2) 120 (
  zl (zup s7.2 51 (zn (28 + a2)) s7.1) fun J16 =>
  zb (fX8_stepsOf n a1 a2 a3 J16) fun o19 =>
  zb (fX8_tries s7.1 o19.1 o19.2) fun o22 =>
  zl (s7.1 + 1) fun v23 =>
  some (.inl (v23, o22)))
def fX8_kindFor (n : Nat) (a1 : Int32) (a2 : Int32) (a3 : Int32) (I : zI) : Option (Int32 × zI) :=
  zb (fX8_isTask a1 a2 a3 I) fun o2 =>
  if o2 = 0 then
    zb (fX8_finding 0 I) fun o30 =>
    some (o30.1, o30.2)
  else
  zg (28 + a2) 120 (
  zl (I 51 (zn (28 + a2))) fun v3 =>
  zb (fX8_begins I) fun o6 =>
  zb (zit (gX8_kindFor_34 n a1 a2 a3) n (0, o6)) fun x8 : zI =>
  zg (28 + a2) 120 (
  zl (zup x8 51 (zn (28 + a2)) v3) fun J24 =>
  zb (fX8_orNone (J24 50 11) J24) fun o27 =>
  some (o27.1, o27.2)))
set_option maxHeartbeats 4000000 in
set_option maxRecDepth 100000 in
theorem mX8_kindFor {l : Launch} {D : va_G} {T : zT} {ad sK sV : Nat → Nat} (hi : zInj ad) (n : Nat) (a1 : Int32) (a2 : Int32) (a3 : Int32)  (I : zI) (L : zL) : ∀ o, fX8_kindFor n a1 a2 a3 I = some o → zMet l yX8_kindFor cX8_kindFor 6 (some .int) 5 124 D T ad sK sV [.ref (ad 50), .int a1, .int a2, .int a3] I L (em_iI L o) := by
  intro o ho
  refine zMet.of hi (by decide +kernel) (Nat.le_of_ble_eq_true rfl) (fun p e s m args below meth c hB => ?_)
  refine zr_top (emb := em_iI L) (t := fX8_kindFor n a1 a2 a3 I) ?_ ho
  unfold fX8_kindFor
  refine zr_aload_n hB 0 rfl rfl dX8_kindFor_0 ?_
  refine zr_iload_n hB 1 rfl rfl dX8_kindFor_1 ?_
  refine zr_iload_n hB 2 rfl rfl dX8_kindFor_2 ?_
  refine zr_iload_n hB 3 rfl rfl dX8_kindFor_3 ?_
  refine zr_callV (st := []) (C := RX8) (As := [.int a1, .int a2, .int a3]) (embc := em_i0 I L) hB (mX8_isTask (sK := sK) (sV := sV) hi a1 a2 a3 I L) (zW_X8 rfl) rfl rfl lm_X8_168 q2_X8_isTask q3_X8_isTask q4_X8 q5_X8_isTask qd_X8_isTask (by decide) rfl rfl (Nat.le_of_ble_eq_true rfl) ⟨Nat.zero_le _, Nat.zero_le _⟩ dX8_kindFor_4 (zr_ki0 (fun o2 => ?_))
  refine zr_ifne (tgt := 16) hB (by decide) dX8_kindFor_7 ?_ ?_
  · refine zr_aload_n hB 0 rfl rfl dX8_kindFor_16 ?_
    refine zr_get_X8 (w := 50) (k := 0) (v := .ref (ad 51)) hB rfl (by decide) rfl lf_X8_9 rfl dX8_kindFor_17 ?_
    refine zr_bipush (v := 28) hB (by decide) dX8_kindFor_20 ?_
    refine zr_iload_n hB 2 rfl rfl dX8_kindFor_22 ?_
    refine zr_iadd hB dX8_kindFor_23 ?_
    refine zr_iaload hB zA_51 dX8_kindFor_24 ?_
    refine zr_letI (fun v3 => ?_)
    refine zr_istore (lv' := [(4, .int v3), (0, .ref (ad 50)), (1, .int a1), (2, .int a2), (3, .int a3)]) hB (by decide) rfl dX8_kindFor_25 ?_
    refine zr_aload_n hB 1 rfl rfl dX8_kindFor_27 ?_
    refine zr_callV (st := []) (C := RX8) (As := []) (embc := em_vI L) hB (mX8_begins (sK := sK) (sV := sV) hi  I L) (zW_X8 rfl) rfl rfl lm_X8_180 q2_X8_begins q3_X8_begins q4_X8 q5_X8_begins qd_X8_begins (by decide) rfl rfl (Nat.le_of_ble_eq_true rfl) ⟨Nat.zero_le _, Nat.zero_le _⟩ dX8_kindFor_28 (zr_kvI (fun o6 => ?_))
    refine zr_iconst (v := 0) hB (by decide) dX8_kindFor_31 ?_
    refine zr_istore (lv' := [(5, .int 0), (4, .int v3), (0, .ref (ad 50)), (1, .int a1), (2, .int a2), (3, .int a3)]) hB (by decide) rfl dX8_kindFor_32 ?_
    refine zr_join (pcJ := 71) (fun x8 : zI => [(4, .int v3), (0, .ref (ad 50)), (2, .int a2)]) (fun _ => []) (fun x8 => x8) (fun x8 => L) (fun x8 => ?_) (fun K14 hx13 => ?_)
    · refine zr_aload_n hB 1 rfl rfl dX8_kindFor_71 ?_
      refine zr_get_X8 (w := 50) (k := 0) (v := .ref (ad 51)) hB rfl (by decide) rfl lf_X8_9 rfl dX8_kindFor_72 ?_
      refine zr_bipush (v := 28) hB (by decide) dX8_kindFor_75 ?_
      refine zr_iload_n hB 2 rfl rfl dX8_kindFor_77 ?_
      refine zr_iadd hB dX8_kindFor_78 ?_
      refine zr_iload hB 0 rfl dX8_kindFor_79 ?_
      refine zr_iastore hB zA_51 dX8_kindFor_81 ?_
      refine zr_letM (fun J24 => ?_)
      refine zr_aload_n hB 1 rfl rfl dX8_kindFor_82 ?_
      refine zr_aload_n hB 1 rfl rfl dX8_kindFor_83 ?_
      refine zr_get_X8 (w := 50) (k := 11) (v := .int (J24 50 11)) hB rfl (by decide) rfl lf_X8_174 rfl dX8_kindFor_84 ?_
      refine zr_callV (st := []) (C := RX8) (As := [.int (J24 50 11)]) (embc := em_iI L) hB (mX8_orNone (sK := sK) (sV := sV) hi (J24 50 11) J24 L) (zW_X8 rfl) rfl rfl lm_X8_162 q2_X8_orNone q3_X8_orNone q4_X8 q5_X8_orNone qd_X8_orNone (by decide) rfl rfl (Nat.le_of_ble_eq_true rfl) ⟨Nat.zero_le _, Nat.zero_le _⟩ dX8_kindFor_87 (zr_kiI (fun o27 => ?_))
      exact zr_iret hB rfl rfl dX8_kindFor_90
    · refine zr_sub (lv' := (fun s7 : Int32 × zI => [(5, .int s7.1), (4, .int v3), (0, .ref (ad 50)), (1, .int a1), (2, .int a2), (3, .int a3)]) (0, o6)) [0, 1, 2, 3, 4, 5] rfl (zr_loop (fun s7 : Int32 × zI => [(5, .int s7.1), (4, .int v3), (0, .ref (ad 50)), (1, .int a1), (2, .int a2), (3, .int a3)]) (fun s7 => s7.2) (fun s7 => L) (fun x8 : zI => [(4, .int v3), (0, .ref (ad 50)), (2, .int a2)]) (fun x8 => x8) (fun x8 => L) hx13 (fun s7 K15 hc9 hx10 => ?_) n (0, o6))
      unfold gX8_kindFor_34
      refine zr_iload hB 0 rfl dX8_kindFor_34 ?_
      refine zr_bipush (v := 7) hB (by decide) dX8_kindFor_36 ?_
      refine zr_icmp_ge (tgt := 71) hB (by decide) dX8_kindFor_38 ?_ ?_
      · exact zr_sub [1, 2, 4] rfl (hx10 s7.2)
      · refine zr_aload_n hB 2 rfl rfl dX8_kindFor_41 ?_
        refine zr_get_X8 (w := 50) (k := 0) (v := .ref (ad 51)) hB rfl (by decide) rfl lf_X8_9 rfl dX8_kindFor_42 ?_
        refine zr_bipush (v := 28) hB (by decide) dX8_kindFor_45 ?_
        refine zr_iload_n hB 4 rfl rfl dX8_kindFor_47 ?_
        refine zr_iadd hB dX8_kindFor_48 ?_
        refine zr_iload hB 0 rfl dX8_kindFor_49 ?_
        refine zr_iastore hB zA_51 dX8_kindFor_51 ?_
        refine zr_letM (fun J16 => ?_)
        refine zr_aload_n hB 2 rfl rfl dX8_kindFor_52 ?_
        refine zr_iload hB 0 rfl dX8_kindFor_53 ?_
        refine zr_aload_n hB 2 rfl rfl dX8_kindFor_55 ?_
        refine zr_iload_n hB 3 rfl rfl dX8_kindFor_56 ?_
        refine zr_iload_n hB 4 rfl rfl dX8_kindFor_57 ?_
        refine zr_iload_n hB 5 rfl rfl dX8_kindFor_58 ?_
        refine zr_callV (st := [.int s7.1, .ref (ad 50)]) (C := RX8) (As := [.int a1, .int a2, .int a3]) (embc := em_iI L) hB (mX8_stepsOf (sK := sK) (sV := sV) hi n a1 a2 a3 J16 L) (zW_X8 rfl) rfl rfl lm_X8_171 q2_X8_stepsOf q3_X8_stepsOf q4_X8 q5_X8_stepsOf qd_X8_stepsOf (by decide) rfl rfl (Nat.le_of_ble_eq_true rfl) ⟨Nat.zero_le _, Nat.zero_le _⟩ dX8_kindFor_59 (zr_kiI (fun o19 => ?_))
        refine zr_callV (st := []) (C := RX8) (As := [.int s7.1, .int o19.1]) (embc := em_vI L) hB (mX8_tries (sK := sK) (sV := sV) hi s7.1 o19.1 o19.2 L) (zW_X8 rfl) rfl rfl lm_X8_183 q2_X8_tries q3_X8_tries q4_X8 q5_X8_tries qd_X8_tries (by decide) rfl rfl (Nat.le_of_ble_eq_true rfl) ⟨Nat.zero_le _, Nat.zero_le _⟩ dX8_kindFor_62 (zr_kvI (fun o22 => ?_))
        refine zr_iincL hB (j := 0) (n := 1) (w := 1) rfl (by decide) (by decide) dX8_kindFor_65 (fun v23 lv' hlv => ?_)
        obtain rfl : lv' = [(5, .int v23), (4, .int v3), (0, .ref (ad 50)), (1, .int a1), (2, .int a2), (3, .int a3)] := hlv.symm.trans rfl
        refine zr_goto (tgt := 34) hB (by decide) dX8_kindFor_68 ?_
        exact zr_sub [0, 1, 2, 3, 4, 5] rfl (hc9 (v23, o22))
  · refine zr_aload_n hB 0 rfl rfl dX8_kindFor_10 ?_
    refine zr_iconst (v := 0) hB (by decide) dX8_kindFor_11 ?_
    refine zr_callV (st := []) (C := RX8) (As := [.int 0]) (embc := em_iI L) hB (mX8_finding (sK := sK) (sV := sV) hi 0 I L) (zW_X8 rfl) rfl rfl lm_X8_74 q2_X8_finding q3_X8_finding q4_X8 q5_X8_finding qd_X8_finding (by decide) rfl rfl (Nat.le_of_ble_eq_true rfl) ⟨Nat.zero_le _, Nat.zero_le _⟩ dX8_kindFor_12 (zr_kiI (fun o30 => ?_))
    exact zr_iret hB rfl rfl dX8_kindFor_15

def gX8_place_32 (n : Nat) (a1 : Int32) (a2 : Int32) (a3 : Int32) (s7 : Int32 × zI) : Option ((Int32 × zI) ⊕ (zI)) :=
  if 8 ≤ s7.1 then
    some (.inr s7.2)
  else
  zg 8 120 (
  zl (zup s7.2 51 (zn 8) s7.1) fun J16 =>
  zb (fX8_stepsOf n a1 a2 a3 J16) fun o19 =>
  zb (fX8_tries s7.1 o19.1 o19.2) fun o22 =>
  zl (s7.1 + 1) fun v23 =>
  some (.inl (v23, o22)))
def fX8_place (n : Nat) (a1 : Int32) (a2 : Int32) (a3 : Int32) (I : zI) : Option (Int32 × zI) :=
  zb (fX8_isTask a1 a2 a3 I) fun o2 =>
  if o2 = 0 then
    zb (fX8_finding 0 I) fun o30 =>
    some (o30.1, o30.2)
  else
  zg 8 120 (
  zl (I 51 (zn 8)) fun v3 =>
  zb (fX8_begins I) fun o6 =>
  zb (zit (gX8_place_32 n a1 a2 a3) n (0, o6)) fun x8 : zI =>
  zg 8 120 (
  zl (zup x8 51 (zn 8) v3) fun J24 =>
  zb (fX8_orNone (J24 50 11) J24) fun o27 =>
  some (o27.1, o27.2)))
set_option maxHeartbeats 4000000 in
set_option maxRecDepth 100000 in
theorem mX8_place {l : Launch} {D : va_G} {T : zT} {ad sK sV : Nat → Nat} (hi : zInj ad) (n : Nat) (a1 : Int32) (a2 : Int32) (a3 : Int32)  (I : zI) (L : zL) : ∀ o, fX8_place n a1 a2 a3 I = some o → zMet l yX8_place cX8_place 6 (some .int) 5 124 D T ad sK sV [.ref (ad 50), .int a1, .int a2, .int a3] I L (em_iI L o) := by
  intro o ho
  refine zMet.of hi (by decide +kernel) (Nat.le_of_ble_eq_true rfl) (fun p e s m args below meth c hB => ?_)
  refine zr_top (emb := em_iI L) (t := fX8_place n a1 a2 a3 I) ?_ ho
  unfold fX8_place
  refine zr_aload_n hB 0 rfl rfl dX8_place_0 ?_
  refine zr_iload_n hB 1 rfl rfl dX8_place_1 ?_
  refine zr_iload_n hB 2 rfl rfl dX8_place_2 ?_
  refine zr_iload_n hB 3 rfl rfl dX8_place_3 ?_
  refine zr_callV (st := []) (C := RX8) (As := [.int a1, .int a2, .int a3]) (embc := em_i0 I L) hB (mX8_isTask (sK := sK) (sV := sV) hi a1 a2 a3 I L) (zW_X8 rfl) rfl rfl lm_X8_168 q2_X8_isTask q3_X8_isTask q4_X8 q5_X8_isTask qd_X8_isTask (by decide) rfl rfl (Nat.le_of_ble_eq_true rfl) ⟨Nat.zero_le _, Nat.zero_le _⟩ dX8_place_4 (zr_ki0 (fun o2 => ?_))
  refine zr_ifne (tgt := 16) hB (by decide) dX8_place_7 ?_ ?_
  · refine zr_aload_n hB 0 rfl rfl dX8_place_16 ?_
    refine zr_get_X8 (w := 50) (k := 0) (v := .ref (ad 51)) hB rfl (by decide) rfl lf_X8_9 rfl dX8_place_17 ?_
    refine zr_bipush (v := 8) hB (by decide) dX8_place_20 ?_
    refine zr_iaload hB zA_51 dX8_place_22 ?_
    refine zr_letI (fun v3 => ?_)
    refine zr_istore (lv' := [(4, .int v3), (0, .ref (ad 50)), (1, .int a1), (2, .int a2), (3, .int a3)]) hB (by decide) rfl dX8_place_23 ?_
    refine zr_aload_n hB 1 rfl rfl dX8_place_25 ?_
    refine zr_callV (st := []) (C := RX8) (As := []) (embc := em_vI L) hB (mX8_begins (sK := sK) (sV := sV) hi  I L) (zW_X8 rfl) rfl rfl lm_X8_180 q2_X8_begins q3_X8_begins q4_X8 q5_X8_begins qd_X8_begins (by decide) rfl rfl (Nat.le_of_ble_eq_true rfl) ⟨Nat.zero_le _, Nat.zero_le _⟩ dX8_place_26 (zr_kvI (fun o6 => ?_))
    refine zr_iconst (v := 0) hB (by decide) dX8_place_29 ?_
    refine zr_istore (lv' := [(5, .int 0), (4, .int v3), (0, .ref (ad 50)), (1, .int a1), (2, .int a2), (3, .int a3)]) hB (by decide) rfl dX8_place_30 ?_
    refine zr_join (pcJ := 67) (fun x8 : zI => [(4, .int v3), (0, .ref (ad 50))]) (fun _ => []) (fun x8 => x8) (fun x8 => L) (fun x8 => ?_) (fun K14 hx13 => ?_)
    · refine zr_aload_n hB 1 rfl rfl dX8_place_67 ?_
      refine zr_get_X8 (w := 50) (k := 0) (v := .ref (ad 51)) hB rfl (by decide) rfl lf_X8_9 rfl dX8_place_68 ?_
      refine zr_bipush (v := 8) hB (by decide) dX8_place_71 ?_
      refine zr_iload hB 0 rfl dX8_place_73 ?_
      refine zr_iastore hB zA_51 dX8_place_75 ?_
      refine zr_letM (fun J24 => ?_)
      refine zr_aload_n hB 1 rfl rfl dX8_place_76 ?_
      refine zr_aload_n hB 1 rfl rfl dX8_place_77 ?_
      refine zr_get_X8 (w := 50) (k := 11) (v := .int (J24 50 11)) hB rfl (by decide) rfl lf_X8_174 rfl dX8_place_78 ?_
      refine zr_callV (st := []) (C := RX8) (As := [.int (J24 50 11)]) (embc := em_iI L) hB (mX8_orNone (sK := sK) (sV := sV) hi (J24 50 11) J24 L) (zW_X8 rfl) rfl rfl lm_X8_162 q2_X8_orNone q3_X8_orNone q4_X8 q5_X8_orNone qd_X8_orNone (by decide) rfl rfl (Nat.le_of_ble_eq_true rfl) ⟨Nat.zero_le _, Nat.zero_le _⟩ dX8_place_81 (zr_kiI (fun o27 => ?_))
      exact zr_iret hB rfl rfl dX8_place_84
    · refine zr_sub (lv' := (fun s7 : Int32 × zI => [(5, .int s7.1), (4, .int v3), (0, .ref (ad 50)), (1, .int a1), (2, .int a2), (3, .int a3)]) (0, o6)) [0, 1, 2, 3, 4, 5] rfl (zr_loop (fun s7 : Int32 × zI => [(5, .int s7.1), (4, .int v3), (0, .ref (ad 50)), (1, .int a1), (2, .int a2), (3, .int a3)]) (fun s7 => s7.2) (fun s7 => L) (fun x8 : zI => [(4, .int v3), (0, .ref (ad 50))]) (fun x8 => x8) (fun x8 => L) hx13 (fun s7 K15 hc9 hx10 => ?_) n (0, o6))
      unfold gX8_place_32
      refine zr_iload hB 0 rfl dX8_place_32 ?_
      refine zr_bipush (v := 8) hB (by decide) dX8_place_34 ?_
      refine zr_icmp_ge (tgt := 67) hB (by decide) dX8_place_36 ?_ ?_
      · exact zr_sub [1, 2] rfl (hx10 s7.2)
      · refine zr_aload_n hB 2 rfl rfl dX8_place_39 ?_
        refine zr_get_X8 (w := 50) (k := 0) (v := .ref (ad 51)) hB rfl (by decide) rfl lf_X8_9 rfl dX8_place_40 ?_
        refine zr_bipush (v := 8) hB (by decide) dX8_place_43 ?_
        refine zr_iload hB 0 rfl dX8_place_45 ?_
        refine zr_iastore hB zA_51 dX8_place_47 ?_
        refine zr_letM (fun J16 => ?_)
        refine zr_aload_n hB 2 rfl rfl dX8_place_48 ?_
        refine zr_iload hB 0 rfl dX8_place_49 ?_
        refine zr_aload_n hB 2 rfl rfl dX8_place_51 ?_
        refine zr_iload_n hB 3 rfl rfl dX8_place_52 ?_
        refine zr_iload_n hB 4 rfl rfl dX8_place_53 ?_
        refine zr_iload_n hB 5 rfl rfl dX8_place_54 ?_
        refine zr_callV (st := [.int s7.1, .ref (ad 50)]) (C := RX8) (As := [.int a1, .int a2, .int a3]) (embc := em_iI L) hB (mX8_stepsOf (sK := sK) (sV := sV) hi n a1 a2 a3 J16 L) (zW_X8 rfl) rfl rfl lm_X8_171 q2_X8_stepsOf q3_X8_stepsOf q4_X8 q5_X8_stepsOf qd_X8_stepsOf (by decide) rfl rfl (Nat.le_of_ble_eq_true rfl) ⟨Nat.zero_le _, Nat.zero_le _⟩ dX8_place_55 (zr_kiI (fun o19 => ?_))
        refine zr_callV (st := []) (C := RX8) (As := [.int s7.1, .int o19.1]) (embc := em_vI L) hB (mX8_tries (sK := sK) (sV := sV) hi s7.1 o19.1 o19.2 L) (zW_X8 rfl) rfl rfl lm_X8_183 q2_X8_tries q3_X8_tries q4_X8 q5_X8_tries qd_X8_tries (by decide) rfl rfl (Nat.le_of_ble_eq_true rfl) ⟨Nat.zero_le _, Nat.zero_le _⟩ dX8_place_58 (zr_kvI (fun o22 => ?_))
        refine zr_iincL hB (j := 0) (n := 1) (w := 1) rfl (by decide) (by decide) dX8_place_61 (fun v23 lv' hlv => ?_)
        obtain rfl : lv' = [(5, .int v23), (4, .int v3), (0, .ref (ad 50)), (1, .int a1), (2, .int a2), (3, .int a3)] := hlv.symm.trans rfl
        refine zr_goto (tgt := 32) hB (by decide) dX8_place_64 ?_
        exact zr_sub [0, 1, 2, 3, 4, 5] rfl (hc9 (v23, o22))
  · refine zr_aload_n hB 0 rfl rfl dX8_place_10 ?_
    refine zr_iconst (v := 0) hB (by decide) dX8_place_11 ?_
    refine zr_callV (st := []) (C := RX8) (As := [.int 0]) (embc := em_iI L) hB (mX8_finding (sK := sK) (sV := sV) hi 0 I L) (zW_X8 rfl) rfl rfl lm_X8_74 q2_X8_finding q3_X8_finding q4_X8 q5_X8_finding qd_X8_finding (by decide) rfl rfl (Nat.le_of_ble_eq_true rfl) ⟨Nat.zero_le _, Nat.zero_le _⟩ dX8_place_12 (zr_kiI (fun o30 => ?_))
    exact zr_iret hB rfl rfl dX8_place_15

def gX8_isSafe_15 (a1 : Int32) (I : zI) (s1 : Int32) (s10 : Int32) : Option ((Int32) ⊕ (((Int32) ⊕ ((Int32) ⊕ (Unit))) ⊕ (Unit))) :=
  zg 11 120 (
  if (I 51 (zn 11)) ≤ s10 then
    some (.inr (.inr ()))
  else
  zb (fX8_canCarry s1 s10 a1 I) fun o20 =>
  if o20 = 0 then
    zb (fX8_canReach s1 s10 a1 I) fun o22 =>
    if o22 = 0 then
      zl (s10 + 1) fun v23 =>
      some (.inl v23)
    else
    some (.inr (.inl (.inr (.inl 0))))
  else
  some (.inr (.inl (.inr (.inl 0)))))
def gX8_isSafe_2 (n : Nat) (a1 : Int32) (I : zI) (s1 : Int32) : Option ((Int32) ⊕ ((Int32) ⊕ (Unit))) :=
  zg 12 120 (
  if (I 51 (zn 12)) ≤ s1 then
    some (.inr (.inr ()))
  else
  zbs (zit (gX8_isSafe_15 a1 I s1) n 0) fun x11 : Unit =>
  zl (s1 + 1) fun v24 =>
  some (.inl v24))
def fX8_isSafe (n : Nat) (a1 : Int32) (I : zI) : Option (Int32) :=
  zbs (zit (gX8_isSafe_2 n a1 I) n 0) fun x2 : Unit =>
  some 1
set_option maxHeartbeats 4000000 in
set_option maxRecDepth 100000 in
theorem mX8_isSafe {l : Launch} {D : va_G} {T : zT} {ad sK sV : Nat → Nat} (hi : zInj ad) (n : Nat) (a1 : Int32)  (I : zI) (L : zL) : ∀ o, fX8_isSafe n a1 I = some o → zMet l yX8_isSafe cX8_isSafe 4 (some .boolean) 3 68 D T ad sK sV [.ref (ad 50), .int a1] I L (em_i0 I L o) := by
  intro o ho
  refine zMet.of hi (by decide +kernel) (Nat.le_of_ble_eq_true rfl) (fun p e s m args below meth c hB => ?_)
  refine zr_top (emb := em_i0 I L) (t := fX8_isSafe n a1 I) ?_ ho
  unfold fX8_isSafe
  refine zr_iconst (v := 0) hB (by decide) dX8_isSafe_0 ?_
  refine zr_istore_n (lv' := [(2, .int 0), (0, .ref (ad 50)), (1, .int a1)]) hB rfl (by decide) rfl dX8_isSafe_1 ?_
  refine zr_joins (pcJ := 60) (fun x2 : Unit => []) (fun _ => []) (fun x2 => I) (fun x2 => L) (fun x2 => ?_) (fun K8 hi6 hx7 => ?_)
  · refine zr_iconst (v := 1) hB (by decide) dX8_isSafe_60 ?_
    exact zr_zretC (by decide) hB rfl rfl dX8_isSafe_61
  · refine zr_sub (lv' := (fun s1 : Int32 => [(2, .int s1), (0, .ref (ad 50)), (1, .int a1)]) 0) [0, 1, 2] rfl (zr_loops (fun s1 : Int32 => [(2, .int s1), (0, .ref (ad 50)), (1, .int a1)]) (fun s1 => I) (fun s1 => L) (fun x2 : Unit => []) (fun x2 => I) (fun x2 => L) hi6 hx7 (fun s1 K9 hc3 hi5 hx4 => ?_) n 0)
    unfold gX8_isSafe_2
    refine zr_iload_n hB 0 rfl rfl dX8_isSafe_2 ?_
    refine zr_aload_n hB 1 rfl rfl dX8_isSafe_3 ?_
    refine zr_get_X8 (w := 50) (k := 0) (v := .ref (ad 51)) hB rfl (by decide) rfl lf_X8_9 rfl dX8_isSafe_4 ?_
    refine zr_bipush (v := 12) hB (by decide) dX8_isSafe_7 ?_
    refine zr_iaload hB zA_51 dX8_isSafe_9 ?_
    refine zr_icmp_ge (tgt := 60) hB (by decide) dX8_isSafe_10 ?_ ?_
    · exact zr_sub [] rfl (hx4 ())
    · refine zr_iconst (v := 0) hB (by decide) dX8_isSafe_13 ?_
      refine zr_istore_n (lv' := [(3, .int 0), (2, .int s1), (0, .ref (ad 50)), (1, .int a1)]) hB rfl (by decide) rfl dX8_isSafe_14 ?_
      refine zr_joins (pcJ := 54) (fun x11 : Unit => [(2, .int s1), (0, .ref (ad 50)), (1, .int a1)]) (fun _ => []) (fun x11 => I) (fun x11 => L) (fun x11 => ?_) (fun K17 hi15 hx16 => ?_)
      · refine zr_iincL hB (j := 0) (n := 1) (w := 1) rfl (by decide) (by decide) dX8_isSafe_54 (fun v24 lv' hlv => ?_)
        obtain rfl : lv' = [(2, .int v24), (0, .ref (ad 50)), (1, .int a1)] := hlv.symm.trans rfl
        refine zr_goto (tgt := 2) hB (by decide) dX8_isSafe_57 ?_
        exact zr_sub [0, 1, 2] rfl (hc3 v24)
      · refine zr_sub (lv' := (fun s10 : Int32 => [(3, .int s10), (2, .int s1), (0, .ref (ad 50)), (1, .int a1)]) 0) [0, 1, 2, 3] rfl (zr_loops (fun s10 : Int32 => [(3, .int s10), (2, .int s1), (0, .ref (ad 50)), (1, .int a1)]) (fun s10 => I) (fun s10 => L) (fun x11 : Unit => [(2, .int s1), (0, .ref (ad 50)), (1, .int a1)]) (fun x11 => I) (fun x11 => L) hi15 hx16 (fun s10 K18 hc12 hi14 hx13 => ?_) n 0)
        unfold gX8_isSafe_15
        refine zr_iload_n hB 0 rfl rfl dX8_isSafe_15 ?_
        refine zr_aload_n hB 2 rfl rfl dX8_isSafe_16 ?_
        refine zr_get_X8 (w := 50) (k := 0) (v := .ref (ad 51)) hB rfl (by decide) rfl lf_X8_9 rfl dX8_isSafe_17 ?_
        refine zr_bipush (v := 11) hB (by decide) dX8_isSafe_20 ?_
        refine zr_iaload hB zA_51 dX8_isSafe_22 ?_
        refine zr_icmp_ge (tgt := 54) hB (by decide) dX8_isSafe_23 ?_ ?_
        · exact zr_sub [1, 2, 3] rfl (hx13 ())
        · refine zr_aload_n hB 2 rfl rfl dX8_isSafe_26 ?_
          refine zr_iload_n hB 1 rfl rfl dX8_isSafe_27 ?_
          refine zr_iload_n hB 0 rfl rfl dX8_isSafe_28 ?_
          refine zr_iload_n hB 3 rfl rfl dX8_isSafe_29 ?_
          refine zr_callV (st := []) (C := RX8) (As := [.int s1, .int s10, .int a1]) (embc := em_i0 I L) hB (mX8_canCarry (sK := sK) (sV := sV) hi s1 s10 a1 I L) (zW_X8 rfl) rfl rfl lm_X8_129 q2_X8_canCarry q3_X8_canCarry q4_X8 q5_X8_canCarry qd_X8_canCarry (by decide) rfl rfl (Nat.le_of_ble_eq_true rfl) ⟨Nat.zero_le _, Nat.zero_le _⟩ dX8_isSafe_30 (zr_ki0 (fun o20 => ?_))
          refine zr_ifne (tgt := 46) hB (by decide) dX8_isSafe_33 ?_ ?_
          · refine zr_iconst (v := 0) hB (by decide) dX8_isSafe_46 ?_
            refine hi14 _ _ _ _ _ _ ?_
            refine hi5 _ _ _ _ _ _ ?_
            exact zr_zretC (by decide) hB rfl rfl dX8_isSafe_47
          · refine zr_aload_n hB 2 rfl rfl dX8_isSafe_36 ?_
            refine zr_iload_n hB 1 rfl rfl dX8_isSafe_37 ?_
            refine zr_iload_n hB 0 rfl rfl dX8_isSafe_38 ?_
            refine zr_iload_n hB 3 rfl rfl dX8_isSafe_39 ?_
            refine zr_callV (st := []) (C := RX8) (As := [.int s1, .int s10, .int a1]) (embc := em_i0 I L) hB (mX8_canReach (sK := sK) (sV := sV) hi s1 s10 a1 I L) (zW_X8 rfl) rfl rfl lm_X8_140 q2_X8_canReach q3_X8_canReach q4_X8 q5_X8_canReach qd_X8_canReach (by decide) rfl rfl (Nat.le_of_ble_eq_true rfl) ⟨Nat.zero_le _, Nat.zero_le _⟩ dX8_isSafe_40 (zr_ki0 (fun o22 => ?_))
            refine zr_ifeq (tgt := 48) hB (by decide) dX8_isSafe_43 ?_ ?_
            · refine zr_iincL hB (j := 0) (n := 1) (w := 1) rfl (by decide) (by decide) dX8_isSafe_48 (fun v23 lv' hlv => ?_)
              obtain rfl : lv' = [(3, .int v23), (2, .int s1), (0, .ref (ad 50)), (1, .int a1)] := hlv.symm.trans rfl
              refine zr_goto (tgt := 15) hB (by decide) dX8_isSafe_51 ?_
              exact zr_sub [0, 1, 2, 3] rfl (hc12 v23)
            · refine zr_iconst (v := 0) hB (by decide) dX8_isSafe_46 ?_
              refine hi14 _ _ _ _ _ _ ?_
              refine hi5 _ _ _ _ _ _ ?_
              exact zr_zretC (by decide) hB rfl rfl dX8_isSafe_47

