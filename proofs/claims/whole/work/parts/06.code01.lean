def fX6_canLift (w : Nat) (a1 : Int32) (a2 : Int32) (I : zI) : Option (Int32) :=
  zb (fX6_roomOf w a1 I) fun o2 =>
  if o2 = (I w 1) then
    zb (fX6_levelOf w a2 I) fun o4 =>
    zb (fX6_levelOf w a1 I) fun o6 =>
    if o4 = (o6 + 1) then
      some 1
    else
    some 0
  else
  some 0
set_option maxHeartbeats 4000000 in
set_option maxRecDepth 100000 in
theorem mX6_canLift {l : Launch} {D : va_G} {T : zT} {ad sK sV : Nat → Nat} (hi : zInj ad) (w : Nat) (a1 : Int32) (a2 : Int32) (hw : zO_X6 w) (I : zI) (L : zL) : ∀ o, fX6_canLift w a1 a2 I = some o → zMet l yX6_canLift cX6_canLift 3 (some .boolean) 1 21 D T ad sK sV [.ref (ad w), .int a1, .int a2] I L (em_i0 I L o) := by
  intro o ho
  refine zMet.of hi (by decide +kernel) (Nat.le_of_ble_eq_true rfl) (fun p e s m args below meth c hB => ?_)
  refine zr_top (emb := em_i0 I L) (t := fX6_canLift w a1 a2 I) ?_ ho
  unfold fX6_canLift
  refine zr_aload_n hB 0 rfl rfl dX6_canLift_0 ?_
  refine zr_iload_n hB 1 rfl rfl dX6_canLift_1 ?_
  refine zr_callV (st := []) (C := RX6) (As := [.int a1]) (embc := em_i0 I L) hB (mX6_roomOf (sK := sK) (sV := sV) hi w a1 hw I L) (zW_X6 hw) rfl rfl lm_X6_92 q2_X6_roomOf q3_X6_roomOf q4_X6 q5_X6_roomOf qd_X6_roomOf (by decide) rfl rfl (Nat.le_of_ble_eq_true rfl) ⟨Nat.zero_le _, Nat.zero_le _⟩ dX6_canLift_2 (zr_ki0 (fun o2 => ?_))
  refine zr_aload_n hB 0 rfl rfl dX6_canLift_5 ?_
  refine zr_get_X6 (w := w) (k := 1) (v := .int (I w 1)) hB hw (by decide) rfl lf_X6_15 rfl dX6_canLift_6 ?_
  refine zr_icmp_ne (tgt := 31) hB (by decide) dX6_canLift_9 ?_ ?_
  · refine zr_iconst (v := 0) hB (by decide) dX6_canLift_31 ?_
    exact zr_zretC (by decide) hB rfl rfl dX6_canLift_32
  · refine zr_aload_n hB 0 rfl rfl dX6_canLift_12 ?_
    refine zr_iload_n hB 2 rfl rfl dX6_canLift_13 ?_
    refine zr_callV (st := []) (C := RX6) (As := [.int a2]) (embc := em_i0 I L) hB (mX6_levelOf (sK := sK) (sV := sV) hi w a2 hw I L) (zW_X6 hw) rfl rfl lm_X6_84 q2_X6_levelOf q3_X6_levelOf q4_X6 q5_X6_levelOf qd_X6_levelOf (by decide) rfl rfl (Nat.le_of_ble_eq_true rfl) ⟨Nat.zero_le _, Nat.zero_le _⟩ dX6_canLift_14 (zr_ki0 (fun o4 => ?_))
    refine zr_aload_n hB 0 rfl rfl dX6_canLift_17 ?_
    refine zr_iload_n hB 1 rfl rfl dX6_canLift_18 ?_
    refine zr_callV (st := [.int o4]) (C := RX6) (As := [.int a1]) (embc := em_i0 I L) hB (mX6_levelOf (sK := sK) (sV := sV) hi w a1 hw I L) (zW_X6 hw) rfl rfl lm_X6_84 q2_X6_levelOf q3_X6_levelOf q4_X6 q5_X6_levelOf qd_X6_levelOf (by decide) rfl rfl (Nat.le_of_ble_eq_true rfl) ⟨Nat.zero_le _, Nat.zero_le _⟩ dX6_canLift_19 (zr_ki0 (fun o6 => ?_))
    refine zr_iconst (v := 1) hB (by decide) dX6_canLift_22 ?_
    refine zr_iadd hB dX6_canLift_23 ?_
    refine zr_icmp_ne (tgt := 31) hB (by decide) dX6_canLift_24 ?_ ?_
    · refine zr_iconst (v := 0) hB (by decide) dX6_canLift_31 ?_
      exact zr_zretC (by decide) hB rfl rfl dX6_canLift_32
    · refine zr_iconst (v := 1) hB (by decide) dX6_canLift_27 ?_
      refine zr_goto (tgt := 32) hB (by decide) dX6_canLift_28 ?_
      exact zr_zretC (by decide) hB rfl rfl dX6_canLift_32

def fX7_lift (a1 : Int32) (a2 : Int32) (a3 : Int32) (I : zI) : Option (Int32 × zI) :=
  zb (fX7_isOne a1 I) fun o2 =>
  if o2 = 0 then
    zb (fX7_finding (-1000001) I) fun o5 =>
    some (o5.1, o5.2)
  else
  zb (fX7_isOne a2 I) fun o7 =>
  if o7 = 0 then
    zb (fX7_finding (-1000001) I) fun o10 =>
    some (o10.1, o10.2)
  else
  if a1 = a2 then
    zb (fX7_finding (-1000001) I) fun o13 =>
    some (o13.1, o13.2)
  else
  zb (fX7_isRoom a3) fun o15 =>
  if o15 = 0 then
    zb (fX7_finding (-1000001) I) fun o32 =>
    some (o32.1, o32.2)
  else
  zb (fX6_canLift 1 a1 a2 I) fun o17 =>
  if o17 = 0 then
    zb (fX7_finding (-1000005) I) fun o20 =>
    some (o20.1, o20.2)
  else
  zb (fX6_roomOf 1 a2 I) fun o22 =>
  if o22 = a3 then
    zb (fX7_finding (-1000005) I) fun o29 =>
    some (o29.1, o29.2)
  else
  zb (fX6_moveTo 1 a2 a3 I) fun o25 =>
  zl (zup o25 1 11 ((o25 1 11) + 1)) fun J26 =>
  some (J26 1 11, J26)
set_option maxHeartbeats 4000000 in
set_option maxRecDepth 100000 in
theorem mX7_lift {l : Launch} {D : va_G} {T : zT} {ad sK sV : Nat → Nat} (hi : zInj ad) (a1 : Int32) (a2 : Int32) (a3 : Int32)  (I : zI) (L : zL) : ∀ o, fX7_lift a1 a2 a3 I = some o → zMet l yX7_lift cX7_lift 4 (some .int) 2 44 D T ad sK sV [.ref (ad 0), .int a1, .int a2, .int a3] I L (em_iI L o) := by
  intro o ho
  refine zMet.of hi (by decide +kernel) (Nat.le_of_ble_eq_true rfl) (fun p e s m args below meth c hB => ?_)
  refine zr_top (emb := em_iI L) (t := fX7_lift a1 a2 a3 I) ?_ ho
  unfold fX7_lift
  refine zr_aload_n hB 0 rfl rfl dX7_lift_0 ?_
  refine zr_iload_n hB 1 rfl rfl dX7_lift_1 ?_
  refine zr_callV (st := []) (C := RX7) (As := [.int a1]) (embc := em_i0 I L) hB (mX7_isOne (sK := sK) (sV := sV) hi a1 I L) (zW_X7 rfl) rfl rfl lm_X7_109 q2_X7_isOne q3_X7_isOne q4_X7 q5_X7_isOne qd_X7_isOne (by decide) rfl rfl (Nat.le_of_ble_eq_true rfl) ⟨Nat.zero_le _, Nat.zero_le _⟩ dX7_lift_2 (zr_ki0 (fun o2 => ?_))
  refine zr_ifeq (tgt := 28) hB (by decide) dX7_lift_5 ?_ ?_
  · refine zr_aload_n hB 0 rfl rfl dX7_lift_28 ?_
    refine zr_ldc (v := (-1000001)) hB lk_X7_55 dX7_lift_29 ?_
    refine zr_callV (st := []) (C := RX7) (As := [.int (-1000001)]) (embc := em_iI L) hB (mX7_finding (sK := sK) (sV := sV) hi (-1000001) I L) (zW_X7 rfl) rfl rfl lm_X7_56 q2_X7_finding q3_X7_finding q4_X7 q5_X7_finding qd_X7_finding (by decide) rfl rfl (Nat.le_of_ble_eq_true rfl) ⟨Nat.zero_le _, Nat.zero_le _⟩ dX7_lift_31 (zr_kiI (fun o5 => ?_))
    exact zr_iret hB rfl rfl dX7_lift_34
  · refine zr_aload_n hB 0 rfl rfl dX7_lift_8 ?_
    refine zr_iload_n hB 2 rfl rfl dX7_lift_9 ?_
    refine zr_callV (st := []) (C := RX7) (As := [.int a2]) (embc := em_i0 I L) hB (mX7_isOne (sK := sK) (sV := sV) hi a2 I L) (zW_X7 rfl) rfl rfl lm_X7_109 q2_X7_isOne q3_X7_isOne q4_X7 q5_X7_isOne qd_X7_isOne (by decide) rfl rfl (Nat.le_of_ble_eq_true rfl) ⟨Nat.zero_le _, Nat.zero_le _⟩ dX7_lift_10 (zr_ki0 (fun o7 => ?_))
    refine zr_ifeq (tgt := 28) hB (by decide) dX7_lift_13 ?_ ?_
    · refine zr_aload_n hB 0 rfl rfl dX7_lift_28 ?_
      refine zr_ldc (v := (-1000001)) hB lk_X7_55 dX7_lift_29 ?_
      refine zr_callV (st := []) (C := RX7) (As := [.int (-1000001)]) (embc := em_iI L) hB (mX7_finding (sK := sK) (sV := sV) hi (-1000001) I L) (zW_X7 rfl) rfl rfl lm_X7_56 q2_X7_finding q3_X7_finding q4_X7 q5_X7_finding qd_X7_finding (by decide) rfl rfl (Nat.le_of_ble_eq_true rfl) ⟨Nat.zero_le _, Nat.zero_le _⟩ dX7_lift_31 (zr_kiI (fun o10 => ?_))
      exact zr_iret hB rfl rfl dX7_lift_34
    · refine zr_iload_n hB 1 rfl rfl dX7_lift_16 ?_
      refine zr_iload_n hB 2 rfl rfl dX7_lift_17 ?_
      refine zr_icmp_eq (tgt := 28) hB (by decide) dX7_lift_18 ?_ ?_
      · refine zr_aload_n hB 0 rfl rfl dX7_lift_28 ?_
        refine zr_ldc (v := (-1000001)) hB lk_X7_55 dX7_lift_29 ?_
        refine zr_callV (st := []) (C := RX7) (As := [.int (-1000001)]) (embc := em_iI L) hB (mX7_finding (sK := sK) (sV := sV) hi (-1000001) I L) (zW_X7 rfl) rfl rfl lm_X7_56 q2_X7_finding q3_X7_finding q4_X7 q5_X7_finding qd_X7_finding (by decide) rfl rfl (Nat.le_of_ble_eq_true rfl) ⟨Nat.zero_le _, Nat.zero_le _⟩ dX7_lift_31 (zr_kiI (fun o13 => ?_))
        exact zr_iret hB rfl rfl dX7_lift_34
      · refine zr_iload_n hB 3 rfl rfl dX7_lift_21 ?_
        refine zr_callS (st := []) (As := [.int a3]) (embc := em_i0 I L) hB (mX7_isRoom (sK := sK) (sV := sV) hi a3 I L) lm_X7_47 q2_X7_isRoom q4_X7 q5_X7_isRoom qd_X7_isRoom (by decide) rfl rfl (Nat.le_of_ble_eq_true rfl) ⟨Nat.zero_le _, Nat.zero_le _⟩ dX7_lift_22 (zr_ki0 (fun o15 => ?_))
        refine zr_ifne (tgt := 35) hB (by decide) dX7_lift_25 ?_ ?_
        · refine zr_aload_n hB 0 rfl rfl dX7_lift_35 ?_
          refine zr_get_X7 (w := 0) (k := 0) (v := .ref (ad 1)) hB rfl (by decide) rfl lf_X7_12 rfl dX7_lift_36 ?_
          refine zr_iload_n hB 1 rfl rfl dX7_lift_39 ?_
          refine zr_iload_n hB 2 rfl rfl dX7_lift_40 ?_
          refine zr_callV (st := []) (C := RX6) (As := [.int a1, .int a2]) (embc := em_i0 I L) hB (mX6_canLift (sK := sK) (sV := sV) hi 1 a1 a2 (Or.inl rfl) I L) (zW_X6 (Or.inl rfl)) rfl rfl lm_X7_156 q2_X6_canLift q3_X6_canLift q4_X6 q5_X6_canLift qd_X6_canLift (by decide) rfl rfl (Nat.le_of_ble_eq_true rfl) ⟨Nat.zero_le _, Nat.zero_le _⟩ dX7_lift_41 (zr_ki0 (fun o17 => ?_))
          refine zr_ifeq (tgt := 59) hB (by decide) dX7_lift_44 ?_ ?_
          · refine zr_aload_n hB 0 rfl rfl dX7_lift_59 ?_
            refine zr_ldc (v := (-1000005)) hB lk_X7_124 dX7_lift_60 ?_
            refine zr_callV (st := []) (C := RX7) (As := [.int (-1000005)]) (embc := em_iI L) hB (mX7_finding (sK := sK) (sV := sV) hi (-1000005) I L) (zW_X7 rfl) rfl rfl lm_X7_56 q2_X7_finding q3_X7_finding q4_X7 q5_X7_finding qd_X7_finding (by decide) rfl rfl (Nat.le_of_ble_eq_true rfl) ⟨Nat.zero_le _, Nat.zero_le _⟩ dX7_lift_62 (zr_kiI (fun o20 => ?_))
            exact zr_iret hB rfl rfl dX7_lift_65
          · refine zr_aload_n hB 0 rfl rfl dX7_lift_47 ?_
            refine zr_get_X7 (w := 0) (k := 0) (v := .ref (ad 1)) hB rfl (by decide) rfl lf_X7_12 rfl dX7_lift_48 ?_
            refine zr_iload_n hB 2 rfl rfl dX7_lift_51 ?_
            refine zr_callV (st := []) (C := RX6) (As := [.int a2]) (embc := em_i0 I L) hB (mX6_roomOf (sK := sK) (sV := sV) hi 1 a2 (Or.inl rfl) I L) (zW_X6 (Or.inl rfl)) rfl rfl lm_X7_121 q2_X6_roomOf q3_X6_roomOf q4_X6 q5_X6_roomOf qd_X6_roomOf (by decide) rfl rfl (Nat.le_of_ble_eq_true rfl) ⟨Nat.zero_le _, Nat.zero_le _⟩ dX7_lift_52 (zr_ki0 (fun o22 => ?_))
            refine zr_iload_n hB 3 rfl rfl dX7_lift_55 ?_
            refine zr_icmp_ne (tgt := 66) hB (by decide) dX7_lift_56 ?_ ?_
            · refine zr_aload_n hB 0 rfl rfl dX7_lift_66 ?_
              refine zr_get_X7 (w := 0) (k := 0) (v := .ref (ad 1)) hB rfl (by decide) rfl lf_X7_12 rfl dX7_lift_67 ?_
              refine zr_iload_n hB 2 rfl rfl dX7_lift_70 ?_
              refine zr_iload_n hB 3 rfl rfl dX7_lift_71 ?_
              refine zr_callV (st := []) (C := RX6) (As := [.int a2, .int a3]) (embc := em_vI L) hB (mX6_moveTo (sK := sK) (sV := sV) hi 1 a2 a3 (Or.inl rfl) I L) (zW_X6 (Or.inl rfl)) rfl rfl lm_X7_125 q2_X6_moveTo q3_X6_moveTo q4_X6 q5_X6_moveTo qd_X6_moveTo (by decide) rfl rfl (Nat.le_of_ble_eq_true rfl) ⟨Nat.zero_le _, Nat.zero_le _⟩ dX7_lift_72 (zr_kvI (fun o25 => ?_))
              refine zr_aload_n hB 0 rfl rfl dX7_lift_75 ?_
              refine zr_get_X7 (w := 0) (k := 0) (v := .ref (ad 1)) hB rfl (by decide) rfl lf_X7_12 rfl dX7_lift_76 ?_
              refine zr_dup hB rfl dX7_lift_79 ?_
              refine zr_get_X6 (w := 1) (k := 11) (v := .int (o25 1 11)) hB (Or.inl rfl) (by decide) rfl lf_X7_159 rfl dX7_lift_80 ?_
              refine zr_iconst (v := 1) hB (by decide) dX7_lift_83 ?_
              refine zr_iadd hB dX7_lift_84 ?_
              refine zr_put_X6 (w := 1) (k := 11) hB (Or.inl rfl) (by decide) rfl rfl rfl lf_X7_159 rfl dX7_lift_85 ?_
              refine zr_letM (fun J26 => ?_)
              refine zr_aload_n hB 0 rfl rfl dX7_lift_88 ?_
              refine zr_get_X7 (w := 0) (k := 0) (v := .ref (ad 1)) hB rfl (by decide) rfl lf_X7_12 rfl dX7_lift_89 ?_
              refine zr_get_X6 (w := 1) (k := 11) (v := .int (J26 1 11)) hB (Or.inl rfl) (by decide) rfl lf_X7_159 rfl dX7_lift_92 ?_
              exact zr_iret hB rfl rfl dX7_lift_95
            · refine zr_aload_n hB 0 rfl rfl dX7_lift_59 ?_
              refine zr_ldc (v := (-1000005)) hB lk_X7_124 dX7_lift_60 ?_
              refine zr_callV (st := []) (C := RX7) (As := [.int (-1000005)]) (embc := em_iI L) hB (mX7_finding (sK := sK) (sV := sV) hi (-1000005) I L) (zW_X7 rfl) rfl rfl lm_X7_56 q2_X7_finding q3_X7_finding q4_X7 q5_X7_finding qd_X7_finding (by decide) rfl rfl (Nat.le_of_ble_eq_true rfl) ⟨Nat.zero_le _, Nat.zero_le _⟩ dX7_lift_62 (zr_kiI (fun o29 => ?_))
              exact zr_iret hB rfl rfl dX7_lift_65
        · refine zr_aload_n hB 0 rfl rfl dX7_lift_28 ?_
          refine zr_ldc (v := (-1000001)) hB lk_X7_55 dX7_lift_29 ?_
          refine zr_callV (st := []) (C := RX7) (As := [.int (-1000001)]) (embc := em_iI L) hB (mX7_finding (sK := sK) (sV := sV) hi (-1000001) I L) (zW_X7 rfl) rfl rfl lm_X7_56 q2_X7_finding q3_X7_finding q4_X7 q5_X7_finding qd_X7_finding (by decide) rfl rfl (Nat.le_of_ble_eq_true rfl) ⟨Nat.zero_le _, Nat.zero_le _⟩ dX7_lift_31 (zr_kiI (fun o32 => ?_))
          exact zr_iret hB rfl rfl dX7_lift_34

def fX7_now (a1 : Int32) (I : zI) : Option (Int32 × zI) :=
  if a1 = 0 then
    some (I 1 11, I)
  else
  if a1 = 1 then
    some (I 1 15, I)
  else
  if a1 = 2 then
    some (I 1 1, I)
  else
  if a1 = 3 then
    some (I 1 2, I)
  else
  if a1 = 4 then
    some (I 1 3, I)
  else
  if a1 = 5 then
    some (I 1 12, I)
  else
  if a1 = 6 then
    some (I 1 13, I)
  else
  zb (fX7_finding (-1000001) I) fun o3 =>
  some (o3.1, o3.2)
set_option maxHeartbeats 4000000 in
set_option maxRecDepth 100000 in
theorem mX7_now {l : Launch} {D : va_G} {T : zT} {ad sK sV : Nat → Nat} (hi : zInj ad) (a1 : Int32)  (I : zI) (L : zL) : ∀ o, fX7_now a1 I = some o → zMet l yX7_now cX7_now 2 (some .int) 2 44 D T ad sK sV [.ref (ad 0), .int a1] I L (em_iI L o) := by
  intro o ho
  refine zMet.of hi (by decide +kernel) (Nat.le_of_ble_eq_true rfl) (fun p e s m args below meth c hB => ?_)
  refine zr_top (emb := em_iI L) (t := fX7_now a1 I) ?_ ho
  unfold fX7_now
  refine zr_iload_n hB 1 rfl rfl dX7_now_0 ?_
  refine zr_case (fun q1_0 => ?_) (fun q1_0 => ?_)
  · refine zr_tsIn (tgt := 44) (v := 0) hB q1_0 dX7_now_1 (by decide) (by decide) rfl (by decide) ?_
    refine zr_aload_n hB 0 rfl rfl dX7_now_44 ?_
    refine zr_get_X7 (w := 0) (k := 0) (v := .ref (ad 1)) hB rfl (by decide) rfl lf_X7_12 rfl dX7_now_45 ?_
    refine zr_get_X6 (w := 1) (k := 11) (v := .int (I 1 11)) hB (Or.inl rfl) (by decide) rfl lf_X7_159 rfl dX7_now_48 ?_
    exact zr_iret hB rfl rfl dX7_now_51
  · refine zr_case (fun q1_1 => ?_) (fun q1_1 => ?_)
    · refine zr_tsIn (tgt := 52) (v := 1) hB q1_1 dX7_now_1 (by decide) (by decide) rfl (by decide) ?_
      refine zr_aload_n hB 0 rfl rfl dX7_now_52 ?_
      refine zr_get_X7 (w := 0) (k := 0) (v := .ref (ad 1)) hB rfl (by decide) rfl lf_X7_12 rfl dX7_now_53 ?_
      refine zr_get_X6 (w := 1) (k := 15) (v := .int (I 1 15)) hB (Or.inl rfl) (by decide) rfl lf_X7_162 rfl dX7_now_56 ?_
      exact zr_iret hB rfl rfl dX7_now_59
    · refine zr_case (fun q1_2 => ?_) (fun q1_2 => ?_)
      · refine zr_tsIn (tgt := 60) (v := 2) hB q1_2 dX7_now_1 (by decide) (by decide) rfl (by decide) ?_
        refine zr_aload_n hB 0 rfl rfl dX7_now_60 ?_
        refine zr_get_X7 (w := 0) (k := 0) (v := .ref (ad 1)) hB rfl (by decide) rfl lf_X7_12 rfl dX7_now_61 ?_
        refine zr_get_X6 (w := 1) (k := 1) (v := .int (I 1 1)) hB (Or.inl rfl) (by decide) rfl lf_X7_165 rfl dX7_now_64 ?_
        exact zr_iret hB rfl rfl dX7_now_67
      · refine zr_case (fun q1_3 => ?_) (fun q1_3 => ?_)
        · refine zr_tsIn (tgt := 68) (v := 3) hB q1_3 dX7_now_1 (by decide) (by decide) rfl (by decide) ?_
          refine zr_aload_n hB 0 rfl rfl dX7_now_68 ?_
          refine zr_get_X7 (w := 0) (k := 0) (v := .ref (ad 1)) hB rfl (by decide) rfl lf_X7_12 rfl dX7_now_69 ?_
          refine zr_get_X6 (w := 1) (k := 2) (v := .int (I 1 2)) hB (Or.inl rfl) (by decide) rfl lf_X7_168 rfl dX7_now_72 ?_
          exact zr_iret hB rfl rfl dX7_now_75
        · refine zr_case (fun q1_4 => ?_) (fun q1_4 => ?_)
          · refine zr_tsIn (tgt := 76) (v := 4) hB q1_4 dX7_now_1 (by decide) (by decide) rfl (by decide) ?_
            refine zr_aload_n hB 0 rfl rfl dX7_now_76 ?_
            refine zr_get_X7 (w := 0) (k := 0) (v := .ref (ad 1)) hB rfl (by decide) rfl lf_X7_12 rfl dX7_now_77 ?_
            refine zr_get_X6 (w := 1) (k := 3) (v := .int (I 1 3)) hB (Or.inl rfl) (by decide) rfl lf_X7_171 rfl dX7_now_80 ?_
            exact zr_iret hB rfl rfl dX7_now_83
          · refine zr_case (fun q1_5 => ?_) (fun q1_5 => ?_)
            · refine zr_tsIn (tgt := 84) (v := 5) hB q1_5 dX7_now_1 (by decide) (by decide) rfl (by decide) ?_
              refine zr_aload_n hB 0 rfl rfl dX7_now_84 ?_
              refine zr_get_X7 (w := 0) (k := 0) (v := .ref (ad 1)) hB rfl (by decide) rfl lf_X7_12 rfl dX7_now_85 ?_
              refine zr_get_X6 (w := 1) (k := 12) (v := .int (I 1 12)) hB (Or.inl rfl) (by decide) rfl lf_X7_174 rfl dX7_now_88 ?_
              exact zr_iret hB rfl rfl dX7_now_91
            · refine zr_case (fun q1_6 => ?_) (fun q1_6 => ?_)
              · refine zr_tsIn (tgt := 92) (v := 6) hB q1_6 dX7_now_1 (by decide) (by decide) rfl (by decide) ?_
                refine zr_aload_n hB 0 rfl rfl dX7_now_92 ?_
                refine zr_get_X7 (w := 0) (k := 0) (v := .ref (ad 1)) hB rfl (by decide) rfl lf_X7_12 rfl dX7_now_93 ?_
                refine zr_get_X6 (w := 1) (k := 13) (v := .int (I 1 13)) hB (Or.inl rfl) (by decide) rfl lf_X7_177 rfl dX7_now_96 ?_
                exact zr_iret hB rfl rfl dX7_now_99
              · refine zr_tsOut (tgt := 100) hB dX7_now_1 (by have h0 := lv_neT q1_0 (show (0 : Int32).toInt = 0 from rfl); have h1 := lv_neT q1_1 (show (1 : Int32).toInt = 1 from rfl); have h2 := lv_neT q1_2 (show (2 : Int32).toInt = 2 from rfl); have h3 := lv_neT q1_3 (show (3 : Int32).toInt = 3 from rfl); have h4 := lv_neT q1_4 (show (4 : Int32).toInt = 4 from rfl); have h5 := lv_neT q1_5 (show (5 : Int32).toInt = 5 from rfl); have h6 := lv_neT q1_6 (show (6 : Int32).toInt = 6 from rfl); omega) (by decide) ?_
                refine zr_aload_n hB 0 rfl rfl dX7_now_100 ?_
                refine zr_ldc (v := (-1000001)) hB lk_X7_55 dX7_now_101 ?_
                refine zr_callV (st := []) (C := RX7) (As := [.int (-1000001)]) (embc := em_iI L) hB (mX7_finding (sK := sK) (sV := sV) hi (-1000001) I L) (zW_X7 rfl) rfl rfl lm_X7_56 q2_X7_finding q3_X7_finding q4_X7 q5_X7_finding qd_X7_finding (by decide) rfl rfl (Nat.le_of_ble_eq_true rfl) ⟨Nat.zero_le _, Nat.zero_le _⟩ dX7_now_103 (zr_kiI (fun o3 => ?_))
                exact zr_iret hB rfl rfl dX7_now_106

def fX7_book (a1 : Int32) (a2 : Int32) (I : zI) : Option (Int32 × zI) :=
  if a1 < 0 then
    zb (fX7_finding (-1000001) I) fun o3 =>
    some (o3.1, o3.2)
  else
  zb (fX7_isWithin a2 0 4) fun o5 =>
  if o5 = 0 then
    zb (fX7_finding (-1000001) I) fun o11 =>
    some (o11.1, o11.2)
  else
  if a1 < (I 1 13) then
    zg ((a1 * 5) + a2) 60 (
    some (I 8 (zn ((a1 * 5) + a2)), I))
  else
  zb (fX7_finding (-1000004) I) fun o8 =>
  some (o8.1, o8.2)
set_option maxHeartbeats 4000000 in
set_option maxRecDepth 100000 in
theorem mX7_book {l : Launch} {D : va_G} {T : zT} {ad sK sV : Nat → Nat} (hi : zInj ad) (a1 : Int32) (a2 : Int32)  (I : zI) (L : zL) : ∀ o, fX7_book a1 a2 I = some o → zMet l yX7_book cX7_book 3 (some .int) 2 44 D T ad sK sV [.ref (ad 0), .int a1, .int a2] I L (em_iI L o) := by
  intro o ho
  refine zMet.of hi (by decide +kernel) (Nat.le_of_ble_eq_true rfl) (fun p e s m args below meth c hB => ?_)
  refine zr_top (emb := em_iI L) (t := fX7_book a1 a2 I) ?_ ho
  unfold fX7_book
  refine zr_iload_n hB 1 rfl rfl dX7_book_0 ?_
  refine zr_iflt (tgt := 13) hB (by decide) dX7_book_1 ?_ ?_
  · refine zr_aload_n hB 0 rfl rfl dX7_book_13 ?_
    refine zr_ldc (v := (-1000001)) hB lk_X7_55 dX7_book_14 ?_
    refine zr_callV (st := []) (C := RX7) (As := [.int (-1000001)]) (embc := em_iI L) hB (mX7_finding (sK := sK) (sV := sV) hi (-1000001) I L) (zW_X7 rfl) rfl rfl lm_X7_56 q2_X7_finding q3_X7_finding q4_X7 q5_X7_finding qd_X7_finding (by decide) rfl rfl (Nat.le_of_ble_eq_true rfl) ⟨Nat.zero_le _, Nat.zero_le _⟩ dX7_book_16 (zr_kiI (fun o3 => ?_))
    exact zr_iret hB rfl rfl dX7_book_19
  · refine zr_iload_n hB 2 rfl rfl dX7_book_4 ?_
    refine zr_iconst (v := 0) hB (by decide) dX7_book_5 ?_
    refine zr_iconst (v := 4) hB (by decide) dX7_book_6 ?_
    refine zr_callS (st := []) (As := [.int a2, .int 0, .int 4]) (embc := em_i0 I L) hB (mX7_isWithin (sK := sK) (sV := sV) hi a2 0 4 I L) lm_X7_51 q2_X7_isWithin q4_X7 q5_X7_isWithin qd_X7_isWithin (by decide) rfl rfl (Nat.le_of_ble_eq_true rfl) ⟨Nat.zero_le _, Nat.zero_le _⟩ dX7_book_7 (zr_ki0 (fun o5 => ?_))
    refine zr_ifne (tgt := 20) hB (by decide) dX7_book_10 ?_ ?_
    · refine zr_iload_n hB 1 rfl rfl dX7_book_20 ?_
      refine zr_aload_n hB 0 rfl rfl dX7_book_21 ?_
      refine zr_get_X7 (w := 0) (k := 0) (v := .ref (ad 1)) hB rfl (by decide) rfl lf_X7_12 rfl dX7_book_22 ?_
      refine zr_get_X6 (w := 1) (k := 13) (v := .int (I 1 13)) hB (Or.inl rfl) (by decide) rfl lf_X7_177 rfl dX7_book_25 ?_
      refine zr_icmp_lt (tgt := 38) hB (by decide) dX7_book_28 ?_ ?_
      · refine zr_aload_n hB 0 rfl rfl dX7_book_38 ?_
        refine zr_get_X7 (w := 0) (k := 0) (v := .ref (ad 1)) hB rfl (by decide) rfl lf_X7_12 rfl dX7_book_39 ?_
        refine zr_get_X6 (w := 1) (k := 14) (v := .ref (ad 8)) hB (Or.inl rfl) (by decide) rfl lf_X7_181 rfl dX7_book_42 ?_
        refine zr_iload_n hB 1 rfl rfl dX7_book_45 ?_
        refine zr_iconst (v := 5) hB (by decide) dX7_book_46 ?_
        refine zr_imul hB dX7_book_47 ?_
        refine zr_iload_n hB 2 rfl rfl dX7_book_48 ?_
        refine zr_iadd hB dX7_book_49 ?_
        refine zr_iaload hB zA_8 dX7_book_50 ?_
        exact zr_iret hB rfl rfl dX7_book_51
      · refine zr_aload_n hB 0 rfl rfl dX7_book_31 ?_
        refine zr_ldc (v := (-1000004)) hB lk_X7_180 dX7_book_32 ?_
        refine zr_callV (st := []) (C := RX7) (As := [.int (-1000004)]) (embc := em_iI L) hB (mX7_finding (sK := sK) (sV := sV) hi (-1000004) I L) (zW_X7 rfl) rfl rfl lm_X7_56 q2_X7_finding q3_X7_finding q4_X7 q5_X7_finding qd_X7_finding (by decide) rfl rfl (Nat.le_of_ble_eq_true rfl) ⟨Nat.zero_le _, Nat.zero_le _⟩ dX7_book_34 (zr_kiI (fun o8 => ?_))
        exact zr_iret hB rfl rfl dX7_book_37
    · refine zr_aload_n hB 0 rfl rfl dX7_book_13 ?_
      refine zr_ldc (v := (-1000001)) hB lk_X7_55 dX7_book_14 ?_
      refine zr_callV (st := []) (C := RX7) (As := [.int (-1000001)]) (embc := em_iI L) hB (mX7_finding (sK := sK) (sV := sV) hi (-1000001) I L) (zW_X7 rfl) rfl rfl lm_X7_56 q2_X7_finding q3_X7_finding q4_X7 q5_X7_finding qd_X7_finding (by decide) rfl rfl (Nat.le_of_ble_eq_true rfl) ⟨Nat.zero_le _, Nat.zero_le _⟩ dX7_book_16 (zr_kiI (fun o11 => ?_))
      exact zr_iret hB rfl rfl dX7_book_19

def gX6_nextPlaces_5 (w : Nat) (a1 : Int64) (I : zI) (s1 : Int64 × Int32) : Option ((Int64 × Int32) ⊕ (Int64)) :=
  if 8 ≤ s1.2 then
    some (.inr s1.1)
  else
  zg s1.2 8 (
  zl (s1.1 ||| (((zushrL a1 s1.2) &&& 4311810305) * ((I (w + 1) (zn s1.2)).toInt64))) fun v10 =>
  zl (s1.2 + 1) fun v11 =>
  some (.inl (v10, v11)))
def fX6_nextPlaces (n : Nat) (w : Nat) (a1 : Int64) (I : zI) : Option (Int64) :=
  zb (zit (gX6_nextPlaces_5 w a1 I) n (0, 0)) fun x2 : Int64 =>
  zl (x2 ||| (zshlL ((zushrL a1 (I w 1)) &&& 16843009) (8 + (I w 2)))) fun v12 =>
  zl (v12 ||| (zshlL (zushrL ((zushrL a1 (I w 2)) &&& 4311810305) 8) (I w 1))) fun v13 =>
  some v13
set_option maxHeartbeats 4000000 in
set_option maxRecDepth 100000 in
theorem mX6_nextPlaces {l : Launch} {D : va_G} {T : zT} {ad sK sV : Nat → Nat} (hi : zInj ad) (n : Nat) (w : Nat) (a1 : Int64) (hw : zO_X6 w) (I : zI) (L : zL) : ∀ o, fX6_nextPlaces n w a1 I = some o → zMet l yX6_nextPlaces cX6_nextPlaces 6 (some .long) 0 0 D T ad sK sV [.ref (ad w), .long a1] I L (em_l0 I L o) := by
  intro o ho
  refine zMet.of hi (by decide +kernel) (Nat.le_of_ble_eq_true rfl) (fun p e s m args below meth c hB => ?_)
  refine zr_top (emb := em_l0 I L) (t := fX6_nextPlaces n w a1 I) ?_ ho
  unfold fX6_nextPlaces
  refine zr_lconst (v := 0) hB (by decide) dX6_nextPlaces_0 ?_
  refine zr_lstore_n (lv' := [(3, .long 0), (0, .ref (ad w)), (1, .long a1)]) hB rfl (by decide) rfl dX6_nextPlaces_1 ?_
  refine zr_iconst (v := 0) hB (by decide) dX6_nextPlaces_2 ?_
  refine zr_istore (lv' := [(5, .int 0), (3, .long 0), (0, .ref (ad w)), (1, .long a1)]) hB (by decide) rfl dX6_nextPlaces_3 ?_
  refine zr_join (pcJ := 38) (fun x2 : Int64 => [(3, .long x2), (0, .ref (ad w)), (1, .long a1)]) (fun _ => []) (fun x2 => I) (fun x2 => L) (fun x2 => ?_) (fun K8 hx7 => ?_)
  · refine zr_lload_n hB 0 rfl rfl dX6_nextPlaces_38 ?_
    refine zr_lload_n hB 2 rfl rfl dX6_nextPlaces_39 ?_
    refine zr_aload_n hB 1 rfl rfl dX6_nextPlaces_40 ?_
    refine zr_get_X6 (w := w) (k := 1) (v := .int (I w 1)) hB hw (by decide) rfl lf_X6_15 rfl dX6_nextPlaces_41 ?_
    refine zr_lushr hB dX6_nextPlaces_44 ?_
    refine zr_ldc2 (v := 16843009) hB lj_X6_90 dX6_nextPlaces_45 ?_
    refine zr_land hB dX6_nextPlaces_48 ?_
    refine zr_bipush (v := 8) hB (by decide) dX6_nextPlaces_49 ?_
    refine zr_aload_n hB 1 rfl rfl dX6_nextPlaces_51 ?_
    refine zr_get_X6 (w := w) (k := 2) (v := .int (I w 2)) hB hw (by decide) rfl lf_X6_49 rfl dX6_nextPlaces_52 ?_
    refine zr_iadd hB dX6_nextPlaces_55 ?_
    refine zr_lshl hB dX6_nextPlaces_56 ?_
    refine zr_lor hB dX6_nextPlaces_57 ?_
    refine zr_letL (fun v12 => ?_)
    refine zr_lstore_n (lv' := [(3, .long v12), (0, .ref (ad w)), (1, .long a1)]) hB rfl (by decide) rfl dX6_nextPlaces_58 ?_
    refine zr_lload_n hB 0 rfl rfl dX6_nextPlaces_59 ?_
    refine zr_lload_n hB 2 rfl rfl dX6_nextPlaces_60 ?_
    refine zr_aload_n hB 1 rfl rfl dX6_nextPlaces_61 ?_
    refine zr_get_X6 (w := w) (k := 2) (v := .int (I w 2)) hB hw (by decide) rfl lf_X6_49 rfl dX6_nextPlaces_62 ?_
    refine zr_lushr hB dX6_nextPlaces_65 ?_
    refine zr_ldc2 (v := 4311810305) hB lj_X6_88 dX6_nextPlaces_66 ?_
    refine zr_land hB dX6_nextPlaces_69 ?_
    refine zr_bipush (v := 8) hB (by decide) dX6_nextPlaces_70 ?_
    refine zr_lushr hB dX6_nextPlaces_72 ?_
    refine zr_aload_n hB 1 rfl rfl dX6_nextPlaces_73 ?_
    refine zr_get_X6 (w := w) (k := 1) (v := .int (I w 1)) hB hw (by decide) rfl lf_X6_15 rfl dX6_nextPlaces_74 ?_
    refine zr_lshl hB dX6_nextPlaces_77 ?_
    refine zr_lor hB dX6_nextPlaces_78 ?_
    refine zr_letL (fun v13 => ?_)
    refine zr_lstore_n (lv' := [(3, .long v13), (0, .ref (ad w)), (1, .long a1)]) hB rfl (by decide) rfl dX6_nextPlaces_79 ?_
    refine zr_lload_n hB 0 rfl rfl dX6_nextPlaces_80 ?_
    exact zr_lret hB rfl rfl dX6_nextPlaces_81
  · refine zr_sub (lv' := (fun s1 : Int64 × Int32 => [(3, .long s1.1), (5, .int s1.2), (0, .ref (ad w)), (1, .long a1)]) (0, 0)) [1, 0, 2, 3] rfl (zr_loop (fun s1 : Int64 × Int32 => [(3, .long s1.1), (5, .int s1.2), (0, .ref (ad w)), (1, .long a1)]) (fun s1 => I) (fun s1 => L) (fun x2 : Int64 => [(3, .long x2), (0, .ref (ad w)), (1, .long a1)]) (fun x2 => I) (fun x2 => L) hx7 (fun s1 K9 hc3 hx4 => ?_) n (0, 0))
    unfold gX6_nextPlaces_5
    refine zr_iload hB 1 rfl dX6_nextPlaces_5 ?_
    refine zr_bipush (v := 8) hB (by decide) dX6_nextPlaces_7 ?_
    refine zr_icmp_ge (tgt := 38) hB (by decide) dX6_nextPlaces_9 ?_ ?_
    · exact zr_sub [0, 2, 3] rfl (hx4 s1.1)
    · refine zr_lload_n hB 0 rfl rfl dX6_nextPlaces_12 ?_
      refine zr_lload_n hB 3 rfl rfl dX6_nextPlaces_13 ?_
      refine zr_iload hB 1 rfl dX6_nextPlaces_14 ?_
      refine zr_lushr hB dX6_nextPlaces_16 ?_
      refine zr_ldc2 (v := 4311810305) hB lj_X6_88 dX6_nextPlaces_17 ?_
      refine zr_land hB dX6_nextPlaces_20 ?_
      refine zr_aload_n hB 2 rfl rfl dX6_nextPlaces_21 ?_
      refine zr_get_X6 (w := w) (k := 0) (v := .ref (ad (w + 1))) hB hw (by decide) rfl lf_X6_9 rfl dX6_nextPlaces_22 ?_
      refine zr_iload hB 1 rfl dX6_nextPlaces_25 ?_
      refine zr_iaload hB (zA_X6_1 hw) dX6_nextPlaces_27 ?_
      refine zr_i2l hB dX6_nextPlaces_28 ?_
      refine zr_lmul hB dX6_nextPlaces_29 ?_
      refine zr_lor hB dX6_nextPlaces_30 ?_
      refine zr_letL (fun v10 => ?_)
      refine zr_lstore_n (lv' := [(3, .long v10), (5, .int s1.2), (0, .ref (ad w)), (1, .long a1)]) hB rfl (by decide) rfl dX6_nextPlaces_31 ?_
      refine zr_iincL hB (j := 1) (n := 1) (w := 1) rfl (by decide) (by decide) dX6_nextPlaces_32 (fun v11 lv' hlv => ?_)
      obtain rfl : lv' = [(5, .int v11), (3, .long v10), (0, .ref (ad w)), (1, .long a1)] := hlv.symm.trans rfl
      refine zr_goto (tgt := 5) hB (by decide) dX6_nextPlaces_35 ?_
      exact zr_sub [1, 0, 2, 3] rfl (hc3 (v10, v11))

def gX1_placesFrom_10 (n : Nat) (a1 : Nat) (I : zI) (s2 : Int64 × Int64 × Int32) : Option ((Int64 × Int64 × Int32) ⊕ (Int64)) :=
  if 40 ≤ s2.2.2 then
    some (.inr s2.1)
  else
  if (lg_cmp s2.2.1 0) = 0 then
    some (.inr s2.1)
  else
  zb (fX6_nextPlaces n a1 s2.2.1 I) fun o12 =>
  zl (o12 &&& (s2.1 ^^^ (-1))) fun v13 =>
  zl (s2.1 ||| v13) fun v14 =>
  zl (s2.2.2 + 1) fun v15 =>
  some (.inl (v14, v13, v15))
def fX1_placesFrom (n : Nat) (a1 : Nat) (a2 : Int32) (I : zI) : Option (Int64) :=
  zl (zshlL 1 a2) fun v1 =>
  zb (zit (gX1_placesFrom_10 n a1 I) n (v1, v1, 0)) fun x3 : Int64 =>
  some x3
set_option maxHeartbeats 4000000 in
set_option maxRecDepth 100000 in
theorem mX1_placesFrom {l : Launch} {D : va_G} {T : zT} {ad sK sV : Nat → Nat} (hi : zInj ad) (n : Nat) (a1 : Nat) (a2 : Int32) (ha1 : zO_X6 a1) (I : zI) (L : zL) : ∀ o, fX1_placesFrom n a1 a2 I = some o → zMet l yX1_placesFrom cX1_placesFrom 8 (some .long) 1 25 D T ad sK sV [.ref (ad 28), .ref (ad a1), .int a2] I L (em_l0 I L o) := by
  intro o ho
  refine zMet.of hi (by decide +kernel) (Nat.le_of_ble_eq_true rfl) (fun p e s m args below meth c hB => ?_)
  refine zr_top (emb := em_l0 I L) (t := fX1_placesFrom n a1 a2 I) ?_ ho
  unfold fX1_placesFrom
  refine zr_lconst (v := 1) hB (by decide) dX1_placesFrom_0 ?_
  refine zr_iload_n hB 2 rfl rfl dX1_placesFrom_1 ?_
  refine zr_lshl hB dX1_placesFrom_2 ?_
  refine zr_letL (fun v1 => ?_)
  refine zr_lstore_n (lv' := [(3, .long v1), (0, .ref (ad 28)), (1, .ref (ad a1)), (2, .int a2)]) hB rfl (by decide) rfl dX1_placesFrom_3 ?_
  refine zr_lload_n hB 0 rfl rfl dX1_placesFrom_4 ?_
  refine zr_lstore (lv' := [(5, .long v1), (3, .long v1), (0, .ref (ad 28)), (1, .ref (ad a1)), (2, .int a2)]) hB (by decide) rfl dX1_placesFrom_5 ?_
  refine zr_iconst (v := 0) hB (by decide) dX1_placesFrom_7 ?_
  refine zr_istore (lv' := [(7, .int 0), (5, .long v1), (3, .long v1), (0, .ref (ad 28)), (1, .ref (ad a1)), (2, .int a2)]) hB (by decide) rfl dX1_placesFrom_8 ?_
  refine zr_join (pcJ := 49) (fun x3 : Int64 => [(3, .long x3)]) (fun _ => []) (fun x3 => I) (fun x3 => L) (fun x3 => ?_) (fun K9 hx8 => ?_)
  · refine zr_lload_n hB 0 rfl rfl dX1_placesFrom_49 ?_
    exact zr_lret hB rfl rfl dX1_placesFrom_50
  · refine zr_sub (lv' := (fun s2 : Int64 × Int64 × Int32 => [(3, .long s2.1), (5, .long s2.2.1), (7, .int s2.2.2), (1, .ref (ad a1))]) (v1, v1, 0)) [2, 1, 0, 4] rfl (zr_loop (fun s2 : Int64 × Int64 × Int32 => [(3, .long s2.1), (5, .long s2.2.1), (7, .int s2.2.2), (1, .ref (ad a1))]) (fun s2 => I) (fun s2 => L) (fun x3 : Int64 => [(3, .long x3)]) (fun x3 => I) (fun x3 => L) hx8 (fun s2 K10 hc4 hx5 => ?_) n (v1, v1, 0))
    unfold gX1_placesFrom_10
    refine zr_iload hB 2 rfl dX1_placesFrom_10 ?_
    refine zr_bipush (v := 40) hB (by decide) dX1_placesFrom_12 ?_
    refine zr_icmp_ge (tgt := 49) hB (by decide) dX1_placesFrom_14 ?_ ?_
    · exact zr_sub [0] rfl (hx5 s2.1)
    · refine zr_lload hB 1 rfl dX1_placesFrom_17 ?_
      refine zr_lconst (v := 0) hB (by decide) dX1_placesFrom_19 ?_
      refine zr_lcmp hB dX1_placesFrom_20 ?_
      refine zr_ifeq (tgt := 49) hB (by decide) dX1_placesFrom_21 ?_ ?_
      · exact zr_sub [0] rfl (hx5 s2.1)
      · refine zr_aload_n hB 3 rfl rfl dX1_placesFrom_24 ?_
        refine zr_lload hB 1 rfl dX1_placesFrom_25 ?_
        refine zr_callV (st := []) (C := RX6) (As := [.long s2.2.1]) (embc := em_l0 I L) hB (mX6_nextPlaces (sK := sK) (sV := sV) hi n a1 s2.2.1 ha1 I L) (zW_X6 ha1) rfl rfl lm_X1_25 q2_X6_nextPlaces q3_X6_nextPlaces q4_X6 q5_X6_nextPlaces qd_X6_nextPlaces (by decide) rfl rfl (Nat.le_of_ble_eq_true rfl) ⟨Nat.zero_le _, Nat.zero_le _⟩ dX1_placesFrom_27 (zr_kl0 (fun o12 => ?_))
        refine zr_lload_n hB 0 rfl rfl dX1_placesFrom_30 ?_
        refine zr_ldc2 (v := (-1)) hB lj_X1_31 dX1_placesFrom_31 ?_
        refine zr_lxor hB dX1_placesFrom_34 ?_
        refine zr_land hB dX1_placesFrom_35 ?_
        refine zr_letL (fun v13 => ?_)
        refine zr_lstore (lv' := [(5, .long v13), (3, .long s2.1), (7, .int s2.2.2), (1, .ref (ad a1))]) hB (by decide) rfl dX1_placesFrom_36 ?_
        refine zr_lload_n hB 1 rfl rfl dX1_placesFrom_38 ?_
        refine zr_lload hB 0 rfl dX1_placesFrom_39 ?_
        refine zr_lor hB dX1_placesFrom_41 ?_
        refine zr_letL (fun v14 => ?_)
        refine zr_lstore_n (lv' := [(3, .long v14), (5, .long v13), (7, .int s2.2.2), (1, .ref (ad a1))]) hB rfl (by decide) rfl dX1_placesFrom_42 ?_
        refine zr_iincL hB (j := 2) (n := 1) (w := 1) rfl (by decide) (by decide) dX1_placesFrom_43 (fun v15 lv' hlv => ?_)
        obtain rfl : lv' = [(7, .int v15), (3, .long v14), (5, .long v13), (1, .ref (ad a1))] := hlv.symm.trans rfl
        refine zr_goto (tgt := 10) hB (by decide) dX1_placesFrom_46 ?_
        exact zr_sub [1, 2, 0, 3] rfl (hc4 (v14, v13, v15))

def fX7_ways (n : Nat) (a1 : Int32) (I : zI) : Option (Int64 × zI) :=
  zb (fX7_isOne a1 I) fun o2 =>
  if o2 = 0 then
    zb (fX7_finding (-1000001) I) fun o7 =>
    some (o7.1.toInt64, o7.2)
  else
  zg a1 4 (
  zb (fX1_placesFrom n 1 (I 6 (zn a1)) I) fun o4 =>
  some (o4, I))
set_option maxHeartbeats 4000000 in
set_option maxRecDepth 100000 in
theorem mX7_ways {l : Launch} {D : va_G} {T : zT} {ad sK sV : Nat → Nat} (hi : zInj ad) (n : Nat) (a1 : Int32)  (I : zI) (L : zL) : ∀ o, fX7_ways n a1 I = some o → zMet l yX7_ways cX7_ways 2 (some .long) 2 52 D T ad sK sV [.ref (ad 0), .int a1] I L (em_lI L o) := by
  intro o ho
  refine zMet.of hi (by decide +kernel) (Nat.le_of_ble_eq_true rfl) (fun p e s m args below meth c hB => ?_)
  refine zr_top (emb := em_lI L) (t := fX7_ways n a1 I) ?_ ho
  unfold fX7_ways
  refine zr_aload_n hB 0 rfl rfl dX7_ways_0 ?_
  refine zr_iload_n hB 1 rfl rfl dX7_ways_1 ?_
  refine zr_callV (st := []) (C := RX7) (As := [.int a1]) (embc := em_i0 I L) hB (mX7_isOne (sK := sK) (sV := sV) hi a1 I L) (zW_X7 rfl) rfl rfl lm_X7_109 q2_X7_isOne q3_X7_isOne q4_X7 q5_X7_isOne qd_X7_isOne (by decide) rfl rfl (Nat.le_of_ble_eq_true rfl) ⟨Nat.zero_le _, Nat.zero_le _⟩ dX7_ways_2 (zr_ki0 (fun o2 => ?_))
  refine zr_ifne (tgt := 16) hB (by decide) dX7_ways_5 ?_ ?_
  · refine zr_aload_n hB 0 rfl rfl dX7_ways_16 ?_
    refine zr_get_X7 (w := 0) (k := 4) (v := .ref (ad 28)) hB rfl (by decide) rfl lf_X7_25 rfl dX7_ways_17 ?_
    refine zr_aload_n hB 0 rfl rfl dX7_ways_20 ?_
    refine zr_get_X7 (w := 0) (k := 0) (v := .ref (ad 1)) hB rfl (by decide) rfl lf_X7_12 rfl dX7_ways_21 ?_
    refine zr_aload_n hB 0 rfl rfl dX7_ways_24 ?_
    refine zr_get_X7 (w := 0) (k := 0) (v := .ref (ad 1)) hB rfl (by decide) rfl lf_X7_12 rfl dX7_ways_25 ?_
    refine zr_get_X6 (w := 1) (k := 9) (v := .ref (ad 6)) hB (Or.inl rfl) (by decide) rfl lf_X7_129 rfl dX7_ways_28 ?_
    refine zr_iload_n hB 1 rfl rfl dX7_ways_31 ?_
    refine zr_iaload hB zA_6 dX7_ways_32 ?_
    refine zr_callV (st := []) (C := RX1) (As := [.ref (ad 1), .int (I 6 (zn a1))]) (embc := em_l0 I L) hB (mX1_placesFrom (sK := sK) (sV := sV) hi n 1 (I 6 (zn a1)) (Or.inl rfl) I L) (zW_X1 rfl) rfl rfl lm_X7_184 q2_X1_placesFrom q3_X1_placesFrom q4_X1 q5_X1_placesFrom qd_X1_placesFrom (by decide) rfl rfl (Nat.le_of_ble_eq_true rfl) ⟨Nat.zero_le _, Nat.zero_le _⟩ dX7_ways_33 (zr_kl0 (fun o4 => ?_))
    exact zr_lret hB rfl rfl dX7_ways_36
  · refine zr_aload_n hB 0 rfl rfl dX7_ways_8 ?_
    refine zr_ldc (v := (-1000001)) hB lk_X7_55 dX7_ways_9 ?_
    refine zr_callV (st := []) (C := RX7) (As := [.int (-1000001)]) (embc := em_iI L) hB (mX7_finding (sK := sK) (sV := sV) hi (-1000001) I L) (zW_X7 rfl) rfl rfl lm_X7_56 q2_X7_finding q3_X7_finding q4_X7 q5_X7_finding qd_X7_finding (by decide) rfl rfl (Nat.le_of_ble_eq_true rfl) ⟨Nat.zero_le _, Nat.zero_le _⟩ dX7_ways_11 (zr_kiI (fun o7 => ?_))
    refine zr_i2l hB dX7_ways_14 ?_
    exact zr_lret hB rfl rfl dX7_ways_15

def gX1_stepsTo_12 (n : Nat) (a1 : Nat) (a3 : Int32) (I : zI) (s2 : Int64 × Int64 × Int32) : Option ((Int64 × Int64 × Int32) ⊕ ((Int32) ⊕ (Unit))) :=
  if 40 ≤ s2.2.2 then
    some (.inr (.inr ()))
  else
  if (lg_cmp s2.2.1 0) = 0 then
    some (.inr (.inr ()))
  else
  if (lg_cmp ((zushrL s2.2.1 a3) &&& 1) 1) = 0 then
    some (.inr (.inl s2.2.2))
  else
  zb (fX6_nextPlaces n a1 s2.2.1 I) fun o12 =>
  zl (o12 &&& (s2.1 ^^^ (-1))) fun v13 =>
  zl (s2.1 ||| v13) fun v14 =>
  zl (s2.2.2 + 1) fun v15 =>
  some (.inl (v14, v13, v15))
def fX1_stepsTo (n : Nat) (a1 : Nat) (a2 : Int32) (a3 : Int32) (I : zI) : Option (Int32) :=
  zl (zshlL 1 a2) fun v1 =>
  zbs (zit (gX1_stepsTo_12 n a1 a3 I) n (v1, v1, 0)) fun x3 : Unit =>
  some (-1)
set_option maxHeartbeats 4000000 in
set_option maxRecDepth 100000 in
theorem mX1_stepsTo {l : Launch} {D : va_G} {T : zT} {ad sK sV : Nat → Nat} (hi : zInj ad) (n : Nat) (a1 : Nat) (a2 : Int32) (a3 : Int32) (ha1 : zO_X6 a1) (I : zI) (L : zL) : ∀ o, fX1_stepsTo n a1 a2 a3 I = some o → zMet l yX1_stepsTo cX1_stepsTo 9 (some .int) 1 25 D T ad sK sV [.ref (ad 28), .ref (ad a1), .int a2, .int a3] I L (em_i0 I L o) := by
  intro o ho
  refine zMet.of hi (by decide +kernel) (Nat.le_of_ble_eq_true rfl) (fun p e s m args below meth c hB => ?_)
  refine zr_top (emb := em_i0 I L) (t := fX1_stepsTo n a1 a2 a3 I) ?_ ho
  unfold fX1_stepsTo
  refine zr_lconst (v := 1) hB (by decide) dX1_stepsTo_0 ?_
  refine zr_iload_n hB 2 rfl rfl dX1_stepsTo_1 ?_
  refine zr_lshl hB dX1_stepsTo_2 ?_
  refine zr_letL (fun v1 => ?_)
  refine zr_lstore (lv' := [(4, .long v1), (0, .ref (ad 28)), (1, .ref (ad a1)), (2, .int a2), (3, .int a3)]) hB (by decide) rfl dX1_stepsTo_3 ?_
  refine zr_lload hB 0 rfl dX1_stepsTo_5 ?_
  refine zr_lstore (lv' := [(6, .long v1), (4, .long v1), (0, .ref (ad 28)), (1, .ref (ad a1)), (2, .int a2), (3, .int a3)]) hB (by decide) rfl dX1_stepsTo_7 ?_
  refine zr_iconst (v := 0) hB (by decide) dX1_stepsTo_9 ?_
  refine zr_istore (lv' := [(8, .int 0), (6, .long v1), (4, .long v1), (0, .ref (ad 28)), (1, .ref (ad a1)), (2, .int a2), (3, .int a3)]) hB (by decide) rfl dX1_stepsTo_10 ?_
  refine zr_joins (pcJ := 68) (fun x3 : Unit => []) (fun _ => []) (fun x3 => I) (fun x3 => L) (fun x3 => ?_) (fun K9 hi7 hx8 => ?_)
  · refine zr_iconst (v := (-1)) hB (by decide) dX1_stepsTo_68 ?_
    exact zr_iret hB rfl rfl dX1_stepsTo_69
  · refine zr_sub (lv' := (fun s2 : Int64 × Int64 × Int32 => [(4, .long s2.1), (6, .long s2.2.1), (8, .int s2.2.2), (1, .ref (ad a1)), (3, .int a3)]) (v1, v1, 0)) [2, 1, 0, 4, 6] rfl (zr_loops (fun s2 : Int64 × Int64 × Int32 => [(4, .long s2.1), (6, .long s2.2.1), (8, .int s2.2.2), (1, .ref (ad a1)), (3, .int a3)]) (fun s2 => I) (fun s2 => L) (fun x3 : Unit => []) (fun x3 => I) (fun x3 => L) hi7 hx8 (fun s2 K10 hc4 hi6 hx5 => ?_) n (v1, v1, 0))
    unfold gX1_stepsTo_12
    refine zr_iload hB 2 rfl dX1_stepsTo_12 ?_
    refine zr_bipush (v := 40) hB (by decide) dX1_stepsTo_14 ?_
    refine zr_icmp_ge (tgt := 68) hB (by decide) dX1_stepsTo_16 ?_ ?_
    · exact zr_sub [] rfl (hx5 ())
    · refine zr_lload hB 1 rfl dX1_stepsTo_19 ?_
      refine zr_lconst (v := 0) hB (by decide) dX1_stepsTo_21 ?_
      refine zr_lcmp hB dX1_stepsTo_22 ?_
      refine zr_ifeq (tgt := 68) hB (by decide) dX1_stepsTo_23 ?_ ?_
      · exact zr_sub [] rfl (hx5 ())
      · refine zr_lload hB 1 rfl dX1_stepsTo_26 ?_
        refine zr_iload_n hB 4 rfl rfl dX1_stepsTo_28 ?_
        refine zr_lushr hB dX1_stepsTo_29 ?_
        refine zr_lconst (v := 1) hB (by decide) dX1_stepsTo_30 ?_
        refine zr_land hB dX1_stepsTo_31 ?_
        refine zr_lconst (v := 1) hB (by decide) dX1_stepsTo_32 ?_
        refine zr_lcmp hB dX1_stepsTo_33 ?_
        refine zr_ifne (tgt := 40) hB (by decide) dX1_stepsTo_34 ?_ ?_
        · refine zr_aload_n hB 3 rfl rfl dX1_stepsTo_40 ?_
          refine zr_lload hB 1 rfl dX1_stepsTo_41 ?_
          refine zr_callV (st := []) (C := RX6) (As := [.long s2.2.1]) (embc := em_l0 I L) hB (mX6_nextPlaces (sK := sK) (sV := sV) hi n a1 s2.2.1 ha1 I L) (zW_X6 ha1) rfl rfl lm_X1_25 q2_X6_nextPlaces q3_X6_nextPlaces q4_X6 q5_X6_nextPlaces qd_X6_nextPlaces (by decide) rfl rfl (Nat.le_of_ble_eq_true rfl) ⟨Nat.zero_le _, Nat.zero_le _⟩ dX1_stepsTo_43 (zr_kl0 (fun o12 => ?_))
          refine zr_lload hB 0 rfl dX1_stepsTo_46 ?_
          refine zr_ldc2 (v := (-1)) hB lj_X1_31 dX1_stepsTo_48 ?_
          refine zr_lxor hB dX1_stepsTo_51 ?_
          refine zr_land hB dX1_stepsTo_52 ?_
          refine zr_letL (fun v13 => ?_)
          refine zr_lstore (lv' := [(6, .long v13), (4, .long s2.1), (8, .int s2.2.2), (1, .ref (ad a1)), (3, .int a3)]) hB (by decide) rfl dX1_stepsTo_53 ?_
          refine zr_lload hB 1 rfl dX1_stepsTo_55 ?_
          refine zr_lload hB 0 rfl dX1_stepsTo_57 ?_
          refine zr_lor hB dX1_stepsTo_59 ?_
          refine zr_letL (fun v14 => ?_)
          refine zr_lstore (lv' := [(4, .long v14), (6, .long v13), (8, .int s2.2.2), (1, .ref (ad a1)), (3, .int a3)]) hB (by decide) rfl dX1_stepsTo_60 ?_
          refine zr_iincL hB (j := 2) (n := 1) (w := 1) rfl (by decide) (by decide) dX1_stepsTo_62 (fun v15 lv' hlv => ?_)
          obtain rfl : lv' = [(8, .int v15), (4, .long v14), (6, .long v13), (1, .ref (ad a1)), (3, .int a3)] := hlv.symm.trans rfl
          refine zr_goto (tgt := 12) hB (by decide) dX1_stepsTo_65 ?_
          exact zr_sub [1, 2, 0, 3, 4] rfl (hc4 (v14, v13, v15))
        · refine zr_iload hB 2 rfl dX1_stepsTo_37 ?_
          refine hi6 _ _ _ _ _ _ ?_
          exact zr_iret hB rfl rfl dX1_stepsTo_39

def fX7_foundOrNone (a1 : Int32) (I : zI) : Option (Int32 × zI) :=
  if a1 = (-1) then
    zb (fX7_finding (-1000004) I) fun o3 =>
    some (o3.1, o3.2)
  else
  some (a1, I)
set_option maxHeartbeats 4000000 in
set_option maxRecDepth 100000 in
theorem mX7_foundOrNone {l : Launch} {D : va_G} {T : zT} {ad sK sV : Nat → Nat} (hi : zInj ad) (a1 : Int32)  (I : zI) (L : zL) : ∀ o, fX7_foundOrNone a1 I = some o → zMet l yX7_foundOrNone cX7_foundOrNone 2 (some .int) 2 44 D T ad sK sV [.ref (ad 0), .int a1] I L (em_iI L o) := by
  intro o ho
  refine zMet.of hi (by decide +kernel) (Nat.le_of_ble_eq_true rfl) (fun p e s m args below meth c hB => ?_)
  refine zr_top (emb := em_iI L) (t := fX7_foundOrNone a1 I) ?_ ho
  unfold fX7_foundOrNone
  refine zr_iload_n hB 1 rfl rfl dX7_foundOrNone_0 ?_
  refine zr_iconst (v := (-1)) hB (by decide) dX7_foundOrNone_1 ?_
  refine zr_icmp_ne (tgt := 14) hB (by decide) dX7_foundOrNone_2 ?_ ?_
  · refine zr_iload_n hB 1 rfl rfl dX7_foundOrNone_14 ?_
    exact zr_iret hB rfl rfl dX7_foundOrNone_15
  · refine zr_aload_n hB 0 rfl rfl dX7_foundOrNone_5 ?_
    refine zr_ldc (v := (-1000004)) hB lk_X7_180 dX7_foundOrNone_6 ?_
    refine zr_callV (st := []) (C := RX7) (As := [.int (-1000004)]) (embc := em_iI L) hB (mX7_finding (sK := sK) (sV := sV) hi (-1000004) I L) (zW_X7 rfl) rfl rfl lm_X7_56 q2_X7_finding q3_X7_finding q4_X7 q5_X7_finding qd_X7_finding (by decide) rfl rfl (Nat.le_of_ble_eq_true rfl) ⟨Nat.zero_le _, Nat.zero_le _⟩ dX7_foundOrNone_8 (zr_kiI (fun o3 => ?_))
    refine zr_goto (tgt := 15) hB (by decide) dX7_foundOrNone_11 ?_
    exact zr_iret hB rfl rfl dX7_foundOrNone_15

def fX7_far (n : Nat) (a1 : Int32) (a2 : Int32) (I : zI) : Option (Int32 × zI) :=
  zb (fX7_isOne a1 I) fun o2 =>
  if o2 = 0 then
    zb (fX7_finding (-1000001) I) fun o5 =>
    some (o5.1, o5.2)
  else
  zb (fX7_isPlace a2) fun o7 =>
  if o7 = 0 then
    zb (fX7_finding (-1000001) I) fun o15 =>
    some (o15.1, o15.2)
  else
  zg a1 4 (
  zb (fX1_stepsTo n 1 (I 6 (zn a1)) a2 I) fun o9 =>
  zb (fX7_foundOrNone o9 I) fun o12 =>
  some (o12.1, o12.2))
set_option maxHeartbeats 4000000 in
set_option maxRecDepth 100000 in
theorem mX7_far {l : Launch} {D : va_G} {T : zT} {ad sK sV : Nat → Nat} (hi : zInj ad) (n : Nat) (a1 : Int32) (a2 : Int32)  (I : zI) (L : zL) : ∀ o, fX7_far n a1 a2 I = some o → zMet l yX7_far cX7_far 3 (some .int) 3 65 D T ad sK sV [.ref (ad 0), .int a1, .int a2] I L (em_iI L o) := by
  intro o ho
  refine zMet.of hi (by decide +kernel) (Nat.le_of_ble_eq_true rfl) (fun p e s m args below meth c hB => ?_)
  refine zr_top (emb := em_iI L) (t := fX7_far n a1 a2 I) ?_ ho
  unfold fX7_far
  refine zr_aload_n hB 0 rfl rfl dX7_far_0 ?_
  refine zr_iload_n hB 1 rfl rfl dX7_far_1 ?_
  refine zr_callV (st := []) (C := RX7) (As := [.int a1]) (embc := em_i0 I L) hB (mX7_isOne (sK := sK) (sV := sV) hi a1 I L) (zW_X7 rfl) rfl rfl lm_X7_109 q2_X7_isOne q3_X7_isOne q4_X7 q5_X7_isOne qd_X7_isOne (by decide) rfl rfl (Nat.le_of_ble_eq_true rfl) ⟨Nat.zero_le _, Nat.zero_le _⟩ dX7_far_2 (zr_ki0 (fun o2 => ?_))
  refine zr_ifeq (tgt := 15) hB (by decide) dX7_far_5 ?_ ?_
  · refine zr_aload_n hB 0 rfl rfl dX7_far_15 ?_
    refine zr_ldc (v := (-1000001)) hB lk_X7_55 dX7_far_16 ?_
    refine zr_callV (st := []) (C := RX7) (As := [.int (-1000001)]) (embc := em_iI L) hB (mX7_finding (sK := sK) (sV := sV) hi (-1000001) I L) (zW_X7 rfl) rfl rfl lm_X7_56 q2_X7_finding q3_X7_finding q4_X7 q5_X7_finding qd_X7_finding (by decide) rfl rfl (Nat.le_of_ble_eq_true rfl) ⟨Nat.zero_le _, Nat.zero_le _⟩ dX7_far_18 (zr_kiI (fun o5 => ?_))
    exact zr_iret hB rfl rfl dX7_far_21
  · refine zr_iload_n hB 2 rfl rfl dX7_far_8 ?_
    refine zr_callS (st := []) (As := [.int a2]) (embc := em_i0 I L) hB (mX7_isPlace (sK := sK) (sV := sV) hi a2 I L) lm_X7_100 q2_X7_isPlace q4_X7 q5_X7_isPlace qd_X7_isPlace (by decide) rfl rfl (Nat.le_of_ble_eq_true rfl) ⟨Nat.zero_le _, Nat.zero_le _⟩ dX7_far_9 (zr_ki0 (fun o7 => ?_))
    refine zr_ifne (tgt := 22) hB (by decide) dX7_far_12 ?_ ?_
    · refine zr_aload_n hB 0 rfl rfl dX7_far_22 ?_
      refine zr_aload_n hB 0 rfl rfl dX7_far_23 ?_
      refine zr_get_X7 (w := 0) (k := 4) (v := .ref (ad 28)) hB rfl (by decide) rfl lf_X7_25 rfl dX7_far_24 ?_
      refine zr_aload_n hB 0 rfl rfl dX7_far_27 ?_
      refine zr_get_X7 (w := 0) (k := 0) (v := .ref (ad 1)) hB rfl (by decide) rfl lf_X7_12 rfl dX7_far_28 ?_
      refine zr_aload_n hB 0 rfl rfl dX7_far_31 ?_
      refine zr_get_X7 (w := 0) (k := 0) (v := .ref (ad 1)) hB rfl (by decide) rfl lf_X7_12 rfl dX7_far_32 ?_
      refine zr_get_X6 (w := 1) (k := 9) (v := .ref (ad 6)) hB (Or.inl rfl) (by decide) rfl lf_X7_129 rfl dX7_far_35 ?_
      refine zr_iload_n hB 1 rfl rfl dX7_far_38 ?_
      refine zr_iaload hB zA_6 dX7_far_39 ?_
      refine zr_iload_n hB 2 rfl rfl dX7_far_40 ?_
      refine zr_callV (st := [.ref (ad 0)]) (C := RX1) (As := [.ref (ad 1), .int (I 6 (zn a1)), .int a2]) (embc := em_i0 I L) hB (mX1_stepsTo (sK := sK) (sV := sV) hi n 1 (I 6 (zn a1)) a2 (Or.inl rfl) I L) (zW_X1 rfl) rfl rfl lm_X7_188 q2_X1_stepsTo q3_X1_stepsTo q4_X1 q5_X1_stepsTo qd_X1_stepsTo (by decide) rfl rfl (Nat.le_of_ble_eq_true rfl) ⟨Nat.zero_le _, Nat.zero_le _⟩ dX7_far_41 (zr_ki0 (fun o9 => ?_))
      refine zr_callV (st := []) (C := RX7) (As := [.int o9]) (embc := em_iI L) hB (mX7_foundOrNone (sK := sK) (sV := sV) hi o9 I L) (zW_X7 rfl) rfl rfl lm_X7_192 q2_X7_foundOrNone q3_X7_foundOrNone q4_X7 q5_X7_foundOrNone qd_X7_foundOrNone (by decide) rfl rfl (Nat.le_of_ble_eq_true rfl) ⟨Nat.zero_le _, Nat.zero_le _⟩ dX7_far_44 (zr_kiI (fun o12 => ?_))
      exact zr_iret hB rfl rfl dX7_far_47
    · refine zr_aload_n hB 0 rfl rfl dX7_far_15 ?_
      refine zr_ldc (v := (-1000001)) hB lk_X7_55 dX7_far_16 ?_
      refine zr_callV (st := []) (C := RX7) (As := [.int (-1000001)]) (embc := em_iI L) hB (mX7_finding (sK := sK) (sV := sV) hi (-1000001) I L) (zW_X7 rfl) rfl rfl lm_X7_56 q2_X7_finding q3_X7_finding q4_X7 q5_X7_finding qd_X7_finding (by decide) rfl rfl (Nat.le_of_ble_eq_true rfl) ⟨Nat.zero_le _, Nat.zero_le _⟩ dX7_far_18 (zr_kiI (fun o15 => ?_))
      exact zr_iret hB rfl rfl dX7_far_21

def gX1_settle_4 (a1 : Int32) (s1 : Int32 × Int32 × zI × zL) : Option ((Int32 × Int32 × zI × zL) ⊕ (Int32 × zI × zL)) :=
  if 8 ≤ s1.2.1 then
    some (.inr (s1.1, s1.2.2.1, s1.2.2.2))
  else
  zg s1.2.1 8 (
  zg s1.2.1 8 (
  zg s1.2.1 8 (
  zl (zupL s1.2.2.2 30 (zn s1.2.1) ((s1.2.2.2 31 (zn s1.2.1)) &&& ((s1.2.2.2 29 (zn s1.2.1)) ^^^ (-1)))) fun N10 =>
  zg s1.2.1 8 (
  zg s1.2.1 8 (
  zg s1.2.1 8 (
  zl (zupL N10 29 (zn s1.2.1) ((N10 29 (zn s1.2.1)) ||| (N10 30 (zn s1.2.1)))) fun N11 =>
  zg s1.2.1 8 (
  zl (zupL N11 31 (zn s1.2.1) 0) fun N12 =>
  zg s1.2.1 8 (
  if (lg_cmp (N12 30 (zn s1.2.1)) 0) = 0 then
    zl (s1.2.1 + 1) fun v13 =>
    some (.inl (s1.1, v13, s1.2.2.1, N12))
  else
  zg s1.2.1 8 (
  if (s1.2.2.1 32 (zn s1.2.1)) = (-1) then
    zg s1.2.1 8 (
    zl (zup s1.2.2.1 32 (zn s1.2.1) a1) fun J15 =>
    zl (s1.2.1 + 1) fun v16 =>
    some (.inl (1, v16, J15, N12)))
  else
  zl (s1.2.1 + 1) fun v14 =>
  some (.inl (1, v14, s1.2.2.1, N12)))))))))))
def fX1_settle (n : Nat) (a1 : Int32) (I : zI) (L : zL) : Option (Int32 × zI × zL) :=
  zb (zit (gX1_settle_4 a1) n (0, 0, I, L)) fun x2 : Int32 × zI × zL =>
  zgb x2.1 (
  some (x2.1, x2.2.1, x2.2.2))
set_option maxHeartbeats 4000000 in
set_option maxRecDepth 100000 in
theorem mX1_settle {l : Launch} {D : va_G} {T : zT} {ad sK sV : Nat → Nat} (hi : zInj ad) (n : Nat) (a1 : Int32)  (I : zI) (L : zL) : ∀ o, fX1_settle n a1 I L = some o → zMet l yX1_settle cX1_settle 4 (some .boolean) 0 0 D T ad sK sV [.ref (ad 28), .int a1] I L (em_iL o) := by
  intro o ho
  refine zMet.of hi (by decide +kernel) (Nat.le_of_ble_eq_true rfl) (fun p e s m args below meth c hB => ?_)
  refine zr_top (emb := em_iL) (t := fX1_settle n a1 I L) ?_ ho
  unfold fX1_settle
  refine zr_iconst (v := 0) hB (by decide) dX1_settle_0 ?_
  refine zr_istore_n (lv' := [(2, .int 0), (0, .ref (ad 28)), (1, .int a1)]) hB rfl (by decide) rfl dX1_settle_1 ?_
  refine zr_iconst (v := 0) hB (by decide) dX1_settle_2 ?_
  refine zr_istore_n (lv' := [(3, .int 0), (2, .int 0), (0, .ref (ad 28)), (1, .int a1)]) hB rfl (by decide) rfl dX1_settle_3 ?_
  refine zr_join (pcJ := 91) (fun x2 : Int32 × zI × zL => [(2, .int x2.1)]) (fun _ => []) (fun x2 => x2.2.1) (fun x2 => x2.2.2) (fun x2 => ?_) (fun K8 hx7 => ?_)
  · refine zr_iload_n hB 0 rfl rfl dX1_settle_91 ?_
    refine zr_gb (fun hv => ?_)
    exact zr_zretC hv hB rfl rfl dX1_settle_92
  · refine zr_sub (lv' := (fun s1 : Int32 × Int32 × zI × zL => [(2, .int s1.1), (3, .int s1.2.1), (0, .ref (ad 28)), (1, .int a1)]) (0, 0, I, L)) [1, 0, 2, 3] rfl (zr_loop (fun s1 : Int32 × Int32 × zI × zL => [(2, .int s1.1), (3, .int s1.2.1), (0, .ref (ad 28)), (1, .int a1)]) (fun s1 => s1.2.2.1) (fun s1 => s1.2.2.2) (fun x2 : Int32 × zI × zL => [(2, .int x2.1)]) (fun x2 => x2.2.1) (fun x2 => x2.2.2) hx7 (fun s1 K9 hc3 hx4 => ?_) n (0, 0, I, L))
    unfold gX1_settle_4
    refine zr_iload_n hB 1 rfl rfl dX1_settle_4 ?_
    refine zr_bipush (v := 8) hB (by decide) dX1_settle_5 ?_
    refine zr_icmp_ge (tgt := 91) hB (by decide) dX1_settle_7 ?_ ?_
    · exact zr_sub [0] rfl (hx4 (s1.1, s1.2.2.1, s1.2.2.2))
    · refine zr_aload_n hB 2 rfl rfl dX1_settle_10 ?_
      refine zr_get_X1 (w := 28) (k := 1) (v := .ref (ad 30)) hB rfl (by decide) rfl lf_X1_15 rfl dX1_settle_11 ?_
      refine zr_iload_n hB 1 rfl rfl dX1_settle_14 ?_
      refine zr_aload_n hB 2 rfl rfl dX1_settle_15 ?_
      refine zr_get_X1 (w := 28) (k := 2) (v := .ref (ad 31)) hB rfl (by decide) rfl lf_X1_18 rfl dX1_settle_16 ?_
      refine zr_iload_n hB 1 rfl rfl dX1_settle_19 ?_
      refine zr_laload hB zA_31 dX1_settle_20 ?_
      refine zr_aload_n hB 2 rfl rfl dX1_settle_21 ?_
      refine zr_get_X1 (w := 28) (k := 0) (v := .ref (ad 29)) hB rfl (by decide) rfl lf_X1_9 rfl dX1_settle_22 ?_
      refine zr_iload_n hB 1 rfl rfl dX1_settle_25 ?_
      refine zr_laload hB zA_29 dX1_settle_26 ?_
      refine zr_ldc2 (v := (-1)) hB lj_X1_31 dX1_settle_27 ?_
      refine zr_lxor hB dX1_settle_30 ?_
      refine zr_land hB dX1_settle_31 ?_
      refine zr_lastore hB zA_30 dX1_settle_32 ?_
      refine zr_letN (fun N10 => ?_)
      refine zr_aload_n hB 2 rfl rfl dX1_settle_33 ?_
      refine zr_get_X1 (w := 28) (k := 0) (v := .ref (ad 29)) hB rfl (by decide) rfl lf_X1_9 rfl dX1_settle_34 ?_
      refine zr_iload_n hB 1 rfl rfl dX1_settle_37 ?_
      refine zr_dup2 hB rfl rfl dX1_settle_38 ?_
      refine zr_laload hB zA_29 dX1_settle_39 ?_
      refine zr_aload_n hB 2 rfl rfl dX1_settle_40 ?_
      refine zr_get_X1 (w := 28) (k := 1) (v := .ref (ad 30)) hB rfl (by decide) rfl lf_X1_15 rfl dX1_settle_41 ?_
      refine zr_iload_n hB 1 rfl rfl dX1_settle_44 ?_
      refine zr_laload hB zA_30 dX1_settle_45 ?_
      refine zr_lor hB dX1_settle_46 ?_
      refine zr_lastore hB zA_29 dX1_settle_47 ?_
      refine zr_letN (fun N11 => ?_)
      refine zr_aload_n hB 2 rfl rfl dX1_settle_48 ?_
      refine zr_get_X1 (w := 28) (k := 2) (v := .ref (ad 31)) hB rfl (by decide) rfl lf_X1_18 rfl dX1_settle_49 ?_
      refine zr_iload_n hB 1 rfl rfl dX1_settle_52 ?_
      refine zr_lconst (v := 0) hB (by decide) dX1_settle_53 ?_
      refine zr_lastore hB zA_31 dX1_settle_54 ?_
      refine zr_letN (fun N12 => ?_)
      refine zr_aload_n hB 2 rfl rfl dX1_settle_55 ?_
      refine zr_get_X1 (w := 28) (k := 1) (v := .ref (ad 30)) hB rfl (by decide) rfl lf_X1_15 rfl dX1_settle_56 ?_
      refine zr_iload_n hB 1 rfl rfl dX1_settle_59 ?_
      refine zr_laload hB zA_30 dX1_settle_60 ?_
      refine zr_lconst (v := 0) hB (by decide) dX1_settle_61 ?_
      refine zr_lcmp hB dX1_settle_62 ?_
      refine zr_ifeq (tgt := 85) hB (by decide) dX1_settle_63 ?_ ?_
      · refine zr_iincL hB (j := 1) (n := 1) (w := 1) rfl (by decide) (by decide) dX1_settle_85 (fun v13 lv' hlv => ?_)
        obtain rfl : lv' = [(3, .int v13), (2, .int s1.1), (0, .ref (ad 28)), (1, .int a1)] := hlv.symm.trans rfl
        refine zr_goto (tgt := 4) hB (by decide) dX1_settle_88 ?_
        exact zr_sub [1, 0, 2, 3] rfl (hc3 (s1.1, v13, s1.2.2.1, N12))
      · refine zr_iconst (v := 1) hB (by decide) dX1_settle_66 ?_
        refine zr_istore_n (lv' := [(2, .int 1), (3, .int s1.2.1), (0, .ref (ad 28)), (1, .int a1)]) hB rfl (by decide) rfl dX1_settle_67 ?_
        refine zr_aload_n hB 2 rfl rfl dX1_settle_68 ?_
        refine zr_get_X1 (w := 28) (k := 3) (v := .ref (ad 32)) hB rfl (by decide) rfl lf_X1_21 rfl dX1_settle_69 ?_
        refine zr_iload_n hB 1 rfl rfl dX1_settle_72 ?_
        refine zr_iaload hB zA_32 dX1_settle_73 ?_
        refine zr_iconst (v := (-1)) hB (by decide) dX1_settle_74 ?_
        refine zr_icmp_ne (tgt := 85) hB (by decide) dX1_settle_75 ?_ ?_
        · refine zr_iincL hB (j := 1) (n := 1) (w := 1) rfl (by decide) (by decide) dX1_settle_85 (fun v14 lv' hlv => ?_)
          obtain rfl : lv' = [(3, .int v14), (2, .int 1), (0, .ref (ad 28)), (1, .int a1)] := hlv.symm.trans rfl
          refine zr_goto (tgt := 4) hB (by decide) dX1_settle_88 ?_
          exact zr_sub [1, 0, 2, 3] rfl (hc3 (1, v14, s1.2.2.1, N12))
        · refine zr_aload_n hB 2 rfl rfl dX1_settle_78 ?_
          refine zr_get_X1 (w := 28) (k := 3) (v := .ref (ad 32)) hB rfl (by decide) rfl lf_X1_21 rfl dX1_settle_79 ?_
          refine zr_iload_n hB 1 rfl rfl dX1_settle_82 ?_
          refine zr_iload_n hB 3 rfl rfl dX1_settle_83 ?_
          refine zr_iastore hB zA_32 dX1_settle_84 ?_
          refine zr_letM (fun J15 => ?_)
          refine zr_iincL hB (j := 1) (n := 1) (w := 1) rfl (by decide) (by decide) dX1_settle_85 (fun v16 lv' hlv => ?_)
          obtain rfl : lv' = [(3, .int v16), (2, .int 1), (0, .ref (ad 28)), (1, .int a1)] := hlv.symm.trans rfl
          refine zr_goto (tgt := 4) hB (by decide) dX1_settle_88 ?_
          exact zr_sub [1, 0, 2, 3] rfl (hc3 (1, v16, J15, N12))

def gX1_spread_61 (a1 : Nat) (a2 : Int32) (I : zI) (v4 : Int64) (x5 : Int64) (s9 : Int32 × zL) : Option ((Int32 × zL) ⊕ (zL)) :=
  if 8 ≤ s9.1 then
    some (.inr s9.2)
  else
  zb (fX6_isOpen a1 a2 s9.1 I) fun o19 =>
  if o19 = 0 then
    zg s9.1 8 (
    zg s9.1 8 (
    zl (zupL s9.2 31 (zn s9.1) ((s9.2 31 (zn s9.1)) ||| (zshlL x5 (I a1 1)))) fun N20 =>
    zl (s9.1 + 1) fun v21 =>
    some (.inl (v21, N20))))
  else
  zg s9.1 8 (
  zg s9.1 8 (
  zl (zupL s9.2 31 (zn s9.1) ((s9.2 31 (zn s9.1)) ||| (zshlL v4 s9.1))) fun N22 =>
  zg s9.1 8 (
  zg s9.1 8 (
  zl (zupL N22 31 (zn s9.1) ((N22 31 (zn s9.1)) ||| (zshlL x5 (I a1 1)))) fun N23 =>
  zl (s9.1 + 1) fun v24 =>
  some (.inl (v24, N23))))))
def fX1_spread (n : Nat) (a1 : Nat) (a2 : Int32) (a3 : Int64) (a4 : Int32) (I : zI) (L : zL) : Option (zI × zL) :=
  zg a2 8 (
  zg a2 8 (
  zb (fX6_nextPlaces n a1 (L 30 (zn a2)) I) fun o2 =>
  zg a2 8 (
  zl (zupL L 31 (zn a2) ((L 31 (zn a2)) ||| o2)) fun N3 =>
  zg a2 8 (
  zl ((zushrL (N3 30 (zn a2)) a2) &&& a3) fun v4 =>
  zb (
    if a4 = 0 then
      some 0
    else
    zg a2 8 (
    some ((zushrL (N3 30 (zn a2)) (I a1 1)) &&& (zushrL a3 8)))) fun x5 : Int64 =>
  zb (zit (gX1_spread_61 a1 a2 I v4 x5) n (0, N3)) fun x10 : zL =>
  some (I, x10)))))
set_option maxHeartbeats 4000000 in
set_option maxRecDepth 100000 in
theorem mX1_spread {l : Launch} {D : va_G} {T : zT} {ad sK sV : Nat → Nat} (hi : zInj ad) (n : Nat) (a1 : Nat) (a2 : Int32) (a3 : Int64) (a4 : Int32) (ha1 : zO_X6 a1) (I : zI) (L : zL) : ∀ o, fX1_spread n a1 a2 a3 a4 I L = some o → zMet l yX1_spread cX1_spread 11 none 1 25 D T ad sK sV [.ref (ad 28), .ref (ad a1), .int a2, .long a3, .int a4] I L (em_vL o) := by
  intro o ho
  refine zMet.of hi (by decide +kernel) (Nat.le_of_ble_eq_true rfl) (fun p e s m args below meth c hB => ?_)
  refine zr_top (emb := em_vL) (t := fX1_spread n a1 a2 a3 a4 I L) ?_ ho
  unfold fX1_spread
  refine zr_aload_n hB 0 rfl rfl dX1_spread_0 ?_
  refine zr_get_X1 (w := 28) (k := 2) (v := .ref (ad 31)) hB rfl (by decide) rfl lf_X1_18 rfl dX1_spread_1 ?_
  refine zr_iload_n hB 2 rfl rfl dX1_spread_4 ?_
  refine zr_dup2 hB rfl rfl dX1_spread_5 ?_
  refine zr_laload hB zA_31 dX1_spread_6 ?_
  refine zr_aload_n hB 1 rfl rfl dX1_spread_7 ?_
  refine zr_aload_n hB 0 rfl rfl dX1_spread_8 ?_
  refine zr_get_X1 (w := 28) (k := 1) (v := .ref (ad 30)) hB rfl (by decide) rfl lf_X1_15 rfl dX1_spread_9 ?_
  refine zr_iload_n hB 2 rfl rfl dX1_spread_12 ?_
  refine zr_laload hB zA_30 dX1_spread_13 ?_
  refine zr_callV (st := [.long (L 31 (zn a2)), .int a2, .ref (ad 31)]) (C := RX6) (As := [.long (L 30 (zn a2))]) (embc := em_l0 I L) hB (mX6_nextPlaces (sK := sK) (sV := sV) hi n a1 (L 30 (zn a2)) ha1 I L) (zW_X6 ha1) rfl rfl lm_X1_25 q2_X6_nextPlaces q3_X6_nextPlaces q4_X6 q5_X6_nextPlaces qd_X6_nextPlaces (by decide) rfl rfl (Nat.le_of_ble_eq_true rfl) ⟨Nat.zero_le _, Nat.zero_le _⟩ dX1_spread_14 (zr_kl0 (fun o2 => ?_))
  refine zr_lor hB dX1_spread_17 ?_
  refine zr_lastore hB zA_31 dX1_spread_18 ?_
  refine zr_letN (fun N3 => ?_)
  refine zr_aload_n hB 0 rfl rfl dX1_spread_19 ?_
  refine zr_get_X1 (w := 28) (k := 1) (v := .ref (ad 30)) hB rfl (by decide) rfl lf_X1_15 rfl dX1_spread_20 ?_
  refine zr_iload_n hB 2 rfl rfl dX1_spread_23 ?_
  refine zr_laload hB zA_30 dX1_spread_24 ?_
  refine zr_iload_n hB 2 rfl rfl dX1_spread_25 ?_
  refine zr_lushr hB dX1_spread_26 ?_
  refine zr_lload_n hB 3 rfl rfl dX1_spread_27 ?_
  refine zr_land hB dX1_spread_28 ?_
  refine zr_letL (fun v4 => ?_)
  refine zr_lstore (lv' := [(6, .long v4), (0, .ref (ad 28)), (1, .ref (ad a1)), (2, .int a2), (3, .long a3), (5, .int a4)]) hB (by decide) rfl dX1_spread_29 ?_
  refine zr_iload hB 5 rfl dX1_spread_31 ?_
  refine zr_join (pcJ := 56) (fun x5 : Int64 => [(6, .long v4), (0, .ref (ad 28)), (1, .ref (ad a1)), (2, .int a2)]) (fun x5 => [.long x5]) (fun x5 => I) (fun x5 => N3) (fun x5 => ?_) (fun K8 hj6 => ?_)
  · refine zr_lstore (lv' := [(8, .long x5), (6, .long v4), (0, .ref (ad 28)), (1, .ref (ad a1)), (2, .int a2)]) hB (by decide) rfl dX1_spread_56 ?_
    refine zr_iconst (v := 0) hB (by decide) dX1_spread_58 ?_
    refine zr_istore (lv' := [(10, .int 0), (8, .long x5), (6, .long v4), (0, .ref (ad 28)), (1, .ref (ad a1)), (2, .int a2)]) hB (by decide) rfl dX1_spread_59 ?_
    refine zr_join (pcJ := 116) (fun x10 : zL => []) (fun _ => []) (fun x10 => I) (fun x10 => x10) (fun x10 => ?_) (fun K16 hx15 => ?_)
    · exact zr_vret hB rfl rfl dX1_spread_116
    · refine zr_sub (lv' := (fun s9 : Int32 × zL => [(10, .int s9.1), (8, .long x5), (6, .long v4), (0, .ref (ad 28)), (1, .ref (ad a1)), (2, .int a2)]) (0, N3)) [0, 1, 2, 3, 4, 5] rfl (zr_loop (fun s9 : Int32 × zL => [(10, .int s9.1), (8, .long x5), (6, .long v4), (0, .ref (ad 28)), (1, .ref (ad a1)), (2, .int a2)]) (fun s9 => I) (fun s9 => s9.2) (fun x10 : zL => []) (fun x10 => I) (fun x10 => x10) hx15 (fun s9 K17 hc11 hx12 => ?_) n (0, N3))
      unfold gX1_spread_61
      refine zr_iload hB 0 rfl dX1_spread_61 ?_
      refine zr_bipush (v := 8) hB (by decide) dX1_spread_63 ?_
      refine zr_icmp_ge (tgt := 116) hB (by decide) dX1_spread_65 ?_ ?_
      · exact zr_sub [] rfl (hx12 s9.2)
      · refine zr_aload_n hB 4 rfl rfl dX1_spread_68 ?_
        refine zr_iload_n hB 5 rfl rfl dX1_spread_69 ?_
        refine zr_iload hB 0 rfl dX1_spread_70 ?_
        refine zr_callV (st := []) (C := RX6) (As := [.int a2, .int s9.1]) (embc := em_i0 I s9.2) hB (mX6_isOpen (sK := sK) (sV := sV) hi a1 a2 s9.1 ha1 I s9.2) (zW_X6 ha1) rfl rfl lm_X1_68 q2_X6_isOpen q3_X6_isOpen q4_X6 q5_X6_isOpen qd_X6_isOpen (by decide) rfl rfl (Nat.le_of_ble_eq_true rfl) ⟨Nat.zero_le _, Nat.zero_le _⟩ dX1_spread_72 (zr_ki0 (fun o19 => ?_))
        refine zr_ifeq (tgt := 93) hB (by decide) dX1_spread_75 ?_ ?_
        · refine zr_aload_n hB 3 rfl rfl dX1_spread_93 ?_
          refine zr_get_X1 (w := 28) (k := 2) (v := .ref (ad 31)) hB rfl (by decide) rfl lf_X1_18 rfl dX1_spread_94 ?_
          refine zr_iload hB 0 rfl dX1_spread_97 ?_
          refine zr_dup2 hB rfl rfl dX1_spread_99 ?_
          refine zr_laload hB zA_31 dX1_spread_100 ?_
          refine zr_lload hB 1 rfl dX1_spread_101 ?_
          refine zr_aload_n hB 4 rfl rfl dX1_spread_103 ?_
          refine zr_get_X6 (w := a1) (k := 1) (v := .int (I a1 1)) hB ha1 (by decide) rfl lf_X1_64 rfl dX1_spread_104 ?_
          refine zr_lshl hB dX1_spread_107 ?_
          refine zr_lor hB dX1_spread_108 ?_
          refine zr_lastore hB zA_31 dX1_spread_109 ?_
          refine zr_letN (fun N20 => ?_)
          refine zr_iincL hB (j := 0) (n := 1) (w := 1) rfl (by decide) (by decide) dX1_spread_110 (fun v21 lv' hlv => ?_)
          obtain rfl : lv' = [(10, .int v21), (8, .long x5), (6, .long v4), (0, .ref (ad 28)), (1, .ref (ad a1)), (2, .int a2)] := hlv.symm.trans rfl
          refine zr_goto (tgt := 61) hB (by decide) dX1_spread_113 ?_
          exact zr_sub [0, 1, 2, 3, 4, 5] rfl (hc11 (v21, N20))
        · refine zr_aload_n hB 3 rfl rfl dX1_spread_78 ?_
          refine zr_get_X1 (w := 28) (k := 2) (v := .ref (ad 31)) hB rfl (by decide) rfl lf_X1_18 rfl dX1_spread_79 ?_
          refine zr_iload hB 0 rfl dX1_spread_82 ?_
          refine zr_dup2 hB rfl rfl dX1_spread_84 ?_
          refine zr_laload hB zA_31 dX1_spread_85 ?_
          refine zr_lload hB 2 rfl dX1_spread_86 ?_
          refine zr_iload hB 0 rfl dX1_spread_88 ?_
          refine zr_lshl hB dX1_spread_90 ?_
          refine zr_lor hB dX1_spread_91 ?_
          refine zr_lastore hB zA_31 dX1_spread_92 ?_
          refine zr_letN (fun N22 => ?_)
          refine zr_aload_n hB 3 rfl rfl dX1_spread_93 ?_
          refine zr_get_X1 (w := 28) (k := 2) (v := .ref (ad 31)) hB rfl (by decide) rfl lf_X1_18 rfl dX1_spread_94 ?_
          refine zr_iload hB 0 rfl dX1_spread_97 ?_
          refine zr_dup2 hB rfl rfl dX1_spread_99 ?_
          refine zr_laload hB zA_31 dX1_spread_100 ?_
          refine zr_lload hB 1 rfl dX1_spread_101 ?_
          refine zr_aload_n hB 4 rfl rfl dX1_spread_103 ?_
          refine zr_get_X6 (w := a1) (k := 1) (v := .int (I a1 1)) hB ha1 (by decide) rfl lf_X1_64 rfl dX1_spread_104 ?_
          refine zr_lshl hB dX1_spread_107 ?_
          refine zr_lor hB dX1_spread_108 ?_
          refine zr_lastore hB zA_31 dX1_spread_109 ?_
          refine zr_letN (fun N23 => ?_)
          refine zr_iincL hB (j := 0) (n := 1) (w := 1) rfl (by decide) (by decide) dX1_spread_110 (fun v24 lv' hlv => ?_)
          obtain rfl : lv' = [(10, .int v24), (8, .long x5), (6, .long v4), (0, .ref (ad 28)), (1, .ref (ad a1)), (2, .int a2)] := hlv.symm.trans rfl
          refine zr_goto (tgt := 61) hB (by decide) dX1_spread_113 ?_
          exact zr_sub [0, 1, 2, 3, 4, 5] rfl (hc11 (v24, N23))
  · refine zr_ifeq (tgt := 55) hB (by decide) dX1_spread_33 ?_ ?_
    · refine zr_lconst (v := 0) hB (by decide) dX1_spread_55 ?_
      exact zr_sub [0, 1, 2, 3] rfl (hj6 0)
    · refine zr_aload_n hB 1 rfl rfl dX1_spread_36 ?_
      refine zr_get_X1 (w := 28) (k := 1) (v := .ref (ad 30)) hB rfl (by decide) rfl lf_X1_15 rfl dX1_spread_37 ?_
      refine zr_iload_n hB 3 rfl rfl dX1_spread_40 ?_
      refine zr_laload hB zA_30 dX1_spread_41 ?_
      refine zr_aload_n hB 2 rfl rfl dX1_spread_42 ?_
      refine zr_get_X6 (w := a1) (k := 1) (v := .int (I a1 1)) hB ha1 (by decide) rfl lf_X1_64 rfl dX1_spread_43 ?_
      refine zr_lushr hB dX1_spread_46 ?_
      refine zr_lload_n hB 4 rfl rfl dX1_spread_47 ?_
      refine zr_bipush (v := 8) hB (by decide) dX1_spread_48 ?_
      refine zr_lushr hB dX1_spread_50 ?_
      refine zr_land hB dX1_spread_51 ?_
      refine zr_goto (tgt := 56) hB (by decide) dX1_spread_52 ?_
      exact zr_sub [0, 1, 2, 3] rfl (hj6 ((zushrL (N3 30 (zn a2)) (I a1 1)) &&& (zushrL a3 8)))

def gX6_lightLevels_5 (w : Nat) (a1 : Int32) (a2 : Int32) (I : zI) (s1 : Int64 × Int32) : Option ((Int64 × Int32) ⊕ (Int64)) :=
  if 5 ≤ s1.2 then
    some (.inr s1.1)
  else
  zb (fX6_weightIn w a2 s1.2 I) fun o11 =>
  zg a1 4 (
  if (I (w + 6) (zn a1)) < o11 then
    zl (s1.2 + 1) fun v12 =>
    some (.inl (s1.1, v12))
  else
  zl (s1.1 ||| (zshlL 1 (s1.2 * 8))) fun v13 =>
  zl (s1.2 + 1) fun v14 =>
  some (.inl (v13, v14)))
def fX6_lightLevels (n : Nat) (w : Nat) (a1 : Int32) (a2 : Int32) (I : zI) : Option (Int64) :=
  zb (zit (gX6_lightLevels_5 w a1 a2 I) n (0, 0)) fun x2 : Int64 =>
  some x2
set_option maxHeartbeats 4000000 in
set_option maxRecDepth 100000 in
theorem mX6_lightLevels {l : Launch} {D : va_G} {T : zT} {ad sK sV : Nat → Nat} (hi : zInj ad) (n : Nat) (w : Nat) (a1 : Int32) (a2 : Int32) (hw : zO_X6 w) (I : zI) (L : zL) : ∀ o, fX6_lightLevels n w a1 a2 I = some o → zMet l yX6_lightLevels cX6_lightLevels 6 (some .long) 2 45 D T ad sK sV [.ref (ad w), .int a1, .int a2] I L (em_l0 I L o) := by
  intro o ho
  refine zMet.of hi (by decide +kernel) (Nat.le_of_ble_eq_true rfl) (fun p e s m args below meth c hB => ?_)
  refine zr_top (emb := em_l0 I L) (t := fX6_lightLevels n w a1 a2 I) ?_ ho
  unfold fX6_lightLevels
  refine zr_lconst (v := 0) hB (by decide) dX6_lightLevels_0 ?_
  refine zr_lstore_n (lv' := [(3, .long 0), (0, .ref (ad w)), (1, .int a1), (2, .int a2)]) hB rfl (by decide) rfl dX6_lightLevels_1 ?_
  refine zr_iconst (v := 0) hB (by decide) dX6_lightLevels_2 ?_
  refine zr_istore (lv' := [(5, .int 0), (3, .long 0), (0, .ref (ad w)), (1, .int a1), (2, .int a2)]) hB (by decide) rfl dX6_lightLevels_3 ?_
  refine zr_join (pcJ := 43) (fun x2 : Int64 => [(3, .long x2)]) (fun _ => []) (fun x2 => I) (fun x2 => L) (fun x2 => ?_) (fun K8 hx7 => ?_)
  · refine zr_lload_n hB 0 rfl rfl dX6_lightLevels_43 ?_
    exact zr_lret hB rfl rfl dX6_lightLevels_44
  · refine zr_sub (lv' := (fun s1 : Int64 × Int32 => [(3, .long s1.1), (5, .int s1.2), (0, .ref (ad w)), (1, .int a1), (2, .int a2)]) (0, 0)) [1, 0, 2, 3, 4] rfl (zr_loop (fun s1 : Int64 × Int32 => [(3, .long s1.1), (5, .int s1.2), (0, .ref (ad w)), (1, .int a1), (2, .int a2)]) (fun s1 => I) (fun s1 => L) (fun x2 : Int64 => [(3, .long x2)]) (fun x2 => I) (fun x2 => L) hx7 (fun s1 K9 hc3 hx4 => ?_) n (0, 0))
    unfold gX6_lightLevels_5
    refine zr_iload hB 1 rfl dX6_lightLevels_5 ?_
    refine zr_iconst (v := 5) hB (by decide) dX6_lightLevels_7 ?_
    refine zr_icmp_ge (tgt := 43) hB (by decide) dX6_lightLevels_8 ?_ ?_
    · exact zr_sub [0] rfl (hx4 s1.1)
    · refine zr_aload_n hB 2 rfl rfl dX6_lightLevels_11 ?_
      refine zr_iload_n hB 4 rfl rfl dX6_lightLevels_12 ?_
      refine zr_iload hB 1 rfl dX6_lightLevels_13 ?_
      refine zr_callV (st := []) (C := RX6) (As := [.int a2, .int s1.2]) (embc := em_i0 I L) hB (mX6_weightIn (sK := sK) (sV := sV) hi w a2 s1.2 hw I L) (zW_X6 hw) rfl rfl lm_X6_80 q2_X6_weightIn q3_X6_weightIn q4_X6 q5_X6_weightIn qd_X6_weightIn (by decide) rfl rfl (Nat.le_of_ble_eq_true rfl) ⟨Nat.zero_le _, Nat.zero_le _⟩ dX6_lightLevels_15 (zr_ki0 (fun o11 => ?_))
      refine zr_aload_n hB 2 rfl rfl dX6_lightLevels_18 ?_
      refine zr_get_X6 (w := w) (k := 10) (v := .ref (ad (w + 6))) hB hw (by decide) rfl lf_X6_31 rfl dX6_lightLevels_19 ?_
      refine zr_iload_n hB 3 rfl rfl dX6_lightLevels_22 ?_
      refine zr_iaload hB (zA_X6_6 hw) dX6_lightLevels_23 ?_
      refine zr_icmp_gt (tgt := 37) hB (by decide) dX6_lightLevels_24 ?_ ?_
      · refine zr_iincL hB (j := 1) (n := 1) (w := 1) rfl (by decide) (by decide) dX6_lightLevels_37 (fun v12 lv' hlv => ?_)
        obtain rfl : lv' = [(5, .int v12), (3, .long s1.1), (0, .ref (ad w)), (1, .int a1), (2, .int a2)] := hlv.symm.trans rfl
        refine zr_goto (tgt := 5) hB (by decide) dX6_lightLevels_40 ?_
        exact zr_sub [1, 0, 2, 3, 4] rfl (hc3 (s1.1, v12))
      · refine zr_lload_n hB 0 rfl rfl dX6_lightLevels_27 ?_
        refine zr_lconst (v := 1) hB (by decide) dX6_lightLevels_28 ?_
        refine zr_iload hB 1 rfl dX6_lightLevels_29 ?_
        refine zr_bipush (v := 8) hB (by decide) dX6_lightLevels_31 ?_
        refine zr_imul hB dX6_lightLevels_33 ?_
        refine zr_lshl hB dX6_lightLevels_34 ?_
        refine zr_lor hB dX6_lightLevels_35 ?_
        refine zr_letL (fun v13 => ?_)
        refine zr_lstore_n (lv' := [(3, .long v13), (5, .int s1.2), (0, .ref (ad w)), (1, .int a1), (2, .int a2)]) hB rfl (by decide) rfl dX6_lightLevels_36 ?_
        refine zr_iincL hB (j := 1) (n := 1) (w := 1) rfl (by decide) (by decide) dX6_lightLevels_37 (fun v14 lv' hlv => ?_)
        obtain rfl : lv' = [(5, .int v14), (3, .long v13), (0, .ref (ad w)), (1, .int a1), (2, .int a2)] := hlv.symm.trans rfl
        refine zr_goto (tgt := 5) hB (by decide) dX6_lightLevels_40 ?_
        exact zr_sub [1, 0, 2, 3, 4] rfl (hc3 (v13, v14))

def gX1_explore_96 (n : Nat) (a1 : Nat) (a5 : Int32) (o6 : Int64) (s24 : Int32 × zI × zL) : Option ((Int32 × zI × zL) ⊕ (zI × zL)) :=
  if 8 ≤ s24.1 then
    some (.inr (s24.2.1, s24.2.2))
  else
  zg s24.1 8 (
  if (lg_cmp (s24.2.2 30 (zn s24.1)) 0) = 0 then
    zl (s24.1 + 1) fun v33 =>
    some (.inl (v33, s24.2.1, s24.2.2))
  else
  zb (fX1_spread n a1 s24.1 o6 a5 s24.2.1 s24.2.2) fun o37 =>
  zl (s24.1 + 1) fun v38 =>
  some (.inl (v38, o37.1, o37.2)))
def gX1_explore_54 (n : Nat) (a1 : Nat) (a4 : Int32) (a5 : Int32) (o6 : Int64) (s7 : Int32 × zI × zL) : Option ((Int32 × zI × zL) ⊕ ((zI × zL) ⊕ (zI × zL))) :=
  if 320 ≤ s7.1 then
    some (.inr (.inr (s7.2.1, s7.2.2)))
  else
  zb (fX1_settle n s7.1 s7.2.1 s7.2.2) fun o19 =>
  if o19.1 = 0 then
    some (.inr (.inl (o19.2.1, o19.2.2)))
  else
  zbs (
    if a4 = (-1) then
      some (.inr ())
    else
    zg a4 8 (
    if (o19.2.1 32 (zn a4)) = (-1) then
      some (.inr ())
    else
    some (.inl (.inr (.inl (o19.2.1, o19.2.2)))))) fun x20 : Unit =>
  zb (zit (gX1_explore_96 n a1 a5 o6) n (0, o19.2.1, o19.2.2)) fun x25 : zI × zL =>
  zl (s7.1 + 1) fun v39 =>
  some (.inl (v39, x25.1, x25.2))
def fX1_explore (n : Nat) (a1 : Nat) (a2 : Int32) (a3 : Int32) (a4 : Int32) (a5 : Int32) (I : zI) (L : zL) : Option (zI × zL) :=
  zl (zfillL L 29 8 0) fun N1 =>
  zl (zfillL N1 31 8 0) fun N2 =>
  zl (zfill I 32 8 (-1)) fun J3 =>
  zg a3 8 (
  zg a2 4 (
  zg (J3 (a1 + 3) (zn a3)) 8 (
  zl (zupL N2 31 (zn (J3 (a1 + 3) (zn a3))) (zshlL 1 (J3 (a1 + 5) (zn a2)))) fun N4 =>
  zb (fX6_lightLevels n a1 a2 a3 J3) fun o6 =>
  zbs (zit (gX1_explore_54 n a1 a4 a5 o6) n (0, J3, N4)) fun x8 : zI × zL =>
  some (x8.1, x8.2))))
set_option maxHeartbeats 4000000 in
set_option maxRecDepth 100000 in
theorem mX1_explore {l : Launch} {D : va_G} {T : zT} {ad sK sV : Nat → Nat} (hi : zInj ad) (n : Nat) (a1 : Nat) (a2 : Int32) (a3 : Int32) (a4 : Int32) (a5 : Int32) (ha1 : zO_X6 a1) (I : zI) (L : zL) : ∀ o, fX1_explore n a1 a2 a3 a4 a5 I L = some o → zMet l yX1_explore cX1_explore 11 none 3 70 D T ad sK sV [.ref (ad 28), .ref (ad a1), .int a2, .int a3, .int a4, .int a5] I L (em_vL o) := by
  intro o ho
  refine zMet.of hi (by decide +kernel) (Nat.le_of_ble_eq_true rfl) (fun p e s m args below meth c hB => ?_)
  refine zr_top (emb := em_vL) (t := fX1_explore n a1 a2 a3 a4 a5 I L) ?_ ho
  unfold fX1_explore
  refine zr_aload_n hB 0 rfl rfl dX1_explore_0 ?_
  refine zr_get_X1 (w := 28) (k := 0) (v := .ref (ad 29)) hB rfl (by decide) rfl lf_X1_9 rfl dX1_explore_1 ?_
  refine zr_lconst (v := 0) hB (by decide) dX1_explore_4 ?_
  refine zr_fillL hB zA_29 (by decide) (by decide) (Nat.le_of_ble_eq_true rfl) ⟨Nat.zero_le _, Nat.zero_le _⟩ lm_X1_37 dX1_explore_5 ?_
  refine zr_letN (fun N1 => ?_)
  refine zr_aload_n hB 0 rfl rfl dX1_explore_8 ?_
  refine zr_get_X1 (w := 28) (k := 2) (v := .ref (ad 31)) hB rfl (by decide) rfl lf_X1_18 rfl dX1_explore_9 ?_
  refine zr_lconst (v := 0) hB (by decide) dX1_explore_12 ?_
  refine zr_fillL hB zA_31 (by decide) (by decide) (Nat.le_of_ble_eq_true rfl) ⟨Nat.zero_le _, Nat.zero_le _⟩ lm_X1_37 dX1_explore_13 ?_
  refine zr_letN (fun N2 => ?_)
  refine zr_aload_n hB 0 rfl rfl dX1_explore_16 ?_
  refine zr_get_X1 (w := 28) (k := 3) (v := .ref (ad 32)) hB rfl (by decide) rfl lf_X1_21 rfl dX1_explore_17 ?_
  refine zr_iconst (v := (-1)) hB (by decide) dX1_explore_20 ?_
  refine zr_fill hB zA_32 (by decide) (by decide) (Nat.le_of_ble_eq_true rfl) ⟨Nat.zero_le _, Nat.zero_le _⟩ lm_X1_43 dX1_explore_21 ?_
  refine zr_letM (fun J3 => ?_)
  refine zr_aload_n hB 0 rfl rfl dX1_explore_24 ?_
  refine zr_get_X1 (w := 28) (k := 2) (v := .ref (ad 31)) hB rfl (by decide) rfl lf_X1_18 rfl dX1_explore_25 ?_
  refine zr_aload_n hB 1 rfl rfl dX1_explore_28 ?_
  refine zr_get_X6 (w := a1) (k := 6) (v := .ref (ad (a1 + 3))) hB ha1 (by decide) rfl lf_X1_46 rfl dX1_explore_29 ?_
  refine zr_iload_n hB 3 rfl rfl dX1_explore_32 ?_
  refine zr_iaload hB (zA_X6_3 ha1) dX1_explore_33 ?_
  refine zr_lconst (v := 1) hB (by decide) dX1_explore_34 ?_
  refine zr_aload_n hB 1 rfl rfl dX1_explore_35 ?_
  refine zr_get_X6 (w := a1) (k := 9) (v := .ref (ad (a1 + 5))) hB ha1 (by decide) rfl lf_X1_49 rfl dX1_explore_36 ?_
  refine zr_iload_n hB 2 rfl rfl dX1_explore_39 ?_
  refine zr_iaload hB (zA_X6_5 ha1) dX1_explore_40 ?_
  refine zr_lshl hB dX1_explore_41 ?_
  refine zr_lastore hB zA_31 dX1_explore_42 ?_
  refine zr_letN (fun N4 => ?_)
  refine zr_aload_n hB 1 rfl rfl dX1_explore_43 ?_
  refine zr_iload_n hB 2 rfl rfl dX1_explore_44 ?_
  refine zr_iload_n hB 3 rfl rfl dX1_explore_45 ?_
  refine zr_callV (st := []) (C := RX6) (As := [.int a2, .int a3]) (embc := em_l0 J3 N4) hB (mX6_lightLevels (sK := sK) (sV := sV) hi n a1 a2 a3 ha1 J3 N4) (zW_X6 ha1) rfl rfl lm_X1_52 q2_X6_lightLevels q3_X6_lightLevels q4_X6 q5_X6_lightLevels qd_X6_lightLevels (by decide) rfl rfl (Nat.le_of_ble_eq_true rfl) ⟨Nat.zero_le _, Nat.zero_le _⟩ dX1_explore_46 (zr_kl0 (fun o6 => ?_))
  refine zr_lstore (lv' := [(6, .long o6), (0, .ref (ad 28)), (1, .ref (ad a1)), (2, .int a2), (3, .int a3), (4, .int a4), (5, .int a5)]) hB (by decide) rfl dX1_explore_49 ?_
  refine zr_iconst (v := 0) hB (by decide) dX1_explore_51 ?_
  refine zr_istore (lv' := [(8, .int 0), (6, .long o6), (0, .ref (ad 28)), (1, .ref (ad a1)), (2, .int a2), (3, .int a3), (4, .int a4), (5, .int a5)]) hB (by decide) rfl dX1_explore_52 ?_
  refine zr_joins (pcJ := 138) (fun x8 : zI × zL => []) (fun _ => []) (fun x8 => x8.1) (fun x8 => x8.2) (fun x8 => ?_) (fun K14 hi12 hx13 => ?_)
  · exact zr_vret hB rfl rfl dX1_explore_138
  · refine zr_sub (lv' := (fun s7 : Int32 × zI × zL => [(8, .int s7.1), (6, .long o6), (0, .ref (ad 28)), (1, .ref (ad a1)), (4, .int a4), (5, .int a5)]) (0, J3, N4)) [0, 1, 2, 3, 6, 7] rfl (zr_loops (fun s7 : Int32 × zI × zL => [(8, .int s7.1), (6, .long o6), (0, .ref (ad 28)), (1, .ref (ad a1)), (4, .int a4), (5, .int a5)]) (fun s7 => s7.2.1) (fun s7 => s7.2.2) (fun x8 : zI × zL => []) (fun x8 => x8.1) (fun x8 => x8.2) hi12 hx13 (fun s7 K15 hc9 hi11 hx10 => ?_) n (0, J3, N4))
    unfold gX1_explore_54
    refine zr_iload hB 0 rfl dX1_explore_54 ?_
    refine zr_sipush (v := 320) hB (by decide) dX1_explore_56 ?_
    refine zr_icmp_ge (tgt := 138) hB (by decide) dX1_explore_59 ?_ ?_
    · exact zr_sub [] rfl (hx10 (s7.2.1, s7.2.2))
    · refine zr_aload_n hB 2 rfl rfl dX1_explore_62 ?_
      refine zr_iload hB 0 rfl dX1_explore_63 ?_
      refine zr_callV (st := []) (C := RX1) (As := [.int s7.1]) (embc := em_iL) hB (mX1_settle (sK := sK) (sV := sV) hi n s7.1 s7.2.1 s7.2.2) (zW_X1 rfl) rfl rfl lm_X1_56 q2_X1_settle q3_X1_settle q4_X1 q5_X1_settle qd_X1_settle (by decide) rfl rfl (Nat.le_of_ble_eq_true rfl) ⟨Nat.zero_le _, Nat.zero_le _⟩ dX1_explore_65 (zr_kiL (fun o19 => ?_))
      refine zr_istore (lv' := [(9, .int o19.1), (8, .int s7.1), (6, .long o6), (0, .ref (ad 28)), (1, .ref (ad a1)), (4, .int a4), (5, .int a5)]) hB (by decide) rfl dX1_explore_68 ?_
      refine zr_iload hB 0 rfl dX1_explore_70 ?_
      refine zr_ifeq (tgt := 92) hB (by decide) dX1_explore_72 ?_ ?_
      · refine hi11 _ _ _ _ _ _ ?_
        exact zr_vret hB rfl rfl dX1_explore_92
      · refine zr_iload hB 5 rfl dX1_explore_75 ?_
        refine zr_iconst (v := (-1)) hB (by decide) dX1_explore_77 ?_
        refine zr_joins (pcJ := 93) (fun x20 : Unit => [(8, .int s7.1), (6, .long o6), (0, .ref (ad 28)), (1, .ref (ad a1)), (4, .int a4), (5, .int a5)]) (fun x20 => []) (fun x20 => o19.2.1) (fun x20 => o19.2.2) (fun x20 => ?_) (fun K23 hi22 hj21 => ?_)
        · refine zr_iconst (v := 0) hB (by decide) dX1_explore_93 ?_
          refine zr_istore (lv' := [(10, .int 0), (8, .int s7.1), (6, .long o6), (0, .ref (ad 28)), (1, .ref (ad a1)), (4, .int a4), (5, .int a5)]) hB (by decide) rfl dX1_explore_94 ?_
          refine zr_join (pcJ := 132) (fun x25 : zI × zL => [(8, .int s7.1), (6, .long o6), (0, .ref (ad 28)), (1, .ref (ad a1)), (4, .int a4), (5, .int a5)]) (fun _ => []) (fun x25 => x25.1) (fun x25 => x25.2) (fun x25 => ?_) (fun K31 hx30 => ?_)
          · refine zr_iincL hB (j := 0) (n := 1) (w := 1) rfl (by decide) (by decide) dX1_explore_132 (fun v39 lv' hlv => ?_)
            obtain rfl : lv' = [(8, .int v39), (6, .long o6), (0, .ref (ad 28)), (1, .ref (ad a1)), (4, .int a4), (5, .int a5)] := hlv.symm.trans rfl
            refine zr_goto (tgt := 54) hB (by decide) dX1_explore_135 ?_
            exact zr_sub [0, 1, 2, 3, 4, 5] rfl (hc9 (v39, x25.1, x25.2))
          · refine zr_sub (lv' := (fun s24 : Int32 × zI × zL => [(10, .int s24.1), (8, .int s7.1), (6, .long o6), (0, .ref (ad 28)), (1, .ref (ad a1)), (4, .int a4), (5, .int a5)]) (0, o19.2.1, o19.2.2)) [0, 1, 2, 3, 4, 5, 6] rfl (zr_loop (fun s24 : Int32 × zI × zL => [(10, .int s24.1), (8, .int s7.1), (6, .long o6), (0, .ref (ad 28)), (1, .ref (ad a1)), (4, .int a4), (5, .int a5)]) (fun s24 => s24.2.1) (fun s24 => s24.2.2) (fun x25 : zI × zL => [(8, .int s7.1), (6, .long o6), (0, .ref (ad 28)), (1, .ref (ad a1)), (4, .int a4), (5, .int a5)]) (fun x25 => x25.1) (fun x25 => x25.2) hx30 (fun s24 K32 hc26 hx27 => ?_) n (0, o19.2.1, o19.2.2))
            unfold gX1_explore_96
            refine zr_iload hB 0 rfl dX1_explore_96 ?_
            refine zr_bipush (v := 8) hB (by decide) dX1_explore_98 ?_
            refine zr_icmp_ge (tgt := 132) hB (by decide) dX1_explore_100 ?_ ?_
            · exact zr_sub [1, 2, 3, 4, 5, 6] rfl (hx27 (s24.2.1, s24.2.2))
            · refine zr_aload_n hB 3 rfl rfl dX1_explore_103 ?_
              refine zr_get_X1 (w := 28) (k := 1) (v := .ref (ad 30)) hB rfl (by decide) rfl lf_X1_15 rfl dX1_explore_104 ?_
              refine zr_iload hB 0 rfl dX1_explore_107 ?_
              refine zr_laload hB zA_30 dX1_explore_109 ?_
              refine zr_lconst (v := 0) hB (by decide) dX1_explore_110 ?_
              refine zr_lcmp hB dX1_explore_111 ?_
              refine zr_ifeq (tgt := 126) hB (by decide) dX1_explore_112 ?_ ?_
              · refine zr_iincL hB (j := 0) (n := 1) (w := 1) rfl (by decide) (by decide) dX1_explore_126 (fun v33 lv' hlv => ?_)
                obtain rfl : lv' = [(10, .int v33), (8, .int s7.1), (6, .long o6), (0, .ref (ad 28)), (1, .ref (ad a1)), (4, .int a4), (5, .int a5)] := hlv.symm.trans rfl
                refine zr_goto (tgt := 96) hB (by decide) dX1_explore_129 ?_
                exact zr_sub [0, 1, 2, 3, 4, 5, 6] rfl (hc26 (v33, s24.2.1, s24.2.2))
              · refine zr_aload_n hB 3 rfl rfl dX1_explore_115 ?_
                refine zr_aload_n hB 4 rfl rfl dX1_explore_116 ?_
                refine zr_iload hB 0 rfl dX1_explore_117 ?_
                refine zr_lload hB 2 rfl dX1_explore_119 ?_
                refine zr_iload hB 6 rfl dX1_explore_121 ?_
                refine zr_callV (st := []) (C := RX1) (As := [.ref (ad a1), .int s24.1, .long o6, .int a5]) (embc := em_vL) hB (mX1_spread (sK := sK) (sV := sV) hi n a1 s24.1 o6 a5 ha1 s24.2.1 s24.2.2) (zW_X1 rfl) rfl rfl lm_X1_60 q2_X1_spread q3_X1_spread q4_X1 q5_X1_spread qd_X1_spread (by decide) rfl rfl (Nat.le_of_ble_eq_true rfl) ⟨Nat.zero_le _, Nat.zero_le _⟩ dX1_explore_123 (zr_kvL (fun o37 => ?_))
                refine zr_iincL hB (j := 0) (n := 1) (w := 1) rfl (by decide) (by decide) dX1_explore_126 (fun v38 lv' hlv => ?_)
                obtain rfl : lv' = [(10, .int v38), (8, .int s7.1), (6, .long o6), (0, .ref (ad 28)), (1, .ref (ad a1)), (4, .int a4), (5, .int a5)] := hlv.symm.trans rfl
                refine zr_goto (tgt := 96) hB (by decide) dX1_explore_129 ?_
                exact zr_sub [0, 1, 2, 3, 4, 5, 6] rfl (hc26 (v38, o37.1, o37.2))
        · refine zr_icmp_eq (tgt := 93) hB (by decide) dX1_explore_78 ?_ ?_
          · exact zr_sub [1, 2, 3, 4, 5, 6] rfl (hj21 ())
          · refine zr_aload_n hB 3 rfl rfl dX1_explore_81 ?_
            refine zr_get_X1 (w := 28) (k := 3) (v := .ref (ad 32)) hB rfl (by decide) rfl lf_X1_21 rfl dX1_explore_82 ?_
            refine zr_iload hB 5 rfl dX1_explore_85 ?_
            refine zr_iaload hB zA_32 dX1_explore_87 ?_
            refine zr_iconst (v := (-1)) hB (by decide) dX1_explore_88 ?_
            refine zr_icmp_eq (tgt := 93) hB (by decide) dX1_explore_89 ?_ ?_
            · exact zr_sub [1, 2, 3, 4, 5, 6] rfl (hj21 ())
            · refine hi22 _ _ _ _ _ _ ?_
              refine hi11 _ _ _ _ _ _ ?_
              exact zr_vret hB rfl rfl dX1_explore_92

def fX1_fewestFor (n : Nat) (a1 : Nat) (a2 : Int32) (a3 : Int32) (a4 : Int32) (I : zI) (L : zL) : Option (Int32 × zI × zL) :=
  zb (fX1_explore n a1 a2 a3 a4 1 I L) fun o4 =>
  zg a4 8 (
  some (o4.1 32 (zn a4), o4.1, o4.2))
set_option maxHeartbeats 4000000 in
set_option maxRecDepth 100000 in
theorem mX1_fewestFor {l : Launch} {D : va_G} {T : zT} {ad sK sV : Nat → Nat} (hi : zInj ad) (n : Nat) (a1 : Nat) (a2 : Int32) (a3 : Int32) (a4 : Int32) (ha1 : zO_X6 a1) (I : zI) (L : zL) : ∀ o, fX1_fewestFor n a1 a2 a3 a4 I L = some o → zMet l yX1_fewestFor cX1_fewestFor 5 (some .int) 4 100 D T ad sK sV [.ref (ad 28), .ref (ad a1), .int a2, .int a3, .int a4] I L (em_iL o) := by
  intro o ho
  refine zMet.of hi (by decide +kernel) (Nat.le_of_ble_eq_true rfl) (fun p e s m args below meth c hB => ?_)
  refine zr_top (emb := em_iL) (t := fX1_fewestFor n a1 a2 a3 a4 I L) ?_ ho
  unfold fX1_fewestFor
  refine zr_aload_n hB 0 rfl rfl dX1_fewestFor_0 ?_
  refine zr_aload_n hB 1 rfl rfl dX1_fewestFor_1 ?_
  refine zr_iload_n hB 2 rfl rfl dX1_fewestFor_2 ?_
  refine zr_iload_n hB 3 rfl rfl dX1_fewestFor_3 ?_
  refine zr_iload hB 4 rfl dX1_fewestFor_4 ?_
  refine zr_iconst (v := 1) hB (by decide) dX1_fewestFor_6 ?_
  refine zr_callV (st := []) (C := RX1) (As := [.ref (ad a1), .int a2, .int a3, .int a4, .int 1]) (embc := em_vL) hB (mX1_explore (sK := sK) (sV := sV) hi n a1 a2 a3 a4 1 ha1 I L) (zW_X1 rfl) rfl rfl lm_X1_33 q2_X1_explore q3_X1_explore q4_X1 q5_X1_explore qd_X1_explore (by decide) rfl rfl (Nat.le_of_ble_eq_true rfl) ⟨Nat.zero_le _, Nat.zero_le _⟩ dX1_fewestFor_7 (zr_kvL (fun o4 => ?_))
  refine zr_aload_n hB 0 rfl rfl dX1_fewestFor_10 ?_
  refine zr_get_X1 (w := 28) (k := 3) (v := .ref (ad 32)) hB rfl (by decide) rfl lf_X1_21 rfl dX1_fewestFor_11 ?_
  refine zr_iload hB 4 rfl dX1_fewestFor_14 ?_
  refine zr_iaload hB zA_32 dX1_fewestFor_16 ?_
  exact zr_iret hB rfl rfl dX1_fewestFor_17

def fX7_isTask (a1 : Int32) (a2 : Int32) (a3 : Int32) (I : zI) : Option (Int32) :=
  zb (fX7_isOne a1 I) fun o2 =>
  if o2 = 0 then
    some 0
  else
  zb (fX7_isThing a2 I) fun o4 =>
  if o4 = 0 then
    some 0
  else
  zb (fX7_isRoom a3) fun o6 =>
  if o6 = 0 then
    some 0
  else
  some 1
set_option maxHeartbeats 4000000 in
set_option maxRecDepth 100000 in
theorem mX7_isTask {l : Launch} {D : va_G} {T : zT} {ad sK sV : Nat → Nat} (hi : zInj ad) (a1 : Int32) (a2 : Int32) (a3 : Int32)  (I : zI) (L : zL) : ∀ o, fX7_isTask a1 a2 a3 I = some o → zMet l yX7_isTask cX7_isTask 4 (some .boolean) 2 43 D T ad sK sV [.ref (ad 0), .int a1, .int a2, .int a3] I L (em_i0 I L o) := by
  intro o ho
  refine zMet.of hi (by decide +kernel) (Nat.le_of_ble_eq_true rfl) (fun p e s m args below meth c hB => ?_)
  refine zr_top (emb := em_i0 I L) (t := fX7_isTask a1 a2 a3 I) ?_ ho
  unfold fX7_isTask
  refine zr_aload_n hB 0 rfl rfl dX7_isTask_0 ?_
  refine zr_iload_n hB 1 rfl rfl dX7_isTask_1 ?_
  refine zr_callV (st := []) (C := RX7) (As := [.int a1]) (embc := em_i0 I L) hB (mX7_isOne (sK := sK) (sV := sV) hi a1 I L) (zW_X7 rfl) rfl rfl lm_X7_109 q2_X7_isOne q3_X7_isOne q4_X7 q5_X7_isOne qd_X7_isOne (by decide) rfl rfl (Nat.le_of_ble_eq_true rfl) ⟨Nat.zero_le _, Nat.zero_le _⟩ dX7_isTask_2 (zr_ki0 (fun o2 => ?_))
  refine zr_ifeq (tgt := 27) hB (by decide) dX7_isTask_5 ?_ ?_
  · refine zr_iconst (v := 0) hB (by decide) dX7_isTask_27 ?_
    exact zr_zretC (by decide) hB rfl rfl dX7_isTask_28
  · refine zr_aload_n hB 0 rfl rfl dX7_isTask_8 ?_
    refine zr_iload_n hB 2 rfl rfl dX7_isTask_9 ?_
    refine zr_callV (st := []) (C := RX7) (As := [.int a2]) (embc := em_i0 I L) hB (mX7_isThing (sK := sK) (sV := sV) hi a2 I L) (zW_X7 rfl) rfl rfl lm_X7_84 q2_X7_isThing q3_X7_isThing q4_X7 q5_X7_isThing qd_X7_isThing (by decide) rfl rfl (Nat.le_of_ble_eq_true rfl) ⟨Nat.zero_le _, Nat.zero_le _⟩ dX7_isTask_10 (zr_ki0 (fun o4 => ?_))
    refine zr_ifeq (tgt := 27) hB (by decide) dX7_isTask_13 ?_ ?_
    · refine zr_iconst (v := 0) hB (by decide) dX7_isTask_27 ?_
      exact zr_zretC (by decide) hB rfl rfl dX7_isTask_28
    · refine zr_iload_n hB 3 rfl rfl dX7_isTask_16 ?_
      refine zr_callS (st := []) (As := [.int a3]) (embc := em_i0 I L) hB (mX7_isRoom (sK := sK) (sV := sV) hi a3 I L) lm_X7_47 q2_X7_isRoom q4_X7 q5_X7_isRoom qd_X7_isRoom (by decide) rfl rfl (Nat.le_of_ble_eq_true rfl) ⟨Nat.zero_le _, Nat.zero_le _⟩ dX7_isTask_17 (zr_ki0 (fun o6 => ?_))
      refine zr_ifeq (tgt := 27) hB (by decide) dX7_isTask_20 ?_ ?_
      · refine zr_iconst (v := 0) hB (by decide) dX7_isTask_27 ?_
        exact zr_zretC (by decide) hB rfl rfl dX7_isTask_28
      · refine zr_iconst (v := 1) hB (by decide) dX7_isTask_23 ?_
        refine zr_goto (tgt := 28) hB (by decide) dX7_isTask_24 ?_
        exact zr_zretC (by decide) hB rfl rfl dX7_isTask_28

def fX7_task (n : Nat) (a1 : Int32) (a2 : Int32) (a3 : Int32) (I : zI) (L : zL) : Option (Int32 × zI × zL) :=
  zb (fX7_isTask a1 a2 a3 I) fun o2 =>
  if o2 = 0 then
    zb (fX7_finding (-1000001) I) fun o12 =>
    some (o12.1, o12.2, L)
  else
  zb (fX1_fewestFor n 1 a1 a2 a3 I L) fun o6 =>
  zb (fX7_foundOrNone o6.1 o6.2.1) fun o9 =>
  some (o9.1, o9.2, o6.2.2)
set_option maxHeartbeats 4000000 in
set_option maxRecDepth 100000 in
theorem mX7_task {l : Launch} {D : va_G} {T : zT} {ad sK sV : Nat → Nat} (hi : zInj ad) (n : Nat) (a1 : Int32) (a2 : Int32) (a3 : Int32)  (I : zI) (L : zL) : ∀ o, fX7_task n a1 a2 a3 I L = some o → zMet l yX7_task cX7_task 4 (some .int) 5 124 D T ad sK sV [.ref (ad 0), .int a1, .int a2, .int a3] I L (em_iL o) := by
  intro o ho
  refine zMet.of hi (by decide +kernel) (Nat.le_of_ble_eq_true rfl) (fun p e s m args below meth c hB => ?_)
  refine zr_top (emb := em_iL) (t := fX7_task n a1 a2 a3 I L) ?_ ho
  unfold fX7_task
  refine zr_aload_n hB 0 rfl rfl dX7_task_0 ?_
  refine zr_iload_n hB 1 rfl rfl dX7_task_1 ?_
  refine zr_iload_n hB 2 rfl rfl dX7_task_2 ?_
  refine zr_iload_n hB 3 rfl rfl dX7_task_3 ?_
  refine zr_callV (st := []) (C := RX7) (As := [.int a1, .int a2, .int a3]) (embc := em_i0 I L) hB (mX7_isTask (sK := sK) (sV := sV) hi a1 a2 a3 I L) (zW_X7 rfl) rfl rfl lm_X7_195 q2_X7_isTask q3_X7_isTask q4_X7 q5_X7_isTask qd_X7_isTask (by decide) rfl rfl (Nat.le_of_ble_eq_true rfl) ⟨Nat.zero_le _, Nat.zero_le _⟩ dX7_task_4 (zr_ki0 (fun o2 => ?_))
  refine zr_ifne (tgt := 17) hB (by decide) dX7_task_7 ?_ ?_
  · refine zr_aload_n hB 0 rfl rfl dX7_task_17 ?_
    refine zr_aload_n hB 0 rfl rfl dX7_task_18 ?_
    refine zr_get_X7 (w := 0) (k := 4) (v := .ref (ad 28)) hB rfl (by decide) rfl lf_X7_25 rfl dX7_task_19 ?_
    refine zr_aload_n hB 0 rfl rfl dX7_task_22 ?_
    refine zr_get_X7 (w := 0) (k := 0) (v := .ref (ad 1)) hB rfl (by decide) rfl lf_X7_12 rfl dX7_task_23 ?_
    refine zr_iload_n hB 1 rfl rfl dX7_task_26 ?_
    refine zr_iload_n hB 2 rfl rfl dX7_task_27 ?_
    refine zr_iload_n hB 3 rfl rfl dX7_task_28 ?_
    refine zr_callV (st := [.ref (ad 0)]) (C := RX1) (As := [.ref (ad 1), .int a1, .int a2, .int a3]) (embc := em_iL) hB (mX1_fewestFor (sK := sK) (sV := sV) hi n 1 a1 a2 a3 (Or.inl rfl) I L) (zW_X1 rfl) rfl rfl lm_X7_198 q2_X1_fewestFor q3_X1_fewestFor q4_X1 q5_X1_fewestFor qd_X1_fewestFor (by decide) rfl rfl (Nat.le_of_ble_eq_true rfl) ⟨Nat.zero_le _, Nat.zero_le _⟩ dX7_task_29 (zr_kiL (fun o6 => ?_))
    refine zr_callV (st := []) (C := RX7) (As := [.int o6.1]) (embc := em_iI o6.2.2) hB (mX7_foundOrNone (sK := sK) (sV := sV) hi o6.1 o6.2.1 o6.2.2) (zW_X7 rfl) rfl rfl lm_X7_192 q2_X7_foundOrNone q3_X7_foundOrNone q4_X7 q5_X7_foundOrNone qd_X7_foundOrNone (by decide) rfl rfl (Nat.le_of_ble_eq_true rfl) ⟨Nat.zero_le _, Nat.zero_le _⟩ dX7_task_32 (zr_kiI (fun o9 => ?_))
    exact zr_iret hB rfl rfl dX7_task_35
  · refine zr_aload_n hB 0 rfl rfl dX7_task_10 ?_
    refine zr_ldc (v := (-1000001)) hB lk_X7_55 dX7_task_11 ?_
    refine zr_callV (st := []) (C := RX7) (As := [.int (-1000001)]) (embc := em_iI L) hB (mX7_finding (sK := sK) (sV := sV) hi (-1000001) I L) (zW_X7 rfl) rfl rfl lm_X7_56 q2_X7_finding q3_X7_finding q4_X7 q5_X7_finding qd_X7_finding (by decide) rfl rfl (Nat.le_of_ble_eq_true rfl) ⟨Nat.zero_le _, Nat.zero_le _⟩ dX7_task_13 (zr_kiI (fun o12 => ?_))
    exact zr_iret hB rfl rfl dX7_task_16

def fX7_isFewer (a1 : Int32) (a2 : Int32) : Option (Int32) :=
  if a1 = (-1) then
    some 0
  else
  if a2 = (-1) then
    some 1
  else
  if a2 ≤ a1 then
    some 0
  else
  some 1
set_option maxHeartbeats 4000000 in
set_option maxRecDepth 100000 in
theorem mX7_isFewer {l : Launch} {D : va_G} {T : zT} {ad sK sV : Nat → Nat} (hi : zInj ad) (a1 : Int32) (a2 : Int32)  (I : zI) (L : zL) : ∀ o, fX7_isFewer a1 a2 = some o → zMet l yX7_isFewer cX7_isFewer 2 (some .boolean) 0 0 D T ad sK sV [.int a1, .int a2] I L (em_i0 I L o) := by
  intro o ho
  refine zMet.of hi (by decide +kernel) (Nat.le_of_ble_eq_true rfl) (fun p e s m args below meth c hB => ?_)
  refine zr_top (emb := em_i0 I L) (t := fX7_isFewer a1 a2) ?_ ho
  unfold fX7_isFewer
  refine zr_iload_n hB 0 rfl rfl dX7_isFewer_0 ?_
  refine zr_iconst (v := (-1)) hB (by decide) dX7_isFewer_1 ?_
  refine zr_icmp_eq (tgt := 19) hB (by decide) dX7_isFewer_2 ?_ ?_
  · refine zr_iconst (v := 0) hB (by decide) dX7_isFewer_19 ?_
    exact zr_zretC (by decide) hB rfl rfl dX7_isFewer_20
  · refine zr_iload_n hB 1 rfl rfl dX7_isFewer_5 ?_
    refine zr_iconst (v := (-1)) hB (by decide) dX7_isFewer_6 ?_
    refine zr_icmp_eq (tgt := 15) hB (by decide) dX7_isFewer_7 ?_ ?_
    · refine zr_iconst (v := 1) hB (by decide) dX7_isFewer_15 ?_
      refine zr_goto (tgt := 20) hB (by decide) dX7_isFewer_16 ?_
      exact zr_zretC (by decide) hB rfl rfl dX7_isFewer_20
    · refine zr_iload_n hB 0 rfl rfl dX7_isFewer_10 ?_
      refine zr_iload_n hB 1 rfl rfl dX7_isFewer_11 ?_
      refine zr_icmp_ge (tgt := 19) hB (by decide) dX7_isFewer_12 ?_ ?_
      · refine zr_iconst (v := 0) hB (by decide) dX7_isFewer_19 ?_
        exact zr_zretC (by decide) hB rfl rfl dX7_isFewer_20
      · refine zr_iconst (v := 1) hB (by decide) dX7_isFewer_15 ?_
        refine zr_goto (tgt := 20) hB (by decide) dX7_isFewer_16 ?_
        exact zr_zretC (by decide) hB rfl rfl dX7_isFewer_20

def gX7_who_30 (n : Nat) (a1 : Int32) (a2 : Int32) (s8 : Int32 × Int32 × Int32 × zI × zL) : Option ((Int32 × Int32 × Int32 × zI × zL) ⊕ (Int32 × zI × zL)) :=
  if (s8.2.2.2.1 1 8) ≤ s8.2.2.1 then
    some (.inr (s8.1, s8.2.2.2.1, s8.2.2.2.2))
  else
  zb (fX1_fewestFor n 1 s8.2.2.1 a1 a2 s8.2.2.2.1 s8.2.2.2.2) fun o20 =>
  zb (fX7_isFewer o20.1 s8.2.1) fun o22 =>
  if o22 = 0 then
    zl (s8.2.2.1 + 1) fun v23 =>
    some (.inl (s8.1, s8.2.1, v23, o20.2.1, o20.2.2))
  else
  zl (s8.2.2.1 + 1) fun v24 =>
  some (.inl (s8.2.2.1, o20.1, v24, o20.2.1, o20.2.2))
def fX7_who (n : Nat) (a1 : Int32) (a2 : Int32) (I : zI) (L : zL) : Option (Int32 × zI × zL) :=
  zb (fX7_isThing a1 I) fun o2 =>
  if o2 = 0 then
    zb (fX7_finding (-1000001) I) fun o5 =>
    some (o5.1, o5.2, L)
  else
  zb (fX7_isRoom a2) fun o7 =>
  if o7 = 0 then
    zb (fX7_finding (-1000001) I) fun o30 =>
    some (o30.1, o30.2, L)
  else
  zb (zit (gX7_who_30 n a1 a2) n ((-1), (-1), 0, I, L)) fun x9 : Int32 × zI × zL =>
  zb (fX7_foundOrNone x9.1 x9.2.1) fun o27 =>
  some (o27.1, o27.2, x9.2.2)
set_option maxHeartbeats 4000000 in
set_option maxRecDepth 100000 in
theorem mX7_who {l : Launch} {D : va_G} {T : zT} {ad sK sV : Nat → Nat} (hi : zInj ad) (n : Nat) (a1 : Int32) (a2 : Int32)  (I : zI) (L : zL) : ∀ o, fX7_who n a1 a2 I L = some o → zMet l yX7_who cX7_who 7 (some .int) 5 124 D T ad sK sV [.ref (ad 0), .int a1, .int a2] I L (em_iL o) := by
  intro o ho
  refine zMet.of hi (by decide +kernel) (Nat.le_of_ble_eq_true rfl) (fun p e s m args below meth c hB => ?_)
  refine zr_top (emb := em_iL) (t := fX7_who n a1 a2 I L) ?_ ho
  unfold fX7_who
  refine zr_aload_n hB 0 rfl rfl dX7_who_0 ?_
  refine zr_iload_n hB 1 rfl rfl dX7_who_1 ?_
  refine zr_callV (st := []) (C := RX7) (As := [.int a1]) (embc := em_i0 I L) hB (mX7_isThing (sK := sK) (sV := sV) hi a1 I L) (zW_X7 rfl) rfl rfl lm_X7_84 q2_X7_isThing q3_X7_isThing q4_X7 q5_X7_isThing qd_X7_isThing (by decide) rfl rfl (Nat.le_of_ble_eq_true rfl) ⟨Nat.zero_le _, Nat.zero_le _⟩ dX7_who_2 (zr_ki0 (fun o2 => ?_))
  refine zr_ifeq (tgt := 15) hB (by decide) dX7_who_5 ?_ ?_
  · refine zr_aload_n hB 0 rfl rfl dX7_who_15 ?_
    refine zr_ldc (v := (-1000001)) hB lk_X7_55 dX7_who_16 ?_
    refine zr_callV (st := []) (C := RX7) (As := [.int (-1000001)]) (embc := em_iI L) hB (mX7_finding (sK := sK) (sV := sV) hi (-1000001) I L) (zW_X7 rfl) rfl rfl lm_X7_56 q2_X7_finding q3_X7_finding q4_X7 q5_X7_finding qd_X7_finding (by decide) rfl rfl (Nat.le_of_ble_eq_true rfl) ⟨Nat.zero_le _, Nat.zero_le _⟩ dX7_who_18 (zr_kiI (fun o5 => ?_))
    exact zr_iret hB rfl rfl dX7_who_21
  · refine zr_iload_n hB 2 rfl rfl dX7_who_8 ?_
    refine zr_callS (st := []) (As := [.int a2]) (embc := em_i0 I L) hB (mX7_isRoom (sK := sK) (sV := sV) hi a2 I L) lm_X7_47 q2_X7_isRoom q4_X7 q5_X7_isRoom qd_X7_isRoom (by decide) rfl rfl (Nat.le_of_ble_eq_true rfl) ⟨Nat.zero_le _, Nat.zero_le _⟩ dX7_who_9 (zr_ki0 (fun o7 => ?_))
    refine zr_ifne (tgt := 22) hB (by decide) dX7_who_12 ?_ ?_
    · refine zr_iconst (v := (-1)) hB (by decide) dX7_who_22 ?_
      refine zr_istore_n (lv' := [(3, .int (-1)), (0, .ref (ad 0)), (1, .int a1), (2, .int a2)]) hB rfl (by decide) rfl dX7_who_23 ?_
      refine zr_iconst (v := (-1)) hB (by decide) dX7_who_24 ?_
      refine zr_istore (lv' := [(4, .int (-1)), (3, .int (-1)), (0, .ref (ad 0)), (1, .int a1), (2, .int a2)]) hB (by decide) rfl dX7_who_25 ?_
      refine zr_iconst (v := 0) hB (by decide) dX7_who_27 ?_
      refine zr_istore (lv' := [(5, .int 0), (4, .int (-1)), (3, .int (-1)), (0, .ref (ad 0)), (1, .int a1), (2, .int a2)]) hB (by decide) rfl dX7_who_28 ?_
      refine zr_join (pcJ := 82) (fun x9 : Int32 × zI × zL => [(3, .int x9.1), (0, .ref (ad 0))]) (fun _ => []) (fun x9 => x9.2.1) (fun x9 => x9.2.2) (fun x9 => ?_) (fun K15 hx14 => ?_)
      · refine zr_aload_n hB 1 rfl rfl dX7_who_82 ?_
        refine zr_iload_n hB 0 rfl rfl dX7_who_83 ?_
        refine zr_callV (st := []) (C := RX7) (As := [.int x9.1]) (embc := em_iI x9.2.2) hB (mX7_foundOrNone (sK := sK) (sV := sV) hi x9.1 x9.2.1 x9.2.2) (zW_X7 rfl) rfl rfl lm_X7_192 q2_X7_foundOrNone q3_X7_foundOrNone q4_X7 q5_X7_foundOrNone qd_X7_foundOrNone (by decide) rfl rfl (Nat.le_of_ble_eq_true rfl) ⟨Nat.zero_le _, Nat.zero_le _⟩ dX7_who_84 (zr_kiI (fun o27 => ?_))
        exact zr_iret hB rfl rfl dX7_who_87
      · refine zr_sub (lv' := (fun s8 : Int32 × Int32 × Int32 × zI × zL => [(3, .int s8.1), (4, .int s8.2.1), (5, .int s8.2.2.1), (0, .ref (ad 0)), (1, .int a1), (2, .int a2)]) ((-1), (-1), 0, I, L)) [2, 1, 0, 3, 4, 5] rfl (zr_loop (fun s8 : Int32 × Int32 × Int32 × zI × zL => [(3, .int s8.1), (4, .int s8.2.1), (5, .int s8.2.2.1), (0, .ref (ad 0)), (1, .int a1), (2, .int a2)]) (fun s8 => s8.2.2.2.1) (fun s8 => s8.2.2.2.2) (fun x9 : Int32 × zI × zL => [(3, .int x9.1), (0, .ref (ad 0))]) (fun x9 => x9.2.1) (fun x9 => x9.2.2) hx14 (fun s8 K16 hc10 hx11 => ?_) n ((-1), (-1), 0, I, L))
        unfold gX7_who_30
        refine zr_iload hB 2 rfl dX7_who_30 ?_
        refine zr_aload_n hB 3 rfl rfl dX7_who_32 ?_
        refine zr_get_X7 (w := 0) (k := 0) (v := .ref (ad 1)) hB rfl (by decide) rfl lf_X7_12 rfl dX7_who_33 ?_
        refine zr_get_X6 (w := 1) (k := 8) (v := .int (s8.2.2.2.1 1 8)) hB (Or.inl rfl) (by decide) rfl lf_X7_103 rfl dX7_who_36 ?_
        refine zr_icmp_ge (tgt := 82) hB (by decide) dX7_who_39 ?_ ?_
        · exact zr_sub [0, 3] rfl (hx11 (s8.1, s8.2.2.2.1, s8.2.2.2.2))
        · refine zr_aload_n hB 3 rfl rfl dX7_who_42 ?_
          refine zr_get_X7 (w := 0) (k := 4) (v := .ref (ad 28)) hB rfl (by decide) rfl lf_X7_25 rfl dX7_who_43 ?_
          refine zr_aload_n hB 3 rfl rfl dX7_who_46 ?_
          refine zr_get_X7 (w := 0) (k := 0) (v := .ref (ad 1)) hB rfl (by decide) rfl lf_X7_12 rfl dX7_who_47 ?_
          refine zr_iload hB 2 rfl dX7_who_50 ?_
          refine zr_iload_n hB 4 rfl rfl dX7_who_52 ?_
          refine zr_iload_n hB 5 rfl rfl dX7_who_53 ?_
          refine zr_callV (st := []) (C := RX1) (As := [.ref (ad 1), .int s8.2.2.1, .int a1, .int a2]) (embc := em_iL) hB (mX1_fewestFor (sK := sK) (sV := sV) hi n 1 s8.2.2.1 a1 a2 (Or.inl rfl) s8.2.2.2.1 s8.2.2.2.2) (zW_X1 rfl) rfl rfl lm_X7_198 q2_X1_fewestFor q3_X1_fewestFor q4_X1 q5_X1_fewestFor qd_X1_fewestFor (by decide) rfl rfl (Nat.le_of_ble_eq_true rfl) ⟨Nat.zero_le _, Nat.zero_le _⟩ dX7_who_54 (zr_kiL (fun o20 => ?_))
          refine zr_istore (lv' := [(6, .int o20.1), (3, .int s8.1), (4, .int s8.2.1), (5, .int s8.2.2.1), (0, .ref (ad 0)), (1, .int a1), (2, .int a2)]) hB (by decide) rfl dX7_who_57 ?_
          refine zr_iload hB 0 rfl dX7_who_59 ?_
          refine zr_iload hB 2 rfl dX7_who_61 ?_
          refine zr_callS (st := []) (As := [.int o20.1, .int s8.2.1]) (embc := em_i0 o20.2.1 o20.2.2) hB (mX7_isFewer (sK := sK) (sV := sV) hi o20.1 s8.2.1 o20.2.1 o20.2.2) lm_X7_202 q2_X7_isFewer q4_X7 q5_X7_isFewer qd_X7_isFewer (by decide) rfl rfl (Nat.le_of_ble_eq_true rfl) ⟨Nat.zero_le _, Nat.zero_le _⟩ dX7_who_63 (zr_ki0 (fun o22 => ?_))
          refine zr_ifeq (tgt := 76) hB (by decide) dX7_who_66 ?_ ?_
          · refine zr_iincL hB (j := 3) (n := 1) (w := 1) rfl (by decide) (by decide) dX7_who_76 (fun v23 lv' hlv => ?_)
            obtain rfl : lv' = [(5, .int v23), (6, .int o20.1), (3, .int s8.1), (4, .int s8.2.1), (0, .ref (ad 0)), (1, .int a1), (2, .int a2)] := hlv.symm.trans rfl
            refine zr_goto (tgt := 30) hB (by decide) dX7_who_79 ?_
            exact zr_sub [2, 3, 0, 4, 5, 6] rfl (hc10 (s8.1, s8.2.1, v23, o20.2.1, o20.2.2))
          · refine zr_iload hB 0 rfl dX7_who_69 ?_
            refine zr_istore (lv' := [(4, .int o20.1), (6, .int o20.1), (3, .int s8.1), (5, .int s8.2.2.1), (0, .ref (ad 0)), (1, .int a1), (2, .int a2)]) hB (by decide) rfl dX7_who_71 ?_
            refine zr_iload hB 3 rfl dX7_who_73 ?_
            refine zr_istore_n (lv' := [(3, .int s8.2.2.1), (4, .int o20.1), (6, .int o20.1), (5, .int s8.2.2.1), (0, .ref (ad 0)), (1, .int a1), (2, .int a2)]) hB rfl (by decide) rfl dX7_who_75 ?_
            refine zr_iincL hB (j := 3) (n := 1) (w := 1) rfl (by decide) (by decide) dX7_who_76 (fun v24 lv' hlv => ?_)
            obtain rfl : lv' = [(5, .int v24), (3, .int s8.2.2.1), (4, .int o20.1), (6, .int o20.1), (0, .ref (ad 0)), (1, .int a1), (2, .int a2)] := hlv.symm.trans rfl
            refine zr_goto (tgt := 30) hB (by decide) dX7_who_79 ?_
            exact zr_sub [1, 2, 0, 4, 5, 6] rfl (hc10 (s8.2.2.1, o20.1, v24, o20.2.1, o20.2.2))
    · refine zr_aload_n hB 0 rfl rfl dX7_who_15 ?_
      refine zr_ldc (v := (-1000001)) hB lk_X7_55 dX7_who_16 ?_
      refine zr_callV (st := []) (C := RX7) (As := [.int (-1000001)]) (embc := em_iI L) hB (mX7_finding (sK := sK) (sV := sV) hi (-1000001) I L) (zW_X7 rfl) rfl rfl lm_X7_56 q2_X7_finding q3_X7_finding q4_X7 q5_X7_finding qd_X7_finding (by decide) rfl rfl (Nat.le_of_ble_eq_true rfl) ⟨Nat.zero_le _, Nat.zero_le _⟩ dX7_who_18 (zr_kiI (fun o30 => ?_))
      exact zr_iret hB rfl rfl dX7_who_21

def gX1_roomsFor_16 (o4 : zI × zL) (s5 : Int32 × Int32) : Option ((Int32 × Int32) ⊕ (Int32)) :=
  if 8 ≤ s5.2 then
    some (.inr s5.1)
  else
  zg s5.2 8 (
  if (o4.1 32 (zn s5.2)) = (-1) then
    zl (s5.2 + 1) fun v14 =>
    some (.inl (s5.1, v14))
  else
  zl (s5.1 ||| (zshl 1 s5.2)) fun v15 =>
  zl (s5.2 + 1) fun v16 =>
  some (.inl (v15, v16)))
def fX1_roomsFor (n : Nat) (a1 : Nat) (a2 : Int32) (a3 : Int32) (a4 : Int32) (I : zI) (L : zL) : Option (Int32 × zI × zL) :=
  zb (fX1_explore n a1 a2 a3 (-1) a4 I L) fun o4 =>
  zb (zit (gX1_roomsFor_16 o4) n (0, 0)) fun x6 : Int32 =>
  some (x6, o4.1, o4.2)
set_option maxHeartbeats 4000000 in
set_option maxRecDepth 100000 in
theorem mX1_roomsFor {l : Launch} {D : va_G} {T : zT} {ad sK sV : Nat → Nat} (hi : zInj ad) (n : Nat) (a1 : Nat) (a2 : Int32) (a3 : Int32) (a4 : Int32) (ha1 : zO_X6 a1) (I : zI) (L : zL) : ∀ o, fX1_roomsFor n a1 a2 a3 a4 I L = some o → zMet l yX1_roomsFor cX1_roomsFor 7 (some .int) 4 100 D T ad sK sV [.ref (ad 28), .ref (ad a1), .int a2, .int a3, .int a4] I L (em_iL o) := by
  intro o ho
  refine zMet.of hi (by decide +kernel) (Nat.le_of_ble_eq_true rfl) (fun p e s m args below meth c hB => ?_)
  refine zr_top (emb := em_iL) (t := fX1_roomsFor n a1 a2 a3 a4 I L) ?_ ho
  unfold fX1_roomsFor
  refine zr_aload_n hB 0 rfl rfl dX1_roomsFor_0 ?_
  refine zr_aload_n hB 1 rfl rfl dX1_roomsFor_1 ?_
  refine zr_iload_n hB 2 rfl rfl dX1_roomsFor_2 ?_
  refine zr_iload_n hB 3 rfl rfl dX1_roomsFor_3 ?_
  refine zr_iconst (v := (-1)) hB (by decide) dX1_roomsFor_4 ?_
  refine zr_iload hB 4 rfl dX1_roomsFor_5 ?_
  refine zr_callV (st := []) (C := RX1) (As := [.ref (ad a1), .int a2, .int a3, .int (-1), .int a4]) (embc := em_vL) hB (mX1_explore (sK := sK) (sV := sV) hi n a1 a2 a3 (-1) a4 ha1 I L) (zW_X1 rfl) rfl rfl lm_X1_33 q2_X1_explore q3_X1_explore q4_X1 q5_X1_explore qd_X1_explore (by decide) rfl rfl (Nat.le_of_ble_eq_true rfl) ⟨Nat.zero_le _, Nat.zero_le _⟩ dX1_roomsFor_7 (zr_kvL (fun o4 => ?_))
  refine zr_iconst (v := 0) hB (by decide) dX1_roomsFor_10 ?_
  refine zr_istore (lv' := [(5, .int 0), (0, .ref (ad 28)), (1, .ref (ad a1)), (2, .int a2), (3, .int a3), (4, .int a4)]) hB (by decide) rfl dX1_roomsFor_11 ?_
  refine zr_iconst (v := 0) hB (by decide) dX1_roomsFor_13 ?_
  refine zr_istore (lv' := [(6, .int 0), (5, .int 0), (0, .ref (ad 28)), (1, .ref (ad a1)), (2, .int a2), (3, .int a3), (4, .int a4)]) hB (by decide) rfl dX1_roomsFor_14 ?_
  refine zr_join (pcJ := 49) (fun x6 : Int32 => [(5, .int x6)]) (fun _ => []) (fun x6 => o4.1) (fun x6 => o4.2) (fun x6 => ?_) (fun K12 hx11 => ?_)
  · refine zr_iload hB 0 rfl dX1_roomsFor_49 ?_
    exact zr_iret hB rfl rfl dX1_roomsFor_51
  · refine zr_sub (lv' := (fun s5 : Int32 × Int32 => [(5, .int s5.1), (6, .int s5.2), (0, .ref (ad 28))]) (0, 0)) [1, 0, 2] rfl (zr_loop (fun s5 : Int32 × Int32 => [(5, .int s5.1), (6, .int s5.2), (0, .ref (ad 28))]) (fun s5 => o4.1) (fun s5 => o4.2) (fun x6 : Int32 => [(5, .int x6)]) (fun x6 => o4.1) (fun x6 => o4.2) hx11 (fun s5 K13 hc7 hx8 => ?_) n (0, 0))
    unfold gX1_roomsFor_16
    refine zr_iload hB 1 rfl dX1_roomsFor_16 ?_
    refine zr_bipush (v := 8) hB (by decide) dX1_roomsFor_18 ?_
    refine zr_icmp_ge (tgt := 49) hB (by decide) dX1_roomsFor_20 ?_ ?_
    · exact zr_sub [0] rfl (hx8 s5.1)
    · refine zr_aload_n hB 2 rfl rfl dX1_roomsFor_23 ?_
      refine zr_get_X1 (w := 28) (k := 3) (v := .ref (ad 32)) hB rfl (by decide) rfl lf_X1_21 rfl dX1_roomsFor_24 ?_
      refine zr_iload hB 1 rfl dX1_roomsFor_27 ?_
      refine zr_iaload hB zA_32 dX1_roomsFor_29 ?_
      refine zr_iconst (v := (-1)) hB (by decide) dX1_roomsFor_30 ?_
      refine zr_icmp_eq (tgt := 43) hB (by decide) dX1_roomsFor_31 ?_ ?_
      · refine zr_iincL hB (j := 1) (n := 1) (w := 1) rfl (by decide) (by decide) dX1_roomsFor_43 (fun v14 lv' hlv => ?_)
        obtain rfl : lv' = [(6, .int v14), (5, .int s5.1), (0, .ref (ad 28))] := hlv.symm.trans rfl
        refine zr_goto (tgt := 16) hB (by decide) dX1_roomsFor_46 ?_
        exact zr_sub [1, 0, 2] rfl (hc7 (s5.1, v14))
      · refine zr_iload hB 0 rfl dX1_roomsFor_34 ?_
        refine zr_iconst (v := 1) hB (by decide) dX1_roomsFor_36 ?_
        refine zr_iload hB 1 rfl dX1_roomsFor_37 ?_
        refine zr_ishl hB dX1_roomsFor_39 ?_
        refine zr_ior hB dX1_roomsFor_40 ?_
        refine zr_letI (fun v15 => ?_)
        refine zr_istore (lv' := [(5, .int v15), (6, .int s5.2), (0, .ref (ad 28))]) hB (by decide) rfl dX1_roomsFor_41 ?_
        refine zr_iincL hB (j := 1) (n := 1) (w := 1) rfl (by decide) (by decide) dX1_roomsFor_43 (fun v16 lv' hlv => ?_)
        obtain rfl : lv' = [(6, .int v16), (5, .int v15), (0, .ref (ad 28))] := hlv.symm.trans rfl
        refine zr_goto (tgt := 16) hB (by decide) dX1_roomsFor_46 ?_
        exact zr_sub [1, 0, 2] rfl (hc7 (v15, v16))

def fX7_can (n : Nat) (a1 : Int32) (a2 : Int32) (I : zI) (L : zL) : Option (Int32 × zI × zL) :=
  zb (fX7_isOne a1 I) fun o2 =>
  if o2 = 0 then
    zb (fX7_finding (-1000001) I) fun o5 =>
    some (o5.1, o5.2, L)
  else
  zb (fX7_isThing a2 I) fun o7 =>
  if o7 = 0 then
    zb (fX7_finding (-1000001) I) fun o14 =>
    some (o14.1, o14.2, L)
  else
  zb (fX1_roomsFor n 1 a1 a2 1 I L) fun o11 =>
  some (o11.1, o11.2.1, o11.2.2)
set_option maxHeartbeats 4000000 in
set_option maxRecDepth 100000 in
theorem mX7_can {l : Launch} {D : va_G} {T : zT} {ad sK sV : Nat → Nat} (hi : zInj ad) (n : Nat) (a1 : Int32) (a2 : Int32)  (I : zI) (L : zL) : ∀ o, fX7_can n a1 a2 I L = some o → zMet l yX7_can cX7_can 3 (some .int) 5 126 D T ad sK sV [.ref (ad 0), .int a1, .int a2] I L (em_iL o) := by
  intro o ho
  refine zMet.of hi (by decide +kernel) (Nat.le_of_ble_eq_true rfl) (fun p e s m args below meth c hB => ?_)
  refine zr_top (emb := em_iL) (t := fX7_can n a1 a2 I L) ?_ ho
  unfold fX7_can
  refine zr_aload_n hB 0 rfl rfl dX7_can_0 ?_
  refine zr_iload_n hB 1 rfl rfl dX7_can_1 ?_
  refine zr_callV (st := []) (C := RX7) (As := [.int a1]) (embc := em_i0 I L) hB (mX7_isOne (sK := sK) (sV := sV) hi a1 I L) (zW_X7 rfl) rfl rfl lm_X7_109 q2_X7_isOne q3_X7_isOne q4_X7 q5_X7_isOne qd_X7_isOne (by decide) rfl rfl (Nat.le_of_ble_eq_true rfl) ⟨Nat.zero_le _, Nat.zero_le _⟩ dX7_can_2 (zr_ki0 (fun o2 => ?_))
  refine zr_ifeq (tgt := 16) hB (by decide) dX7_can_5 ?_ ?_
  · refine zr_aload_n hB 0 rfl rfl dX7_can_16 ?_
    refine zr_ldc (v := (-1000001)) hB lk_X7_55 dX7_can_17 ?_
    refine zr_callV (st := []) (C := RX7) (As := [.int (-1000001)]) (embc := em_iI L) hB (mX7_finding (sK := sK) (sV := sV) hi (-1000001) I L) (zW_X7 rfl) rfl rfl lm_X7_56 q2_X7_finding q3_X7_finding q4_X7 q5_X7_finding qd_X7_finding (by decide) rfl rfl (Nat.le_of_ble_eq_true rfl) ⟨Nat.zero_le _, Nat.zero_le _⟩ dX7_can_19 (zr_kiI (fun o5 => ?_))
    exact zr_iret hB rfl rfl dX7_can_22
  · refine zr_aload_n hB 0 rfl rfl dX7_can_8 ?_
    refine zr_iload_n hB 2 rfl rfl dX7_can_9 ?_
    refine zr_callV (st := []) (C := RX7) (As := [.int a2]) (embc := em_i0 I L) hB (mX7_isThing (sK := sK) (sV := sV) hi a2 I L) (zW_X7 rfl) rfl rfl lm_X7_84 q2_X7_isThing q3_X7_isThing q4_X7 q5_X7_isThing qd_X7_isThing (by decide) rfl rfl (Nat.le_of_ble_eq_true rfl) ⟨Nat.zero_le _, Nat.zero_le _⟩ dX7_can_10 (zr_ki0 (fun o7 => ?_))
    refine zr_ifne (tgt := 23) hB (by decide) dX7_can_13 ?_ ?_
    · refine zr_aload_n hB 0 rfl rfl dX7_can_23 ?_
      refine zr_get_X7 (w := 0) (k := 4) (v := .ref (ad 28)) hB rfl (by decide) rfl lf_X7_25 rfl dX7_can_24 ?_
      refine zr_aload_n hB 0 rfl rfl dX7_can_27 ?_
      refine zr_get_X7 (w := 0) (k := 0) (v := .ref (ad 1)) hB rfl (by decide) rfl lf_X7_12 rfl dX7_can_28 ?_
      refine zr_iload_n hB 1 rfl rfl dX7_can_31 ?_
      refine zr_iload_n hB 2 rfl rfl dX7_can_32 ?_
      refine zr_iconst (v := 1) hB (by decide) dX7_can_33 ?_
      refine zr_callV (st := []) (C := RX1) (As := [.ref (ad 1), .int a1, .int a2, .int 1]) (embc := em_iL) hB (mX1_roomsFor (sK := sK) (sV := sV) hi n 1 a1 a2 1 (Or.inl rfl) I L) (zW_X1 rfl) rfl rfl lm_X7_205 q2_X1_roomsFor q3_X1_roomsFor q4_X1 q5_X1_roomsFor qd_X1_roomsFor (by decide) rfl rfl (Nat.le_of_ble_eq_true rfl) ⟨Nat.zero_le _, Nat.zero_le _⟩ dX7_can_34 (zr_kiL (fun o11 => ?_))
      exact zr_iret hB rfl rfl dX7_can_37
    · refine zr_aload_n hB 0 rfl rfl dX7_can_16 ?_
      refine zr_ldc (v := (-1000001)) hB lk_X7_55 dX7_can_17 ?_
      refine zr_callV (st := []) (C := RX7) (As := [.int (-1000001)]) (embc := em_iI L) hB (mX7_finding (sK := sK) (sV := sV) hi (-1000001) I L) (zW_X7 rfl) rfl rfl lm_X7_56 q2_X7_finding q3_X7_finding q4_X7 q5_X7_finding qd_X7_finding (by decide) rfl rfl (Nat.le_of_ble_eq_true rfl) ⟨Nat.zero_le _, Nat.zero_le _⟩ dX7_can_19 (zr_kiI (fun o14 => ?_))
      exact zr_iret hB rfl rfl dX7_can_22

def fX7_above (n : Nat) (a1 : Int32) (a2 : Int32) (I : zI) (L : zL) : Option (Int32 × zI × zL) :=
  zb (fX7_isOne a1 I) fun o2 =>
  if o2 = 0 then
    zb (fX7_finding (-1000001) I) fun o5 =>
    some (o5.1, o5.2, L)
  else
  zb (fX7_isThing a2 I) fun o7 =>
  if o7 = 0 then
    zb (fX7_finding (-1000001) I) fun o18 =>
    some (o18.1, o18.2, L)
  else
  zb (fX1_roomsFor n 1 a1 a2 1 I L) fun o11 =>
  zb (fX1_roomsFor n 1 a1 a2 0 o11.2.1 o11.2.2) fun o15 =>
  some (o11.1 &&& (o15.1 ^^^ (-1)), o15.2.1, o15.2.2)
set_option maxHeartbeats 4000000 in
set_option maxRecDepth 100000 in
theorem mX7_above {l : Launch} {D : va_G} {T : zT} {ad sK sV : Nat → Nat} (hi : zInj ad) (n : Nat) (a1 : Int32) (a2 : Int32)  (I : zI) (L : zL) : ∀ o, fX7_above n a1 a2 I L = some o → zMet l yX7_above cX7_above 4 (some .int) 5 126 D T ad sK sV [.ref (ad 0), .int a1, .int a2] I L (em_iL o) := by
  intro o ho
  refine zMet.of hi (by decide +kernel) (Nat.le_of_ble_eq_true rfl) (fun p e s m args below meth c hB => ?_)
  refine zr_top (emb := em_iL) (t := fX7_above n a1 a2 I L) ?_ ho
  unfold fX7_above
  refine zr_aload_n hB 0 rfl rfl dX7_above_0 ?_
  refine zr_iload_n hB 1 rfl rfl dX7_above_1 ?_
  refine zr_callV (st := []) (C := RX7) (As := [.int a1]) (embc := em_i0 I L) hB (mX7_isOne (sK := sK) (sV := sV) hi a1 I L) (zW_X7 rfl) rfl rfl lm_X7_109 q2_X7_isOne q3_X7_isOne q4_X7 q5_X7_isOne qd_X7_isOne (by decide) rfl rfl (Nat.le_of_ble_eq_true rfl) ⟨Nat.zero_le _, Nat.zero_le _⟩ dX7_above_2 (zr_ki0 (fun o2 => ?_))
  refine zr_ifeq (tgt := 16) hB (by decide) dX7_above_5 ?_ ?_
  · refine zr_aload_n hB 0 rfl rfl dX7_above_16 ?_
    refine zr_ldc (v := (-1000001)) hB lk_X7_55 dX7_above_17 ?_
    refine zr_callV (st := []) (C := RX7) (As := [.int (-1000001)]) (embc := em_iI L) hB (mX7_finding (sK := sK) (sV := sV) hi (-1000001) I L) (zW_X7 rfl) rfl rfl lm_X7_56 q2_X7_finding q3_X7_finding q4_X7 q5_X7_finding qd_X7_finding (by decide) rfl rfl (Nat.le_of_ble_eq_true rfl) ⟨Nat.zero_le _, Nat.zero_le _⟩ dX7_above_19 (zr_kiI (fun o5 => ?_))
    exact zr_iret hB rfl rfl dX7_above_22
  · refine zr_aload_n hB 0 rfl rfl dX7_above_8 ?_
    refine zr_iload_n hB 2 rfl rfl dX7_above_9 ?_
    refine zr_callV (st := []) (C := RX7) (As := [.int a2]) (embc := em_i0 I L) hB (mX7_isThing (sK := sK) (sV := sV) hi a2 I L) (zW_X7 rfl) rfl rfl lm_X7_84 q2_X7_isThing q3_X7_isThing q4_X7 q5_X7_isThing qd_X7_isThing (by decide) rfl rfl (Nat.le_of_ble_eq_true rfl) ⟨Nat.zero_le _, Nat.zero_le _⟩ dX7_above_10 (zr_ki0 (fun o7 => ?_))
    refine zr_ifne (tgt := 23) hB (by decide) dX7_above_13 ?_ ?_
    · refine zr_aload_n hB 0 rfl rfl dX7_above_23 ?_
      refine zr_get_X7 (w := 0) (k := 4) (v := .ref (ad 28)) hB rfl (by decide) rfl lf_X7_25 rfl dX7_above_24 ?_
      refine zr_aload_n hB 0 rfl rfl dX7_above_27 ?_
      refine zr_get_X7 (w := 0) (k := 0) (v := .ref (ad 1)) hB rfl (by decide) rfl lf_X7_12 rfl dX7_above_28 ?_
      refine zr_iload_n hB 1 rfl rfl dX7_above_31 ?_
      refine zr_iload_n hB 2 rfl rfl dX7_above_32 ?_
      refine zr_iconst (v := 1) hB (by decide) dX7_above_33 ?_
      refine zr_callV (st := []) (C := RX1) (As := [.ref (ad 1), .int a1, .int a2, .int 1]) (embc := em_iL) hB (mX1_roomsFor (sK := sK) (sV := sV) hi n 1 a1 a2 1 (Or.inl rfl) I L) (zW_X1 rfl) rfl rfl lm_X7_205 q2_X1_roomsFor q3_X1_roomsFor q4_X1 q5_X1_roomsFor qd_X1_roomsFor (by decide) rfl rfl (Nat.le_of_ble_eq_true rfl) ⟨Nat.zero_le _, Nat.zero_le _⟩ dX7_above_34 (zr_kiL (fun o11 => ?_))
      refine zr_istore_n (lv' := [(3, .int o11.1), (0, .ref (ad 0)), (1, .int a1), (2, .int a2)]) hB rfl (by decide) rfl dX7_above_37 ?_
      refine zr_iload_n hB 0 rfl rfl dX7_above_38 ?_
      refine zr_aload_n hB 1 rfl rfl dX7_above_39 ?_
      refine zr_get_X7 (w := 0) (k := 4) (v := .ref (ad 28)) hB rfl (by decide) rfl lf_X7_25 rfl dX7_above_40 ?_
      refine zr_aload_n hB 1 rfl rfl dX7_above_43 ?_
      refine zr_get_X7 (w := 0) (k := 0) (v := .ref (ad 1)) hB rfl (by decide) rfl lf_X7_12 rfl dX7_above_44 ?_
      refine zr_iload_n hB 2 rfl rfl dX7_above_47 ?_
      refine zr_iload_n hB 3 rfl rfl dX7_above_48 ?_
      refine zr_iconst (v := 0) hB (by decide) dX7_above_49 ?_
      refine zr_callV (st := [.int o11.1]) (C := RX1) (As := [.ref (ad 1), .int a1, .int a2, .int 0]) (embc := em_iL) hB (mX1_roomsFor (sK := sK) (sV := sV) hi n 1 a1 a2 0 (Or.inl rfl) o11.2.1 o11.2.2) (zW_X1 rfl) rfl rfl lm_X7_205 q2_X1_roomsFor q3_X1_roomsFor q4_X1 q5_X1_roomsFor qd_X1_roomsFor (by decide) rfl rfl (Nat.le_of_ble_eq_true rfl) ⟨Nat.zero_le _, Nat.zero_le _⟩ dX7_above_50 (zr_kiL (fun o15 => ?_))
      refine zr_iconst (v := (-1)) hB (by decide) dX7_above_53 ?_
      refine zr_ixor hB dX7_above_54 ?_
      refine zr_iand hB dX7_above_55 ?_
      exact zr_iret hB rfl rfl dX7_above_56
    · refine zr_aload_n hB 0 rfl rfl dX7_above_16 ?_
      refine zr_ldc (v := (-1000001)) hB lk_X7_55 dX7_above_17 ?_
      refine zr_callV (st := []) (C := RX7) (As := [.int (-1000001)]) (embc := em_iI L) hB (mX7_finding (sK := sK) (sV := sV) hi (-1000001) I L) (zW_X7 rfl) rfl rfl lm_X7_56 q2_X7_finding q3_X7_finding q4_X7 q5_X7_finding qd_X7_finding (by decide) rfl rfl (Nat.le_of_ble_eq_true rfl) ⟨Nat.zero_le _, Nat.zero_le _⟩ dX7_above_19 (zr_kiI (fun o18 => ?_))
      exact zr_iret hB rfl rfl dX7_above_22

def fX6_become (w : Nat) (a1 : Nat) (I : zI) : Option (zI) :=
  zgc 0 0 8 8 8 (
  zl (zset I (w + 1) (va_cpy (I (a1 + 1)) (I (w + 1)) (zn 0) (zn 0) (zn 8))) fun J1 =>
  zl (zup J1 w 1 (J1 a1 1)) fun J2 =>
  zl (zup J2 w 2 (J2 a1 2)) fun J3 =>
  zl (zup J3 w 3 (J3 a1 3)) fun J4 =>
  zl (zup J4 w 4 (J4 a1 4)) fun J5 =>
  zgc 0 0 8 8 8 (
  zl (zset J5 (w + 2) (va_cpy (J5 (a1 + 2)) (J5 (w + 2)) (zn 0) (zn 0) (zn 8))) fun J6 =>
  zgc 0 0 8 8 8 (
  zl (zset J6 (w + 3) (va_cpy (J6 (a1 + 3)) (J6 (w + 3)) (zn 0) (zn 0) (zn 8))) fun J7 =>
  zgc 0 0 8 8 8 (
  zl (zset J7 (w + 4) (va_cpy (J7 (a1 + 4)) (J7 (w + 4)) (zn 0) (zn 0) (zn 8))) fun J8 =>
  zl (zup J8 w 8 (J8 a1 8)) fun J9 =>
  zgc 0 0 4 4 4 (
  zl (zset J9 (w + 5) (va_cpy (J9 (a1 + 5)) (J9 (w + 5)) (zn 0) (zn 0) (zn 4))) fun J10 =>
  zgc 0 0 4 4 4 (
  zl (zset J10 (w + 6) (va_cpy (J10 (a1 + 6)) (J10 (w + 6)) (zn 0) (zn 0) (zn 4))) fun J11 =>
  zl (zup J11 w 11 (J11 a1 11)) fun J12 =>
  zl (zup J12 w 12 (J12 a1 12)) fun J13 =>
  zl (zup J13 w 13 (J13 a1 13)) fun J14 =>
  zgc 0 0 60 60 60 (
  zl (zset J14 (w + 7) (va_cpy (J14 (a1 + 7)) (J14 (w + 7)) (zn 0) (zn 0) (zn 60))) fun J15 =>
  zl (zup J15 w 15 (J15 a1 15)) fun J16 =>
  zl (zup J16 w 16 (J16 a1 16)) fun J17 =>
  zgc 0 0 10 10 10 (
  zl (zset J17 (w + 8) (va_cpy (J17 (a1 + 8)) (J17 (w + 8)) (zn 0) (zn 0) (zn 10))) fun J18 =>
  some J18))))))))
set_option maxHeartbeats 4000000 in
set_option maxRecDepth 100000 in
theorem mX6_become {l : Launch} {D : va_G} {T : zT} {ad sK sV : Nat → Nat} (hi : zInj ad) (w : Nat) (a1 : Nat) (hw : zO_X6 w) (ha1 : zO_X6 a1) (I : zI) (L : zL) : ∀ o, fX6_become w a1 I = some o → zMet l yX6_become cX6_become 2 none 1 40 D T ad sK sV [.ref (ad w), .ref (ad a1)] I L (em_vI L o) := by
  intro o ho
  refine zMet.of hi (by decide +kernel) (Nat.le_of_ble_eq_true rfl) (fun p e s m args below meth c hB => ?_)
  refine zr_top (emb := em_vI L) (t := fX6_become w a1 I) ?_ ho
  unfold fX6_become
  refine zr_aload_n hB 1 rfl rfl dX6_become_0 ?_
  refine zr_get_X6 (w := a1) (k := 0) (v := .ref (ad (a1 + 1))) hB ha1 (by decide) rfl lf_X6_9 rfl dX6_become_1 ?_
  refine zr_iconst (v := 0) hB (by decide) dX6_become_4 ?_
  refine zr_aload_n hB 0 rfl rfl dX6_become_5 ?_
  refine zr_get_X6 (w := w) (k := 0) (v := .ref (ad (w + 1))) hB hw (by decide) rfl lf_X6_9 rfl dX6_become_6 ?_
  refine zr_iconst (v := 0) hB (by decide) dX6_become_9 ?_
  refine zr_bipush (v := 8) hB (by decide) dX6_become_10 ?_
  refine zr_copy hB (zA_X6_1 ha1) (zA_X6_1 hw) (by decide) (by decide) (Nat.le_of_ble_eq_true rfl) lm_X6_43 dX6_become_12 ?_
  refine zr_letM (fun J1 => ?_)
  refine zr_aload_n hB 0 rfl rfl dX6_become_15 ?_
  refine zr_aload_n hB 1 rfl rfl dX6_become_16 ?_
  refine zr_get_X6 (w := a1) (k := 1) (v := .int (J1 a1 1)) hB ha1 (by decide) rfl lf_X6_15 rfl dX6_become_17 ?_
  refine zr_put_X6 (w := w) (k := 1) hB hw (by decide) rfl rfl rfl lf_X6_15 rfl dX6_become_20 ?_
  refine zr_letM (fun J2 => ?_)
  refine zr_aload_n hB 0 rfl rfl dX6_become_23 ?_
  refine zr_aload_n hB 1 rfl rfl dX6_become_24 ?_
  refine zr_get_X6 (w := a1) (k := 2) (v := .int (J2 a1 2)) hB ha1 (by decide) rfl lf_X6_49 rfl dX6_become_25 ?_
  refine zr_put_X6 (w := w) (k := 2) hB hw (by decide) rfl rfl rfl lf_X6_49 rfl dX6_become_28 ?_
  refine zr_letM (fun J3 => ?_)
  refine zr_aload_n hB 0 rfl rfl dX6_become_31 ?_
  refine zr_aload_n hB 1 rfl rfl dX6_become_32 ?_
  refine zr_get_X6 (w := a1) (k := 3) (v := .int (J3 a1 3)) hB ha1 (by decide) rfl lf_X6_52 rfl dX6_become_33 ?_
  refine zr_put_X6 (w := w) (k := 3) hB hw (by decide) rfl rfl rfl lf_X6_52 rfl dX6_become_36 ?_
  refine zr_letM (fun J4 => ?_)
  refine zr_aload_n hB 0 rfl rfl dX6_become_39 ?_
  refine zr_aload_n hB 1 rfl rfl dX6_become_40 ?_
  refine zr_get_X6 (w := a1) (k := 4) (v := .int (J4 a1 4)) hB ha1 (by decide) rfl lf_X6_55 rfl dX6_become_41 ?_
  refine zr_put_X6 (w := w) (k := 4) hB hw (by decide) rfl rfl rfl lf_X6_55 rfl dX6_become_44 ?_
  refine zr_letM (fun J5 => ?_)
  refine zr_aload_n hB 1 rfl rfl dX6_become_47 ?_
  refine zr_get_X6 (w := a1) (k := 5) (v := .ref (ad (a1 + 2))) hB ha1 (by decide) rfl lf_X6_19 rfl dX6_become_48 ?_
  refine zr_iconst (v := 0) hB (by decide) dX6_become_51 ?_
  refine zr_aload_n hB 0 rfl rfl dX6_become_52 ?_
  refine zr_get_X6 (w := w) (k := 5) (v := .ref (ad (w + 2))) hB hw (by decide) rfl lf_X6_19 rfl dX6_become_53 ?_
  refine zr_iconst (v := 0) hB (by decide) dX6_become_56 ?_
  refine zr_bipush (v := 8) hB (by decide) dX6_become_57 ?_
  refine zr_copy hB (zA_X6_2 ha1) (zA_X6_2 hw) (by decide) (by decide) (Nat.le_of_ble_eq_true rfl) lm_X6_43 dX6_become_59 ?_
  refine zr_letM (fun J6 => ?_)
  refine zr_aload_n hB 1 rfl rfl dX6_become_62 ?_
  refine zr_get_X6 (w := a1) (k := 6) (v := .ref (ad (a1 + 3))) hB ha1 (by decide) rfl lf_X6_22 rfl dX6_become_63 ?_
  refine zr_iconst (v := 0) hB (by decide) dX6_become_66 ?_
  refine zr_aload_n hB 0 rfl rfl dX6_become_67 ?_
  refine zr_get_X6 (w := w) (k := 6) (v := .ref (ad (w + 3))) hB hw (by decide) rfl lf_X6_22 rfl dX6_become_68 ?_
  refine zr_iconst (v := 0) hB (by decide) dX6_become_71 ?_
  refine zr_bipush (v := 8) hB (by decide) dX6_become_72 ?_
  refine zr_copy hB (zA_X6_3 ha1) (zA_X6_3 hw) (by decide) (by decide) (Nat.le_of_ble_eq_true rfl) lm_X6_43 dX6_become_74 ?_
  refine zr_letM (fun J7 => ?_)
  refine zr_aload_n hB 1 rfl rfl dX6_become_77 ?_
  refine zr_get_X6 (w := a1) (k := 7) (v := .ref (ad (a1 + 4))) hB ha1 (by decide) rfl lf_X6_25 rfl dX6_become_78 ?_
  refine zr_iconst (v := 0) hB (by decide) dX6_become_81 ?_
  refine zr_aload_n hB 0 rfl rfl dX6_become_82 ?_
  refine zr_get_X6 (w := w) (k := 7) (v := .ref (ad (w + 4))) hB hw (by decide) rfl lf_X6_25 rfl dX6_become_83 ?_
  refine zr_iconst (v := 0) hB (by decide) dX6_become_86 ?_
  refine zr_bipush (v := 8) hB (by decide) dX6_become_87 ?_
  refine zr_copy hB (zA_X6_4 ha1) (zA_X6_4 hw) (by decide) (by decide) (Nat.le_of_ble_eq_true rfl) lm_X6_43 dX6_become_89 ?_
  refine zr_letM (fun J8 => ?_)
  refine zr_aload_n hB 0 rfl rfl dX6_become_92 ?_
  refine zr_aload_n hB 1 rfl rfl dX6_become_93 ?_
  refine zr_get_X6 (w := a1) (k := 8) (v := .int (J8 a1 8)) hB ha1 (by decide) rfl lf_X6_58 rfl dX6_become_94 ?_
  refine zr_put_X6 (w := w) (k := 8) hB hw (by decide) rfl rfl rfl lf_X6_58 rfl dX6_become_97 ?_
  refine zr_letM (fun J9 => ?_)
  refine zr_aload_n hB 1 rfl rfl dX6_become_100 ?_
  refine zr_get_X6 (w := a1) (k := 9) (v := .ref (ad (a1 + 5))) hB ha1 (by decide) rfl lf_X6_28 rfl dX6_become_101 ?_
  refine zr_iconst (v := 0) hB (by decide) dX6_become_104 ?_
  refine zr_aload_n hB 0 rfl rfl dX6_become_105 ?_
  refine zr_get_X6 (w := w) (k := 9) (v := .ref (ad (w + 5))) hB hw (by decide) rfl lf_X6_28 rfl dX6_become_106 ?_
  refine zr_iconst (v := 0) hB (by decide) dX6_become_109 ?_
  refine zr_iconst (v := 4) hB (by decide) dX6_become_110 ?_
  refine zr_copy hB (zA_X6_5 ha1) (zA_X6_5 hw) (by decide) (by decide) (Nat.le_of_ble_eq_true rfl) lm_X6_43 dX6_become_111 ?_
  refine zr_letM (fun J10 => ?_)
  refine zr_aload_n hB 1 rfl rfl dX6_become_114 ?_
  refine zr_get_X6 (w := a1) (k := 10) (v := .ref (ad (a1 + 6))) hB ha1 (by decide) rfl lf_X6_31 rfl dX6_become_115 ?_
  refine zr_iconst (v := 0) hB (by decide) dX6_become_118 ?_
  refine zr_aload_n hB 0 rfl rfl dX6_become_119 ?_
  refine zr_get_X6 (w := w) (k := 10) (v := .ref (ad (w + 6))) hB hw (by decide) rfl lf_X6_31 rfl dX6_become_120 ?_
  refine zr_iconst (v := 0) hB (by decide) dX6_become_123 ?_
  refine zr_iconst (v := 4) hB (by decide) dX6_become_124 ?_
  refine zr_copy hB (zA_X6_6 ha1) (zA_X6_6 hw) (by decide) (by decide) (Nat.le_of_ble_eq_true rfl) lm_X6_43 dX6_become_125 ?_
  refine zr_letM (fun J11 => ?_)
  refine zr_aload_n hB 0 rfl rfl dX6_become_128 ?_
  refine zr_aload_n hB 1 rfl rfl dX6_become_129 ?_
  refine zr_get_X6 (w := a1) (k := 11) (v := .int (J11 a1 11)) hB ha1 (by decide) rfl lf_X6_61 rfl dX6_become_130 ?_
  refine zr_put_X6 (w := w) (k := 11) hB hw (by decide) rfl rfl rfl lf_X6_61 rfl dX6_become_133 ?_
  refine zr_letM (fun J12 => ?_)
  refine zr_aload_n hB 0 rfl rfl dX6_become_136 ?_
  refine zr_aload_n hB 1 rfl rfl dX6_become_137 ?_
  refine zr_get_X6 (w := a1) (k := 12) (v := .int (J12 a1 12)) hB ha1 (by decide) rfl lf_X6_64 rfl dX6_become_138 ?_
  refine zr_put_X6 (w := w) (k := 12) hB hw (by decide) rfl rfl rfl lf_X6_64 rfl dX6_become_141 ?_
  refine zr_letM (fun J13 => ?_)
  refine zr_aload_n hB 0 rfl rfl dX6_become_144 ?_
  refine zr_aload_n hB 1 rfl rfl dX6_become_145 ?_
  refine zr_get_X6 (w := a1) (k := 13) (v := .int (J13 a1 13)) hB ha1 (by decide) rfl lf_X6_67 rfl dX6_become_146 ?_
  refine zr_put_X6 (w := w) (k := 13) hB hw (by decide) rfl rfl rfl lf_X6_67 rfl dX6_become_149 ?_
  refine zr_letM (fun J14 => ?_)
  refine zr_aload_n hB 1 rfl rfl dX6_become_152 ?_
  refine zr_get_X6 (w := a1) (k := 14) (v := .ref (ad (a1 + 7))) hB ha1 (by decide) rfl lf_X6_34 rfl dX6_become_153 ?_
  refine zr_iconst (v := 0) hB (by decide) dX6_become_156 ?_
  refine zr_aload_n hB 0 rfl rfl dX6_become_157 ?_
  refine zr_get_X6 (w := w) (k := 14) (v := .ref (ad (w + 7))) hB hw (by decide) rfl lf_X6_34 rfl dX6_become_158 ?_
  refine zr_iconst (v := 0) hB (by decide) dX6_become_161 ?_
  refine zr_bipush (v := 60) hB (by decide) dX6_become_162 ?_
  refine zr_copy hB (zA_X6_7 ha1) (zA_X6_7 hw) (by decide) (by decide) (Nat.le_of_ble_eq_true rfl) lm_X6_43 dX6_become_164 ?_
  refine zr_letM (fun J15 => ?_)
  refine zr_aload_n hB 0 rfl rfl dX6_become_167 ?_
  refine zr_aload_n hB 1 rfl rfl dX6_become_168 ?_
  refine zr_get_X6 (w := a1) (k := 15) (v := .int (J15 a1 15)) hB ha1 (by decide) rfl lf_X6_70 rfl dX6_become_169 ?_
  refine zr_put_X6 (w := w) (k := 15) hB hw (by decide) rfl rfl rfl lf_X6_70 rfl dX6_become_172 ?_
  refine zr_letM (fun J16 => ?_)
  refine zr_aload_n hB 0 rfl rfl dX6_become_175 ?_
  refine zr_aload_n hB 1 rfl rfl dX6_become_176 ?_
  refine zr_get_X6 (w := a1) (k := 16) (v := .int (J16 a1 16)) hB ha1 (by decide) rfl lf_X6_37 rfl dX6_become_177 ?_
  refine zr_put_X6 (w := w) (k := 16) hB hw (by decide) rfl rfl rfl lf_X6_37 rfl dX6_become_180 ?_
  refine zr_letM (fun J17 => ?_)
  refine zr_aload_n hB 1 rfl rfl dX6_become_183 ?_
  refine zr_get_X6 (w := a1) (k := 17) (v := .ref (ad (a1 + 8))) hB ha1 (by decide) rfl lf_X6_40 rfl dX6_become_184 ?_
  refine zr_iconst (v := 0) hB (by decide) dX6_become_187 ?_
  refine zr_aload_n hB 0 rfl rfl dX6_become_188 ?_
  refine zr_get_X6 (w := w) (k := 17) (v := .ref (ad (w + 8))) hB hw (by decide) rfl lf_X6_40 rfl dX6_become_189 ?_
  refine zr_iconst (v := 0) hB (by decide) dX6_become_192 ?_
  refine zr_bipush (v := 10) hB (by decide) dX6_become_193 ?_
  refine zr_copy hB (zA_X6_8 ha1) (zA_X6_8 hw) (by decide) (by decide) (Nat.le_of_ble_eq_true rfl) lm_X6_43 dX6_become_195 ?_
  refine zr_letM (fun J18 => ?_)
  exact zr_vret hB rfl rfl dX6_become_198

def gX6_weighsSomewhere_2 (w : Nat) (a1 : Int32) (a2 : Int32) (I : zI) (s1 : Int32) : Option ((Int32) ⊕ ((Int32) ⊕ (Unit))) :=
  if 5 ≤ s1 then
    some (.inr (.inr ()))
  else
  zb (fX6_weightIn w a1 s1 I) fun o11 =>
  if o11 = a2 then
    some (.inr (.inl 1))
  else
  zl (s1 + 1) fun v12 =>
  some (.inl v12)
def fX6_weighsSomewhere (n : Nat) (w : Nat) (a1 : Int32) (a2 : Int32) (I : zI) : Option (Int32) :=
  zbs (zit (gX6_weighsSomewhere_2 w a1 a2 I) n 0) fun x2 : Unit =>
  some 0
set_option maxHeartbeats 4000000 in
set_option maxRecDepth 100000 in
theorem mX6_weighsSomewhere {l : Launch} {D : va_G} {T : zT} {ad sK sV : Nat → Nat} (hi : zInj ad) (n : Nat) (w : Nat) (a1 : Int32) (a2 : Int32) (hw : zO_X6 w) (I : zI) (L : zL) : ∀ o, fX6_weighsSomewhere n w a1 a2 I = some o → zMet l yX6_weighsSomewhere cX6_weighsSomewhere 4 (some .boolean) 2 45 D T ad sK sV [.ref (ad w), .int a1, .int a2] I L (em_i0 I L o) := by
  intro o ho
  refine zMet.of hi (by decide +kernel) (Nat.le_of_ble_eq_true rfl) (fun p e s m args below meth c hB => ?_)
  refine zr_top (emb := em_i0 I L) (t := fX6_weighsSomewhere n w a1 a2 I) ?_ ho
  unfold fX6_weighsSomewhere
  refine zr_iconst (v := 0) hB (by decide) dX6_weighsSomewhere_0 ?_
  refine zr_istore_n (lv' := [(3, .int 0), (0, .ref (ad w)), (1, .int a1), (2, .int a2)]) hB rfl (by decide) rfl dX6_weighsSomewhere_1 ?_
  refine zr_joins (pcJ := 25) (fun x2 : Unit => []) (fun _ => []) (fun x2 => I) (fun x2 => L) (fun x2 => ?_) (fun K8 hi6 hx7 => ?_)
  · refine zr_iconst (v := 0) hB (by decide) dX6_weighsSomewhere_25 ?_
    exact zr_zretC (by decide) hB rfl rfl dX6_weighsSomewhere_26
  · refine zr_sub (lv' := (fun s1 : Int32 => [(3, .int s1), (0, .ref (ad w)), (1, .int a1), (2, .int a2)]) 0) [0, 1, 2, 3] rfl (zr_loops (fun s1 : Int32 => [(3, .int s1), (0, .ref (ad w)), (1, .int a1), (2, .int a2)]) (fun s1 => I) (fun s1 => L) (fun x2 : Unit => []) (fun x2 => I) (fun x2 => L) hi6 hx7 (fun s1 K9 hc3 hi5 hx4 => ?_) n 0)
    unfold gX6_weighsSomewhere_2
    refine zr_iload_n hB 0 rfl rfl dX6_weighsSomewhere_2 ?_
    refine zr_iconst (v := 5) hB (by decide) dX6_weighsSomewhere_3 ?_
    refine zr_icmp_ge (tgt := 25) hB (by decide) dX6_weighsSomewhere_4 ?_ ?_
    · exact zr_sub [] rfl (hx4 ())
    · refine zr_aload_n hB 1 rfl rfl dX6_weighsSomewhere_7 ?_
      refine zr_iload_n hB 2 rfl rfl dX6_weighsSomewhere_8 ?_
      refine zr_iload_n hB 0 rfl rfl dX6_weighsSomewhere_9 ?_
      refine zr_callV (st := []) (C := RX6) (As := [.int a1, .int s1]) (embc := em_i0 I L) hB (mX6_weightIn (sK := sK) (sV := sV) hi w a1 s1 hw I L) (zW_X6 hw) rfl rfl lm_X6_80 q2_X6_weightIn q3_X6_weightIn q4_X6 q5_X6_weightIn qd_X6_weightIn (by decide) rfl rfl (Nat.le_of_ble_eq_true rfl) ⟨Nat.zero_le _, Nat.zero_le _⟩ dX6_weighsSomewhere_10 (zr_ki0 (fun o11 => ?_))
      refine zr_iload_n hB 3 rfl rfl dX6_weighsSomewhere_13 ?_
      refine zr_icmp_ne (tgt := 19) hB (by decide) dX6_weighsSomewhere_14 ?_ ?_
      · refine zr_iincL hB (j := 0) (n := 1) (w := 1) rfl (by decide) (by decide) dX6_weighsSomewhere_19 (fun v12 lv' hlv => ?_)
        obtain rfl : lv' = [(3, .int v12), (0, .ref (ad w)), (1, .int a1), (2, .int a2)] := hlv.symm.trans rfl
        refine zr_goto (tgt := 2) hB (by decide) dX6_weighsSomewhere_22 ?_
        exact zr_sub [0, 1, 2, 3] rfl (hc3 v12)
      · refine zr_iconst (v := 1) hB (by decide) dX6_weighsSomewhere_17 ?_
        refine hi5 _ _ _ _ _ _ ?_
        exact zr_zretC (by decide) hB rfl rfl dX6_weighsSomewhere_18

def gX7_strong_31 (n : Nat) (a1 : Int32) (a2 : Int32) (a3 : Int32) (s6 : Int32 × zI × zL) : Option ((Int32 × zI × zL) ⊕ ((Int32 × zI × zL) ⊕ (zI × zL))) :=
  if 60 < s6.1 then
    some (.inr (.inr (s6.2.1, s6.2.2)))
  else
  zbs (
    if s6.1 = 0 then
      some (.inr ())
    else
    zb (fX6_weighsSomewhere n 19 a2 s6.1 s6.2.1) fun o20 =>
    if o20 = 0 then
      zl (s6.1 + 1) fun v21 =>
      some (.inl (.inl (v21, s6.2.1, s6.2.2)))
    else
    some (.inr ())) fun x15 : Unit =>
  zg a1 4 (
  zl (zup s6.2.1 25 (zn a1) s6.1) fun J22 =>
  zb (fX1_fewestFor n 19 a1 a2 a3 J22 s6.2.2) fun o26 =>
  if o26.1 = (-1) then
    zl (s6.1 + 1) fun v27 =>
    some (.inl (v27, o26.2.1, o26.2.2))
  else
  some (.inr (.inl (s6.1, o26.2.1, o26.2.2))))
def fX7_strong (n : Nat) (a1 : Int32) (a2 : Int32) (a3 : Int32) (I : zI) (L : zL) : Option (Int32 × zI × zL) :=
  zb (fX7_isTask a1 a2 a3 I) fun o2 =>
  if o2 = 0 then
    zb (fX7_finding (-1000001) I) fun o33 =>
    some (o33.1, o33.2, L)
  else
  zb (fX6_become 19 1 I) fun o5 =>
  zbs (zit (gX7_strong_31 n a1 a2 a3) n (0, o5, L)) fun x7 : zI × zL =>
  zb (fX7_finding (-1000004) x7.1) fun o30 =>
  some (o30.1, o30.2, x7.2)
set_option maxHeartbeats 4000000 in
set_option maxRecDepth 100000 in
theorem mX7_strong {l : Launch} {D : va_G} {T : zT} {ad sK sV : Nat → Nat} (hi : zInj ad) (n : Nat) (a1 : Int32) (a2 : Int32) (a3 : Int32)  (I : zI) (L : zL) : ∀ o, fX7_strong n a1 a2 a3 I L = some o → zMet l yX7_strong cX7_strong 5 (some .int) 5 124 D T ad sK sV [.ref (ad 0), .int a1, .int a2, .int a3] I L (em_iL o) := by
  intro o ho
  refine zMet.of hi (by decide +kernel) (Nat.le_of_ble_eq_true rfl) (fun p e s m args below meth c hB => ?_)
  refine zr_top (emb := em_iL) (t := fX7_strong n a1 a2 a3 I L) ?_ ho
  unfold fX7_strong
  refine zr_aload_n hB 0 rfl rfl dX7_strong_0 ?_
  refine zr_iload_n hB 1 rfl rfl dX7_strong_1 ?_
  refine zr_iload_n hB 2 rfl rfl dX7_strong_2 ?_
  refine zr_iload_n hB 3 rfl rfl dX7_strong_3 ?_
  refine zr_callV (st := []) (C := RX7) (As := [.int a1, .int a2, .int a3]) (embc := em_i0 I L) hB (mX7_isTask (sK := sK) (sV := sV) hi a1 a2 a3 I L) (zW_X7 rfl) rfl rfl lm_X7_195 q2_X7_isTask q3_X7_isTask q4_X7 q5_X7_isTask qd_X7_isTask (by decide) rfl rfl (Nat.le_of_ble_eq_true rfl) ⟨Nat.zero_le _, Nat.zero_le _⟩ dX7_strong_4 (zr_ki0 (fun o2 => ?_))
  refine zr_ifne (tgt := 17) hB (by decide) dX7_strong_7 ?_ ?_
  · refine zr_aload_n hB 0 rfl rfl dX7_strong_17 ?_
    refine zr_get_X7 (w := 0) (k := 2) (v := .ref (ad 19)) hB rfl (by decide) rfl lf_X7_19 rfl dX7_strong_18 ?_
    refine zr_aload_n hB 0 rfl rfl dX7_strong_21 ?_
    refine zr_get_X7 (w := 0) (k := 0) (v := .ref (ad 1)) hB rfl (by decide) rfl lf_X7_12 rfl dX7_strong_22 ?_
    refine zr_callV (st := []) (C := RX6) (As := [.ref (ad 1)]) (embc := em_vI L) hB (mX6_become (sK := sK) (sV := sV) hi 19 1 (Or.inr (Or.inr rfl)) (Or.inl rfl) I L) (zW_X6 (Or.inr (Or.inr rfl))) rfl rfl lm_X7_209 q2_X6_become q3_X6_become q4_X6 q5_X6_become qd_X6_become (by decide) rfl rfl (Nat.le_of_ble_eq_true rfl) ⟨Nat.zero_le _, Nat.zero_le _⟩ dX7_strong_25 (zr_kvI (fun o5 => ?_))
    refine zr_iconst (v := 0) hB (by decide) dX7_strong_28 ?_
    refine zr_istore (lv' := [(4, .int 0), (0, .ref (ad 0)), (1, .int a1), (2, .int a2), (3, .int a3)]) hB (by decide) rfl dX7_strong_29 ?_
    refine zr_joins (pcJ := 94) (fun x7 : zI × zL => [(0, .ref (ad 0))]) (fun _ => []) (fun x7 => x7.1) (fun x7 => x7.2) (fun x7 => ?_) (fun K13 hi11 hx12 => ?_)
    · refine zr_aload_n hB 0 rfl rfl dX7_strong_94 ?_
      refine zr_ldc (v := (-1000004)) hB lk_X7_180 dX7_strong_95 ?_
      refine zr_callV (st := []) (C := RX7) (As := [.int (-1000004)]) (embc := em_iI x7.2) hB (mX7_finding (sK := sK) (sV := sV) hi (-1000004) x7.1 x7.2) (zW_X7 rfl) rfl rfl lm_X7_56 q2_X7_finding q3_X7_finding q4_X7 q5_X7_finding qd_X7_finding (by decide) rfl rfl (Nat.le_of_ble_eq_true rfl) ⟨Nat.zero_le _, Nat.zero_le _⟩ dX7_strong_97 (zr_kiI (fun o30 => ?_))
      exact zr_iret hB rfl rfl dX7_strong_100
    · refine zr_sub (lv' := (fun s6 : Int32 × zI × zL => [(4, .int s6.1), (0, .ref (ad 0)), (1, .int a1), (2, .int a2), (3, .int a3)]) (0, o5, L)) [0, 1, 2, 3, 4] rfl (zr_loops (fun s6 : Int32 × zI × zL => [(4, .int s6.1), (0, .ref (ad 0)), (1, .int a1), (2, .int a2), (3, .int a3)]) (fun s6 => s6.2.1) (fun s6 => s6.2.2) (fun x7 : zI × zL => [(0, .ref (ad 0))]) (fun x7 => x7.1) (fun x7 => x7.2) hi11 hx12 (fun s6 K14 hc8 hi10 hx9 => ?_) n (0, o5, L))
      unfold gX7_strong_31
      refine zr_iload hB 0 rfl dX7_strong_31 ?_
      refine zr_bipush (v := 60) hB (by decide) dX7_strong_33 ?_
      refine zr_icmp_gt (tgt := 94) hB (by decide) dX7_strong_35 ?_ ?_
      · exact zr_sub [1] rfl (hx9 (s6.2.1, s6.2.2))
      · refine zr_iload hB 0 rfl dX7_strong_38 ?_
        refine zr_joins (pcJ := 56) (fun x15 : Unit => [(4, .int s6.1), (0, .ref (ad 0)), (1, .int a1), (2, .int a2), (3, .int a3)]) (fun x15 => []) (fun x15 => s6.2.1) (fun x15 => s6.2.2) (fun x15 => ?_) (fun K18 hi17 hj16 => ?_)
        · refine zr_aload_n hB 1 rfl rfl dX7_strong_56 ?_
          refine zr_get_X7 (w := 0) (k := 2) (v := .ref (ad 19)) hB rfl (by decide) rfl lf_X7_19 rfl dX7_strong_57 ?_
          refine zr_get_X6 (w := 19) (k := 10) (v := .ref (ad 25)) hB (Or.inr (Or.inr rfl)) (by decide) rfl lf_X7_216 rfl dX7_strong_60 ?_
          refine zr_iload_n hB 2 rfl rfl dX7_strong_63 ?_
          refine zr_iload hB 0 rfl dX7_strong_64 ?_
          refine zr_iastore hB zA_25 dX7_strong_66 ?_
          refine zr_letM (fun J22 => ?_)
          refine zr_aload_n hB 1 rfl rfl dX7_strong_67 ?_
          refine zr_get_X7 (w := 0) (k := 4) (v := .ref (ad 28)) hB rfl (by decide) rfl lf_X7_25 rfl dX7_strong_68 ?_
          refine zr_aload_n hB 1 rfl rfl dX7_strong_71 ?_
          refine zr_get_X7 (w := 0) (k := 2) (v := .ref (ad 19)) hB rfl (by decide) rfl lf_X7_19 rfl dX7_strong_72 ?_
          refine zr_iload_n hB 2 rfl rfl dX7_strong_75 ?_
          refine zr_iload_n hB 3 rfl rfl dX7_strong_76 ?_
          refine zr_iload_n hB 4 rfl rfl dX7_strong_77 ?_
          refine zr_callV (st := []) (C := RX1) (As := [.ref (ad 19), .int a1, .int a2, .int a3]) (embc := em_iL) hB (mX1_fewestFor (sK := sK) (sV := sV) hi n 19 a1 a2 a3 (Or.inr (Or.inr rfl)) J22 s6.2.2) (zW_X1 rfl) rfl rfl lm_X7_198 q2_X1_fewestFor q3_X1_fewestFor q4_X1 q5_X1_fewestFor qd_X1_fewestFor (by decide) rfl rfl (Nat.le_of_ble_eq_true rfl) ⟨Nat.zero_le _, Nat.zero_le _⟩ dX7_strong_78 (zr_kiL (fun o26 => ?_))
          refine zr_iconst (v := (-1)) hB (by decide) dX7_strong_81 ?_
          refine zr_icmp_eq (tgt := 88) hB (by decide) dX7_strong_82 ?_ ?_
          · refine zr_iincL hB (j := 0) (n := 1) (w := 1) rfl (by decide) (by decide) dX7_strong_88 (fun v27 lv' hlv => ?_)
            obtain rfl : lv' = [(4, .int v27), (0, .ref (ad 0)), (1, .int a1), (2, .int a2), (3, .int a3)] := hlv.symm.trans rfl
            refine zr_goto (tgt := 31) hB (by decide) dX7_strong_91 ?_
            exact zr_sub [0, 1, 2, 3, 4] rfl (hc8 (v27, o26.2.1, o26.2.2))
          · refine zr_iload hB 0 rfl dX7_strong_85 ?_
            refine hi10 _ _ _ _ _ _ ?_
            exact zr_iret hB rfl rfl dX7_strong_87
        · refine zr_ifeq (tgt := 56) hB (by decide) dX7_strong_40 ?_ ?_
          · exact zr_sub [0, 1, 2, 3, 4] rfl (hj16 ())
          · refine zr_aload_n hB 1 rfl rfl dX7_strong_43 ?_
            refine zr_get_X7 (w := 0) (k := 2) (v := .ref (ad 19)) hB rfl (by decide) rfl lf_X7_19 rfl dX7_strong_44 ?_
            refine zr_iload_n hB 3 rfl rfl dX7_strong_47 ?_
            refine zr_iload hB 0 rfl dX7_strong_48 ?_
            refine zr_callV (st := []) (C := RX6) (As := [.int a2, .int s6.1]) (embc := em_i0 s6.2.1 s6.2.2) hB (mX6_weighsSomewhere (sK := sK) (sV := sV) hi n 19 a2 s6.1 (Or.inr (Or.inr rfl)) s6.2.1 s6.2.2) (zW_X6 (Or.inr (Or.inr rfl))) rfl rfl lm_X7_213 q2_X6_weighsSomewhere q3_X6_weighsSomewhere q4_X6 q5_X6_weighsSomewhere qd_X6_weighsSomewhere (by decide) rfl rfl (Nat.le_of_ble_eq_true rfl) ⟨Nat.zero_le _, Nat.zero_le _⟩ dX7_strong_50 (zr_ki0 (fun o20 => ?_))
            refine zr_ifeq (tgt := 88) hB (by decide) dX7_strong_53 ?_ ?_
            · refine zr_iincL hB (j := 0) (n := 1) (w := 1) rfl (by decide) (by decide) dX7_strong_88 (fun v21 lv' hlv => ?_)
              obtain rfl : lv' = [(4, .int v21), (0, .ref (ad 0)), (1, .int a1), (2, .int a2), (3, .int a3)] := hlv.symm.trans rfl
              refine zr_goto (tgt := 31) hB (by decide) dX7_strong_91 ?_
              refine hi17 _ _ _ _ _ _ ?_
              exact zr_sub [0, 1, 2, 3, 4] rfl (hc8 (v21, s6.2.1, s6.2.2))
            · exact zr_sub [0, 1, 2, 3, 4] rfl (hj16 ())
  · refine zr_aload_n hB 0 rfl rfl dX7_strong_10 ?_
    refine zr_ldc (v := (-1000001)) hB lk_X7_55 dX7_strong_11 ?_
    refine zr_callV (st := []) (C := RX7) (As := [.int (-1000001)]) (embc := em_iI L) hB (mX7_finding (sK := sK) (sV := sV) hi (-1000001) I L) (zW_X7 rfl) rfl rfl lm_X7_56 q2_X7_finding q3_X7_finding q4_X7 q5_X7_finding qd_X7_finding (by decide) rfl rfl (Nat.le_of_ble_eq_true rfl) ⟨Nat.zero_le _, Nat.zero_le _⟩ dX7_strong_13 (zr_kiI (fun o33 => ?_))
    exact zr_iret hB rfl rfl dX7_strong_16

def gX7_kindFor_37 (n : Nat) (a1 : Int32) (a2 : Int32) (a3 : Int32) (s6 : Int32 × Int32 × Int32 × zI × zL) : Option ((Int32 × Int32 × Int32 × zI × zL) ⊕ (Int32 × zI × zL)) :=
  if 7 ≤ s6.2.2.1 then
    some (.inr (s6.1, s6.2.2.2.1, s6.2.2.2.2))
  else
  zg a2 8 (
  zl (zup s6.2.2.2.1 21 (zn a2) s6.2.2.1) fun J15 =>
  zb (fX1_fewestFor n 19 a1 a2 a3 J15 s6.2.2.2.2) fun o19 =>
  zb (fX7_isFewer o19.1 s6.2.1) fun o21 =>
  if o21 = 0 then
    zl (s6.2.2.1 + 1) fun v22 =>
    some (.inl (s6.1, s6.2.1, v22, o19.2.1, o19.2.2))
  else
  zl (s6.2.2.1 + 1) fun v23 =>
  some (.inl (s6.2.2.1, o19.1, v23, o19.2.1, o19.2.2)))
def fX7_kindFor (n : Nat) (a1 : Int32) (a2 : Int32) (a3 : Int32) (I : zI) (L : zL) : Option (Int32 × zI × zL) :=
  zb (fX7_isTask a1 a2 a3 I) fun o2 =>
  if o2 = 0 then
    zb (fX7_finding (-1000001) I) fun o29 =>
    some (o29.1, o29.2, L)
  else
  zb (fX6_become 19 1 I) fun o5 =>
  zb (zit (gX7_kindFor_37 n a1 a2 a3) n ((-1), (-1), 0, o5, L)) fun x7 : Int32 × zI × zL =>
  zb (fX7_foundOrNone x7.1 x7.2.1) fun o26 =>
  some (o26.1, o26.2, x7.2.2)
set_option maxHeartbeats 4000000 in
set_option maxRecDepth 100000 in
theorem mX7_kindFor {l : Launch} {D : va_G} {T : zT} {ad sK sV : Nat → Nat} (hi : zInj ad) (n : Nat) (a1 : Int32) (a2 : Int32) (a3 : Int32)  (I : zI) (L : zL) : ∀ o, fX7_kindFor n a1 a2 a3 I L = some o → zMet l yX7_kindFor cX7_kindFor 8 (some .int) 5 124 D T ad sK sV [.ref (ad 0), .int a1, .int a2, .int a3] I L (em_iL o) := by
  intro o ho
  refine zMet.of hi (by decide +kernel) (Nat.le_of_ble_eq_true rfl) (fun p e s m args below meth c hB => ?_)
  refine zr_top (emb := em_iL) (t := fX7_kindFor n a1 a2 a3 I L) ?_ ho
  unfold fX7_kindFor
  refine zr_aload_n hB 0 rfl rfl dX7_kindFor_0 ?_
  refine zr_iload_n hB 1 rfl rfl dX7_kindFor_1 ?_
  refine zr_iload_n hB 2 rfl rfl dX7_kindFor_2 ?_
  refine zr_iload_n hB 3 rfl rfl dX7_kindFor_3 ?_
  refine zr_callV (st := []) (C := RX7) (As := [.int a1, .int a2, .int a3]) (embc := em_i0 I L) hB (mX7_isTask (sK := sK) (sV := sV) hi a1 a2 a3 I L) (zW_X7 rfl) rfl rfl lm_X7_195 q2_X7_isTask q3_X7_isTask q4_X7 q5_X7_isTask qd_X7_isTask (by decide) rfl rfl (Nat.le_of_ble_eq_true rfl) ⟨Nat.zero_le _, Nat.zero_le _⟩ dX7_kindFor_4 (zr_ki0 (fun o2 => ?_))
  refine zr_ifne (tgt := 17) hB (by decide) dX7_kindFor_7 ?_ ?_
  · refine zr_aload_n hB 0 rfl rfl dX7_kindFor_17 ?_
    refine zr_get_X7 (w := 0) (k := 2) (v := .ref (ad 19)) hB rfl (by decide) rfl lf_X7_19 rfl dX7_kindFor_18 ?_
    refine zr_aload_n hB 0 rfl rfl dX7_kindFor_21 ?_
    refine zr_get_X7 (w := 0) (k := 0) (v := .ref (ad 1)) hB rfl (by decide) rfl lf_X7_12 rfl dX7_kindFor_22 ?_
    refine zr_callV (st := []) (C := RX6) (As := [.ref (ad 1)]) (embc := em_vI L) hB (mX6_become (sK := sK) (sV := sV) hi 19 1 (Or.inr (Or.inr rfl)) (Or.inl rfl) I L) (zW_X6 (Or.inr (Or.inr rfl))) rfl rfl lm_X7_209 q2_X6_become q3_X6_become q4_X6 q5_X6_become qd_X6_become (by decide) rfl rfl (Nat.le_of_ble_eq_true rfl) ⟨Nat.zero_le _, Nat.zero_le _⟩ dX7_kindFor_25 (zr_kvI (fun o5 => ?_))
    refine zr_iconst (v := (-1)) hB (by decide) dX7_kindFor_28 ?_
    refine zr_istore (lv' := [(4, .int (-1)), (0, .ref (ad 0)), (1, .int a1), (2, .int a2), (3, .int a3)]) hB (by decide) rfl dX7_kindFor_29 ?_
    refine zr_iconst (v := (-1)) hB (by decide) dX7_kindFor_31 ?_
    refine zr_istore (lv' := [(5, .int (-1)), (4, .int (-1)), (0, .ref (ad 0)), (1, .int a1), (2, .int a2), (3, .int a3)]) hB (by decide) rfl dX7_kindFor_32 ?_
    refine zr_iconst (v := 0) hB (by decide) dX7_kindFor_34 ?_
    refine zr_istore (lv' := [(6, .int 0), (5, .int (-1)), (4, .int (-1)), (0, .ref (ad 0)), (1, .int a1), (2, .int a2), (3, .int a3)]) hB (by decide) rfl dX7_kindFor_35 ?_
    refine zr_join (pcJ := 95) (fun x7 : Int32 × zI × zL => [(4, .int x7.1), (0, .ref (ad 0))]) (fun _ => []) (fun x7 => x7.2.1) (fun x7 => x7.2.2) (fun x7 => ?_) (fun K13 hx12 => ?_)
    · refine zr_aload_n hB 1 rfl rfl dX7_kindFor_95 ?_
      refine zr_iload hB 0 rfl dX7_kindFor_96 ?_
      refine zr_callV (st := []) (C := RX7) (As := [.int x7.1]) (embc := em_iI x7.2.2) hB (mX7_foundOrNone (sK := sK) (sV := sV) hi x7.1 x7.2.1 x7.2.2) (zW_X7 rfl) rfl rfl lm_X7_192 q2_X7_foundOrNone q3_X7_foundOrNone q4_X7 q5_X7_foundOrNone qd_X7_foundOrNone (by decide) rfl rfl (Nat.le_of_ble_eq_true rfl) ⟨Nat.zero_le _, Nat.zero_le _⟩ dX7_kindFor_98 (zr_kiI (fun o26 => ?_))
      exact zr_iret hB rfl rfl dX7_kindFor_101
    · refine zr_sub (lv' := (fun s6 : Int32 × Int32 × Int32 × zI × zL => [(4, .int s6.1), (5, .int s6.2.1), (6, .int s6.2.2.1), (0, .ref (ad 0)), (1, .int a1), (2, .int a2), (3, .int a3)]) ((-1), (-1), 0, o5, L)) [2, 1, 0, 3, 4, 5, 6] rfl (zr_loop (fun s6 : Int32 × Int32 × Int32 × zI × zL => [(4, .int s6.1), (5, .int s6.2.1), (6, .int s6.2.2.1), (0, .ref (ad 0)), (1, .int a1), (2, .int a2), (3, .int a3)]) (fun s6 => s6.2.2.2.1) (fun s6 => s6.2.2.2.2) (fun x7 : Int32 × zI × zL => [(4, .int x7.1), (0, .ref (ad 0))]) (fun x7 => x7.2.1) (fun x7 => x7.2.2) hx12 (fun s6 K14 hc8 hx9 => ?_) n ((-1), (-1), 0, o5, L))
      unfold gX7_kindFor_37
      refine zr_iload hB 2 rfl dX7_kindFor_37 ?_
      refine zr_bipush (v := 7) hB (by decide) dX7_kindFor_39 ?_
      refine zr_icmp_ge (tgt := 95) hB (by decide) dX7_kindFor_41 ?_ ?_
      · exact zr_sub [0, 3] rfl (hx9 (s6.1, s6.2.2.2.1, s6.2.2.2.2))
      · refine zr_aload_n hB 3 rfl rfl dX7_kindFor_44 ?_
        refine zr_get_X7 (w := 0) (k := 2) (v := .ref (ad 19)) hB rfl (by decide) rfl lf_X7_19 rfl dX7_kindFor_45 ?_
        refine zr_get_X6 (w := 19) (k := 5) (v := .ref (ad 21)) hB (Or.inr (Or.inr rfl)) (by decide) rfl lf_X7_219 rfl dX7_kindFor_48 ?_
        refine zr_iload_n hB 5 rfl rfl dX7_kindFor_51 ?_
        refine zr_iload hB 2 rfl dX7_kindFor_52 ?_
        refine zr_iastore hB zA_21 dX7_kindFor_54 ?_
        refine zr_letM (fun J15 => ?_)
        refine zr_aload_n hB 3 rfl rfl dX7_kindFor_55 ?_
        refine zr_get_X7 (w := 0) (k := 4) (v := .ref (ad 28)) hB rfl (by decide) rfl lf_X7_25 rfl dX7_kindFor_56 ?_
        refine zr_aload_n hB 3 rfl rfl dX7_kindFor_59 ?_
        refine zr_get_X7 (w := 0) (k := 2) (v := .ref (ad 19)) hB rfl (by decide) rfl lf_X7_19 rfl dX7_kindFor_60 ?_
        refine zr_iload_n hB 4 rfl rfl dX7_kindFor_63 ?_
        refine zr_iload_n hB 5 rfl rfl dX7_kindFor_64 ?_
        refine zr_iload_n hB 6 rfl rfl dX7_kindFor_65 ?_
        refine zr_callV (st := []) (C := RX1) (As := [.ref (ad 19), .int a1, .int a2, .int a3]) (embc := em_iL) hB (mX1_fewestFor (sK := sK) (sV := sV) hi n 19 a1 a2 a3 (Or.inr (Or.inr rfl)) J15 s6.2.2.2.2) (zW_X1 rfl) rfl rfl lm_X7_198 q2_X1_fewestFor q3_X1_fewestFor q4_X1 q5_X1_fewestFor qd_X1_fewestFor (by decide) rfl rfl (Nat.le_of_ble_eq_true rfl) ⟨Nat.zero_le _, Nat.zero_le _⟩ dX7_kindFor_66 (zr_kiL (fun o19 => ?_))
        refine zr_istore (lv' := [(7, .int o19.1), (4, .int s6.1), (5, .int s6.2.1), (6, .int s6.2.2.1), (0, .ref (ad 0)), (1, .int a1), (2, .int a2), (3, .int a3)]) hB (by decide) rfl dX7_kindFor_69 ?_
        refine zr_iload hB 0 rfl dX7_kindFor_71 ?_
        refine zr_iload hB 2 rfl dX7_kindFor_73 ?_
        refine zr_callS (st := []) (As := [.int o19.1, .int s6.2.1]) (embc := em_i0 o19.2.1 o19.2.2) hB (mX7_isFewer (sK := sK) (sV := sV) hi o19.1 s6.2.1 o19.2.1 o19.2.2) lm_X7_202 q2_X7_isFewer q4_X7 q5_X7_isFewer qd_X7_isFewer (by decide) rfl rfl (Nat.le_of_ble_eq_true rfl) ⟨Nat.zero_le _, Nat.zero_le _⟩ dX7_kindFor_75 (zr_ki0 (fun o21 => ?_))
        refine zr_ifeq (tgt := 89) hB (by decide) dX7_kindFor_78 ?_ ?_
        · refine zr_iincL hB (j := 3) (n := 1) (w := 1) rfl (by decide) (by decide) dX7_kindFor_89 (fun v22 lv' hlv => ?_)
          obtain rfl : lv' = [(6, .int v22), (7, .int o19.1), (4, .int s6.1), (5, .int s6.2.1), (0, .ref (ad 0)), (1, .int a1), (2, .int a2), (3, .int a3)] := hlv.symm.trans rfl
          refine zr_goto (tgt := 37) hB (by decide) dX7_kindFor_92 ?_
          exact zr_sub [2, 3, 0, 4, 5, 6, 7] rfl (hc8 (s6.1, s6.2.1, v22, o19.2.1, o19.2.2))
        · refine zr_iload hB 0 rfl dX7_kindFor_81 ?_
          refine zr_istore (lv' := [(5, .int o19.1), (7, .int o19.1), (4, .int s6.1), (6, .int s6.2.2.1), (0, .ref (ad 0)), (1, .int a1), (2, .int a2), (3, .int a3)]) hB (by decide) rfl dX7_kindFor_83 ?_
          refine zr_iload hB 3 rfl dX7_kindFor_85 ?_
          refine zr_istore (lv' := [(4, .int s6.2.2.1), (5, .int o19.1), (7, .int o19.1), (6, .int s6.2.2.1), (0, .ref (ad 0)), (1, .int a1), (2, .int a2), (3, .int a3)]) hB (by decide) rfl dX7_kindFor_87 ?_
          refine zr_iincL hB (j := 3) (n := 1) (w := 1) rfl (by decide) (by decide) dX7_kindFor_89 (fun v23 lv' hlv => ?_)
          obtain rfl : lv' = [(6, .int v23), (4, .int s6.2.2.1), (5, .int o19.1), (7, .int o19.1), (0, .ref (ad 0)), (1, .int a1), (2, .int a2), (3, .int a3)] := hlv.symm.trans rfl
          refine zr_goto (tgt := 37) hB (by decide) dX7_kindFor_92 ?_
          exact zr_sub [1, 2, 0, 4, 5, 6, 7] rfl (hc8 (s6.2.2.1, o19.1, v23, o19.2.1, o19.2.2))
  · refine zr_aload_n hB 0 rfl rfl dX7_kindFor_10 ?_
    refine zr_ldc (v := (-1000001)) hB lk_X7_55 dX7_kindFor_11 ?_
    refine zr_callV (st := []) (C := RX7) (As := [.int (-1000001)]) (embc := em_iI L) hB (mX7_finding (sK := sK) (sV := sV) hi (-1000001) I L) (zW_X7 rfl) rfl rfl lm_X7_56 q2_X7_finding q3_X7_finding q4_X7 q5_X7_finding qd_X7_finding (by decide) rfl rfl (Nat.le_of_ble_eq_true rfl) ⟨Nat.zero_le _, Nat.zero_le _⟩ dX7_kindFor_13 (zr_kiI (fun o29 => ?_))
    exact zr_iret hB rfl rfl dX7_kindFor_16

def gX7_place_37 (n : Nat) (a1 : Int32) (a2 : Int32) (a3 : Int32) (s6 : Int32 × Int32 × Int32 × zI × zL) : Option ((Int32 × Int32 × Int32 × zI × zL) ⊕ (Int32 × zI × zL)) :=
  if 8 ≤ s6.2.2.1 then
    some (.inr (s6.1, s6.2.2.2.1, s6.2.2.2.2))
  else
  zl (zup s6.2.2.2.1 19 1 s6.2.2.1) fun J15 =>
  zb (fX1_fewestFor n 19 a1 a2 a3 J15 s6.2.2.2.2) fun o19 =>
  zb (fX7_isFewer o19.1 s6.2.1) fun o21 =>
  if o21 = 0 then
    zl (s6.2.2.1 + 1) fun v22 =>
    some (.inl (s6.1, s6.2.1, v22, o19.2.1, o19.2.2))
  else
  zl (s6.2.2.1 + 1) fun v23 =>
  some (.inl (s6.2.2.1, o19.1, v23, o19.2.1, o19.2.2))
def fX7_place (n : Nat) (a1 : Int32) (a2 : Int32) (a3 : Int32) (I : zI) (L : zL) : Option (Int32 × zI × zL) :=
  zb (fX7_isTask a1 a2 a3 I) fun o2 =>
  if o2 = 0 then
    zb (fX7_finding (-1000001) I) fun o29 =>
    some (o29.1, o29.2, L)
  else
  zb (fX6_become 19 1 I) fun o5 =>
  zb (zit (gX7_place_37 n a1 a2 a3) n ((-1), (-1), 0, o5, L)) fun x7 : Int32 × zI × zL =>
  zb (fX7_foundOrNone x7.1 x7.2.1) fun o26 =>
  some (o26.1, o26.2, x7.2.2)
set_option maxHeartbeats 4000000 in
set_option maxRecDepth 100000 in
theorem mX7_place {l : Launch} {D : va_G} {T : zT} {ad sK sV : Nat → Nat} (hi : zInj ad) (n : Nat) (a1 : Int32) (a2 : Int32) (a3 : Int32)  (I : zI) (L : zL) : ∀ o, fX7_place n a1 a2 a3 I L = some o → zMet l yX7_place cX7_place 8 (some .int) 5 124 D T ad sK sV [.ref (ad 0), .int a1, .int a2, .int a3] I L (em_iL o) := by
  intro o ho
  refine zMet.of hi (by decide +kernel) (Nat.le_of_ble_eq_true rfl) (fun p e s m args below meth c hB => ?_)
  refine zr_top (emb := em_iL) (t := fX7_place n a1 a2 a3 I L) ?_ ho
  unfold fX7_place
  refine zr_aload_n hB 0 rfl rfl dX7_place_0 ?_
  refine zr_iload_n hB 1 rfl rfl dX7_place_1 ?_
  refine zr_iload_n hB 2 rfl rfl dX7_place_2 ?_
  refine zr_iload_n hB 3 rfl rfl dX7_place_3 ?_
  refine zr_callV (st := []) (C := RX7) (As := [.int a1, .int a2, .int a3]) (embc := em_i0 I L) hB (mX7_isTask (sK := sK) (sV := sV) hi a1 a2 a3 I L) (zW_X7 rfl) rfl rfl lm_X7_195 q2_X7_isTask q3_X7_isTask q4_X7 q5_X7_isTask qd_X7_isTask (by decide) rfl rfl (Nat.le_of_ble_eq_true rfl) ⟨Nat.zero_le _, Nat.zero_le _⟩ dX7_place_4 (zr_ki0 (fun o2 => ?_))
  refine zr_ifne (tgt := 17) hB (by decide) dX7_place_7 ?_ ?_
  · refine zr_aload_n hB 0 rfl rfl dX7_place_17 ?_
    refine zr_get_X7 (w := 0) (k := 2) (v := .ref (ad 19)) hB rfl (by decide) rfl lf_X7_19 rfl dX7_place_18 ?_
    refine zr_aload_n hB 0 rfl rfl dX7_place_21 ?_
    refine zr_get_X7 (w := 0) (k := 0) (v := .ref (ad 1)) hB rfl (by decide) rfl lf_X7_12 rfl dX7_place_22 ?_
    refine zr_callV (st := []) (C := RX6) (As := [.ref (ad 1)]) (embc := em_vI L) hB (mX6_become (sK := sK) (sV := sV) hi 19 1 (Or.inr (Or.inr rfl)) (Or.inl rfl) I L) (zW_X6 (Or.inr (Or.inr rfl))) rfl rfl lm_X7_209 q2_X6_become q3_X6_become q4_X6 q5_X6_become qd_X6_become (by decide) rfl rfl (Nat.le_of_ble_eq_true rfl) ⟨Nat.zero_le _, Nat.zero_le _⟩ dX7_place_25 (zr_kvI (fun o5 => ?_))
    refine zr_iconst (v := (-1)) hB (by decide) dX7_place_28 ?_
    refine zr_istore (lv' := [(4, .int (-1)), (0, .ref (ad 0)), (1, .int a1), (2, .int a2), (3, .int a3)]) hB (by decide) rfl dX7_place_29 ?_
    refine zr_iconst (v := (-1)) hB (by decide) dX7_place_31 ?_
    refine zr_istore (lv' := [(5, .int (-1)), (4, .int (-1)), (0, .ref (ad 0)), (1, .int a1), (2, .int a2), (3, .int a3)]) hB (by decide) rfl dX7_place_32 ?_
    refine zr_iconst (v := 0) hB (by decide) dX7_place_34 ?_
    refine zr_istore (lv' := [(6, .int 0), (5, .int (-1)), (4, .int (-1)), (0, .ref (ad 0)), (1, .int a1), (2, .int a2), (3, .int a3)]) hB (by decide) rfl dX7_place_35 ?_
    refine zr_join (pcJ := 93) (fun x7 : Int32 × zI × zL => [(4, .int x7.1), (0, .ref (ad 0))]) (fun _ => []) (fun x7 => x7.2.1) (fun x7 => x7.2.2) (fun x7 => ?_) (fun K13 hx12 => ?_)
    · refine zr_aload_n hB 1 rfl rfl dX7_place_93 ?_
      refine zr_iload hB 0 rfl dX7_place_94 ?_
      refine zr_callV (st := []) (C := RX7) (As := [.int x7.1]) (embc := em_iI x7.2.2) hB (mX7_foundOrNone (sK := sK) (sV := sV) hi x7.1 x7.2.1 x7.2.2) (zW_X7 rfl) rfl rfl lm_X7_192 q2_X7_foundOrNone q3_X7_foundOrNone q4_X7 q5_X7_foundOrNone qd_X7_foundOrNone (by decide) rfl rfl (Nat.le_of_ble_eq_true rfl) ⟨Nat.zero_le _, Nat.zero_le _⟩ dX7_place_96 (zr_kiI (fun o26 => ?_))
      exact zr_iret hB rfl rfl dX7_place_99
    · refine zr_sub (lv' := (fun s6 : Int32 × Int32 × Int32 × zI × zL => [(4, .int s6.1), (5, .int s6.2.1), (6, .int s6.2.2.1), (0, .ref (ad 0)), (1, .int a1), (2, .int a2), (3, .int a3)]) ((-1), (-1), 0, o5, L)) [2, 1, 0, 3, 4, 5, 6] rfl (zr_loop (fun s6 : Int32 × Int32 × Int32 × zI × zL => [(4, .int s6.1), (5, .int s6.2.1), (6, .int s6.2.2.1), (0, .ref (ad 0)), (1, .int a1), (2, .int a2), (3, .int a3)]) (fun s6 => s6.2.2.2.1) (fun s6 => s6.2.2.2.2) (fun x7 : Int32 × zI × zL => [(4, .int x7.1), (0, .ref (ad 0))]) (fun x7 => x7.2.1) (fun x7 => x7.2.2) hx12 (fun s6 K14 hc8 hx9 => ?_) n ((-1), (-1), 0, o5, L))
      unfold gX7_place_37
      refine zr_iload hB 2 rfl dX7_place_37 ?_
      refine zr_bipush (v := 8) hB (by decide) dX7_place_39 ?_
      refine zr_icmp_ge (tgt := 93) hB (by decide) dX7_place_41 ?_ ?_
      · exact zr_sub [0, 3] rfl (hx9 (s6.1, s6.2.2.2.1, s6.2.2.2.2))
      · refine zr_aload_n hB 3 rfl rfl dX7_place_44 ?_
        refine zr_get_X7 (w := 0) (k := 2) (v := .ref (ad 19)) hB rfl (by decide) rfl lf_X7_19 rfl dX7_place_45 ?_
        refine zr_iload hB 2 rfl dX7_place_48 ?_
        refine zr_put_X6 (w := 19) (k := 1) hB (Or.inr (Or.inr rfl)) (by decide) rfl rfl rfl lf_X7_165 rfl dX7_place_50 ?_
        refine zr_letM (fun J15 => ?_)
        refine zr_aload_n hB 3 rfl rfl dX7_place_53 ?_
        refine zr_get_X7 (w := 0) (k := 4) (v := .ref (ad 28)) hB rfl (by decide) rfl lf_X7_25 rfl dX7_place_54 ?_
        refine zr_aload_n hB 3 rfl rfl dX7_place_57 ?_
        refine zr_get_X7 (w := 0) (k := 2) (v := .ref (ad 19)) hB rfl (by decide) rfl lf_X7_19 rfl dX7_place_58 ?_
        refine zr_iload_n hB 4 rfl rfl dX7_place_61 ?_
        refine zr_iload_n hB 5 rfl rfl dX7_place_62 ?_
        refine zr_iload_n hB 6 rfl rfl dX7_place_63 ?_
        refine zr_callV (st := []) (C := RX1) (As := [.ref (ad 19), .int a1, .int a2, .int a3]) (embc := em_iL) hB (mX1_fewestFor (sK := sK) (sV := sV) hi n 19 a1 a2 a3 (Or.inr (Or.inr rfl)) J15 s6.2.2.2.2) (zW_X1 rfl) rfl rfl lm_X7_198 q2_X1_fewestFor q3_X1_fewestFor q4_X1 q5_X1_fewestFor qd_X1_fewestFor (by decide) rfl rfl (Nat.le_of_ble_eq_true rfl) ⟨Nat.zero_le _, Nat.zero_le _⟩ dX7_place_64 (zr_kiL (fun o19 => ?_))
        refine zr_istore (lv' := [(7, .int o19.1), (4, .int s6.1), (5, .int s6.2.1), (6, .int s6.2.2.1), (0, .ref (ad 0)), (1, .int a1), (2, .int a2), (3, .int a3)]) hB (by decide) rfl dX7_place_67 ?_
        refine zr_iload hB 0 rfl dX7_place_69 ?_
        refine zr_iload hB 2 rfl dX7_place_71 ?_
        refine zr_callS (st := []) (As := [.int o19.1, .int s6.2.1]) (embc := em_i0 o19.2.1 o19.2.2) hB (mX7_isFewer (sK := sK) (sV := sV) hi o19.1 s6.2.1 o19.2.1 o19.2.2) lm_X7_202 q2_X7_isFewer q4_X7 q5_X7_isFewer qd_X7_isFewer (by decide) rfl rfl (Nat.le_of_ble_eq_true rfl) ⟨Nat.zero_le _, Nat.zero_le _⟩ dX7_place_73 (zr_ki0 (fun o21 => ?_))
        refine zr_ifeq (tgt := 87) hB (by decide) dX7_place_76 ?_ ?_
        · refine zr_iincL hB (j := 3) (n := 1) (w := 1) rfl (by decide) (by decide) dX7_place_87 (fun v22 lv' hlv => ?_)
          obtain rfl : lv' = [(6, .int v22), (7, .int o19.1), (4, .int s6.1), (5, .int s6.2.1), (0, .ref (ad 0)), (1, .int a1), (2, .int a2), (3, .int a3)] := hlv.symm.trans rfl
          refine zr_goto (tgt := 37) hB (by decide) dX7_place_90 ?_
          exact zr_sub [2, 3, 0, 4, 5, 6, 7] rfl (hc8 (s6.1, s6.2.1, v22, o19.2.1, o19.2.2))
        · refine zr_iload hB 0 rfl dX7_place_79 ?_
          refine zr_istore (lv' := [(5, .int o19.1), (7, .int o19.1), (4, .int s6.1), (6, .int s6.2.2.1), (0, .ref (ad 0)), (1, .int a1), (2, .int a2), (3, .int a3)]) hB (by decide) rfl dX7_place_81 ?_
          refine zr_iload hB 3 rfl dX7_place_83 ?_
          refine zr_istore (lv' := [(4, .int s6.2.2.1), (5, .int o19.1), (7, .int o19.1), (6, .int s6.2.2.1), (0, .ref (ad 0)), (1, .int a1), (2, .int a2), (3, .int a3)]) hB (by decide) rfl dX7_place_85 ?_
          refine zr_iincL hB (j := 3) (n := 1) (w := 1) rfl (by decide) (by decide) dX7_place_87 (fun v23 lv' hlv => ?_)
          obtain rfl : lv' = [(6, .int v23), (4, .int s6.2.2.1), (5, .int o19.1), (7, .int o19.1), (0, .ref (ad 0)), (1, .int a1), (2, .int a2), (3, .int a3)] := hlv.symm.trans rfl
          refine zr_goto (tgt := 37) hB (by decide) dX7_place_90 ?_
          exact zr_sub [1, 2, 0, 4, 5, 6, 7] rfl (hc8 (s6.2.2.1, o19.1, v23, o19.2.1, o19.2.2))
  · refine zr_aload_n hB 0 rfl rfl dX7_place_10 ?_
    refine zr_ldc (v := (-1000001)) hB lk_X7_55 dX7_place_11 ?_
    refine zr_callV (st := []) (C := RX7) (As := [.int (-1000001)]) (embc := em_iI L) hB (mX7_finding (sK := sK) (sV := sV) hi (-1000001) I L) (zW_X7 rfl) rfl rfl lm_X7_56 q2_X7_finding q3_X7_finding q4_X7 q5_X7_finding qd_X7_finding (by decide) rfl rfl (Nat.le_of_ble_eq_true rfl) ⟨Nat.zero_le _, Nat.zero_le _⟩ dX7_place_13 (zr_kiI (fun o29 => ?_))
    exact zr_iret hB rfl rfl dX7_place_16

