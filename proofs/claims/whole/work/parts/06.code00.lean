def fX6_isOpen (w : Nat) (a1 : Int32) (a2 : Int32) (I : zI) : Option (Int32) :=
  zg a1 8 (
  if ((zshr (I (w + 1) (zn a1)) a2) &&& 1) = 1 then
    some 1
  else
  some 0)
set_option maxHeartbeats 4000000 in
set_option maxRecDepth 100000 in
theorem mX6_isOpen {l : Launch} {D : va_G} {T : zT} {ad sK sV : Nat → Nat} (hi : zInj ad) (w : Nat) (a1 : Int32) (a2 : Int32) (hw : zO_X6 w) (I : zI) (L : zL) : ∀ o, fX6_isOpen w a1 a2 I = some o → zMet l yX6_isOpen cX6_isOpen 3 (some .boolean) 0 0 D T ad sK sV [.ref (ad w), .int a1, .int a2] I L (em_i0 I L o) := by
  intro o ho
  refine zMet.of hi (by decide +kernel) (Nat.le_of_ble_eq_true rfl) (fun p e s m args below meth c hB => ?_)
  refine zr_top (emb := em_i0 I L) (t := fX6_isOpen w a1 a2 I) ?_ ho
  unfold fX6_isOpen
  refine zr_aload_n hB 0 rfl rfl dX6_isOpen_0 ?_
  refine zr_get_X6 (w := w) (k := 0) (v := .ref (ad (w + 1))) hB hw (by decide) rfl lf_X6_9 rfl dX6_isOpen_1 ?_
  refine zr_iload_n hB 1 rfl rfl dX6_isOpen_4 ?_
  refine zr_iaload hB (zA_X6_1 hw) dX6_isOpen_5 ?_
  refine zr_iload_n hB 2 rfl rfl dX6_isOpen_6 ?_
  refine zr_ishr hB dX6_isOpen_7 ?_
  refine zr_iconst (v := 1) hB (by decide) dX6_isOpen_8 ?_
  refine zr_iand hB dX6_isOpen_9 ?_
  refine zr_iconst (v := 1) hB (by decide) dX6_isOpen_10 ?_
  refine zr_icmp_ne (tgt := 18) hB (by decide) dX6_isOpen_11 ?_ ?_
  · refine zr_iconst (v := 0) hB (by decide) dX6_isOpen_18 ?_
    exact zr_zretC (by decide) hB rfl rfl dX6_isOpen_19
  · refine zr_iconst (v := 1) hB (by decide) dX6_isOpen_14 ?_
    refine zr_goto (tgt := 19) hB (by decide) dX6_isOpen_15 ?_
    exact zr_zretC (by decide) hB rfl rfl dX6_isOpen_19

def fX6_setDoor (w : Nat) (a1 : Int32) (a2 : Int32) (a3 : Int32) (I : zI) : Option (zI) :=
  if a3 = 0 then
    zg a1 8 (
    zg a1 8 (
    zl (zup I (w + 1) (zn a1) ((I (w + 1) (zn a1)) &&& ((zshl 1 a2) ^^^ (-1)))) fun J1 =>
    zg a2 8 (
    zg a2 8 (
    zl (zup J1 (w + 1) (zn a2) ((J1 (w + 1) (zn a2)) &&& ((zshl 1 a1) ^^^ (-1)))) fun J2 =>
    some J2))))
  else
  zg a1 8 (
  zg a1 8 (
  zl (zup I (w + 1) (zn a1) ((I (w + 1) (zn a1)) ||| (zshl 1 a2))) fun J3 =>
  zg a2 8 (
  zg a2 8 (
  zl (zup J3 (w + 1) (zn a2) ((J3 (w + 1) (zn a2)) ||| (zshl 1 a1))) fun J4 =>
  some J4))))
set_option maxHeartbeats 4000000 in
set_option maxRecDepth 100000 in
theorem mX6_setDoor {l : Launch} {D : va_G} {T : zT} {ad sK sV : Nat → Nat} (hi : zInj ad) (w : Nat) (a1 : Int32) (a2 : Int32) (a3 : Int32) (hw : zO_X6 w) (I : zI) (L : zL) : ∀ o, fX6_setDoor w a1 a2 a3 I = some o → zMet l yX6_setDoor cX6_setDoor 4 none 0 0 D T ad sK sV [.ref (ad w), .int a1, .int a2, .int a3] I L (em_vI L o) := by
  intro o ho
  refine zMet.of hi (by decide +kernel) (Nat.le_of_ble_eq_true rfl) (fun p e s m args below meth c hB => ?_)
  refine zr_top (emb := em_vI L) (t := fX6_setDoor w a1 a2 a3 I) ?_ ho
  unfold fX6_setDoor
  refine zr_iload_n hB 3 rfl rfl dX6_setDoor_0 ?_
  refine zr_ifeq (tgt := 31) hB (by decide) dX6_setDoor_1 ?_ ?_
  · refine zr_aload_n hB 0 rfl rfl dX6_setDoor_31 ?_
    refine zr_get_X6 (w := w) (k := 0) (v := .ref (ad (w + 1))) hB hw (by decide) rfl lf_X6_9 rfl dX6_setDoor_32 ?_
    refine zr_iload_n hB 1 rfl rfl dX6_setDoor_35 ?_
    refine zr_dup2 hB rfl rfl dX6_setDoor_36 ?_
    refine zr_iaload hB (zA_X6_1 hw) dX6_setDoor_37 ?_
    refine zr_iconst (v := 1) hB (by decide) dX6_setDoor_38 ?_
    refine zr_iload_n hB 2 rfl rfl dX6_setDoor_39 ?_
    refine zr_ishl hB dX6_setDoor_40 ?_
    refine zr_iconst (v := (-1)) hB (by decide) dX6_setDoor_41 ?_
    refine zr_ixor hB dX6_setDoor_42 ?_
    refine zr_iand hB dX6_setDoor_43 ?_
    refine zr_iastore hB (zA_X6_1 hw) dX6_setDoor_44 ?_
    refine zr_letM (fun J1 => ?_)
    refine zr_aload_n hB 0 rfl rfl dX6_setDoor_45 ?_
    refine zr_get_X6 (w := w) (k := 0) (v := .ref (ad (w + 1))) hB hw (by decide) rfl lf_X6_9 rfl dX6_setDoor_46 ?_
    refine zr_iload_n hB 2 rfl rfl dX6_setDoor_49 ?_
    refine zr_dup2 hB rfl rfl dX6_setDoor_50 ?_
    refine zr_iaload hB (zA_X6_1 hw) dX6_setDoor_51 ?_
    refine zr_iconst (v := 1) hB (by decide) dX6_setDoor_52 ?_
    refine zr_iload_n hB 1 rfl rfl dX6_setDoor_53 ?_
    refine zr_ishl hB dX6_setDoor_54 ?_
    refine zr_iconst (v := (-1)) hB (by decide) dX6_setDoor_55 ?_
    refine zr_ixor hB dX6_setDoor_56 ?_
    refine zr_iand hB dX6_setDoor_57 ?_
    refine zr_iastore hB (zA_X6_1 hw) dX6_setDoor_58 ?_
    refine zr_letM (fun J2 => ?_)
    exact zr_vret hB rfl rfl dX6_setDoor_59
  · refine zr_aload_n hB 0 rfl rfl dX6_setDoor_4 ?_
    refine zr_get_X6 (w := w) (k := 0) (v := .ref (ad (w + 1))) hB hw (by decide) rfl lf_X6_9 rfl dX6_setDoor_5 ?_
    refine zr_iload_n hB 1 rfl rfl dX6_setDoor_8 ?_
    refine zr_dup2 hB rfl rfl dX6_setDoor_9 ?_
    refine zr_iaload hB (zA_X6_1 hw) dX6_setDoor_10 ?_
    refine zr_iconst (v := 1) hB (by decide) dX6_setDoor_11 ?_
    refine zr_iload_n hB 2 rfl rfl dX6_setDoor_12 ?_
    refine zr_ishl hB dX6_setDoor_13 ?_
    refine zr_ior hB dX6_setDoor_14 ?_
    refine zr_iastore hB (zA_X6_1 hw) dX6_setDoor_15 ?_
    refine zr_letM (fun J3 => ?_)
    refine zr_aload_n hB 0 rfl rfl dX6_setDoor_16 ?_
    refine zr_get_X6 (w := w) (k := 0) (v := .ref (ad (w + 1))) hB hw (by decide) rfl lf_X6_9 rfl dX6_setDoor_17 ?_
    refine zr_iload_n hB 2 rfl rfl dX6_setDoor_20 ?_
    refine zr_dup2 hB rfl rfl dX6_setDoor_21 ?_
    refine zr_iaload hB (zA_X6_1 hw) dX6_setDoor_22 ?_
    refine zr_iconst (v := 1) hB (by decide) dX6_setDoor_23 ?_
    refine zr_iload_n hB 1 rfl rfl dX6_setDoor_24 ?_
    refine zr_ishl hB dX6_setDoor_25 ?_
    refine zr_ior hB dX6_setDoor_26 ?_
    refine zr_iastore hB (zA_X6_1 hw) dX6_setDoor_27 ?_
    refine zr_letM (fun J4 => ?_)
    refine zr_goto (tgt := 59) hB (by decide) dX6_setDoor_28 ?_
    exact zr_vret hB rfl rfl dX6_setDoor_59

def fX7_isWithin (a1 : Int32) (a2 : Int32) (a3 : Int32) : Option (Int32) :=
  if a1 < a2 then
    some 0
  else
  if a3 < a1 then
    some 0
  else
  some 1
set_option maxHeartbeats 4000000 in
set_option maxRecDepth 100000 in
theorem mX7_isWithin {l : Launch} {D : va_G} {T : zT} {ad sK sV : Nat → Nat} (hi : zInj ad) (a1 : Int32) (a2 : Int32) (a3 : Int32)  (I : zI) (L : zL) : ∀ o, fX7_isWithin a1 a2 a3 = some o → zMet l yX7_isWithin cX7_isWithin 3 (some .boolean) 0 0 D T ad sK sV [.int a1, .int a2, .int a3] I L (em_i0 I L o) := by
  intro o ho
  refine zMet.of hi (by decide +kernel) (Nat.le_of_ble_eq_true rfl) (fun p e s m args below meth c hB => ?_)
  refine zr_top (emb := em_i0 I L) (t := fX7_isWithin a1 a2 a3) ?_ ho
  unfold fX7_isWithin
  refine zr_iload_n hB 0 rfl rfl dX7_isWithin_0 ?_
  refine zr_iload_n hB 1 rfl rfl dX7_isWithin_1 ?_
  refine zr_icmp_lt (tgt := 14) hB (by decide) dX7_isWithin_2 ?_ ?_
  · refine zr_iconst (v := 0) hB (by decide) dX7_isWithin_14 ?_
    exact zr_zretC (by decide) hB rfl rfl dX7_isWithin_15
  · refine zr_iload_n hB 0 rfl rfl dX7_isWithin_5 ?_
    refine zr_iload_n hB 2 rfl rfl dX7_isWithin_6 ?_
    refine zr_icmp_gt (tgt := 14) hB (by decide) dX7_isWithin_7 ?_ ?_
    · refine zr_iconst (v := 0) hB (by decide) dX7_isWithin_14 ?_
      exact zr_zretC (by decide) hB rfl rfl dX7_isWithin_15
    · refine zr_iconst (v := 1) hB (by decide) dX7_isWithin_10 ?_
      refine zr_goto (tgt := 15) hB (by decide) dX7_isWithin_11 ?_
      exact zr_zretC (by decide) hB rfl rfl dX7_isWithin_15

def fX7_finding (a1 : Int32) (I : zI) : Option (Int32 × zI) :=
  zl ((-1000001) - a1) fun v1 =>
  zb (fX7_isWithin v1 0 6) fun o3 =>
  if o3 = 0 then
    some (a1, I)
  else
  zg v1 7 (
  zg v1 7 (
  zl (zup I 41 (zn v1) ((I 41 (zn v1)) + 1)) fun J4 =>
  some (a1, J4)))
set_option maxHeartbeats 4000000 in
set_option maxRecDepth 100000 in
theorem mX7_finding {l : Launch} {D : va_G} {T : zT} {ad sK sV : Nat → Nat} (hi : zInj ad) (a1 : Int32)  (I : zI) (L : zL) : ∀ o, fX7_finding a1 I = some o → zMet l yX7_finding cX7_finding 3 (some .int) 1 22 D T ad sK sV [.ref (ad 0), .int a1] I L (em_iI L o) := by
  intro o ho
  refine zMet.of hi (by decide +kernel) (Nat.le_of_ble_eq_true rfl) (fun p e s m args below meth c hB => ?_)
  refine zr_top (emb := em_iI L) (t := fX7_finding a1 I) ?_ ho
  unfold fX7_finding
  refine zr_ldc (v := (-1000001)) hB lk_X7_55 dX7_finding_0 ?_
  refine zr_iload_n hB 1 rfl rfl dX7_finding_2 ?_
  refine zr_isub hB dX7_finding_3 ?_
  refine zr_letI (fun v1 => ?_)
  refine zr_istore_n (lv' := [(2, .int v1), (0, .ref (ad 0)), (1, .int a1)]) hB rfl (by decide) rfl dX7_finding_4 ?_
  refine zr_iload_n hB 0 rfl rfl dX7_finding_5 ?_
  refine zr_iconst (v := 0) hB (by decide) dX7_finding_6 ?_
  refine zr_bipush (v := 6) hB (by decide) dX7_finding_7 ?_
  refine zr_callS (st := []) (As := [.int v1, .int 0, .int 6]) (embc := em_i0 I L) hB (mX7_isWithin (sK := sK) (sV := sV) hi v1 0 6 I L) lm_X7_51 q2_X7_isWithin q4_X7 q5_X7_isWithin qd_X7_isWithin (by decide) rfl rfl (Nat.le_of_ble_eq_true rfl) ⟨Nat.zero_le _, Nat.zero_le _⟩ dX7_finding_9 (zr_ki0 (fun o3 => ?_))
  refine zr_ifeq (tgt := 25) hB (by decide) dX7_finding_12 ?_ ?_
  · refine zr_iload_n hB 2 rfl rfl dX7_finding_25 ?_
    exact zr_iret hB rfl rfl dX7_finding_26
  · refine zr_aload_n hB 1 rfl rfl dX7_finding_15 ?_
    refine zr_get_X7 (w := 0) (k := 7) (v := .ref (ad 41)) hB rfl (by decide) rfl lf_X7_42 rfl dX7_finding_16 ?_
    refine zr_iload_n hB 0 rfl rfl dX7_finding_19 ?_
    refine zr_dup2 hB rfl rfl dX7_finding_20 ?_
    refine zr_iaload hB zA_41 dX7_finding_21 ?_
    refine zr_iconst (v := 1) hB (by decide) dX7_finding_22 ?_
    refine zr_iadd hB dX7_finding_23 ?_
    refine zr_iastore hB zA_41 dX7_finding_24 ?_
    refine zr_letM (fun J4 => ?_)
    refine zr_iload_n hB 2 rfl rfl dX7_finding_25 ?_
    exact zr_iret hB rfl rfl dX7_finding_26

def fX7_isRoom (a1 : Int32) : Option (Int32) :=
  zb (fX7_isWithin a1 0 7) fun o2 =>
  zgb o2 (
  some o2)
set_option maxHeartbeats 4000000 in
set_option maxRecDepth 100000 in
theorem mX7_isRoom {l : Launch} {D : va_G} {T : zT} {ad sK sV : Nat → Nat} (hi : zInj ad) (a1 : Int32)  (I : zI) (L : zL) : ∀ o, fX7_isRoom a1 = some o → zMet l yX7_isRoom cX7_isRoom 1 (some .boolean) 1 22 D T ad sK sV [.int a1] I L (em_i0 I L o) := by
  intro o ho
  refine zMet.of hi (by decide +kernel) (Nat.le_of_ble_eq_true rfl) (fun p e s m args below meth c hB => ?_)
  refine zr_top (emb := em_i0 I L) (t := fX7_isRoom a1) ?_ ho
  unfold fX7_isRoom
  refine zr_iload_n hB 0 rfl rfl dX7_isRoom_0 ?_
  refine zr_iconst (v := 0) hB (by decide) dX7_isRoom_1 ?_
  refine zr_bipush (v := 7) hB (by decide) dX7_isRoom_2 ?_
  refine zr_callS (st := []) (As := [.int a1, .int 0, .int 7]) (embc := em_i0 I L) hB (mX7_isWithin (sK := sK) (sV := sV) hi a1 0 7 I L) lm_X7_51 q2_X7_isWithin q4_X7 q5_X7_isWithin qd_X7_isWithin (by decide) rfl rfl (Nat.le_of_ble_eq_true rfl) ⟨Nat.zero_le _, Nat.zero_le _⟩ dX7_isRoom_4 (zr_ki0 (fun o2 => ?_))
  refine zr_gb (fun hv => ?_)
  exact zr_zretC hv hB rfl rfl dX7_isRoom_7

def fX7_door (a1 : Int32) (a2 : Int32) (a3 : Int32) (I : zI) : Option (Int32 × zI) :=
  zb (fX7_isRoom a1) fun o2 =>
  if o2 = 0 then
    zb (fX7_finding (-1000001) I) fun o5 =>
    some (o5.1, o5.2)
  else
  zb (fX7_isRoom a2) fun o7 =>
  if o7 = 0 then
    zb (fX7_finding (-1000001) I) fun o10 =>
    some (o10.1, o10.2)
  else
  if a1 = a2 then
    zb (fX7_finding (-1000001) I) fun o13 =>
    some (o13.1, o13.2)
  else
  zb (fX7_isWithin a3 0 1) fun o15 =>
  if o15 = 0 then
    zb (fX7_finding (-1000001) I) fun o30 =>
    some (o30.1, o30.2)
  else
  zb (fX6_isOpen 1 a1 a2 I) fun o17 =>
  zb (
    if o17 = 0 then
      some 0
    else
    some 1) fun x18 : Int32 =>
  if a3 = 1 then
    zb (fX6_setDoor 1 a1 a2 1 I) fun o27 =>
    some (x18, o27)
  else
  zb (fX6_setDoor 1 a1 a2 0 I) fun o24 =>
  some (x18, o24)
set_option maxHeartbeats 4000000 in
set_option maxRecDepth 100000 in
theorem mX7_door {l : Launch} {D : va_G} {T : zT} {ad sK sV : Nat → Nat} (hi : zInj ad) (a1 : Int32) (a2 : Int32) (a3 : Int32)  (I : zI) (L : zL) : ∀ o, fX7_door a1 a2 a3 I = some o → zMet l yX7_door cX7_door 5 (some .int) 2 44 D T ad sK sV [.ref (ad 0), .int a1, .int a2, .int a3] I L (em_iI L o) := by
  intro o ho
  refine zMet.of hi (by decide +kernel) (Nat.le_of_ble_eq_true rfl) (fun p e s m args below meth c hB => ?_)
  refine zr_top (emb := em_iI L) (t := fX7_door a1 a2 a3 I) ?_ ho
  unfold fX7_door
  refine zr_iload_n hB 1 rfl rfl dX7_door_0 ?_
  refine zr_callS (st := []) (As := [.int a1]) (embc := em_i0 I L) hB (mX7_isRoom (sK := sK) (sV := sV) hi a1 I L) lm_X7_47 q2_X7_isRoom q4_X7 q5_X7_isRoom qd_X7_isRoom (by decide) rfl rfl (Nat.le_of_ble_eq_true rfl) ⟨Nat.zero_le _, Nat.zero_le _⟩ dX7_door_1 (zr_ki0 (fun o2 => ?_))
  refine zr_ifeq (tgt := 28) hB (by decide) dX7_door_4 ?_ ?_
  · refine zr_aload_n hB 0 rfl rfl dX7_door_28 ?_
    refine zr_ldc (v := (-1000001)) hB lk_X7_55 dX7_door_29 ?_
    refine zr_callV (st := []) (C := RX7) (As := [.int (-1000001)]) (embc := em_iI L) hB (mX7_finding (sK := sK) (sV := sV) hi (-1000001) I L) (zW_X7 rfl) rfl rfl lm_X7_56 q2_X7_finding q3_X7_finding q4_X7 q5_X7_finding qd_X7_finding (by decide) rfl rfl (Nat.le_of_ble_eq_true rfl) ⟨Nat.zero_le _, Nat.zero_le _⟩ dX7_door_31 (zr_kiI (fun o5 => ?_))
    exact zr_iret hB rfl rfl dX7_door_34
  · refine zr_iload_n hB 2 rfl rfl dX7_door_7 ?_
    refine zr_callS (st := []) (As := [.int a2]) (embc := em_i0 I L) hB (mX7_isRoom (sK := sK) (sV := sV) hi a2 I L) lm_X7_47 q2_X7_isRoom q4_X7 q5_X7_isRoom qd_X7_isRoom (by decide) rfl rfl (Nat.le_of_ble_eq_true rfl) ⟨Nat.zero_le _, Nat.zero_le _⟩ dX7_door_8 (zr_ki0 (fun o7 => ?_))
    refine zr_ifeq (tgt := 28) hB (by decide) dX7_door_11 ?_ ?_
    · refine zr_aload_n hB 0 rfl rfl dX7_door_28 ?_
      refine zr_ldc (v := (-1000001)) hB lk_X7_55 dX7_door_29 ?_
      refine zr_callV (st := []) (C := RX7) (As := [.int (-1000001)]) (embc := em_iI L) hB (mX7_finding (sK := sK) (sV := sV) hi (-1000001) I L) (zW_X7 rfl) rfl rfl lm_X7_56 q2_X7_finding q3_X7_finding q4_X7 q5_X7_finding qd_X7_finding (by decide) rfl rfl (Nat.le_of_ble_eq_true rfl) ⟨Nat.zero_le _, Nat.zero_le _⟩ dX7_door_31 (zr_kiI (fun o10 => ?_))
      exact zr_iret hB rfl rfl dX7_door_34
    · refine zr_iload_n hB 1 rfl rfl dX7_door_14 ?_
      refine zr_iload_n hB 2 rfl rfl dX7_door_15 ?_
      refine zr_icmp_eq (tgt := 28) hB (by decide) dX7_door_16 ?_ ?_
      · refine zr_aload_n hB 0 rfl rfl dX7_door_28 ?_
        refine zr_ldc (v := (-1000001)) hB lk_X7_55 dX7_door_29 ?_
        refine zr_callV (st := []) (C := RX7) (As := [.int (-1000001)]) (embc := em_iI L) hB (mX7_finding (sK := sK) (sV := sV) hi (-1000001) I L) (zW_X7 rfl) rfl rfl lm_X7_56 q2_X7_finding q3_X7_finding q4_X7 q5_X7_finding qd_X7_finding (by decide) rfl rfl (Nat.le_of_ble_eq_true rfl) ⟨Nat.zero_le _, Nat.zero_le _⟩ dX7_door_31 (zr_kiI (fun o13 => ?_))
        exact zr_iret hB rfl rfl dX7_door_34
      · refine zr_iload_n hB 3 rfl rfl dX7_door_19 ?_
        refine zr_iconst (v := 0) hB (by decide) dX7_door_20 ?_
        refine zr_iconst (v := 1) hB (by decide) dX7_door_21 ?_
        refine zr_callS (st := []) (As := [.int a3, .int 0, .int 1]) (embc := em_i0 I L) hB (mX7_isWithin (sK := sK) (sV := sV) hi a3 0 1 I L) lm_X7_51 q2_X7_isWithin q4_X7 q5_X7_isWithin qd_X7_isWithin (by decide) rfl rfl (Nat.le_of_ble_eq_true rfl) ⟨Nat.zero_le _, Nat.zero_le _⟩ dX7_door_22 (zr_ki0 (fun o15 => ?_))
        refine zr_ifne (tgt := 35) hB (by decide) dX7_door_25 ?_ ?_
        · refine zr_aload_n hB 0 rfl rfl dX7_door_35 ?_
          refine zr_get_X7 (w := 0) (k := 0) (v := .ref (ad 1)) hB rfl (by decide) rfl lf_X7_12 rfl dX7_door_36 ?_
          refine zr_iload_n hB 1 rfl rfl dX7_door_39 ?_
          refine zr_iload_n hB 2 rfl rfl dX7_door_40 ?_
          refine zr_callV (st := []) (C := RX6) (As := [.int a1, .int a2]) (embc := em_i0 I L) hB (mX6_isOpen (sK := sK) (sV := sV) hi 1 a1 a2 (Or.inl rfl) I L) (zW_X6 (Or.inl rfl)) rfl rfl lm_X7_60 q2_X6_isOpen q3_X6_isOpen q4_X6 q5_X6_isOpen qd_X6_isOpen (by decide) rfl rfl (Nat.le_of_ble_eq_true rfl) ⟨Nat.zero_le _, Nat.zero_le _⟩ dX7_door_41 (zr_ki0 (fun o17 => ?_))
          refine zr_join (pcJ := 52) (fun x18 : Int32 => [(0, .ref (ad 0)), (1, .int a1), (2, .int a2), (3, .int a3)]) (fun x18 => [.int x18]) (fun x18 => I) (fun x18 => L) (fun x18 => ?_) (fun K21 hj19 => ?_)
          · refine zr_istore (lv' := [(4, .int x18), (0, .ref (ad 0)), (1, .int a1), (2, .int a2), (3, .int a3)]) hB (by decide) rfl dX7_door_52 ?_
            refine zr_aload_n hB 1 rfl rfl dX7_door_54 ?_
            refine zr_get_X7 (w := 0) (k := 0) (v := .ref (ad 1)) hB rfl (by decide) rfl lf_X7_12 rfl dX7_door_55 ?_
            refine zr_iload_n hB 2 rfl rfl dX7_door_58 ?_
            refine zr_iload_n hB 3 rfl rfl dX7_door_59 ?_
            refine zr_iload_n hB 4 rfl rfl dX7_door_60 ?_
            refine zr_iconst (v := 1) hB (by decide) dX7_door_61 ?_
            refine zr_icmp_ne (tgt := 69) hB (by decide) dX7_door_62 ?_ ?_
            · refine zr_iconst (v := 0) hB (by decide) dX7_door_69 ?_
              refine zr_callV (st := []) (C := RX6) (As := [.int a1, .int a2, .int 0]) (embc := em_vI L) hB (mX6_setDoor (sK := sK) (sV := sV) hi 1 a1 a2 0 (Or.inl rfl) I L) (zW_X6 (Or.inl rfl)) rfl rfl lm_X7_64 q2_X6_setDoor q3_X6_setDoor q4_X6 q5_X6_setDoor qd_X6_setDoor (by decide) rfl rfl (Nat.le_of_ble_eq_true rfl) ⟨Nat.zero_le _, Nat.zero_le _⟩ dX7_door_70 (zr_kvI (fun o24 => ?_))
              refine zr_iload hB 0 rfl dX7_door_73 ?_
              exact zr_iret hB rfl rfl dX7_door_75
            · refine zr_iconst (v := 1) hB (by decide) dX7_door_65 ?_
              refine zr_goto (tgt := 70) hB (by decide) dX7_door_66 ?_
              refine zr_callV (st := []) (C := RX6) (As := [.int a1, .int a2, .int 1]) (embc := em_vI L) hB (mX6_setDoor (sK := sK) (sV := sV) hi 1 a1 a2 1 (Or.inl rfl) I L) (zW_X6 (Or.inl rfl)) rfl rfl lm_X7_64 q2_X6_setDoor q3_X6_setDoor q4_X6 q5_X6_setDoor qd_X6_setDoor (by decide) rfl rfl (Nat.le_of_ble_eq_true rfl) ⟨Nat.zero_le _, Nat.zero_le _⟩ dX7_door_70 (zr_kvI (fun o27 => ?_))
              refine zr_iload hB 0 rfl dX7_door_73 ?_
              exact zr_iret hB rfl rfl dX7_door_75
          · refine zr_ifeq (tgt := 51) hB (by decide) dX7_door_44 ?_ ?_
            · refine zr_iconst (v := 0) hB (by decide) dX7_door_51 ?_
              exact zr_sub [0, 1, 2, 3] rfl (hj19 0)
            · refine zr_iconst (v := 1) hB (by decide) dX7_door_47 ?_
              refine zr_goto (tgt := 52) hB (by decide) dX7_door_48 ?_
              exact zr_sub [0, 1, 2, 3] rfl (hj19 1)
        · refine zr_aload_n hB 0 rfl rfl dX7_door_28 ?_
          refine zr_ldc (v := (-1000001)) hB lk_X7_55 dX7_door_29 ?_
          refine zr_callV (st := []) (C := RX7) (As := [.int (-1000001)]) (embc := em_iI L) hB (mX7_finding (sK := sK) (sV := sV) hi (-1000001) I L) (zW_X7 rfl) rfl rfl lm_X7_56 q2_X7_finding q3_X7_finding q4_X7 q5_X7_finding qd_X7_finding (by decide) rfl rfl (Nat.le_of_ble_eq_true rfl) ⟨Nat.zero_le _, Nat.zero_le _⟩ dX7_door_31 (zr_kiI (fun o30 => ?_))
          exact zr_iret hB rfl rfl dX7_door_34

def fX6_setRule (w : Nat) (a1 : Int32) (a2 : Int32) (I : zI) : Option (Int32 × zI) :=
  if a1 = 0 then
    zl (I w 1) fun v1 =>
    zl (zup I w 1 a2) fun J2 =>
    some (v1, J2)
  else
  if a1 = 1 then
    zl (I w 2) fun v3 =>
    zl (zup I w 2 a2) fun J4 =>
    some (v3, J4)
  else
  zl (I w 3) fun v5 =>
  zl (zup I w 3 a2) fun J6 =>
  some (v5, J6)
set_option maxHeartbeats 4000000 in
set_option maxRecDepth 100000 in
theorem mX6_setRule {l : Launch} {D : va_G} {T : zT} {ad sK sV : Nat → Nat} (hi : zInj ad) (w : Nat) (a1 : Int32) (a2 : Int32) (hw : zO_X6 w) (I : zI) (L : zL) : ∀ o, fX6_setRule w a1 a2 I = some o → zMet l yX6_setRule cX6_setRule 4 (some .int) 0 0 D T ad sK sV [.ref (ad w), .int a1, .int a2] I L (em_iI L o) := by
  intro o ho
  refine zMet.of hi (by decide +kernel) (Nat.le_of_ble_eq_true rfl) (fun p e s m args below meth c hB => ?_)
  refine zr_top (emb := em_iI L) (t := fX6_setRule w a1 a2 I) ?_ ho
  unfold fX6_setRule
  refine zr_iload_n hB 1 rfl rfl dX6_setRule_0 ?_
  refine zr_case (fun q1_0 => ?_) (fun q1_0 => ?_)
  · refine zr_lsw (tgt := 28) (off := 27) hB dX6_setRule_1 (by decide) (by rw [q1_0]; try rfl) (by decide) ?_
    refine zr_aload_n hB 0 rfl rfl dX6_setRule_28 ?_
    refine zr_get_X6 (w := w) (k := 1) (v := .int (I w 1)) hB hw (by decide) rfl lf_X6_15 rfl dX6_setRule_29 ?_
    refine zr_letI (fun v1 => ?_)
    refine zr_istore_n (lv' := [(3, .int v1), (0, .ref (ad w)), (1, .int a1), (2, .int a2)]) hB rfl (by decide) rfl dX6_setRule_32 ?_
    refine zr_aload_n hB 1 rfl rfl dX6_setRule_33 ?_
    refine zr_iload_n hB 3 rfl rfl dX6_setRule_34 ?_
    refine zr_put_X6 (w := w) (k := 1) hB hw (by decide) rfl rfl rfl lf_X6_15 rfl dX6_setRule_35 ?_
    refine zr_letM (fun J2 => ?_)
    refine zr_goto (tgt := 64) hB (by decide) dX6_setRule_38 ?_
    refine zr_iload_n hB 0 rfl rfl dX6_setRule_64 ?_
    exact zr_iret hB rfl rfl dX6_setRule_65
  · refine zr_case (fun q1_1 => ?_) (fun q1_1 => ?_)
    · refine zr_lsw (tgt := 41) (off := 40) hB dX6_setRule_1 (by decide) (by rw [q1_1]; try rfl) (by decide) ?_
      refine zr_aload_n hB 0 rfl rfl dX6_setRule_41 ?_
      refine zr_get_X6 (w := w) (k := 2) (v := .int (I w 2)) hB hw (by decide) rfl lf_X6_49 rfl dX6_setRule_42 ?_
      refine zr_letI (fun v3 => ?_)
      refine zr_istore_n (lv' := [(3, .int v3), (0, .ref (ad w)), (1, .int a1), (2, .int a2)]) hB rfl (by decide) rfl dX6_setRule_45 ?_
      refine zr_aload_n hB 1 rfl rfl dX6_setRule_46 ?_
      refine zr_iload_n hB 3 rfl rfl dX6_setRule_47 ?_
      refine zr_put_X6 (w := w) (k := 2) hB hw (by decide) rfl rfl rfl lf_X6_49 rfl dX6_setRule_48 ?_
      refine zr_letM (fun J4 => ?_)
      refine zr_goto (tgt := 64) hB (by decide) dX6_setRule_51 ?_
      refine zr_iload_n hB 0 rfl rfl dX6_setRule_64 ?_
      exact zr_iret hB rfl rfl dX6_setRule_65
    · refine zr_lsw (tgt := 54) (off := 53) hB dX6_setRule_1 (by decide) (by show Op.lookupswitch.offset [(0, 27), (1, 40)] 53 (a1).toInt = 53; rw [lv_osw q1_0 (show (0 : Int32).toInt = 0 from rfl), lv_osw q1_1 (show (1 : Int32).toInt = 1 from rfl)]; rfl) (by decide) ?_
      refine zr_aload_n hB 0 rfl rfl dX6_setRule_54 ?_
      refine zr_get_X6 (w := w) (k := 3) (v := .int (I w 3)) hB hw (by decide) rfl lf_X6_52 rfl dX6_setRule_55 ?_
      refine zr_letI (fun v5 => ?_)
      refine zr_istore_n (lv' := [(3, .int v5), (0, .ref (ad w)), (1, .int a1), (2, .int a2)]) hB rfl (by decide) rfl dX6_setRule_58 ?_
      refine zr_aload_n hB 1 rfl rfl dX6_setRule_59 ?_
      refine zr_iload_n hB 3 rfl rfl dX6_setRule_60 ?_
      refine zr_put_X6 (w := w) (k := 3) hB hw (by decide) rfl rfl rfl lf_X6_52 rfl dX6_setRule_61 ?_
      refine zr_letM (fun J6 => ?_)
      refine zr_iload_n hB 0 rfl rfl dX6_setRule_64 ?_
      exact zr_iret hB rfl rfl dX6_setRule_65

def fX7_rule (a1 : Int32) (a2 : Int32) (I : zI) : Option (Int32 × zI) :=
  zb (fX7_isWithin a1 0 2) fun o2 =>
  if o2 = 0 then
    zb (fX7_finding (-1000001) I) fun o5 =>
    some (o5.1, o5.2)
  else
  zb (
    if a1 = 2 then
      some 100
    else
    some 7) fun x6 : Int32 =>
  zb (fX7_isWithin a2 0 x6) fun o11 =>
  if o11 = 0 then
    zb (fX7_finding (-1000001) I) fun o17 =>
    some (o17.1, o17.2)
  else
  zb (fX6_setRule 1 a1 a2 I) fun o14 =>
  some (o14.1, o14.2)
set_option maxHeartbeats 4000000 in
set_option maxRecDepth 100000 in
theorem mX7_rule {l : Launch} {D : va_G} {T : zT} {ad sK sV : Nat → Nat} (hi : zInj ad) (a1 : Int32) (a2 : Int32)  (I : zI) (L : zL) : ∀ o, fX7_rule a1 a2 I = some o → zMet l yX7_rule cX7_rule 3 (some .int) 2 44 D T ad sK sV [.ref (ad 0), .int a1, .int a2] I L (em_iI L o) := by
  intro o ho
  refine zMet.of hi (by decide +kernel) (Nat.le_of_ble_eq_true rfl) (fun p e s m args below meth c hB => ?_)
  refine zr_top (emb := em_iI L) (t := fX7_rule a1 a2 I) ?_ ho
  unfold fX7_rule
  refine zr_iload_n hB 1 rfl rfl dX7_rule_0 ?_
  refine zr_iconst (v := 0) hB (by decide) dX7_rule_1 ?_
  refine zr_iconst (v := 2) hB (by decide) dX7_rule_2 ?_
  refine zr_callS (st := []) (As := [.int a1, .int 0, .int 2]) (embc := em_i0 I L) hB (mX7_isWithin (sK := sK) (sV := sV) hi a1 0 2 I L) lm_X7_51 q2_X7_isWithin q4_X7 q5_X7_isWithin qd_X7_isWithin (by decide) rfl rfl (Nat.le_of_ble_eq_true rfl) ⟨Nat.zero_le _, Nat.zero_le _⟩ dX7_rule_3 (zr_ki0 (fun o2 => ?_))
  refine zr_ifeq (tgt := 29) hB (by decide) dX7_rule_6 ?_ ?_
  · refine zr_aload_n hB 0 rfl rfl dX7_rule_29 ?_
    refine zr_ldc (v := (-1000001)) hB lk_X7_55 dX7_rule_30 ?_
    refine zr_callV (st := []) (C := RX7) (As := [.int (-1000001)]) (embc := em_iI L) hB (mX7_finding (sK := sK) (sV := sV) hi (-1000001) I L) (zW_X7 rfl) rfl rfl lm_X7_56 q2_X7_finding q3_X7_finding q4_X7 q5_X7_finding qd_X7_finding (by decide) rfl rfl (Nat.le_of_ble_eq_true rfl) ⟨Nat.zero_le _, Nat.zero_le _⟩ dX7_rule_32 (zr_kiI (fun o5 => ?_))
    exact zr_iret hB rfl rfl dX7_rule_35
  · refine zr_iload_n hB 2 rfl rfl dX7_rule_9 ?_
    refine zr_iconst (v := 0) hB (by decide) dX7_rule_10 ?_
    refine zr_iload_n hB 1 rfl rfl dX7_rule_11 ?_
    refine zr_iconst (v := 2) hB (by decide) dX7_rule_12 ?_
    refine zr_join (pcJ := 23) (fun x6 : Int32 => [(0, .ref (ad 0)), (1, .int a1), (2, .int a2)]) (fun x6 => [.int x6, .int 0, .int a2]) (fun x6 => I) (fun x6 => L) (fun x6 => ?_) (fun K9 hj7 => ?_)
    · refine zr_callS (st := []) (As := [.int a2, .int 0, .int x6]) (embc := em_i0 I L) hB (mX7_isWithin (sK := sK) (sV := sV) hi a2 0 x6 I L) lm_X7_51 q2_X7_isWithin q4_X7 q5_X7_isWithin qd_X7_isWithin (by decide) rfl rfl (Nat.le_of_ble_eq_true rfl) ⟨Nat.zero_le _, Nat.zero_le _⟩ dX7_rule_23 (zr_ki0 (fun o11 => ?_))
      refine zr_ifne (tgt := 36) hB (by decide) dX7_rule_26 ?_ ?_
      · refine zr_aload_n hB 0 rfl rfl dX7_rule_36 ?_
        refine zr_get_X7 (w := 0) (k := 0) (v := .ref (ad 1)) hB rfl (by decide) rfl lf_X7_12 rfl dX7_rule_37 ?_
        refine zr_iload_n hB 1 rfl rfl dX7_rule_40 ?_
        refine zr_iload_n hB 2 rfl rfl dX7_rule_41 ?_
        refine zr_callV (st := []) (C := RX6) (As := [.int a1, .int a2]) (embc := em_iI L) hB (mX6_setRule (sK := sK) (sV := sV) hi 1 a1 a2 (Or.inl rfl) I L) (zW_X6 (Or.inl rfl)) rfl rfl lm_X7_68 q2_X6_setRule q3_X6_setRule q4_X6 q5_X6_setRule qd_X6_setRule (by decide) rfl rfl (Nat.le_of_ble_eq_true rfl) ⟨Nat.zero_le _, Nat.zero_le _⟩ dX7_rule_42 (zr_kiI (fun o14 => ?_))
        exact zr_iret hB rfl rfl dX7_rule_45
      · refine zr_aload_n hB 0 rfl rfl dX7_rule_29 ?_
        refine zr_ldc (v := (-1000001)) hB lk_X7_55 dX7_rule_30 ?_
        refine zr_callV (st := []) (C := RX7) (As := [.int (-1000001)]) (embc := em_iI L) hB (mX7_finding (sK := sK) (sV := sV) hi (-1000001) I L) (zW_X7 rfl) rfl rfl lm_X7_56 q2_X7_finding q3_X7_finding q4_X7 q5_X7_finding qd_X7_finding (by decide) rfl rfl (Nat.le_of_ble_eq_true rfl) ⟨Nat.zero_le _, Nat.zero_le _⟩ dX7_rule_32 (zr_kiI (fun o17 => ?_))
        exact zr_iret hB rfl rfl dX7_rule_35
    · refine zr_icmp_ne (tgt := 21) hB (by decide) dX7_rule_13 ?_ ?_
      · refine zr_bipush (v := 7) hB (by decide) dX7_rule_21 ?_
        exact zr_sub [0, 1, 2] rfl (hj7 7)
      · refine zr_bipush (v := 100) hB (by decide) dX7_rule_16 ?_
        refine zr_goto (tgt := 23) hB (by decide) dX7_rule_18 ?_
        exact zr_sub [0, 1, 2] rfl (hj7 100)

def fX6_addThing (w : Nat) (a1 : Int32) (a2 : Int32) (a3 : Int32) (I : zI) : Option (Int32 × zI) :=
  if (I w 4) < 8 then
    zg (I w 4) 8 (
    zl (zup I (w + 2) (zn (I w 4)) a1) fun J1 =>
    zg (J1 w 4) 8 (
    zl (zup J1 (w + 3) (zn (J1 w 4)) a2) fun J2 =>
    zg (J2 w 4) 8 (
    zl (zup J2 (w + 4) (zn (J2 w 4)) a3) fun J3 =>
    zl (zup J3 w 4 ((J3 w 4) + 1)) fun J4 =>
    some ((J4 w 4) - 1, J4))))
  else
  some ((-1000002), I)
set_option maxHeartbeats 4000000 in
set_option maxRecDepth 100000 in
theorem mX6_addThing {l : Launch} {D : va_G} {T : zT} {ad sK sV : Nat → Nat} (hi : zInj ad) (w : Nat) (a1 : Int32) (a2 : Int32) (a3 : Int32) (hw : zO_X6 w) (I : zI) (L : zL) : ∀ o, fX6_addThing w a1 a2 a3 I = some o → zMet l yX6_addThing cX6_addThing 4 (some .int) 0 0 D T ad sK sV [.ref (ad w), .int a1, .int a2, .int a3] I L (em_iI L o) := by
  intro o ho
  refine zMet.of hi (by decide +kernel) (Nat.le_of_ble_eq_true rfl) (fun p e s m args below meth c hB => ?_)
  refine zr_top (emb := em_iI L) (t := fX6_addThing w a1 a2 a3 I) ?_ ho
  unfold fX6_addThing
  refine zr_aload_n hB 0 rfl rfl dX6_addThing_0 ?_
  refine zr_get_X6 (w := w) (k := 4) (v := .int (I w 4)) hB hw (by decide) rfl lf_X6_55 rfl dX6_addThing_1 ?_
  refine zr_bipush (v := 8) hB (by decide) dX6_addThing_4 ?_
  refine zr_icmp_lt (tgt := 12) hB (by decide) dX6_addThing_6 ?_ ?_
  · refine zr_aload_n hB 0 rfl rfl dX6_addThing_12 ?_
    refine zr_get_X6 (w := w) (k := 5) (v := .ref (ad (w + 2))) hB hw (by decide) rfl lf_X6_19 rfl dX6_addThing_13 ?_
    refine zr_aload_n hB 0 rfl rfl dX6_addThing_16 ?_
    refine zr_get_X6 (w := w) (k := 4) (v := .int (I w 4)) hB hw (by decide) rfl lf_X6_55 rfl dX6_addThing_17 ?_
    refine zr_iload_n hB 1 rfl rfl dX6_addThing_20 ?_
    refine zr_iastore hB (zA_X6_2 hw) dX6_addThing_21 ?_
    refine zr_letM (fun J1 => ?_)
    refine zr_aload_n hB 0 rfl rfl dX6_addThing_22 ?_
    refine zr_get_X6 (w := w) (k := 6) (v := .ref (ad (w + 3))) hB hw (by decide) rfl lf_X6_22 rfl dX6_addThing_23 ?_
    refine zr_aload_n hB 0 rfl rfl dX6_addThing_26 ?_
    refine zr_get_X6 (w := w) (k := 4) (v := .int (J1 w 4)) hB hw (by decide) rfl lf_X6_55 rfl dX6_addThing_27 ?_
    refine zr_iload_n hB 2 rfl rfl dX6_addThing_30 ?_
    refine zr_iastore hB (zA_X6_3 hw) dX6_addThing_31 ?_
    refine zr_letM (fun J2 => ?_)
    refine zr_aload_n hB 0 rfl rfl dX6_addThing_32 ?_
    refine zr_get_X6 (w := w) (k := 7) (v := .ref (ad (w + 4))) hB hw (by decide) rfl lf_X6_25 rfl dX6_addThing_33 ?_
    refine zr_aload_n hB 0 rfl rfl dX6_addThing_36 ?_
    refine zr_get_X6 (w := w) (k := 4) (v := .int (J2 w 4)) hB hw (by decide) rfl lf_X6_55 rfl dX6_addThing_37 ?_
    refine zr_iload_n hB 3 rfl rfl dX6_addThing_40 ?_
    refine zr_iastore hB (zA_X6_4 hw) dX6_addThing_41 ?_
    refine zr_letM (fun J3 => ?_)
    refine zr_aload_n hB 0 rfl rfl dX6_addThing_42 ?_
    refine zr_dup hB rfl dX6_addThing_43 ?_
    refine zr_get_X6 (w := w) (k := 4) (v := .int (J3 w 4)) hB hw (by decide) rfl lf_X6_55 rfl dX6_addThing_44 ?_
    refine zr_iconst (v := 1) hB (by decide) dX6_addThing_47 ?_
    refine zr_iadd hB dX6_addThing_48 ?_
    refine zr_put_X6 (w := w) (k := 4) hB hw (by decide) rfl rfl rfl lf_X6_55 rfl dX6_addThing_49 ?_
    refine zr_letM (fun J4 => ?_)
    refine zr_aload_n hB 0 rfl rfl dX6_addThing_52 ?_
    refine zr_get_X6 (w := w) (k := 4) (v := .int (J4 w 4)) hB hw (by decide) rfl lf_X6_55 rfl dX6_addThing_53 ?_
    refine zr_iconst (v := 1) hB (by decide) dX6_addThing_56 ?_
    refine zr_isub hB dX6_addThing_57 ?_
    exact zr_iret hB rfl rfl dX6_addThing_58
  · refine zr_ldc (v := (-1000002)) hB lk_X6_73 dX6_addThing_9 ?_
    exact zr_iret hB rfl rfl dX6_addThing_11

def fX7_isKind (a1 : Int32) : Option (Int32) :=
  zb (fX7_isWithin a1 0 6) fun o2 =>
  zgb o2 (
  some o2)
set_option maxHeartbeats 4000000 in
set_option maxRecDepth 100000 in
theorem mX7_isKind {l : Launch} {D : va_G} {T : zT} {ad sK sV : Nat → Nat} (hi : zInj ad) (a1 : Int32)  (I : zI) (L : zL) : ∀ o, fX7_isKind a1 = some o → zMet l yX7_isKind cX7_isKind 1 (some .boolean) 1 22 D T ad sK sV [.int a1] I L (em_i0 I L o) := by
  intro o ho
  refine zMet.of hi (by decide +kernel) (Nat.le_of_ble_eq_true rfl) (fun p e s m args below meth c hB => ?_)
  refine zr_top (emb := em_i0 I L) (t := fX7_isKind a1) ?_ ho
  unfold fX7_isKind
  refine zr_iload_n hB 0 rfl rfl dX7_isKind_0 ?_
  refine zr_iconst (v := 0) hB (by decide) dX7_isKind_1 ?_
  refine zr_bipush (v := 6) hB (by decide) dX7_isKind_2 ?_
  refine zr_callS (st := []) (As := [.int a1, .int 0, .int 6]) (embc := em_i0 I L) hB (mX7_isWithin (sK := sK) (sV := sV) hi a1 0 6 I L) lm_X7_51 q2_X7_isWithin q4_X7 q5_X7_isWithin qd_X7_isWithin (by decide) rfl rfl (Nat.le_of_ble_eq_true rfl) ⟨Nat.zero_le _, Nat.zero_le _⟩ dX7_isKind_4 (zr_ki0 (fun o2 => ?_))
  refine zr_gb (fun hv => ?_)
  exact zr_zretC hv hB rfl rfl dX7_isKind_7

def fX7_thing (a1 : Int32) (a2 : Int32) (I : zI) : Option (Int32 × zI) :=
  zb (fX7_isKind a1) fun o2 =>
  if o2 = 0 then
    zb (fX7_finding (-1000001) I) fun o5 =>
    some (o5.1, o5.2)
  else
  zb (fX7_isRoom a2) fun o7 =>
  if o7 = 0 then
    zb (fX7_finding (-1000001) I) fun o16 =>
    some (o16.1, o16.2)
  else
  if (I 1 4) < 8 then
    zb (fX6_addThing 1 a1 a2 8 I) fun o10 =>
    some (o10.1, o10.2)
  else
  zb (fX7_finding (-1000002) I) fun o13 =>
  some (o13.1, o13.2)
set_option maxHeartbeats 4000000 in
set_option maxRecDepth 100000 in
theorem mX7_thing {l : Launch} {D : va_G} {T : zT} {ad sK sV : Nat → Nat} (hi : zInj ad) (a1 : Int32) (a2 : Int32)  (I : zI) (L : zL) : ∀ o, fX7_thing a1 a2 I = some o → zMet l yX7_thing cX7_thing 3 (some .int) 2 44 D T ad sK sV [.ref (ad 0), .int a1, .int a2] I L (em_iI L o) := by
  intro o ho
  refine zMet.of hi (by decide +kernel) (Nat.le_of_ble_eq_true rfl) (fun p e s m args below meth c hB => ?_)
  refine zr_top (emb := em_iI L) (t := fX7_thing a1 a2 I) ?_ ho
  unfold fX7_thing
  refine zr_iload_n hB 1 rfl rfl dX7_thing_0 ?_
  refine zr_callS (st := []) (As := [.int a1]) (embc := em_i0 I L) hB (mX7_isKind (sK := sK) (sV := sV) hi a1 I L) lm_X7_72 q2_X7_isKind q4_X7 q5_X7_isKind qd_X7_isKind (by decide) rfl rfl (Nat.le_of_ble_eq_true rfl) ⟨Nat.zero_le _, Nat.zero_le _⟩ dX7_thing_1 (zr_ki0 (fun o2 => ?_))
  refine zr_ifeq (tgt := 14) hB (by decide) dX7_thing_4 ?_ ?_
  · refine zr_aload_n hB 0 rfl rfl dX7_thing_14 ?_
    refine zr_ldc (v := (-1000001)) hB lk_X7_55 dX7_thing_15 ?_
    refine zr_callV (st := []) (C := RX7) (As := [.int (-1000001)]) (embc := em_iI L) hB (mX7_finding (sK := sK) (sV := sV) hi (-1000001) I L) (zW_X7 rfl) rfl rfl lm_X7_56 q2_X7_finding q3_X7_finding q4_X7 q5_X7_finding qd_X7_finding (by decide) rfl rfl (Nat.le_of_ble_eq_true rfl) ⟨Nat.zero_le _, Nat.zero_le _⟩ dX7_thing_17 (zr_kiI (fun o5 => ?_))
    exact zr_iret hB rfl rfl dX7_thing_20
  · refine zr_iload_n hB 2 rfl rfl dX7_thing_7 ?_
    refine zr_callS (st := []) (As := [.int a2]) (embc := em_i0 I L) hB (mX7_isRoom (sK := sK) (sV := sV) hi a2 I L) lm_X7_47 q2_X7_isRoom q4_X7 q5_X7_isRoom qd_X7_isRoom (by decide) rfl rfl (Nat.le_of_ble_eq_true rfl) ⟨Nat.zero_le _, Nat.zero_le _⟩ dX7_thing_8 (zr_ki0 (fun o7 => ?_))
    refine zr_ifne (tgt := 21) hB (by decide) dX7_thing_11 ?_ ?_
    · refine zr_aload_n hB 0 rfl rfl dX7_thing_21 ?_
      refine zr_get_X7 (w := 0) (k := 0) (v := .ref (ad 1)) hB rfl (by decide) rfl lf_X7_12 rfl dX7_thing_22 ?_
      refine zr_get_X6 (w := 1) (k := 4) (v := .int (I 1 4)) hB (Or.inl rfl) (by decide) rfl lf_X7_75 rfl dX7_thing_25 ?_
      refine zr_bipush (v := 8) hB (by decide) dX7_thing_28 ?_
      refine zr_icmp_lt (tgt := 40) hB (by decide) dX7_thing_30 ?_ ?_
      · refine zr_aload_n hB 0 rfl rfl dX7_thing_40 ?_
        refine zr_get_X7 (w := 0) (k := 0) (v := .ref (ad 1)) hB rfl (by decide) rfl lf_X7_12 rfl dX7_thing_41 ?_
        refine zr_iload_n hB 1 rfl rfl dX7_thing_44 ?_
        refine zr_iload_n hB 2 rfl rfl dX7_thing_45 ?_
        refine zr_bipush (v := 8) hB (by decide) dX7_thing_46 ?_
        refine zr_callV (st := []) (C := RX6) (As := [.int a1, .int a2, .int 8]) (embc := em_iI L) hB (mX6_addThing (sK := sK) (sV := sV) hi 1 a1 a2 8 (Or.inl rfl) I L) (zW_X6 (Or.inl rfl)) rfl rfl lm_X7_80 q2_X6_addThing q3_X6_addThing q4_X6 q5_X6_addThing qd_X6_addThing (by decide) rfl rfl (Nat.le_of_ble_eq_true rfl) ⟨Nat.zero_le _, Nat.zero_le _⟩ dX7_thing_48 (zr_kiI (fun o10 => ?_))
        exact zr_iret hB rfl rfl dX7_thing_51
      · refine zr_aload_n hB 0 rfl rfl dX7_thing_33 ?_
        refine zr_ldc (v := (-1000002)) hB lk_X7_79 dX7_thing_34 ?_
        refine zr_callV (st := []) (C := RX7) (As := [.int (-1000002)]) (embc := em_iI L) hB (mX7_finding (sK := sK) (sV := sV) hi (-1000002) I L) (zW_X7 rfl) rfl rfl lm_X7_56 q2_X7_finding q3_X7_finding q4_X7 q5_X7_finding qd_X7_finding (by decide) rfl rfl (Nat.le_of_ble_eq_true rfl) ⟨Nat.zero_le _, Nat.zero_le _⟩ dX7_thing_36 (zr_kiI (fun o13 => ?_))
        exact zr_iret hB rfl rfl dX7_thing_39
    · refine zr_aload_n hB 0 rfl rfl dX7_thing_14 ?_
      refine zr_ldc (v := (-1000001)) hB lk_X7_55 dX7_thing_15 ?_
      refine zr_callV (st := []) (C := RX7) (As := [.int (-1000001)]) (embc := em_iI L) hB (mX7_finding (sK := sK) (sV := sV) hi (-1000001) I L) (zW_X7 rfl) rfl rfl lm_X7_56 q2_X7_finding q3_X7_finding q4_X7 q5_X7_finding qd_X7_finding (by decide) rfl rfl (Nat.le_of_ble_eq_true rfl) ⟨Nat.zero_le _, Nat.zero_le _⟩ dX7_thing_17 (zr_kiI (fun o16 => ?_))
      exact zr_iret hB rfl rfl dX7_thing_20

def fX6_partOf (w : Nat) (a1 : Int32) (a2 : Int32) (I : zI) : Option (Int32) :=
  if a2 = 0 then
    zg a1 8 (
    some (I (w + 2) (zn a1)))
  else
  if a2 = 1 then
    zg a1 8 (
    some (I (w + 3) (zn a1)))
  else
  zg a1 8 (
  some (I (w + 4) (zn a1)))
set_option maxHeartbeats 4000000 in
set_option maxRecDepth 100000 in
theorem mX6_partOf {l : Launch} {D : va_G} {T : zT} {ad sK sV : Nat → Nat} (hi : zInj ad) (w : Nat) (a1 : Int32) (a2 : Int32) (hw : zO_X6 w) (I : zI) (L : zL) : ∀ o, fX6_partOf w a1 a2 I = some o → zMet l yX6_partOf cX6_partOf 3 (some .int) 0 0 D T ad sK sV [.ref (ad w), .int a1, .int a2] I L (em_i0 I L o) := by
  intro o ho
  refine zMet.of hi (by decide +kernel) (Nat.le_of_ble_eq_true rfl) (fun p e s m args below meth c hB => ?_)
  refine zr_top (emb := em_i0 I L) (t := fX6_partOf w a1 a2 I) ?_ ho
  unfold fX6_partOf
  refine zr_iload_n hB 2 rfl rfl dX6_partOf_0 ?_
  refine zr_case (fun q1_0 => ?_) (fun q1_0 => ?_)
  · refine zr_lsw (tgt := 28) (off := 27) hB dX6_partOf_1 (by decide) (by rw [q1_0]; try rfl) (by decide) ?_
    refine zr_aload_n hB 0 rfl rfl dX6_partOf_28 ?_
    refine zr_get_X6 (w := w) (k := 5) (v := .ref (ad (w + 2))) hB hw (by decide) rfl lf_X6_19 rfl dX6_partOf_29 ?_
    refine zr_iload_n hB 1 rfl rfl dX6_partOf_32 ?_
    refine zr_iaload hB (zA_X6_2 hw) dX6_partOf_33 ?_
    exact zr_iret hB rfl rfl dX6_partOf_34
  · refine zr_case (fun q1_1 => ?_) (fun q1_1 => ?_)
    · refine zr_lsw (tgt := 35) (off := 34) hB dX6_partOf_1 (by decide) (by rw [q1_1]; try rfl) (by decide) ?_
      refine zr_aload_n hB 0 rfl rfl dX6_partOf_35 ?_
      refine zr_get_X6 (w := w) (k := 6) (v := .ref (ad (w + 3))) hB hw (by decide) rfl lf_X6_22 rfl dX6_partOf_36 ?_
      refine zr_iload_n hB 1 rfl rfl dX6_partOf_39 ?_
      refine zr_iaload hB (zA_X6_3 hw) dX6_partOf_40 ?_
      exact zr_iret hB rfl rfl dX6_partOf_41
    · refine zr_lsw (tgt := 42) (off := 41) hB dX6_partOf_1 (by decide) (by show Op.lookupswitch.offset [(0, 27), (1, 34)] 41 (a2).toInt = 41; rw [lv_osw q1_0 (show (0 : Int32).toInt = 0 from rfl), lv_osw q1_1 (show (1 : Int32).toInt = 1 from rfl)]; rfl) (by decide) ?_
      refine zr_aload_n hB 0 rfl rfl dX6_partOf_42 ?_
      refine zr_get_X6 (w := w) (k := 7) (v := .ref (ad (w + 4))) hB hw (by decide) rfl lf_X6_25 rfl dX6_partOf_43 ?_
      refine zr_iload_n hB 1 rfl rfl dX6_partOf_46 ?_
      refine zr_iaload hB (zA_X6_4 hw) dX6_partOf_47 ?_
      exact zr_iret hB rfl rfl dX6_partOf_48

def fX0_weightOf (a1 : Int32) (a2 : Int32) (a3 : Int32) : Option (Int32) :=
  zl (zshr a2 a3) fun v1 =>
  if a1 = 1 then
    some (v1 + 1)
  else
  if a1 = 2 then
    some (2 * (v1 + 1))
  else
  if a1 = 3 then
    some ((2 * (v1 + 1)) + 5)
  else
  if a1 = 4 then
    some 1
  else
  if a1 = 5 then
    some 0
  else
  if a1 = 6 then
    some a2
  else
  some v1
set_option maxHeartbeats 4000000 in
set_option maxRecDepth 100000 in
theorem mX0_weightOf {l : Launch} {D : va_G} {T : zT} {ad sK sV : Nat → Nat} (hi : zInj ad) (a1 : Int32) (a2 : Int32) (a3 : Int32)  (I : zI) (L : zL) : ∀ o, fX0_weightOf a1 a2 a3 = some o → zMet l yX0_weightOf cX0_weightOf 4 (some .int) 0 0 D T ad sK sV [.int a1, .int a2, .int a3] I L (em_i0 I L o) := by
  intro o ho
  refine zMet.of hi (by decide +kernel) (Nat.le_of_ble_eq_true rfl) (fun p e s m args below meth c hB => ?_)
  refine zr_top (emb := em_i0 I L) (t := fX0_weightOf a1 a2 a3) ?_ ho
  unfold fX0_weightOf
  refine zr_iload_n hB 1 rfl rfl dX0_weightOf_0 ?_
  refine zr_iload_n hB 2 rfl rfl dX0_weightOf_1 ?_
  refine zr_ishr hB dX0_weightOf_2 ?_
  refine zr_letI (fun v1 => ?_)
  refine zr_istore_n (lv' := [(3, .int v1), (0, .int a1), (1, .int a2), (2, .int a3)]) hB rfl (by decide) rfl dX0_weightOf_3 ?_
  refine zr_iload_n hB 1 rfl rfl dX0_weightOf_4 ?_
  refine zr_case (fun q5_0 => ?_) (fun q5_0 => ?_)
  · refine zr_tsIn (tgt := 44) (v := 1) hB q5_0 dX0_weightOf_5 (by decide) (by decide) rfl (by decide) ?_
    refine zr_iload_n hB 0 rfl rfl dX0_weightOf_44 ?_
    refine zr_iconst (v := 1) hB (by decide) dX0_weightOf_45 ?_
    refine zr_iadd hB dX0_weightOf_46 ?_
    exact zr_iret hB rfl rfl dX0_weightOf_47
  · refine zr_case (fun q5_1 => ?_) (fun q5_1 => ?_)
    · refine zr_tsIn (tgt := 48) (v := 2) hB q5_1 dX0_weightOf_5 (by decide) (by decide) rfl (by decide) ?_
      refine zr_iconst (v := 2) hB (by decide) dX0_weightOf_48 ?_
      refine zr_iload_n hB 0 rfl rfl dX0_weightOf_49 ?_
      refine zr_iconst (v := 1) hB (by decide) dX0_weightOf_50 ?_
      refine zr_iadd hB dX0_weightOf_51 ?_
      refine zr_imul hB dX0_weightOf_52 ?_
      exact zr_iret hB rfl rfl dX0_weightOf_53
    · refine zr_case (fun q5_2 => ?_) (fun q5_2 => ?_)
      · refine zr_tsIn (tgt := 54) (v := 3) hB q5_2 dX0_weightOf_5 (by decide) (by decide) rfl (by decide) ?_
        refine zr_iconst (v := 2) hB (by decide) dX0_weightOf_54 ?_
        refine zr_iload_n hB 0 rfl rfl dX0_weightOf_55 ?_
        refine zr_iconst (v := 1) hB (by decide) dX0_weightOf_56 ?_
        refine zr_iadd hB dX0_weightOf_57 ?_
        refine zr_imul hB dX0_weightOf_58 ?_
        refine zr_iconst (v := 5) hB (by decide) dX0_weightOf_59 ?_
        refine zr_iadd hB dX0_weightOf_60 ?_
        exact zr_iret hB rfl rfl dX0_weightOf_61
      · refine zr_case (fun q5_3 => ?_) (fun q5_3 => ?_)
        · refine zr_tsIn (tgt := 62) (v := 4) hB q5_3 dX0_weightOf_5 (by decide) (by decide) rfl (by decide) ?_
          refine zr_iconst (v := 1) hB (by decide) dX0_weightOf_62 ?_
          exact zr_iret hB rfl rfl dX0_weightOf_63
        · refine zr_case (fun q5_4 => ?_) (fun q5_4 => ?_)
          · refine zr_tsIn (tgt := 64) (v := 5) hB q5_4 dX0_weightOf_5 (by decide) (by decide) rfl (by decide) ?_
            refine zr_iconst (v := 0) hB (by decide) dX0_weightOf_64 ?_
            exact zr_iret hB rfl rfl dX0_weightOf_65
          · refine zr_case (fun q5_5 => ?_) (fun q5_5 => ?_)
            · refine zr_tsIn (tgt := 66) (v := 6) hB q5_5 dX0_weightOf_5 (by decide) (by decide) rfl (by decide) ?_
              refine zr_iload_n hB 2 rfl rfl dX0_weightOf_66 ?_
              exact zr_iret hB rfl rfl dX0_weightOf_67
            · refine zr_tsOut (tgt := 68) hB dX0_weightOf_5 (by have h0 := lv_neT q5_0 (show (1 : Int32).toInt = 1 from rfl); have h1 := lv_neT q5_1 (show (2 : Int32).toInt = 2 from rfl); have h2 := lv_neT q5_2 (show (3 : Int32).toInt = 3 from rfl); have h3 := lv_neT q5_3 (show (4 : Int32).toInt = 4 from rfl); have h4 := lv_neT q5_4 (show (5 : Int32).toInt = 5 from rfl); have h5 := lv_neT q5_5 (show (6 : Int32).toInt = 6 from rfl); omega) (by decide) ?_
              refine zr_iload_n hB 0 rfl rfl dX0_weightOf_68 ?_
              exact zr_iret hB rfl rfl dX0_weightOf_69

def fX6_weightIn (w : Nat) (a1 : Int32) (a2 : Int32) (I : zI) : Option (Int32) :=
  zg a1 8 (
  zg a1 8 (
  zb (fX0_weightOf (I (w + 2) (zn a1)) (I (w + 4) (zn a1)) a2) fun o2 =>
  some o2))
set_option maxHeartbeats 4000000 in
set_option maxRecDepth 100000 in
theorem mX6_weightIn {l : Launch} {D : va_G} {T : zT} {ad sK sV : Nat → Nat} (hi : zInj ad) (w : Nat) (a1 : Int32) (a2 : Int32) (hw : zO_X6 w) (I : zI) (L : zL) : ∀ o, fX6_weightIn w a1 a2 I = some o → zMet l yX6_weightIn cX6_weightIn 3 (some .int) 1 23 D T ad sK sV [.ref (ad w), .int a1, .int a2] I L (em_i0 I L o) := by
  intro o ho
  refine zMet.of hi (by decide +kernel) (Nat.le_of_ble_eq_true rfl) (fun p e s m args below meth c hB => ?_)
  refine zr_top (emb := em_i0 I L) (t := fX6_weightIn w a1 a2 I) ?_ ho
  unfold fX6_weightIn
  refine zr_aload_n hB 0 rfl rfl dX6_weightIn_0 ?_
  refine zr_get_X6 (w := w) (k := 5) (v := .ref (ad (w + 2))) hB hw (by decide) rfl lf_X6_19 rfl dX6_weightIn_1 ?_
  refine zr_iload_n hB 1 rfl rfl dX6_weightIn_4 ?_
  refine zr_iaload hB (zA_X6_2 hw) dX6_weightIn_5 ?_
  refine zr_aload_n hB 0 rfl rfl dX6_weightIn_6 ?_
  refine zr_get_X6 (w := w) (k := 7) (v := .ref (ad (w + 4))) hB hw (by decide) rfl lf_X6_25 rfl dX6_weightIn_7 ?_
  refine zr_iload_n hB 1 rfl rfl dX6_weightIn_10 ?_
  refine zr_iaload hB (zA_X6_4 hw) dX6_weightIn_11 ?_
  refine zr_iload_n hB 2 rfl rfl dX6_weightIn_12 ?_
  refine zr_callS (st := []) (As := [.int (I (w + 2) (zn a1)), .int (I (w + 4) (zn a1)), .int a2]) (embc := em_i0 I L) hB (mX0_weightOf (sK := sK) (sV := sV) hi (I (w + 2) (zn a1)) (I (w + 4) (zn a1)) a2 I L) lm_X6_74 q2_X0_weightOf q4_X0 q5_X0_weightOf qd_X0_weightOf (by decide) rfl rfl (Nat.le_of_ble_eq_true rfl) ⟨Nat.zero_le _, Nat.zero_le _⟩ dX6_weightIn_13 (zr_ki0 (fun o2 => ?_))
  exact zr_iret hB rfl rfl dX6_weightIn_16

def fX7_isThing (a1 : Int32) (I : zI) : Option (Int32) :=
  zb (fX7_isWithin a1 0 ((I 1 4) - 1)) fun o2 =>
  zgb o2 (
  some o2)
set_option maxHeartbeats 4000000 in
set_option maxRecDepth 100000 in
theorem mX7_isThing {l : Launch} {D : va_G} {T : zT} {ad sK sV : Nat → Nat} (hi : zInj ad) (a1 : Int32)  (I : zI) (L : zL) : ∀ o, fX7_isThing a1 I = some o → zMet l yX7_isThing cX7_isThing 2 (some .boolean) 1 22 D T ad sK sV [.ref (ad 0), .int a1] I L (em_i0 I L o) := by
  intro o ho
  refine zMet.of hi (by decide +kernel) (Nat.le_of_ble_eq_true rfl) (fun p e s m args below meth c hB => ?_)
  refine zr_top (emb := em_i0 I L) (t := fX7_isThing a1 I) ?_ ho
  unfold fX7_isThing
  refine zr_iload_n hB 1 rfl rfl dX7_isThing_0 ?_
  refine zr_iconst (v := 0) hB (by decide) dX7_isThing_1 ?_
  refine zr_aload_n hB 0 rfl rfl dX7_isThing_2 ?_
  refine zr_get_X7 (w := 0) (k := 0) (v := .ref (ad 1)) hB rfl (by decide) rfl lf_X7_12 rfl dX7_isThing_3 ?_
  refine zr_get_X6 (w := 1) (k := 4) (v := .int (I 1 4)) hB (Or.inl rfl) (by decide) rfl lf_X7_75 rfl dX7_isThing_6 ?_
  refine zr_iconst (v := 1) hB (by decide) dX7_isThing_9 ?_
  refine zr_isub hB dX7_isThing_10 ?_
  refine zr_callS (st := []) (As := [.int a1, .int 0, .int ((I 1 4) - 1)]) (embc := em_i0 I L) hB (mX7_isWithin (sK := sK) (sV := sV) hi a1 0 ((I 1 4) - 1) I L) lm_X7_51 q2_X7_isWithin q4_X7 q5_X7_isWithin qd_X7_isWithin (by decide) rfl rfl (Nat.le_of_ble_eq_true rfl) ⟨Nat.zero_le _, Nat.zero_le _⟩ dX7_isThing_11 (zr_ki0 (fun o2 => ?_))
  refine zr_gb (fun hv => ?_)
  exact zr_zretC hv hB rfl rfl dX7_isThing_14

def fX7_of (a1 : Int32) (a2 : Int32) (I : zI) : Option (Int32 × zI) :=
  zb (fX7_isThing a1 I) fun o2 =>
  if o2 = 0 then
    zb (fX7_finding (-1000001) I) fun o5 =>
    some (o5.1, o5.2)
  else
  zb (fX7_isWithin a2 0 7) fun o7 =>
  if o7 = 0 then
    zb (fX7_finding (-1000001) I) fun o14 =>
    some (o14.1, o14.2)
  else
  if 3 ≤ a2 then
    zb (fX6_weightIn 1 a1 (a2 - 3) I) fun o9 =>
    some (o9, I)
  else
  zb (fX6_partOf 1 a1 a2 I) fun o11 =>
  some (o11, I)
set_option maxHeartbeats 4000000 in
set_option maxRecDepth 100000 in
theorem mX7_of {l : Launch} {D : va_G} {T : zT} {ad sK sV : Nat → Nat} (hi : zInj ad) (a1 : Int32) (a2 : Int32)  (I : zI) (L : zL) : ∀ o, fX7_of a1 a2 I = some o → zMet l yX7_of cX7_of 3 (some .int) 2 45 D T ad sK sV [.ref (ad 0), .int a1, .int a2] I L (em_iI L o) := by
  intro o ho
  refine zMet.of hi (by decide +kernel) (Nat.le_of_ble_eq_true rfl) (fun p e s m args below meth c hB => ?_)
  refine zr_top (emb := em_iI L) (t := fX7_of a1 a2 I) ?_ ho
  unfold fX7_of
  refine zr_aload_n hB 0 rfl rfl dX7_of_0 ?_
  refine zr_iload_n hB 1 rfl rfl dX7_of_1 ?_
  refine zr_callV (st := []) (C := RX7) (As := [.int a1]) (embc := em_i0 I L) hB (mX7_isThing (sK := sK) (sV := sV) hi a1 I L) (zW_X7 rfl) rfl rfl lm_X7_84 q2_X7_isThing q3_X7_isThing q4_X7 q5_X7_isThing qd_X7_isThing (by decide) rfl rfl (Nat.le_of_ble_eq_true rfl) ⟨Nat.zero_le _, Nat.zero_le _⟩ dX7_of_2 (zr_ki0 (fun o2 => ?_))
  refine zr_ifeq (tgt := 18) hB (by decide) dX7_of_5 ?_ ?_
  · refine zr_aload_n hB 0 rfl rfl dX7_of_18 ?_
    refine zr_ldc (v := (-1000001)) hB lk_X7_55 dX7_of_19 ?_
    refine zr_callV (st := []) (C := RX7) (As := [.int (-1000001)]) (embc := em_iI L) hB (mX7_finding (sK := sK) (sV := sV) hi (-1000001) I L) (zW_X7 rfl) rfl rfl lm_X7_56 q2_X7_finding q3_X7_finding q4_X7 q5_X7_finding qd_X7_finding (by decide) rfl rfl (Nat.le_of_ble_eq_true rfl) ⟨Nat.zero_le _, Nat.zero_le _⟩ dX7_of_21 (zr_kiI (fun o5 => ?_))
    exact zr_iret hB rfl rfl dX7_of_24
  · refine zr_iload_n hB 2 rfl rfl dX7_of_8 ?_
    refine zr_iconst (v := 0) hB (by decide) dX7_of_9 ?_
    refine zr_bipush (v := 7) hB (by decide) dX7_of_10 ?_
    refine zr_callS (st := []) (As := [.int a2, .int 0, .int 7]) (embc := em_i0 I L) hB (mX7_isWithin (sK := sK) (sV := sV) hi a2 0 7 I L) lm_X7_51 q2_X7_isWithin q4_X7 q5_X7_isWithin qd_X7_isWithin (by decide) rfl rfl (Nat.le_of_ble_eq_true rfl) ⟨Nat.zero_le _, Nat.zero_le _⟩ dX7_of_12 (zr_ki0 (fun o7 => ?_))
    refine zr_ifne (tgt := 25) hB (by decide) dX7_of_15 ?_ ?_
    · refine zr_iload_n hB 2 rfl rfl dX7_of_25 ?_
      refine zr_iconst (v := 3) hB (by decide) dX7_of_26 ?_
      refine zr_icmp_ge (tgt := 42) hB (by decide) dX7_of_27 ?_ ?_
      · refine zr_aload_n hB 0 rfl rfl dX7_of_42 ?_
        refine zr_get_X7 (w := 0) (k := 0) (v := .ref (ad 1)) hB rfl (by decide) rfl lf_X7_12 rfl dX7_of_43 ?_
        refine zr_iload_n hB 1 rfl rfl dX7_of_46 ?_
        refine zr_iload_n hB 2 rfl rfl dX7_of_47 ?_
        refine zr_iconst (v := 3) hB (by decide) dX7_of_48 ?_
        refine zr_isub hB dX7_of_49 ?_
        refine zr_callV (st := []) (C := RX6) (As := [.int a1, .int (a2 - 3)]) (embc := em_i0 I L) hB (mX6_weightIn (sK := sK) (sV := sV) hi 1 a1 (a2 - 3) (Or.inl rfl) I L) (zW_X6 (Or.inl rfl)) rfl rfl lm_X7_90 q2_X6_weightIn q3_X6_weightIn q4_X6 q5_X6_weightIn qd_X6_weightIn (by decide) rfl rfl (Nat.le_of_ble_eq_true rfl) ⟨Nat.zero_le _, Nat.zero_le _⟩ dX7_of_50 (zr_ki0 (fun o9 => ?_))
        exact zr_iret hB rfl rfl dX7_of_53
      · refine zr_aload_n hB 0 rfl rfl dX7_of_30 ?_
        refine zr_get_X7 (w := 0) (k := 0) (v := .ref (ad 1)) hB rfl (by decide) rfl lf_X7_12 rfl dX7_of_31 ?_
        refine zr_iload_n hB 1 rfl rfl dX7_of_34 ?_
        refine zr_iload_n hB 2 rfl rfl dX7_of_35 ?_
        refine zr_callV (st := []) (C := RX6) (As := [.int a1, .int a2]) (embc := em_i0 I L) hB (mX6_partOf (sK := sK) (sV := sV) hi 1 a1 a2 (Or.inl rfl) I L) (zW_X6 (Or.inl rfl)) rfl rfl lm_X7_87 q2_X6_partOf q3_X6_partOf q4_X6 q5_X6_partOf qd_X6_partOf (by decide) rfl rfl (Nat.le_of_ble_eq_true rfl) ⟨Nat.zero_le _, Nat.zero_le _⟩ dX7_of_36 (zr_ki0 (fun o11 => ?_))
        refine zr_goto (tgt := 53) hB (by decide) dX7_of_39 ?_
        exact zr_iret hB rfl rfl dX7_of_53
    · refine zr_aload_n hB 0 rfl rfl dX7_of_18 ?_
      refine zr_ldc (v := (-1000001)) hB lk_X7_55 dX7_of_19 ?_
      refine zr_callV (st := []) (C := RX7) (As := [.int (-1000001)]) (embc := em_iI L) hB (mX7_finding (sK := sK) (sV := sV) hi (-1000001) I L) (zW_X7 rfl) rfl rfl lm_X7_56 q2_X7_finding q3_X7_finding q4_X7 q5_X7_finding qd_X7_finding (by decide) rfl rfl (Nat.le_of_ble_eq_true rfl) ⟨Nat.zero_le _, Nat.zero_le _⟩ dX7_of_21 (zr_kiI (fun o14 => ?_))
      exact zr_iret hB rfl rfl dX7_of_24

def fX6_setPart (w : Nat) (a1 : Int32) (a2 : Int32) (a3 : Int32) (I : zI) : Option (zI) :=
  if a2 = 0 then
    zg a1 8 (
    zl (zup I (w + 2) (zn a1) a3) fun J1 =>
    some J1)
  else
  if a2 = 1 then
    zg a1 8 (
    zl (zup I (w + 3) (zn a1) a3) fun J2 =>
    some J2)
  else
  zg a1 8 (
  zl (zup I (w + 4) (zn a1) a3) fun J3 =>
  some J3)
set_option maxHeartbeats 4000000 in
set_option maxRecDepth 100000 in
theorem mX6_setPart {l : Launch} {D : va_G} {T : zT} {ad sK sV : Nat → Nat} (hi : zInj ad) (w : Nat) (a1 : Int32) (a2 : Int32) (a3 : Int32) (hw : zO_X6 w) (I : zI) (L : zL) : ∀ o, fX6_setPart w a1 a2 a3 I = some o → zMet l yX6_setPart cX6_setPart 4 none 0 0 D T ad sK sV [.ref (ad w), .int a1, .int a2, .int a3] I L (em_vI L o) := by
  intro o ho
  refine zMet.of hi (by decide +kernel) (Nat.le_of_ble_eq_true rfl) (fun p e s m args below meth c hB => ?_)
  refine zr_top (emb := em_vI L) (t := fX6_setPart w a1 a2 a3 I) ?_ ho
  unfold fX6_setPart
  refine zr_iload_n hB 2 rfl rfl dX6_setPart_0 ?_
  refine zr_case (fun q1_0 => ?_) (fun q1_0 => ?_)
  · refine zr_lsw (tgt := 28) (off := 27) hB dX6_setPart_1 (by decide) (by rw [q1_0]; try rfl) (by decide) ?_
    refine zr_aload_n hB 0 rfl rfl dX6_setPart_28 ?_
    refine zr_get_X6 (w := w) (k := 5) (v := .ref (ad (w + 2))) hB hw (by decide) rfl lf_X6_19 rfl dX6_setPart_29 ?_
    refine zr_iload_n hB 1 rfl rfl dX6_setPart_32 ?_
    refine zr_iload_n hB 3 rfl rfl dX6_setPart_33 ?_
    refine zr_iastore hB (zA_X6_2 hw) dX6_setPart_34 ?_
    refine zr_letM (fun J1 => ?_)
    refine zr_goto (tgt := 55) hB (by decide) dX6_setPart_35 ?_
    exact zr_vret hB rfl rfl dX6_setPart_55
  · refine zr_case (fun q1_1 => ?_) (fun q1_1 => ?_)
    · refine zr_lsw (tgt := 38) (off := 37) hB dX6_setPart_1 (by decide) (by rw [q1_1]; try rfl) (by decide) ?_
      refine zr_aload_n hB 0 rfl rfl dX6_setPart_38 ?_
      refine zr_get_X6 (w := w) (k := 6) (v := .ref (ad (w + 3))) hB hw (by decide) rfl lf_X6_22 rfl dX6_setPart_39 ?_
      refine zr_iload_n hB 1 rfl rfl dX6_setPart_42 ?_
      refine zr_iload_n hB 3 rfl rfl dX6_setPart_43 ?_
      refine zr_iastore hB (zA_X6_3 hw) dX6_setPart_44 ?_
      refine zr_letM (fun J2 => ?_)
      refine zr_goto (tgt := 55) hB (by decide) dX6_setPart_45 ?_
      exact zr_vret hB rfl rfl dX6_setPart_55
    · refine zr_lsw (tgt := 48) (off := 47) hB dX6_setPart_1 (by decide) (by show Op.lookupswitch.offset [(0, 27), (1, 37)] 47 (a2).toInt = 47; rw [lv_osw q1_0 (show (0 : Int32).toInt = 0 from rfl), lv_osw q1_1 (show (1 : Int32).toInt = 1 from rfl)]; rfl) (by decide) ?_
      refine zr_aload_n hB 0 rfl rfl dX6_setPart_48 ?_
      refine zr_get_X6 (w := w) (k := 7) (v := .ref (ad (w + 4))) hB hw (by decide) rfl lf_X6_25 rfl dX6_setPart_49 ?_
      refine zr_iload_n hB 1 rfl rfl dX6_setPart_52 ?_
      refine zr_iload_n hB 3 rfl rfl dX6_setPart_53 ?_
      refine zr_iastore hB (zA_X6_4 hw) dX6_setPart_54 ?_
      refine zr_letM (fun J3 => ?_)
      exact zr_vret hB rfl rfl dX6_setPart_55

def fX7_canBePart (a1 : Int32) (a2 : Int32) : Option (Int32) :=
  if a1 = 0 then
    zb (fX7_isKind a2) fun o2 =>
    zgb o2 (
    some o2)
  else
  if a1 = 1 then
    zb (fX7_isRoom a2) fun o4 =>
    zgb o4 (
    some o4)
  else
  zb (fX7_isWithin a2 1 60) fun o6 =>
  zgb o6 (
  some o6)
set_option maxHeartbeats 4000000 in
set_option maxRecDepth 100000 in
theorem mX7_canBePart {l : Launch} {D : va_G} {T : zT} {ad sK sV : Nat → Nat} (hi : zInj ad) (a1 : Int32) (a2 : Int32)  (I : zI) (L : zL) : ∀ o, fX7_canBePart a1 a2 = some o → zMet l yX7_canBePart cX7_canBePart 2 (some .boolean) 2 42 D T ad sK sV [.int a1, .int a2] I L (em_i0 I L o) := by
  intro o ho
  refine zMet.of hi (by decide +kernel) (Nat.le_of_ble_eq_true rfl) (fun p e s m args below meth c hB => ?_)
  refine zr_top (emb := em_i0 I L) (t := fX7_canBePart a1 a2) ?_ ho
  unfold fX7_canBePart
  refine zr_iload_n hB 0 rfl rfl dX7_canBePart_0 ?_
  refine zr_case (fun q1_0 => ?_) (fun q1_0 => ?_)
  · refine zr_lsw (tgt := 28) (off := 27) hB dX7_canBePart_1 (by decide) (by rw [q1_0]; try rfl) (by decide) ?_
    refine zr_iload_n hB 1 rfl rfl dX7_canBePart_28 ?_
    refine zr_callS (st := []) (As := [.int a2]) (embc := em_i0 I L) hB (mX7_isKind (sK := sK) (sV := sV) hi a2 I L) lm_X7_72 q2_X7_isKind q4_X7 q5_X7_isKind qd_X7_isKind (by decide) rfl rfl (Nat.le_of_ble_eq_true rfl) ⟨Nat.zero_le _, Nat.zero_le _⟩ dX7_canBePart_29 (zr_ki0 (fun o2 => ?_))
    refine zr_gb (fun hv => ?_)
    exact zr_zretC hv hB rfl rfl dX7_canBePart_32
  · refine zr_case (fun q1_1 => ?_) (fun q1_1 => ?_)
    · refine zr_lsw (tgt := 33) (off := 32) hB dX7_canBePart_1 (by decide) (by rw [q1_1]; try rfl) (by decide) ?_
      refine zr_iload_n hB 1 rfl rfl dX7_canBePart_33 ?_
      refine zr_callS (st := []) (As := [.int a2]) (embc := em_i0 I L) hB (mX7_isRoom (sK := sK) (sV := sV) hi a2 I L) lm_X7_47 q2_X7_isRoom q4_X7 q5_X7_isRoom qd_X7_isRoom (by decide) rfl rfl (Nat.le_of_ble_eq_true rfl) ⟨Nat.zero_le _, Nat.zero_le _⟩ dX7_canBePart_34 (zr_ki0 (fun o4 => ?_))
      refine zr_gb (fun hv => ?_)
      exact zr_zretC hv hB rfl rfl dX7_canBePart_37
    · refine zr_lsw (tgt := 38) (off := 37) hB dX7_canBePart_1 (by decide) (by show Op.lookupswitch.offset [(0, 27), (1, 32)] 37 (a1).toInt = 37; rw [lv_osw q1_0 (show (0 : Int32).toInt = 0 from rfl), lv_osw q1_1 (show (1 : Int32).toInt = 1 from rfl)]; rfl) (by decide) ?_
      refine zr_iload_n hB 1 rfl rfl dX7_canBePart_38 ?_
      refine zr_iconst (v := 1) hB (by decide) dX7_canBePart_39 ?_
      refine zr_bipush (v := 60) hB (by decide) dX7_canBePart_40 ?_
      refine zr_callS (st := []) (As := [.int a2, .int 1, .int 60]) (embc := em_i0 I L) hB (mX7_isWithin (sK := sK) (sV := sV) hi a2 1 60 I L) lm_X7_51 q2_X7_isWithin q4_X7 q5_X7_isWithin qd_X7_isWithin (by decide) rfl rfl (Nat.le_of_ble_eq_true rfl) ⟨Nat.zero_le _, Nat.zero_le _⟩ dX7_canBePart_42 (zr_ki0 (fun o6 => ?_))
      refine zr_gb (fun hv => ?_)
      exact zr_zretC hv hB rfl rfl dX7_canBePart_45

def fX7_change (a1 : Int32) (a2 : Int32) (a3 : Int32) (I : zI) : Option (Int32 × zI) :=
  zb (fX7_isThing a1 I) fun o2 =>
  if o2 = 0 then
    zb (fX7_finding (-1000001) I) fun o5 =>
    some (o5.1, o5.2)
  else
  zb (fX7_isWithin a2 0 2) fun o7 =>
  if o7 = 0 then
    zb (fX7_finding (-1000001) I) fun o10 =>
    some (o10.1, o10.2)
  else
  zb (fX7_canBePart a2 a3) fun o12 =>
  if o12 = 0 then
    zb (fX7_finding (-1000001) I) fun o20 =>
    some (o20.1, o20.2)
  else
  zb (fX6_partOf 1 a1 a2 I) fun o14 =>
  zb (fX6_setPart 1 a1 a2 a3 I) fun o17 =>
  some (o14, o17)
set_option maxHeartbeats 4000000 in
set_option maxRecDepth 100000 in
theorem mX7_change {l : Launch} {D : va_G} {T : zT} {ad sK sV : Nat → Nat} (hi : zInj ad) (a1 : Int32) (a2 : Int32) (a3 : Int32)  (I : zI) (L : zL) : ∀ o, fX7_change a1 a2 a3 I = some o → zMet l yX7_change cX7_change 5 (some .int) 3 63 D T ad sK sV [.ref (ad 0), .int a1, .int a2, .int a3] I L (em_iI L o) := by
  intro o ho
  refine zMet.of hi (by decide +kernel) (Nat.le_of_ble_eq_true rfl) (fun p e s m args below meth c hB => ?_)
  refine zr_top (emb := em_iI L) (t := fX7_change a1 a2 a3 I) ?_ ho
  unfold fX7_change
  refine zr_aload_n hB 0 rfl rfl dX7_change_0 ?_
  refine zr_iload_n hB 1 rfl rfl dX7_change_1 ?_
  refine zr_callV (st := []) (C := RX7) (As := [.int a1]) (embc := em_i0 I L) hB (mX7_isThing (sK := sK) (sV := sV) hi a1 I L) (zW_X7 rfl) rfl rfl lm_X7_84 q2_X7_isThing q3_X7_isThing q4_X7 q5_X7_isThing qd_X7_isThing (by decide) rfl rfl (Nat.le_of_ble_eq_true rfl) ⟨Nat.zero_le _, Nat.zero_le _⟩ dX7_change_2 (zr_ki0 (fun o2 => ?_))
  refine zr_ifeq (tgt := 25) hB (by decide) dX7_change_5 ?_ ?_
  · refine zr_aload_n hB 0 rfl rfl dX7_change_25 ?_
    refine zr_ldc (v := (-1000001)) hB lk_X7_55 dX7_change_26 ?_
    refine zr_callV (st := []) (C := RX7) (As := [.int (-1000001)]) (embc := em_iI L) hB (mX7_finding (sK := sK) (sV := sV) hi (-1000001) I L) (zW_X7 rfl) rfl rfl lm_X7_56 q2_X7_finding q3_X7_finding q4_X7 q5_X7_finding qd_X7_finding (by decide) rfl rfl (Nat.le_of_ble_eq_true rfl) ⟨Nat.zero_le _, Nat.zero_le _⟩ dX7_change_28 (zr_kiI (fun o5 => ?_))
    exact zr_iret hB rfl rfl dX7_change_31
  · refine zr_iload_n hB 2 rfl rfl dX7_change_8 ?_
    refine zr_iconst (v := 0) hB (by decide) dX7_change_9 ?_
    refine zr_iconst (v := 2) hB (by decide) dX7_change_10 ?_
    refine zr_callS (st := []) (As := [.int a2, .int 0, .int 2]) (embc := em_i0 I L) hB (mX7_isWithin (sK := sK) (sV := sV) hi a2 0 2 I L) lm_X7_51 q2_X7_isWithin q4_X7 q5_X7_isWithin qd_X7_isWithin (by decide) rfl rfl (Nat.le_of_ble_eq_true rfl) ⟨Nat.zero_le _, Nat.zero_le _⟩ dX7_change_11 (zr_ki0 (fun o7 => ?_))
    refine zr_ifeq (tgt := 25) hB (by decide) dX7_change_14 ?_ ?_
    · refine zr_aload_n hB 0 rfl rfl dX7_change_25 ?_
      refine zr_ldc (v := (-1000001)) hB lk_X7_55 dX7_change_26 ?_
      refine zr_callV (st := []) (C := RX7) (As := [.int (-1000001)]) (embc := em_iI L) hB (mX7_finding (sK := sK) (sV := sV) hi (-1000001) I L) (zW_X7 rfl) rfl rfl lm_X7_56 q2_X7_finding q3_X7_finding q4_X7 q5_X7_finding qd_X7_finding (by decide) rfl rfl (Nat.le_of_ble_eq_true rfl) ⟨Nat.zero_le _, Nat.zero_le _⟩ dX7_change_28 (zr_kiI (fun o10 => ?_))
      exact zr_iret hB rfl rfl dX7_change_31
    · refine zr_iload_n hB 2 rfl rfl dX7_change_17 ?_
      refine zr_iload_n hB 3 rfl rfl dX7_change_18 ?_
      refine zr_callS (st := []) (As := [.int a2, .int a3]) (embc := em_i0 I L) hB (mX7_canBePart (sK := sK) (sV := sV) hi a2 a3 I L) lm_X7_93 q2_X7_canBePart q4_X7 q5_X7_canBePart qd_X7_canBePart (by decide) rfl rfl (Nat.le_of_ble_eq_true rfl) ⟨Nat.zero_le _, Nat.zero_le _⟩ dX7_change_19 (zr_ki0 (fun o12 => ?_))
      refine zr_ifne (tgt := 32) hB (by decide) dX7_change_22 ?_ ?_
      · refine zr_aload_n hB 0 rfl rfl dX7_change_32 ?_
        refine zr_get_X7 (w := 0) (k := 0) (v := .ref (ad 1)) hB rfl (by decide) rfl lf_X7_12 rfl dX7_change_33 ?_
        refine zr_iload_n hB 1 rfl rfl dX7_change_36 ?_
        refine zr_iload_n hB 2 rfl rfl dX7_change_37 ?_
        refine zr_callV (st := []) (C := RX6) (As := [.int a1, .int a2]) (embc := em_i0 I L) hB (mX6_partOf (sK := sK) (sV := sV) hi 1 a1 a2 (Or.inl rfl) I L) (zW_X6 (Or.inl rfl)) rfl rfl lm_X7_87 q2_X6_partOf q3_X6_partOf q4_X6 q5_X6_partOf qd_X6_partOf (by decide) rfl rfl (Nat.le_of_ble_eq_true rfl) ⟨Nat.zero_le _, Nat.zero_le _⟩ dX7_change_38 (zr_ki0 (fun o14 => ?_))
        refine zr_istore (lv' := [(4, .int o14), (0, .ref (ad 0)), (1, .int a1), (2, .int a2), (3, .int a3)]) hB (by decide) rfl dX7_change_41 ?_
        refine zr_aload_n hB 1 rfl rfl dX7_change_43 ?_
        refine zr_get_X7 (w := 0) (k := 0) (v := .ref (ad 1)) hB rfl (by decide) rfl lf_X7_12 rfl dX7_change_44 ?_
        refine zr_iload_n hB 2 rfl rfl dX7_change_47 ?_
        refine zr_iload_n hB 3 rfl rfl dX7_change_48 ?_
        refine zr_iload_n hB 4 rfl rfl dX7_change_49 ?_
        refine zr_callV (st := []) (C := RX6) (As := [.int a1, .int a2, .int a3]) (embc := em_vI L) hB (mX6_setPart (sK := sK) (sV := sV) hi 1 a1 a2 a3 (Or.inl rfl) I L) (zW_X6 (Or.inl rfl)) rfl rfl lm_X7_96 q2_X6_setPart q3_X6_setPart q4_X6 q5_X6_setPart qd_X6_setPart (by decide) rfl rfl (Nat.le_of_ble_eq_true rfl) ⟨Nat.zero_le _, Nat.zero_le _⟩ dX7_change_50 (zr_kvI (fun o17 => ?_))
        refine zr_iload hB 0 rfl dX7_change_53 ?_
        exact zr_iret hB rfl rfl dX7_change_55
      · refine zr_aload_n hB 0 rfl rfl dX7_change_25 ?_
        refine zr_ldc (v := (-1000001)) hB lk_X7_55 dX7_change_26 ?_
        refine zr_callV (st := []) (C := RX7) (As := [.int (-1000001)]) (embc := em_iI L) hB (mX7_finding (sK := sK) (sV := sV) hi (-1000001) I L) (zW_X7 rfl) rfl rfl lm_X7_56 q2_X7_finding q3_X7_finding q4_X7 q5_X7_finding qd_X7_finding (by decide) rfl rfl (Nat.le_of_ble_eq_true rfl) ⟨Nat.zero_le _, Nat.zero_le _⟩ dX7_change_28 (zr_kiI (fun o20 => ?_))
        exact zr_iret hB rfl rfl dX7_change_31

def fX6_addOne (w : Nat) (a1 : Int32) (a2 : Int32) (I : zI) : Option (Int32 × zI) :=
  if (I w 8) < 4 then
    zg (I w 8) 4 (
    zl (zup I (w + 5) (zn (I w 8)) a1) fun J1 =>
    zg (J1 w 8) 4 (
    zl (zup J1 (w + 6) (zn (J1 w 8)) a2) fun J2 =>
    zl (zup J2 w 8 ((J2 w 8) + 1)) fun J3 =>
    some ((J3 w 8) - 1, J3)))
  else
  some ((-1000002), I)
set_option maxHeartbeats 4000000 in
set_option maxRecDepth 100000 in
theorem mX6_addOne {l : Launch} {D : va_G} {T : zT} {ad sK sV : Nat → Nat} (hi : zInj ad) (w : Nat) (a1 : Int32) (a2 : Int32) (hw : zO_X6 w) (I : zI) (L : zL) : ∀ o, fX6_addOne w a1 a2 I = some o → zMet l yX6_addOne cX6_addOne 3 (some .int) 0 0 D T ad sK sV [.ref (ad w), .int a1, .int a2] I L (em_iI L o) := by
  intro o ho
  refine zMet.of hi (by decide +kernel) (Nat.le_of_ble_eq_true rfl) (fun p e s m args below meth c hB => ?_)
  refine zr_top (emb := em_iI L) (t := fX6_addOne w a1 a2 I) ?_ ho
  unfold fX6_addOne
  refine zr_aload_n hB 0 rfl rfl dX6_addOne_0 ?_
  refine zr_get_X6 (w := w) (k := 8) (v := .int (I w 8)) hB hw (by decide) rfl lf_X6_58 rfl dX6_addOne_1 ?_
  refine zr_iconst (v := 4) hB (by decide) dX6_addOne_4 ?_
  refine zr_icmp_lt (tgt := 11) hB (by decide) dX6_addOne_5 ?_ ?_
  · refine zr_aload_n hB 0 rfl rfl dX6_addOne_11 ?_
    refine zr_get_X6 (w := w) (k := 9) (v := .ref (ad (w + 5))) hB hw (by decide) rfl lf_X6_28 rfl dX6_addOne_12 ?_
    refine zr_aload_n hB 0 rfl rfl dX6_addOne_15 ?_
    refine zr_get_X6 (w := w) (k := 8) (v := .int (I w 8)) hB hw (by decide) rfl lf_X6_58 rfl dX6_addOne_16 ?_
    refine zr_iload_n hB 1 rfl rfl dX6_addOne_19 ?_
    refine zr_iastore hB (zA_X6_5 hw) dX6_addOne_20 ?_
    refine zr_letM (fun J1 => ?_)
    refine zr_aload_n hB 0 rfl rfl dX6_addOne_21 ?_
    refine zr_get_X6 (w := w) (k := 10) (v := .ref (ad (w + 6))) hB hw (by decide) rfl lf_X6_31 rfl dX6_addOne_22 ?_
    refine zr_aload_n hB 0 rfl rfl dX6_addOne_25 ?_
    refine zr_get_X6 (w := w) (k := 8) (v := .int (J1 w 8)) hB hw (by decide) rfl lf_X6_58 rfl dX6_addOne_26 ?_
    refine zr_iload_n hB 2 rfl rfl dX6_addOne_29 ?_
    refine zr_iastore hB (zA_X6_6 hw) dX6_addOne_30 ?_
    refine zr_letM (fun J2 => ?_)
    refine zr_aload_n hB 0 rfl rfl dX6_addOne_31 ?_
    refine zr_dup hB rfl dX6_addOne_32 ?_
    refine zr_get_X6 (w := w) (k := 8) (v := .int (J2 w 8)) hB hw (by decide) rfl lf_X6_58 rfl dX6_addOne_33 ?_
    refine zr_iconst (v := 1) hB (by decide) dX6_addOne_36 ?_
    refine zr_iadd hB dX6_addOne_37 ?_
    refine zr_put_X6 (w := w) (k := 8) hB hw (by decide) rfl rfl rfl lf_X6_58 rfl dX6_addOne_38 ?_
    refine zr_letM (fun J3 => ?_)
    refine zr_aload_n hB 0 rfl rfl dX6_addOne_41 ?_
    refine zr_get_X6 (w := w) (k := 8) (v := .int (J3 w 8)) hB hw (by decide) rfl lf_X6_58 rfl dX6_addOne_42 ?_
    refine zr_iconst (v := 1) hB (by decide) dX6_addOne_45 ?_
    refine zr_isub hB dX6_addOne_46 ?_
    exact zr_iret hB rfl rfl dX6_addOne_47
  · refine zr_ldc (v := (-1000002)) hB lk_X6_73 dX6_addOne_8 ?_
    exact zr_iret hB rfl rfl dX6_addOne_10

def fX7_isPlace (a1 : Int32) : Option (Int32) :=
  zb (fX7_isWithin a1 0 39) fun o2 =>
  zgb o2 (
  some o2)
set_option maxHeartbeats 4000000 in
set_option maxRecDepth 100000 in
theorem mX7_isPlace {l : Launch} {D : va_G} {T : zT} {ad sK sV : Nat → Nat} (hi : zInj ad) (a1 : Int32)  (I : zI) (L : zL) : ∀ o, fX7_isPlace a1 = some o → zMet l yX7_isPlace cX7_isPlace 1 (some .boolean) 1 22 D T ad sK sV [.int a1] I L (em_i0 I L o) := by
  intro o ho
  refine zMet.of hi (by decide +kernel) (Nat.le_of_ble_eq_true rfl) (fun p e s m args below meth c hB => ?_)
  refine zr_top (emb := em_i0 I L) (t := fX7_isPlace a1) ?_ ho
  unfold fX7_isPlace
  refine zr_iload_n hB 0 rfl rfl dX7_isPlace_0 ?_
  refine zr_iconst (v := 0) hB (by decide) dX7_isPlace_1 ?_
  refine zr_bipush (v := 39) hB (by decide) dX7_isPlace_2 ?_
  refine zr_callS (st := []) (As := [.int a1, .int 0, .int 39]) (embc := em_i0 I L) hB (mX7_isWithin (sK := sK) (sV := sV) hi a1 0 39 I L) lm_X7_51 q2_X7_isWithin q4_X7 q5_X7_isWithin qd_X7_isWithin (by decide) rfl rfl (Nat.le_of_ble_eq_true rfl) ⟨Nat.zero_le _, Nat.zero_le _⟩ dX7_isPlace_4 (zr_ki0 (fun o2 => ?_))
  refine zr_gb (fun hv => ?_)
  exact zr_zretC hv hB rfl rfl dX7_isPlace_7

def fX7_one (a1 : Int32) (I : zI) : Option (Int32 × zI) :=
  zb (fX7_isPlace a1) fun o2 =>
  if o2 = 0 then
    zb (fX7_finding (-1000001) I) fun o11 =>
    some (o11.1, o11.2)
  else
  if (I 1 8) < 4 then
    zb (fX6_addOne 1 a1 10 I) fun o5 =>
    some (o5.1, o5.2)
  else
  zb (fX7_finding (-1000002) I) fun o8 =>
  some (o8.1, o8.2)
set_option maxHeartbeats 4000000 in
set_option maxRecDepth 100000 in
theorem mX7_one {l : Launch} {D : va_G} {T : zT} {ad sK sV : Nat → Nat} (hi : zInj ad) (a1 : Int32)  (I : zI) (L : zL) : ∀ o, fX7_one a1 I = some o → zMet l yX7_one cX7_one 2 (some .int) 2 44 D T ad sK sV [.ref (ad 0), .int a1] I L (em_iI L o) := by
  intro o ho
  refine zMet.of hi (by decide +kernel) (Nat.le_of_ble_eq_true rfl) (fun p e s m args below meth c hB => ?_)
  refine zr_top (emb := em_iI L) (t := fX7_one a1 I) ?_ ho
  unfold fX7_one
  refine zr_iload_n hB 1 rfl rfl dX7_one_0 ?_
  refine zr_callS (st := []) (As := [.int a1]) (embc := em_i0 I L) hB (mX7_isPlace (sK := sK) (sV := sV) hi a1 I L) lm_X7_100 q2_X7_isPlace q4_X7 q5_X7_isPlace qd_X7_isPlace (by decide) rfl rfl (Nat.le_of_ble_eq_true rfl) ⟨Nat.zero_le _, Nat.zero_le _⟩ dX7_one_1 (zr_ki0 (fun o2 => ?_))
  refine zr_ifne (tgt := 14) hB (by decide) dX7_one_4 ?_ ?_
  · refine zr_aload_n hB 0 rfl rfl dX7_one_14 ?_
    refine zr_get_X7 (w := 0) (k := 0) (v := .ref (ad 1)) hB rfl (by decide) rfl lf_X7_12 rfl dX7_one_15 ?_
    refine zr_get_X6 (w := 1) (k := 8) (v := .int (I 1 8)) hB (Or.inl rfl) (by decide) rfl lf_X7_103 rfl dX7_one_18 ?_
    refine zr_iconst (v := 4) hB (by decide) dX7_one_21 ?_
    refine zr_icmp_lt (tgt := 32) hB (by decide) dX7_one_22 ?_ ?_
    · refine zr_aload_n hB 0 rfl rfl dX7_one_32 ?_
      refine zr_get_X7 (w := 0) (k := 0) (v := .ref (ad 1)) hB rfl (by decide) rfl lf_X7_12 rfl dX7_one_33 ?_
      refine zr_iload_n hB 1 rfl rfl dX7_one_36 ?_
      refine zr_bipush (v := 10) hB (by decide) dX7_one_37 ?_
      refine zr_callV (st := []) (C := RX6) (As := [.int a1, .int 10]) (embc := em_iI L) hB (mX6_addOne (sK := sK) (sV := sV) hi 1 a1 10 (Or.inl rfl) I L) (zW_X6 (Or.inl rfl)) rfl rfl lm_X7_106 q2_X6_addOne q3_X6_addOne q4_X6 q5_X6_addOne qd_X6_addOne (by decide) rfl rfl (Nat.le_of_ble_eq_true rfl) ⟨Nat.zero_le _, Nat.zero_le _⟩ dX7_one_39 (zr_kiI (fun o5 => ?_))
      exact zr_iret hB rfl rfl dX7_one_42
    · refine zr_aload_n hB 0 rfl rfl dX7_one_25 ?_
      refine zr_ldc (v := (-1000002)) hB lk_X7_79 dX7_one_26 ?_
      refine zr_callV (st := []) (C := RX7) (As := [.int (-1000002)]) (embc := em_iI L) hB (mX7_finding (sK := sK) (sV := sV) hi (-1000002) I L) (zW_X7 rfl) rfl rfl lm_X7_56 q2_X7_finding q3_X7_finding q4_X7 q5_X7_finding qd_X7_finding (by decide) rfl rfl (Nat.le_of_ble_eq_true rfl) ⟨Nat.zero_le _, Nat.zero_le _⟩ dX7_one_28 (zr_kiI (fun o8 => ?_))
      exact zr_iret hB rfl rfl dX7_one_31
  · refine zr_aload_n hB 0 rfl rfl dX7_one_7 ?_
    refine zr_ldc (v := (-1000001)) hB lk_X7_55 dX7_one_8 ?_
    refine zr_callV (st := []) (C := RX7) (As := [.int (-1000001)]) (embc := em_iI L) hB (mX7_finding (sK := sK) (sV := sV) hi (-1000001) I L) (zW_X7 rfl) rfl rfl lm_X7_56 q2_X7_finding q3_X7_finding q4_X7 q5_X7_finding qd_X7_finding (by decide) rfl rfl (Nat.le_of_ble_eq_true rfl) ⟨Nat.zero_le _, Nat.zero_le _⟩ dX7_one_10 (zr_kiI (fun o11 => ?_))
    exact zr_iret hB rfl rfl dX7_one_13

def fX6_setTrait (w : Nat) (a1 : Int32) (a2 : Int32) (a3 : Int32) (I : zI) : Option (zI) :=
  if a2 = 0 then
    zg a1 4 (
    zl (zup I (w + 5) (zn a1) a3) fun J2 =>
    some J2)
  else
  zg a1 4 (
  zl (zup I (w + 6) (zn a1) a3) fun J1 =>
  some J1)
set_option maxHeartbeats 4000000 in
set_option maxRecDepth 100000 in
theorem mX6_setTrait {l : Launch} {D : va_G} {T : zT} {ad sK sV : Nat → Nat} (hi : zInj ad) (w : Nat) (a1 : Int32) (a2 : Int32) (a3 : Int32) (hw : zO_X6 w) (I : zI) (L : zL) : ∀ o, fX6_setTrait w a1 a2 a3 I = some o → zMet l yX6_setTrait cX6_setTrait 4 none 0 0 D T ad sK sV [.ref (ad w), .int a1, .int a2, .int a3] I L (em_vI L o) := by
  intro o ho
  refine zMet.of hi (by decide +kernel) (Nat.le_of_ble_eq_true rfl) (fun p e s m args below meth c hB => ?_)
  refine zr_top (emb := em_vI L) (t := fX6_setTrait w a1 a2 a3 I) ?_ ho
  unfold fX6_setTrait
  refine zr_iload_n hB 2 rfl rfl dX6_setTrait_0 ?_
  refine zr_ifne (tgt := 14) hB (by decide) dX6_setTrait_1 ?_ ?_
  · refine zr_aload_n hB 0 rfl rfl dX6_setTrait_14 ?_
    refine zr_get_X6 (w := w) (k := 10) (v := .ref (ad (w + 6))) hB hw (by decide) rfl lf_X6_31 rfl dX6_setTrait_15 ?_
    refine zr_iload_n hB 1 rfl rfl dX6_setTrait_18 ?_
    refine zr_iload_n hB 3 rfl rfl dX6_setTrait_19 ?_
    refine zr_iastore hB (zA_X6_6 hw) dX6_setTrait_20 ?_
    refine zr_letM (fun J1 => ?_)
    exact zr_vret hB rfl rfl dX6_setTrait_21
  · refine zr_aload_n hB 0 rfl rfl dX6_setTrait_4 ?_
    refine zr_get_X6 (w := w) (k := 9) (v := .ref (ad (w + 5))) hB hw (by decide) rfl lf_X6_28 rfl dX6_setTrait_5 ?_
    refine zr_iload_n hB 1 rfl rfl dX6_setTrait_8 ?_
    refine zr_iload_n hB 3 rfl rfl dX6_setTrait_9 ?_
    refine zr_iastore hB (zA_X6_5 hw) dX6_setTrait_10 ?_
    refine zr_letM (fun J2 => ?_)
    refine zr_goto (tgt := 21) hB (by decide) dX6_setTrait_11 ?_
    exact zr_vret hB rfl rfl dX6_setTrait_21

def fX6_traitOf (w : Nat) (a1 : Int32) (a2 : Int32) (I : zI) : Option (Int32) :=
  if a2 = 0 then
    zg a1 4 (
    some (I (w + 5) (zn a1)))
  else
  zg a1 4 (
  some (I (w + 6) (zn a1)))
set_option maxHeartbeats 4000000 in
set_option maxRecDepth 100000 in
theorem mX6_traitOf {l : Launch} {D : va_G} {T : zT} {ad sK sV : Nat → Nat} (hi : zInj ad) (w : Nat) (a1 : Int32) (a2 : Int32) (hw : zO_X6 w) (I : zI) (L : zL) : ∀ o, fX6_traitOf w a1 a2 I = some o → zMet l yX6_traitOf cX6_traitOf 3 (some .int) 0 0 D T ad sK sV [.ref (ad w), .int a1, .int a2] I L (em_i0 I L o) := by
  intro o ho
  refine zMet.of hi (by decide +kernel) (Nat.le_of_ble_eq_true rfl) (fun p e s m args below meth c hB => ?_)
  refine zr_top (emb := em_i0 I L) (t := fX6_traitOf w a1 a2 I) ?_ ho
  unfold fX6_traitOf
  refine zr_iload_n hB 2 rfl rfl dX6_traitOf_0 ?_
  refine zr_ifne (tgt := 13) hB (by decide) dX6_traitOf_1 ?_ ?_
  · refine zr_aload_n hB 0 rfl rfl dX6_traitOf_13 ?_
    refine zr_get_X6 (w := w) (k := 10) (v := .ref (ad (w + 6))) hB hw (by decide) rfl lf_X6_31 rfl dX6_traitOf_14 ?_
    refine zr_iload_n hB 1 rfl rfl dX6_traitOf_17 ?_
    refine zr_iaload hB (zA_X6_6 hw) dX6_traitOf_18 ?_
    exact zr_iret hB rfl rfl dX6_traitOf_19
  · refine zr_aload_n hB 0 rfl rfl dX6_traitOf_4 ?_
    refine zr_get_X6 (w := w) (k := 9) (v := .ref (ad (w + 5))) hB hw (by decide) rfl lf_X6_28 rfl dX6_traitOf_5 ?_
    refine zr_iload_n hB 1 rfl rfl dX6_traitOf_8 ?_
    refine zr_iaload hB (zA_X6_5 hw) dX6_traitOf_9 ?_
    refine zr_goto (tgt := 19) hB (by decide) dX6_traitOf_10 ?_
    exact zr_iret hB rfl rfl dX6_traitOf_19

def fX7_isOne (a1 : Int32) (I : zI) : Option (Int32) :=
  zb (fX7_isWithin a1 0 ((I 1 8) - 1)) fun o2 =>
  zgb o2 (
  some o2)
set_option maxHeartbeats 4000000 in
set_option maxRecDepth 100000 in
theorem mX7_isOne {l : Launch} {D : va_G} {T : zT} {ad sK sV : Nat → Nat} (hi : zInj ad) (a1 : Int32)  (I : zI) (L : zL) : ∀ o, fX7_isOne a1 I = some o → zMet l yX7_isOne cX7_isOne 2 (some .boolean) 1 22 D T ad sK sV [.ref (ad 0), .int a1] I L (em_i0 I L o) := by
  intro o ho
  refine zMet.of hi (by decide +kernel) (Nat.le_of_ble_eq_true rfl) (fun p e s m args below meth c hB => ?_)
  refine zr_top (emb := em_i0 I L) (t := fX7_isOne a1 I) ?_ ho
  unfold fX7_isOne
  refine zr_iload_n hB 1 rfl rfl dX7_isOne_0 ?_
  refine zr_iconst (v := 0) hB (by decide) dX7_isOne_1 ?_
  refine zr_aload_n hB 0 rfl rfl dX7_isOne_2 ?_
  refine zr_get_X7 (w := 0) (k := 0) (v := .ref (ad 1)) hB rfl (by decide) rfl lf_X7_12 rfl dX7_isOne_3 ?_
  refine zr_get_X6 (w := 1) (k := 8) (v := .int (I 1 8)) hB (Or.inl rfl) (by decide) rfl lf_X7_103 rfl dX7_isOne_6 ?_
  refine zr_iconst (v := 1) hB (by decide) dX7_isOne_9 ?_
  refine zr_isub hB dX7_isOne_10 ?_
  refine zr_callS (st := []) (As := [.int a1, .int 0, .int ((I 1 8) - 1)]) (embc := em_i0 I L) hB (mX7_isWithin (sK := sK) (sV := sV) hi a1 0 ((I 1 8) - 1) I L) lm_X7_51 q2_X7_isWithin q4_X7 q5_X7_isWithin qd_X7_isWithin (by decide) rfl rfl (Nat.le_of_ble_eq_true rfl) ⟨Nat.zero_le _, Nat.zero_le _⟩ dX7_isOne_11 (zr_ki0 (fun o2 => ?_))
  refine zr_gb (fun hv => ?_)
  exact zr_zretC hv hB rfl rfl dX7_isOne_14

def fX7_person (a1 : Int32) (a2 : Int32) (a3 : Int32) (I : zI) : Option (Int32 × zI) :=
  zb (fX7_isOne a1 I) fun o2 =>
  if o2 = 0 then
    zb (fX7_finding (-1000001) I) fun o5 =>
    some (o5.1, o5.2)
  else
  zb (fX7_isWithin a2 0 1) fun o7 =>
  if o7 = 0 then
    zb (fX7_finding (-1000001) I) fun o10 =>
    some (o10.1, o10.2)
  else
  zb (
    if a2 = 0 then
      some 39
    else
    some 60) fun x11 : Int32 =>
  zb (fX7_isWithin a3 0 x11) fun o16 =>
  if o16 = 0 then
    zb (fX7_finding (-1000001) I) fun o24 =>
    some (o24.1, o24.2)
  else
  zb (fX6_traitOf 1 a1 a2 I) fun o18 =>
  zb (fX6_setTrait 1 a1 a2 a3 I) fun o21 =>
  some (o18, o21)
set_option maxHeartbeats 4000000 in
set_option maxRecDepth 100000 in
theorem mX7_person {l : Launch} {D : va_G} {T : zT} {ad sK sV : Nat → Nat} (hi : zInj ad) (a1 : Int32) (a2 : Int32) (a3 : Int32)  (I : zI) (L : zL) : ∀ o, fX7_person a1 a2 a3 I = some o → zMet l yX7_person cX7_person 5 (some .int) 2 44 D T ad sK sV [.ref (ad 0), .int a1, .int a2, .int a3] I L (em_iI L o) := by
  intro o ho
  refine zMet.of hi (by decide +kernel) (Nat.le_of_ble_eq_true rfl) (fun p e s m args below meth c hB => ?_)
  refine zr_top (emb := em_iI L) (t := fX7_person a1 a2 a3 I) ?_ ho
  unfold fX7_person
  refine zr_aload_n hB 0 rfl rfl dX7_person_0 ?_
  refine zr_iload_n hB 1 rfl rfl dX7_person_1 ?_
  refine zr_callV (st := []) (C := RX7) (As := [.int a1]) (embc := em_i0 I L) hB (mX7_isOne (sK := sK) (sV := sV) hi a1 I L) (zW_X7 rfl) rfl rfl lm_X7_109 q2_X7_isOne q3_X7_isOne q4_X7 q5_X7_isOne qd_X7_isOne (by decide) rfl rfl (Nat.le_of_ble_eq_true rfl) ⟨Nat.zero_le _, Nat.zero_le _⟩ dX7_person_2 (zr_ki0 (fun o2 => ?_))
  refine zr_ifeq (tgt := 36) hB (by decide) dX7_person_5 ?_ ?_
  · refine zr_aload_n hB 0 rfl rfl dX7_person_36 ?_
    refine zr_ldc (v := (-1000001)) hB lk_X7_55 dX7_person_37 ?_
    refine zr_callV (st := []) (C := RX7) (As := [.int (-1000001)]) (embc := em_iI L) hB (mX7_finding (sK := sK) (sV := sV) hi (-1000001) I L) (zW_X7 rfl) rfl rfl lm_X7_56 q2_X7_finding q3_X7_finding q4_X7 q5_X7_finding qd_X7_finding (by decide) rfl rfl (Nat.le_of_ble_eq_true rfl) ⟨Nat.zero_le _, Nat.zero_le _⟩ dX7_person_39 (zr_kiI (fun o5 => ?_))
    exact zr_iret hB rfl rfl dX7_person_42
  · refine zr_iload_n hB 2 rfl rfl dX7_person_8 ?_
    refine zr_iconst (v := 0) hB (by decide) dX7_person_9 ?_
    refine zr_iconst (v := 1) hB (by decide) dX7_person_10 ?_
    refine zr_callS (st := []) (As := [.int a2, .int 0, .int 1]) (embc := em_i0 I L) hB (mX7_isWithin (sK := sK) (sV := sV) hi a2 0 1 I L) lm_X7_51 q2_X7_isWithin q4_X7 q5_X7_isWithin qd_X7_isWithin (by decide) rfl rfl (Nat.le_of_ble_eq_true rfl) ⟨Nat.zero_le _, Nat.zero_le _⟩ dX7_person_11 (zr_ki0 (fun o7 => ?_))
    refine zr_ifeq (tgt := 36) hB (by decide) dX7_person_14 ?_ ?_
    · refine zr_aload_n hB 0 rfl rfl dX7_person_36 ?_
      refine zr_ldc (v := (-1000001)) hB lk_X7_55 dX7_person_37 ?_
      refine zr_callV (st := []) (C := RX7) (As := [.int (-1000001)]) (embc := em_iI L) hB (mX7_finding (sK := sK) (sV := sV) hi (-1000001) I L) (zW_X7 rfl) rfl rfl lm_X7_56 q2_X7_finding q3_X7_finding q4_X7 q5_X7_finding qd_X7_finding (by decide) rfl rfl (Nat.le_of_ble_eq_true rfl) ⟨Nat.zero_le _, Nat.zero_le _⟩ dX7_person_39 (zr_kiI (fun o10 => ?_))
      exact zr_iret hB rfl rfl dX7_person_42
    · refine zr_iload_n hB 3 rfl rfl dX7_person_17 ?_
      refine zr_iconst (v := 0) hB (by decide) dX7_person_18 ?_
      refine zr_iload_n hB 2 rfl rfl dX7_person_19 ?_
      refine zr_join (pcJ := 30) (fun x11 : Int32 => [(0, .ref (ad 0)), (1, .int a1), (2, .int a2), (3, .int a3)]) (fun x11 => [.int x11, .int 0, .int a3]) (fun x11 => I) (fun x11 => L) (fun x11 => ?_) (fun K14 hj12 => ?_)
      · refine zr_callS (st := []) (As := [.int a3, .int 0, .int x11]) (embc := em_i0 I L) hB (mX7_isWithin (sK := sK) (sV := sV) hi a3 0 x11 I L) lm_X7_51 q2_X7_isWithin q4_X7 q5_X7_isWithin qd_X7_isWithin (by decide) rfl rfl (Nat.le_of_ble_eq_true rfl) ⟨Nat.zero_le _, Nat.zero_le _⟩ dX7_person_30 (zr_ki0 (fun o16 => ?_))
        refine zr_ifne (tgt := 43) hB (by decide) dX7_person_33 ?_ ?_
        · refine zr_aload_n hB 0 rfl rfl dX7_person_43 ?_
          refine zr_get_X7 (w := 0) (k := 0) (v := .ref (ad 1)) hB rfl (by decide) rfl lf_X7_12 rfl dX7_person_44 ?_
          refine zr_iload_n hB 1 rfl rfl dX7_person_47 ?_
          refine zr_iload_n hB 2 rfl rfl dX7_person_48 ?_
          refine zr_callV (st := []) (C := RX6) (As := [.int a1, .int a2]) (embc := em_i0 I L) hB (mX6_traitOf (sK := sK) (sV := sV) hi 1 a1 a2 (Or.inl rfl) I L) (zW_X6 (Or.inl rfl)) rfl rfl lm_X7_112 q2_X6_traitOf q3_X6_traitOf q4_X6 q5_X6_traitOf qd_X6_traitOf (by decide) rfl rfl (Nat.le_of_ble_eq_true rfl) ⟨Nat.zero_le _, Nat.zero_le _⟩ dX7_person_49 (zr_ki0 (fun o18 => ?_))
          refine zr_istore (lv' := [(4, .int o18), (0, .ref (ad 0)), (1, .int a1), (2, .int a2), (3, .int a3)]) hB (by decide) rfl dX7_person_52 ?_
          refine zr_aload_n hB 1 rfl rfl dX7_person_54 ?_
          refine zr_get_X7 (w := 0) (k := 0) (v := .ref (ad 1)) hB rfl (by decide) rfl lf_X7_12 rfl dX7_person_55 ?_
          refine zr_iload_n hB 2 rfl rfl dX7_person_58 ?_
          refine zr_iload_n hB 3 rfl rfl dX7_person_59 ?_
          refine zr_iload_n hB 4 rfl rfl dX7_person_60 ?_
          refine zr_callV (st := []) (C := RX6) (As := [.int a1, .int a2, .int a3]) (embc := em_vI L) hB (mX6_setTrait (sK := sK) (sV := sV) hi 1 a1 a2 a3 (Or.inl rfl) I L) (zW_X6 (Or.inl rfl)) rfl rfl lm_X7_115 q2_X6_setTrait q3_X6_setTrait q4_X6 q5_X6_setTrait qd_X6_setTrait (by decide) rfl rfl (Nat.le_of_ble_eq_true rfl) ⟨Nat.zero_le _, Nat.zero_le _⟩ dX7_person_61 (zr_kvI (fun o21 => ?_))
          refine zr_iload hB 0 rfl dX7_person_64 ?_
          exact zr_iret hB rfl rfl dX7_person_66
        · refine zr_aload_n hB 0 rfl rfl dX7_person_36 ?_
          refine zr_ldc (v := (-1000001)) hB lk_X7_55 dX7_person_37 ?_
          refine zr_callV (st := []) (C := RX7) (As := [.int (-1000001)]) (embc := em_iI L) hB (mX7_finding (sK := sK) (sV := sV) hi (-1000001) I L) (zW_X7 rfl) rfl rfl lm_X7_56 q2_X7_finding q3_X7_finding q4_X7 q5_X7_finding qd_X7_finding (by decide) rfl rfl (Nat.le_of_ble_eq_true rfl) ⟨Nat.zero_le _, Nat.zero_le _⟩ dX7_person_39 (zr_kiI (fun o24 => ?_))
          exact zr_iret hB rfl rfl dX7_person_42
      · refine zr_ifne (tgt := 28) hB (by decide) dX7_person_20 ?_ ?_
        · refine zr_bipush (v := 60) hB (by decide) dX7_person_28 ?_
          exact zr_sub [0, 1, 2, 3] rfl (hj12 60)
        · refine zr_bipush (v := 39) hB (by decide) dX7_person_23 ?_
          refine zr_goto (tgt := 30) hB (by decide) dX7_person_25 ?_
          exact zr_sub [0, 1, 2, 3] rfl (hj12 39)

def fX7_tell (a1 : Int32) (a2 : Int32) (I : zI) : Option (Int32 × zI) :=
  zb (fX7_isOne a1 I) fun o2 =>
  if o2 = 0 then
    zb (fX7_finding (-1000001) I) fun o5 =>
    some (o5.1, o5.2)
  else
  zb (fX7_isWithin a2 0 1) fun o7 =>
  if o7 = 0 then
    zb (fX7_finding (-1000001) I) fun o12 =>
    some (o12.1, o12.2)
  else
  zb (fX6_traitOf 1 a1 a2 I) fun o9 =>
  some (o9, I)
set_option maxHeartbeats 4000000 in
set_option maxRecDepth 100000 in
theorem mX7_tell {l : Launch} {D : va_G} {T : zT} {ad sK sV : Nat → Nat} (hi : zInj ad) (a1 : Int32) (a2 : Int32)  (I : zI) (L : zL) : ∀ o, fX7_tell a1 a2 I = some o → zMet l yX7_tell cX7_tell 3 (some .int) 2 44 D T ad sK sV [.ref (ad 0), .int a1, .int a2] I L (em_iI L o) := by
  intro o ho
  refine zMet.of hi (by decide +kernel) (Nat.le_of_ble_eq_true rfl) (fun p e s m args below meth c hB => ?_)
  refine zr_top (emb := em_iI L) (t := fX7_tell a1 a2 I) ?_ ho
  unfold fX7_tell
  refine zr_aload_n hB 0 rfl rfl dX7_tell_0 ?_
  refine zr_iload_n hB 1 rfl rfl dX7_tell_1 ?_
  refine zr_callV (st := []) (C := RX7) (As := [.int a1]) (embc := em_i0 I L) hB (mX7_isOne (sK := sK) (sV := sV) hi a1 I L) (zW_X7 rfl) rfl rfl lm_X7_109 q2_X7_isOne q3_X7_isOne q4_X7 q5_X7_isOne qd_X7_isOne (by decide) rfl rfl (Nat.le_of_ble_eq_true rfl) ⟨Nat.zero_le _, Nat.zero_le _⟩ dX7_tell_2 (zr_ki0 (fun o2 => ?_))
  refine zr_ifeq (tgt := 17) hB (by decide) dX7_tell_5 ?_ ?_
  · refine zr_aload_n hB 0 rfl rfl dX7_tell_17 ?_
    refine zr_ldc (v := (-1000001)) hB lk_X7_55 dX7_tell_18 ?_
    refine zr_callV (st := []) (C := RX7) (As := [.int (-1000001)]) (embc := em_iI L) hB (mX7_finding (sK := sK) (sV := sV) hi (-1000001) I L) (zW_X7 rfl) rfl rfl lm_X7_56 q2_X7_finding q3_X7_finding q4_X7 q5_X7_finding qd_X7_finding (by decide) rfl rfl (Nat.le_of_ble_eq_true rfl) ⟨Nat.zero_le _, Nat.zero_le _⟩ dX7_tell_20 (zr_kiI (fun o5 => ?_))
    exact zr_iret hB rfl rfl dX7_tell_23
  · refine zr_iload_n hB 2 rfl rfl dX7_tell_8 ?_
    refine zr_iconst (v := 0) hB (by decide) dX7_tell_9 ?_
    refine zr_iconst (v := 1) hB (by decide) dX7_tell_10 ?_
    refine zr_callS (st := []) (As := [.int a2, .int 0, .int 1]) (embc := em_i0 I L) hB (mX7_isWithin (sK := sK) (sV := sV) hi a2 0 1 I L) lm_X7_51 q2_X7_isWithin q4_X7 q5_X7_isWithin qd_X7_isWithin (by decide) rfl rfl (Nat.le_of_ble_eq_true rfl) ⟨Nat.zero_le _, Nat.zero_le _⟩ dX7_tell_11 (zr_ki0 (fun o7 => ?_))
    refine zr_ifne (tgt := 24) hB (by decide) dX7_tell_14 ?_ ?_
    · refine zr_aload_n hB 0 rfl rfl dX7_tell_24 ?_
      refine zr_get_X7 (w := 0) (k := 0) (v := .ref (ad 1)) hB rfl (by decide) rfl lf_X7_12 rfl dX7_tell_25 ?_
      refine zr_iload_n hB 1 rfl rfl dX7_tell_28 ?_
      refine zr_iload_n hB 2 rfl rfl dX7_tell_29 ?_
      refine zr_callV (st := []) (C := RX6) (As := [.int a1, .int a2]) (embc := em_i0 I L) hB (mX6_traitOf (sK := sK) (sV := sV) hi 1 a1 a2 (Or.inl rfl) I L) (zW_X6 (Or.inl rfl)) rfl rfl lm_X7_112 q2_X6_traitOf q3_X6_traitOf q4_X6 q5_X6_traitOf qd_X6_traitOf (by decide) rfl rfl (Nat.le_of_ble_eq_true rfl) ⟨Nat.zero_le _, Nat.zero_le _⟩ dX7_tell_30 (zr_ki0 (fun o9 => ?_))
      exact zr_iret hB rfl rfl dX7_tell_33
    · refine zr_aload_n hB 0 rfl rfl dX7_tell_17 ?_
      refine zr_ldc (v := (-1000001)) hB lk_X7_55 dX7_tell_18 ?_
      refine zr_callV (st := []) (C := RX7) (As := [.int (-1000001)]) (embc := em_iI L) hB (mX7_finding (sK := sK) (sV := sV) hi (-1000001) I L) (zW_X7 rfl) rfl rfl lm_X7_56 q2_X7_finding q3_X7_finding q4_X7 q5_X7_finding qd_X7_finding (by decide) rfl rfl (Nat.le_of_ble_eq_true rfl) ⟨Nat.zero_le _, Nat.zero_le _⟩ dX7_tell_20 (zr_kiI (fun o12 => ?_))
      exact zr_iret hB rfl rfl dX7_tell_23

def gX6_thingsIn_4 (w : Nat) (a1 : Int32) (I : zI) (s1 : Int32 × Int32) : Option ((Int32 × Int32) ⊕ (Int32)) :=
  if (I w 4) ≤ s1.2 then
    some (.inr s1.1)
  else
  zg s1.2 8 (
  if (I (w + 3) (zn s1.2)) = a1 then
    zl (s1.1 ||| (zshl 1 s1.2)) fun v11 =>
    zl (s1.2 + 1) fun v12 =>
    some (.inl (v11, v12))
  else
  zl (s1.2 + 1) fun v10 =>
  some (.inl (s1.1, v10)))
def fX6_thingsIn (n : Nat) (w : Nat) (a1 : Int32) (I : zI) : Option (Int32) :=
  zb (zit (gX6_thingsIn_4 w a1 I) n (0, 0)) fun x2 : Int32 =>
  some x2
set_option maxHeartbeats 4000000 in
set_option maxRecDepth 100000 in
theorem mX6_thingsIn {l : Launch} {D : va_G} {T : zT} {ad sK sV : Nat → Nat} (hi : zInj ad) (n : Nat) (w : Nat) (a1 : Int32) (hw : zO_X6 w) (I : zI) (L : zL) : ∀ o, fX6_thingsIn n w a1 I = some o → zMet l yX6_thingsIn cX6_thingsIn 4 (some .int) 0 0 D T ad sK sV [.ref (ad w), .int a1] I L (em_i0 I L o) := by
  intro o ho
  refine zMet.of hi (by decide +kernel) (Nat.le_of_ble_eq_true rfl) (fun p e s m args below meth c hB => ?_)
  refine zr_top (emb := em_i0 I L) (t := fX6_thingsIn n w a1 I) ?_ ho
  unfold fX6_thingsIn
  refine zr_iconst (v := 0) hB (by decide) dX6_thingsIn_0 ?_
  refine zr_istore_n (lv' := [(2, .int 0), (0, .ref (ad w)), (1, .int a1)]) hB rfl (by decide) rfl dX6_thingsIn_1 ?_
  refine zr_iconst (v := 0) hB (by decide) dX6_thingsIn_2 ?_
  refine zr_istore_n (lv' := [(3, .int 0), (2, .int 0), (0, .ref (ad w)), (1, .int a1)]) hB rfl (by decide) rfl dX6_thingsIn_3 ?_
  refine zr_join (pcJ := 34) (fun x2 : Int32 => [(2, .int x2)]) (fun _ => []) (fun x2 => I) (fun x2 => L) (fun x2 => ?_) (fun K8 hx7 => ?_)
  · refine zr_iload_n hB 0 rfl rfl dX6_thingsIn_34 ?_
    exact zr_iret hB rfl rfl dX6_thingsIn_35
  · refine zr_sub (lv' := (fun s1 : Int32 × Int32 => [(2, .int s1.1), (3, .int s1.2), (0, .ref (ad w)), (1, .int a1)]) (0, 0)) [1, 0, 2, 3] rfl (zr_loop (fun s1 : Int32 × Int32 => [(2, .int s1.1), (3, .int s1.2), (0, .ref (ad w)), (1, .int a1)]) (fun s1 => I) (fun s1 => L) (fun x2 : Int32 => [(2, .int x2)]) (fun x2 => I) (fun x2 => L) hx7 (fun s1 K9 hc3 hx4 => ?_) n (0, 0))
    unfold gX6_thingsIn_4
    refine zr_iload_n hB 1 rfl rfl dX6_thingsIn_4 ?_
    refine zr_aload_n hB 2 rfl rfl dX6_thingsIn_5 ?_
    refine zr_get_X6 (w := w) (k := 4) (v := .int (I w 4)) hB hw (by decide) rfl lf_X6_55 rfl dX6_thingsIn_6 ?_
    refine zr_icmp_ge (tgt := 34) hB (by decide) dX6_thingsIn_9 ?_ ?_
    · exact zr_sub [0] rfl (hx4 s1.1)
    · refine zr_aload_n hB 2 rfl rfl dX6_thingsIn_12 ?_
      refine zr_get_X6 (w := w) (k := 6) (v := .ref (ad (w + 3))) hB hw (by decide) rfl lf_X6_22 rfl dX6_thingsIn_13 ?_
      refine zr_iload_n hB 1 rfl rfl dX6_thingsIn_16 ?_
      refine zr_iaload hB (zA_X6_3 hw) dX6_thingsIn_17 ?_
      refine zr_iload_n hB 3 rfl rfl dX6_thingsIn_18 ?_
      refine zr_icmp_ne (tgt := 28) hB (by decide) dX6_thingsIn_19 ?_ ?_
      · refine zr_iincL hB (j := 1) (n := 1) (w := 1) rfl (by decide) (by decide) dX6_thingsIn_28 (fun v10 lv' hlv => ?_)
        obtain rfl : lv' = [(3, .int v10), (2, .int s1.1), (0, .ref (ad w)), (1, .int a1)] := hlv.symm.trans rfl
        refine zr_goto (tgt := 4) hB (by decide) dX6_thingsIn_31 ?_
        exact zr_sub [1, 0, 2, 3] rfl (hc3 (s1.1, v10))
      · refine zr_iload_n hB 0 rfl rfl dX6_thingsIn_22 ?_
        refine zr_iconst (v := 1) hB (by decide) dX6_thingsIn_23 ?_
        refine zr_iload_n hB 1 rfl rfl dX6_thingsIn_24 ?_
        refine zr_ishl hB dX6_thingsIn_25 ?_
        refine zr_ior hB dX6_thingsIn_26 ?_
        refine zr_letI (fun v11 => ?_)
        refine zr_istore_n (lv' := [(2, .int v11), (3, .int s1.2), (0, .ref (ad w)), (1, .int a1)]) hB rfl (by decide) rfl dX6_thingsIn_27 ?_
        refine zr_iincL hB (j := 1) (n := 1) (w := 1) rfl (by decide) (by decide) dX6_thingsIn_28 (fun v12 lv' hlv => ?_)
        obtain rfl : lv' = [(3, .int v12), (2, .int v11), (0, .ref (ad w)), (1, .int a1)] := hlv.symm.trans rfl
        refine zr_goto (tgt := 4) hB (by decide) dX6_thingsIn_31 ?_
        exact zr_sub [1, 0, 2, 3] rfl (hc3 (v11, v12))

def fX7_lie (n : Nat) (a1 : Int32) (I : zI) : Option (Int32 × zI) :=
  zb (fX7_isRoom a1) fun o2 =>
  if o2 = 0 then
    zb (fX7_finding (-1000001) I) fun o7 =>
    some (o7.1, o7.2)
  else
  zb (fX6_thingsIn n 1 a1 I) fun o4 =>
  some (o4, I)
set_option maxHeartbeats 4000000 in
set_option maxRecDepth 100000 in
theorem mX7_lie {l : Launch} {D : va_G} {T : zT} {ad sK sV : Nat → Nat} (hi : zInj ad) (n : Nat) (a1 : Int32)  (I : zI) (L : zL) : ∀ o, fX7_lie n a1 I = some o → zMet l yX7_lie cX7_lie 2 (some .int) 2 44 D T ad sK sV [.ref (ad 0), .int a1] I L (em_iI L o) := by
  intro o ho
  refine zMet.of hi (by decide +kernel) (Nat.le_of_ble_eq_true rfl) (fun p e s m args below meth c hB => ?_)
  refine zr_top (emb := em_iI L) (t := fX7_lie n a1 I) ?_ ho
  unfold fX7_lie
  refine zr_iload_n hB 1 rfl rfl dX7_lie_0 ?_
  refine zr_callS (st := []) (As := [.int a1]) (embc := em_i0 I L) hB (mX7_isRoom (sK := sK) (sV := sV) hi a1 I L) lm_X7_47 q2_X7_isRoom q4_X7 q5_X7_isRoom qd_X7_isRoom (by decide) rfl rfl (Nat.le_of_ble_eq_true rfl) ⟨Nat.zero_le _, Nat.zero_le _⟩ dX7_lie_1 (zr_ki0 (fun o2 => ?_))
  refine zr_ifne (tgt := 14) hB (by decide) dX7_lie_4 ?_ ?_
  · refine zr_aload_n hB 0 rfl rfl dX7_lie_14 ?_
    refine zr_get_X7 (w := 0) (k := 0) (v := .ref (ad 1)) hB rfl (by decide) rfl lf_X7_12 rfl dX7_lie_15 ?_
    refine zr_iload_n hB 1 rfl rfl dX7_lie_18 ?_
    refine zr_callV (st := []) (C := RX6) (As := [.int a1]) (embc := em_i0 I L) hB (mX6_thingsIn (sK := sK) (sV := sV) hi n 1 a1 (Or.inl rfl) I L) (zW_X6 (Or.inl rfl)) rfl rfl lm_X7_118 q2_X6_thingsIn q3_X6_thingsIn q4_X6 q5_X6_thingsIn qd_X6_thingsIn (by decide) rfl rfl (Nat.le_of_ble_eq_true rfl) ⟨Nat.zero_le _, Nat.zero_le _⟩ dX7_lie_19 (zr_ki0 (fun o4 => ?_))
    exact zr_iret hB rfl rfl dX7_lie_22
  · refine zr_aload_n hB 0 rfl rfl dX7_lie_7 ?_
    refine zr_ldc (v := (-1000001)) hB lk_X7_55 dX7_lie_8 ?_
    refine zr_callV (st := []) (C := RX7) (As := [.int (-1000001)]) (embc := em_iI L) hB (mX7_finding (sK := sK) (sV := sV) hi (-1000001) I L) (zW_X7 rfl) rfl rfl lm_X7_56 q2_X7_finding q3_X7_finding q4_X7 q5_X7_finding qd_X7_finding (by decide) rfl rfl (Nat.le_of_ble_eq_true rfl) ⟨Nat.zero_le _, Nat.zero_le _⟩ dX7_lie_10 (zr_kiI (fun o7 => ?_))
    exact zr_iret hB rfl rfl dX7_lie_13

def fX6_levelOf (w : Nat) (a1 : Int32) (I : zI) : Option (Int32) :=
  zg a1 4 (
  some ((I (w + 5) (zn a1)) / 8))
set_option maxHeartbeats 4000000 in
set_option maxRecDepth 100000 in
theorem mX6_levelOf {l : Launch} {D : va_G} {T : zT} {ad sK sV : Nat → Nat} (hi : zInj ad) (w : Nat) (a1 : Int32) (hw : zO_X6 w) (I : zI) (L : zL) : ∀ o, fX6_levelOf w a1 I = some o → zMet l yX6_levelOf cX6_levelOf 2 (some .int) 0 0 D T ad sK sV [.ref (ad w), .int a1] I L (em_i0 I L o) := by
  intro o ho
  refine zMet.of hi (by decide +kernel) (Nat.le_of_ble_eq_true rfl) (fun p e s m args below meth c hB => ?_)
  refine zr_top (emb := em_i0 I L) (t := fX6_levelOf w a1 I) ?_ ho
  unfold fX6_levelOf
  refine zr_aload_n hB 0 rfl rfl dX6_levelOf_0 ?_
  refine zr_get_X6 (w := w) (k := 9) (v := .ref (ad (w + 5))) hB hw (by decide) rfl lf_X6_28 rfl dX6_levelOf_1 ?_
  refine zr_iload_n hB 1 rfl rfl dX6_levelOf_4 ?_
  refine zr_iaload hB (zA_X6_5 hw) dX6_levelOf_5 ?_
  refine zr_bipush (v := 8) hB (by decide) dX6_levelOf_6 ?_
  refine zr_idivC hB (by decide) dX6_levelOf_8 ?_
  exact zr_iret hB rfl rfl dX6_levelOf_9

def fX6_moveTo (w : Nat) (a1 : Int32) (a2 : Int32) (I : zI) : Option (zI) :=
  zb (fX6_levelOf w a1 I) fun o2 =>
  zg a1 4 (
  zl (zup I (w + 5) (zn a1) ((o2 * 8) + a2)) fun J3 =>
  some J3)
set_option maxHeartbeats 4000000 in
set_option maxRecDepth 100000 in
theorem mX6_moveTo {l : Launch} {D : va_G} {T : zT} {ad sK sV : Nat → Nat} (hi : zInj ad) (w : Nat) (a1 : Int32) (a2 : Int32) (hw : zO_X6 w) (I : zI) (L : zL) : ∀ o, fX6_moveTo w a1 a2 I = some o → zMet l yX6_moveTo cX6_moveTo 3 none 1 21 D T ad sK sV [.ref (ad w), .int a1, .int a2] I L (em_vI L o) := by
  intro o ho
  refine zMet.of hi (by decide +kernel) (Nat.le_of_ble_eq_true rfl) (fun p e s m args below meth c hB => ?_)
  refine zr_top (emb := em_vI L) (t := fX6_moveTo w a1 a2 I) ?_ ho
  unfold fX6_moveTo
  refine zr_aload_n hB 0 rfl rfl dX6_moveTo_0 ?_
  refine zr_get_X6 (w := w) (k := 9) (v := .ref (ad (w + 5))) hB hw (by decide) rfl lf_X6_28 rfl dX6_moveTo_1 ?_
  refine zr_iload_n hB 1 rfl rfl dX6_moveTo_4 ?_
  refine zr_aload_n hB 0 rfl rfl dX6_moveTo_5 ?_
  refine zr_iload_n hB 1 rfl rfl dX6_moveTo_6 ?_
  refine zr_callV (st := [.int a1, .ref (ad (w + 5))]) (C := RX6) (As := [.int a1]) (embc := em_i0 I L) hB (mX6_levelOf (sK := sK) (sV := sV) hi w a1 hw I L) (zW_X6 hw) rfl rfl lm_X6_84 q2_X6_levelOf q3_X6_levelOf q4_X6 q5_X6_levelOf qd_X6_levelOf (by decide) rfl rfl (Nat.le_of_ble_eq_true rfl) ⟨Nat.zero_le _, Nat.zero_le _⟩ dX6_moveTo_7 (zr_ki0 (fun o2 => ?_))
  refine zr_bipush (v := 8) hB (by decide) dX6_moveTo_10 ?_
  refine zr_imul hB dX6_moveTo_12 ?_
  refine zr_iload_n hB 2 rfl rfl dX6_moveTo_13 ?_
  refine zr_iadd hB dX6_moveTo_14 ?_
  refine zr_iastore hB (zA_X6_5 hw) dX6_moveTo_15 ?_
  refine zr_letM (fun J3 => ?_)
  exact zr_vret hB rfl rfl dX6_moveTo_16

def fX6_roomOf (w : Nat) (a1 : Int32) (I : zI) : Option (Int32) :=
  zg a1 4 (
  some (zrem (I (w + 5) (zn a1)) 8))
set_option maxHeartbeats 4000000 in
set_option maxRecDepth 100000 in
theorem mX6_roomOf {l : Launch} {D : va_G} {T : zT} {ad sK sV : Nat → Nat} (hi : zInj ad) (w : Nat) (a1 : Int32) (hw : zO_X6 w) (I : zI) (L : zL) : ∀ o, fX6_roomOf w a1 I = some o → zMet l yX6_roomOf cX6_roomOf 2 (some .int) 0 0 D T ad sK sV [.ref (ad w), .int a1] I L (em_i0 I L o) := by
  intro o ho
  refine zMet.of hi (by decide +kernel) (Nat.le_of_ble_eq_true rfl) (fun p e s m args below meth c hB => ?_)
  refine zr_top (emb := em_i0 I L) (t := fX6_roomOf w a1 I) ?_ ho
  unfold fX6_roomOf
  refine zr_aload_n hB 0 rfl rfl dX6_roomOf_0 ?_
  refine zr_get_X6 (w := w) (k := 9) (v := .ref (ad (w + 5))) hB hw (by decide) rfl lf_X6_28 rfl dX6_roomOf_1 ?_
  refine zr_iload_n hB 1 rfl rfl dX6_roomOf_4 ?_
  refine zr_iaload hB (zA_X6_5 hw) dX6_roomOf_5 ?_
  refine zr_bipush (v := 8) hB (by decide) dX6_roomOf_6 ?_
  refine zr_iremC hB (by decide) dX6_roomOf_8 ?_
  exact zr_iret hB rfl rfl dX6_roomOf_9

def fX7_walk (a1 : Int32) (a2 : Int32) (I : zI) : Option (Int32 × zI) :=
  zb (fX7_isOne a1 I) fun o2 =>
  if o2 = 0 then
    zb (fX7_finding (-1000001) I) fun o5 =>
    some (o5.1, o5.2)
  else
  zb (fX7_isRoom a2) fun o7 =>
  if o7 = 0 then
    zb (fX7_finding (-1000001) I) fun o20 =>
    some (o20.1, o20.2)
  else
  zb (fX6_roomOf 1 a1 I) fun o9 =>
  zb (fX6_isOpen 1 o9 a2 I) fun o11 =>
  if o11 = 0 then
    zb (fX7_finding (-1000005) I) fun o17 =>
    some (o17.1, o17.2)
  else
  zb (fX6_moveTo 1 a1 a2 I) fun o14 =>
  zg a1 4 (
  some (o14 6 (zn a1), o14))
set_option maxHeartbeats 4000000 in
set_option maxRecDepth 100000 in
theorem mX7_walk {l : Launch} {D : va_G} {T : zT} {ad sK sV : Nat → Nat} (hi : zInj ad) (a1 : Int32) (a2 : Int32)  (I : zI) (L : zL) : ∀ o, fX7_walk a1 a2 I = some o → zMet l yX7_walk cX7_walk 3 (some .int) 2 44 D T ad sK sV [.ref (ad 0), .int a1, .int a2] I L (em_iI L o) := by
  intro o ho
  refine zMet.of hi (by decide +kernel) (Nat.le_of_ble_eq_true rfl) (fun p e s m args below meth c hB => ?_)
  refine zr_top (emb := em_iI L) (t := fX7_walk a1 a2 I) ?_ ho
  unfold fX7_walk
  refine zr_aload_n hB 0 rfl rfl dX7_walk_0 ?_
  refine zr_iload_n hB 1 rfl rfl dX7_walk_1 ?_
  refine zr_callV (st := []) (C := RX7) (As := [.int a1]) (embc := em_i0 I L) hB (mX7_isOne (sK := sK) (sV := sV) hi a1 I L) (zW_X7 rfl) rfl rfl lm_X7_109 q2_X7_isOne q3_X7_isOne q4_X7 q5_X7_isOne qd_X7_isOne (by decide) rfl rfl (Nat.le_of_ble_eq_true rfl) ⟨Nat.zero_le _, Nat.zero_le _⟩ dX7_walk_2 (zr_ki0 (fun o2 => ?_))
  refine zr_ifeq (tgt := 15) hB (by decide) dX7_walk_5 ?_ ?_
  · refine zr_aload_n hB 0 rfl rfl dX7_walk_15 ?_
    refine zr_ldc (v := (-1000001)) hB lk_X7_55 dX7_walk_16 ?_
    refine zr_callV (st := []) (C := RX7) (As := [.int (-1000001)]) (embc := em_iI L) hB (mX7_finding (sK := sK) (sV := sV) hi (-1000001) I L) (zW_X7 rfl) rfl rfl lm_X7_56 q2_X7_finding q3_X7_finding q4_X7 q5_X7_finding qd_X7_finding (by decide) rfl rfl (Nat.le_of_ble_eq_true rfl) ⟨Nat.zero_le _, Nat.zero_le _⟩ dX7_walk_18 (zr_kiI (fun o5 => ?_))
    exact zr_iret hB rfl rfl dX7_walk_21
  · refine zr_iload_n hB 2 rfl rfl dX7_walk_8 ?_
    refine zr_callS (st := []) (As := [.int a2]) (embc := em_i0 I L) hB (mX7_isRoom (sK := sK) (sV := sV) hi a2 I L) lm_X7_47 q2_X7_isRoom q4_X7 q5_X7_isRoom qd_X7_isRoom (by decide) rfl rfl (Nat.le_of_ble_eq_true rfl) ⟨Nat.zero_le _, Nat.zero_le _⟩ dX7_walk_9 (zr_ki0 (fun o7 => ?_))
    refine zr_ifne (tgt := 22) hB (by decide) dX7_walk_12 ?_ ?_
    · refine zr_aload_n hB 0 rfl rfl dX7_walk_22 ?_
      refine zr_get_X7 (w := 0) (k := 0) (v := .ref (ad 1)) hB rfl (by decide) rfl lf_X7_12 rfl dX7_walk_23 ?_
      refine zr_aload_n hB 0 rfl rfl dX7_walk_26 ?_
      refine zr_get_X7 (w := 0) (k := 0) (v := .ref (ad 1)) hB rfl (by decide) rfl lf_X7_12 rfl dX7_walk_27 ?_
      refine zr_iload_n hB 1 rfl rfl dX7_walk_30 ?_
      refine zr_callV (st := [.ref (ad 1)]) (C := RX6) (As := [.int a1]) (embc := em_i0 I L) hB (mX6_roomOf (sK := sK) (sV := sV) hi 1 a1 (Or.inl rfl) I L) (zW_X6 (Or.inl rfl)) rfl rfl lm_X7_121 q2_X6_roomOf q3_X6_roomOf q4_X6 q5_X6_roomOf qd_X6_roomOf (by decide) rfl rfl (Nat.le_of_ble_eq_true rfl) ⟨Nat.zero_le _, Nat.zero_le _⟩ dX7_walk_31 (zr_ki0 (fun o9 => ?_))
      refine zr_iload_n hB 2 rfl rfl dX7_walk_34 ?_
      refine zr_callV (st := []) (C := RX6) (As := [.int o9, .int a2]) (embc := em_i0 I L) hB (mX6_isOpen (sK := sK) (sV := sV) hi 1 o9 a2 (Or.inl rfl) I L) (zW_X6 (Or.inl rfl)) rfl rfl lm_X7_60 q2_X6_isOpen q3_X6_isOpen q4_X6 q5_X6_isOpen qd_X6_isOpen (by decide) rfl rfl (Nat.le_of_ble_eq_true rfl) ⟨Nat.zero_le _, Nat.zero_le _⟩ dX7_walk_35 (zr_ki0 (fun o11 => ?_))
      refine zr_ifne (tgt := 48) hB (by decide) dX7_walk_38 ?_ ?_
      · refine zr_aload_n hB 0 rfl rfl dX7_walk_48 ?_
        refine zr_get_X7 (w := 0) (k := 0) (v := .ref (ad 1)) hB rfl (by decide) rfl lf_X7_12 rfl dX7_walk_49 ?_
        refine zr_iload_n hB 1 rfl rfl dX7_walk_52 ?_
        refine zr_iload_n hB 2 rfl rfl dX7_walk_53 ?_
        refine zr_callV (st := []) (C := RX6) (As := [.int a1, .int a2]) (embc := em_vI L) hB (mX6_moveTo (sK := sK) (sV := sV) hi 1 a1 a2 (Or.inl rfl) I L) (zW_X6 (Or.inl rfl)) rfl rfl lm_X7_125 q2_X6_moveTo q3_X6_moveTo q4_X6 q5_X6_moveTo qd_X6_moveTo (by decide) rfl rfl (Nat.le_of_ble_eq_true rfl) ⟨Nat.zero_le _, Nat.zero_le _⟩ dX7_walk_54 (zr_kvI (fun o14 => ?_))
        refine zr_aload_n hB 0 rfl rfl dX7_walk_57 ?_
        refine zr_get_X7 (w := 0) (k := 0) (v := .ref (ad 1)) hB rfl (by decide) rfl lf_X7_12 rfl dX7_walk_58 ?_
        refine zr_get_X6 (w := 1) (k := 9) (v := .ref (ad 6)) hB (Or.inl rfl) (by decide) rfl lf_X7_129 rfl dX7_walk_61 ?_
        refine zr_iload_n hB 1 rfl rfl dX7_walk_64 ?_
        refine zr_iaload hB zA_6 dX7_walk_65 ?_
        exact zr_iret hB rfl rfl dX7_walk_66
      · refine zr_aload_n hB 0 rfl rfl dX7_walk_41 ?_
        refine zr_ldc (v := (-1000005)) hB lk_X7_124 dX7_walk_42 ?_
        refine zr_callV (st := []) (C := RX7) (As := [.int (-1000005)]) (embc := em_iI L) hB (mX7_finding (sK := sK) (sV := sV) hi (-1000005) I L) (zW_X7 rfl) rfl rfl lm_X7_56 q2_X7_finding q3_X7_finding q4_X7 q5_X7_finding qd_X7_finding (by decide) rfl rfl (Nat.le_of_ble_eq_true rfl) ⟨Nat.zero_le _, Nat.zero_le _⟩ dX7_walk_44 (zr_kiI (fun o17 => ?_))
        exact zr_iret hB rfl rfl dX7_walk_47
    · refine zr_aload_n hB 0 rfl rfl dX7_walk_15 ?_
      refine zr_ldc (v := (-1000001)) hB lk_X7_55 dX7_walk_16 ?_
      refine zr_callV (st := []) (C := RX7) (As := [.int (-1000001)]) (embc := em_iI L) hB (mX7_finding (sK := sK) (sV := sV) hi (-1000001) I L) (zW_X7 rfl) rfl rfl lm_X7_56 q2_X7_finding q3_X7_finding q4_X7 q5_X7_finding qd_X7_finding (by decide) rfl rfl (Nat.le_of_ble_eq_true rfl) ⟨Nat.zero_le _, Nat.zero_le _⟩ dX7_walk_18 (zr_kiI (fun o20 => ?_))
      exact zr_iret hB rfl rfl dX7_walk_21

def fX6_placeInside (w : Nat) (a1 : Int32) (I : zI) : Option (Int32) :=
  zb (
    zbs (
      if (zrem a1 8) = (I w 1) then
        if 4 ≤ (a1 / 8) then
          some (.inr ())
        else
        some (.inl 1)
      else
      some (.inr ())) fun x5 : Unit =>
    some 0) fun x1 : Int32 =>
  if x1 = 0 then
    some (-1)
  else
  some ((((a1 / 8) + 1) * 8) + (I w 2))
set_option maxHeartbeats 4000000 in
set_option maxRecDepth 100000 in
theorem mX6_placeInside {l : Launch} {D : va_G} {T : zT} {ad sK sV : Nat → Nat} (hi : zInj ad) (w : Nat) (a1 : Int32) (hw : zO_X6 w) (I : zI) (L : zL) : ∀ o, fX6_placeInside w a1 I = some o → zMet l yX6_placeInside cX6_placeInside 3 (some .int) 0 0 D T ad sK sV [.ref (ad w), .int a1] I L (em_i0 I L o) := by
  intro o ho
  refine zMet.of hi (by decide +kernel) (Nat.le_of_ble_eq_true rfl) (fun p e s m args below meth c hB => ?_)
  refine zr_top (emb := em_i0 I L) (t := fX6_placeInside w a1 I) ?_ ho
  unfold fX6_placeInside
  refine zr_iload_n hB 1 rfl rfl dX6_placeInside_0 ?_
  refine zr_bipush (v := 8) hB (by decide) dX6_placeInside_1 ?_
  refine zr_iremC hB (by decide) dX6_placeInside_3 ?_
  refine zr_aload_n hB 0 rfl rfl dX6_placeInside_4 ?_
  refine zr_get_X6 (w := w) (k := 1) (v := .int (I w 1)) hB hw (by decide) rfl lf_X6_15 rfl dX6_placeInside_5 ?_
  refine zr_join (pcJ := 24) (fun x1 : Int32 => [(0, .ref (ad w)), (1, .int a1)]) (fun x1 => [.int x1]) (fun x1 => I) (fun x1 => L) (fun x1 => ?_) (fun K4 hj2 => ?_)
  · refine zr_istore_n (lv' := [(2, .int x1), (0, .ref (ad w)), (1, .int a1)]) hB rfl (by decide) rfl dX6_placeInside_24 ?_
    refine zr_iload_n hB 0 rfl rfl dX6_placeInside_25 ?_
    refine zr_ifeq (tgt := 46) hB (by decide) dX6_placeInside_26 ?_ ?_
    · refine zr_iconst (v := (-1)) hB (by decide) dX6_placeInside_46 ?_
      exact zr_iret hB rfl rfl dX6_placeInside_47
    · refine zr_iload_n hB 2 rfl rfl dX6_placeInside_29 ?_
      refine zr_bipush (v := 8) hB (by decide) dX6_placeInside_30 ?_
      refine zr_idivC hB (by decide) dX6_placeInside_32 ?_
      refine zr_iconst (v := 1) hB (by decide) dX6_placeInside_33 ?_
      refine zr_iadd hB dX6_placeInside_34 ?_
      refine zr_bipush (v := 8) hB (by decide) dX6_placeInside_35 ?_
      refine zr_imul hB dX6_placeInside_37 ?_
      refine zr_aload_n hB 1 rfl rfl dX6_placeInside_38 ?_
      refine zr_get_X6 (w := w) (k := 2) (v := .int (I w 2)) hB hw (by decide) rfl lf_X6_49 rfl dX6_placeInside_39 ?_
      refine zr_iadd hB dX6_placeInside_42 ?_
      refine zr_goto (tgt := 47) hB (by decide) dX6_placeInside_43 ?_
      exact zr_iret hB rfl rfl dX6_placeInside_47
  · refine zr_joins (pcJ := 23) (fun x5 : Unit => [(0, .ref (ad w)), (1, .int a1)]) (fun x5 => []) (fun x5 => I) (fun x5 => L) (fun x5 => ?_) (fun K8 hi7 hj6 => ?_)
    · refine zr_iconst (v := 0) hB (by decide) dX6_placeInside_23 ?_
      exact zr_sub [0, 1] rfl (hj2 0)
    · refine zr_icmp_ne (tgt := 23) hB (by decide) dX6_placeInside_8 ?_ ?_
      · exact zr_sub [0, 1] rfl (hj6 ())
      · refine zr_iload_n hB 1 rfl rfl dX6_placeInside_11 ?_
        refine zr_bipush (v := 8) hB (by decide) dX6_placeInside_12 ?_
        refine zr_idivC hB (by decide) dX6_placeInside_14 ?_
        refine zr_iconst (v := 4) hB (by decide) dX6_placeInside_15 ?_
        refine zr_icmp_ge (tgt := 23) hB (by decide) dX6_placeInside_16 ?_ ?_
        · exact zr_sub [0, 1] rfl (hj6 ())
        · refine zr_iconst (v := 1) hB (by decide) dX6_placeInside_19 ?_
          refine zr_goto (tgt := 24) hB (by decide) dX6_placeInside_20 ?_
          refine hi7 _ _ _ _ _ _ ?_
          exact zr_sub [0, 1] rfl (hj2 1)

def fX7_goTo (a1 : Int32) (a2 : Int32) (I : zI) : Option (Int32 × zI) :=
  if a2 = (-1) then
    zb (fX7_finding (-1000005) I) fun o4 =>
    some (o4.1, o4.2)
  else
  zg a1 4 (
  zl (zup I 6 (zn a1) a2) fun J1 =>
  some (a2, J1))
set_option maxHeartbeats 4000000 in
set_option maxRecDepth 100000 in
theorem mX7_goTo {l : Launch} {D : va_G} {T : zT} {ad sK sV : Nat → Nat} (hi : zInj ad) (a1 : Int32) (a2 : Int32)  (I : zI) (L : zL) : ∀ o, fX7_goTo a1 a2 I = some o → zMet l yX7_goTo cX7_goTo 3 (some .int) 2 44 D T ad sK sV [.ref (ad 0), .int a1, .int a2] I L (em_iI L o) := by
  intro o ho
  refine zMet.of hi (by decide +kernel) (Nat.le_of_ble_eq_true rfl) (fun p e s m args below meth c hB => ?_)
  refine zr_top (emb := em_iI L) (t := fX7_goTo a1 a2 I) ?_ ho
  unfold fX7_goTo
  refine zr_iload_n hB 2 rfl rfl dX7_goTo_0 ?_
  refine zr_iconst (v := (-1)) hB (by decide) dX7_goTo_1 ?_
  refine zr_icmp_ne (tgt := 12) hB (by decide) dX7_goTo_2 ?_ ?_
  · refine zr_aload_n hB 0 rfl rfl dX7_goTo_12 ?_
    refine zr_get_X7 (w := 0) (k := 0) (v := .ref (ad 1)) hB rfl (by decide) rfl lf_X7_12 rfl dX7_goTo_13 ?_
    refine zr_get_X6 (w := 1) (k := 9) (v := .ref (ad 6)) hB (Or.inl rfl) (by decide) rfl lf_X7_129 rfl dX7_goTo_16 ?_
    refine zr_iload_n hB 1 rfl rfl dX7_goTo_19 ?_
    refine zr_iload_n hB 2 rfl rfl dX7_goTo_20 ?_
    refine zr_iastore hB zA_6 dX7_goTo_21 ?_
    refine zr_letM (fun J1 => ?_)
    refine zr_iload_n hB 2 rfl rfl dX7_goTo_22 ?_
    exact zr_iret hB rfl rfl dX7_goTo_23
  · refine zr_aload_n hB 0 rfl rfl dX7_goTo_5 ?_
    refine zr_ldc (v := (-1000005)) hB lk_X7_124 dX7_goTo_6 ?_
    refine zr_callV (st := []) (C := RX7) (As := [.int (-1000005)]) (embc := em_iI L) hB (mX7_finding (sK := sK) (sV := sV) hi (-1000005) I L) (zW_X7 rfl) rfl rfl lm_X7_56 q2_X7_finding q3_X7_finding q4_X7 q5_X7_finding qd_X7_finding (by decide) rfl rfl (Nat.le_of_ble_eq_true rfl) ⟨Nat.zero_le _, Nat.zero_le _⟩ dX7_goTo_8 (zr_kiI (fun o4 => ?_))
    exact zr_iret hB rfl rfl dX7_goTo_11

def fX7_in (a1 : Int32) (I : zI) : Option (Int32 × zI) :=
  zb (fX7_isOne a1 I) fun o2 =>
  if o2 = 0 then
    zb (fX7_finding (-1000001) I) fun o10 =>
    some (o10.1, o10.2)
  else
  zg a1 4 (
  zb (fX6_placeInside 1 (I 6 (zn a1)) I) fun o4 =>
  zb (fX7_goTo a1 o4 I) fun o7 =>
  some (o7.1, o7.2))
set_option maxHeartbeats 4000000 in
set_option maxRecDepth 100000 in
theorem mX7_in {l : Launch} {D : va_G} {T : zT} {ad sK sV : Nat → Nat} (hi : zInj ad) (a1 : Int32)  (I : zI) (L : zL) : ∀ o, fX7_in a1 I = some o → zMet l yX7_in cX7_in 2 (some .int) 3 66 D T ad sK sV [.ref (ad 0), .int a1] I L (em_iI L o) := by
  intro o ho
  refine zMet.of hi (by decide +kernel) (Nat.le_of_ble_eq_true rfl) (fun p e s m args below meth c hB => ?_)
  refine zr_top (emb := em_iI L) (t := fX7_in a1 I) ?_ ho
  unfold fX7_in
  refine zr_aload_n hB 0 rfl rfl dX7_in_0 ?_
  refine zr_iload_n hB 1 rfl rfl dX7_in_1 ?_
  refine zr_callV (st := []) (C := RX7) (As := [.int a1]) (embc := em_i0 I L) hB (mX7_isOne (sK := sK) (sV := sV) hi a1 I L) (zW_X7 rfl) rfl rfl lm_X7_109 q2_X7_isOne q3_X7_isOne q4_X7 q5_X7_isOne qd_X7_isOne (by decide) rfl rfl (Nat.le_of_ble_eq_true rfl) ⟨Nat.zero_le _, Nat.zero_le _⟩ dX7_in_2 (zr_ki0 (fun o2 => ?_))
  refine zr_ifne (tgt := 15) hB (by decide) dX7_in_5 ?_ ?_
  · refine zr_aload_n hB 0 rfl rfl dX7_in_15 ?_
    refine zr_iload_n hB 1 rfl rfl dX7_in_16 ?_
    refine zr_aload_n hB 0 rfl rfl dX7_in_17 ?_
    refine zr_get_X7 (w := 0) (k := 0) (v := .ref (ad 1)) hB rfl (by decide) rfl lf_X7_12 rfl dX7_in_18 ?_
    refine zr_aload_n hB 0 rfl rfl dX7_in_21 ?_
    refine zr_get_X7 (w := 0) (k := 0) (v := .ref (ad 1)) hB rfl (by decide) rfl lf_X7_12 rfl dX7_in_22 ?_
    refine zr_get_X6 (w := 1) (k := 9) (v := .ref (ad 6)) hB (Or.inl rfl) (by decide) rfl lf_X7_129 rfl dX7_in_25 ?_
    refine zr_iload_n hB 1 rfl rfl dX7_in_28 ?_
    refine zr_iaload hB zA_6 dX7_in_29 ?_
    refine zr_callV (st := [.int a1, .ref (ad 0)]) (C := RX6) (As := [.int (I 6 (zn a1))]) (embc := em_i0 I L) hB (mX6_placeInside (sK := sK) (sV := sV) hi 1 (I 6 (zn a1)) (Or.inl rfl) I L) (zW_X6 (Or.inl rfl)) rfl rfl lm_X7_132 q2_X6_placeInside q3_X6_placeInside q4_X6 q5_X6_placeInside qd_X6_placeInside (by decide) rfl rfl (Nat.le_of_ble_eq_true rfl) ⟨Nat.zero_le _, Nat.zero_le _⟩ dX7_in_30 (zr_ki0 (fun o4 => ?_))
    refine zr_callV (st := []) (C := RX7) (As := [.int a1, .int o4]) (embc := em_iI L) hB (mX7_goTo (sK := sK) (sV := sV) hi a1 o4 I L) (zW_X7 rfl) rfl rfl lm_X7_135 q2_X7_goTo q3_X7_goTo q4_X7 q5_X7_goTo qd_X7_goTo (by decide) rfl rfl (Nat.le_of_ble_eq_true rfl) ⟨Nat.zero_le _, Nat.zero_le _⟩ dX7_in_33 (zr_kiI (fun o7 => ?_))
    exact zr_iret hB rfl rfl dX7_in_36
  · refine zr_aload_n hB 0 rfl rfl dX7_in_8 ?_
    refine zr_ldc (v := (-1000001)) hB lk_X7_55 dX7_in_9 ?_
    refine zr_callV (st := []) (C := RX7) (As := [.int (-1000001)]) (embc := em_iI L) hB (mX7_finding (sK := sK) (sV := sV) hi (-1000001) I L) (zW_X7 rfl) rfl rfl lm_X7_56 q2_X7_finding q3_X7_finding q4_X7 q5_X7_finding qd_X7_finding (by decide) rfl rfl (Nat.le_of_ble_eq_true rfl) ⟨Nat.zero_le _, Nat.zero_le _⟩ dX7_in_11 (zr_kiI (fun o10 => ?_))
    exact zr_iret hB rfl rfl dX7_in_14

def fX6_placeOutside (w : Nat) (a1 : Int32) (I : zI) : Option (Int32) :=
  zb (
    zbs (
      if (zrem a1 8) = (I w 2) then
        if (a1 / 8) ≤ 0 then
          some (.inr ())
        else
        some (.inl 1)
      else
      some (.inr ())) fun x5 : Unit =>
    some 0) fun x1 : Int32 =>
  if x1 = 0 then
    some (-1)
  else
  some ((((a1 / 8) - 1) * 8) + (I w 1))
set_option maxHeartbeats 4000000 in
set_option maxRecDepth 100000 in
theorem mX6_placeOutside {l : Launch} {D : va_G} {T : zT} {ad sK sV : Nat → Nat} (hi : zInj ad) (w : Nat) (a1 : Int32) (hw : zO_X6 w) (I : zI) (L : zL) : ∀ o, fX6_placeOutside w a1 I = some o → zMet l yX6_placeOutside cX6_placeOutside 3 (some .int) 0 0 D T ad sK sV [.ref (ad w), .int a1] I L (em_i0 I L o) := by
  intro o ho
  refine zMet.of hi (by decide +kernel) (Nat.le_of_ble_eq_true rfl) (fun p e s m args below meth c hB => ?_)
  refine zr_top (emb := em_i0 I L) (t := fX6_placeOutside w a1 I) ?_ ho
  unfold fX6_placeOutside
  refine zr_iload_n hB 1 rfl rfl dX6_placeOutside_0 ?_
  refine zr_bipush (v := 8) hB (by decide) dX6_placeOutside_1 ?_
  refine zr_iremC hB (by decide) dX6_placeOutside_3 ?_
  refine zr_aload_n hB 0 rfl rfl dX6_placeOutside_4 ?_
  refine zr_get_X6 (w := w) (k := 2) (v := .int (I w 2)) hB hw (by decide) rfl lf_X6_49 rfl dX6_placeOutside_5 ?_
  refine zr_join (pcJ := 23) (fun x1 : Int32 => [(0, .ref (ad w)), (1, .int a1)]) (fun x1 => [.int x1]) (fun x1 => I) (fun x1 => L) (fun x1 => ?_) (fun K4 hj2 => ?_)
  · refine zr_istore_n (lv' := [(2, .int x1), (0, .ref (ad w)), (1, .int a1)]) hB rfl (by decide) rfl dX6_placeOutside_23 ?_
    refine zr_iload_n hB 0 rfl rfl dX6_placeOutside_24 ?_
    refine zr_ifeq (tgt := 45) hB (by decide) dX6_placeOutside_25 ?_ ?_
    · refine zr_iconst (v := (-1)) hB (by decide) dX6_placeOutside_45 ?_
      exact zr_iret hB rfl rfl dX6_placeOutside_46
    · refine zr_iload_n hB 2 rfl rfl dX6_placeOutside_28 ?_
      refine zr_bipush (v := 8) hB (by decide) dX6_placeOutside_29 ?_
      refine zr_idivC hB (by decide) dX6_placeOutside_31 ?_
      refine zr_iconst (v := 1) hB (by decide) dX6_placeOutside_32 ?_
      refine zr_isub hB dX6_placeOutside_33 ?_
      refine zr_bipush (v := 8) hB (by decide) dX6_placeOutside_34 ?_
      refine zr_imul hB dX6_placeOutside_36 ?_
      refine zr_aload_n hB 1 rfl rfl dX6_placeOutside_37 ?_
      refine zr_get_X6 (w := w) (k := 1) (v := .int (I w 1)) hB hw (by decide) rfl lf_X6_15 rfl dX6_placeOutside_38 ?_
      refine zr_iadd hB dX6_placeOutside_41 ?_
      refine zr_goto (tgt := 46) hB (by decide) dX6_placeOutside_42 ?_
      exact zr_iret hB rfl rfl dX6_placeOutside_46
  · refine zr_joins (pcJ := 22) (fun x5 : Unit => [(0, .ref (ad w)), (1, .int a1)]) (fun x5 => []) (fun x5 => I) (fun x5 => L) (fun x5 => ?_) (fun K8 hi7 hj6 => ?_)
    · refine zr_iconst (v := 0) hB (by decide) dX6_placeOutside_22 ?_
      exact zr_sub [0, 1] rfl (hj2 0)
    · refine zr_icmp_ne (tgt := 22) hB (by decide) dX6_placeOutside_8 ?_ ?_
      · exact zr_sub [0, 1] rfl (hj6 ())
      · refine zr_iload_n hB 1 rfl rfl dX6_placeOutside_11 ?_
        refine zr_bipush (v := 8) hB (by decide) dX6_placeOutside_12 ?_
        refine zr_idivC hB (by decide) dX6_placeOutside_14 ?_
        refine zr_ifle (tgt := 22) hB (by decide) dX6_placeOutside_15 ?_ ?_
        · exact zr_sub [0, 1] rfl (hj6 ())
        · refine zr_iconst (v := 1) hB (by decide) dX6_placeOutside_18 ?_
          refine zr_goto (tgt := 23) hB (by decide) dX6_placeOutside_19 ?_
          refine hi7 _ _ _ _ _ _ ?_
          exact zr_sub [0, 1] rfl (hj2 1)

def fX7_out (a1 : Int32) (I : zI) : Option (Int32 × zI) :=
  zb (fX7_isOne a1 I) fun o2 =>
  if o2 = 0 then
    zb (fX7_finding (-1000001) I) fun o10 =>
    some (o10.1, o10.2)
  else
  zg a1 4 (
  zb (fX6_placeOutside 1 (I 6 (zn a1)) I) fun o4 =>
  zb (fX7_goTo a1 o4 I) fun o7 =>
  some (o7.1, o7.2))
set_option maxHeartbeats 4000000 in
set_option maxRecDepth 100000 in
theorem mX7_out {l : Launch} {D : va_G} {T : zT} {ad sK sV : Nat → Nat} (hi : zInj ad) (a1 : Int32)  (I : zI) (L : zL) : ∀ o, fX7_out a1 I = some o → zMet l yX7_out cX7_out 2 (some .int) 3 66 D T ad sK sV [.ref (ad 0), .int a1] I L (em_iI L o) := by
  intro o ho
  refine zMet.of hi (by decide +kernel) (Nat.le_of_ble_eq_true rfl) (fun p e s m args below meth c hB => ?_)
  refine zr_top (emb := em_iI L) (t := fX7_out a1 I) ?_ ho
  unfold fX7_out
  refine zr_aload_n hB 0 rfl rfl dX7_out_0 ?_
  refine zr_iload_n hB 1 rfl rfl dX7_out_1 ?_
  refine zr_callV (st := []) (C := RX7) (As := [.int a1]) (embc := em_i0 I L) hB (mX7_isOne (sK := sK) (sV := sV) hi a1 I L) (zW_X7 rfl) rfl rfl lm_X7_109 q2_X7_isOne q3_X7_isOne q4_X7 q5_X7_isOne qd_X7_isOne (by decide) rfl rfl (Nat.le_of_ble_eq_true rfl) ⟨Nat.zero_le _, Nat.zero_le _⟩ dX7_out_2 (zr_ki0 (fun o2 => ?_))
  refine zr_ifne (tgt := 15) hB (by decide) dX7_out_5 ?_ ?_
  · refine zr_aload_n hB 0 rfl rfl dX7_out_15 ?_
    refine zr_iload_n hB 1 rfl rfl dX7_out_16 ?_
    refine zr_aload_n hB 0 rfl rfl dX7_out_17 ?_
    refine zr_get_X7 (w := 0) (k := 0) (v := .ref (ad 1)) hB rfl (by decide) rfl lf_X7_12 rfl dX7_out_18 ?_
    refine zr_aload_n hB 0 rfl rfl dX7_out_21 ?_
    refine zr_get_X7 (w := 0) (k := 0) (v := .ref (ad 1)) hB rfl (by decide) rfl lf_X7_12 rfl dX7_out_22 ?_
    refine zr_get_X6 (w := 1) (k := 9) (v := .ref (ad 6)) hB (Or.inl rfl) (by decide) rfl lf_X7_129 rfl dX7_out_25 ?_
    refine zr_iload_n hB 1 rfl rfl dX7_out_28 ?_
    refine zr_iaload hB zA_6 dX7_out_29 ?_
    refine zr_callV (st := [.int a1, .ref (ad 0)]) (C := RX6) (As := [.int (I 6 (zn a1))]) (embc := em_i0 I L) hB (mX6_placeOutside (sK := sK) (sV := sV) hi 1 (I 6 (zn a1)) (Or.inl rfl) I L) (zW_X6 (Or.inl rfl)) rfl rfl lm_X7_138 q2_X6_placeOutside q3_X6_placeOutside q4_X6 q5_X6_placeOutside qd_X6_placeOutside (by decide) rfl rfl (Nat.le_of_ble_eq_true rfl) ⟨Nat.zero_le _, Nat.zero_le _⟩ dX7_out_30 (zr_ki0 (fun o4 => ?_))
    refine zr_callV (st := []) (C := RX7) (As := [.int a1, .int o4]) (embc := em_iI L) hB (mX7_goTo (sK := sK) (sV := sV) hi a1 o4 I L) (zW_X7 rfl) rfl rfl lm_X7_135 q2_X7_goTo q3_X7_goTo q4_X7 q5_X7_goTo qd_X7_goTo (by decide) rfl rfl (Nat.le_of_ble_eq_true rfl) ⟨Nat.zero_le _, Nat.zero_le _⟩ dX7_out_33 (zr_kiI (fun o7 => ?_))
    exact zr_iret hB rfl rfl dX7_out_36
  · refine zr_aload_n hB 0 rfl rfl dX7_out_8 ?_
    refine zr_ldc (v := (-1000001)) hB lk_X7_55 dX7_out_9 ?_
    refine zr_callV (st := []) (C := RX7) (As := [.int (-1000001)]) (embc := em_iI L) hB (mX7_finding (sK := sK) (sV := sV) hi (-1000001) I L) (zW_X7 rfl) rfl rfl lm_X7_56 q2_X7_finding q3_X7_finding q4_X7 q5_X7_finding qd_X7_finding (by decide) rfl rfl (Nat.le_of_ble_eq_true rfl) ⟨Nat.zero_le _, Nat.zero_le _⟩ dX7_out_11 (zr_kiI (fun o10 => ?_))
    exact zr_iret hB rfl rfl dX7_out_14

def fX6_canCarry (w : Nat) (a1 : Int32) (a2 : Int32) (I : zI) : Option (Int32) :=
  zg a2 8 (
  zb (fX6_roomOf w a1 I) fun o2 =>
  if (I (w + 3) (zn a2)) = o2 then
    zb (fX6_levelOf w a1 I) fun o4 =>
    zb (fX6_weightIn w a2 o4 I) fun o6 =>
    zg a1 4 (
    if (I (w + 6) (zn a1)) < o6 then
      some 0
    else
    some 1)
  else
  some 0)
set_option maxHeartbeats 4000000 in
set_option maxRecDepth 100000 in
theorem mX6_canCarry {l : Launch} {D : va_G} {T : zT} {ad sK sV : Nat → Nat} (hi : zInj ad) (w : Nat) (a1 : Int32) (a2 : Int32) (hw : zO_X6 w) (I : zI) (L : zL) : ∀ o, fX6_canCarry w a1 a2 I = some o → zMet l yX6_canCarry cX6_canCarry 3 (some .boolean) 2 45 D T ad sK sV [.ref (ad w), .int a1, .int a2] I L (em_i0 I L o) := by
  intro o ho
  refine zMet.of hi (by decide +kernel) (Nat.le_of_ble_eq_true rfl) (fun p e s m args below meth c hB => ?_)
  refine zr_top (emb := em_i0 I L) (t := fX6_canCarry w a1 a2 I) ?_ ho
  unfold fX6_canCarry
  refine zr_aload_n hB 0 rfl rfl dX6_canCarry_0 ?_
  refine zr_get_X6 (w := w) (k := 6) (v := .ref (ad (w + 3))) hB hw (by decide) rfl lf_X6_22 rfl dX6_canCarry_1 ?_
  refine zr_iload_n hB 2 rfl rfl dX6_canCarry_4 ?_
  refine zr_iaload hB (zA_X6_3 hw) dX6_canCarry_5 ?_
  refine zr_aload_n hB 0 rfl rfl dX6_canCarry_6 ?_
  refine zr_iload_n hB 1 rfl rfl dX6_canCarry_7 ?_
  refine zr_callV (st := [.int (I (w + 3) (zn a2))]) (C := RX6) (As := [.int a1]) (embc := em_i0 I L) hB (mX6_roomOf (sK := sK) (sV := sV) hi w a1 hw I L) (zW_X6 hw) rfl rfl lm_X6_92 q2_X6_roomOf q3_X6_roomOf q4_X6 q5_X6_roomOf qd_X6_roomOf (by decide) rfl rfl (Nat.le_of_ble_eq_true rfl) ⟨Nat.zero_le _, Nat.zero_le _⟩ dX6_canCarry_8 (zr_ki0 (fun o2 => ?_))
  refine zr_icmp_ne (tgt := 37) hB (by decide) dX6_canCarry_11 ?_ ?_
  · refine zr_iconst (v := 0) hB (by decide) dX6_canCarry_37 ?_
    exact zr_zretC (by decide) hB rfl rfl dX6_canCarry_38
  · refine zr_aload_n hB 0 rfl rfl dX6_canCarry_14 ?_
    refine zr_iload_n hB 2 rfl rfl dX6_canCarry_15 ?_
    refine zr_aload_n hB 0 rfl rfl dX6_canCarry_16 ?_
    refine zr_iload_n hB 1 rfl rfl dX6_canCarry_17 ?_
    refine zr_callV (st := [.int a2, .ref (ad w)]) (C := RX6) (As := [.int a1]) (embc := em_i0 I L) hB (mX6_levelOf (sK := sK) (sV := sV) hi w a1 hw I L) (zW_X6 hw) rfl rfl lm_X6_84 q2_X6_levelOf q3_X6_levelOf q4_X6 q5_X6_levelOf qd_X6_levelOf (by decide) rfl rfl (Nat.le_of_ble_eq_true rfl) ⟨Nat.zero_le _, Nat.zero_le _⟩ dX6_canCarry_18 (zr_ki0 (fun o4 => ?_))
    refine zr_callV (st := []) (C := RX6) (As := [.int a2, .int o4]) (embc := em_i0 I L) hB (mX6_weightIn (sK := sK) (sV := sV) hi w a2 o4 hw I L) (zW_X6 hw) rfl rfl lm_X6_80 q2_X6_weightIn q3_X6_weightIn q4_X6 q5_X6_weightIn qd_X6_weightIn (by decide) rfl rfl (Nat.le_of_ble_eq_true rfl) ⟨Nat.zero_le _, Nat.zero_le _⟩ dX6_canCarry_21 (zr_ki0 (fun o6 => ?_))
    refine zr_aload_n hB 0 rfl rfl dX6_canCarry_24 ?_
    refine zr_get_X6 (w := w) (k := 10) (v := .ref (ad (w + 6))) hB hw (by decide) rfl lf_X6_31 rfl dX6_canCarry_25 ?_
    refine zr_iload_n hB 1 rfl rfl dX6_canCarry_28 ?_
    refine zr_iaload hB (zA_X6_6 hw) dX6_canCarry_29 ?_
    refine zr_icmp_gt (tgt := 37) hB (by decide) dX6_canCarry_30 ?_ ?_
    · refine zr_iconst (v := 0) hB (by decide) dX6_canCarry_37 ?_
      exact zr_zretC (by decide) hB rfl rfl dX6_canCarry_38
    · refine zr_iconst (v := 1) hB (by decide) dX6_canCarry_33 ?_
      refine zr_goto (tgt := 38) hB (by decide) dX6_canCarry_34 ?_
      exact zr_zretC (by decide) hB rfl rfl dX6_canCarry_38

def fX6_enter (w : Nat) (a1 : Int32) (a2 : Int32) (a3 : Int32) (a4 : Int32) (a5 : Int32) (I : zI) : Option (zI) :=
  zgc 0 5 55 60 60 (
  zl (zset I (w + 7) (va_cpy (I (w + 7)) (I (w + 7)) (zn 0) (zn 5) (zn 55))) fun J1 =>
  zg 0 60 (
  zl (zup J1 (w + 7) (zn 0) a1) fun J2 =>
  zg 1 60 (
  zl (zup J2 (w + 7) (zn 1) a2) fun J3 =>
  zg 2 60 (
  zl (zup J3 (w + 7) (zn 2) a3) fun J4 =>
  zg 3 60 (
  zl (zup J4 (w + 7) (zn 3) a4) fun J5 =>
  zg 4 60 (
  zl (zup J5 (w + 7) (zn 4) a5) fun J6 =>
  if 12 ≤ (J6 w 13) then
    zl (zup J6 w 11 ((J6 w 11) + 1)) fun J7 =>
    zl (zup J7 w 12 ((J7 w 12) + a5)) fun J8 =>
    some J8
  else
  zl (zup J6 w 13 ((J6 w 13) + 1)) fun J9 =>
  zl (zup J9 w 11 ((J9 w 11) + 1)) fun J10 =>
  zl (zup J10 w 12 ((J10 w 12) + a5)) fun J11 =>
  some J11))))))
set_option maxHeartbeats 4000000 in
set_option maxRecDepth 100000 in
theorem mX6_enter {l : Launch} {D : va_G} {T : zT} {ad sK sV : Nat → Nat} (hi : zInj ad) (w : Nat) (a1 : Int32) (a2 : Int32) (a3 : Int32) (a4 : Int32) (a5 : Int32) (hw : zO_X6 w) (I : zI) (L : zL) : ∀ o, fX6_enter w a1 a2 a3 a4 a5 I = some o → zMet l yX6_enter cX6_enter 6 none 1 40 D T ad sK sV [.ref (ad w), .int a1, .int a2, .int a3, .int a4, .int a5] I L (em_vI L o) := by
  intro o ho
  refine zMet.of hi (by decide +kernel) (Nat.le_of_ble_eq_true rfl) (fun p e s m args below meth c hB => ?_)
  refine zr_top (emb := em_vI L) (t := fX6_enter w a1 a2 a3 a4 a5 I) ?_ ho
  unfold fX6_enter
  refine zr_aload_n hB 0 rfl rfl dX6_enter_0 ?_
  refine zr_get_X6 (w := w) (k := 14) (v := .ref (ad (w + 7))) hB hw (by decide) rfl lf_X6_34 rfl dX6_enter_1 ?_
  refine zr_iconst (v := 0) hB (by decide) dX6_enter_4 ?_
  refine zr_aload_n hB 0 rfl rfl dX6_enter_5 ?_
  refine zr_get_X6 (w := w) (k := 14) (v := .ref (ad (w + 7))) hB hw (by decide) rfl lf_X6_34 rfl dX6_enter_6 ?_
  refine zr_iconst (v := 5) hB (by decide) dX6_enter_9 ?_
  refine zr_bipush (v := 55) hB (by decide) dX6_enter_10 ?_
  refine zr_copy hB (zA_X6_7 hw) (zA_X6_7 hw) (by decide) (by decide) (Nat.le_of_ble_eq_true rfl) lm_X6_43 dX6_enter_12 ?_
  refine zr_letM (fun J1 => ?_)
  refine zr_aload_n hB 0 rfl rfl dX6_enter_15 ?_
  refine zr_get_X6 (w := w) (k := 14) (v := .ref (ad (w + 7))) hB hw (by decide) rfl lf_X6_34 rfl dX6_enter_16 ?_
  refine zr_iconst (v := 0) hB (by decide) dX6_enter_19 ?_
  refine zr_iload_n hB 1 rfl rfl dX6_enter_20 ?_
  refine zr_iastore hB (zA_X6_7 hw) dX6_enter_21 ?_
  refine zr_letM (fun J2 => ?_)
  refine zr_aload_n hB 0 rfl rfl dX6_enter_22 ?_
  refine zr_get_X6 (w := w) (k := 14) (v := .ref (ad (w + 7))) hB hw (by decide) rfl lf_X6_34 rfl dX6_enter_23 ?_
  refine zr_iconst (v := 1) hB (by decide) dX6_enter_26 ?_
  refine zr_iload_n hB 2 rfl rfl dX6_enter_27 ?_
  refine zr_iastore hB (zA_X6_7 hw) dX6_enter_28 ?_
  refine zr_letM (fun J3 => ?_)
  refine zr_aload_n hB 0 rfl rfl dX6_enter_29 ?_
  refine zr_get_X6 (w := w) (k := 14) (v := .ref (ad (w + 7))) hB hw (by decide) rfl lf_X6_34 rfl dX6_enter_30 ?_
  refine zr_iconst (v := 2) hB (by decide) dX6_enter_33 ?_
  refine zr_iload_n hB 3 rfl rfl dX6_enter_34 ?_
  refine zr_iastore hB (zA_X6_7 hw) dX6_enter_35 ?_
  refine zr_letM (fun J4 => ?_)
  refine zr_aload_n hB 0 rfl rfl dX6_enter_36 ?_
  refine zr_get_X6 (w := w) (k := 14) (v := .ref (ad (w + 7))) hB hw (by decide) rfl lf_X6_34 rfl dX6_enter_37 ?_
  refine zr_iconst (v := 3) hB (by decide) dX6_enter_40 ?_
  refine zr_iload hB 4 rfl dX6_enter_41 ?_
  refine zr_iastore hB (zA_X6_7 hw) dX6_enter_43 ?_
  refine zr_letM (fun J5 => ?_)
  refine zr_aload_n hB 0 rfl rfl dX6_enter_44 ?_
  refine zr_get_X6 (w := w) (k := 14) (v := .ref (ad (w + 7))) hB hw (by decide) rfl lf_X6_34 rfl dX6_enter_45 ?_
  refine zr_iconst (v := 4) hB (by decide) dX6_enter_48 ?_
  refine zr_iload hB 5 rfl dX6_enter_49 ?_
  refine zr_iastore hB (zA_X6_7 hw) dX6_enter_51 ?_
  refine zr_letM (fun J6 => ?_)
  refine zr_aload_n hB 0 rfl rfl dX6_enter_52 ?_
  refine zr_get_X6 (w := w) (k := 13) (v := .int (J6 w 13)) hB hw (by decide) rfl lf_X6_67 rfl dX6_enter_53 ?_
  refine zr_bipush (v := 12) hB (by decide) dX6_enter_56 ?_
  refine zr_icmp_ge (tgt := 71) hB (by decide) dX6_enter_58 ?_ ?_
  · refine zr_aload_n hB 0 rfl rfl dX6_enter_71 ?_
    refine zr_dup hB rfl dX6_enter_72 ?_
    refine zr_get_X6 (w := w) (k := 11) (v := .int (J6 w 11)) hB hw (by decide) rfl lf_X6_61 rfl dX6_enter_73 ?_
    refine zr_iconst (v := 1) hB (by decide) dX6_enter_76 ?_
    refine zr_iadd hB dX6_enter_77 ?_
    refine zr_put_X6 (w := w) (k := 11) hB hw (by decide) rfl rfl rfl lf_X6_61 rfl dX6_enter_78 ?_
    refine zr_letM (fun J7 => ?_)
    refine zr_aload_n hB 0 rfl rfl dX6_enter_81 ?_
    refine zr_dup hB rfl dX6_enter_82 ?_
    refine zr_get_X6 (w := w) (k := 12) (v := .int (J7 w 12)) hB hw (by decide) rfl lf_X6_64 rfl dX6_enter_83 ?_
    refine zr_iload hB 5 rfl dX6_enter_86 ?_
    refine zr_iadd hB dX6_enter_88 ?_
    refine zr_put_X6 (w := w) (k := 12) hB hw (by decide) rfl rfl rfl lf_X6_64 rfl dX6_enter_89 ?_
    refine zr_letM (fun J8 => ?_)
    exact zr_vret hB rfl rfl dX6_enter_92
  · refine zr_aload_n hB 0 rfl rfl dX6_enter_61 ?_
    refine zr_dup hB rfl dX6_enter_62 ?_
    refine zr_get_X6 (w := w) (k := 13) (v := .int (J6 w 13)) hB hw (by decide) rfl lf_X6_67 rfl dX6_enter_63 ?_
    refine zr_iconst (v := 1) hB (by decide) dX6_enter_66 ?_
    refine zr_iadd hB dX6_enter_67 ?_
    refine zr_put_X6 (w := w) (k := 13) hB hw (by decide) rfl rfl rfl lf_X6_67 rfl dX6_enter_68 ?_
    refine zr_letM (fun J9 => ?_)
    refine zr_aload_n hB 0 rfl rfl dX6_enter_71 ?_
    refine zr_dup hB rfl dX6_enter_72 ?_
    refine zr_get_X6 (w := w) (k := 11) (v := .int (J9 w 11)) hB hw (by decide) rfl lf_X6_61 rfl dX6_enter_73 ?_
    refine zr_iconst (v := 1) hB (by decide) dX6_enter_76 ?_
    refine zr_iadd hB dX6_enter_77 ?_
    refine zr_put_X6 (w := w) (k := 11) hB hw (by decide) rfl rfl rfl lf_X6_61 rfl dX6_enter_78 ?_
    refine zr_letM (fun J10 => ?_)
    refine zr_aload_n hB 0 rfl rfl dX6_enter_81 ?_
    refine zr_dup hB rfl dX6_enter_82 ?_
    refine zr_get_X6 (w := w) (k := 12) (v := .int (J10 w 12)) hB hw (by decide) rfl lf_X6_64 rfl dX6_enter_83 ?_
    refine zr_iload hB 5 rfl dX6_enter_86 ?_
    refine zr_iadd hB dX6_enter_88 ?_
    refine zr_put_X6 (w := w) (k := 12) hB hw (by decide) rfl rfl rfl lf_X6_64 rfl dX6_enter_89 ?_
    refine zr_letM (fun J11 => ?_)
    exact zr_vret hB rfl rfl dX6_enter_92

def gX6_standingIn_4 (w : Nat) (a1 : Int32) (I : zI) (s1 : Int32 × Int32) : Option ((Int32 × Int32) ⊕ (Int32)) :=
  if (I w 8) ≤ s1.2 then
    some (.inr s1.1)
  else
  zb (fX6_roomOf w s1.2 I) fun o11 =>
  if o11 = a1 then
    zl (s1.1 + 1) fun v13 =>
    zl (s1.2 + 1) fun v14 =>
    some (.inl (v13, v14))
  else
  zl (s1.2 + 1) fun v12 =>
  some (.inl (s1.1, v12))
def fX6_standingIn (n : Nat) (w : Nat) (a1 : Int32) (I : zI) : Option (Int32) :=
  zb (zit (gX6_standingIn_4 w a1 I) n (0, 0)) fun x2 : Int32 =>
  some x2
set_option maxHeartbeats 4000000 in
set_option maxRecDepth 100000 in
theorem mX6_standingIn {l : Launch} {D : va_G} {T : zT} {ad sK sV : Nat → Nat} (hi : zInj ad) (n : Nat) (w : Nat) (a1 : Int32) (hw : zO_X6 w) (I : zI) (L : zL) : ∀ o, fX6_standingIn n w a1 I = some o → zMet l yX6_standingIn cX6_standingIn 4 (some .int) 1 21 D T ad sK sV [.ref (ad w), .int a1] I L (em_i0 I L o) := by
  intro o ho
  refine zMet.of hi (by decide +kernel) (Nat.le_of_ble_eq_true rfl) (fun p e s m args below meth c hB => ?_)
  refine zr_top (emb := em_i0 I L) (t := fX6_standingIn n w a1 I) ?_ ho
  unfold fX6_standingIn
  refine zr_iconst (v := 0) hB (by decide) dX6_standingIn_0 ?_
  refine zr_istore_n (lv' := [(2, .int 0), (0, .ref (ad w)), (1, .int a1)]) hB rfl (by decide) rfl dX6_standingIn_1 ?_
  refine zr_iconst (v := 0) hB (by decide) dX6_standingIn_2 ?_
  refine zr_istore_n (lv' := [(3, .int 0), (2, .int 0), (0, .ref (ad w)), (1, .int a1)]) hB rfl (by decide) rfl dX6_standingIn_3 ?_
  refine zr_join (pcJ := 30) (fun x2 : Int32 => [(2, .int x2)]) (fun _ => []) (fun x2 => I) (fun x2 => L) (fun x2 => ?_) (fun K8 hx7 => ?_)
  · refine zr_iload_n hB 0 rfl rfl dX6_standingIn_30 ?_
    exact zr_iret hB rfl rfl dX6_standingIn_31
  · refine zr_sub (lv' := (fun s1 : Int32 × Int32 => [(2, .int s1.1), (3, .int s1.2), (0, .ref (ad w)), (1, .int a1)]) (0, 0)) [1, 0, 2, 3] rfl (zr_loop (fun s1 : Int32 × Int32 => [(2, .int s1.1), (3, .int s1.2), (0, .ref (ad w)), (1, .int a1)]) (fun s1 => I) (fun s1 => L) (fun x2 : Int32 => [(2, .int x2)]) (fun x2 => I) (fun x2 => L) hx7 (fun s1 K9 hc3 hx4 => ?_) n (0, 0))
    unfold gX6_standingIn_4
    refine zr_iload_n hB 1 rfl rfl dX6_standingIn_4 ?_
    refine zr_aload_n hB 2 rfl rfl dX6_standingIn_5 ?_
    refine zr_get_X6 (w := w) (k := 8) (v := .int (I w 8)) hB hw (by decide) rfl lf_X6_58 rfl dX6_standingIn_6 ?_
    refine zr_icmp_ge (tgt := 30) hB (by decide) dX6_standingIn_9 ?_ ?_
    · exact zr_sub [0] rfl (hx4 s1.1)
    · refine zr_aload_n hB 2 rfl rfl dX6_standingIn_12 ?_
      refine zr_iload_n hB 1 rfl rfl dX6_standingIn_13 ?_
      refine zr_callV (st := []) (C := RX6) (As := [.int s1.2]) (embc := em_i0 I L) hB (mX6_roomOf (sK := sK) (sV := sV) hi w s1.2 hw I L) (zW_X6 hw) rfl rfl lm_X6_92 q2_X6_roomOf q3_X6_roomOf q4_X6 q5_X6_roomOf qd_X6_roomOf (by decide) rfl rfl (Nat.le_of_ble_eq_true rfl) ⟨Nat.zero_le _, Nat.zero_le _⟩ dX6_standingIn_14 (zr_ki0 (fun o11 => ?_))
      refine zr_iload_n hB 3 rfl rfl dX6_standingIn_17 ?_
      refine zr_icmp_ne (tgt := 24) hB (by decide) dX6_standingIn_18 ?_ ?_
      · refine zr_iincL hB (j := 1) (n := 1) (w := 1) rfl (by decide) (by decide) dX6_standingIn_24 (fun v12 lv' hlv => ?_)
        obtain rfl : lv' = [(3, .int v12), (2, .int s1.1), (0, .ref (ad w)), (1, .int a1)] := hlv.symm.trans rfl
        refine zr_goto (tgt := 4) hB (by decide) dX6_standingIn_27 ?_
        exact zr_sub [1, 0, 2, 3] rfl (hc3 (s1.1, v12))
      · refine zr_iincL hB (j := 0) (n := 1) (w := 1) rfl (by decide) (by decide) dX6_standingIn_21 (fun v13 lv' hlv => ?_)
        obtain rfl : lv' = [(2, .int v13), (3, .int s1.2), (0, .ref (ad w)), (1, .int a1)] := hlv.symm.trans rfl
        refine zr_iincL hB (j := 1) (n := 1) (w := 1) rfl (by decide) (by decide) dX6_standingIn_24 (fun v14 lv' hlv => ?_)
        obtain rfl : lv' = [(3, .int v14), (2, .int v13), (0, .ref (ad w)), (1, .int a1)] := hlv.symm.trans rfl
        refine zr_goto (tgt := 4) hB (by decide) dX6_standingIn_27 ?_
        exact zr_sub [1, 0, 2, 3] rfl (hc3 (v13, v14))

def fX6_carryOver (n : Nat) (w : Nat) (a1 : Int32) (a2 : Int32) (a3 : Int32) (I : zI) : Option (Int32 × zI) :=
  zg a2 8 (
  zl (I (w + 3) (zn a2)) fun v1 =>
  zb (fX6_moveTo w a1 a3 I) fun o4 =>
  zg a2 8 (
  zl (zup o4 (w + 3) (zn a2) a3) fun J5 =>
  zb (fX6_standingIn n w a3 J5) fun o7 =>
  zl (o7 - 1) fun v8 =>
  zb (fX6_enter w a1 a2 v1 a3 v8 J5) fun o11 =>
  some (v8, o11)))
set_option maxHeartbeats 4000000 in
set_option maxRecDepth 100000 in
theorem mX6_carryOver {l : Launch} {D : va_G} {T : zT} {ad sK sV : Nat → Nat} (hi : zInj ad) (n : Nat) (w : Nat) (a1 : Int32) (a2 : Int32) (a3 : Int32) (hw : zO_X6 w) (I : zI) (L : zL) : ∀ o, fX6_carryOver n w a1 a2 a3 I = some o → zMet l yX6_carryOver cX6_carryOver 6 (some .int) 2 65 D T ad sK sV [.ref (ad w), .int a1, .int a2, .int a3] I L (em_iI L o) := by
  intro o ho
  refine zMet.of hi (by decide +kernel) (Nat.le_of_ble_eq_true rfl) (fun p e s m args below meth c hB => ?_)
  refine zr_top (emb := em_iI L) (t := fX6_carryOver n w a1 a2 a3 I) ?_ ho
  unfold fX6_carryOver
  refine zr_aload_n hB 0 rfl rfl dX6_carryOver_0 ?_
  refine zr_get_X6 (w := w) (k := 6) (v := .ref (ad (w + 3))) hB hw (by decide) rfl lf_X6_22 rfl dX6_carryOver_1 ?_
  refine zr_iload_n hB 2 rfl rfl dX6_carryOver_4 ?_
  refine zr_iaload hB (zA_X6_3 hw) dX6_carryOver_5 ?_
  refine zr_letI (fun v1 => ?_)
  refine zr_istore (lv' := [(4, .int v1), (0, .ref (ad w)), (1, .int a1), (2, .int a2), (3, .int a3)]) hB (by decide) rfl dX6_carryOver_6 ?_
  refine zr_aload_n hB 1 rfl rfl dX6_carryOver_8 ?_
  refine zr_iload_n hB 2 rfl rfl dX6_carryOver_9 ?_
  refine zr_iload_n hB 4 rfl rfl dX6_carryOver_10 ?_
  refine zr_callV (st := []) (C := RX6) (As := [.int a1, .int a3]) (embc := em_vI L) hB (mX6_moveTo (sK := sK) (sV := sV) hi w a1 a3 hw I L) (zW_X6 hw) rfl rfl lm_X6_95 q2_X6_moveTo q3_X6_moveTo q4_X6 q5_X6_moveTo qd_X6_moveTo (by decide) rfl rfl (Nat.le_of_ble_eq_true rfl) ⟨Nat.zero_le _, Nat.zero_le _⟩ dX6_carryOver_11 (zr_kvI (fun o4 => ?_))
  refine zr_aload_n hB 1 rfl rfl dX6_carryOver_14 ?_
  refine zr_get_X6 (w := w) (k := 6) (v := .ref (ad (w + 3))) hB hw (by decide) rfl lf_X6_22 rfl dX6_carryOver_15 ?_
  refine zr_iload_n hB 3 rfl rfl dX6_carryOver_18 ?_
  refine zr_iload_n hB 4 rfl rfl dX6_carryOver_19 ?_
  refine zr_iastore hB (zA_X6_3 hw) dX6_carryOver_20 ?_
  refine zr_letM (fun J5 => ?_)
  refine zr_aload_n hB 1 rfl rfl dX6_carryOver_21 ?_
  refine zr_iload_n hB 4 rfl rfl dX6_carryOver_22 ?_
  refine zr_callV (st := []) (C := RX6) (As := [.int a3]) (embc := em_i0 J5 L) hB (mX6_standingIn (sK := sK) (sV := sV) hi n w a3 hw J5 L) (zW_X6 hw) rfl rfl lm_X6_99 q2_X6_standingIn q3_X6_standingIn q4_X6 q5_X6_standingIn qd_X6_standingIn (by decide) rfl rfl (Nat.le_of_ble_eq_true rfl) ⟨Nat.zero_le _, Nat.zero_le _⟩ dX6_carryOver_23 (zr_ki0 (fun o7 => ?_))
  refine zr_iconst (v := 1) hB (by decide) dX6_carryOver_26 ?_
  refine zr_isub hB dX6_carryOver_27 ?_
  refine zr_letI (fun v8 => ?_)
  refine zr_istore (lv' := [(5, .int v8), (4, .int v1), (0, .ref (ad w)), (1, .int a1), (2, .int a2), (3, .int a3)]) hB (by decide) rfl dX6_carryOver_28 ?_
  refine zr_aload_n hB 2 rfl rfl dX6_carryOver_30 ?_
  refine zr_iload_n hB 3 rfl rfl dX6_carryOver_31 ?_
  refine zr_iload_n hB 4 rfl rfl dX6_carryOver_32 ?_
  refine zr_iload hB 1 rfl dX6_carryOver_33 ?_
  refine zr_iload_n hB 5 rfl rfl dX6_carryOver_35 ?_
  refine zr_iload hB 0 rfl dX6_carryOver_36 ?_
  refine zr_callV (st := []) (C := RX6) (As := [.int a1, .int a2, .int v1, .int a3, .int v8]) (embc := em_vI L) hB (mX6_enter (sK := sK) (sV := sV) hi w a1 a2 v1 a3 v8 hw J5 L) (zW_X6 hw) rfl rfl lm_X6_102 q2_X6_enter q3_X6_enter q4_X6 q5_X6_enter qd_X6_enter (by decide) rfl rfl (Nat.le_of_ble_eq_true rfl) ⟨Nat.zero_le _, Nat.zero_le _⟩ dX6_carryOver_38 (zr_kvI (fun o11 => ?_))
  refine zr_iload hB 0 rfl dX6_carryOver_41 ?_
  exact zr_iret hB rfl rfl dX6_carryOver_43

def fX7_carry (n : Nat) (a1 : Int32) (a2 : Int32) (a3 : Int32) (I : zI) : Option (Int32 × zI) :=
  zb (fX7_isOne a1 I) fun o2 =>
  if o2 = 0 then
    zb (fX7_finding (-1000001) I) fun o5 =>
    some (o5.1, o5.2)
  else
  zb (fX7_isThing a2 I) fun o7 =>
  if o7 = 0 then
    zb (fX7_finding (-1000001) I) fun o10 =>
    some (o10.1, o10.2)
  else
  zb (fX7_isRoom a3) fun o12 =>
  if o12 = 0 then
    zb (fX7_finding (-1000001) I) fun o30 =>
    some (o30.1, o30.2)
  else
  zb (fX6_canCarry 1 a1 a2 I) fun o14 =>
  if o14 = 0 then
    zb (fX7_finding (-1000005) I) fun o17 =>
    some (o17.1, o17.2)
  else
  zb (fX6_roomOf 1 a1 I) fun o19 =>
  zb (fX6_isOpen 1 o19 a3 I) fun o21 =>
  if o21 = 0 then
    zb (fX7_finding (-1000005) I) fun o27 =>
    some (o27.1, o27.2)
  else
  zb (fX6_carryOver n 1 a1 a2 a3 I) fun o24 =>
  some (o24.1, o24.2)
set_option maxHeartbeats 4000000 in
set_option maxRecDepth 100000 in
theorem mX7_carry {l : Launch} {D : va_G} {T : zT} {ad sK sV : Nat → Nat} (hi : zInj ad) (n : Nat) (a1 : Int32) (a2 : Int32) (a3 : Int32)  (I : zI) (L : zL) : ∀ o, fX7_carry n a1 a2 a3 I = some o → zMet l yX7_carry cX7_carry 4 (some .int) 3 90 D T ad sK sV [.ref (ad 0), .int a1, .int a2, .int a3] I L (em_iI L o) := by
  intro o ho
  refine zMet.of hi (by decide +kernel) (Nat.le_of_ble_eq_true rfl) (fun p e s m args below meth c hB => ?_)
  refine zr_top (emb := em_iI L) (t := fX7_carry n a1 a2 a3 I) ?_ ho
  unfold fX7_carry
  refine zr_aload_n hB 0 rfl rfl dX7_carry_0 ?_
  refine zr_iload_n hB 1 rfl rfl dX7_carry_1 ?_
  refine zr_callV (st := []) (C := RX7) (As := [.int a1]) (embc := em_i0 I L) hB (mX7_isOne (sK := sK) (sV := sV) hi a1 I L) (zW_X7 rfl) rfl rfl lm_X7_109 q2_X7_isOne q3_X7_isOne q4_X7 q5_X7_isOne qd_X7_isOne (by decide) rfl rfl (Nat.le_of_ble_eq_true rfl) ⟨Nat.zero_le _, Nat.zero_le _⟩ dX7_carry_2 (zr_ki0 (fun o2 => ?_))
  refine zr_ifeq (tgt := 23) hB (by decide) dX7_carry_5 ?_ ?_
  · refine zr_aload_n hB 0 rfl rfl dX7_carry_23 ?_
    refine zr_ldc (v := (-1000001)) hB lk_X7_55 dX7_carry_24 ?_
    refine zr_callV (st := []) (C := RX7) (As := [.int (-1000001)]) (embc := em_iI L) hB (mX7_finding (sK := sK) (sV := sV) hi (-1000001) I L) (zW_X7 rfl) rfl rfl lm_X7_56 q2_X7_finding q3_X7_finding q4_X7 q5_X7_finding qd_X7_finding (by decide) rfl rfl (Nat.le_of_ble_eq_true rfl) ⟨Nat.zero_le _, Nat.zero_le _⟩ dX7_carry_26 (zr_kiI (fun o5 => ?_))
    exact zr_iret hB rfl rfl dX7_carry_29
  · refine zr_aload_n hB 0 rfl rfl dX7_carry_8 ?_
    refine zr_iload_n hB 2 rfl rfl dX7_carry_9 ?_
    refine zr_callV (st := []) (C := RX7) (As := [.int a2]) (embc := em_i0 I L) hB (mX7_isThing (sK := sK) (sV := sV) hi a2 I L) (zW_X7 rfl) rfl rfl lm_X7_84 q2_X7_isThing q3_X7_isThing q4_X7 q5_X7_isThing qd_X7_isThing (by decide) rfl rfl (Nat.le_of_ble_eq_true rfl) ⟨Nat.zero_le _, Nat.zero_le _⟩ dX7_carry_10 (zr_ki0 (fun o7 => ?_))
    refine zr_ifeq (tgt := 23) hB (by decide) dX7_carry_13 ?_ ?_
    · refine zr_aload_n hB 0 rfl rfl dX7_carry_23 ?_
      refine zr_ldc (v := (-1000001)) hB lk_X7_55 dX7_carry_24 ?_
      refine zr_callV (st := []) (C := RX7) (As := [.int (-1000001)]) (embc := em_iI L) hB (mX7_finding (sK := sK) (sV := sV) hi (-1000001) I L) (zW_X7 rfl) rfl rfl lm_X7_56 q2_X7_finding q3_X7_finding q4_X7 q5_X7_finding qd_X7_finding (by decide) rfl rfl (Nat.le_of_ble_eq_true rfl) ⟨Nat.zero_le _, Nat.zero_le _⟩ dX7_carry_26 (zr_kiI (fun o10 => ?_))
      exact zr_iret hB rfl rfl dX7_carry_29
    · refine zr_iload_n hB 3 rfl rfl dX7_carry_16 ?_
      refine zr_callS (st := []) (As := [.int a3]) (embc := em_i0 I L) hB (mX7_isRoom (sK := sK) (sV := sV) hi a3 I L) lm_X7_47 q2_X7_isRoom q4_X7 q5_X7_isRoom qd_X7_isRoom (by decide) rfl rfl (Nat.le_of_ble_eq_true rfl) ⟨Nat.zero_le _, Nat.zero_le _⟩ dX7_carry_17 (zr_ki0 (fun o12 => ?_))
      refine zr_ifne (tgt := 30) hB (by decide) dX7_carry_20 ?_ ?_
      · refine zr_aload_n hB 0 rfl rfl dX7_carry_30 ?_
        refine zr_get_X7 (w := 0) (k := 0) (v := .ref (ad 1)) hB rfl (by decide) rfl lf_X7_12 rfl dX7_carry_31 ?_
        refine zr_iload_n hB 1 rfl rfl dX7_carry_34 ?_
        refine zr_iload_n hB 2 rfl rfl dX7_carry_35 ?_
        refine zr_callV (st := []) (C := RX6) (As := [.int a1, .int a2]) (embc := em_i0 I L) hB (mX6_canCarry (sK := sK) (sV := sV) hi 1 a1 a2 (Or.inl rfl) I L) (zW_X6 (Or.inl rfl)) rfl rfl lm_X7_141 q2_X6_canCarry q3_X6_canCarry q4_X6 q5_X6_canCarry qd_X6_canCarry (by decide) rfl rfl (Nat.le_of_ble_eq_true rfl) ⟨Nat.zero_le _, Nat.zero_le _⟩ dX7_carry_36 (zr_ki0 (fun o14 => ?_))
        refine zr_ifeq (tgt := 61) hB (by decide) dX7_carry_39 ?_ ?_
        · refine zr_aload_n hB 0 rfl rfl dX7_carry_61 ?_
          refine zr_ldc (v := (-1000005)) hB lk_X7_124 dX7_carry_62 ?_
          refine zr_callV (st := []) (C := RX7) (As := [.int (-1000005)]) (embc := em_iI L) hB (mX7_finding (sK := sK) (sV := sV) hi (-1000005) I L) (zW_X7 rfl) rfl rfl lm_X7_56 q2_X7_finding q3_X7_finding q4_X7 q5_X7_finding qd_X7_finding (by decide) rfl rfl (Nat.le_of_ble_eq_true rfl) ⟨Nat.zero_le _, Nat.zero_le _⟩ dX7_carry_64 (zr_kiI (fun o17 => ?_))
          exact zr_iret hB rfl rfl dX7_carry_67
        · refine zr_aload_n hB 0 rfl rfl dX7_carry_42 ?_
          refine zr_get_X7 (w := 0) (k := 0) (v := .ref (ad 1)) hB rfl (by decide) rfl lf_X7_12 rfl dX7_carry_43 ?_
          refine zr_aload_n hB 0 rfl rfl dX7_carry_46 ?_
          refine zr_get_X7 (w := 0) (k := 0) (v := .ref (ad 1)) hB rfl (by decide) rfl lf_X7_12 rfl dX7_carry_47 ?_
          refine zr_iload_n hB 1 rfl rfl dX7_carry_50 ?_
          refine zr_callV (st := [.ref (ad 1)]) (C := RX6) (As := [.int a1]) (embc := em_i0 I L) hB (mX6_roomOf (sK := sK) (sV := sV) hi 1 a1 (Or.inl rfl) I L) (zW_X6 (Or.inl rfl)) rfl rfl lm_X7_121 q2_X6_roomOf q3_X6_roomOf q4_X6 q5_X6_roomOf qd_X6_roomOf (by decide) rfl rfl (Nat.le_of_ble_eq_true rfl) ⟨Nat.zero_le _, Nat.zero_le _⟩ dX7_carry_51 (zr_ki0 (fun o19 => ?_))
          refine zr_iload_n hB 3 rfl rfl dX7_carry_54 ?_
          refine zr_callV (st := []) (C := RX6) (As := [.int o19, .int a3]) (embc := em_i0 I L) hB (mX6_isOpen (sK := sK) (sV := sV) hi 1 o19 a3 (Or.inl rfl) I L) (zW_X6 (Or.inl rfl)) rfl rfl lm_X7_60 q2_X6_isOpen q3_X6_isOpen q4_X6 q5_X6_isOpen qd_X6_isOpen (by decide) rfl rfl (Nat.le_of_ble_eq_true rfl) ⟨Nat.zero_le _, Nat.zero_le _⟩ dX7_carry_55 (zr_ki0 (fun o21 => ?_))
          refine zr_ifne (tgt := 68) hB (by decide) dX7_carry_58 ?_ ?_
          · refine zr_aload_n hB 0 rfl rfl dX7_carry_68 ?_
            refine zr_get_X7 (w := 0) (k := 0) (v := .ref (ad 1)) hB rfl (by decide) rfl lf_X7_12 rfl dX7_carry_69 ?_
            refine zr_iload_n hB 1 rfl rfl dX7_carry_72 ?_
            refine zr_iload_n hB 2 rfl rfl dX7_carry_73 ?_
            refine zr_iload_n hB 3 rfl rfl dX7_carry_74 ?_
            refine zr_callV (st := []) (C := RX6) (As := [.int a1, .int a2, .int a3]) (embc := em_iI L) hB (mX6_carryOver (sK := sK) (sV := sV) hi n 1 a1 a2 a3 (Or.inl rfl) I L) (zW_X6 (Or.inl rfl)) rfl rfl lm_X7_144 q2_X6_carryOver q3_X6_carryOver q4_X6 q5_X6_carryOver qd_X6_carryOver (by decide) rfl rfl (Nat.le_of_ble_eq_true rfl) ⟨Nat.zero_le _, Nat.zero_le _⟩ dX7_carry_75 (zr_kiI (fun o24 => ?_))
            exact zr_iret hB rfl rfl dX7_carry_78
          · refine zr_aload_n hB 0 rfl rfl dX7_carry_61 ?_
            refine zr_ldc (v := (-1000005)) hB lk_X7_124 dX7_carry_62 ?_
            refine zr_callV (st := []) (C := RX7) (As := [.int (-1000005)]) (embc := em_iI L) hB (mX7_finding (sK := sK) (sV := sV) hi (-1000005) I L) (zW_X7 rfl) rfl rfl lm_X7_56 q2_X7_finding q3_X7_finding q4_X7 q5_X7_finding qd_X7_finding (by decide) rfl rfl (Nat.le_of_ble_eq_true rfl) ⟨Nat.zero_le _, Nat.zero_le _⟩ dX7_carry_64 (zr_kiI (fun o27 => ?_))
            exact zr_iret hB rfl rfl dX7_carry_67
      · refine zr_aload_n hB 0 rfl rfl dX7_carry_23 ?_
        refine zr_ldc (v := (-1000001)) hB lk_X7_55 dX7_carry_24 ?_
        refine zr_callV (st := []) (C := RX7) (As := [.int (-1000001)]) (embc := em_iI L) hB (mX7_finding (sK := sK) (sV := sV) hi (-1000001) I L) (zW_X7 rfl) rfl rfl lm_X7_56 q2_X7_finding q3_X7_finding q4_X7 q5_X7_finding qd_X7_finding (by decide) rfl rfl (Nat.le_of_ble_eq_true rfl) ⟨Nat.zero_le _, Nat.zero_le _⟩ dX7_carry_26 (zr_kiI (fun o30 => ?_))
        exact zr_iret hB rfl rfl dX7_carry_29

def fX6_canReach (w : Nat) (a1 : Int32) (a2 : Int32) (I : zI) : Option (Int32) :=
  zb (fX6_levelOf w a1 I) fun o2 =>
  zb (fX6_roomOf w a1 I) fun o4 =>
  if o4 = (I w 1) then
    if 4 ≤ o2 then
      some 0
    else
    zb (fX6_weightIn w a2 (o2 + 1) I) fun o6 =>
    zg a1 4 (
    if (I (w + 6) (zn a1)) < o6 then
      some 0
    else
    some 1)
  else
  some 0
set_option maxHeartbeats 4000000 in
set_option maxRecDepth 100000 in
theorem mX6_canReach {l : Launch} {D : va_G} {T : zT} {ad sK sV : Nat → Nat} (hi : zInj ad) (w : Nat) (a1 : Int32) (a2 : Int32) (hw : zO_X6 w) (I : zI) (L : zL) : ∀ o, fX6_canReach w a1 a2 I = some o → zMet l yX6_canReach cX6_canReach 4 (some .boolean) 2 45 D T ad sK sV [.ref (ad w), .int a1, .int a2] I L (em_i0 I L o) := by
  intro o ho
  refine zMet.of hi (by decide +kernel) (Nat.le_of_ble_eq_true rfl) (fun p e s m args below meth c hB => ?_)
  refine zr_top (emb := em_i0 I L) (t := fX6_canReach w a1 a2 I) ?_ ho
  unfold fX6_canReach
  refine zr_aload_n hB 0 rfl rfl dX6_canReach_0 ?_
  refine zr_iload_n hB 1 rfl rfl dX6_canReach_1 ?_
  refine zr_callV (st := []) (C := RX6) (As := [.int a1]) (embc := em_i0 I L) hB (mX6_levelOf (sK := sK) (sV := sV) hi w a1 hw I L) (zW_X6 hw) rfl rfl lm_X6_84 q2_X6_levelOf q3_X6_levelOf q4_X6 q5_X6_levelOf qd_X6_levelOf (by decide) rfl rfl (Nat.le_of_ble_eq_true rfl) ⟨Nat.zero_le _, Nat.zero_le _⟩ dX6_canReach_2 (zr_ki0 (fun o2 => ?_))
  refine zr_istore_n (lv' := [(3, .int o2), (0, .ref (ad w)), (1, .int a1), (2, .int a2)]) hB rfl (by decide) rfl dX6_canReach_5 ?_
  refine zr_aload_n hB 1 rfl rfl dX6_canReach_6 ?_
  refine zr_iload_n hB 2 rfl rfl dX6_canReach_7 ?_
  refine zr_callV (st := []) (C := RX6) (As := [.int a1]) (embc := em_i0 I L) hB (mX6_roomOf (sK := sK) (sV := sV) hi w a1 hw I L) (zW_X6 hw) rfl rfl lm_X6_92 q2_X6_roomOf q3_X6_roomOf q4_X6 q5_X6_roomOf qd_X6_roomOf (by decide) rfl rfl (Nat.le_of_ble_eq_true rfl) ⟨Nat.zero_le _, Nat.zero_le _⟩ dX6_canReach_8 (zr_ki0 (fun o4 => ?_))
  refine zr_aload_n hB 1 rfl rfl dX6_canReach_11 ?_
  refine zr_get_X6 (w := w) (k := 1) (v := .int (I w 1)) hB hw (by decide) rfl lf_X6_15 rfl dX6_canReach_12 ?_
  refine zr_icmp_ne (tgt := 44) hB (by decide) dX6_canReach_15 ?_ ?_
  · refine zr_iconst (v := 0) hB (by decide) dX6_canReach_44 ?_
    exact zr_zretC (by decide) hB rfl rfl dX6_canReach_45
  · refine zr_iload_n hB 0 rfl rfl dX6_canReach_18 ?_
    refine zr_iconst (v := 4) hB (by decide) dX6_canReach_19 ?_
    refine zr_icmp_ge (tgt := 44) hB (by decide) dX6_canReach_20 ?_ ?_
    · refine zr_iconst (v := 0) hB (by decide) dX6_canReach_44 ?_
      exact zr_zretC (by decide) hB rfl rfl dX6_canReach_45
    · refine zr_aload_n hB 1 rfl rfl dX6_canReach_23 ?_
      refine zr_iload_n hB 3 rfl rfl dX6_canReach_24 ?_
      refine zr_iload_n hB 0 rfl rfl dX6_canReach_25 ?_
      refine zr_iconst (v := 1) hB (by decide) dX6_canReach_26 ?_
      refine zr_iadd hB dX6_canReach_27 ?_
      refine zr_callV (st := []) (C := RX6) (As := [.int a2, .int (o2 + 1)]) (embc := em_i0 I L) hB (mX6_weightIn (sK := sK) (sV := sV) hi w a2 (o2 + 1) hw I L) (zW_X6 hw) rfl rfl lm_X6_80 q2_X6_weightIn q3_X6_weightIn q4_X6 q5_X6_weightIn qd_X6_weightIn (by decide) rfl rfl (Nat.le_of_ble_eq_true rfl) ⟨Nat.zero_le _, Nat.zero_le _⟩ dX6_canReach_28 (zr_ki0 (fun o6 => ?_))
      refine zr_aload_n hB 1 rfl rfl dX6_canReach_31 ?_
      refine zr_get_X6 (w := w) (k := 10) (v := .ref (ad (w + 6))) hB hw (by decide) rfl lf_X6_31 rfl dX6_canReach_32 ?_
      refine zr_iload_n hB 2 rfl rfl dX6_canReach_35 ?_
      refine zr_iaload hB (zA_X6_6 hw) dX6_canReach_36 ?_
      refine zr_icmp_gt (tgt := 44) hB (by decide) dX6_canReach_37 ?_ ?_
      · refine zr_iconst (v := 0) hB (by decide) dX6_canReach_44 ?_
        exact zr_zretC (by decide) hB rfl rfl dX6_canReach_45
      · refine zr_iconst (v := 1) hB (by decide) dX6_canReach_40 ?_
        refine zr_goto (tgt := 45) hB (by decide) dX6_canReach_41 ?_
        exact zr_zretC (by decide) hB rfl rfl dX6_canReach_45

def fX6_reachOver (n : Nat) (w : Nat) (a1 : Int32) (a2 : Int32) (a3 : Int32) (I : zI) : Option (Int32 × zI) :=
  zg a2 8 (
  zl (I (w + 3) (zn a2)) fun v1 =>
  zg a2 8 (
  zl (zup I (w + 3) (zn a2) a3) fun J2 =>
  zb (fX6_standingIn n w a3 J2) fun o4 =>
  zb (fX6_enter w a1 a2 v1 a3 o4 J2) fun o7 =>
  some (o4, o7)))
set_option maxHeartbeats 4000000 in
set_option maxRecDepth 100000 in
theorem mX6_reachOver {l : Launch} {D : va_G} {T : zT} {ad sK sV : Nat → Nat} (hi : zInj ad) (n : Nat) (w : Nat) (a1 : Int32) (a2 : Int32) (a3 : Int32) (hw : zO_X6 w) (I : zI) (L : zL) : ∀ o, fX6_reachOver n w a1 a2 a3 I = some o → zMet l yX6_reachOver cX6_reachOver 6 (some .int) 2 65 D T ad sK sV [.ref (ad w), .int a1, .int a2, .int a3] I L (em_iI L o) := by
  intro o ho
  refine zMet.of hi (by decide +kernel) (Nat.le_of_ble_eq_true rfl) (fun p e s m args below meth c hB => ?_)
  refine zr_top (emb := em_iI L) (t := fX6_reachOver n w a1 a2 a3 I) ?_ ho
  unfold fX6_reachOver
  refine zr_aload_n hB 0 rfl rfl dX6_reachOver_0 ?_
  refine zr_get_X6 (w := w) (k := 6) (v := .ref (ad (w + 3))) hB hw (by decide) rfl lf_X6_22 rfl dX6_reachOver_1 ?_
  refine zr_iload_n hB 2 rfl rfl dX6_reachOver_4 ?_
  refine zr_iaload hB (zA_X6_3 hw) dX6_reachOver_5 ?_
  refine zr_letI (fun v1 => ?_)
  refine zr_istore (lv' := [(4, .int v1), (0, .ref (ad w)), (1, .int a1), (2, .int a2), (3, .int a3)]) hB (by decide) rfl dX6_reachOver_6 ?_
  refine zr_aload_n hB 1 rfl rfl dX6_reachOver_8 ?_
  refine zr_get_X6 (w := w) (k := 6) (v := .ref (ad (w + 3))) hB hw (by decide) rfl lf_X6_22 rfl dX6_reachOver_9 ?_
  refine zr_iload_n hB 3 rfl rfl dX6_reachOver_12 ?_
  refine zr_iload_n hB 4 rfl rfl dX6_reachOver_13 ?_
  refine zr_iastore hB (zA_X6_3 hw) dX6_reachOver_14 ?_
  refine zr_letM (fun J2 => ?_)
  refine zr_aload_n hB 1 rfl rfl dX6_reachOver_15 ?_
  refine zr_iload_n hB 4 rfl rfl dX6_reachOver_16 ?_
  refine zr_callV (st := []) (C := RX6) (As := [.int a3]) (embc := em_i0 J2 L) hB (mX6_standingIn (sK := sK) (sV := sV) hi n w a3 hw J2 L) (zW_X6 hw) rfl rfl lm_X6_99 q2_X6_standingIn q3_X6_standingIn q4_X6 q5_X6_standingIn qd_X6_standingIn (by decide) rfl rfl (Nat.le_of_ble_eq_true rfl) ⟨Nat.zero_le _, Nat.zero_le _⟩ dX6_reachOver_17 (zr_ki0 (fun o4 => ?_))
  refine zr_istore (lv' := [(5, .int o4), (4, .int v1), (0, .ref (ad w)), (1, .int a1), (2, .int a2), (3, .int a3)]) hB (by decide) rfl dX6_reachOver_20 ?_
  refine zr_aload_n hB 2 rfl rfl dX6_reachOver_22 ?_
  refine zr_iload_n hB 3 rfl rfl dX6_reachOver_23 ?_
  refine zr_iload_n hB 4 rfl rfl dX6_reachOver_24 ?_
  refine zr_iload hB 1 rfl dX6_reachOver_25 ?_
  refine zr_iload_n hB 5 rfl rfl dX6_reachOver_27 ?_
  refine zr_iload hB 0 rfl dX6_reachOver_28 ?_
  refine zr_callV (st := []) (C := RX6) (As := [.int a1, .int a2, .int v1, .int a3, .int o4]) (embc := em_vI L) hB (mX6_enter (sK := sK) (sV := sV) hi w a1 a2 v1 a3 o4 hw J2 L) (zW_X6 hw) rfl rfl lm_X6_102 q2_X6_enter q3_X6_enter q4_X6 q5_X6_enter qd_X6_enter (by decide) rfl rfl (Nat.le_of_ble_eq_true rfl) ⟨Nat.zero_le _, Nat.zero_le _⟩ dX6_reachOver_30 (zr_kvI (fun o7 => ?_))
  refine zr_iload hB 0 rfl dX6_reachOver_33 ?_
  exact zr_iret hB rfl rfl dX6_reachOver_35

def fX7_reach (n : Nat) (a1 : Int32) (a2 : Int32) (a3 : Int32) (I : zI) : Option (Int32 × zI) :=
  zb (fX7_isOne a1 I) fun o2 =>
  if o2 = 0 then
    zb (fX7_finding (-1000001) I) fun o5 =>
    some (o5.1, o5.2)
  else
  zb (fX7_isThing a2 I) fun o7 =>
  if o7 = 0 then
    zb (fX7_finding (-1000001) I) fun o10 =>
    some (o10.1, o10.2)
  else
  zb (fX7_isRoom a3) fun o12 =>
  if o12 = 0 then
    zb (fX7_finding (-1000001) I) fun o26 =>
    some (o26.1, o26.2)
  else
  zb (fX6_canReach 1 a1 a2 I) fun o14 =>
  if o14 = 0 then
    zb (fX7_finding (-1000005) I) fun o17 =>
    some (o17.1, o17.2)
  else
  zg a2 8 (
  if (I 4 (zn a2)) = a3 then
    zb (fX7_finding (-1000005) I) fun o23 =>
    some (o23.1, o23.2)
  else
  zb (fX6_reachOver n 1 a1 a2 a3 I) fun o20 =>
  some (o20.1, o20.2))
set_option maxHeartbeats 4000000 in
set_option maxRecDepth 100000 in
theorem mX7_reach {l : Launch} {D : va_G} {T : zT} {ad sK sV : Nat → Nat} (hi : zInj ad) (n : Nat) (a1 : Int32) (a2 : Int32) (a3 : Int32)  (I : zI) (L : zL) : ∀ o, fX7_reach n a1 a2 a3 I = some o → zMet l yX7_reach cX7_reach 4 (some .int) 3 90 D T ad sK sV [.ref (ad 0), .int a1, .int a2, .int a3] I L (em_iI L o) := by
  intro o ho
  refine zMet.of hi (by decide +kernel) (Nat.le_of_ble_eq_true rfl) (fun p e s m args below meth c hB => ?_)
  refine zr_top (emb := em_iI L) (t := fX7_reach n a1 a2 a3 I) ?_ ho
  unfold fX7_reach
  refine zr_aload_n hB 0 rfl rfl dX7_reach_0 ?_
  refine zr_iload_n hB 1 rfl rfl dX7_reach_1 ?_
  refine zr_callV (st := []) (C := RX7) (As := [.int a1]) (embc := em_i0 I L) hB (mX7_isOne (sK := sK) (sV := sV) hi a1 I L) (zW_X7 rfl) rfl rfl lm_X7_109 q2_X7_isOne q3_X7_isOne q4_X7 q5_X7_isOne qd_X7_isOne (by decide) rfl rfl (Nat.le_of_ble_eq_true rfl) ⟨Nat.zero_le _, Nat.zero_le _⟩ dX7_reach_2 (zr_ki0 (fun o2 => ?_))
  refine zr_ifeq (tgt := 23) hB (by decide) dX7_reach_5 ?_ ?_
  · refine zr_aload_n hB 0 rfl rfl dX7_reach_23 ?_
    refine zr_ldc (v := (-1000001)) hB lk_X7_55 dX7_reach_24 ?_
    refine zr_callV (st := []) (C := RX7) (As := [.int (-1000001)]) (embc := em_iI L) hB (mX7_finding (sK := sK) (sV := sV) hi (-1000001) I L) (zW_X7 rfl) rfl rfl lm_X7_56 q2_X7_finding q3_X7_finding q4_X7 q5_X7_finding qd_X7_finding (by decide) rfl rfl (Nat.le_of_ble_eq_true rfl) ⟨Nat.zero_le _, Nat.zero_le _⟩ dX7_reach_26 (zr_kiI (fun o5 => ?_))
    exact zr_iret hB rfl rfl dX7_reach_29
  · refine zr_aload_n hB 0 rfl rfl dX7_reach_8 ?_
    refine zr_iload_n hB 2 rfl rfl dX7_reach_9 ?_
    refine zr_callV (st := []) (C := RX7) (As := [.int a2]) (embc := em_i0 I L) hB (mX7_isThing (sK := sK) (sV := sV) hi a2 I L) (zW_X7 rfl) rfl rfl lm_X7_84 q2_X7_isThing q3_X7_isThing q4_X7 q5_X7_isThing qd_X7_isThing (by decide) rfl rfl (Nat.le_of_ble_eq_true rfl) ⟨Nat.zero_le _, Nat.zero_le _⟩ dX7_reach_10 (zr_ki0 (fun o7 => ?_))
    refine zr_ifeq (tgt := 23) hB (by decide) dX7_reach_13 ?_ ?_
    · refine zr_aload_n hB 0 rfl rfl dX7_reach_23 ?_
      refine zr_ldc (v := (-1000001)) hB lk_X7_55 dX7_reach_24 ?_
      refine zr_callV (st := []) (C := RX7) (As := [.int (-1000001)]) (embc := em_iI L) hB (mX7_finding (sK := sK) (sV := sV) hi (-1000001) I L) (zW_X7 rfl) rfl rfl lm_X7_56 q2_X7_finding q3_X7_finding q4_X7 q5_X7_finding qd_X7_finding (by decide) rfl rfl (Nat.le_of_ble_eq_true rfl) ⟨Nat.zero_le _, Nat.zero_le _⟩ dX7_reach_26 (zr_kiI (fun o10 => ?_))
      exact zr_iret hB rfl rfl dX7_reach_29
    · refine zr_iload_n hB 3 rfl rfl dX7_reach_16 ?_
      refine zr_callS (st := []) (As := [.int a3]) (embc := em_i0 I L) hB (mX7_isRoom (sK := sK) (sV := sV) hi a3 I L) lm_X7_47 q2_X7_isRoom q4_X7 q5_X7_isRoom qd_X7_isRoom (by decide) rfl rfl (Nat.le_of_ble_eq_true rfl) ⟨Nat.zero_le _, Nat.zero_le _⟩ dX7_reach_17 (zr_ki0 (fun o12 => ?_))
      refine zr_ifne (tgt := 30) hB (by decide) dX7_reach_20 ?_ ?_
      · refine zr_aload_n hB 0 rfl rfl dX7_reach_30 ?_
        refine zr_get_X7 (w := 0) (k := 0) (v := .ref (ad 1)) hB rfl (by decide) rfl lf_X7_12 rfl dX7_reach_31 ?_
        refine zr_iload_n hB 1 rfl rfl dX7_reach_34 ?_
        refine zr_iload_n hB 2 rfl rfl dX7_reach_35 ?_
        refine zr_callV (st := []) (C := RX6) (As := [.int a1, .int a2]) (embc := em_i0 I L) hB (mX6_canReach (sK := sK) (sV := sV) hi 1 a1 a2 (Or.inl rfl) I L) (zW_X6 (Or.inl rfl)) rfl rfl lm_X7_147 q2_X6_canReach q3_X6_canReach q4_X6 q5_X6_canReach qd_X6_canReach (by decide) rfl rfl (Nat.le_of_ble_eq_true rfl) ⟨Nat.zero_le _, Nat.zero_le _⟩ dX7_reach_36 (zr_ki0 (fun o14 => ?_))
        refine zr_ifeq (tgt := 55) hB (by decide) dX7_reach_39 ?_ ?_
        · refine zr_aload_n hB 0 rfl rfl dX7_reach_55 ?_
          refine zr_ldc (v := (-1000005)) hB lk_X7_124 dX7_reach_56 ?_
          refine zr_callV (st := []) (C := RX7) (As := [.int (-1000005)]) (embc := em_iI L) hB (mX7_finding (sK := sK) (sV := sV) hi (-1000005) I L) (zW_X7 rfl) rfl rfl lm_X7_56 q2_X7_finding q3_X7_finding q4_X7 q5_X7_finding qd_X7_finding (by decide) rfl rfl (Nat.le_of_ble_eq_true rfl) ⟨Nat.zero_le _, Nat.zero_le _⟩ dX7_reach_58 (zr_kiI (fun o17 => ?_))
          exact zr_iret hB rfl rfl dX7_reach_61
        · refine zr_aload_n hB 0 rfl rfl dX7_reach_42 ?_
          refine zr_get_X7 (w := 0) (k := 0) (v := .ref (ad 1)) hB rfl (by decide) rfl lf_X7_12 rfl dX7_reach_43 ?_
          refine zr_get_X6 (w := 1) (k := 6) (v := .ref (ad 4)) hB (Or.inl rfl) (by decide) rfl lf_X7_150 rfl dX7_reach_46 ?_
          refine zr_iload_n hB 2 rfl rfl dX7_reach_49 ?_
          refine zr_iaload hB zA_4 dX7_reach_50 ?_
          refine zr_iload_n hB 3 rfl rfl dX7_reach_51 ?_
          refine zr_icmp_ne (tgt := 62) hB (by decide) dX7_reach_52 ?_ ?_
          · refine zr_aload_n hB 0 rfl rfl dX7_reach_62 ?_
            refine zr_get_X7 (w := 0) (k := 0) (v := .ref (ad 1)) hB rfl (by decide) rfl lf_X7_12 rfl dX7_reach_63 ?_
            refine zr_iload_n hB 1 rfl rfl dX7_reach_66 ?_
            refine zr_iload_n hB 2 rfl rfl dX7_reach_67 ?_
            refine zr_iload_n hB 3 rfl rfl dX7_reach_68 ?_
            refine zr_callV (st := []) (C := RX6) (As := [.int a1, .int a2, .int a3]) (embc := em_iI L) hB (mX6_reachOver (sK := sK) (sV := sV) hi n 1 a1 a2 a3 (Or.inl rfl) I L) (zW_X6 (Or.inl rfl)) rfl rfl lm_X7_153 q2_X6_reachOver q3_X6_reachOver q4_X6 q5_X6_reachOver qd_X6_reachOver (by decide) rfl rfl (Nat.le_of_ble_eq_true rfl) ⟨Nat.zero_le _, Nat.zero_le _⟩ dX7_reach_69 (zr_kiI (fun o20 => ?_))
            exact zr_iret hB rfl rfl dX7_reach_72
          · refine zr_aload_n hB 0 rfl rfl dX7_reach_55 ?_
            refine zr_ldc (v := (-1000005)) hB lk_X7_124 dX7_reach_56 ?_
            refine zr_callV (st := []) (C := RX7) (As := [.int (-1000005)]) (embc := em_iI L) hB (mX7_finding (sK := sK) (sV := sV) hi (-1000005) I L) (zW_X7 rfl) rfl rfl lm_X7_56 q2_X7_finding q3_X7_finding q4_X7 q5_X7_finding qd_X7_finding (by decide) rfl rfl (Nat.le_of_ble_eq_true rfl) ⟨Nat.zero_le _, Nat.zero_le _⟩ dX7_reach_58 (zr_kiI (fun o23 => ?_))
            exact zr_iret hB rfl rfl dX7_reach_61
      · refine zr_aload_n hB 0 rfl rfl dX7_reach_23 ?_
        refine zr_ldc (v := (-1000001)) hB lk_X7_55 dX7_reach_24 ?_
        refine zr_callV (st := []) (C := RX7) (As := [.int (-1000001)]) (embc := em_iI L) hB (mX7_finding (sK := sK) (sV := sV) hi (-1000001) I L) (zW_X7 rfl) rfl rfl lm_X7_56 q2_X7_finding q3_X7_finding q4_X7 q5_X7_finding qd_X7_finding (by decide) rfl rfl (Nat.le_of_ble_eq_true rfl) ⟨Nat.zero_le _, Nat.zero_le _⟩ dX7_reach_26 (zr_kiI (fun o26 => ?_))
        exact zr_iret hB rfl rfl dX7_reach_29

