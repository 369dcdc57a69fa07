def fX6_roomsHitBy (w : Nat) (a1 : Int32) (a2 : Int32) (I : zI) : Option (Int32) :=
  zb (fX6_canCarry w a1 a2 I) fun o2 =>
  zb (
    if o2 = 0 then
      some 0
    else
    zb (fX6_roomOf w a1 I) fun o8 =>
    zg o8 8 (
    zl (0 ||| (I (w + 1) (zn o8))) fun v9 =>
    some v9)) fun x3 : Int32 =>
  zb (fX6_canReach w a1 a2 I) fun o11 =>
  if o11 = 0 then
    some x3
  else
  zg a2 8 (
  zl (x3 ||| ((zshl 1 (I (w + 3) (zn a2))) ^^^ (-1))) fun v12 =>
  some v12)
set_option maxHeartbeats 4000000 in
set_option maxRecDepth 100000 in
theorem mX6_roomsHitBy {l : Launch} {D : va_G} {T : zT} {ad sK sV : Nat → Nat} (hi : zInj ad) (w : Nat) (a1 : Int32) (a2 : Int32) (hw : zO_X6 w) (I : zI) (L : zL) : ∀ o, fX6_roomsHitBy w a1 a2 I = some o → zMet l yX6_roomsHitBy cX6_roomsHitBy 4 (some .int) 3 68 D T ad sK sV [.ref (ad w), .int a1, .int a2] I L (em_i0 I L o) := by
  intro o ho
  refine zMet.of hi (by decide +kernel) (Nat.le_of_ble_eq_true rfl) (fun p e s m args below meth c hB => ?_)
  refine zr_top (emb := em_i0 I L) (t := fX6_roomsHitBy w a1 a2 I) ?_ ho
  unfold fX6_roomsHitBy
  refine zr_iconst (v := 0) hB (by decide) dX6_roomsHitBy_0 ?_
  refine zr_istore_n (lv' := [(3, .int 0), (0, .ref (ad w)), (1, .int a1), (2, .int a2)]) hB rfl (by decide) rfl dX6_roomsHitBy_1 ?_
  refine zr_aload_n hB 1 rfl rfl dX6_roomsHitBy_2 ?_
  refine zr_iload_n hB 2 rfl rfl dX6_roomsHitBy_3 ?_
  refine zr_iload_n hB 3 rfl rfl dX6_roomsHitBy_4 ?_
  refine zr_callV (st := []) (C := RX6) (As := [.int a1, .int a2]) (embc := em_i0 I L) hB (mX6_canCarry (sK := sK) (sV := sV) hi w a1 a2 hw I L) (zW_X6 hw) rfl rfl lm_X6_106 q2_X6_canCarry q3_X6_canCarry q4_X6 q5_X6_canCarry qd_X6_canCarry (by decide) rfl rfl (Nat.le_of_ble_eq_true rfl) ⟨Nat.zero_le _, Nat.zero_le _⟩ dX6_roomsHitBy_5 (zr_ki0 (fun o2 => ?_))
  refine zr_join (pcJ := 24) (fun x3 : Int32 => [(3, .int x3), (0, .ref (ad w)), (1, .int a1), (2, .int a2)]) (fun x3 => []) (fun x3 => I) (fun x3 => L) (fun x3 => ?_) (fun K6 hj4 => ?_)
  · refine zr_aload_n hB 1 rfl rfl dX6_roomsHitBy_24 ?_
    refine zr_iload_n hB 2 rfl rfl dX6_roomsHitBy_25 ?_
    refine zr_iload_n hB 3 rfl rfl dX6_roomsHitBy_26 ?_
    refine zr_callV (st := []) (C := RX6) (As := [.int a1, .int a2]) (embc := em_i0 I L) hB (mX6_canReach (sK := sK) (sV := sV) hi w a1 a2 hw I L) (zW_X6 hw) rfl rfl lm_X6_110 q2_X6_canReach q3_X6_canReach q4_X6 q5_X6_canReach qd_X6_canReach (by decide) rfl rfl (Nat.le_of_ble_eq_true rfl) ⟨Nat.zero_le _, Nat.zero_le _⟩ dX6_roomsHitBy_27 (zr_ki0 (fun o11 => ?_))
    refine zr_ifeq (tgt := 46) hB (by decide) dX6_roomsHitBy_30 ?_ ?_
    · refine zr_iload_n hB 0 rfl rfl dX6_roomsHitBy_46 ?_
      exact zr_iret hB rfl rfl dX6_roomsHitBy_47
    · refine zr_iload_n hB 0 rfl rfl dX6_roomsHitBy_33 ?_
      refine zr_iconst (v := 1) hB (by decide) dX6_roomsHitBy_34 ?_
      refine zr_aload_n hB 1 rfl rfl dX6_roomsHitBy_35 ?_
      refine zr_get_X6 (w := w) (k := 6) (v := .ref (ad (w + 3))) hB hw (by decide) rfl lf_X6_22 rfl dX6_roomsHitBy_36 ?_
      refine zr_iload_n hB 3 rfl rfl dX6_roomsHitBy_39 ?_
      refine zr_iaload hB (zA_X6_3 hw) dX6_roomsHitBy_40 ?_
      refine zr_ishl hB dX6_roomsHitBy_41 ?_
      refine zr_iconst (v := (-1)) hB (by decide) dX6_roomsHitBy_42 ?_
      refine zr_ixor hB dX6_roomsHitBy_43 ?_
      refine zr_ior hB dX6_roomsHitBy_44 ?_
      refine zr_letI (fun v12 => ?_)
      refine zr_istore_n (lv' := [(3, .int v12), (0, .ref (ad w)), (1, .int a1), (2, .int a2)]) hB rfl (by decide) rfl dX6_roomsHitBy_45 ?_
      refine zr_iload_n hB 0 rfl rfl dX6_roomsHitBy_46 ?_
      exact zr_iret hB rfl rfl dX6_roomsHitBy_47
  · refine zr_ifeq (tgt := 24) hB (by decide) dX6_roomsHitBy_8 ?_ ?_
    · exact zr_sub [0, 1, 2, 3] rfl (hj4 0)
    · refine zr_iload_n hB 0 rfl rfl dX6_roomsHitBy_11 ?_
      refine zr_aload_n hB 1 rfl rfl dX6_roomsHitBy_12 ?_
      refine zr_get_X6 (w := w) (k := 0) (v := .ref (ad (w + 1))) hB hw (by decide) rfl lf_X6_9 rfl dX6_roomsHitBy_13 ?_
      refine zr_aload_n hB 1 rfl rfl dX6_roomsHitBy_16 ?_
      refine zr_iload_n hB 2 rfl rfl dX6_roomsHitBy_17 ?_
      refine zr_callV (st := [.ref (ad (w + 1)), .int 0]) (C := RX6) (As := [.int a1]) (embc := em_i0 I L) hB (mX6_roomOf (sK := sK) (sV := sV) hi w a1 hw I L) (zW_X6 hw) rfl rfl lm_X6_92 q2_X6_roomOf q3_X6_roomOf q4_X6 q5_X6_roomOf qd_X6_roomOf (by decide) rfl rfl (Nat.le_of_ble_eq_true rfl) ⟨Nat.zero_le _, Nat.zero_le _⟩ dX6_roomsHitBy_18 (zr_ki0 (fun o8 => ?_))
      refine zr_iaload hB (zA_X6_1 hw) dX6_roomsHitBy_21 ?_
      refine zr_ior hB dX6_roomsHitBy_22 ?_
      refine zr_letI (fun v9 => ?_)
      refine zr_istore_n (lv' := [(3, .int v9), (0, .ref (ad w)), (1, .int a1), (2, .int a2)]) hB rfl (by decide) rfl dX6_roomsHitBy_23 ?_
      exact zr_sub [0, 1, 2, 3] rfl (hj4 v9)

def gX7_safe_17 (I : zI) (s1 : Int32 × Int32) (s10 : Int32 × Int32) : Option ((Int32 × Int32) ⊕ (Int32)) :=
  if (I 1 4) ≤ s10.2 then
    some (.inr s10.1)
  else
  zb (fX6_roomsHitBy 1 s1.2 s10.2 I) fun o20 =>
  zl (s10.1 ||| o20) fun v21 =>
  zl (s10.2 + 1) fun v22 =>
  some (.inl (v21, v22))
def gX7_safe_4 (n : Nat) (I : zI) (s1 : Int32 × Int32) : Option ((Int32 × Int32) ⊕ (Int32)) :=
  if (I 1 8) ≤ s1.2 then
    some (.inr s1.1)
  else
  zb (zit (gX7_safe_17 I s1) n (s1.1, 0)) fun x11 : Int32 =>
  zl (s1.2 + 1) fun v23 =>
  some (.inl (x11, v23))
def fX7_safe (n : Nat) (I : zI) : Option (Int32) :=
  zb (zit (gX7_safe_4 n I) n (0, 0)) fun x2 : Int32 =>
  some ((x2 ^^^ (-1)) &&& 255)
set_option maxHeartbeats 4000000 in
set_option maxRecDepth 100000 in
theorem mX7_safe {l : Launch} {D : va_G} {T : zT} {ad sK sV : Nat → Nat} (hi : zInj ad) (n : Nat)   (I : zI) (L : zL) : ∀ o, fX7_safe n I = some o → zMet l yX7_safe cX7_safe 4 (some .int) 4 91 D T ad sK sV [.ref (ad 0)] I L (em_i0 I L o) := by
  intro o ho
  refine zMet.of hi (by decide +kernel) (Nat.le_of_ble_eq_true rfl) (fun p e s m args below meth c hB => ?_)
  refine zr_top (emb := em_i0 I L) (t := fX7_safe n I) ?_ ho
  unfold fX7_safe
  refine zr_iconst (v := 0) hB (by decide) dX7_safe_0 ?_
  refine zr_istore_n (lv' := [(1, .int 0), (0, .ref (ad 0))]) hB rfl (by decide) rfl dX7_safe_1 ?_
  refine zr_iconst (v := 0) hB (by decide) dX7_safe_2 ?_
  refine zr_istore_n (lv' := [(2, .int 0), (1, .int 0), (0, .ref (ad 0))]) hB rfl (by decide) rfl dX7_safe_3 ?_
  refine zr_join (pcJ := 52) (fun x2 : Int32 => [(1, .int x2)]) (fun _ => []) (fun x2 => I) (fun x2 => L) (fun x2 => ?_) (fun K8 hx7 => ?_)
  · refine zr_iload_n hB 0 rfl rfl dX7_safe_52 ?_
    refine zr_iconst (v := (-1)) hB (by decide) dX7_safe_53 ?_
    refine zr_ixor hB dX7_safe_54 ?_
    refine zr_sipush (v := 255) hB (by decide) dX7_safe_55 ?_
    refine zr_iand hB dX7_safe_58 ?_
    exact zr_iret hB rfl rfl dX7_safe_59
  · refine zr_sub (lv' := (fun s1 : Int32 × Int32 => [(1, .int s1.1), (2, .int s1.2), (0, .ref (ad 0))]) (0, 0)) [1, 0, 2] rfl (zr_loop (fun s1 : Int32 × Int32 => [(1, .int s1.1), (2, .int s1.2), (0, .ref (ad 0))]) (fun s1 => I) (fun s1 => L) (fun x2 : Int32 => [(1, .int x2)]) (fun x2 => I) (fun x2 => L) hx7 (fun s1 K9 hc3 hx4 => ?_) n (0, 0))
    unfold gX7_safe_4
    refine zr_iload_n hB 1 rfl rfl dX7_safe_4 ?_
    refine zr_aload_n hB 2 rfl rfl dX7_safe_5 ?_
    refine zr_get_X7 (w := 0) (k := 0) (v := .ref (ad 1)) hB rfl (by decide) rfl lf_X7_12 rfl dX7_safe_6 ?_
    refine zr_get_X6 (w := 1) (k := 8) (v := .int (I 1 8)) hB (Or.inl rfl) (by decide) rfl lf_X7_103 rfl dX7_safe_9 ?_
    refine zr_icmp_ge (tgt := 52) hB (by decide) dX7_safe_12 ?_ ?_
    · exact zr_sub [0] rfl (hx4 s1.1)
    · refine zr_iconst (v := 0) hB (by decide) dX7_safe_15 ?_
      refine zr_istore_n (lv' := [(3, .int 0), (1, .int s1.1), (2, .int s1.2), (0, .ref (ad 0))]) hB rfl (by decide) rfl dX7_safe_16 ?_
      refine zr_join (pcJ := 46) (fun x11 : Int32 => [(1, .int x11), (2, .int s1.2), (0, .ref (ad 0))]) (fun _ => []) (fun x11 => I) (fun x11 => L) (fun x11 => ?_) (fun K17 hx16 => ?_)
      · refine zr_iincL hB (j := 1) (n := 1) (w := 1) rfl (by decide) (by decide) dX7_safe_46 (fun v23 lv' hlv => ?_)
        obtain rfl : lv' = [(2, .int v23), (1, .int x11), (0, .ref (ad 0))] := hlv.symm.trans rfl
        refine zr_goto (tgt := 4) hB (by decide) dX7_safe_49 ?_
        exact zr_sub [1, 0, 2] rfl (hc3 (x11, v23))
      · refine zr_sub (lv' := (fun s10 : Int32 × Int32 => [(1, .int s10.1), (3, .int s10.2), (2, .int s1.2), (0, .ref (ad 0))]) (s1.1, 0)) [1, 0, 2, 3] rfl (zr_loop (fun s10 : Int32 × Int32 => [(1, .int s10.1), (3, .int s10.2), (2, .int s1.2), (0, .ref (ad 0))]) (fun s10 => I) (fun s10 => L) (fun x11 : Int32 => [(1, .int x11), (2, .int s1.2), (0, .ref (ad 0))]) (fun x11 => I) (fun x11 => L) hx16 (fun s10 K18 hc12 hx13 => ?_) n (s1.1, 0))
        unfold gX7_safe_17
        refine zr_iload_n hB 1 rfl rfl dX7_safe_17 ?_
        refine zr_aload_n hB 3 rfl rfl dX7_safe_18 ?_
        refine zr_get_X7 (w := 0) (k := 0) (v := .ref (ad 1)) hB rfl (by decide) rfl lf_X7_12 rfl dX7_safe_19 ?_
        refine zr_get_X6 (w := 1) (k := 4) (v := .int (I 1 4)) hB (Or.inl rfl) (by decide) rfl lf_X7_75 rfl dX7_safe_22 ?_
        refine zr_icmp_ge (tgt := 46) hB (by decide) dX7_safe_25 ?_ ?_
        · exact zr_sub [0, 2, 3] rfl (hx13 s10.1)
        · refine zr_iload_n hB 0 rfl rfl dX7_safe_28 ?_
          refine zr_aload_n hB 3 rfl rfl dX7_safe_29 ?_
          refine zr_get_X7 (w := 0) (k := 0) (v := .ref (ad 1)) hB rfl (by decide) rfl lf_X7_12 rfl dX7_safe_30 ?_
          refine zr_iload_n hB 2 rfl rfl dX7_safe_33 ?_
          refine zr_iload_n hB 1 rfl rfl dX7_safe_34 ?_
          refine zr_callV (st := [.int s10.1]) (C := RX6) (As := [.int s1.2, .int s10.2]) (embc := em_i0 I L) hB (mX6_roomsHitBy (sK := sK) (sV := sV) hi 1 s1.2 s10.2 (Or.inl rfl) I L) (zW_X6 (Or.inl rfl)) rfl rfl lm_X7_222 q2_X6_roomsHitBy q3_X6_roomsHitBy q4_X6 q5_X6_roomsHitBy qd_X6_roomsHitBy (by decide) rfl rfl (Nat.le_of_ble_eq_true rfl) ⟨Nat.zero_le _, Nat.zero_le _⟩ dX7_safe_35 (zr_ki0 (fun o20 => ?_))
          refine zr_ior hB dX7_safe_38 ?_
          refine zr_letI (fun v21 => ?_)
          refine zr_istore_n (lv' := [(1, .int v21), (3, .int s10.2), (2, .int s1.2), (0, .ref (ad 0))]) hB rfl (by decide) rfl dX7_safe_39 ?_
          refine zr_iincL hB (j := 1) (n := 1) (w := 1) rfl (by decide) (by decide) dX7_safe_40 (fun v22 lv' hlv => ?_)
          obtain rfl : lv' = [(3, .int v22), (1, .int v21), (2, .int s1.2), (0, .ref (ad 0))] := hlv.symm.trans rfl
          refine zr_goto (tgt := 17) hB (by decide) dX7_safe_43 ?_
          exact zr_sub [1, 0, 2, 3] rfl (hc12 (v21, v22))

def gX7_selves_17 (I : zI) (s1 : Int32 × Int32) (s10 : Int32 × Int32) : Option ((Int32 × Int32) ⊕ (Int32)) :=
  if (I 1 4) ≤ s10.2 then
    some (.inr s10.1)
  else
  zb (fX6_canReach 1 s1.2 s10.2 I) fun o20 =>
  if o20 = 0 then
    zl (s10.2 + 1) fun v21 =>
    some (.inl (s10.1, v21))
  else
  zg s10.2 8 (
  if (I 4 (zn s10.2)) = (I 1 1) then
    zl (s10.2 + 1) fun v22 =>
    some (.inl (s10.1, v22))
  else
  zl (s10.1 ||| (zshl 1 s1.2)) fun v23 =>
  zl (s10.2 + 1) fun v24 =>
  some (.inl (v23, v24)))
def gX7_selves_4 (n : Nat) (I : zI) (s1 : Int32 × Int32) : Option ((Int32 × Int32) ⊕ (Int32)) :=
  if (I 1 8) ≤ s1.2 then
    some (.inr s1.1)
  else
  zb (zit (gX7_selves_17 I s1) n (s1.1, 0)) fun x11 : Int32 =>
  zl (s1.2 + 1) fun v25 =>
  some (.inl (x11, v25))
def fX7_selves (n : Nat) (I : zI) : Option (Int32) :=
  zb (zit (gX7_selves_4 n I) n (0, 0)) fun x2 : Int32 =>
  some x2
set_option maxHeartbeats 4000000 in
set_option maxRecDepth 100000 in
theorem mX7_selves {l : Launch} {D : va_G} {T : zT} {ad sK sV : Nat → Nat} (hi : zInj ad) (n : Nat)   (I : zI) (L : zL) : ∀ o, fX7_selves n I = some o → zMet l yX7_selves cX7_selves 4 (some .int) 3 68 D T ad sK sV [.ref (ad 0)] I L (em_i0 I L o) := by
  intro o ho
  refine zMet.of hi (by decide +kernel) (Nat.le_of_ble_eq_true rfl) (fun p e s m args below meth c hB => ?_)
  refine zr_top (emb := em_i0 I L) (t := fX7_selves n I) ?_ ho
  unfold fX7_selves
  refine zr_iconst (v := 0) hB (by decide) dX7_selves_0 ?_
  refine zr_istore_n (lv' := [(1, .int 0), (0, .ref (ad 0))]) hB rfl (by decide) rfl dX7_selves_1 ?_
  refine zr_iconst (v := 0) hB (by decide) dX7_selves_2 ?_
  refine zr_istore_n (lv' := [(2, .int 0), (1, .int 0), (0, .ref (ad 0))]) hB rfl (by decide) rfl dX7_selves_3 ?_
  refine zr_join (pcJ := 77) (fun x2 : Int32 => [(1, .int x2)]) (fun _ => []) (fun x2 => I) (fun x2 => L) (fun x2 => ?_) (fun K8 hx7 => ?_)
  · refine zr_iload_n hB 0 rfl rfl dX7_selves_77 ?_
    exact zr_iret hB rfl rfl dX7_selves_78
  · refine zr_sub (lv' := (fun s1 : Int32 × Int32 => [(1, .int s1.1), (2, .int s1.2), (0, .ref (ad 0))]) (0, 0)) [1, 0, 2] rfl (zr_loop (fun s1 : Int32 × Int32 => [(1, .int s1.1), (2, .int s1.2), (0, .ref (ad 0))]) (fun s1 => I) (fun s1 => L) (fun x2 : Int32 => [(1, .int x2)]) (fun x2 => I) (fun x2 => L) hx7 (fun s1 K9 hc3 hx4 => ?_) n (0, 0))
    unfold gX7_selves_4
    refine zr_iload_n hB 1 rfl rfl dX7_selves_4 ?_
    refine zr_aload_n hB 2 rfl rfl dX7_selves_5 ?_
    refine zr_get_X7 (w := 0) (k := 0) (v := .ref (ad 1)) hB rfl (by decide) rfl lf_X7_12 rfl dX7_selves_6 ?_
    refine zr_get_X6 (w := 1) (k := 8) (v := .int (I 1 8)) hB (Or.inl rfl) (by decide) rfl lf_X7_103 rfl dX7_selves_9 ?_
    refine zr_icmp_ge (tgt := 77) hB (by decide) dX7_selves_12 ?_ ?_
    · exact zr_sub [0] rfl (hx4 s1.1)
    · refine zr_iconst (v := 0) hB (by decide) dX7_selves_15 ?_
      refine zr_istore_n (lv' := [(3, .int 0), (1, .int s1.1), (2, .int s1.2), (0, .ref (ad 0))]) hB rfl (by decide) rfl dX7_selves_16 ?_
      refine zr_join (pcJ := 71) (fun x11 : Int32 => [(1, .int x11), (2, .int s1.2), (0, .ref (ad 0))]) (fun _ => []) (fun x11 => I) (fun x11 => L) (fun x11 => ?_) (fun K17 hx16 => ?_)
      · refine zr_iincL hB (j := 1) (n := 1) (w := 1) rfl (by decide) (by decide) dX7_selves_71 (fun v25 lv' hlv => ?_)
        obtain rfl : lv' = [(2, .int v25), (1, .int x11), (0, .ref (ad 0))] := hlv.symm.trans rfl
        refine zr_goto (tgt := 4) hB (by decide) dX7_selves_74 ?_
        exact zr_sub [1, 0, 2] rfl (hc3 (x11, v25))
      · refine zr_sub (lv' := (fun s10 : Int32 × Int32 => [(1, .int s10.1), (3, .int s10.2), (2, .int s1.2), (0, .ref (ad 0))]) (s1.1, 0)) [1, 0, 2, 3] rfl (zr_loop (fun s10 : Int32 × Int32 => [(1, .int s10.1), (3, .int s10.2), (2, .int s1.2), (0, .ref (ad 0))]) (fun s10 => I) (fun s10 => L) (fun x11 : Int32 => [(1, .int x11), (2, .int s1.2), (0, .ref (ad 0))]) (fun x11 => I) (fun x11 => L) hx16 (fun s10 K18 hc12 hx13 => ?_) n (s1.1, 0))
        unfold gX7_selves_17
        refine zr_iload_n hB 1 rfl rfl dX7_selves_17 ?_
        refine zr_aload_n hB 3 rfl rfl dX7_selves_18 ?_
        refine zr_get_X7 (w := 0) (k := 0) (v := .ref (ad 1)) hB rfl (by decide) rfl lf_X7_12 rfl dX7_selves_19 ?_
        refine zr_get_X6 (w := 1) (k := 4) (v := .int (I 1 4)) hB (Or.inl rfl) (by decide) rfl lf_X7_75 rfl dX7_selves_22 ?_
        refine zr_icmp_ge (tgt := 71) hB (by decide) dX7_selves_25 ?_ ?_
        · exact zr_sub [0, 2, 3] rfl (hx13 s10.1)
        · refine zr_aload_n hB 3 rfl rfl dX7_selves_28 ?_
          refine zr_get_X7 (w := 0) (k := 0) (v := .ref (ad 1)) hB rfl (by decide) rfl lf_X7_12 rfl dX7_selves_29 ?_
          refine zr_iload_n hB 2 rfl rfl dX7_selves_32 ?_
          refine zr_iload_n hB 1 rfl rfl dX7_selves_33 ?_
          refine zr_callV (st := []) (C := RX6) (As := [.int s1.2, .int s10.2]) (embc := em_i0 I L) hB (mX6_canReach (sK := sK) (sV := sV) hi 1 s1.2 s10.2 (Or.inl rfl) I L) (zW_X6 (Or.inl rfl)) rfl rfl lm_X7_147 q2_X6_canReach q3_X6_canReach q4_X6 q5_X6_canReach qd_X6_canReach (by decide) rfl rfl (Nat.le_of_ble_eq_true rfl) ⟨Nat.zero_le _, Nat.zero_le _⟩ dX7_selves_34 (zr_ki0 (fun o20 => ?_))
          refine zr_ifeq (tgt := 65) hB (by decide) dX7_selves_37 ?_ ?_
          · refine zr_iincL hB (j := 1) (n := 1) (w := 1) rfl (by decide) (by decide) dX7_selves_65 (fun v21 lv' hlv => ?_)
            obtain rfl : lv' = [(3, .int v21), (1, .int s10.1), (2, .int s1.2), (0, .ref (ad 0))] := hlv.symm.trans rfl
            refine zr_goto (tgt := 17) hB (by decide) dX7_selves_68 ?_
            exact zr_sub [1, 0, 2, 3] rfl (hc12 (s10.1, v21))
          · refine zr_aload_n hB 3 rfl rfl dX7_selves_40 ?_
            refine zr_get_X7 (w := 0) (k := 0) (v := .ref (ad 1)) hB rfl (by decide) rfl lf_X7_12 rfl dX7_selves_41 ?_
            refine zr_get_X6 (w := 1) (k := 6) (v := .ref (ad 4)) hB (Or.inl rfl) (by decide) rfl lf_X7_150 rfl dX7_selves_44 ?_
            refine zr_iload_n hB 1 rfl rfl dX7_selves_47 ?_
            refine zr_iaload hB zA_4 dX7_selves_48 ?_
            refine zr_aload_n hB 3 rfl rfl dX7_selves_49 ?_
            refine zr_get_X7 (w := 0) (k := 0) (v := .ref (ad 1)) hB rfl (by decide) rfl lf_X7_12 rfl dX7_selves_50 ?_
            refine zr_get_X6 (w := 1) (k := 1) (v := .int (I 1 1)) hB (Or.inl rfl) (by decide) rfl lf_X7_165 rfl dX7_selves_53 ?_
            refine zr_icmp_eq (tgt := 65) hB (by decide) dX7_selves_56 ?_ ?_
            · refine zr_iincL hB (j := 1) (n := 1) (w := 1) rfl (by decide) (by decide) dX7_selves_65 (fun v22 lv' hlv => ?_)
              obtain rfl : lv' = [(3, .int v22), (1, .int s10.1), (2, .int s1.2), (0, .ref (ad 0))] := hlv.symm.trans rfl
              refine zr_goto (tgt := 17) hB (by decide) dX7_selves_68 ?_
              exact zr_sub [1, 0, 2, 3] rfl (hc12 (s10.1, v22))
            · refine zr_iload_n hB 0 rfl rfl dX7_selves_59 ?_
              refine zr_iconst (v := 1) hB (by decide) dX7_selves_60 ?_
              refine zr_iload_n hB 2 rfl rfl dX7_selves_61 ?_
              refine zr_ishl hB dX7_selves_62 ?_
              refine zr_ior hB dX7_selves_63 ?_
              refine zr_letI (fun v23 => ?_)
              refine zr_istore_n (lv' := [(1, .int v23), (3, .int s10.2), (2, .int s1.2), (0, .ref (ad 0))]) hB rfl (by decide) rfl dX7_selves_64 ?_
              refine zr_iincL hB (j := 1) (n := 1) (w := 1) rfl (by decide) (by decide) dX7_selves_65 (fun v24 lv' hlv => ?_)
              obtain rfl : lv' = [(3, .int v24), (1, .int v23), (2, .int s1.2), (0, .ref (ad 0))] := hlv.symm.trans rfl
              refine zr_goto (tgt := 17) hB (by decide) dX7_selves_68 ?_
              exact zr_sub [1, 0, 2, 3] rfl (hc12 (v23, v24))

def fX7_isRoomAndThing (a1 : Int32) (I : zI) : Option (Int32) :=
  if a1 < 0 then
    some 0
  else
  zb (fX7_isRoom (a1 / 10)) fun o2 =>
  if o2 = 0 then
    some 0
  else
  zb (fX7_isThing (zrem a1 10) I) fun o4 =>
  if o4 = 0 then
    some 0
  else
  some 1
set_option maxHeartbeats 4000000 in
set_option maxRecDepth 100000 in
theorem mX7_isRoomAndThing {l : Launch} {D : va_G} {T : zT} {ad sK sV : Nat → Nat} (hi : zInj ad) (a1 : Int32)  (I : zI) (L : zL) : ∀ o, fX7_isRoomAndThing a1 I = some o → zMet l yX7_isRoomAndThing cX7_isRoomAndThing 2 (some .boolean) 2 43 D T ad sK sV [.ref (ad 0), .int a1] I L (em_i0 I L o) := by
  intro o ho
  refine zMet.of hi (by decide +kernel) (Nat.le_of_ble_eq_true rfl) (fun p e s m args below meth c hB => ?_)
  refine zr_top (emb := em_i0 I L) (t := fX7_isRoomAndThing a1 I) ?_ ho
  unfold fX7_isRoomAndThing
  refine zr_iload_n hB 1 rfl rfl dX7_isRoomAndThing_0 ?_
  refine zr_iflt (tgt := 29) hB (by decide) dX7_isRoomAndThing_1 ?_ ?_
  · refine zr_iconst (v := 0) hB (by decide) dX7_isRoomAndThing_29 ?_
    exact zr_zretC (by decide) hB rfl rfl dX7_isRoomAndThing_30
  · refine zr_iload_n hB 1 rfl rfl dX7_isRoomAndThing_4 ?_
    refine zr_bipush (v := 10) hB (by decide) dX7_isRoomAndThing_5 ?_
    refine zr_idivC hB (by decide) dX7_isRoomAndThing_7 ?_
    refine zr_callS (st := []) (As := [.int (a1 / 10)]) (embc := em_i0 I L) hB (mX7_isRoom (sK := sK) (sV := sV) hi (a1 / 10) I L) lm_X7_47 q2_X7_isRoom q4_X7 q5_X7_isRoom qd_X7_isRoom (by decide) rfl rfl (Nat.le_of_ble_eq_true rfl) ⟨Nat.zero_le _, Nat.zero_le _⟩ dX7_isRoomAndThing_8 (zr_ki0 (fun o2 => ?_))
    refine zr_ifeq (tgt := 29) hB (by decide) dX7_isRoomAndThing_11 ?_ ?_
    · refine zr_iconst (v := 0) hB (by decide) dX7_isRoomAndThing_29 ?_
      exact zr_zretC (by decide) hB rfl rfl dX7_isRoomAndThing_30
    · refine zr_aload_n hB 0 rfl rfl dX7_isRoomAndThing_14 ?_
      refine zr_iload_n hB 1 rfl rfl dX7_isRoomAndThing_15 ?_
      refine zr_bipush (v := 10) hB (by decide) dX7_isRoomAndThing_16 ?_
      refine zr_iremC hB (by decide) dX7_isRoomAndThing_18 ?_
      refine zr_callV (st := []) (C := RX7) (As := [.int (zrem a1 10)]) (embc := em_i0 I L) hB (mX7_isThing (sK := sK) (sV := sV) hi (zrem a1 10) I L) (zW_X7 rfl) rfl rfl lm_X7_84 q2_X7_isThing q3_X7_isThing q4_X7 q5_X7_isThing qd_X7_isThing (by decide) rfl rfl (Nat.le_of_ble_eq_true rfl) ⟨Nat.zero_le _, Nat.zero_le _⟩ dX7_isRoomAndThing_19 (zr_ki0 (fun o4 => ?_))
      refine zr_ifeq (tgt := 29) hB (by decide) dX7_isRoomAndThing_22 ?_ ?_
      · refine zr_iconst (v := 0) hB (by decide) dX7_isRoomAndThing_29 ?_
        exact zr_zretC (by decide) hB rfl rfl dX7_isRoomAndThing_30
      · refine zr_iconst (v := 1) hB (by decide) dX7_isRoomAndThing_25 ?_
        refine zr_goto (tgt := 30) hB (by decide) dX7_isRoomAndThing_26 ?_
        exact zr_zretC (by decide) hB rfl rfl dX7_isRoomAndThing_30

def fX7_agree (a1 : Int32) (a2 : Int32) (a3 : Int32) (a4 : Int32) (I : zI) : Option (Int32 × zI) :=
  zb (fX7_isOne a1 I) fun o2 =>
  if o2 = 0 then
    zb (fX7_finding (-1000001) I) fun o5 =>
    some (o5.1, o5.2)
  else
  zb (fX7_isOne a3 I) fun o7 =>
  if o7 = 0 then
    zb (fX7_finding (-1000001) I) fun o10 =>
    some (o10.1, o10.2)
  else
  if a1 = a3 then
    zb (fX7_finding (-1000001) I) fun o13 =>
    some (o13.1, o13.2)
  else
  zb (fX7_isRoomAndThing a2 I) fun o15 =>
  if o15 = 0 then
    zb (fX7_finding (-1000001) I) fun o18 =>
    some (o18.1, o18.2)
  else
  zb (fX7_isRoomAndThing a4 I) fun o20 =>
  if o20 = 0 then
    zb (fX7_finding (-1000001) I) fun o28 =>
    some (o28.1, o28.2)
  else
  zl (zrem a2 10) fun v21 =>
  if v21 = (zrem a4 10) then
    zb (fX6_canReach 1 a1 v21 I) fun o23 =>
    zb (fX6_canReach 1 a3 v21 I) fun o25 =>
    if o23 = 0 then
      some (1, I)
    else
    if o25 = 0 then
      some (1, I)
    else
    if (a2 / 10) = (a4 / 10) then
      some (1, I)
    else
    some (0, I)
  else
  some (1, I)
set_option maxHeartbeats 4000000 in
set_option maxRecDepth 100000 in
theorem mX7_agree {l : Launch} {D : va_G} {T : zT} {ad sK sV : Nat → Nat} (hi : zInj ad) (a1 : Int32) (a2 : Int32) (a3 : Int32) (a4 : Int32)  (I : zI) (L : zL) : ∀ o, fX7_agree a1 a2 a3 a4 I = some o → zMet l yX7_agree cX7_agree 8 (some .int) 3 68 D T ad sK sV [.ref (ad 0), .int a1, .int a2, .int a3, .int a4] I L (em_iI L o) := by
  intro o ho
  refine zMet.of hi (by decide +kernel) (Nat.le_of_ble_eq_true rfl) (fun p e s m args below meth c hB => ?_)
  refine zr_top (emb := em_iI L) (t := fX7_agree a1 a2 a3 a4 I) ?_ ho
  unfold fX7_agree
  refine zr_aload_n hB 0 rfl rfl dX7_agree_0 ?_
  refine zr_iload_n hB 1 rfl rfl dX7_agree_1 ?_
  refine zr_callV (st := []) (C := RX7) (As := [.int a1]) (embc := em_i0 I L) hB (mX7_isOne (sK := sK) (sV := sV) hi a1 I L) (zW_X7 rfl) rfl rfl lm_X7_109 q2_X7_isOne q3_X7_isOne q4_X7 q5_X7_isOne qd_X7_isOne (by decide) rfl rfl (Nat.le_of_ble_eq_true rfl) ⟨Nat.zero_le _, Nat.zero_le _⟩ dX7_agree_2 (zr_ki0 (fun o2 => ?_))
  refine zr_ifeq (tgt := 38) hB (by decide) dX7_agree_5 ?_ ?_
  · refine zr_aload_n hB 0 rfl rfl dX7_agree_38 ?_
    refine zr_ldc (v := (-1000001)) hB lk_X7_55 dX7_agree_39 ?_
    refine zr_callV (st := []) (C := RX7) (As := [.int (-1000001)]) (embc := em_iI L) hB (mX7_finding (sK := sK) (sV := sV) hi (-1000001) I L) (zW_X7 rfl) rfl rfl lm_X7_56 q2_X7_finding q3_X7_finding q4_X7 q5_X7_finding qd_X7_finding (by decide) rfl rfl (Nat.le_of_ble_eq_true rfl) ⟨Nat.zero_le _, Nat.zero_le _⟩ dX7_agree_41 (zr_kiI (fun o5 => ?_))
    exact zr_iret hB rfl rfl dX7_agree_44
  · refine zr_aload_n hB 0 rfl rfl dX7_agree_8 ?_
    refine zr_iload_n hB 3 rfl rfl dX7_agree_9 ?_
    refine zr_callV (st := []) (C := RX7) (As := [.int a3]) (embc := em_i0 I L) hB (mX7_isOne (sK := sK) (sV := sV) hi a3 I L) (zW_X7 rfl) rfl rfl lm_X7_109 q2_X7_isOne q3_X7_isOne q4_X7 q5_X7_isOne qd_X7_isOne (by decide) rfl rfl (Nat.le_of_ble_eq_true rfl) ⟨Nat.zero_le _, Nat.zero_le _⟩ dX7_agree_10 (zr_ki0 (fun o7 => ?_))
    refine zr_ifeq (tgt := 38) hB (by decide) dX7_agree_13 ?_ ?_
    · refine zr_aload_n hB 0 rfl rfl dX7_agree_38 ?_
      refine zr_ldc (v := (-1000001)) hB lk_X7_55 dX7_agree_39 ?_
      refine zr_callV (st := []) (C := RX7) (As := [.int (-1000001)]) (embc := em_iI L) hB (mX7_finding (sK := sK) (sV := sV) hi (-1000001) I L) (zW_X7 rfl) rfl rfl lm_X7_56 q2_X7_finding q3_X7_finding q4_X7 q5_X7_finding qd_X7_finding (by decide) rfl rfl (Nat.le_of_ble_eq_true rfl) ⟨Nat.zero_le _, Nat.zero_le _⟩ dX7_agree_41 (zr_kiI (fun o10 => ?_))
      exact zr_iret hB rfl rfl dX7_agree_44
    · refine zr_iload_n hB 1 rfl rfl dX7_agree_16 ?_
      refine zr_iload_n hB 3 rfl rfl dX7_agree_17 ?_
      refine zr_icmp_eq (tgt := 38) hB (by decide) dX7_agree_18 ?_ ?_
      · refine zr_aload_n hB 0 rfl rfl dX7_agree_38 ?_
        refine zr_ldc (v := (-1000001)) hB lk_X7_55 dX7_agree_39 ?_
        refine zr_callV (st := []) (C := RX7) (As := [.int (-1000001)]) (embc := em_iI L) hB (mX7_finding (sK := sK) (sV := sV) hi (-1000001) I L) (zW_X7 rfl) rfl rfl lm_X7_56 q2_X7_finding q3_X7_finding q4_X7 q5_X7_finding qd_X7_finding (by decide) rfl rfl (Nat.le_of_ble_eq_true rfl) ⟨Nat.zero_le _, Nat.zero_le _⟩ dX7_agree_41 (zr_kiI (fun o13 => ?_))
        exact zr_iret hB rfl rfl dX7_agree_44
      · refine zr_aload_n hB 0 rfl rfl dX7_agree_21 ?_
        refine zr_iload_n hB 2 rfl rfl dX7_agree_22 ?_
        refine zr_callV (st := []) (C := RX7) (As := [.int a2]) (embc := em_i0 I L) hB (mX7_isRoomAndThing (sK := sK) (sV := sV) hi a2 I L) (zW_X7 rfl) rfl rfl lm_X7_225 q2_X7_isRoomAndThing q3_X7_isRoomAndThing q4_X7 q5_X7_isRoomAndThing qd_X7_isRoomAndThing (by decide) rfl rfl (Nat.le_of_ble_eq_true rfl) ⟨Nat.zero_le _, Nat.zero_le _⟩ dX7_agree_23 (zr_ki0 (fun o15 => ?_))
        refine zr_ifeq (tgt := 38) hB (by decide) dX7_agree_26 ?_ ?_
        · refine zr_aload_n hB 0 rfl rfl dX7_agree_38 ?_
          refine zr_ldc (v := (-1000001)) hB lk_X7_55 dX7_agree_39 ?_
          refine zr_callV (st := []) (C := RX7) (As := [.int (-1000001)]) (embc := em_iI L) hB (mX7_finding (sK := sK) (sV := sV) hi (-1000001) I L) (zW_X7 rfl) rfl rfl lm_X7_56 q2_X7_finding q3_X7_finding q4_X7 q5_X7_finding qd_X7_finding (by decide) rfl rfl (Nat.le_of_ble_eq_true rfl) ⟨Nat.zero_le _, Nat.zero_le _⟩ dX7_agree_41 (zr_kiI (fun o18 => ?_))
          exact zr_iret hB rfl rfl dX7_agree_44
        · refine zr_aload_n hB 0 rfl rfl dX7_agree_29 ?_
          refine zr_iload hB 4 rfl dX7_agree_30 ?_
          refine zr_callV (st := []) (C := RX7) (As := [.int a4]) (embc := em_i0 I L) hB (mX7_isRoomAndThing (sK := sK) (sV := sV) hi a4 I L) (zW_X7 rfl) rfl rfl lm_X7_225 q2_X7_isRoomAndThing q3_X7_isRoomAndThing q4_X7 q5_X7_isRoomAndThing qd_X7_isRoomAndThing (by decide) rfl rfl (Nat.le_of_ble_eq_true rfl) ⟨Nat.zero_le _, Nat.zero_le _⟩ dX7_agree_32 (zr_ki0 (fun o20 => ?_))
          refine zr_ifne (tgt := 45) hB (by decide) dX7_agree_35 ?_ ?_
          · refine zr_iload_n hB 2 rfl rfl dX7_agree_45 ?_
            refine zr_bipush (v := 10) hB (by decide) dX7_agree_46 ?_
            refine zr_iremC hB (by decide) dX7_agree_48 ?_
            refine zr_letI (fun v21 => ?_)
            refine zr_istore (lv' := [(5, .int v21), (0, .ref (ad 0)), (1, .int a1), (2, .int a2), (3, .int a3), (4, .int a4)]) hB (by decide) rfl dX7_agree_49 ?_
            refine zr_iload hB 0 rfl dX7_agree_51 ?_
            refine zr_iload hB 5 rfl dX7_agree_53 ?_
            refine zr_bipush (v := 10) hB (by decide) dX7_agree_55 ?_
            refine zr_iremC hB (by decide) dX7_agree_57 ?_
            refine zr_icmp_eq (tgt := 63) hB (by decide) dX7_agree_58 ?_ ?_
            · refine zr_aload_n hB 1 rfl rfl dX7_agree_63 ?_
              refine zr_get_X7 (w := 0) (k := 0) (v := .ref (ad 1)) hB rfl (by decide) rfl lf_X7_12 rfl dX7_agree_64 ?_
              refine zr_iload_n hB 2 rfl rfl dX7_agree_67 ?_
              refine zr_iload hB 0 rfl dX7_agree_68 ?_
              refine zr_callV (st := []) (C := RX6) (As := [.int a1, .int v21]) (embc := em_i0 I L) hB (mX6_canReach (sK := sK) (sV := sV) hi 1 a1 v21 (Or.inl rfl) I L) (zW_X6 (Or.inl rfl)) rfl rfl lm_X7_147 q2_X6_canReach q3_X6_canReach q4_X6 q5_X6_canReach qd_X6_canReach (by decide) rfl rfl (Nat.le_of_ble_eq_true rfl) ⟨Nat.zero_le _, Nat.zero_le _⟩ dX7_agree_70 (zr_ki0 (fun o23 => ?_))
              refine zr_istore (lv' := [(6, .int o23), (5, .int v21), (0, .ref (ad 0)), (1, .int a1), (2, .int a2), (3, .int a3), (4, .int a4)]) hB (by decide) rfl dX7_agree_73 ?_
              refine zr_aload_n hB 2 rfl rfl dX7_agree_75 ?_
              refine zr_get_X7 (w := 0) (k := 0) (v := .ref (ad 1)) hB rfl (by decide) rfl lf_X7_12 rfl dX7_agree_76 ?_
              refine zr_iload_n hB 5 rfl rfl dX7_agree_79 ?_
              refine zr_iload hB 1 rfl dX7_agree_80 ?_
              refine zr_callV (st := []) (C := RX6) (As := [.int a3, .int v21]) (embc := em_i0 I L) hB (mX6_canReach (sK := sK) (sV := sV) hi 1 a3 v21 (Or.inl rfl) I L) (zW_X6 (Or.inl rfl)) rfl rfl lm_X7_147 q2_X6_canReach q3_X6_canReach q4_X6 q5_X6_canReach qd_X6_canReach (by decide) rfl rfl (Nat.le_of_ble_eq_true rfl) ⟨Nat.zero_le _, Nat.zero_le _⟩ dX7_agree_82 (zr_ki0 (fun o25 => ?_))
              refine zr_istore (lv' := [(7, .int o25), (6, .int o23), (5, .int v21), (0, .ref (ad 0)), (1, .int a1), (2, .int a2), (3, .int a3), (4, .int a4)]) hB (by decide) rfl dX7_agree_85 ?_
              refine zr_iload hB 1 rfl dX7_agree_87 ?_
              refine zr_ifeq (tgt := 113) hB (by decide) dX7_agree_89 ?_ ?_
              · refine zr_iconst (v := 1) hB (by decide) dX7_agree_113 ?_
                exact zr_iret hB rfl rfl dX7_agree_114
              · refine zr_iload hB 0 rfl dX7_agree_92 ?_
                refine zr_ifeq (tgt := 113) hB (by decide) dX7_agree_94 ?_ ?_
                · refine zr_iconst (v := 1) hB (by decide) dX7_agree_113 ?_
                  exact zr_iret hB rfl rfl dX7_agree_114
                · refine zr_iload_n hB 5 rfl rfl dX7_agree_97 ?_
                  refine zr_bipush (v := 10) hB (by decide) dX7_agree_98 ?_
                  refine zr_idivC hB (by decide) dX7_agree_100 ?_
                  refine zr_iload hB 7 rfl dX7_agree_101 ?_
                  refine zr_bipush (v := 10) hB (by decide) dX7_agree_103 ?_
                  refine zr_idivC hB (by decide) dX7_agree_105 ?_
                  refine zr_icmp_eq (tgt := 113) hB (by decide) dX7_agree_106 ?_ ?_
                  · refine zr_iconst (v := 1) hB (by decide) dX7_agree_113 ?_
                    exact zr_iret hB rfl rfl dX7_agree_114
                  · refine zr_iconst (v := 0) hB (by decide) dX7_agree_109 ?_
                    refine zr_goto (tgt := 114) hB (by decide) dX7_agree_110 ?_
                    exact zr_iret hB rfl rfl dX7_agree_114
            · refine zr_iconst (v := 1) hB (by decide) dX7_agree_61 ?_
              exact zr_iret hB rfl rfl dX7_agree_62
          · refine zr_aload_n hB 0 rfl rfl dX7_agree_38 ?_
            refine zr_ldc (v := (-1000001)) hB lk_X7_55 dX7_agree_39 ?_
            refine zr_callV (st := []) (C := RX7) (As := [.int (-1000001)]) (embc := em_iI L) hB (mX7_finding (sK := sK) (sV := sV) hi (-1000001) I L) (zW_X7 rfl) rfl rfl lm_X7_56 q2_X7_finding q3_X7_finding q4_X7 q5_X7_finding qd_X7_finding (by decide) rfl rfl (Nat.le_of_ble_eq_true rfl) ⟨Nat.zero_le _, Nat.zero_le _⟩ dX7_agree_41 (zr_kiI (fun o28 => ?_))
            exact zr_iret hB rfl rfl dX7_agree_44

def fX7_stepsWithDoor (n : Nat) (a1 : Int32) (a2 : Int32) (a3 : Int32) (a4 : Int32) (a5 : Int32) (I : zI) (L : zL) : Option (Int32 × zI × zL) :=
  zb (fX6_setDoor 19 a1 a2 1 I) fun o3 =>
  zb (fX1_fewestFor n 19 a3 a4 a5 o3 L) fun o7 =>
  zb (fX6_setDoor 19 a1 a2 0 o7.2.1) fun o10 =>
  some (o7.1, o10, o7.2.2)
set_option maxHeartbeats 4000000 in
set_option maxRecDepth 100000 in
theorem mX7_stepsWithDoor {l : Launch} {D : va_G} {T : zT} {ad sK sV : Nat → Nat} (hi : zInj ad) (n : Nat) (a1 : Int32) (a2 : Int32) (a3 : Int32) (a4 : Int32) (a5 : Int32)  (I : zI) (L : zL) : ∀ o, fX7_stepsWithDoor n a1 a2 a3 a4 a5 I L = some o → zMet l yX7_stepsWithDoor cX7_stepsWithDoor 7 (some .int) 5 124 D T ad sK sV [.ref (ad 0), .int a1, .int a2, .int a3, .int a4, .int a5] I L (em_iL o) := by
  intro o ho
  refine zMet.of hi (by decide +kernel) (Nat.le_of_ble_eq_true rfl) (fun p e s m args below meth c hB => ?_)
  refine zr_top (emb := em_iL) (t := fX7_stepsWithDoor n a1 a2 a3 a4 a5 I L) ?_ ho
  unfold fX7_stepsWithDoor
  refine zr_aload_n hB 0 rfl rfl dX7_stepsWithDoor_0 ?_
  refine zr_get_X7 (w := 0) (k := 2) (v := .ref (ad 19)) hB rfl (by decide) rfl lf_X7_19 rfl dX7_stepsWithDoor_1 ?_
  refine zr_iload_n hB 1 rfl rfl dX7_stepsWithDoor_4 ?_
  refine zr_iload_n hB 2 rfl rfl dX7_stepsWithDoor_5 ?_
  refine zr_iconst (v := 1) hB (by decide) dX7_stepsWithDoor_6 ?_
  refine zr_callV (st := []) (C := RX6) (As := [.int a1, .int a2, .int 1]) (embc := em_vI L) hB (mX6_setDoor (sK := sK) (sV := sV) hi 19 a1 a2 1 (Or.inr (Or.inr rfl)) I L) (zW_X6 (Or.inr (Or.inr rfl))) rfl rfl lm_X7_64 q2_X6_setDoor q3_X6_setDoor q4_X6 q5_X6_setDoor qd_X6_setDoor (by decide) rfl rfl (Nat.le_of_ble_eq_true rfl) ⟨Nat.zero_le _, Nat.zero_le _⟩ dX7_stepsWithDoor_7 (zr_kvI (fun o3 => ?_))
  refine zr_aload_n hB 0 rfl rfl dX7_stepsWithDoor_10 ?_
  refine zr_get_X7 (w := 0) (k := 4) (v := .ref (ad 28)) hB rfl (by decide) rfl lf_X7_25 rfl dX7_stepsWithDoor_11 ?_
  refine zr_aload_n hB 0 rfl rfl dX7_stepsWithDoor_14 ?_
  refine zr_get_X7 (w := 0) (k := 2) (v := .ref (ad 19)) hB rfl (by decide) rfl lf_X7_19 rfl dX7_stepsWithDoor_15 ?_
  refine zr_iload_n hB 3 rfl rfl dX7_stepsWithDoor_18 ?_
  refine zr_iload hB 4 rfl dX7_stepsWithDoor_19 ?_
  refine zr_iload hB 5 rfl dX7_stepsWithDoor_21 ?_
  refine zr_callV (st := []) (C := RX1) (As := [.ref (ad 19), .int a3, .int a4, .int a5]) (embc := em_iL) hB (mX1_fewestFor (sK := sK) (sV := sV) hi n 19 a3 a4 a5 (Or.inr (Or.inr rfl)) o3 L) (zW_X1 rfl) rfl rfl lm_X7_198 q2_X1_fewestFor q3_X1_fewestFor q4_X1 q5_X1_fewestFor qd_X1_fewestFor (by decide) rfl rfl (Nat.le_of_ble_eq_true rfl) ⟨Nat.zero_le _, Nat.zero_le _⟩ dX7_stepsWithDoor_23 (zr_kiL (fun o7 => ?_))
  refine zr_istore (lv' := [(6, .int o7.1), (0, .ref (ad 0)), (1, .int a1), (2, .int a2), (3, .int a3), (4, .int a4), (5, .int a5)]) hB (by decide) rfl dX7_stepsWithDoor_26 ?_
  refine zr_aload_n hB 1 rfl rfl dX7_stepsWithDoor_28 ?_
  refine zr_get_X7 (w := 0) (k := 2) (v := .ref (ad 19)) hB rfl (by decide) rfl lf_X7_19 rfl dX7_stepsWithDoor_29 ?_
  refine zr_iload_n hB 2 rfl rfl dX7_stepsWithDoor_32 ?_
  refine zr_iload_n hB 3 rfl rfl dX7_stepsWithDoor_33 ?_
  refine zr_iconst (v := 0) hB (by decide) dX7_stepsWithDoor_34 ?_
  refine zr_callV (st := []) (C := RX6) (As := [.int a1, .int a2, .int 0]) (embc := em_vI o7.2.2) hB (mX6_setDoor (sK := sK) (sV := sV) hi 19 a1 a2 0 (Or.inr (Or.inr rfl)) o7.2.1 o7.2.2) (zW_X6 (Or.inr (Or.inr rfl))) rfl rfl lm_X7_64 q2_X6_setDoor q3_X6_setDoor q4_X6 q5_X6_setDoor qd_X6_setDoor (by decide) rfl rfl (Nat.le_of_ble_eq_true rfl) ⟨Nat.zero_le _, Nat.zero_le _⟩ dX7_stepsWithDoor_35 (zr_kvI (fun o10 => ?_))
  refine zr_iload hB 0 rfl dX7_stepsWithDoor_38 ?_
  exact zr_iret hB rfl rfl dX7_stepsWithDoor_40

def gX7_opens_50 (n : Nat) (a1 : Int32) (a2 : Int32) (a3 : Int32) (s6 : Int32 × Int32 × Int32 × zI × zL) (s16 : Int32 × Int32 × Int32 × zI × zL) : Option ((Int32 × Int32 × Int32 × zI × zL) ⊕ (Int32 × Int32 × zI × zL)) :=
  if 8 ≤ s16.2.2.1 then
    some (.inr (s16.1, s16.2.1, s16.2.2.2.1, s16.2.2.2.2))
  else
  zb (fX6_isOpen 1 s6.2.2.1 s16.2.2.1 s16.2.2.2.1) fun o26 =>
  zb (
    if o26 = 0 then
      zb (fX7_stepsWithDoor n s6.2.2.1 s16.2.2.1 a1 a2 a3 s16.2.2.2.1 s16.2.2.2.2) fun o34 =>
      some (o34.1, o34.2.1, o34.2.2)
    else
    some ((-1), s16.2.2.2.1, s16.2.2.2.2)) fun x27 : Int32 × zI × zL =>
  zb (fX7_isFewer x27.1 s16.2.1) fun o36 =>
  if o36 = 0 then
    zl (s16.2.2.1 + 1) fun v37 =>
    some (.inl (s16.1, s16.2.1, v37, x27.2.1, x27.2.2))
  else
  zl ((10 * s6.2.2.1) + s16.2.2.1) fun v38 =>
  zl (s16.2.2.1 + 1) fun v39 =>
  some (.inl (v38, x27.1, v39, x27.2.1, x27.2.2))
def gX7_opens_37 (n : Nat) (a1 : Int32) (a2 : Int32) (a3 : Int32) (s6 : Int32 × Int32 × Int32 × zI × zL) : Option ((Int32 × Int32 × Int32 × zI × zL) ⊕ (Int32 × zI × zL)) :=
  if 8 ≤ s6.2.2.1 then
    some (.inr (s6.1, s6.2.2.2.1, s6.2.2.2.2))
  else
  zl (s6.2.2.1 + 1) fun v15 =>
  zb (zit (gX7_opens_50 n a1 a2 a3 s6) n (s6.1, s6.2.1, v15, s6.2.2.2.1, s6.2.2.2.2)) fun x17 : Int32 × Int32 × zI × zL =>
  zl (s6.2.2.1 + 1) fun v40 =>
  some (.inl (x17.1, x17.2.1, v40, x17.2.2.1, x17.2.2.2))
def fX7_opens (n : Nat) (a1 : Int32) (a2 : Int32) (a3 : Int32) (I : zI) (L : zL) : Option (Int32 × zI × zL) :=
  zb (fX7_isTask a1 a2 a3 I) fun o2 =>
  if o2 = 0 then
    zb (fX7_finding (-1000001) I) fun o46 =>
    some (o46.1, o46.2, L)
  else
  zb (fX6_become 19 1 I) fun o5 =>
  zb (zit (gX7_opens_37 n a1 a2 a3) n ((-1), (-1), 0, o5, L)) fun x7 : Int32 × zI × zL =>
  zb (fX7_foundOrNone x7.1 x7.2.1) fun o43 =>
  some (o43.1, o43.2, x7.2.2)
set_option maxHeartbeats 4000000 in
set_option maxRecDepth 100000 in
theorem mX7_opens {l : Launch} {D : va_G} {T : zT} {ad sK sV : Nat → Nat} (hi : zInj ad) (n : Nat) (a1 : Int32) (a2 : Int32) (a3 : Int32)  (I : zI) (L : zL) : ∀ o, fX7_opens n a1 a2 a3 I L = some o → zMet l yX7_opens cX7_opens 9 (some .int) 6 150 D T ad sK sV [.ref (ad 0), .int a1, .int a2, .int a3] I L (em_iL o) := by
  intro o ho
  refine zMet.of hi (by decide +kernel) (Nat.le_of_ble_eq_true rfl) (fun p e s m args below meth c hB => ?_)
  refine zr_top (emb := em_iL) (t := fX7_opens n a1 a2 a3 I L) ?_ ho
  unfold fX7_opens
  refine zr_aload_n hB 0 rfl rfl dX7_opens_0 ?_
  refine zr_iload_n hB 1 rfl rfl dX7_opens_1 ?_
  refine zr_iload_n hB 2 rfl rfl dX7_opens_2 ?_
  refine zr_iload_n hB 3 rfl rfl dX7_opens_3 ?_
  refine zr_callV (st := []) (C := RX7) (As := [.int a1, .int a2, .int a3]) (embc := em_i0 I L) hB (mX7_isTask (sK := sK) (sV := sV) hi a1 a2 a3 I L) (zW_X7 rfl) rfl rfl lm_X7_195 q2_X7_isTask q3_X7_isTask q4_X7 q5_X7_isTask qd_X7_isTask (by decide) rfl rfl (Nat.le_of_ble_eq_true rfl) ⟨Nat.zero_le _, Nat.zero_le _⟩ dX7_opens_4 (zr_ki0 (fun o2 => ?_))
  refine zr_ifne (tgt := 17) hB (by decide) dX7_opens_7 ?_ ?_
  · refine zr_aload_n hB 0 rfl rfl dX7_opens_17 ?_
    refine zr_get_X7 (w := 0) (k := 2) (v := .ref (ad 19)) hB rfl (by decide) rfl lf_X7_19 rfl dX7_opens_18 ?_
    refine zr_aload_n hB 0 rfl rfl dX7_opens_21 ?_
    refine zr_get_X7 (w := 0) (k := 0) (v := .ref (ad 1)) hB rfl (by decide) rfl lf_X7_12 rfl dX7_opens_22 ?_
    refine zr_callV (st := []) (C := RX6) (As := [.ref (ad 1)]) (embc := em_vI L) hB (mX6_become (sK := sK) (sV := sV) hi 19 1 (Or.inr (Or.inr rfl)) (Or.inl rfl) I L) (zW_X6 (Or.inr (Or.inr rfl))) rfl rfl lm_X7_209 q2_X6_become q3_X6_become q4_X6 q5_X6_become qd_X6_become (by decide) rfl rfl (Nat.le_of_ble_eq_true rfl) ⟨Nat.zero_le _, Nat.zero_le _⟩ dX7_opens_25 (zr_kvI (fun o5 => ?_))
    refine zr_iconst (v := (-1)) hB (by decide) dX7_opens_28 ?_
    refine zr_istore (lv' := [(4, .int (-1)), (0, .ref (ad 0)), (1, .int a1), (2, .int a2), (3, .int a3)]) hB (by decide) rfl dX7_opens_29 ?_
    refine zr_iconst (v := (-1)) hB (by decide) dX7_opens_31 ?_
    refine zr_istore (lv' := [(5, .int (-1)), (4, .int (-1)), (0, .ref (ad 0)), (1, .int a1), (2, .int a2), (3, .int a3)]) hB (by decide) rfl dX7_opens_32 ?_
    refine zr_iconst (v := 0) hB (by decide) dX7_opens_34 ?_
    refine zr_istore (lv' := [(6, .int 0), (5, .int (-1)), (4, .int (-1)), (0, .ref (ad 0)), (1, .int a1), (2, .int a2), (3, .int a3)]) hB (by decide) rfl dX7_opens_35 ?_
    refine zr_join (pcJ := 124) (fun x7 : Int32 × zI × zL => [(4, .int x7.1), (0, .ref (ad 0))]) (fun _ => []) (fun x7 => x7.2.1) (fun x7 => x7.2.2) (fun x7 => ?_) (fun K13 hx12 => ?_)
    · refine zr_aload_n hB 1 rfl rfl dX7_opens_124 ?_
      refine zr_iload hB 0 rfl dX7_opens_125 ?_
      refine zr_callV (st := []) (C := RX7) (As := [.int x7.1]) (embc := em_iI x7.2.2) hB (mX7_foundOrNone (sK := sK) (sV := sV) hi x7.1 x7.2.1 x7.2.2) (zW_X7 rfl) rfl rfl lm_X7_192 q2_X7_foundOrNone q3_X7_foundOrNone q4_X7 q5_X7_foundOrNone qd_X7_foundOrNone (by decide) rfl rfl (Nat.le_of_ble_eq_true rfl) ⟨Nat.zero_le _, Nat.zero_le _⟩ dX7_opens_127 (zr_kiI (fun o43 => ?_))
      exact zr_iret hB rfl rfl dX7_opens_130
    · refine zr_sub (lv' := (fun s6 : Int32 × Int32 × Int32 × zI × zL => [(4, .int s6.1), (5, .int s6.2.1), (6, .int s6.2.2.1), (0, .ref (ad 0)), (1, .int a1), (2, .int a2), (3, .int a3)]) ((-1), (-1), 0, o5, L)) [2, 1, 0, 3, 4, 5, 6] rfl (zr_loop (fun s6 : Int32 × Int32 × Int32 × zI × zL => [(4, .int s6.1), (5, .int s6.2.1), (6, .int s6.2.2.1), (0, .ref (ad 0)), (1, .int a1), (2, .int a2), (3, .int a3)]) (fun s6 => s6.2.2.2.1) (fun s6 => s6.2.2.2.2) (fun x7 : Int32 × zI × zL => [(4, .int x7.1), (0, .ref (ad 0))]) (fun x7 => x7.2.1) (fun x7 => x7.2.2) hx12 (fun s6 K14 hc8 hx9 => ?_) n ((-1), (-1), 0, o5, L))
      unfold gX7_opens_37
      refine zr_iload hB 2 rfl dX7_opens_37 ?_
      refine zr_bipush (v := 8) hB (by decide) dX7_opens_39 ?_
      refine zr_icmp_ge (tgt := 124) hB (by decide) dX7_opens_41 ?_ ?_
      · exact zr_sub [0, 3] rfl (hx9 (s6.1, s6.2.2.2.1, s6.2.2.2.2))
      · refine zr_iload hB 2 rfl dX7_opens_44 ?_
        refine zr_iconst (v := 1) hB (by decide) dX7_opens_46 ?_
        refine zr_iadd hB dX7_opens_47 ?_
        refine zr_letI (fun v15 => ?_)
        refine zr_istore (lv' := [(7, .int v15), (4, .int s6.1), (5, .int s6.2.1), (6, .int s6.2.2.1), (0, .ref (ad 0)), (1, .int a1), (2, .int a2), (3, .int a3)]) hB (by decide) rfl dX7_opens_48 ?_
        refine zr_join (pcJ := 118) (fun x17 : Int32 × Int32 × zI × zL => [(4, .int x17.1), (5, .int x17.2.1), (6, .int s6.2.2.1), (0, .ref (ad 0)), (1, .int a1), (2, .int a2), (3, .int a3)]) (fun _ => []) (fun x17 => x17.2.2.1) (fun x17 => x17.2.2.2) (fun x17 => ?_) (fun K23 hx22 => ?_)
        · refine zr_iincL hB (j := 2) (n := 1) (w := 1) rfl (by decide) (by decide) dX7_opens_118 (fun v40 lv' hlv => ?_)
          obtain rfl : lv' = [(6, .int v40), (4, .int x17.1), (5, .int x17.2.1), (0, .ref (ad 0)), (1, .int a1), (2, .int a2), (3, .int a3)] := hlv.symm.trans rfl
          refine zr_goto (tgt := 37) hB (by decide) dX7_opens_121 ?_
          exact zr_sub [1, 2, 0, 3, 4, 5, 6] rfl (hc8 (x17.1, x17.2.1, v40, x17.2.2.1, x17.2.2.2))
        · refine zr_sub (lv' := (fun s16 : Int32 × Int32 × Int32 × zI × zL => [(4, .int s16.1), (5, .int s16.2.1), (7, .int s16.2.2.1), (6, .int s6.2.2.1), (0, .ref (ad 0)), (1, .int a1), (2, .int a2), (3, .int a3)]) (s6.1, s6.2.1, v15, s6.2.2.2.1, s6.2.2.2.2)) [1, 2, 0, 3, 4, 5, 6, 7] rfl (zr_loop (fun s16 : Int32 × Int32 × Int32 × zI × zL => [(4, .int s16.1), (5, .int s16.2.1), (7, .int s16.2.2.1), (6, .int s6.2.2.1), (0, .ref (ad 0)), (1, .int a1), (2, .int a2), (3, .int a3)]) (fun s16 => s16.2.2.2.1) (fun s16 => s16.2.2.2.2) (fun x17 : Int32 × Int32 × zI × zL => [(4, .int x17.1), (5, .int x17.2.1), (6, .int s6.2.2.1), (0, .ref (ad 0)), (1, .int a1), (2, .int a2), (3, .int a3)]) (fun x17 => x17.2.2.1) (fun x17 => x17.2.2.2) hx22 (fun s16 K24 hc18 hx19 => ?_) n (s6.1, s6.2.1, v15, s6.2.2.2.1, s6.2.2.2.2))
          unfold gX7_opens_50
          refine zr_iload hB 2 rfl dX7_opens_50 ?_
          refine zr_bipush (v := 8) hB (by decide) dX7_opens_52 ?_
          refine zr_icmp_ge (tgt := 118) hB (by decide) dX7_opens_54 ?_ ?_
          · exact zr_sub [0, 1, 3, 4, 5, 6, 7] rfl (hx19 (s16.1, s16.2.1, s16.2.2.2.1, s16.2.2.2.2))
          · refine zr_aload_n hB 4 rfl rfl dX7_opens_57 ?_
            refine zr_get_X7 (w := 0) (k := 0) (v := .ref (ad 1)) hB rfl (by decide) rfl lf_X7_12 rfl dX7_opens_58 ?_
            refine zr_iload hB 3 rfl dX7_opens_61 ?_
            refine zr_iload hB 2 rfl dX7_opens_63 ?_
            refine zr_callV (st := []) (C := RX6) (As := [.int s6.2.2.1, .int s16.2.2.1]) (embc := em_i0 s16.2.2.2.1 s16.2.2.2.2) hB (mX6_isOpen (sK := sK) (sV := sV) hi 1 s6.2.2.1 s16.2.2.1 (Or.inl rfl) s16.2.2.2.1 s16.2.2.2.2) (zW_X6 (Or.inl rfl)) rfl rfl lm_X7_60 q2_X6_isOpen q3_X6_isOpen q4_X6 q5_X6_isOpen qd_X6_isOpen (by decide) rfl rfl (Nat.le_of_ble_eq_true rfl) ⟨Nat.zero_le _, Nat.zero_le _⟩ dX7_opens_65 (zr_ki0 (fun o26 => ?_))
            refine zr_join (pcJ := 86) (fun x27 : Int32 × zI × zL => [(4, .int s16.1), (5, .int s16.2.1), (7, .int s16.2.2.1), (6, .int s6.2.2.1), (0, .ref (ad 0)), (1, .int a1), (2, .int a2), (3, .int a3)]) (fun x27 => [.int x27.1]) (fun x27 => x27.2.1) (fun x27 => x27.2.2) (fun x27 => ?_) (fun K30 hj28 => ?_)
            · refine zr_istore (lv' := [(8, .int x27.1), (4, .int s16.1), (5, .int s16.2.1), (7, .int s16.2.2.1), (6, .int s6.2.2.1), (0, .ref (ad 0)), (1, .int a1), (2, .int a2), (3, .int a3)]) hB (by decide) rfl dX7_opens_86 ?_
              refine zr_iload hB 0 rfl dX7_opens_88 ?_
              refine zr_iload hB 2 rfl dX7_opens_90 ?_
              refine zr_callS (st := []) (As := [.int x27.1, .int s16.2.1]) (embc := em_i0 x27.2.1 x27.2.2) hB (mX7_isFewer (sK := sK) (sV := sV) hi x27.1 s16.2.1 x27.2.1 x27.2.2) lm_X7_202 q2_X7_isFewer q4_X7 q5_X7_isFewer qd_X7_isFewer (by decide) rfl rfl (Nat.le_of_ble_eq_true rfl) ⟨Nat.zero_le _, Nat.zero_le _⟩ dX7_opens_92 (zr_ki0 (fun o36 => ?_))
              refine zr_ifeq (tgt := 112) hB (by decide) dX7_opens_95 ?_ ?_
              · refine zr_iincL hB (j := 3) (n := 1) (w := 1) rfl (by decide) (by decide) dX7_opens_112 (fun v37 lv' hlv => ?_)
                obtain rfl : lv' = [(7, .int v37), (8, .int x27.1), (4, .int s16.1), (5, .int s16.2.1), (6, .int s6.2.2.1), (0, .ref (ad 0)), (1, .int a1), (2, .int a2), (3, .int a3)] := hlv.symm.trans rfl
                refine zr_goto (tgt := 50) hB (by decide) dX7_opens_115 ?_
                exact zr_sub [2, 3, 0, 4, 5, 6, 7, 8] rfl (hc18 (s16.1, s16.2.1, v37, x27.2.1, x27.2.2))
              · refine zr_iload hB 0 rfl dX7_opens_98 ?_
                refine zr_istore (lv' := [(5, .int x27.1), (8, .int x27.1), (4, .int s16.1), (7, .int s16.2.2.1), (6, .int s6.2.2.1), (0, .ref (ad 0)), (1, .int a1), (2, .int a2), (3, .int a3)]) hB (by decide) rfl dX7_opens_100 ?_
                refine zr_bipush (v := 10) hB (by decide) dX7_opens_102 ?_
                refine zr_iload hB 4 rfl dX7_opens_104 ?_
                refine zr_imul hB dX7_opens_106 ?_
                refine zr_iload hB 3 rfl dX7_opens_107 ?_
                refine zr_iadd hB dX7_opens_109 ?_
                refine zr_letI (fun v38 => ?_)
                refine zr_istore (lv' := [(4, .int v38), (5, .int x27.1), (8, .int x27.1), (7, .int s16.2.2.1), (6, .int s6.2.2.1), (0, .ref (ad 0)), (1, .int a1), (2, .int a2), (3, .int a3)]) hB (by decide) rfl dX7_opens_110 ?_
                refine zr_iincL hB (j := 3) (n := 1) (w := 1) rfl (by decide) (by decide) dX7_opens_112 (fun v39 lv' hlv => ?_)
                obtain rfl : lv' = [(7, .int v39), (4, .int v38), (5, .int x27.1), (8, .int x27.1), (6, .int s6.2.2.1), (0, .ref (ad 0)), (1, .int a1), (2, .int a2), (3, .int a3)] := hlv.symm.trans rfl
                refine zr_goto (tgt := 50) hB (by decide) dX7_opens_115 ?_
                exact zr_sub [1, 2, 0, 4, 5, 6, 7, 8] rfl (hc18 (v38, x27.1, v39, x27.2.1, x27.2.2))
            · refine zr_ifeq (tgt := 75) hB (by decide) dX7_opens_68 ?_ ?_
              · refine zr_aload_n hB 4 rfl rfl dX7_opens_75 ?_
                refine zr_iload hB 3 rfl dX7_opens_76 ?_
                refine zr_iload hB 2 rfl dX7_opens_78 ?_
                refine zr_iload_n hB 5 rfl rfl dX7_opens_80 ?_
                refine zr_iload_n hB 6 rfl rfl dX7_opens_81 ?_
                refine zr_iload_n hB 7 rfl rfl dX7_opens_82 ?_
                refine zr_callV (st := []) (C := RX7) (As := [.int s6.2.2.1, .int s16.2.2.1, .int a1, .int a2, .int a3]) (embc := em_iL) hB (mX7_stepsWithDoor (sK := sK) (sV := sV) hi n s6.2.2.1 s16.2.2.1 a1 a2 a3 s16.2.2.2.1 s16.2.2.2.2) (zW_X7 rfl) rfl rfl lm_X7_228 q2_X7_stepsWithDoor q3_X7_stepsWithDoor q4_X7 q5_X7_stepsWithDoor qd_X7_stepsWithDoor (by decide) rfl rfl (Nat.le_of_ble_eq_true rfl) ⟨Nat.zero_le _, Nat.zero_le _⟩ dX7_opens_83 (zr_kiL (fun o34 => ?_))
                exact zr_sub [0, 1, 2, 3, 4, 5, 6, 7] rfl (hj28 (o34.1, o34.2.1, o34.2.2))
              · refine zr_iconst (v := (-1)) hB (by decide) dX7_opens_71 ?_
                refine zr_goto (tgt := 86) hB (by decide) dX7_opens_72 ?_
                exact zr_sub [0, 1, 2, 3, 4, 5, 6, 7] rfl (hj28 ((-1), s16.2.2.2.1, s16.2.2.2.2))
  · refine zr_aload_n hB 0 rfl rfl dX7_opens_10 ?_
    refine zr_ldc (v := (-1000001)) hB lk_X7_55 dX7_opens_11 ?_
    refine zr_callV (st := []) (C := RX7) (As := [.int (-1000001)]) (embc := em_iI L) hB (mX7_finding (sK := sK) (sV := sV) hi (-1000001) I L) (zW_X7 rfl) rfl rfl lm_X7_56 q2_X7_finding q3_X7_finding q4_X7 q5_X7_finding qd_X7_finding (by decide) rfl rfl (Nat.le_of_ble_eq_true rfl) ⟨Nat.zero_le _, Nat.zero_le _⟩ dX7_opens_13 (zr_kiI (fun o46 => ?_))
    exact zr_iret hB rfl rfl dX7_opens_16

def gX7_copies_33 (a1 : Int32) (a2 : Int32) (I : zI) (s8 : Int64 × Int32) : Option ((Int64 × Int32) ⊕ ((Int64 × zI) ⊕ (Int64))) :=
  if a2 ≤ s8.2 then
    some (.inr (.inr s8.1))
  else
  zdL a1.toInt64 (
  if (lg_cmp s8.1 (4000000000000000000 / a1.toInt64)) ≤ 0 then
    zl (s8.1 * a1.toInt64) fun v17 =>
    zl (s8.2 + 1) fun v18 =>
    some (.inl (v17, v18))
  else
  zb (fX7_finding (-1000007) I) fun o21 =>
  some (.inr (.inl (o21.1.toInt64, o21.2))))
def fX7_copies (n : Nat) (a1 : Int32) (a2 : Int32) (I : zI) : Option (Int64 × zI) :=
  zb (fX7_isWithin a1 1 9) fun o2 =>
  if o2 = 0 then
    zb (fX7_finding (-1000001) I) fun o5 =>
    some (o5.1.toInt64, o5.2)
  else
  zb (fX7_isWithin a2 0 62) fun o7 =>
  if o7 = 0 then
    zb (fX7_finding (-1000001) I) fun o24 =>
    some (o24.1.toInt64, o24.2)
  else
  zbs (zit (gX7_copies_33 a1 a2 I) n (1, 0)) fun x9 : Int64 =>
  some (x9, I)
set_option maxHeartbeats 4000000 in
set_option maxRecDepth 100000 in
theorem mX7_copies {l : Launch} {D : va_G} {T : zT} {ad sK sV : Nat → Nat} (hi : zInj ad) (n : Nat) (a1 : Int32) (a2 : Int32)  (I : zI) (L : zL) : ∀ o, fX7_copies n a1 a2 I = some o → zMet l yX7_copies cX7_copies 6 (some .long) 2 44 D T ad sK sV [.ref (ad 0), .int a1, .int a2] I L (em_lI L o) := by
  intro o ho
  refine zMet.of hi (by decide +kernel) (Nat.le_of_ble_eq_true rfl) (fun p e s m args below meth c hB => ?_)
  refine zr_top (emb := em_lI L) (t := fX7_copies n a1 a2 I) ?_ ho
  unfold fX7_copies
  refine zr_iload_n hB 1 rfl rfl dX7_copies_0 ?_
  refine zr_iconst (v := 1) hB (by decide) dX7_copies_1 ?_
  refine zr_bipush (v := 9) hB (by decide) dX7_copies_2 ?_
  refine zr_callS (st := []) (As := [.int a1, .int 1, .int 9]) (embc := em_i0 I L) hB (mX7_isWithin (sK := sK) (sV := sV) hi a1 1 9 I L) lm_X7_51 q2_X7_isWithin q4_X7 q5_X7_isWithin qd_X7_isWithin (by decide) rfl rfl (Nat.le_of_ble_eq_true rfl) ⟨Nat.zero_le _, Nat.zero_le _⟩ dX7_copies_4 (zr_ki0 (fun o2 => ?_))
  refine zr_ifeq (tgt := 20) hB (by decide) dX7_copies_7 ?_ ?_
  · refine zr_aload_n hB 0 rfl rfl dX7_copies_20 ?_
    refine zr_ldc (v := (-1000001)) hB lk_X7_55 dX7_copies_21 ?_
    refine zr_callV (st := []) (C := RX7) (As := [.int (-1000001)]) (embc := em_iI L) hB (mX7_finding (sK := sK) (sV := sV) hi (-1000001) I L) (zW_X7 rfl) rfl rfl lm_X7_56 q2_X7_finding q3_X7_finding q4_X7 q5_X7_finding qd_X7_finding (by decide) rfl rfl (Nat.le_of_ble_eq_true rfl) ⟨Nat.zero_le _, Nat.zero_le _⟩ dX7_copies_23 (zr_kiI (fun o5 => ?_))
    refine zr_i2l hB dX7_copies_26 ?_
    exact zr_lret hB rfl rfl dX7_copies_27
  · refine zr_iload_n hB 2 rfl rfl dX7_copies_10 ?_
    refine zr_iconst (v := 0) hB (by decide) dX7_copies_11 ?_
    refine zr_bipush (v := 62) hB (by decide) dX7_copies_12 ?_
    refine zr_callS (st := []) (As := [.int a2, .int 0, .int 62]) (embc := em_i0 I L) hB (mX7_isWithin (sK := sK) (sV := sV) hi a2 0 62 I L) lm_X7_51 q2_X7_isWithin q4_X7 q5_X7_isWithin qd_X7_isWithin (by decide) rfl rfl (Nat.le_of_ble_eq_true rfl) ⟨Nat.zero_le _, Nat.zero_le _⟩ dX7_copies_14 (zr_ki0 (fun o7 => ?_))
    refine zr_ifne (tgt := 28) hB (by decide) dX7_copies_17 ?_ ?_
    · refine zr_lconst (v := 1) hB (by decide) dX7_copies_28 ?_
      refine zr_lstore_n (lv' := [(3, .long 1), (0, .ref (ad 0)), (1, .int a1), (2, .int a2)]) hB rfl (by decide) rfl dX7_copies_29 ?_
      refine zr_iconst (v := 0) hB (by decide) dX7_copies_30 ?_
      refine zr_istore (lv' := [(5, .int 0), (3, .long 1), (0, .ref (ad 0)), (1, .int a1), (2, .int a2)]) hB (by decide) rfl dX7_copies_31 ?_
      refine zr_joins (pcJ := 69) (fun x9 : Int64 => [(3, .long x9)]) (fun _ => []) (fun x9 => I) (fun x9 => L) (fun x9 => ?_) (fun K15 hi13 hx14 => ?_)
      · refine zr_lload_n hB 0 rfl rfl dX7_copies_69 ?_
        exact zr_lret hB rfl rfl dX7_copies_70
      · refine zr_sub (lv' := (fun s8 : Int64 × Int32 => [(3, .long s8.1), (5, .int s8.2), (0, .ref (ad 0)), (1, .int a1), (2, .int a2)]) (1, 0)) [1, 0, 2, 3, 4] rfl (zr_loops (fun s8 : Int64 × Int32 => [(3, .long s8.1), (5, .int s8.2), (0, .ref (ad 0)), (1, .int a1), (2, .int a2)]) (fun s8 => I) (fun s8 => L) (fun x9 : Int64 => [(3, .long x9)]) (fun x9 => I) (fun x9 => L) hi13 hx14 (fun s8 K16 hc10 hi12 hx11 => ?_) n (1, 0))
        unfold gX7_copies_33
        refine zr_iload hB 1 rfl dX7_copies_33 ?_
        refine zr_iload_n hB 4 rfl rfl dX7_copies_35 ?_
        refine zr_icmp_ge (tgt := 69) hB (by decide) dX7_copies_36 ?_ ?_
        · exact zr_sub [0] rfl (hx11 s8.1)
        · refine zr_lload_n hB 0 rfl rfl dX7_copies_39 ?_
          refine zr_ldc2 (v := 4000000000000000000) hB lj_X7_232 dX7_copies_40 ?_
          refine zr_iload_n hB 3 rfl rfl dX7_copies_43 ?_
          refine zr_i2l hB dX7_copies_44 ?_
          refine zr_ldiv hB dX7_copies_45 ?_
          refine zr_lcmp hB dX7_copies_46 ?_
          refine zr_ifle (tgt := 58) hB (by decide) dX7_copies_47 ?_ ?_
          · refine zr_lload_n hB 0 rfl rfl dX7_copies_58 ?_
            refine zr_iload_n hB 3 rfl rfl dX7_copies_59 ?_
            refine zr_i2l hB dX7_copies_60 ?_
            refine zr_lmul hB dX7_copies_61 ?_
            refine zr_letL (fun v17 => ?_)
            refine zr_lstore_n (lv' := [(3, .long v17), (5, .int s8.2), (0, .ref (ad 0)), (1, .int a1), (2, .int a2)]) hB rfl (by decide) rfl dX7_copies_62 ?_
            refine zr_iincL hB (j := 1) (n := 1) (w := 1) rfl (by decide) (by decide) dX7_copies_63 (fun v18 lv' hlv => ?_)
            obtain rfl : lv' = [(5, .int v18), (3, .long v17), (0, .ref (ad 0)), (1, .int a1), (2, .int a2)] := hlv.symm.trans rfl
            refine zr_goto (tgt := 33) hB (by decide) dX7_copies_66 ?_
            exact zr_sub [1, 0, 2, 3, 4] rfl (hc10 (v17, v18))
          · refine zr_aload_n hB 2 rfl rfl dX7_copies_50 ?_
            refine zr_ldc (v := (-1000007)) hB lk_X7_234 dX7_copies_51 ?_
            refine zr_callV (st := []) (C := RX7) (As := [.int (-1000007)]) (embc := em_iI L) hB (mX7_finding (sK := sK) (sV := sV) hi (-1000007) I L) (zW_X7 rfl) rfl rfl lm_X7_56 q2_X7_finding q3_X7_finding q4_X7 q5_X7_finding qd_X7_finding (by decide) rfl rfl (Nat.le_of_ble_eq_true rfl) ⟨Nat.zero_le _, Nat.zero_le _⟩ dX7_copies_53 (zr_kiI (fun o21 => ?_))
            refine zr_i2l hB dX7_copies_56 ?_
            refine hi12 _ _ _ _ _ _ ?_
            exact zr_lret hB rfl rfl dX7_copies_57
    · refine zr_aload_n hB 0 rfl rfl dX7_copies_20 ?_
      refine zr_ldc (v := (-1000001)) hB lk_X7_55 dX7_copies_21 ?_
      refine zr_callV (st := []) (C := RX7) (As := [.int (-1000001)]) (embc := em_iI L) hB (mX7_finding (sK := sK) (sV := sV) hi (-1000001) I L) (zW_X7 rfl) rfl rfl lm_X7_56 q2_X7_finding q3_X7_finding q4_X7 q5_X7_finding qd_X7_finding (by decide) rfl rfl (Nat.le_of_ble_eq_true rfl) ⟨Nat.zero_le _, Nat.zero_le _⟩ dX7_copies_23 (zr_kiI (fun o24 => ?_))
      refine zr_i2l hB dX7_copies_26 ?_
      exact zr_lret hB rfl rfl dX7_copies_27

def gX7_all_36 (a1 : Int32) (a2 : Int32) (I : zI) (s8 : Int64 × Int64 × Int32) : Option ((Int64 × Int64 × Int32) ⊕ ((Int64 × zI) ⊕ (Int64))) :=
  if a2 ≤ s8.2.2 then
    some (.inr (.inr s8.2.1))
  else
  zdL a1.toInt64 (
  if 0 < (lg_cmp s8.1 (4000000000000000000 / a1.toInt64)) then
    zb (fX7_finding (-1000007) I) fun o19 =>
    some (.inr (.inl (o19.1.toInt64, o19.2)))
  else
  if (lg_cmp s8.2.1 (4000000000000000000 - (s8.1 * a1.toInt64))) ≤ 0 then
    zl (s8.1 * a1.toInt64) fun v20 =>
    zl (s8.2.1 + v20) fun v21 =>
    zl (s8.2.2 + 1) fun v22 =>
    some (.inl (v20, v21, v22))
  else
  zb (fX7_finding (-1000007) I) fun o25 =>
  some (.inr (.inl (o25.1.toInt64, o25.2))))
def fX7_all (n : Nat) (a1 : Int32) (a2 : Int32) (I : zI) : Option (Int64 × zI) :=
  zb (fX7_isWithin a1 1 9) fun o2 =>
  if o2 = 0 then
    zb (fX7_finding (-1000001) I) fun o5 =>
    some (o5.1.toInt64, o5.2)
  else
  zb (fX7_isWithin a2 0 62) fun o7 =>
  if o7 = 0 then
    zb (fX7_finding (-1000001) I) fun o28 =>
    some (o28.1.toInt64, o28.2)
  else
  zbs (zit (gX7_all_36 a1 a2 I) n (1, 1, 0)) fun x9 : Int64 =>
  some (x9, I)
set_option maxHeartbeats 4000000 in
set_option maxRecDepth 100000 in
theorem mX7_all {l : Launch} {D : va_G} {T : zT} {ad sK sV : Nat → Nat} (hi : zInj ad) (n : Nat) (a1 : Int32) (a2 : Int32)  (I : zI) (L : zL) : ∀ o, fX7_all n a1 a2 I = some o → zMet l yX7_all cX7_all 8 (some .long) 2 44 D T ad sK sV [.ref (ad 0), .int a1, .int a2] I L (em_lI L o) := by
  intro o ho
  refine zMet.of hi (by decide +kernel) (Nat.le_of_ble_eq_true rfl) (fun p e s m args below meth c hB => ?_)
  refine zr_top (emb := em_lI L) (t := fX7_all n a1 a2 I) ?_ ho
  unfold fX7_all
  refine zr_iload_n hB 1 rfl rfl dX7_all_0 ?_
  refine zr_iconst (v := 1) hB (by decide) dX7_all_1 ?_
  refine zr_bipush (v := 9) hB (by decide) dX7_all_2 ?_
  refine zr_callS (st := []) (As := [.int a1, .int 1, .int 9]) (embc := em_i0 I L) hB (mX7_isWithin (sK := sK) (sV := sV) hi a1 1 9 I L) lm_X7_51 q2_X7_isWithin q4_X7 q5_X7_isWithin qd_X7_isWithin (by decide) rfl rfl (Nat.le_of_ble_eq_true rfl) ⟨Nat.zero_le _, Nat.zero_le _⟩ dX7_all_4 (zr_ki0 (fun o2 => ?_))
  refine zr_ifeq (tgt := 20) hB (by decide) dX7_all_7 ?_ ?_
  · refine zr_aload_n hB 0 rfl rfl dX7_all_20 ?_
    refine zr_ldc (v := (-1000001)) hB lk_X7_55 dX7_all_21 ?_
    refine zr_callV (st := []) (C := RX7) (As := [.int (-1000001)]) (embc := em_iI L) hB (mX7_finding (sK := sK) (sV := sV) hi (-1000001) I L) (zW_X7 rfl) rfl rfl lm_X7_56 q2_X7_finding q3_X7_finding q4_X7 q5_X7_finding qd_X7_finding (by decide) rfl rfl (Nat.le_of_ble_eq_true rfl) ⟨Nat.zero_le _, Nat.zero_le _⟩ dX7_all_23 (zr_kiI (fun o5 => ?_))
    refine zr_i2l hB dX7_all_26 ?_
    exact zr_lret hB rfl rfl dX7_all_27
  · refine zr_iload_n hB 2 rfl rfl dX7_all_10 ?_
    refine zr_iconst (v := 0) hB (by decide) dX7_all_11 ?_
    refine zr_bipush (v := 62) hB (by decide) dX7_all_12 ?_
    refine zr_callS (st := []) (As := [.int a2, .int 0, .int 62]) (embc := em_i0 I L) hB (mX7_isWithin (sK := sK) (sV := sV) hi a2 0 62 I L) lm_X7_51 q2_X7_isWithin q4_X7 q5_X7_isWithin qd_X7_isWithin (by decide) rfl rfl (Nat.le_of_ble_eq_true rfl) ⟨Nat.zero_le _, Nat.zero_le _⟩ dX7_all_14 (zr_ki0 (fun o7 => ?_))
    refine zr_ifne (tgt := 28) hB (by decide) dX7_all_17 ?_ ?_
    · refine zr_lconst (v := 1) hB (by decide) dX7_all_28 ?_
      refine zr_lstore_n (lv' := [(3, .long 1), (0, .ref (ad 0)), (1, .int a1), (2, .int a2)]) hB rfl (by decide) rfl dX7_all_29 ?_
      refine zr_lconst (v := 1) hB (by decide) dX7_all_30 ?_
      refine zr_lstore (lv' := [(5, .long 1), (3, .long 1), (0, .ref (ad 0)), (1, .int a1), (2, .int a2)]) hB (by decide) rfl dX7_all_31 ?_
      refine zr_iconst (v := 0) hB (by decide) dX7_all_33 ?_
      refine zr_istore (lv' := [(7, .int 0), (5, .long 1), (3, .long 1), (0, .ref (ad 0)), (1, .int a1), (2, .int a2)]) hB (by decide) rfl dX7_all_34 ?_
      refine zr_joins (pcJ := 92) (fun x9 : Int64 => [(5, .long x9)]) (fun _ => []) (fun x9 => I) (fun x9 => L) (fun x9 => ?_) (fun K15 hi13 hx14 => ?_)
      · refine zr_lload hB 0 rfl dX7_all_92 ?_
        exact zr_lret hB rfl rfl dX7_all_94
      · refine zr_sub (lv' := (fun s8 : Int64 × Int64 × Int32 => [(3, .long s8.1), (5, .long s8.2.1), (7, .int s8.2.2), (0, .ref (ad 0)), (1, .int a1), (2, .int a2)]) (1, 1, 0)) [2, 1, 0, 3, 4, 5] rfl (zr_loops (fun s8 : Int64 × Int64 × Int32 => [(3, .long s8.1), (5, .long s8.2.1), (7, .int s8.2.2), (0, .ref (ad 0)), (1, .int a1), (2, .int a2)]) (fun s8 => I) (fun s8 => L) (fun x9 : Int64 => [(5, .long x9)]) (fun x9 => I) (fun x9 => L) hi13 hx14 (fun s8 K16 hc10 hi12 hx11 => ?_) n (1, 1, 0))
        unfold gX7_all_36
        refine zr_iload hB 2 rfl dX7_all_36 ?_
        refine zr_iload_n hB 5 rfl rfl dX7_all_38 ?_
        refine zr_icmp_ge (tgt := 92) hB (by decide) dX7_all_39 ?_ ?_
        · exact zr_sub [1] rfl (hx11 s8.2.1)
        · refine zr_lload_n hB 0 rfl rfl dX7_all_42 ?_
          refine zr_ldc2 (v := 4000000000000000000) hB lj_X7_232 dX7_all_43 ?_
          refine zr_iload_n hB 4 rfl rfl dX7_all_46 ?_
          refine zr_i2l hB dX7_all_47 ?_
          refine zr_ldiv hB dX7_all_48 ?_
          refine zr_lcmp hB dX7_all_49 ?_
          refine zr_ifgt (tgt := 67) hB (by decide) dX7_all_50 ?_ ?_
          · refine zr_aload_n hB 3 rfl rfl dX7_all_67 ?_
            refine zr_ldc (v := (-1000007)) hB lk_X7_234 dX7_all_68 ?_
            refine zr_callV (st := []) (C := RX7) (As := [.int (-1000007)]) (embc := em_iI L) hB (mX7_finding (sK := sK) (sV := sV) hi (-1000007) I L) (zW_X7 rfl) rfl rfl lm_X7_56 q2_X7_finding q3_X7_finding q4_X7 q5_X7_finding qd_X7_finding (by decide) rfl rfl (Nat.le_of_ble_eq_true rfl) ⟨Nat.zero_le _, Nat.zero_le _⟩ dX7_all_70 (zr_kiI (fun o19 => ?_))
            refine zr_i2l hB dX7_all_73 ?_
            refine hi12 _ _ _ _ _ _ ?_
            exact zr_lret hB rfl rfl dX7_all_74
          · refine zr_lload hB 1 rfl dX7_all_53 ?_
            refine zr_ldc2 (v := 4000000000000000000) hB lj_X7_232 dX7_all_55 ?_
            refine zr_lload_n hB 0 rfl rfl dX7_all_58 ?_
            refine zr_iload_n hB 4 rfl rfl dX7_all_59 ?_
            refine zr_i2l hB dX7_all_60 ?_
            refine zr_lmul hB dX7_all_61 ?_
            refine zr_lsub hB dX7_all_62 ?_
            refine zr_lcmp hB dX7_all_63 ?_
            refine zr_ifle (tgt := 75) hB (by decide) dX7_all_64 ?_ ?_
            · refine zr_lload_n hB 0 rfl rfl dX7_all_75 ?_
              refine zr_iload_n hB 4 rfl rfl dX7_all_76 ?_
              refine zr_i2l hB dX7_all_77 ?_
              refine zr_lmul hB dX7_all_78 ?_
              refine zr_letL (fun v20 => ?_)
              refine zr_lstore_n (lv' := [(3, .long v20), (5, .long s8.2.1), (7, .int s8.2.2), (0, .ref (ad 0)), (1, .int a1), (2, .int a2)]) hB rfl (by decide) rfl dX7_all_79 ?_
              refine zr_lload hB 1 rfl dX7_all_80 ?_
              refine zr_lload_n hB 0 rfl rfl dX7_all_82 ?_
              refine zr_ladd hB dX7_all_83 ?_
              refine zr_letL (fun v21 => ?_)
              refine zr_lstore (lv' := [(5, .long v21), (3, .long v20), (7, .int s8.2.2), (0, .ref (ad 0)), (1, .int a1), (2, .int a2)]) hB (by decide) rfl dX7_all_84 ?_
              refine zr_iincL hB (j := 2) (n := 1) (w := 1) rfl (by decide) (by decide) dX7_all_86 (fun v22 lv' hlv => ?_)
              obtain rfl : lv' = [(7, .int v22), (5, .long v21), (3, .long v20), (0, .ref (ad 0)), (1, .int a1), (2, .int a2)] := hlv.symm.trans rfl
              refine zr_goto (tgt := 36) hB (by decide) dX7_all_89 ?_
              exact zr_sub [2, 1, 0, 3, 4, 5] rfl (hc10 (v20, v21, v22))
            · refine zr_aload_n hB 3 rfl rfl dX7_all_67 ?_
              refine zr_ldc (v := (-1000007)) hB lk_X7_234 dX7_all_68 ?_
              refine zr_callV (st := []) (C := RX7) (As := [.int (-1000007)]) (embc := em_iI L) hB (mX7_finding (sK := sK) (sV := sV) hi (-1000007) I L) (zW_X7 rfl) rfl rfl lm_X7_56 q2_X7_finding q3_X7_finding q4_X7 q5_X7_finding qd_X7_finding (by decide) rfl rfl (Nat.le_of_ble_eq_true rfl) ⟨Nat.zero_le _, Nat.zero_le _⟩ dX7_all_70 (zr_kiI (fun o25 => ?_))
              refine zr_i2l hB dX7_all_73 ?_
              refine hi12 _ _ _ _ _ _ ?_
              exact zr_lret hB rfl rfl dX7_all_74
    · refine zr_aload_n hB 0 rfl rfl dX7_all_20 ?_
      refine zr_ldc (v := (-1000001)) hB lk_X7_55 dX7_all_21 ?_
      refine zr_callV (st := []) (C := RX7) (As := [.int (-1000001)]) (embc := em_iI L) hB (mX7_finding (sK := sK) (sV := sV) hi (-1000001) I L) (zW_X7 rfl) rfl rfl lm_X7_56 q2_X7_finding q3_X7_finding q4_X7 q5_X7_finding qd_X7_finding (by decide) rfl rfl (Nat.le_of_ble_eq_true rfl) ⟨Nat.zero_le _, Nat.zero_le _⟩ dX7_all_23 (zr_kiI (fun o28 => ?_))
      refine zr_i2l hB dX7_all_26 ?_
      exact zr_lret hB rfl rfl dX7_all_27

def gX7_weight_81 (a2 : Int32) (I : zI) (x13 : Int64) (x17 : Int64) (s21 : Int64 × Int64 × Int64 × Int32) : Option ((Int64 × Int64 × Int64 × Int32) ⊕ ((Int64 × zI) ⊕ (Int64 × Int64))) :=
  if a2 ≤ s21.2.2.2 then
    some (.inr (.inr (s21.2.1, s21.2.2.1)))
  else
  zl (s21.1 * x13) fun v30 =>
  zl ((s21.2.1 * x17) + v30) fun v31 =>
  zl (s21.2.2.1 * x17) fun v32 =>
  if 0 < (lg_cmp v31 1000000000000) then
    zb (fX7_finding (-1000007) I) fun o35 =>
    some (.inr (.inl (o35.1.toInt64, o35.2)))
  else
  if (lg_cmp v32 1000000000000) ≤ 0 then
    zl (s21.2.2.2 + 1) fun v36 =>
    some (.inl (v30, v31, v32, v36))
  else
  zb (fX7_finding (-1000007) I) fun o39 =>
  some (.inr (.inl (o39.1.toInt64, o39.2)))
def fX7_weight (n : Nat) (a1 : Int32) (a2 : Int32) (a3 : Int32) (I : zI) : Option (Int64 × zI) :=
  zb (fX7_isWithin a1 1 9) fun o2 =>
  if o2 = 0 then
    zb (fX7_finding (-1000001) I) fun o5 =>
    some (o5.1.toInt64, o5.2)
  else
  zb (fX7_isWithin a2 0 30) fun o7 =>
  if o7 = 0 then
    zb (fX7_finding (-1000001) I) fun o10 =>
    some (o10.1.toInt64, o10.2)
  else
  zb (fX7_isWithin a3 0 1) fun o12 =>
  if o12 = 0 then
    zb (fX7_finding (-1000001) I) fun o42 =>
    some (o42.1.toInt64, o42.2)
  else
  zb (
    if (zrem a1 2) = 0 then
      some ((a1 / 2).toInt64)
    else
    some a1.toInt64) fun x13 : Int64 =>
  zb (
    if (zrem a1 2) = 0 then
      some 1
    else
    some 2) fun x17 : Int64 =>
  zbs (zit (gX7_weight_81 a2 I x13 x17) n (1, 1, 1, 0)) fun x22 : Int64 × Int64 =>
  if a3 = 0 then
    some (x22.1, I)
  else
  some (x22.2, I)
set_option maxHeartbeats 4000000 in
set_option maxRecDepth 100000 in
theorem mX7_weight {l : Launch} {D : va_G} {T : zT} {ad sK sV : Nat → Nat} (hi : zInj ad) (n : Nat) (a1 : Int32) (a2 : Int32) (a3 : Int32)  (I : zI) (L : zL) : ∀ o, fX7_weight n a1 a2 a3 I = some o → zMet l yX7_weight cX7_weight 15 (some .long) 2 44 D T ad sK sV [.ref (ad 0), .int a1, .int a2, .int a3] I L (em_lI L o) := by
  intro o ho
  refine zMet.of hi (by decide +kernel) (Nat.le_of_ble_eq_true rfl) (fun p e s m args below meth c hB => ?_)
  refine zr_top (emb := em_lI L) (t := fX7_weight n a1 a2 a3 I) ?_ ho
  unfold fX7_weight
  refine zr_iload_n hB 1 rfl rfl dX7_weight_0 ?_
  refine zr_iconst (v := 1) hB (by decide) dX7_weight_1 ?_
  refine zr_bipush (v := 9) hB (by decide) dX7_weight_2 ?_
  refine zr_callS (st := []) (As := [.int a1, .int 1, .int 9]) (embc := em_i0 I L) hB (mX7_isWithin (sK := sK) (sV := sV) hi a1 1 9 I L) lm_X7_51 q2_X7_isWithin q4_X7 q5_X7_isWithin qd_X7_isWithin (by decide) rfl rfl (Nat.le_of_ble_eq_true rfl) ⟨Nat.zero_le _, Nat.zero_le _⟩ dX7_weight_4 (zr_ki0 (fun o2 => ?_))
  refine zr_ifeq (tgt := 29) hB (by decide) dX7_weight_7 ?_ ?_
  · refine zr_aload_n hB 0 rfl rfl dX7_weight_29 ?_
    refine zr_ldc (v := (-1000001)) hB lk_X7_55 dX7_weight_30 ?_
    refine zr_callV (st := []) (C := RX7) (As := [.int (-1000001)]) (embc := em_iI L) hB (mX7_finding (sK := sK) (sV := sV) hi (-1000001) I L) (zW_X7 rfl) rfl rfl lm_X7_56 q2_X7_finding q3_X7_finding q4_X7 q5_X7_finding qd_X7_finding (by decide) rfl rfl (Nat.le_of_ble_eq_true rfl) ⟨Nat.zero_le _, Nat.zero_le _⟩ dX7_weight_32 (zr_kiI (fun o5 => ?_))
    refine zr_i2l hB dX7_weight_35 ?_
    exact zr_lret hB rfl rfl dX7_weight_36
  · refine zr_iload_n hB 2 rfl rfl dX7_weight_10 ?_
    refine zr_iconst (v := 0) hB (by decide) dX7_weight_11 ?_
    refine zr_bipush (v := 30) hB (by decide) dX7_weight_12 ?_
    refine zr_callS (st := []) (As := [.int a2, .int 0, .int 30]) (embc := em_i0 I L) hB (mX7_isWithin (sK := sK) (sV := sV) hi a2 0 30 I L) lm_X7_51 q2_X7_isWithin q4_X7 q5_X7_isWithin qd_X7_isWithin (by decide) rfl rfl (Nat.le_of_ble_eq_true rfl) ⟨Nat.zero_le _, Nat.zero_le _⟩ dX7_weight_14 (zr_ki0 (fun o7 => ?_))
    refine zr_ifeq (tgt := 29) hB (by decide) dX7_weight_17 ?_ ?_
    · refine zr_aload_n hB 0 rfl rfl dX7_weight_29 ?_
      refine zr_ldc (v := (-1000001)) hB lk_X7_55 dX7_weight_30 ?_
      refine zr_callV (st := []) (C := RX7) (As := [.int (-1000001)]) (embc := em_iI L) hB (mX7_finding (sK := sK) (sV := sV) hi (-1000001) I L) (zW_X7 rfl) rfl rfl lm_X7_56 q2_X7_finding q3_X7_finding q4_X7 q5_X7_finding qd_X7_finding (by decide) rfl rfl (Nat.le_of_ble_eq_true rfl) ⟨Nat.zero_le _, Nat.zero_le _⟩ dX7_weight_32 (zr_kiI (fun o10 => ?_))
      refine zr_i2l hB dX7_weight_35 ?_
      exact zr_lret hB rfl rfl dX7_weight_36
    · refine zr_iload_n hB 3 rfl rfl dX7_weight_20 ?_
      refine zr_iconst (v := 0) hB (by decide) dX7_weight_21 ?_
      refine zr_iconst (v := 1) hB (by decide) dX7_weight_22 ?_
      refine zr_callS (st := []) (As := [.int a3, .int 0, .int 1]) (embc := em_i0 I L) hB (mX7_isWithin (sK := sK) (sV := sV) hi a3 0 1 I L) lm_X7_51 q2_X7_isWithin q4_X7 q5_X7_isWithin qd_X7_isWithin (by decide) rfl rfl (Nat.le_of_ble_eq_true rfl) ⟨Nat.zero_le _, Nat.zero_le _⟩ dX7_weight_23 (zr_ki0 (fun o12 => ?_))
      refine zr_ifne (tgt := 37) hB (by decide) dX7_weight_26 ?_ ?_
      · refine zr_iload_n hB 1 rfl rfl dX7_weight_37 ?_
        refine zr_iconst (v := 2) hB (by decide) dX7_weight_38 ?_
        refine zr_iremC hB (by decide) dX7_weight_39 ?_
        refine zr_join (pcJ := 52) (fun x13 : Int64 => [(0, .ref (ad 0)), (1, .int a1), (2, .int a2), (3, .int a3)]) (fun x13 => [.long x13]) (fun x13 => I) (fun x13 => L) (fun x13 => ?_) (fun K16 hj14 => ?_)
        · refine zr_lstore (lv' := [(4, .long x13), (0, .ref (ad 0)), (1, .int a1), (2, .int a2), (3, .int a3)]) hB (by decide) rfl dX7_weight_52 ?_
          refine zr_iload_n hB 2 rfl rfl dX7_weight_54 ?_
          refine zr_iconst (v := 2) hB (by decide) dX7_weight_55 ?_
          refine zr_iremC hB (by decide) dX7_weight_56 ?_
          refine zr_join (pcJ := 67) (fun x17 : Int64 => [(4, .long x13), (0, .ref (ad 0)), (2, .int a2), (3, .int a3)]) (fun x17 => [.long x17]) (fun x17 => I) (fun x17 => L) (fun x17 => ?_) (fun K20 hj18 => ?_)
          · refine zr_lstore (lv' := [(6, .long x17), (4, .long x13), (0, .ref (ad 0)), (2, .int a2), (3, .int a3)]) hB (by decide) rfl dX7_weight_67 ?_
            refine zr_lconst (v := 1) hB (by decide) dX7_weight_69 ?_
            refine zr_lstore (lv' := [(8, .long 1), (6, .long x17), (4, .long x13), (0, .ref (ad 0)), (2, .int a2), (3, .int a3)]) hB (by decide) rfl dX7_weight_70 ?_
            refine zr_lconst (v := 1) hB (by decide) dX7_weight_72 ?_
            refine zr_lstore (lv' := [(10, .long 1), (8, .long 1), (6, .long x17), (4, .long x13), (0, .ref (ad 0)), (2, .int a2), (3, .int a3)]) hB (by decide) rfl dX7_weight_73 ?_
            refine zr_lconst (v := 1) hB (by decide) dX7_weight_75 ?_
            refine zr_lstore (lv' := [(12, .long 1), (10, .long 1), (8, .long 1), (6, .long x17), (4, .long x13), (0, .ref (ad 0)), (2, .int a2), (3, .int a3)]) hB (by decide) rfl dX7_weight_76 ?_
            refine zr_iconst (v := 0) hB (by decide) dX7_weight_78 ?_
            refine zr_istore (lv' := [(14, .int 0), (12, .long 1), (10, .long 1), (8, .long 1), (6, .long x17), (4, .long x13), (0, .ref (ad 0)), (2, .int a2), (3, .int a3)]) hB (by decide) rfl dX7_weight_79 ?_
            refine zr_joins (pcJ := 143) (fun x22 : Int64 × Int64 => [(10, .long x22.1), (12, .long x22.2), (3, .int a3)]) (fun _ => []) (fun x22 => I) (fun x22 => L) (fun x22 => ?_) (fun K28 hi26 hx27 => ?_)
            · refine zr_iload_n hB 2 rfl rfl dX7_weight_143 ?_
              refine zr_ifne (tgt := 152) hB (by decide) dX7_weight_144 ?_ ?_
              · refine zr_lload hB 1 rfl dX7_weight_152 ?_
                exact zr_lret hB rfl rfl dX7_weight_154
              · refine zr_lload hB 0 rfl dX7_weight_147 ?_
                refine zr_goto (tgt := 154) hB (by decide) dX7_weight_149 ?_
                exact zr_lret hB rfl rfl dX7_weight_154
            · refine zr_sub (lv' := (fun s21 : Int64 × Int64 × Int64 × Int32 => [(8, .long s21.1), (10, .long s21.2.1), (12, .long s21.2.2.1), (14, .int s21.2.2.2), (6, .long x17), (4, .long x13), (0, .ref (ad 0)), (2, .int a2), (3, .int a3)]) (1, 1, 1, 0)) [3, 2, 1, 0, 4, 5, 6, 7, 8] rfl (zr_loops (fun s21 : Int64 × Int64 × Int64 × Int32 => [(8, .long s21.1), (10, .long s21.2.1), (12, .long s21.2.2.1), (14, .int s21.2.2.2), (6, .long x17), (4, .long x13), (0, .ref (ad 0)), (2, .int a2), (3, .int a3)]) (fun s21 => I) (fun s21 => L) (fun x22 : Int64 × Int64 => [(10, .long x22.1), (12, .long x22.2), (3, .int a3)]) (fun x22 => I) (fun x22 => L) hi26 hx27 (fun s21 K29 hc23 hi25 hx24 => ?_) n (1, 1, 1, 0))
              unfold gX7_weight_81
              refine zr_iload hB 3 rfl dX7_weight_81 ?_
              refine zr_iload_n hB 7 rfl rfl dX7_weight_83 ?_
              refine zr_icmp_ge (tgt := 143) hB (by decide) dX7_weight_84 ?_ ?_
              · exact zr_sub [1, 2, 8] rfl (hx24 (s21.2.1, s21.2.2.1))
              · refine zr_lload hB 0 rfl dX7_weight_87 ?_
                refine zr_lload hB 5 rfl dX7_weight_89 ?_
                refine zr_lmul hB dX7_weight_91 ?_
                refine zr_letL (fun v30 => ?_)
                refine zr_lstore (lv' := [(8, .long v30), (10, .long s21.2.1), (12, .long s21.2.2.1), (14, .int s21.2.2.2), (6, .long x17), (4, .long x13), (0, .ref (ad 0)), (2, .int a2), (3, .int a3)]) hB (by decide) rfl dX7_weight_92 ?_
                refine zr_lload hB 1 rfl dX7_weight_94 ?_
                refine zr_lload hB 4 rfl dX7_weight_96 ?_
                refine zr_lmul hB dX7_weight_98 ?_
                refine zr_lload hB 0 rfl dX7_weight_99 ?_
                refine zr_ladd hB dX7_weight_101 ?_
                refine zr_letL (fun v31 => ?_)
                refine zr_lstore (lv' := [(10, .long v31), (8, .long v30), (12, .long s21.2.2.1), (14, .int s21.2.2.2), (6, .long x17), (4, .long x13), (0, .ref (ad 0)), (2, .int a2), (3, .int a3)]) hB (by decide) rfl dX7_weight_102 ?_
                refine zr_lload hB 2 rfl dX7_weight_104 ?_
                refine zr_lload hB 4 rfl dX7_weight_106 ?_
                refine zr_lmul hB dX7_weight_108 ?_
                refine zr_letL (fun v32 => ?_)
                refine zr_lstore (lv' := [(12, .long v32), (10, .long v31), (8, .long v30), (14, .int s21.2.2.2), (6, .long x17), (4, .long x13), (0, .ref (ad 0)), (2, .int a2), (3, .int a3)]) hB (by decide) rfl dX7_weight_109 ?_
                refine zr_lload hB 1 rfl dX7_weight_111 ?_
                refine zr_ldc2 (v := 1000000000000) hB lj_X7_237 dX7_weight_113 ?_
                refine zr_lcmp hB dX7_weight_116 ?_
                refine zr_ifgt (tgt := 129) hB (by decide) dX7_weight_117 ?_ ?_
                · refine zr_aload_n hB 6 rfl rfl dX7_weight_129 ?_
                  refine zr_ldc (v := (-1000007)) hB lk_X7_234 dX7_weight_130 ?_
                  refine zr_callV (st := []) (C := RX7) (As := [.int (-1000007)]) (embc := em_iI L) hB (mX7_finding (sK := sK) (sV := sV) hi (-1000007) I L) (zW_X7 rfl) rfl rfl lm_X7_56 q2_X7_finding q3_X7_finding q4_X7 q5_X7_finding qd_X7_finding (by decide) rfl rfl (Nat.le_of_ble_eq_true rfl) ⟨Nat.zero_le _, Nat.zero_le _⟩ dX7_weight_132 (zr_kiI (fun o35 => ?_))
                  refine zr_i2l hB dX7_weight_135 ?_
                  refine hi25 _ _ _ _ _ _ ?_
                  exact zr_lret hB rfl rfl dX7_weight_136
                · refine zr_lload hB 0 rfl dX7_weight_120 ?_
                  refine zr_ldc2 (v := 1000000000000) hB lj_X7_237 dX7_weight_122 ?_
                  refine zr_lcmp hB dX7_weight_125 ?_
                  refine zr_ifle (tgt := 137) hB (by decide) dX7_weight_126 ?_ ?_
                  · refine zr_iincL hB (j := 3) (n := 1) (w := 1) rfl (by decide) (by decide) dX7_weight_137 (fun v36 lv' hlv => ?_)
                    obtain rfl : lv' = [(14, .int v36), (12, .long v32), (10, .long v31), (8, .long v30), (6, .long x17), (4, .long x13), (0, .ref (ad 0)), (2, .int a2), (3, .int a3)] := hlv.symm.trans rfl
                    refine zr_goto (tgt := 81) hB (by decide) dX7_weight_140 ?_
                    exact zr_sub [3, 2, 1, 0, 4, 5, 6, 7, 8] rfl (hc23 (v30, v31, v32, v36))
                  · refine zr_aload_n hB 6 rfl rfl dX7_weight_129 ?_
                    refine zr_ldc (v := (-1000007)) hB lk_X7_234 dX7_weight_130 ?_
                    refine zr_callV (st := []) (C := RX7) (As := [.int (-1000007)]) (embc := em_iI L) hB (mX7_finding (sK := sK) (sV := sV) hi (-1000007) I L) (zW_X7 rfl) rfl rfl lm_X7_56 q2_X7_finding q3_X7_finding q4_X7 q5_X7_finding qd_X7_finding (by decide) rfl rfl (Nat.le_of_ble_eq_true rfl) ⟨Nat.zero_le _, Nat.zero_le _⟩ dX7_weight_132 (zr_kiI (fun o39 => ?_))
                    refine zr_i2l hB dX7_weight_135 ?_
                    refine hi25 _ _ _ _ _ _ ?_
                    exact zr_lret hB rfl rfl dX7_weight_136
          · refine zr_ifne (tgt := 64) hB (by decide) dX7_weight_57 ?_ ?_
            · refine zr_ldc2 (v := 2) hB lj_X7_235 dX7_weight_64 ?_
              exact zr_sub [0, 1, 3, 4] rfl (hj18 2)
            · refine zr_lconst (v := 1) hB (by decide) dX7_weight_60 ?_
              refine zr_goto (tgt := 67) hB (by decide) dX7_weight_61 ?_
              exact zr_sub [0, 1, 3, 4] rfl (hj18 1)
        · refine zr_ifne (tgt := 50) hB (by decide) dX7_weight_40 ?_ ?_
          · refine zr_iload_n hB 1 rfl rfl dX7_weight_50 ?_
            refine zr_i2l hB dX7_weight_51 ?_
            exact zr_sub [0, 1, 2, 3] rfl (hj14 a1.toInt64)
          · refine zr_iload_n hB 1 rfl rfl dX7_weight_43 ?_
            refine zr_iconst (v := 2) hB (by decide) dX7_weight_44 ?_
            refine zr_idivC hB (by decide) dX7_weight_45 ?_
            refine zr_i2l hB dX7_weight_46 ?_
            refine zr_goto (tgt := 52) hB (by decide) dX7_weight_47 ?_
            exact zr_sub [0, 1, 2, 3] rfl (hj14 ((a1 / 2).toInt64))
      · refine zr_aload_n hB 0 rfl rfl dX7_weight_29 ?_
        refine zr_ldc (v := (-1000001)) hB lk_X7_55 dX7_weight_30 ?_
        refine zr_callV (st := []) (C := RX7) (As := [.int (-1000001)]) (embc := em_iI L) hB (mX7_finding (sK := sK) (sV := sV) hi (-1000001) I L) (zW_X7 rfl) rfl rfl lm_X7_56 q2_X7_finding q3_X7_finding q4_X7 q5_X7_finding qd_X7_finding (by decide) rfl rfl (Nat.le_of_ble_eq_true rfl) ⟨Nat.zero_le _, Nat.zero_le _⟩ dX7_weight_32 (zr_kiI (fun o42 => ?_))
        refine zr_i2l hB dX7_weight_35 ?_
        exact zr_lret hB rfl rfl dX7_weight_36

def gX7_deep_32 (a1 : Int32) (a2 : Int32) (I : zI) (s8 : Int64 × Int32) : Option ((Int64 × Int32) ⊕ ((Int32 × zI) ⊕ (Unit))) :=
  if 62 < s8.2 then
    some (.inr (.inr ()))
  else
  if (lg_cmp s8.1 a2.toInt64) < 0 then
    zl (s8.1 * a1.toInt64) fun v17 =>
    zl (s8.2 + 1) fun v18 =>
    some (.inl (v17, v18))
  else
  some (.inr (.inl (s8.2, I)))
def fX7_deep (n : Nat) (a1 : Int32) (a2 : Int32) (I : zI) : Option (Int32 × zI) :=
  zb (fX7_isWithin a1 1 9) fun o2 =>
  if o2 = 0 then
    zb (fX7_finding (-1000001) I) fun o5 =>
    some (o5.1, o5.2)
  else
  zb (fX7_isWithin a2 1 2000000000) fun o7 =>
  if o7 = 0 then
    zb (fX7_finding (-1000001) I) fun o24 =>
    some (o24.1, o24.2)
  else
  zbs (zit (gX7_deep_32 a1 a2 I) n (1, 0)) fun x9 : Unit =>
  zb (fX7_finding (-1000004) I) fun o21 =>
  some (o21.1, o21.2)
set_option maxHeartbeats 4000000 in
set_option maxRecDepth 100000 in
theorem mX7_deep {l : Launch} {D : va_G} {T : zT} {ad sK sV : Nat → Nat} (hi : zInj ad) (n : Nat) (a1 : Int32) (a2 : Int32)  (I : zI) (L : zL) : ∀ o, fX7_deep n a1 a2 I = some o → zMet l yX7_deep cX7_deep 6 (some .int) 2 44 D T ad sK sV [.ref (ad 0), .int a1, .int a2] I L (em_iI L o) := by
  intro o ho
  refine zMet.of hi (by decide +kernel) (Nat.le_of_ble_eq_true rfl) (fun p e s m args below meth c hB => ?_)
  refine zr_top (emb := em_iI L) (t := fX7_deep n a1 a2 I) ?_ ho
  unfold fX7_deep
  refine zr_iload_n hB 1 rfl rfl dX7_deep_0 ?_
  refine zr_iconst (v := 1) hB (by decide) dX7_deep_1 ?_
  refine zr_bipush (v := 9) hB (by decide) dX7_deep_2 ?_
  refine zr_callS (st := []) (As := [.int a1, .int 1, .int 9]) (embc := em_i0 I L) hB (mX7_isWithin (sK := sK) (sV := sV) hi a1 1 9 I L) lm_X7_51 q2_X7_isWithin q4_X7 q5_X7_isWithin qd_X7_isWithin (by decide) rfl rfl (Nat.le_of_ble_eq_true rfl) ⟨Nat.zero_le _, Nat.zero_le _⟩ dX7_deep_4 (zr_ki0 (fun o2 => ?_))
  refine zr_ifeq (tgt := 20) hB (by decide) dX7_deep_7 ?_ ?_
  · refine zr_aload_n hB 0 rfl rfl dX7_deep_20 ?_
    refine zr_ldc (v := (-1000001)) hB lk_X7_55 dX7_deep_21 ?_
    refine zr_callV (st := []) (C := RX7) (As := [.int (-1000001)]) (embc := em_iI L) hB (mX7_finding (sK := sK) (sV := sV) hi (-1000001) I L) (zW_X7 rfl) rfl rfl lm_X7_56 q2_X7_finding q3_X7_finding q4_X7 q5_X7_finding qd_X7_finding (by decide) rfl rfl (Nat.le_of_ble_eq_true rfl) ⟨Nat.zero_le _, Nat.zero_le _⟩ dX7_deep_23 (zr_kiI (fun o5 => ?_))
    exact zr_iret hB rfl rfl dX7_deep_26
  · refine zr_iload_n hB 2 rfl rfl dX7_deep_10 ?_
    refine zr_iconst (v := 1) hB (by decide) dX7_deep_11 ?_
    refine zr_ldc (v := 2000000000) hB lk_X7_239 dX7_deep_12 ?_
    refine zr_callS (st := []) (As := [.int a2, .int 1, .int 2000000000]) (embc := em_i0 I L) hB (mX7_isWithin (sK := sK) (sV := sV) hi a2 1 2000000000 I L) lm_X7_51 q2_X7_isWithin q4_X7 q5_X7_isWithin qd_X7_isWithin (by decide) rfl rfl (Nat.le_of_ble_eq_true rfl) ⟨Nat.zero_le _, Nat.zero_le _⟩ dX7_deep_14 (zr_ki0 (fun o7 => ?_))
    refine zr_ifne (tgt := 27) hB (by decide) dX7_deep_17 ?_ ?_
    · refine zr_lconst (v := 1) hB (by decide) dX7_deep_27 ?_
      refine zr_lstore_n (lv' := [(3, .long 1), (0, .ref (ad 0)), (1, .int a1), (2, .int a2)]) hB rfl (by decide) rfl dX7_deep_28 ?_
      refine zr_iconst (v := 0) hB (by decide) dX7_deep_29 ?_
      refine zr_istore (lv' := [(5, .int 0), (3, .long 1), (0, .ref (ad 0)), (1, .int a1), (2, .int a2)]) hB (by decide) rfl dX7_deep_30 ?_
      refine zr_joins (pcJ := 60) (fun x9 : Unit => [(0, .ref (ad 0))]) (fun _ => []) (fun x9 => I) (fun x9 => L) (fun x9 => ?_) (fun K15 hi13 hx14 => ?_)
      · refine zr_aload_n hB 0 rfl rfl dX7_deep_60 ?_
        refine zr_ldc (v := (-1000004)) hB lk_X7_180 dX7_deep_61 ?_
        refine zr_callV (st := []) (C := RX7) (As := [.int (-1000004)]) (embc := em_iI L) hB (mX7_finding (sK := sK) (sV := sV) hi (-1000004) I L) (zW_X7 rfl) rfl rfl lm_X7_56 q2_X7_finding q3_X7_finding q4_X7 q5_X7_finding qd_X7_finding (by decide) rfl rfl (Nat.le_of_ble_eq_true rfl) ⟨Nat.zero_le _, Nat.zero_le _⟩ dX7_deep_63 (zr_kiI (fun o21 => ?_))
        exact zr_iret hB rfl rfl dX7_deep_66
      · refine zr_sub (lv' := (fun s8 : Int64 × Int32 => [(3, .long s8.1), (5, .int s8.2), (0, .ref (ad 0)), (1, .int a1), (2, .int a2)]) (1, 0)) [1, 0, 2, 3, 4] rfl (zr_loops (fun s8 : Int64 × Int32 => [(3, .long s8.1), (5, .int s8.2), (0, .ref (ad 0)), (1, .int a1), (2, .int a2)]) (fun s8 => I) (fun s8 => L) (fun x9 : Unit => [(0, .ref (ad 0))]) (fun x9 => I) (fun x9 => L) hi13 hx14 (fun s8 K16 hc10 hi12 hx11 => ?_) n (1, 0))
        unfold gX7_deep_32
        refine zr_iload hB 1 rfl dX7_deep_32 ?_
        refine zr_bipush (v := 62) hB (by decide) dX7_deep_34 ?_
        refine zr_icmp_gt (tgt := 60) hB (by decide) dX7_deep_36 ?_ ?_
        · exact zr_sub [2] rfl (hx11 ())
        · refine zr_lload_n hB 0 rfl rfl dX7_deep_39 ?_
          refine zr_iload_n hB 4 rfl rfl dX7_deep_40 ?_
          refine zr_i2l hB dX7_deep_41 ?_
          refine zr_lcmp hB dX7_deep_42 ?_
          refine zr_iflt (tgt := 49) hB (by decide) dX7_deep_43 ?_ ?_
          · refine zr_lload_n hB 0 rfl rfl dX7_deep_49 ?_
            refine zr_iload_n hB 3 rfl rfl dX7_deep_50 ?_
            refine zr_i2l hB dX7_deep_51 ?_
            refine zr_lmul hB dX7_deep_52 ?_
            refine zr_letL (fun v17 => ?_)
            refine zr_lstore_n (lv' := [(3, .long v17), (5, .int s8.2), (0, .ref (ad 0)), (1, .int a1), (2, .int a2)]) hB rfl (by decide) rfl dX7_deep_53 ?_
            refine zr_iincL hB (j := 1) (n := 1) (w := 1) rfl (by decide) (by decide) dX7_deep_54 (fun v18 lv' hlv => ?_)
            obtain rfl : lv' = [(5, .int v18), (3, .long v17), (0, .ref (ad 0)), (1, .int a1), (2, .int a2)] := hlv.symm.trans rfl
            refine zr_goto (tgt := 32) hB (by decide) dX7_deep_57 ?_
            exact zr_sub [1, 0, 2, 3, 4] rfl (hc10 (v17, v18))
          · refine zr_iload hB 1 rfl dX7_deep_46 ?_
            refine hi12 _ _ _ _ _ _ ?_
            exact zr_iret hB rfl rfl dX7_deep_48
    · refine zr_aload_n hB 0 rfl rfl dX7_deep_20 ?_
      refine zr_ldc (v := (-1000001)) hB lk_X7_55 dX7_deep_21 ?_
      refine zr_callV (st := []) (C := RX7) (As := [.int (-1000001)]) (embc := em_iI L) hB (mX7_finding (sK := sK) (sV := sV) hi (-1000001) I L) (zW_X7 rfl) rfl rfl lm_X7_56 q2_X7_finding q3_X7_finding q4_X7 q5_X7_finding qd_X7_finding (by decide) rfl rfl (Nat.le_of_ble_eq_true rfl) ⟨Nat.zero_le _, Nat.zero_le _⟩ dX7_deep_23 (zr_kiI (fun o24 => ?_))
      exact zr_iret hB rfl rfl dX7_deep_26

def fX6_draw (w : Nat) (I : zI) : Option (Int32 × zI) :=
  zl (zup I w 16 (((I w 16) * 1103515245) + 12345)) fun J1 =>
  some (zushr (J1 w 16) 8, J1)
set_option maxHeartbeats 4000000 in
set_option maxRecDepth 100000 in
theorem mX6_draw {l : Launch} {D : va_G} {T : zT} {ad sK sV : Nat → Nat} (hi : zInj ad) (w : Nat) (hw : zO_X6 w) (I : zI) (L : zL) : ∀ o, fX6_draw w I = some o → zMet l yX6_draw cX6_draw 1 (some .int) 0 0 D T ad sK sV [.ref (ad w)] I L (em_iI L o) := by
  intro o ho
  refine zMet.of hi (by decide +kernel) (Nat.le_of_ble_eq_true rfl) (fun p e s m args below meth c hB => ?_)
  refine zr_top (emb := em_iI L) (t := fX6_draw w I) ?_ ho
  unfold fX6_draw
  refine zr_aload_n hB 0 rfl rfl dX6_draw_0 ?_
  refine zr_aload_n hB 0 rfl rfl dX6_draw_1 ?_
  refine zr_get_X6 (w := w) (k := 16) (v := .int (I w 16)) hB hw (by decide) rfl lf_X6_37 rfl dX6_draw_2 ?_
  refine zr_ldc (v := 1103515245) hB lk_X6_127 dX6_draw_5 ?_
  refine zr_imul hB dX6_draw_7 ?_
  refine zr_sipush (v := 12345) hB (by decide) dX6_draw_8 ?_
  refine zr_iadd hB dX6_draw_11 ?_
  refine zr_put_X6 (w := w) (k := 16) hB hw (by decide) rfl rfl rfl lf_X6_37 rfl dX6_draw_12 ?_
  refine zr_letM (fun J1 => ?_)
  refine zr_aload_n hB 0 rfl rfl dX6_draw_15 ?_
  refine zr_get_X6 (w := w) (k := 16) (v := .int (J1 w 16)) hB hw (by decide) rfl lf_X6_37 rfl dX6_draw_16 ?_
  refine zr_bipush (v := 8) hB (by decide) dX6_draw_19 ?_
  refine zr_iushr hB dX6_draw_21 ?_
  exact zr_iret hB rfl rfl dX6_draw_22

def fX6_actByDraws (n : Nat) (w : Nat) (a1 : Int32) (I : zI) : Option (zI) :=
  zb (fX6_draw w I) fun o3 =>
  zl (zrem o3.1 8) fun v4 =>
  zb (fX6_roomOf w a1 o3.2) fun o6 =>
  zb (fX6_isOpen w o6 v4 o3.2) fun o8 =>
  zb (
    if o8 = 0 then
      some o3.2
    else
    zb (fX6_moveTo w a1 v4 o3.2) fun o15 =>
    some o15) fun x9 : zI =>
  if (x9 w 4) ≤ 0 then
    some x9
  else
  zb (fX6_roomOf w a1 x9) fun o17 =>
  if o17 = (x9 w 1) then
    zb (fX6_levelOf w a1 x9) fun o19 =>
    if o19 < 4 then
      zb (fX6_draw w x9) fun o22 =>
      zd (o22.2 w 4) (
      zl (zrem o22.1 (o22.2 w 4)) fun v23 =>
      zb (fX6_draw w o22.2) fun o26 =>
      zl (zrem o26.1 8) fun v27 =>
      zb (fX6_draw w o26.2) fun o30 =>
      zb (
        if (o30.2 w 3) ≤ (zrem o30.1 100) then
          some v27
        else
        zl (zrem (v27 + 1) 8) fun v35 =>
        some v35) fun x31 : Int32 =>
      zb (fX6_canReach w a1 v23 o30.2) fun o37 =>
      if o37 = 0 then
        some o30.2
      else
      zg v23 8 (
      if (o30.2 (w + 3) (zn v23)) = x31 then
        some o30.2
      else
      zb (fX6_reachOver n w a1 v23 x31 o30.2) fun o40 =>
      some o40.2))
    else
    some x9
  else
  some x9
set_option maxHeartbeats 4000000 in
set_option maxRecDepth 100000 in
theorem mX6_actByDraws {l : Launch} {D : va_G} {T : zT} {ad sK sV : Nat → Nat} (hi : zInj ad) (n : Nat) (w : Nat) (a1 : Int32) (hw : zO_X6 w) (I : zI) (L : zL) : ∀ o, fX6_actByDraws n w a1 I = some o → zMet l yX6_actByDraws cX6_actByDraws 5 none 3 90 D T ad sK sV [.ref (ad w), .int a1] I L (em_vI L o) := by
  intro o ho
  refine zMet.of hi (by decide +kernel) (Nat.le_of_ble_eq_true rfl) (fun p e s m args below meth c hB => ?_)
  refine zr_top (emb := em_vI L) (t := fX6_actByDraws n w a1 I) ?_ ho
  unfold fX6_actByDraws
  refine zr_aload_n hB 0 rfl rfl dX6_actByDraws_0 ?_
  refine zr_callV (st := []) (C := RX6) (As := []) (embc := em_iI L) hB (mX6_draw (sK := sK) (sV := sV) hi w hw I L) (zW_X6 hw) rfl rfl lm_X6_117 q2_X6_draw q3_X6_draw q4_X6 q5_X6_draw qd_X6_draw (by decide) rfl rfl (Nat.le_of_ble_eq_true rfl) ⟨Nat.zero_le _, Nat.zero_le _⟩ dX6_actByDraws_1 (zr_kiI (fun o3 => ?_))
  refine zr_bipush (v := 8) hB (by decide) dX6_actByDraws_4 ?_
  refine zr_iremC hB (by decide) dX6_actByDraws_6 ?_
  refine zr_letI (fun v4 => ?_)
  refine zr_istore_n (lv' := [(2, .int v4), (0, .ref (ad w)), (1, .int a1)]) hB rfl (by decide) rfl dX6_actByDraws_7 ?_
  refine zr_aload_n hB 1 rfl rfl dX6_actByDraws_8 ?_
  refine zr_aload_n hB 1 rfl rfl dX6_actByDraws_9 ?_
  refine zr_iload_n hB 2 rfl rfl dX6_actByDraws_10 ?_
  refine zr_callV (st := [.ref (ad w)]) (C := RX6) (As := [.int a1]) (embc := em_i0 o3.2 L) hB (mX6_roomOf (sK := sK) (sV := sV) hi w a1 hw o3.2 L) (zW_X6 hw) rfl rfl lm_X6_92 q2_X6_roomOf q3_X6_roomOf q4_X6 q5_X6_roomOf qd_X6_roomOf (by decide) rfl rfl (Nat.le_of_ble_eq_true rfl) ⟨Nat.zero_le _, Nat.zero_le _⟩ dX6_actByDraws_11 (zr_ki0 (fun o6 => ?_))
  refine zr_iload_n hB 0 rfl rfl dX6_actByDraws_14 ?_
  refine zr_callV (st := []) (C := RX6) (As := [.int o6, .int v4]) (embc := em_i0 o3.2 L) hB (mX6_isOpen (sK := sK) (sV := sV) hi w o6 v4 hw o3.2 L) (zW_X6 hw) rfl rfl lm_X6_121 q2_X6_isOpen q3_X6_isOpen q4_X6 q5_X6_isOpen qd_X6_isOpen (by decide) rfl rfl (Nat.le_of_ble_eq_true rfl) ⟨Nat.zero_le _, Nat.zero_le _⟩ dX6_actByDraws_15 (zr_ki0 (fun o8 => ?_))
  refine zr_join (pcJ := 27) (fun x9 : zI => [(0, .ref (ad w)), (1, .int a1)]) (fun x9 => []) (fun x9 => x9) (fun x9 => L) (fun x9 => ?_) (fun K12 hj10 => ?_)
  · refine zr_aload_n hB 0 rfl rfl dX6_actByDraws_27 ?_
    refine zr_get_X6 (w := w) (k := 4) (v := .int (x9 w 4)) hB hw (by decide) rfl lf_X6_55 rfl dX6_actByDraws_28 ?_
    refine zr_ifle (tgt := 55) hB (by decide) dX6_actByDraws_31 ?_ ?_
    · exact zr_vret hB rfl rfl dX6_actByDraws_55
    · refine zr_aload_n hB 0 rfl rfl dX6_actByDraws_34 ?_
      refine zr_iload_n hB 1 rfl rfl dX6_actByDraws_35 ?_
      refine zr_callV (st := []) (C := RX6) (As := [.int a1]) (embc := em_i0 x9 L) hB (mX6_roomOf (sK := sK) (sV := sV) hi w a1 hw x9 L) (zW_X6 hw) rfl rfl lm_X6_92 q2_X6_roomOf q3_X6_roomOf q4_X6 q5_X6_roomOf qd_X6_roomOf (by decide) rfl rfl (Nat.le_of_ble_eq_true rfl) ⟨Nat.zero_le _, Nat.zero_le _⟩ dX6_actByDraws_36 (zr_ki0 (fun o17 => ?_))
      refine zr_aload_n hB 0 rfl rfl dX6_actByDraws_39 ?_
      refine zr_get_X6 (w := w) (k := 1) (v := .int (x9 w 1)) hB hw (by decide) rfl lf_X6_15 rfl dX6_actByDraws_40 ?_
      refine zr_icmp_ne (tgt := 55) hB (by decide) dX6_actByDraws_43 ?_ ?_
      · exact zr_vret hB rfl rfl dX6_actByDraws_55
      · refine zr_aload_n hB 0 rfl rfl dX6_actByDraws_46 ?_
        refine zr_iload_n hB 1 rfl rfl dX6_actByDraws_47 ?_
        refine zr_callV (st := []) (C := RX6) (As := [.int a1]) (embc := em_i0 x9 L) hB (mX6_levelOf (sK := sK) (sV := sV) hi w a1 hw x9 L) (zW_X6 hw) rfl rfl lm_X6_84 q2_X6_levelOf q3_X6_levelOf q4_X6 q5_X6_levelOf qd_X6_levelOf (by decide) rfl rfl (Nat.le_of_ble_eq_true rfl) ⟨Nat.zero_le _, Nat.zero_le _⟩ dX6_actByDraws_48 (zr_ki0 (fun o19 => ?_))
        refine zr_iconst (v := 4) hB (by decide) dX6_actByDraws_51 ?_
        refine zr_icmp_lt (tgt := 56) hB (by decide) dX6_actByDraws_52 ?_ ?_
        · refine zr_aload_n hB 0 rfl rfl dX6_actByDraws_56 ?_
          refine zr_callV (st := []) (C := RX6) (As := []) (embc := em_iI L) hB (mX6_draw (sK := sK) (sV := sV) hi w hw x9 L) (zW_X6 hw) rfl rfl lm_X6_117 q2_X6_draw q3_X6_draw q4_X6 q5_X6_draw qd_X6_draw (by decide) rfl rfl (Nat.le_of_ble_eq_true rfl) ⟨Nat.zero_le _, Nat.zero_le _⟩ dX6_actByDraws_57 (zr_kiI (fun o22 => ?_))
          refine zr_aload_n hB 0 rfl rfl dX6_actByDraws_60 ?_
          refine zr_get_X6 (w := w) (k := 4) (v := .int (o22.2 w 4)) hB hw (by decide) rfl lf_X6_55 rfl dX6_actByDraws_61 ?_
          refine zr_irem hB dX6_actByDraws_64 ?_
          refine zr_letI (fun v23 => ?_)
          refine zr_istore_n (lv' := [(3, .int v23), (0, .ref (ad w)), (1, .int a1)]) hB rfl (by decide) rfl dX6_actByDraws_65 ?_
          refine zr_aload_n hB 1 rfl rfl dX6_actByDraws_66 ?_
          refine zr_callV (st := []) (C := RX6) (As := []) (embc := em_iI L) hB (mX6_draw (sK := sK) (sV := sV) hi w hw o22.2 L) (zW_X6 hw) rfl rfl lm_X6_117 q2_X6_draw q3_X6_draw q4_X6 q5_X6_draw qd_X6_draw (by decide) rfl rfl (Nat.le_of_ble_eq_true rfl) ⟨Nat.zero_le _, Nat.zero_le _⟩ dX6_actByDraws_67 (zr_kiI (fun o26 => ?_))
          refine zr_bipush (v := 8) hB (by decide) dX6_actByDraws_70 ?_
          refine zr_iremC hB (by decide) dX6_actByDraws_72 ?_
          refine zr_letI (fun v27 => ?_)
          refine zr_istore (lv' := [(4, .int v27), (3, .int v23), (0, .ref (ad w)), (1, .int a1)]) hB (by decide) rfl dX6_actByDraws_73 ?_
          refine zr_aload_n hB 2 rfl rfl dX6_actByDraws_75 ?_
          refine zr_callV (st := []) (C := RX6) (As := []) (embc := em_iI L) hB (mX6_draw (sK := sK) (sV := sV) hi w hw o26.2 L) (zW_X6 hw) rfl rfl lm_X6_117 q2_X6_draw q3_X6_draw q4_X6 q5_X6_draw qd_X6_draw (by decide) rfl rfl (Nat.le_of_ble_eq_true rfl) ⟨Nat.zero_le _, Nat.zero_le _⟩ dX6_actByDraws_76 (zr_kiI (fun o30 => ?_))
          refine zr_bipush (v := 100) hB (by decide) dX6_actByDraws_79 ?_
          refine zr_iremC hB (by decide) dX6_actByDraws_81 ?_
          refine zr_aload_n hB 2 rfl rfl dX6_actByDraws_82 ?_
          refine zr_get_X6 (w := w) (k := 3) (v := .int (o30.2 w 3)) hB hw (by decide) rfl lf_X6_52 rfl dX6_actByDraws_83 ?_
          refine zr_join (pcJ := 98) (fun x31 : Int32 => [(4, .int x31), (3, .int v23), (0, .ref (ad w)), (1, .int a1)]) (fun x31 => []) (fun x31 => o30.2) (fun x31 => L) (fun x31 => ?_) (fun K34 hj32 => ?_)
          · refine zr_aload_n hB 2 rfl rfl dX6_actByDraws_98 ?_
            refine zr_iload_n hB 3 rfl rfl dX6_actByDraws_99 ?_
            refine zr_iload_n hB 1 rfl rfl dX6_actByDraws_100 ?_
            refine zr_callV (st := []) (C := RX6) (As := [.int a1, .int v23]) (embc := em_i0 o30.2 L) hB (mX6_canReach (sK := sK) (sV := sV) hi w a1 v23 hw o30.2 L) (zW_X6 hw) rfl rfl lm_X6_110 q2_X6_canReach q3_X6_canReach q4_X6 q5_X6_canReach qd_X6_canReach (by decide) rfl rfl (Nat.le_of_ble_eq_true rfl) ⟨Nat.zero_le _, Nat.zero_le _⟩ dX6_actByDraws_101 (zr_ki0 (fun o37 => ?_))
            refine zr_ifeq (tgt := 127) hB (by decide) dX6_actByDraws_104 ?_ ?_
            · exact zr_vret hB rfl rfl dX6_actByDraws_127
            · refine zr_aload_n hB 2 rfl rfl dX6_actByDraws_107 ?_
              refine zr_get_X6 (w := w) (k := 6) (v := .ref (ad (w + 3))) hB hw (by decide) rfl lf_X6_22 rfl dX6_actByDraws_108 ?_
              refine zr_iload_n hB 1 rfl rfl dX6_actByDraws_111 ?_
              refine zr_iaload hB (zA_X6_3 hw) dX6_actByDraws_112 ?_
              refine zr_iload hB 0 rfl dX6_actByDraws_113 ?_
              refine zr_icmp_eq (tgt := 127) hB (by decide) dX6_actByDraws_115 ?_ ?_
              · exact zr_vret hB rfl rfl dX6_actByDraws_127
              · refine zr_aload_n hB 2 rfl rfl dX6_actByDraws_118 ?_
                refine zr_iload_n hB 3 rfl rfl dX6_actByDraws_119 ?_
                refine zr_iload_n hB 1 rfl rfl dX6_actByDraws_120 ?_
                refine zr_iload hB 0 rfl dX6_actByDraws_121 ?_
                refine zr_callV (st := []) (C := RX6) (As := [.int a1, .int v23, .int x31]) (embc := em_iI L) hB (mX6_reachOver (sK := sK) (sV := sV) hi n w a1 v23 x31 hw o30.2 L) (zW_X6 hw) rfl rfl lm_X6_124 q2_X6_reachOver q3_X6_reachOver q4_X6 q5_X6_reachOver qd_X6_reachOver (by decide) rfl rfl (Nat.le_of_ble_eq_true rfl) ⟨Nat.zero_le _, Nat.zero_le _⟩ dX6_actByDraws_123 (zr_kiI (fun o40 => ?_))
                refine zr_pop hB rfl dX6_actByDraws_126 ?_
                exact zr_vret hB rfl rfl dX6_actByDraws_127
          · refine zr_icmp_ge (tgt := 98) hB (by decide) dX6_actByDraws_86 ?_ ?_
            · exact zr_sub [0, 1, 2, 3] rfl (hj32 v27)
            · refine zr_iload hB 0 rfl dX6_actByDraws_89 ?_
              refine zr_iconst (v := 1) hB (by decide) dX6_actByDraws_91 ?_
              refine zr_iadd hB dX6_actByDraws_92 ?_
              refine zr_bipush (v := 8) hB (by decide) dX6_actByDraws_93 ?_
              refine zr_iremC hB (by decide) dX6_actByDraws_95 ?_
              refine zr_letI (fun v35 => ?_)
              refine zr_istore (lv' := [(4, .int v35), (3, .int v23), (0, .ref (ad w)), (1, .int a1)]) hB (by decide) rfl dX6_actByDraws_96 ?_
              exact zr_sub [0, 1, 2, 3] rfl (hj32 v35)
        · exact zr_vret hB rfl rfl dX6_actByDraws_55
  · refine zr_ifeq (tgt := 27) hB (by decide) dX6_actByDraws_18 ?_ ?_
    · exact zr_sub [1, 2] rfl (hj10 o3.2)
    · refine zr_aload_n hB 1 rfl rfl dX6_actByDraws_21 ?_
      refine zr_iload_n hB 2 rfl rfl dX6_actByDraws_22 ?_
      refine zr_iload_n hB 0 rfl rfl dX6_actByDraws_23 ?_
      refine zr_callV (st := []) (C := RX6) (As := [.int a1, .int v4]) (embc := em_vI L) hB (mX6_moveTo (sK := sK) (sV := sV) hi w a1 v4 hw o3.2 L) (zW_X6 hw) rfl rfl lm_X6_95 q2_X6_moveTo q3_X6_moveTo q4_X6 q5_X6_moveTo qd_X6_moveTo (by decide) rfl rfl (Nat.le_of_ble_eq_true rfl) ⟨Nat.zero_le _, Nat.zero_le _⟩ dX6_actByDraws_24 (zr_kvI (fun o15 => ?_))
      exact zr_sub [1, 2] rfl (hj10 o15)

def gX6_passDays_15 (n : Nat) (w : Nat) (s11 : Int32 × zI) : Option ((Int32 × zI) ⊕ (zI)) :=
  if (s11.2 w 8) ≤ s11.1 then
    some (.inr s11.2)
  else
  zb (fX6_actByDraws n w s11.1 s11.2) fun o22 =>
  zl (s11.1 + 1) fun v23 =>
  some (.inl (v23, o22))
def gX6_passDays_7 (n : Nat) (w : Nat) (a1 : Int32) (s2 : Int32 × zI) : Option ((Int32 × zI) ⊕ (zI)) :=
  if a1 ≤ s2.1 then
    some (.inr s2.2)
  else
  zb (zit (gX6_passDays_15 n w) n (0, s2.2)) fun x12 : zI =>
  zl (zup x12 w 15 ((x12 w 15) + 1)) fun J24 =>
  zl (s2.1 + 1) fun v25 =>
  some (.inl (v25, J24))
def fX6_passDays (n : Nat) (w : Nat) (a1 : Int32) (I : zI) : Option (Int32 × zI) :=
  zl (I w 12) fun v1 =>
  zb (zit (gX6_passDays_7 n w a1) n (0, I)) fun x3 : zI =>
  some ((x3 w 12) - v1, x3)
set_option maxHeartbeats 4000000 in
set_option maxRecDepth 100000 in
theorem mX6_passDays {l : Launch} {D : va_G} {T : zT} {ad sK sV : Nat → Nat} (hi : zInj ad) (n : Nat) (w : Nat) (a1 : Int32) (hw : zO_X6 w) (I : zI) (L : zL) : ∀ o, fX6_passDays n w a1 I = some o → zMet l yX6_passDays cX6_passDays 5 (some .int) 4 114 D T ad sK sV [.ref (ad w), .int a1] I L (em_iI L o) := by
  intro o ho
  refine zMet.of hi (by decide +kernel) (Nat.le_of_ble_eq_true rfl) (fun p e s m args below meth c hB => ?_)
  refine zr_top (emb := em_iI L) (t := fX6_passDays n w a1 I) ?_ ho
  unfold fX6_passDays
  refine zr_aload_n hB 0 rfl rfl dX6_passDays_0 ?_
  refine zr_get_X6 (w := w) (k := 12) (v := .int (I w 12)) hB hw (by decide) rfl lf_X6_64 rfl dX6_passDays_1 ?_
  refine zr_letI (fun v1 => ?_)
  refine zr_istore_n (lv' := [(2, .int v1), (0, .ref (ad w)), (1, .int a1)]) hB rfl (by decide) rfl dX6_passDays_4 ?_
  refine zr_iconst (v := 0) hB (by decide) dX6_passDays_5 ?_
  refine zr_istore_n (lv' := [(3, .int 0), (2, .int v1), (0, .ref (ad w)), (1, .int a1)]) hB rfl (by decide) rfl dX6_passDays_6 ?_
  refine zr_join (pcJ := 52) (fun x3 : zI => [(2, .int v1), (0, .ref (ad w))]) (fun _ => []) (fun x3 => x3) (fun x3 => L) (fun x3 => ?_) (fun K9 hx8 => ?_)
  · refine zr_aload_n hB 1 rfl rfl dX6_passDays_52 ?_
    refine zr_get_X6 (w := w) (k := 12) (v := .int (x3 w 12)) hB hw (by decide) rfl lf_X6_64 rfl dX6_passDays_53 ?_
    refine zr_iload_n hB 0 rfl rfl dX6_passDays_56 ?_
    refine zr_isub hB dX6_passDays_57 ?_
    exact zr_iret hB rfl rfl dX6_passDays_58
  · refine zr_sub (lv' := (fun s2 : Int32 × zI => [(3, .int s2.1), (2, .int v1), (0, .ref (ad w)), (1, .int a1)]) (0, I)) [0, 1, 2, 3] rfl (zr_loop (fun s2 : Int32 × zI => [(3, .int s2.1), (2, .int v1), (0, .ref (ad w)), (1, .int a1)]) (fun s2 => s2.2) (fun s2 => L) (fun x3 : zI => [(2, .int v1), (0, .ref (ad w))]) (fun x3 => x3) (fun x3 => L) hx8 (fun s2 K10 hc4 hx5 => ?_) n (0, I))
    unfold gX6_passDays_7
    refine zr_iload_n hB 0 rfl rfl dX6_passDays_7 ?_
    refine zr_iload_n hB 3 rfl rfl dX6_passDays_8 ?_
    refine zr_icmp_ge (tgt := 52) hB (by decide) dX6_passDays_9 ?_ ?_
    · exact zr_sub [1, 2] rfl (hx5 s2.2)
    · refine zr_iconst (v := 0) hB (by decide) dX6_passDays_12 ?_
      refine zr_istore (lv' := [(4, .int 0), (3, .int s2.1), (2, .int v1), (0, .ref (ad w)), (1, .int a1)]) hB (by decide) rfl dX6_passDays_13 ?_
      refine zr_join (pcJ := 36) (fun x12 : zI => [(3, .int s2.1), (2, .int v1), (0, .ref (ad w)), (1, .int a1)]) (fun _ => []) (fun x12 => x12) (fun x12 => L) (fun x12 => ?_) (fun K18 hx17 => ?_)
      · refine zr_aload_n hB 2 rfl rfl dX6_passDays_36 ?_
        refine zr_dup hB rfl dX6_passDays_37 ?_
        refine zr_get_X6 (w := w) (k := 15) (v := .int (x12 w 15)) hB hw (by decide) rfl lf_X6_70 rfl dX6_passDays_38 ?_
        refine zr_iconst (v := 1) hB (by decide) dX6_passDays_41 ?_
        refine zr_iadd hB dX6_passDays_42 ?_
        refine zr_put_X6 (w := w) (k := 15) hB hw (by decide) rfl rfl rfl lf_X6_70 rfl dX6_passDays_43 ?_
        refine zr_letM (fun J24 => ?_)
        refine zr_iincL hB (j := 0) (n := 1) (w := 1) rfl (by decide) (by decide) dX6_passDays_46 (fun v25 lv' hlv => ?_)
        obtain rfl : lv' = [(3, .int v25), (2, .int v1), (0, .ref (ad w)), (1, .int a1)] := hlv.symm.trans rfl
        refine zr_goto (tgt := 7) hB (by decide) dX6_passDays_49 ?_
        exact zr_sub [0, 1, 2, 3] rfl (hc4 (v25, J24))
      · refine zr_sub (lv' := (fun s11 : Int32 × zI => [(4, .int s11.1), (3, .int s2.1), (2, .int v1), (0, .ref (ad w)), (1, .int a1)]) (0, s2.2)) [0, 1, 2, 3, 4] rfl (zr_loop (fun s11 : Int32 × zI => [(4, .int s11.1), (3, .int s2.1), (2, .int v1), (0, .ref (ad w)), (1, .int a1)]) (fun s11 => s11.2) (fun s11 => L) (fun x12 : zI => [(3, .int s2.1), (2, .int v1), (0, .ref (ad w)), (1, .int a1)]) (fun x12 => x12) (fun x12 => L) hx17 (fun s11 K19 hc13 hx14 => ?_) n (0, s2.2))
        unfold gX6_passDays_15
        refine zr_iload hB 0 rfl dX6_passDays_15 ?_
        refine zr_aload_n hB 3 rfl rfl dX6_passDays_17 ?_
        refine zr_get_X6 (w := w) (k := 8) (v := .int (s11.2 w 8)) hB hw (by decide) rfl lf_X6_58 rfl dX6_passDays_18 ?_
        refine zr_icmp_ge (tgt := 36) hB (by decide) dX6_passDays_21 ?_ ?_
        · exact zr_sub [1, 2, 3, 4] rfl (hx14 s11.2)
        · refine zr_aload_n hB 3 rfl rfl dX6_passDays_24 ?_
          refine zr_iload hB 0 rfl dX6_passDays_25 ?_
          refine zr_callV (st := []) (C := RX6) (As := [.int s11.1]) (embc := em_vI L) hB (mX6_actByDraws (sK := sK) (sV := sV) hi n w s11.1 hw s11.2 L) (zW_X6 hw) rfl rfl lm_X6_113 q2_X6_actByDraws q3_X6_actByDraws q4_X6 q5_X6_actByDraws qd_X6_actByDraws (by decide) rfl rfl (Nat.le_of_ble_eq_true rfl) ⟨Nat.zero_le _, Nat.zero_le _⟩ dX6_passDays_27 (zr_kvI (fun o22 => ?_))
          refine zr_iincL hB (j := 0) (n := 1) (w := 1) rfl (by decide) (by decide) dX6_passDays_30 (fun v23 lv' hlv => ?_)
          obtain rfl : lv' = [(4, .int v23), (3, .int s2.1), (2, .int v1), (0, .ref (ad w)), (1, .int a1)] := hlv.symm.trans rfl
          refine zr_goto (tgt := 15) hB (by decide) dX6_passDays_33 ?_
          exact zr_sub [0, 1, 2, 3, 4] rfl (hc13 (v23, o22))

def fX7_days (n : Nat) (a1 : Int32) (I : zI) : Option (Int32 × zI) :=
  zb (fX7_isWithin a1 1 60) fun o2 =>
  if o2 = 0 then
    zb (fX7_finding (-1000001) I) fun o11 =>
    some (o11.1, o11.2)
  else
  if ((I 1 15) + a1) ≤ 9999 then
    zb (fX6_passDays n 1 a1 I) fun o5 =>
    some (o5.1, o5.2)
  else
  zb (fX7_finding (-1000005) I) fun o8 =>
  some (o8.1, o8.2)
set_option maxHeartbeats 4000000 in
set_option maxRecDepth 100000 in
theorem mX7_days {l : Launch} {D : va_G} {T : zT} {ad sK sV : Nat → Nat} (hi : zInj ad) (n : Nat) (a1 : Int32)  (I : zI) (L : zL) : ∀ o, fX7_days n a1 I = some o → zMet l yX7_days cX7_days 2 (some .int) 5 138 D T ad sK sV [.ref (ad 0), .int a1] I L (em_iI L o) := by
  intro o ho
  refine zMet.of hi (by decide +kernel) (Nat.le_of_ble_eq_true rfl) (fun p e s m args below meth c hB => ?_)
  refine zr_top (emb := em_iI L) (t := fX7_days n a1 I) ?_ ho
  unfold fX7_days
  refine zr_iload_n hB 1 rfl rfl dX7_days_0 ?_
  refine zr_iconst (v := 1) hB (by decide) dX7_days_1 ?_
  refine zr_bipush (v := 60) hB (by decide) dX7_days_2 ?_
  refine zr_callS (st := []) (As := [.int a1, .int 1, .int 60]) (embc := em_i0 I L) hB (mX7_isWithin (sK := sK) (sV := sV) hi a1 1 60 I L) lm_X7_51 q2_X7_isWithin q4_X7 q5_X7_isWithin qd_X7_isWithin (by decide) rfl rfl (Nat.le_of_ble_eq_true rfl) ⟨Nat.zero_le _, Nat.zero_le _⟩ dX7_days_4 (zr_ki0 (fun o2 => ?_))
  refine zr_ifne (tgt := 17) hB (by decide) dX7_days_7 ?_ ?_
  · refine zr_aload_n hB 0 rfl rfl dX7_days_17 ?_
    refine zr_get_X7 (w := 0) (k := 0) (v := .ref (ad 1)) hB rfl (by decide) rfl lf_X7_12 rfl dX7_days_18 ?_
    refine zr_get_X6 (w := 1) (k := 15) (v := .int (I 1 15)) hB (Or.inl rfl) (by decide) rfl lf_X7_162 rfl dX7_days_21 ?_
    refine zr_iload_n hB 1 rfl rfl dX7_days_24 ?_
    refine zr_iadd hB dX7_days_25 ?_
    refine zr_sipush (v := 9999) hB (by decide) dX7_days_26 ?_
    refine zr_icmp_le (tgt := 39) hB (by decide) dX7_days_29 ?_ ?_
    · refine zr_aload_n hB 0 rfl rfl dX7_days_39 ?_
      refine zr_get_X7 (w := 0) (k := 0) (v := .ref (ad 1)) hB rfl (by decide) rfl lf_X7_12 rfl dX7_days_40 ?_
      refine zr_iload_n hB 1 rfl rfl dX7_days_43 ?_
      refine zr_callV (st := []) (C := RX6) (As := [.int a1]) (embc := em_iI L) hB (mX6_passDays (sK := sK) (sV := sV) hi n 1 a1 (Or.inl rfl) I L) (zW_X6 (Or.inl rfl)) rfl rfl lm_X7_240 q2_X6_passDays q3_X6_passDays q4_X6 q5_X6_passDays qd_X6_passDays (by decide) rfl rfl (Nat.le_of_ble_eq_true rfl) ⟨Nat.zero_le _, Nat.zero_le _⟩ dX7_days_44 (zr_kiI (fun o5 => ?_))
      exact zr_iret hB rfl rfl dX7_days_47
    · refine zr_aload_n hB 0 rfl rfl dX7_days_32 ?_
      refine zr_ldc (v := (-1000005)) hB lk_X7_124 dX7_days_33 ?_
      refine zr_callV (st := []) (C := RX7) (As := [.int (-1000005)]) (embc := em_iI L) hB (mX7_finding (sK := sK) (sV := sV) hi (-1000005) I L) (zW_X7 rfl) rfl rfl lm_X7_56 q2_X7_finding q3_X7_finding q4_X7 q5_X7_finding qd_X7_finding (by decide) rfl rfl (Nat.le_of_ble_eq_true rfl) ⟨Nat.zero_le _, Nat.zero_le _⟩ dX7_days_35 (zr_kiI (fun o8 => ?_))
      exact zr_iret hB rfl rfl dX7_days_38
  · refine zr_aload_n hB 0 rfl rfl dX7_days_10 ?_
    refine zr_ldc (v := (-1000001)) hB lk_X7_55 dX7_days_11 ?_
    refine zr_callV (st := []) (C := RX7) (As := [.int (-1000001)]) (embc := em_iI L) hB (mX7_finding (sK := sK) (sV := sV) hi (-1000001) I L) (zW_X7 rfl) rfl rfl lm_X7_56 q2_X7_finding q3_X7_finding q4_X7 q5_X7_finding qd_X7_finding (by decide) rfl rfl (Nat.le_of_ble_eq_true rfl) ⟨Nat.zero_le _, Nat.zero_le _⟩ dX7_days_13 (zr_kiI (fun o11 => ?_))
    exact zr_iret hB rfl rfl dX7_days_16

def fX7_ahead (n : Nat) (a1 : Int32) (a2 : Int32) (I : zI) : Option (Int32 × zI) :=
  zb (fX7_isWithin a1 0 60) fun o2 =>
  if o2 = 0 then
    zb (fX7_finding (-1000001) I) fun o5 =>
    some (o5.1, o5.2)
  else
  zbs (
    if a2 = 0 then
      some (.inr ())
    else
    zb (fX7_isThing (a2 - 1) I) fun o11 =>
    if o11 = 0 then
      zb (fX7_finding (-1000001) I) fun o14 =>
      some (.inl (o14.1, o14.2))
    else
    some (.inr ())) fun x6 : Unit =>
  if ((I 1 15) + a1) ≤ 9999 then
    zb (fX6_become 19 1 I) fun o17 =>
    zb (fX6_passDays n 19 a1 o17) fun o20 =>
    if a2 = 0 then
      some (o20.1, o20.2)
    else
    zg (a2 - 1) 8 (
    some (o20.2 22 (zn (a2 - 1)), o20.2))
  else
  zb (fX7_finding (-1000005) I) fun o23 =>
  some (o23.1, o23.2)
set_option maxHeartbeats 4000000 in
set_option maxRecDepth 100000 in
theorem mX7_ahead {l : Launch} {D : va_G} {T : zT} {ad sK sV : Nat → Nat} (hi : zInj ad) (n : Nat) (a1 : Int32) (a2 : Int32)  (I : zI) (L : zL) : ∀ o, fX7_ahead n a1 a2 I = some o → zMet l yX7_ahead cX7_ahead 4 (some .int) 5 138 D T ad sK sV [.ref (ad 0), .int a1, .int a2] I L (em_iI L o) := by
  intro o ho
  refine zMet.of hi (by decide +kernel) (Nat.le_of_ble_eq_true rfl) (fun p e s m args below meth c hB => ?_)
  refine zr_top (emb := em_iI L) (t := fX7_ahead n a1 a2 I) ?_ ho
  unfold fX7_ahead
  refine zr_iload_n hB 1 rfl rfl dX7_ahead_0 ?_
  refine zr_iconst (v := 0) hB (by decide) dX7_ahead_1 ?_
  refine zr_bipush (v := 60) hB (by decide) dX7_ahead_2 ?_
  refine zr_callS (st := []) (As := [.int a1, .int 0, .int 60]) (embc := em_i0 I L) hB (mX7_isWithin (sK := sK) (sV := sV) hi a1 0 60 I L) lm_X7_51 q2_X7_isWithin q4_X7 q5_X7_isWithin qd_X7_isWithin (by decide) rfl rfl (Nat.le_of_ble_eq_true rfl) ⟨Nat.zero_le _, Nat.zero_le _⟩ dX7_ahead_4 (zr_ki0 (fun o2 => ?_))
  refine zr_ifeq (tgt := 24) hB (by decide) dX7_ahead_7 ?_ ?_
  · refine zr_aload_n hB 0 rfl rfl dX7_ahead_24 ?_
    refine zr_ldc (v := (-1000001)) hB lk_X7_55 dX7_ahead_25 ?_
    refine zr_callV (st := []) (C := RX7) (As := [.int (-1000001)]) (embc := em_iI L) hB (mX7_finding (sK := sK) (sV := sV) hi (-1000001) I L) (zW_X7 rfl) rfl rfl lm_X7_56 q2_X7_finding q3_X7_finding q4_X7 q5_X7_finding qd_X7_finding (by decide) rfl rfl (Nat.le_of_ble_eq_true rfl) ⟨Nat.zero_le _, Nat.zero_le _⟩ dX7_ahead_27 (zr_kiI (fun o5 => ?_))
    exact zr_iret hB rfl rfl dX7_ahead_30
  · refine zr_iload_n hB 2 rfl rfl dX7_ahead_10 ?_
    refine zr_joins (pcJ := 31) (fun x6 : Unit => [(0, .ref (ad 0)), (1, .int a1), (2, .int a2)]) (fun x6 => []) (fun x6 => I) (fun x6 => L) (fun x6 => ?_) (fun K9 hi8 hj7 => ?_)
    · refine zr_aload_n hB 0 rfl rfl dX7_ahead_31 ?_
      refine zr_get_X7 (w := 0) (k := 0) (v := .ref (ad 1)) hB rfl (by decide) rfl lf_X7_12 rfl dX7_ahead_32 ?_
      refine zr_get_X6 (w := 1) (k := 15) (v := .int (I 1 15)) hB (Or.inl rfl) (by decide) rfl lf_X7_162 rfl dX7_ahead_35 ?_
      refine zr_iload_n hB 1 rfl rfl dX7_ahead_38 ?_
      refine zr_iadd hB dX7_ahead_39 ?_
      refine zr_sipush (v := 9999) hB (by decide) dX7_ahead_40 ?_
      refine zr_icmp_le (tgt := 53) hB (by decide) dX7_ahead_43 ?_ ?_
      · refine zr_aload_n hB 0 rfl rfl dX7_ahead_53 ?_
        refine zr_get_X7 (w := 0) (k := 2) (v := .ref (ad 19)) hB rfl (by decide) rfl lf_X7_19 rfl dX7_ahead_54 ?_
        refine zr_aload_n hB 0 rfl rfl dX7_ahead_57 ?_
        refine zr_get_X7 (w := 0) (k := 0) (v := .ref (ad 1)) hB rfl (by decide) rfl lf_X7_12 rfl dX7_ahead_58 ?_
        refine zr_callV (st := []) (C := RX6) (As := [.ref (ad 1)]) (embc := em_vI L) hB (mX6_become (sK := sK) (sV := sV) hi 19 1 (Or.inr (Or.inr rfl)) (Or.inl rfl) I L) (zW_X6 (Or.inr (Or.inr rfl))) rfl rfl lm_X7_209 q2_X6_become q3_X6_become q4_X6 q5_X6_become qd_X6_become (by decide) rfl rfl (Nat.le_of_ble_eq_true rfl) ⟨Nat.zero_le _, Nat.zero_le _⟩ dX7_ahead_61 (zr_kvI (fun o17 => ?_))
        refine zr_aload_n hB 0 rfl rfl dX7_ahead_64 ?_
        refine zr_get_X7 (w := 0) (k := 2) (v := .ref (ad 19)) hB rfl (by decide) rfl lf_X7_19 rfl dX7_ahead_65 ?_
        refine zr_iload_n hB 1 rfl rfl dX7_ahead_68 ?_
        refine zr_callV (st := []) (C := RX6) (As := [.int a1]) (embc := em_iI L) hB (mX6_passDays (sK := sK) (sV := sV) hi n 19 a1 (Or.inr (Or.inr rfl)) o17 L) (zW_X6 (Or.inr (Or.inr rfl))) rfl rfl lm_X7_240 q2_X6_passDays q3_X6_passDays q4_X6 q5_X6_passDays qd_X6_passDays (by decide) rfl rfl (Nat.le_of_ble_eq_true rfl) ⟨Nat.zero_le _, Nat.zero_le _⟩ dX7_ahead_69 (zr_kiI (fun o20 => ?_))
        refine zr_istore_n (lv' := [(3, .int o20.1), (0, .ref (ad 0)), (1, .int a1), (2, .int a2)]) hB rfl (by decide) rfl dX7_ahead_72 ?_
        refine zr_iload_n hB 3 rfl rfl dX7_ahead_73 ?_
        refine zr_ifne (tgt := 81) hB (by decide) dX7_ahead_74 ?_ ?_
        · refine zr_aload_n hB 1 rfl rfl dX7_ahead_81 ?_
          refine zr_get_X7 (w := 0) (k := 2) (v := .ref (ad 19)) hB rfl (by decide) rfl lf_X7_19 rfl dX7_ahead_82 ?_
          refine zr_get_X6 (w := 19) (k := 6) (v := .ref (ad 22)) hB (Or.inr (Or.inr rfl)) (by decide) rfl lf_X7_150 rfl dX7_ahead_85 ?_
          refine zr_iload_n hB 3 rfl rfl dX7_ahead_88 ?_
          refine zr_iconst (v := 1) hB (by decide) dX7_ahead_89 ?_
          refine zr_isub hB dX7_ahead_90 ?_
          refine zr_iaload hB zA_22 dX7_ahead_91 ?_
          exact zr_iret hB rfl rfl dX7_ahead_92
        · refine zr_iload_n hB 0 rfl rfl dX7_ahead_77 ?_
          refine zr_goto (tgt := 92) hB (by decide) dX7_ahead_78 ?_
          exact zr_iret hB rfl rfl dX7_ahead_92
      · refine zr_aload_n hB 0 rfl rfl dX7_ahead_46 ?_
        refine zr_ldc (v := (-1000005)) hB lk_X7_124 dX7_ahead_47 ?_
        refine zr_callV (st := []) (C := RX7) (As := [.int (-1000005)]) (embc := em_iI L) hB (mX7_finding (sK := sK) (sV := sV) hi (-1000005) I L) (zW_X7 rfl) rfl rfl lm_X7_56 q2_X7_finding q3_X7_finding q4_X7 q5_X7_finding qd_X7_finding (by decide) rfl rfl (Nat.le_of_ble_eq_true rfl) ⟨Nat.zero_le _, Nat.zero_le _⟩ dX7_ahead_49 (zr_kiI (fun o23 => ?_))
        exact zr_iret hB rfl rfl dX7_ahead_52
    · refine zr_ifeq (tgt := 31) hB (by decide) dX7_ahead_11 ?_ ?_
      · exact zr_sub [0, 1, 2] rfl (hj7 ())
      · refine zr_aload_n hB 0 rfl rfl dX7_ahead_14 ?_
        refine zr_iload_n hB 2 rfl rfl dX7_ahead_15 ?_
        refine zr_iconst (v := 1) hB (by decide) dX7_ahead_16 ?_
        refine zr_isub hB dX7_ahead_17 ?_
        refine zr_callV (st := []) (C := RX7) (As := [.int (a2 - 1)]) (embc := em_i0 I L) hB (mX7_isThing (sK := sK) (sV := sV) hi (a2 - 1) I L) (zW_X7 rfl) rfl rfl lm_X7_84 q2_X7_isThing q3_X7_isThing q4_X7 q5_X7_isThing qd_X7_isThing (by decide) rfl rfl (Nat.le_of_ble_eq_true rfl) ⟨Nat.zero_le _, Nat.zero_le _⟩ dX7_ahead_18 (zr_ki0 (fun o11 => ?_))
        refine zr_ifne (tgt := 31) hB (by decide) dX7_ahead_21 ?_ ?_
        · exact zr_sub [0, 1, 2] rfl (hj7 ())
        · refine zr_aload_n hB 0 rfl rfl dX7_ahead_24 ?_
          refine zr_ldc (v := (-1000001)) hB lk_X7_55 dX7_ahead_25 ?_
          refine zr_callV (st := []) (C := RX7) (As := [.int (-1000001)]) (embc := em_iI L) hB (mX7_finding (sK := sK) (sV := sV) hi (-1000001) I L) (zW_X7 rfl) rfl rfl lm_X7_56 q2_X7_finding q3_X7_finding q4_X7 q5_X7_finding qd_X7_finding (by decide) rfl rfl (Nat.le_of_ble_eq_true rfl) ⟨Nat.zero_le _, Nat.zero_le _⟩ dX7_ahead_27 (zr_kiI (fun o14 => ?_))
          refine hi8 _ _ _ _ _ _ ?_
          exact zr_iret hB rfl rfl dX7_ahead_30

def gX7_when_55 (n : Nat) (a1 : Int32) (a2 : Int32) (s11 : Int32 × zI) : Option ((Int32 × zI) ⊕ ((Int32 × zI) ⊕ (zI))) :=
  if 60 < s11.1 then
    some (.inr (.inr s11.2))
  else
  zb (
    if s11.1 ≤ 0 then
      some s11.2
    else
    zb (fX6_passDays n 19 1 s11.2) fun o26 =>
    some o26.2) fun x20 : zI =>
  zg a1 8 (
  if (x20 22 (zn a1)) = a2 then
    some (.inr (.inl (s11.1, x20)))
  else
  zl (s11.1 + 1) fun v27 =>
  some (.inl (v27, x20)))
def fX7_when (n : Nat) (a1 : Int32) (a2 : Int32) (I : zI) : Option (Int32 × zI) :=
  zb (fX7_isThing a1 I) fun o2 =>
  if o2 = 0 then
    zb (fX7_finding (-1000001) I) fun o5 =>
    some (o5.1, o5.2)
  else
  zb (fX7_isRoom a2) fun o7 =>
  if o7 = 0 then
    zb (fX7_finding (-1000001) I) fun o36 =>
    some (o36.1, o36.2)
  else
  if (I 1 15) ≤ 9939 then
    zb (fX6_become 19 1 I) fun o10 =>
    zbs (zit (gX7_when_55 n a1 a2) n (0, o10)) fun x12 : zI =>
    zb (fX7_finding (-1000004) x12) fun o30 =>
    some (o30.1, o30.2)
  else
  zb (fX7_finding (-1000005) I) fun o33 =>
  some (o33.1, o33.2)
set_option maxHeartbeats 4000000 in
set_option maxRecDepth 100000 in
theorem mX7_when {l : Launch} {D : va_G} {T : zT} {ad sK sV : Nat → Nat} (hi : zInj ad) (n : Nat) (a1 : Int32) (a2 : Int32)  (I : zI) (L : zL) : ∀ o, fX7_when n a1 a2 I = some o → zMet l yX7_when cX7_when 4 (some .int) 5 138 D T ad sK sV [.ref (ad 0), .int a1, .int a2] I L (em_iI L o) := by
  intro o ho
  refine zMet.of hi (by decide +kernel) (Nat.le_of_ble_eq_true rfl) (fun p e s m args below meth c hB => ?_)
  refine zr_top (emb := em_iI L) (t := fX7_when n a1 a2 I) ?_ ho
  unfold fX7_when
  refine zr_aload_n hB 0 rfl rfl dX7_when_0 ?_
  refine zr_iload_n hB 1 rfl rfl dX7_when_1 ?_
  refine zr_callV (st := []) (C := RX7) (As := [.int a1]) (embc := em_i0 I L) hB (mX7_isThing (sK := sK) (sV := sV) hi a1 I L) (zW_X7 rfl) rfl rfl lm_X7_84 q2_X7_isThing q3_X7_isThing q4_X7 q5_X7_isThing qd_X7_isThing (by decide) rfl rfl (Nat.le_of_ble_eq_true rfl) ⟨Nat.zero_le _, Nat.zero_le _⟩ dX7_when_2 (zr_ki0 (fun o2 => ?_))
  refine zr_ifeq (tgt := 15) hB (by decide) dX7_when_5 ?_ ?_
  · refine zr_aload_n hB 0 rfl rfl dX7_when_15 ?_
    refine zr_ldc (v := (-1000001)) hB lk_X7_55 dX7_when_16 ?_
    refine zr_callV (st := []) (C := RX7) (As := [.int (-1000001)]) (embc := em_iI L) hB (mX7_finding (sK := sK) (sV := sV) hi (-1000001) I L) (zW_X7 rfl) rfl rfl lm_X7_56 q2_X7_finding q3_X7_finding q4_X7 q5_X7_finding qd_X7_finding (by decide) rfl rfl (Nat.le_of_ble_eq_true rfl) ⟨Nat.zero_le _, Nat.zero_le _⟩ dX7_when_18 (zr_kiI (fun o5 => ?_))
    exact zr_iret hB rfl rfl dX7_when_21
  · refine zr_iload_n hB 2 rfl rfl dX7_when_8 ?_
    refine zr_callS (st := []) (As := [.int a2]) (embc := em_i0 I L) hB (mX7_isRoom (sK := sK) (sV := sV) hi a2 I L) lm_X7_47 q2_X7_isRoom q4_X7 q5_X7_isRoom qd_X7_isRoom (by decide) rfl rfl (Nat.le_of_ble_eq_true rfl) ⟨Nat.zero_le _, Nat.zero_le _⟩ dX7_when_9 (zr_ki0 (fun o7 => ?_))
    refine zr_ifne (tgt := 22) hB (by decide) dX7_when_12 ?_ ?_
    · refine zr_aload_n hB 0 rfl rfl dX7_when_22 ?_
      refine zr_get_X7 (w := 0) (k := 0) (v := .ref (ad 1)) hB rfl (by decide) rfl lf_X7_12 rfl dX7_when_23 ?_
      refine zr_get_X6 (w := 1) (k := 15) (v := .int (I 1 15)) hB (Or.inl rfl) (by decide) rfl lf_X7_162 rfl dX7_when_26 ?_
      refine zr_sipush (v := 9939) hB (by decide) dX7_when_29 ?_
      refine zr_icmp_le (tgt := 42) hB (by decide) dX7_when_32 ?_ ?_
      · refine zr_aload_n hB 0 rfl rfl dX7_when_42 ?_
        refine zr_get_X7 (w := 0) (k := 2) (v := .ref (ad 19)) hB rfl (by decide) rfl lf_X7_19 rfl dX7_when_43 ?_
        refine zr_aload_n hB 0 rfl rfl dX7_when_46 ?_
        refine zr_get_X7 (w := 0) (k := 0) (v := .ref (ad 1)) hB rfl (by decide) rfl lf_X7_12 rfl dX7_when_47 ?_
        refine zr_callV (st := []) (C := RX6) (As := [.ref (ad 1)]) (embc := em_vI L) hB (mX6_become (sK := sK) (sV := sV) hi 19 1 (Or.inr (Or.inr rfl)) (Or.inl rfl) I L) (zW_X6 (Or.inr (Or.inr rfl))) rfl rfl lm_X7_209 q2_X6_become q3_X6_become q4_X6 q5_X6_become qd_X6_become (by decide) rfl rfl (Nat.le_of_ble_eq_true rfl) ⟨Nat.zero_le _, Nat.zero_le _⟩ dX7_when_50 (zr_kvI (fun o10 => ?_))
        refine zr_iconst (v := 0) hB (by decide) dX7_when_53 ?_
        refine zr_istore_n (lv' := [(3, .int 0), (0, .ref (ad 0)), (1, .int a1), (2, .int a2)]) hB rfl (by decide) rfl dX7_when_54 ?_
        refine zr_joins (pcJ := 95) (fun x12 : zI => [(0, .ref (ad 0))]) (fun _ => []) (fun x12 => x12) (fun x12 => L) (fun x12 => ?_) (fun K18 hi16 hx17 => ?_)
        · refine zr_aload_n hB 0 rfl rfl dX7_when_95 ?_
          refine zr_ldc (v := (-1000004)) hB lk_X7_180 dX7_when_96 ?_
          refine zr_callV (st := []) (C := RX7) (As := [.int (-1000004)]) (embc := em_iI L) hB (mX7_finding (sK := sK) (sV := sV) hi (-1000004) x12 L) (zW_X7 rfl) rfl rfl lm_X7_56 q2_X7_finding q3_X7_finding q4_X7 q5_X7_finding qd_X7_finding (by decide) rfl rfl (Nat.le_of_ble_eq_true rfl) ⟨Nat.zero_le _, Nat.zero_le _⟩ dX7_when_98 (zr_kiI (fun o30 => ?_))
          exact zr_iret hB rfl rfl dX7_when_101
        · refine zr_sub (lv' := (fun s11 : Int32 × zI => [(3, .int s11.1), (0, .ref (ad 0)), (1, .int a1), (2, .int a2)]) (0, o10)) [0, 1, 2, 3] rfl (zr_loops (fun s11 : Int32 × zI => [(3, .int s11.1), (0, .ref (ad 0)), (1, .int a1), (2, .int a2)]) (fun s11 => s11.2) (fun s11 => L) (fun x12 : zI => [(0, .ref (ad 0))]) (fun x12 => x12) (fun x12 => L) hi16 hx17 (fun s11 K19 hc13 hi15 hx14 => ?_) n (0, o10))
          unfold gX7_when_55
          refine zr_iload_n hB 0 rfl rfl dX7_when_55 ?_
          refine zr_bipush (v := 60) hB (by decide) dX7_when_56 ?_
          refine zr_icmp_gt (tgt := 95) hB (by decide) dX7_when_58 ?_ ?_
          · exact zr_sub [1] rfl (hx14 s11.2)
          · refine zr_iload_n hB 0 rfl rfl dX7_when_61 ?_
            refine zr_join (pcJ := 74) (fun x20 : zI => [(3, .int s11.1), (0, .ref (ad 0)), (1, .int a1), (2, .int a2)]) (fun x20 => []) (fun x20 => x20) (fun x20 => L) (fun x20 => ?_) (fun K23 hj21 => ?_)
            · refine zr_aload_n hB 1 rfl rfl dX7_when_74 ?_
              refine zr_get_X7 (w := 0) (k := 2) (v := .ref (ad 19)) hB rfl (by decide) rfl lf_X7_19 rfl dX7_when_75 ?_
              refine zr_get_X6 (w := 19) (k := 6) (v := .ref (ad 22)) hB (Or.inr (Or.inr rfl)) (by decide) rfl lf_X7_150 rfl dX7_when_78 ?_
              refine zr_iload_n hB 2 rfl rfl dX7_when_81 ?_
              refine zr_iaload hB zA_22 dX7_when_82 ?_
              refine zr_iload_n hB 3 rfl rfl dX7_when_83 ?_
              refine zr_icmp_ne (tgt := 89) hB (by decide) dX7_when_84 ?_ ?_
              · refine zr_iincL hB (j := 0) (n := 1) (w := 1) rfl (by decide) (by decide) dX7_when_89 (fun v27 lv' hlv => ?_)
                obtain rfl : lv' = [(3, .int v27), (0, .ref (ad 0)), (1, .int a1), (2, .int a2)] := hlv.symm.trans rfl
                refine zr_goto (tgt := 55) hB (by decide) dX7_when_92 ?_
                exact zr_sub [0, 1, 2, 3] rfl (hc13 (v27, x20))
              · refine zr_iload_n hB 0 rfl rfl dX7_when_87 ?_
                refine hi15 _ _ _ _ _ _ ?_
                exact zr_iret hB rfl rfl dX7_when_88
            · refine zr_ifle (tgt := 74) hB (by decide) dX7_when_62 ?_ ?_
              · exact zr_sub [0, 1, 2, 3] rfl (hj21 s11.2)
              · refine zr_aload_n hB 1 rfl rfl dX7_when_65 ?_
                refine zr_get_X7 (w := 0) (k := 2) (v := .ref (ad 19)) hB rfl (by decide) rfl lf_X7_19 rfl dX7_when_66 ?_
                refine zr_iconst (v := 1) hB (by decide) dX7_when_69 ?_
                refine zr_callV (st := []) (C := RX6) (As := [.int 1]) (embc := em_iI L) hB (mX6_passDays (sK := sK) (sV := sV) hi n 19 1 (Or.inr (Or.inr rfl)) s11.2 L) (zW_X6 (Or.inr (Or.inr rfl))) rfl rfl lm_X7_240 q2_X6_passDays q3_X6_passDays q4_X6 q5_X6_passDays qd_X6_passDays (by decide) rfl rfl (Nat.le_of_ble_eq_true rfl) ⟨Nat.zero_le _, Nat.zero_le _⟩ dX7_when_70 (zr_kiI (fun o26 => ?_))
                refine zr_pop hB rfl dX7_when_73 ?_
                exact zr_sub [0, 1, 2, 3] rfl (hj21 o26.2)
      · refine zr_aload_n hB 0 rfl rfl dX7_when_35 ?_
        refine zr_ldc (v := (-1000005)) hB lk_X7_124 dX7_when_36 ?_
        refine zr_callV (st := []) (C := RX7) (As := [.int (-1000005)]) (embc := em_iI L) hB (mX7_finding (sK := sK) (sV := sV) hi (-1000005) I L) (zW_X7 rfl) rfl rfl lm_X7_56 q2_X7_finding q3_X7_finding q4_X7 q5_X7_finding qd_X7_finding (by decide) rfl rfl (Nat.le_of_ble_eq_true rfl) ⟨Nat.zero_le _, Nat.zero_le _⟩ dX7_when_38 (zr_kiI (fun o33 => ?_))
        exact zr_iret hB rfl rfl dX7_when_41
    · refine zr_aload_n hB 0 rfl rfl dX7_when_15 ?_
      refine zr_ldc (v := (-1000001)) hB lk_X7_55 dX7_when_16 ?_
      refine zr_callV (st := []) (C := RX7) (As := [.int (-1000001)]) (embc := em_iI L) hB (mX7_finding (sK := sK) (sV := sV) hi (-1000001) I L) (zW_X7 rfl) rfl rfl lm_X7_56 q2_X7_finding q3_X7_finding q4_X7 q5_X7_finding qd_X7_finding (by decide) rfl rfl (Nat.le_of_ble_eq_true rfl) ⟨Nat.zero_le _, Nat.zero_le _⟩ dX7_when_18 (zr_kiI (fun o36 => ?_))
      exact zr_iret hB rfl rfl dX7_when_21

def fX7_seed (a1 : Int32) (I : zI) : Option (Int32 × zI) :=
  zl (I 1 16) fun v1 =>
  zl (zup I 1 16 a1) fun J2 =>
  some (v1, J2)
set_option maxHeartbeats 4000000 in
set_option maxRecDepth 100000 in
theorem mX7_seed {l : Launch} {D : va_G} {T : zT} {ad sK sV : Nat → Nat} (hi : zInj ad) (a1 : Int32)  (I : zI) (L : zL) : ∀ o, fX7_seed a1 I = some o → zMet l yX7_seed cX7_seed 3 (some .int) 0 0 D T ad sK sV [.ref (ad 0), .int a1] I L (em_iI L o) := by
  intro o ho
  refine zMet.of hi (by decide +kernel) (Nat.le_of_ble_eq_true rfl) (fun p e s m args below meth c hB => ?_)
  refine zr_top (emb := em_iI L) (t := fX7_seed a1 I) ?_ ho
  unfold fX7_seed
  refine zr_aload_n hB 0 rfl rfl dX7_seed_0 ?_
  refine zr_get_X7 (w := 0) (k := 0) (v := .ref (ad 1)) hB rfl (by decide) rfl lf_X7_12 rfl dX7_seed_1 ?_
  refine zr_get_X6 (w := 1) (k := 16) (v := .int (I 1 16)) hB (Or.inl rfl) (by decide) rfl lf_X7_243 rfl dX7_seed_4 ?_
  refine zr_letI (fun v1 => ?_)
  refine zr_istore_n (lv' := [(2, .int v1), (0, .ref (ad 0)), (1, .int a1)]) hB rfl (by decide) rfl dX7_seed_7 ?_
  refine zr_aload_n hB 1 rfl rfl dX7_seed_8 ?_
  refine zr_get_X7 (w := 0) (k := 0) (v := .ref (ad 1)) hB rfl (by decide) rfl lf_X7_12 rfl dX7_seed_9 ?_
  refine zr_iload_n hB 2 rfl rfl dX7_seed_12 ?_
  refine zr_put_X6 (w := 1) (k := 16) hB (Or.inl rfl) (by decide) rfl rfl rfl lf_X7_243 rfl dX7_seed_13 ?_
  refine zr_letM (fun J2 => ?_)
  refine zr_iload_n hB 0 rfl rfl dX7_seed_16 ?_
  exact zr_iret hB rfl rfl dX7_seed_17

def gX3_append_4 (a1 : Int32) (s2 : Int32 × zI) : Option ((Int32 × zI) ⊕ (zI)) :=
  if s2.1 < 0 then
    some (.inr s2.2)
  else
  if 120 ≤ (s2.2 33 1) then
    zl (s2.1 + (-1)) fun v11 =>
    some (.inl (v11, s2.2))
  else
  zg (s2.2 33 1) 120 (
  zl (zup s2.2 34 (zn (s2.2 33 1)) ((zushr a1 (8 * s2.1)) &&& 255)) fun J12 =>
  zl (zup J12 33 1 ((J12 33 1) + 1)) fun J13 =>
  zl (s2.1 + (-1)) fun v14 =>
  some (.inl (v14, J13)))
def fX3_append (n : Nat) (a1 : Int32) (a2 : Int32) (I : zI) : Option (zI) :=
  zl (a2 - 1) fun v1 =>
  zb (zit (gX3_append_4 a1) n (v1, I)) fun x3 : zI =>
  some x3
set_option maxHeartbeats 4000000 in
set_option maxRecDepth 100000 in
theorem mX3_append {l : Launch} {D : va_G} {T : zT} {ad sK sV : Nat → Nat} (hi : zInj ad) (n : Nat) (a1 : Int32) (a2 : Int32)  (I : zI) (L : zL) : ∀ o, fX3_append n a1 a2 I = some o → zMet l yX3_append cX3_append 4 none 0 0 D T ad sK sV [.ref (ad 33), .int a1, .int a2] I L (em_vI L o) := by
  intro o ho
  refine zMet.of hi (by decide +kernel) (Nat.le_of_ble_eq_true rfl) (fun p e s m args below meth c hB => ?_)
  refine zr_top (emb := em_vI L) (t := fX3_append n a1 a2 I) ?_ ho
  unfold fX3_append
  refine zr_iload_n hB 2 rfl rfl dX3_append_0 ?_
  refine zr_iconst (v := 1) hB (by decide) dX3_append_1 ?_
  refine zr_isub hB dX3_append_2 ?_
  refine zr_letI (fun v1 => ?_)
  refine zr_istore_n (lv' := [(3, .int v1), (0, .ref (ad 33)), (1, .int a1), (2, .int a2)]) hB rfl (by decide) rfl dX3_append_3 ?_
  refine zr_join (pcJ := 52) (fun x3 : zI => []) (fun _ => []) (fun x3 => x3) (fun x3 => L) (fun x3 => ?_) (fun K9 hx8 => ?_)
  · exact zr_vret hB rfl rfl dX3_append_52
  · refine zr_sub (lv' := (fun s2 : Int32 × zI => [(3, .int s2.1), (0, .ref (ad 33)), (1, .int a1)]) (v1, I)) [0, 1, 2] rfl (zr_loop (fun s2 : Int32 × zI => [(3, .int s2.1), (0, .ref (ad 33)), (1, .int a1)]) (fun s2 => s2.2) (fun s2 => L) (fun x3 : zI => []) (fun x3 => x3) (fun x3 => L) hx8 (fun s2 K10 hc4 hx5 => ?_) n (v1, I))
    unfold gX3_append_4
    refine zr_iload_n hB 0 rfl rfl dX3_append_4 ?_
    refine zr_iflt (tgt := 52) hB (by decide) dX3_append_5 ?_ ?_
    · exact zr_sub [] rfl (hx5 s2.2)
    · refine zr_aload_n hB 1 rfl rfl dX3_append_8 ?_
      refine zr_get_X3 (w := 33) (k := 1) (v := .int (s2.2 33 1)) hB rfl (by decide) rfl lf_X3_24 rfl dX3_append_9 ?_
      refine zr_bipush (v := 120) hB (by decide) dX3_append_12 ?_
      refine zr_icmp_ge (tgt := 46) hB (by decide) dX3_append_14 ?_ ?_
      · refine zr_iincL hB (j := 0) (n := -1) (w := (-1)) rfl (by decide) (by decide) dX3_append_46 (fun v11 lv' hlv => ?_)
        obtain rfl : lv' = [(3, .int v11), (0, .ref (ad 33)), (1, .int a1)] := hlv.symm.trans rfl
        refine zr_goto (tgt := 4) hB (by decide) dX3_append_49 ?_
        exact zr_sub [0, 1, 2] rfl (hc4 (v11, s2.2))
      · refine zr_aload_n hB 1 rfl rfl dX3_append_17 ?_
        refine zr_get_X3 (w := 33) (k := 0) (v := .ref (ad 34)) hB rfl (by decide) rfl lf_X3_11 rfl dX3_append_18 ?_
        refine zr_aload_n hB 1 rfl rfl dX3_append_21 ?_
        refine zr_get_X3 (w := 33) (k := 1) (v := .int (s2.2 33 1)) hB rfl (by decide) rfl lf_X3_24 rfl dX3_append_22 ?_
        refine zr_iload_n hB 2 rfl rfl dX3_append_25 ?_
        refine zr_bipush (v := 8) hB (by decide) dX3_append_26 ?_
        refine zr_iload_n hB 0 rfl rfl dX3_append_28 ?_
        refine zr_imul hB dX3_append_29 ?_
        refine zr_iushr hB dX3_append_30 ?_
        refine zr_sipush (v := 255) hB (by decide) dX3_append_31 ?_
        refine zr_iand hB dX3_append_34 ?_
        refine zr_iastore hB zA_34 dX3_append_35 ?_
        refine zr_letM (fun J12 => ?_)
        refine zr_aload_n hB 1 rfl rfl dX3_append_36 ?_
        refine zr_dup hB rfl dX3_append_37 ?_
        refine zr_get_X3 (w := 33) (k := 1) (v := .int (J12 33 1)) hB rfl (by decide) rfl lf_X3_24 rfl dX3_append_38 ?_
        refine zr_iconst (v := 1) hB (by decide) dX3_append_41 ?_
        refine zr_iadd hB dX3_append_42 ?_
        refine zr_put_X3 (w := 33) (k := 1) hB rfl (by decide) rfl rfl rfl lf_X3_24 rfl dX3_append_43 ?_
        refine zr_letM (fun J13 => ?_)
        refine zr_iincL hB (j := 0) (n := -1) (w := (-1)) rfl (by decide) (by decide) dX3_append_46 (fun v14 lv' hlv => ?_)
        obtain rfl : lv' = [(3, .int v14), (0, .ref (ad 33)), (1, .int a1)] := hlv.symm.trans rfl
        refine zr_goto (tgt := 4) hB (by decide) dX3_append_49 ?_
        exact zr_sub [0, 1, 2] rfl (hc4 (v14, J13))

def fX7_feed (n : Nat) (a1 : Int32) (a2 : Int32) (I : zI) : Option (Int32 × zI) :=
  zb (fX7_isWithin a2 1 4) fun o2 =>
  if o2 = 0 then
    zb (fX7_finding (-1000001) I) fun o11 =>
    some (o11.1, o11.2)
  else
  if ((I 33 1) + a2) ≤ 120 then
    zb (fX3_append n a1 a2 I) fun o5 =>
    some (o5 33 1, o5)
  else
  zb (fX7_finding (-1000002) I) fun o8 =>
  some (o8.1, o8.2)
set_option maxHeartbeats 4000000 in
set_option maxRecDepth 100000 in
theorem mX7_feed {l : Launch} {D : va_G} {T : zT} {ad sK sV : Nat → Nat} (hi : zInj ad) (n : Nat) (a1 : Int32) (a2 : Int32)  (I : zI) (L : zL) : ∀ o, fX7_feed n a1 a2 I = some o → zMet l yX7_feed cX7_feed 3 (some .int) 2 44 D T ad sK sV [.ref (ad 0), .int a1, .int a2] I L (em_iI L o) := by
  intro o ho
  refine zMet.of hi (by decide +kernel) (Nat.le_of_ble_eq_true rfl) (fun p e s m args below meth c hB => ?_)
  refine zr_top (emb := em_iI L) (t := fX7_feed n a1 a2 I) ?_ ho
  unfold fX7_feed
  refine zr_iload_n hB 2 rfl rfl dX7_feed_0 ?_
  refine zr_iconst (v := 1) hB (by decide) dX7_feed_1 ?_
  refine zr_iconst (v := 4) hB (by decide) dX7_feed_2 ?_
  refine zr_callS (st := []) (As := [.int a2, .int 1, .int 4]) (embc := em_i0 I L) hB (mX7_isWithin (sK := sK) (sV := sV) hi a2 1 4 I L) lm_X7_51 q2_X7_isWithin q4_X7 q5_X7_isWithin qd_X7_isWithin (by decide) rfl rfl (Nat.le_of_ble_eq_true rfl) ⟨Nat.zero_le _, Nat.zero_le _⟩ dX7_feed_3 (zr_ki0 (fun o2 => ?_))
  refine zr_ifne (tgt := 16) hB (by decide) dX7_feed_6 ?_ ?_
  · refine zr_aload_n hB 0 rfl rfl dX7_feed_16 ?_
    refine zr_get_X7 (w := 0) (k := 5) (v := .ref (ad 38)) hB rfl (by decide) rfl lf_X7_32 rfl dX7_feed_17 ?_
    refine zr_get_X4 (w := 38) (k := 0) (v := .ref (ad 33)) hB rfl (by decide) rfl lf_X7_246 rfl dX7_feed_20 ?_
    refine zr_get_X3 (w := 33) (k := 1) (v := .int (I 33 1)) hB rfl (by decide) rfl lf_X7_250 rfl dX7_feed_23 ?_
    refine zr_iload_n hB 2 rfl rfl dX7_feed_26 ?_
    refine zr_iadd hB dX7_feed_27 ?_
    refine zr_bipush (v := 120) hB (by decide) dX7_feed_28 ?_
    refine zr_icmp_le (tgt := 40) hB (by decide) dX7_feed_30 ?_ ?_
    · refine zr_aload_n hB 0 rfl rfl dX7_feed_40 ?_
      refine zr_get_X7 (w := 0) (k := 5) (v := .ref (ad 38)) hB rfl (by decide) rfl lf_X7_32 rfl dX7_feed_41 ?_
      refine zr_get_X4 (w := 38) (k := 0) (v := .ref (ad 33)) hB rfl (by decide) rfl lf_X7_246 rfl dX7_feed_44 ?_
      refine zr_iload_n hB 1 rfl rfl dX7_feed_47 ?_
      refine zr_iload_n hB 2 rfl rfl dX7_feed_48 ?_
      refine zr_callV (st := []) (C := RX3) (As := [.int a1, .int a2]) (embc := em_vI L) hB (mX3_append (sK := sK) (sV := sV) hi n a1 a2 I L) (zW_X3 rfl) rfl rfl lm_X7_255 q2_X3_append q3_X3_append q4_X3 q5_X3_append qd_X3_append (by decide) rfl rfl (Nat.le_of_ble_eq_true rfl) ⟨Nat.zero_le _, Nat.zero_le _⟩ dX7_feed_49 (zr_kvI (fun o5 => ?_))
      refine zr_aload_n hB 0 rfl rfl dX7_feed_52 ?_
      refine zr_get_X7 (w := 0) (k := 5) (v := .ref (ad 38)) hB rfl (by decide) rfl lf_X7_32 rfl dX7_feed_53 ?_
      refine zr_get_X4 (w := 38) (k := 0) (v := .ref (ad 33)) hB rfl (by decide) rfl lf_X7_246 rfl dX7_feed_56 ?_
      refine zr_get_X3 (w := 33) (k := 1) (v := .int (o5 33 1)) hB rfl (by decide) rfl lf_X7_250 rfl dX7_feed_59 ?_
      exact zr_iret hB rfl rfl dX7_feed_62
    · refine zr_aload_n hB 0 rfl rfl dX7_feed_33 ?_
      refine zr_ldc (v := (-1000002)) hB lk_X7_79 dX7_feed_34 ?_
      refine zr_callV (st := []) (C := RX7) (As := [.int (-1000002)]) (embc := em_iI L) hB (mX7_finding (sK := sK) (sV := sV) hi (-1000002) I L) (zW_X7 rfl) rfl rfl lm_X7_56 q2_X7_finding q3_X7_finding q4_X7 q5_X7_finding qd_X7_finding (by decide) rfl rfl (Nat.le_of_ble_eq_true rfl) ⟨Nat.zero_le _, Nat.zero_le _⟩ dX7_feed_36 (zr_kiI (fun o8 => ?_))
      exact zr_iret hB rfl rfl dX7_feed_39
  · refine zr_aload_n hB 0 rfl rfl dX7_feed_9 ?_
    refine zr_ldc (v := (-1000001)) hB lk_X7_55 dX7_feed_10 ?_
    refine zr_callV (st := []) (C := RX7) (As := [.int (-1000001)]) (embc := em_iI L) hB (mX7_finding (sK := sK) (sV := sV) hi (-1000001) I L) (zW_X7 rfl) rfl rfl lm_X7_56 q2_X7_finding q3_X7_finding q4_X7 q5_X7_finding qd_X7_finding (by decide) rfl rfl (Nat.le_of_ble_eq_true rfl) ⟨Nat.zero_le _, Nat.zero_le _⟩ dX7_feed_12 (zr_kiI (fun o11 => ?_))
    exact zr_iret hB rfl rfl dX7_feed_15

def fX7_wipe (I : zI) : Option (Int32 × zI) :=
  zl (I 33 1) fun v1 =>
  zl (zup I 33 1 0) fun J2 =>
  some (v1, J2)
set_option maxHeartbeats 4000000 in
set_option maxRecDepth 100000 in
theorem mX7_wipe {l : Launch} {D : va_G} {T : zT} {ad sK sV : Nat → Nat} (hi : zInj ad)   (I : zI) (L : zL) : ∀ o, fX7_wipe I = some o → zMet l yX7_wipe cX7_wipe 2 (some .int) 0 0 D T ad sK sV [.ref (ad 0)] I L (em_iI L o) := by
  intro o ho
  refine zMet.of hi (by decide +kernel) (Nat.le_of_ble_eq_true rfl) (fun p e s m args below meth c hB => ?_)
  refine zr_top (emb := em_iI L) (t := fX7_wipe I) ?_ ho
  unfold fX7_wipe
  refine zr_aload_n hB 0 rfl rfl dX7_wipe_0 ?_
  refine zr_get_X7 (w := 0) (k := 5) (v := .ref (ad 38)) hB rfl (by decide) rfl lf_X7_32 rfl dX7_wipe_1 ?_
  refine zr_get_X4 (w := 38) (k := 0) (v := .ref (ad 33)) hB rfl (by decide) rfl lf_X7_246 rfl dX7_wipe_4 ?_
  refine zr_get_X3 (w := 33) (k := 1) (v := .int (I 33 1)) hB rfl (by decide) rfl lf_X7_250 rfl dX7_wipe_7 ?_
  refine zr_letI (fun v1 => ?_)
  refine zr_istore_n (lv' := [(1, .int v1), (0, .ref (ad 0))]) hB rfl (by decide) rfl dX7_wipe_10 ?_
  refine zr_aload_n hB 1 rfl rfl dX7_wipe_11 ?_
  refine zr_get_X7 (w := 0) (k := 5) (v := .ref (ad 38)) hB rfl (by decide) rfl lf_X7_32 rfl dX7_wipe_12 ?_
  refine zr_get_X4 (w := 38) (k := 0) (v := .ref (ad 33)) hB rfl (by decide) rfl lf_X7_246 rfl dX7_wipe_15 ?_
  refine zr_iconst (v := 0) hB (by decide) dX7_wipe_18 ?_
  refine zr_put_X3 (w := 33) (k := 1) hB rfl (by decide) rfl rfl rfl lf_X7_250 rfl dX7_wipe_19 ?_
  refine zr_letM (fun J2 => ?_)
  refine zr_iload_n hB 0 rfl rfl dX7_wipe_22 ?_
  exact zr_iret hB rfl rfl dX7_wipe_23

def fX3_beginAt (a1 : Int32) (I : zI) : Option (Int32) :=
  if a1 < 0 then
    some (I 33 1)
  else
  if (I 33 5) ≤ a1 then
    some (I 33 1)
  else
  zg a1 120 (
  some (I 37 (zn a1)))
set_option maxHeartbeats 4000000 in
set_option maxRecDepth 100000 in
theorem mX3_beginAt {l : Launch} {D : va_G} {T : zT} {ad sK sV : Nat → Nat} (hi : zInj ad) (a1 : Int32)  (I : zI) (L : zL) : ∀ o, fX3_beginAt a1 I = some o → zMet l yX3_beginAt cX3_beginAt 2 (some .int) 0 0 D T ad sK sV [.ref (ad 33), .int a1] I L (em_i0 I L o) := by
  intro o ho
  refine zMet.of hi (by decide +kernel) (Nat.le_of_ble_eq_true rfl) (fun p e s m args below meth c hB => ?_)
  refine zr_top (emb := em_i0 I L) (t := fX3_beginAt a1 I) ?_ ho
  unfold fX3_beginAt
  refine zr_iload_n hB 1 rfl rfl dX3_beginAt_0 ?_
  refine zr_iflt (tgt := 21) hB (by decide) dX3_beginAt_1 ?_ ?_
  · refine zr_aload_n hB 0 rfl rfl dX3_beginAt_21 ?_
    refine zr_get_X3 (w := 33) (k := 1) (v := .int (I 33 1)) hB rfl (by decide) rfl lf_X3_24 rfl dX3_beginAt_22 ?_
    exact zr_iret hB rfl rfl dX3_beginAt_25
  · refine zr_iload_n hB 1 rfl rfl dX3_beginAt_4 ?_
    refine zr_aload_n hB 0 rfl rfl dX3_beginAt_5 ?_
    refine zr_get_X3 (w := 33) (k := 5) (v := .int (I 33 5)) hB rfl (by decide) rfl lf_X3_28 rfl dX3_beginAt_6 ?_
    refine zr_icmp_ge (tgt := 21) hB (by decide) dX3_beginAt_9 ?_ ?_
    · refine zr_aload_n hB 0 rfl rfl dX3_beginAt_21 ?_
      refine zr_get_X3 (w := 33) (k := 1) (v := .int (I 33 1)) hB rfl (by decide) rfl lf_X3_24 rfl dX3_beginAt_22 ?_
      exact zr_iret hB rfl rfl dX3_beginAt_25
    · refine zr_aload_n hB 0 rfl rfl dX3_beginAt_12 ?_
      refine zr_get_X3 (w := 33) (k := 4) (v := .ref (ad 37)) hB rfl (by decide) rfl lf_X3_21 rfl dX3_beginAt_13 ?_
      refine zr_iload_n hB 1 rfl rfl dX3_beginAt_16 ?_
      refine zr_iaload hB zA_37 dX3_beginAt_17 ?_
      refine zr_goto (tgt := 25) hB (by decide) dX3_beginAt_18 ?_
      exact zr_iret hB rfl rfl dX3_beginAt_25

def fX3_kindAt (a1 : Int32) (I : zI) : Option (Int32) :=
  if a1 < 0 then
    some 0
  else
  if (I 33 5) ≤ a1 then
    some 0
  else
  zg a1 120 (
  some (I 35 (zn a1)))
set_option maxHeartbeats 4000000 in
set_option maxRecDepth 100000 in
theorem mX3_kindAt {l : Launch} {D : va_G} {T : zT} {ad sK sV : Nat → Nat} (hi : zInj ad) (a1 : Int32)  (I : zI) (L : zL) : ∀ o, fX3_kindAt a1 I = some o → zMet l yX3_kindAt cX3_kindAt 2 (some .int) 0 0 D T ad sK sV [.ref (ad 33), .int a1] I L (em_i0 I L o) := by
  intro o ho
  refine zMet.of hi (by decide +kernel) (Nat.le_of_ble_eq_true rfl) (fun p e s m args below meth c hB => ?_)
  refine zr_top (emb := em_i0 I L) (t := fX3_kindAt a1 I) ?_ ho
  unfold fX3_kindAt
  refine zr_iload_n hB 1 rfl rfl dX3_kindAt_0 ?_
  refine zr_iflt (tgt := 21) hB (by decide) dX3_kindAt_1 ?_ ?_
  · refine zr_iconst (v := 0) hB (by decide) dX3_kindAt_21 ?_
    exact zr_iret hB rfl rfl dX3_kindAt_22
  · refine zr_iload_n hB 1 rfl rfl dX3_kindAt_4 ?_
    refine zr_aload_n hB 0 rfl rfl dX3_kindAt_5 ?_
    refine zr_get_X3 (w := 33) (k := 5) (v := .int (I 33 5)) hB rfl (by decide) rfl lf_X3_28 rfl dX3_kindAt_6 ?_
    refine zr_icmp_ge (tgt := 21) hB (by decide) dX3_kindAt_9 ?_ ?_
    · refine zr_iconst (v := 0) hB (by decide) dX3_kindAt_21 ?_
      exact zr_iret hB rfl rfl dX3_kindAt_22
    · refine zr_aload_n hB 0 rfl rfl dX3_kindAt_12 ?_
      refine zr_get_X3 (w := 33) (k := 2) (v := .ref (ad 35)) hB rfl (by decide) rfl lf_X3_15 rfl dX3_kindAt_13 ?_
      refine zr_iload_n hB 1 rfl rfl dX3_kindAt_16 ?_
      refine zr_iaload hB zA_35 dX3_kindAt_17 ?_
      refine zr_goto (tgt := 22) hB (by decide) dX3_kindAt_18 ?_
      exact zr_iret hB rfl rfl dX3_kindAt_22

def fX3_addToken (a1 : Int32) (a2 : Int32) (a3 : Int32) (I : zI) : Option (zI) :=
  if (I 33 5) < 120 then
    zg (I 33 5) 120 (
    zl (zup I 35 (zn (I 33 5)) a1) fun J1 =>
    zg (J1 33 5) 120 (
    zl (zup J1 36 (zn (J1 33 5)) a2) fun J2 =>
    zg (J2 33 5) 120 (
    zl (zup J2 37 (zn (J2 33 5)) a3) fun J3 =>
    zl (zup J3 33 5 ((J3 33 5) + 1)) fun J4 =>
    some J4)))
  else
  some I
set_option maxHeartbeats 4000000 in
set_option maxRecDepth 100000 in
theorem mX3_addToken {l : Launch} {D : va_G} {T : zT} {ad sK sV : Nat → Nat} (hi : zInj ad) (a1 : Int32) (a2 : Int32) (a3 : Int32)  (I : zI) (L : zL) : ∀ o, fX3_addToken a1 a2 a3 I = some o → zMet l yX3_addToken cX3_addToken 4 none 0 0 D T ad sK sV [.ref (ad 33), .int a1, .int a2, .int a3] I L (em_vI L o) := by
  intro o ho
  refine zMet.of hi (by decide +kernel) (Nat.le_of_ble_eq_true rfl) (fun p e s m args below meth c hB => ?_)
  refine zr_top (emb := em_vI L) (t := fX3_addToken a1 a2 a3 I) ?_ ho
  unfold fX3_addToken
  refine zr_aload_n hB 0 rfl rfl dX3_addToken_0 ?_
  refine zr_get_X3 (w := 33) (k := 5) (v := .int (I 33 5)) hB rfl (by decide) rfl lf_X3_28 rfl dX3_addToken_1 ?_
  refine zr_bipush (v := 120) hB (by decide) dX3_addToken_4 ?_
  refine zr_icmp_lt (tgt := 10) hB (by decide) dX3_addToken_6 ?_ ?_
  · refine zr_aload_n hB 0 rfl rfl dX3_addToken_10 ?_
    refine zr_get_X3 (w := 33) (k := 2) (v := .ref (ad 35)) hB rfl (by decide) rfl lf_X3_15 rfl dX3_addToken_11 ?_
    refine zr_aload_n hB 0 rfl rfl dX3_addToken_14 ?_
    refine zr_get_X3 (w := 33) (k := 5) (v := .int (I 33 5)) hB rfl (by decide) rfl lf_X3_28 rfl dX3_addToken_15 ?_
    refine zr_iload_n hB 1 rfl rfl dX3_addToken_18 ?_
    refine zr_iastore hB zA_35 dX3_addToken_19 ?_
    refine zr_letM (fun J1 => ?_)
    refine zr_aload_n hB 0 rfl rfl dX3_addToken_20 ?_
    refine zr_get_X3 (w := 33) (k := 3) (v := .ref (ad 36)) hB rfl (by decide) rfl lf_X3_18 rfl dX3_addToken_21 ?_
    refine zr_aload_n hB 0 rfl rfl dX3_addToken_24 ?_
    refine zr_get_X3 (w := 33) (k := 5) (v := .int (J1 33 5)) hB rfl (by decide) rfl lf_X3_28 rfl dX3_addToken_25 ?_
    refine zr_iload_n hB 2 rfl rfl dX3_addToken_28 ?_
    refine zr_iastore hB zA_36 dX3_addToken_29 ?_
    refine zr_letM (fun J2 => ?_)
    refine zr_aload_n hB 0 rfl rfl dX3_addToken_30 ?_
    refine zr_get_X3 (w := 33) (k := 4) (v := .ref (ad 37)) hB rfl (by decide) rfl lf_X3_21 rfl dX3_addToken_31 ?_
    refine zr_aload_n hB 0 rfl rfl dX3_addToken_34 ?_
    refine zr_get_X3 (w := 33) (k := 5) (v := .int (J2 33 5)) hB rfl (by decide) rfl lf_X3_28 rfl dX3_addToken_35 ?_
    refine zr_iload_n hB 3 rfl rfl dX3_addToken_38 ?_
    refine zr_iastore hB zA_37 dX3_addToken_39 ?_
    refine zr_letM (fun J3 => ?_)
    refine zr_aload_n hB 0 rfl rfl dX3_addToken_40 ?_
    refine zr_dup hB rfl dX3_addToken_41 ?_
    refine zr_get_X3 (w := 33) (k := 5) (v := .int (J3 33 5)) hB rfl (by decide) rfl lf_X3_28 rfl dX3_addToken_42 ?_
    refine zr_iconst (v := 1) hB (by decide) dX3_addToken_45 ?_
    refine zr_iadd hB dX3_addToken_46 ?_
    refine zr_put_X3 (w := 33) (k := 5) hB rfl (by decide) rfl rfl rfl lf_X3_28 rfl dX3_addToken_47 ?_
    refine zr_letM (fun J4 => ?_)
    exact zr_vret hB rfl rfl dX3_addToken_50
  · exact zr_vret hB rfl rfl dX3_addToken_9

def fX3_kindOf (a1 : Int32) : Option (Int32) :=
  zbs (
    if a1 < 97 then
      some (.inr ())
    else
    if 122 < a1 then
      some (.inr ())
    else
    some (.inl 1)) fun x1 : Unit =>
  zbs (
    if a1 < 48 then
      some (.inr ())
    else
    if 57 < a1 then
      some (.inr ())
    else
    some (.inl 2)) fun x5 : Unit =>
  if a1 = 59 then
    some 3
  else
  if a1 = 32 then
    some 4
  else
  some 5
set_option maxHeartbeats 4000000 in
set_option maxRecDepth 100000 in
theorem mX3_kindOf {l : Launch} {D : va_G} {T : zT} {ad sK sV : Nat → Nat} (hi : zInj ad) (a1 : Int32)  (I : zI) (L : zL) : ∀ o, fX3_kindOf a1 = some o → zMet l yX3_kindOf cX3_kindOf 1 (some .int) 0 0 D T ad sK sV [.int a1] I L (em_i0 I L o) := by
  intro o ho
  refine zMet.of hi (by decide +kernel) (Nat.le_of_ble_eq_true rfl) (fun p e s m args below meth c hB => ?_)
  refine zr_top (emb := em_i0 I L) (t := fX3_kindOf a1) ?_ ho
  unfold fX3_kindOf
  refine zr_iload_n hB 0 rfl rfl dX3_kindOf_0 ?_
  refine zr_bipush (v := 97) hB (by decide) dX3_kindOf_1 ?_
  refine zr_joins (pcJ := 14) (fun x1 : Unit => [(0, .int a1)]) (fun x1 => []) (fun x1 => I) (fun x1 => L) (fun x1 => ?_) (fun K4 hi3 hj2 => ?_)
  · refine zr_iload_n hB 0 rfl rfl dX3_kindOf_14 ?_
    refine zr_bipush (v := 48) hB (by decide) dX3_kindOf_15 ?_
    refine zr_joins (pcJ := 28) (fun x5 : Unit => [(0, .int a1)]) (fun x5 => []) (fun x5 => I) (fun x5 => L) (fun x5 => ?_) (fun K8 hi7 hj6 => ?_)
    · refine zr_iload_n hB 0 rfl rfl dX3_kindOf_28 ?_
      refine zr_bipush (v := 59) hB (by decide) dX3_kindOf_29 ?_
      refine zr_icmp_ne (tgt := 36) hB (by decide) dX3_kindOf_31 ?_ ?_
      · refine zr_iload_n hB 0 rfl rfl dX3_kindOf_36 ?_
        refine zr_bipush (v := 32) hB (by decide) dX3_kindOf_37 ?_
        refine zr_icmp_ne (tgt := 46) hB (by decide) dX3_kindOf_39 ?_ ?_
        · refine zr_iconst (v := 5) hB (by decide) dX3_kindOf_46 ?_
          exact zr_iret hB rfl rfl dX3_kindOf_47
        · refine zr_iconst (v := 4) hB (by decide) dX3_kindOf_42 ?_
          refine zr_goto (tgt := 47) hB (by decide) dX3_kindOf_43 ?_
          exact zr_iret hB rfl rfl dX3_kindOf_47
      · refine zr_iconst (v := 3) hB (by decide) dX3_kindOf_34 ?_
        exact zr_iret hB rfl rfl dX3_kindOf_35
    · refine zr_icmp_lt (tgt := 28) hB (by decide) dX3_kindOf_17 ?_ ?_
      · exact zr_sub [0] rfl (hj6 ())
      · refine zr_iload_n hB 0 rfl rfl dX3_kindOf_20 ?_
        refine zr_bipush (v := 57) hB (by decide) dX3_kindOf_21 ?_
        refine zr_icmp_gt (tgt := 28) hB (by decide) dX3_kindOf_23 ?_ ?_
        · exact zr_sub [0] rfl (hj6 ())
        · refine zr_iconst (v := 2) hB (by decide) dX3_kindOf_26 ?_
          refine hi7 _ _ _ _ _ _ ?_
          exact zr_iret hB rfl rfl dX3_kindOf_27
  · refine zr_icmp_lt (tgt := 14) hB (by decide) dX3_kindOf_3 ?_ ?_
    · exact zr_sub [0] rfl (hj2 ())
    · refine zr_iload_n hB 0 rfl rfl dX3_kindOf_6 ?_
      refine zr_bipush (v := 122) hB (by decide) dX3_kindOf_7 ?_
      refine zr_icmp_gt (tgt := 14) hB (by decide) dX3_kindOf_9 ?_ ?_
      · exact zr_sub [0] rfl (hj2 ())
      · refine zr_iconst (v := 1) hB (by decide) dX3_kindOf_12 ?_
        refine hi3 _ _ _ _ _ _ ?_
        exact zr_iret hB rfl rfl dX3_kindOf_13

def gX3_endOf_24 (I : zI) (o2 : Int32) (s8 : Int32) : Option ((Int32) ⊕ (Int32)) :=
  if (I 33 1) ≤ s8 then
    some (.inr s8)
  else
  zg s8 120 (
  zb (fX3_kindOf (I 34 (zn s8))) fun o18 =>
  if o18 = o2 then
    zl (s8 + 1) fun v19 =>
    some (.inl v19)
  else
  some (.inr s8))
def fX3_endOf (n : Nat) (a1 : Int32) (I : zI) : Option (Int32) :=
  zg a1 120 (
  zb (fX3_kindOf (I 34 (zn a1))) fun o2 =>
  zl (a1 + 1) fun v3 =>
  zbs (
    if o2 = 1 then
      some (.inr ())
    else
    if o2 = 2 then
      some (.inr ())
    else
    some (.inl v3)) fun x4 : Unit =>
  zb (zit (gX3_endOf_24 I o2) n v3) fun x9 : Int32 =>
  some x9)
set_option maxHeartbeats 4000000 in
set_option maxRecDepth 100000 in
theorem mX3_endOf {l : Launch} {D : va_G} {T : zT} {ad sK sV : Nat → Nat} (hi : zInj ad) (n : Nat) (a1 : Int32)  (I : zI) (L : zL) : ∀ o, fX3_endOf n a1 I = some o → zMet l yX3_endOf cX3_endOf 4 (some .int) 1 20 D T ad sK sV [.ref (ad 33), .int a1] I L (em_i0 I L o) := by
  intro o ho
  refine zMet.of hi (by decide +kernel) (Nat.le_of_ble_eq_true rfl) (fun p e s m args below meth c hB => ?_)
  refine zr_top (emb := em_i0 I L) (t := fX3_endOf n a1 I) ?_ ho
  unfold fX3_endOf
  refine zr_aload_n hB 0 rfl rfl dX3_endOf_0 ?_
  refine zr_get_X3 (w := 33) (k := 0) (v := .ref (ad 34)) hB rfl (by decide) rfl lf_X3_11 rfl dX3_endOf_1 ?_
  refine zr_iload_n hB 1 rfl rfl dX3_endOf_4 ?_
  refine zr_iaload hB zA_34 dX3_endOf_5 ?_
  refine zr_callS (st := []) (As := [.int (I 34 (zn a1))]) (embc := em_i0 I L) hB (mX3_kindOf (sK := sK) (sV := sV) hi (I 34 (zn a1)) I L) lm_X3_35 q2_X3_kindOf q4_X3 q5_X3_kindOf qd_X3_kindOf (by decide) rfl rfl (Nat.le_of_ble_eq_true rfl) ⟨Nat.zero_le _, Nat.zero_le _⟩ dX3_endOf_6 (zr_ki0 (fun o2 => ?_))
  refine zr_istore_n (lv' := [(2, .int o2), (0, .ref (ad 33)), (1, .int a1)]) hB rfl (by decide) rfl dX3_endOf_9 ?_
  refine zr_iload_n hB 2 rfl rfl dX3_endOf_10 ?_
  refine zr_iconst (v := 1) hB (by decide) dX3_endOf_11 ?_
  refine zr_iadd hB dX3_endOf_12 ?_
  refine zr_letI (fun v3 => ?_)
  refine zr_istore_n (lv' := [(3, .int v3), (2, .int o2), (0, .ref (ad 33)), (1, .int a1)]) hB rfl (by decide) rfl dX3_endOf_13 ?_
  refine zr_iload_n hB 1 rfl rfl dX3_endOf_14 ?_
  refine zr_iconst (v := 1) hB (by decide) dX3_endOf_15 ?_
  refine zr_joins (pcJ := 24) (fun x4 : Unit => [(3, .int v3), (2, .int o2), (0, .ref (ad 33))]) (fun x4 => []) (fun x4 => I) (fun x4 => L) (fun x4 => ?_) (fun K7 hi6 hj5 => ?_)
  · refine zr_join (pcJ := 51) (fun x9 : Int32 => [(3, .int x9)]) (fun _ => []) (fun x9 => I) (fun x9 => L) (fun x9 => ?_) (fun K15 hx14 => ?_)
    · refine zr_iload_n hB 0 rfl rfl dX3_endOf_51 ?_
      exact zr_iret hB rfl rfl dX3_endOf_52
    · refine zr_sub (lv' := (fun s8 : Int32 => [(3, .int s8), (2, .int o2), (0, .ref (ad 33))]) v3) [0, 1, 2] rfl (zr_loop (fun s8 : Int32 => [(3, .int s8), (2, .int o2), (0, .ref (ad 33))]) (fun s8 => I) (fun s8 => L) (fun x9 : Int32 => [(3, .int x9)]) (fun x9 => I) (fun x9 => L) hx14 (fun s8 K16 hc10 hx11 => ?_) n v3)
      unfold gX3_endOf_24
      refine zr_iload_n hB 0 rfl rfl dX3_endOf_24 ?_
      refine zr_aload_n hB 2 rfl rfl dX3_endOf_25 ?_
      refine zr_get_X3 (w := 33) (k := 1) (v := .int (I 33 1)) hB rfl (by decide) rfl lf_X3_24 rfl dX3_endOf_26 ?_
      refine zr_icmp_ge (tgt := 51) hB (by decide) dX3_endOf_29 ?_ ?_
      · exact zr_sub [0] rfl (hx11 s8)
      · refine zr_aload_n hB 2 rfl rfl dX3_endOf_32 ?_
        refine zr_get_X3 (w := 33) (k := 0) (v := .ref (ad 34)) hB rfl (by decide) rfl lf_X3_11 rfl dX3_endOf_33 ?_
        refine zr_iload_n hB 0 rfl rfl dX3_endOf_36 ?_
        refine zr_iaload hB zA_34 dX3_endOf_37 ?_
        refine zr_callS (st := []) (As := [.int (I 34 (zn s8))]) (embc := em_i0 I L) hB (mX3_kindOf (sK := sK) (sV := sV) hi (I 34 (zn s8)) I L) lm_X3_35 q2_X3_kindOf q4_X3 q5_X3_kindOf qd_X3_kindOf (by decide) rfl rfl (Nat.le_of_ble_eq_true rfl) ⟨Nat.zero_le _, Nat.zero_le _⟩ dX3_endOf_38 (zr_ki0 (fun o18 => ?_))
        refine zr_iload_n hB 1 rfl rfl dX3_endOf_41 ?_
        refine zr_icmp_ne (tgt := 51) hB (by decide) dX3_endOf_42 ?_ ?_
        · exact zr_sub [0] rfl (hx11 s8)
        · refine zr_iincL hB (j := 0) (n := 1) (w := 1) rfl (by decide) (by decide) dX3_endOf_45 (fun v19 lv' hlv => ?_)
          obtain rfl : lv' = [(3, .int v19), (2, .int o2), (0, .ref (ad 33))] := hlv.symm.trans rfl
          refine zr_goto (tgt := 24) hB (by decide) dX3_endOf_48 ?_
          exact zr_sub [0, 1, 2] rfl (hc10 v19)
  · refine zr_icmp_eq (tgt := 24) hB (by decide) dX3_endOf_16 ?_ ?_
    · exact zr_sub [0, 1, 2] rfl (hj5 ())
    · refine zr_iload_n hB 1 rfl rfl dX3_endOf_19 ?_
      refine zr_iconst (v := 2) hB (by decide) dX3_endOf_20 ?_
      refine zr_icmp_ne (tgt := 51) hB (by decide) dX3_endOf_21 ?_ ?_
      · refine zr_iload_n hB 0 rfl rfl dX3_endOf_51 ?_
        refine hi6 _ _ _ _ _ _ ?_
        exact zr_iret hB rfl rfl dX3_endOf_52
      · exact zr_sub [0, 1, 2] rfl (hj5 ())

def gX3_numberIn_5 (a2 : Int32) (I : zI) (s1 : Int32 × Int32) : Option ((Int32 × Int32) ⊕ (Int32)) :=
  if a2 ≤ s1.2 then
    some (.inr s1.1)
  else
  zg s1.2 120 (
  zl (if 1000 < ((s1.1 * 10) + (I 34 (zn s1.2))) - 48 then 1000 else ((s1.1 * 10) + (I 34 (zn s1.2))) - 48) fun v10 =>
  zl (s1.2 + 1) fun v11 =>
  some (.inl (v10, v11)))
def fX3_numberIn (n : Nat) (a1 : Int32) (a2 : Int32) (I : zI) : Option (Int32) :=
  zb (zit (gX3_numberIn_5 a2 I) n (0, a1)) fun x2 : Int32 =>
  some x2
set_option maxHeartbeats 4000000 in
set_option maxRecDepth 100000 in
theorem mX3_numberIn {l : Launch} {D : va_G} {T : zT} {ad sK sV : Nat → Nat} (hi : zInj ad) (n : Nat) (a1 : Int32) (a2 : Int32)  (I : zI) (L : zL) : ∀ o, fX3_numberIn n a1 a2 I = some o → zMet l yX3_numberIn cX3_numberIn 5 (some .int) 1 21 D T ad sK sV [.ref (ad 33), .int a1, .int a2] I L (em_i0 I L o) := by
  intro o ho
  refine zMet.of hi (by decide +kernel) (Nat.le_of_ble_eq_true rfl) (fun p e s m args below meth c hB => ?_)
  refine zr_top (emb := em_i0 I L) (t := fX3_numberIn n a1 a2 I) ?_ ho
  unfold fX3_numberIn
  refine zr_iconst (v := 0) hB (by decide) dX3_numberIn_0 ?_
  refine zr_istore_n (lv' := [(3, .int 0), (0, .ref (ad 33)), (1, .int a1), (2, .int a2)]) hB rfl (by decide) rfl dX3_numberIn_1 ?_
  refine zr_iload_n hB 2 rfl rfl dX3_numberIn_2 ?_
  refine zr_istore (lv' := [(4, .int a1), (3, .int 0), (0, .ref (ad 33)), (1, .int a1), (2, .int a2)]) hB (by decide) rfl dX3_numberIn_3 ?_
  refine zr_join (pcJ := 39) (fun x2 : Int32 => [(3, .int x2)]) (fun _ => []) (fun x2 => I) (fun x2 => L) (fun x2 => ?_) (fun K8 hx7 => ?_)
  · refine zr_iload_n hB 0 rfl rfl dX3_numberIn_39 ?_
    exact zr_iret hB rfl rfl dX3_numberIn_40
  · refine zr_sub (lv' := (fun s1 : Int32 × Int32 => [(3, .int s1.1), (4, .int s1.2), (0, .ref (ad 33)), (2, .int a2)]) (0, a1)) [1, 0, 2, 4] rfl (zr_loop (fun s1 : Int32 × Int32 => [(3, .int s1.1), (4, .int s1.2), (0, .ref (ad 33)), (2, .int a2)]) (fun s1 => I) (fun s1 => L) (fun x2 : Int32 => [(3, .int x2)]) (fun x2 => I) (fun x2 => L) hx7 (fun s1 K9 hc3 hx4 => ?_) n (0, a1))
    unfold gX3_numberIn_5
    refine zr_iload hB 1 rfl dX3_numberIn_5 ?_
    refine zr_iload_n hB 3 rfl rfl dX3_numberIn_7 ?_
    refine zr_icmp_ge (tgt := 39) hB (by decide) dX3_numberIn_8 ?_ ?_
    · exact zr_sub [0] rfl (hx4 s1.1)
    · refine zr_iload_n hB 0 rfl rfl dX3_numberIn_11 ?_
      refine zr_bipush (v := 10) hB (by decide) dX3_numberIn_12 ?_
      refine zr_imul hB dX3_numberIn_14 ?_
      refine zr_aload_n hB 2 rfl rfl dX3_numberIn_15 ?_
      refine zr_get_X3 (w := 33) (k := 0) (v := .ref (ad 34)) hB rfl (by decide) rfl lf_X3_11 rfl dX3_numberIn_16 ?_
      refine zr_iload hB 1 rfl dX3_numberIn_19 ?_
      refine zr_iaload hB zA_34 dX3_numberIn_21 ?_
      refine zr_iadd hB dX3_numberIn_22 ?_
      refine zr_bipush (v := 48) hB (by decide) dX3_numberIn_23 ?_
      refine zr_isub hB dX3_numberIn_25 ?_
      refine zr_sipush (v := 1000) hB (by decide) dX3_numberIn_26 ?_
      refine zr_min hB (by decide) (by decide) (Nat.le_of_ble_eq_true rfl) ⟨Nat.zero_le _, Nat.zero_le _⟩ lm_X3_72 dX3_numberIn_29 ?_
      refine zr_letI (fun v10 => ?_)
      refine zr_istore_n (lv' := [(3, .int v10), (4, .int s1.2), (0, .ref (ad 33)), (2, .int a2)]) hB rfl (by decide) rfl dX3_numberIn_32 ?_
      refine zr_iincL hB (j := 1) (n := 1) (w := 1) rfl (by decide) (by decide) dX3_numberIn_33 (fun v11 lv' hlv => ?_)
      obtain rfl : lv' = [(4, .int v11), (3, .int v10), (0, .ref (ad 33)), (2, .int a2)] := hlv.symm.trans rfl
      refine zr_goto (tgt := 5) hB (by decide) dX3_numberIn_36 ?_
      exact zr_sub [1, 0, 2, 3] rfl (hc3 (v10, v11))

def gX3_isWordIn_15 (a1 : Nat) (a2 : Int32) (a3 : Int32) (I : zI) (s1 : Int32) : Option ((Int32) ⊕ ((Int32) ⊕ (Unit))) :=
  if (a3 - a2) ≤ s1 then
    some (.inr (.inr ()))
  else
  zg (a2 + s1) 120 (
  zgs a1 (
  zg s1 (zsLen a1) (
  if (I 34 (zn (a2 + s1))) = (zsAt a1 (zn s1)) then
    zl (s1 + 1) fun v10 =>
    some (.inl v10)
  else
  some (.inr (.inl 0)))))
def fX3_isWordIn (n : Nat) (a1 : Nat) (a2 : Int32) (a3 : Int32) (I : zI) : Option (Int32) :=
  zgs a1 (
  if (nI (zsLen a1)) = (a3 - a2) then
    zbs (zit (gX3_isWordIn_15 a1 a2 a3 I) n 0) fun x2 : Unit =>
    some 1
  else
  some 0)
set_option maxHeartbeats 4000000 in
set_option maxRecDepth 100000 in
theorem mX3_isWordIn {l : Launch} {D : va_G} {T : zT} {ad sK sV : Nat → Nat} (hi : zInj ad) (n : Nat) (a1 : Nat) (a2 : Int32) (a3 : Int32)  (I : zI) (L : zL) : ∀ o, fX3_isWordIn n a1 a2 a3 I = some o → zMet l yX3_isWordIn cX3_isWordIn 5 (some .boolean) 4 101 D T ad sK sV [.ref (ad 33), .ref (sK a1), .int a2, .int a3] I L (em_i0 I L o) := by
  intro o ho
  refine zMet.of hi (by decide +kernel) (Nat.le_of_ble_eq_true rfl) (fun p e s m args below meth c hB => ?_)
  refine zr_top (emb := em_i0 I L) (t := fX3_isWordIn n a1 a2 a3 I) ?_ ho
  unfold fX3_isWordIn
  refine zr_aload_n hB 1 rfl rfl dX3_isWordIn_0 ?_
  refine zr_slen hB (by decide) (by decide) (Nat.le_of_ble_eq_true rfl) ⟨Nat.zero_le _, Nat.zero_le _⟩ lm_X3_63 dX3_isWordIn_1 ?_
  refine zr_iload_n hB 3 rfl rfl dX3_isWordIn_4 ?_
  refine zr_iload_n hB 2 rfl rfl dX3_isWordIn_5 ?_
  refine zr_isub hB dX3_isWordIn_6 ?_
  refine zr_icmp_eq (tgt := 12) hB (by decide) dX3_isWordIn_7 ?_ ?_
  · refine zr_iconst (v := 0) hB (by decide) dX3_isWordIn_12 ?_
    refine zr_istore (lv' := [(4, .int 0), (0, .ref (ad 33)), (1, .ref (sK a1)), (2, .int a2), (3, .int a3)]) hB (by decide) rfl dX3_isWordIn_13 ?_
    refine zr_joins (pcJ := 49) (fun x2 : Unit => []) (fun _ => []) (fun x2 => I) (fun x2 => L) (fun x2 => ?_) (fun K8 hi6 hx7 => ?_)
    · refine zr_iconst (v := 1) hB (by decide) dX3_isWordIn_49 ?_
      exact zr_zretC (by decide) hB rfl rfl dX3_isWordIn_50
    · refine zr_sub (lv' := (fun s1 : Int32 => [(4, .int s1), (0, .ref (ad 33)), (1, .ref (sK a1)), (2, .int a2), (3, .int a3)]) 0) [0, 1, 2, 3, 4] rfl (zr_loops (fun s1 : Int32 => [(4, .int s1), (0, .ref (ad 33)), (1, .ref (sK a1)), (2, .int a2), (3, .int a3)]) (fun s1 => I) (fun s1 => L) (fun x2 : Unit => []) (fun x2 => I) (fun x2 => L) hi6 hx7 (fun s1 K9 hc3 hi5 hx4 => ?_) n 0)
      unfold gX3_isWordIn_15
      refine zr_iload hB 0 rfl dX3_isWordIn_15 ?_
      refine zr_iload_n hB 4 rfl rfl dX3_isWordIn_17 ?_
      refine zr_iload_n hB 3 rfl rfl dX3_isWordIn_18 ?_
      refine zr_isub hB dX3_isWordIn_19 ?_
      refine zr_icmp_ge (tgt := 49) hB (by decide) dX3_isWordIn_20 ?_ ?_
      · exact zr_sub [] rfl (hx4 ())
      · refine zr_aload_n hB 1 rfl rfl dX3_isWordIn_23 ?_
        refine zr_get_X3 (w := 33) (k := 0) (v := .ref (ad 34)) hB rfl (by decide) rfl lf_X3_11 rfl dX3_isWordIn_24 ?_
        refine zr_iload_n hB 3 rfl rfl dX3_isWordIn_27 ?_
        refine zr_iload hB 0 rfl dX3_isWordIn_28 ?_
        refine zr_iadd hB dX3_isWordIn_30 ?_
        refine zr_iaload hB zA_34 dX3_isWordIn_31 ?_
        refine zr_aload_n hB 2 rfl rfl dX3_isWordIn_32 ?_
        refine zr_iload hB 0 rfl dX3_isWordIn_33 ?_
        refine zr_scharAt hB (by decide) (by decide) (Nat.le_of_ble_eq_true rfl) ⟨Nat.zero_le _, Nat.zero_le _⟩ lm_X3_68 dX3_isWordIn_35 ?_
        refine zr_icmp_eq (tgt := 43) hB (by decide) dX3_isWordIn_38 ?_ ?_
        · refine zr_iincL hB (j := 0) (n := 1) (w := 1) rfl (by decide) (by decide) dX3_isWordIn_43 (fun v10 lv' hlv => ?_)
          obtain rfl : lv' = [(4, .int v10), (0, .ref (ad 33)), (1, .ref (sK a1)), (2, .int a2), (3, .int a3)] := hlv.symm.trans rfl
          refine zr_goto (tgt := 15) hB (by decide) dX3_isWordIn_46 ?_
          exact zr_sub [0, 1, 2, 3, 4] rfl (hc3 v10)
        · refine zr_iconst (v := 0) hB (by decide) dX3_isWordIn_41 ?_
          refine hi5 _ _ _ _ _ _ ?_
          exact zr_zretC (by decide) hB rfl rfl dX3_isWordIn_42
  · refine zr_iconst (v := 0) hB (by decide) dX3_isWordIn_10 ?_
    exact zr_zretC (by decide) hB rfl rfl dX3_isWordIn_11

