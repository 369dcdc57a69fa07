def gX8_safe_4 (n : Nat) (I : zI) (s1 : Int32 × Int32) : Option ((Int32 × Int32) ⊕ (Int32)) :=
  if 8 ≤ s1.2 then
    some (.inr s1.1)
  else
  zb (fX8_isSafe n s1.2 I) fun o11 =>
  if o11 = 0 then
    zl (s1.1 ||| 0) fun v12 =>
    zl (s1.2 + 1) fun v13 =>
    some (.inl (v12, v13))
  else
  zl (s1.1 ||| (zshl 1 s1.2)) fun v14 =>
  zl (s1.2 + 1) fun v15 =>
  some (.inl (v14, v15))
def fX8_safe (n : Nat) (I : zI) : Option (Int32) :=
  zb (zit (gX8_safe_4 n I) n (0, 0)) fun x2 : Int32 =>
  some x2
set_option maxHeartbeats 4000000 in
set_option maxRecDepth 100000 in
theorem mX8_safe {l : Launch} {D : va_G} {T : zT} {ad sK sV : Nat → Nat} (hi : zInj ad) (n : Nat)   (I : zI) (L : zL) : ∀ o, fX8_safe n I = some o → zMet l yX8_safe cX8_safe 3 (some .int) 4 91 D T ad sK sV [.ref (ad 50)] I L (em_i0 I L o) := by
  intro o ho
  refine zMet.of hi (by decide +kernel) (Nat.le_of_ble_eq_true rfl) (fun p e s m args below meth c hB => ?_)
  refine zr_top (emb := em_i0 I L) (t := fX8_safe n I) ?_ ho
  unfold fX8_safe
  refine zr_iconst (v := 0) hB (by decide) dX8_safe_0 ?_
  refine zr_istore_n (lv' := [(1, .int 0), (0, .ref (ad 50))]) hB rfl (by decide) rfl dX8_safe_1 ?_
  refine zr_iconst (v := 0) hB (by decide) dX8_safe_2 ?_
  refine zr_istore_n (lv' := [(2, .int 0), (1, .int 0), (0, .ref (ad 50))]) hB rfl (by decide) rfl dX8_safe_3 ?_
  refine zr_join (pcJ := 34) (fun x2 : Int32 => [(1, .int x2)]) (fun _ => []) (fun x2 => I) (fun x2 => L) (fun x2 => ?_) (fun K8 hx7 => ?_)
  · refine zr_iload_n hB 0 rfl rfl dX8_safe_34 ?_
    exact zr_iret hB rfl rfl dX8_safe_35
  · refine zr_sub (lv' := (fun s1 : Int32 × Int32 => [(1, .int s1.1), (2, .int s1.2), (0, .ref (ad 50))]) (0, 0)) [1, 0, 2] rfl (zr_loop (fun s1 : Int32 × Int32 => [(1, .int s1.1), (2, .int s1.2), (0, .ref (ad 50))]) (fun s1 => I) (fun s1 => L) (fun x2 : Int32 => [(1, .int x2)]) (fun x2 => I) (fun x2 => L) hx7 (fun s1 K9 hc3 hx4 => ?_) n (0, 0))
    unfold gX8_safe_4
    refine zr_iload_n hB 1 rfl rfl dX8_safe_4 ?_
    refine zr_bipush (v := 8) hB (by decide) dX8_safe_5 ?_
    refine zr_icmp_ge (tgt := 34) hB (by decide) dX8_safe_7 ?_ ?_
    · exact zr_sub [0] rfl (hx4 s1.1)
    · refine zr_iload_n hB 0 rfl rfl dX8_safe_10 ?_
      refine zr_aload_n hB 2 rfl rfl dX8_safe_11 ?_
      refine zr_iload_n hB 1 rfl rfl dX8_safe_12 ?_
      refine zr_callV (st := [.int s1.1]) (C := RX8) (As := [.int s1.2]) (embc := em_i0 I L) hB (mX8_isSafe (sK := sK) (sV := sV) hi n s1.2 I L) (zW_X8 rfl) rfl rfl lm_X8_190 q2_X8_isSafe q3_X8_isSafe q4_X8 q5_X8_isSafe qd_X8_isSafe (by decide) rfl rfl (Nat.le_of_ble_eq_true rfl) ⟨Nat.zero_le _, Nat.zero_le _⟩ dX8_safe_13 (zr_ki0 (fun o11 => ?_))
      refine zr_ifeq (tgt := 25) hB (by decide) dX8_safe_16 ?_ ?_
      · refine zr_iconst (v := 0) hB (by decide) dX8_safe_25 ?_
        refine zr_ior hB dX8_safe_26 ?_
        refine zr_letI (fun v12 => ?_)
        refine zr_istore_n (lv' := [(1, .int v12), (2, .int s1.2), (0, .ref (ad 50))]) hB rfl (by decide) rfl dX8_safe_27 ?_
        refine zr_iincL hB (j := 1) (n := 1) (w := 1) rfl (by decide) (by decide) dX8_safe_28 (fun v13 lv' hlv => ?_)
        obtain rfl : lv' = [(2, .int v13), (1, .int v12), (0, .ref (ad 50))] := hlv.symm.trans rfl
        refine zr_goto (tgt := 4) hB (by decide) dX8_safe_31 ?_
        exact zr_sub [1, 0, 2] rfl (hc3 (v12, v13))
      · refine zr_iconst (v := 1) hB (by decide) dX8_safe_19 ?_
        refine zr_iload_n hB 1 rfl rfl dX8_safe_20 ?_
        refine zr_ishl hB dX8_safe_21 ?_
        refine zr_goto (tgt := 26) hB (by decide) dX8_safe_22 ?_
        refine zr_ior hB dX8_safe_26 ?_
        refine zr_letI (fun v14 => ?_)
        refine zr_istore_n (lv' := [(1, .int v14), (2, .int s1.2), (0, .ref (ad 50))]) hB rfl (by decide) rfl dX8_safe_27 ?_
        refine zr_iincL hB (j := 1) (n := 1) (w := 1) rfl (by decide) (by decide) dX8_safe_28 (fun v15 lv' hlv => ?_)
        obtain rfl : lv' = [(2, .int v15), (1, .int v14), (0, .ref (ad 50))] := hlv.symm.trans rfl
        refine zr_goto (tgt := 4) hB (by decide) dX8_safe_31 ?_
        exact zr_sub [1, 0, 2] rfl (hc3 (v14, v15))

def gX8_selves_17 (I : zI) (s1 : Int32 × Int32) (s10 : Int32 × Int32) : Option ((Int32 × Int32) ⊕ (Int32)) :=
  zg 11 120 (
  if (I 51 (zn 11)) ≤ s10.2 then
    some (.inr s10.1)
  else
  zb (fX8_roomOf s1.2 I) fun o20 =>
  zb (fX8_canReach s1.2 s10.2 o20 I) fun o22 =>
  if o22 = 0 then
    zl (s10.1 ||| 0) fun v23 =>
    zl (s10.2 + 1) fun v24 =>
    some (.inl (v23, v24))
  else
  zl (s10.1 ||| (zshl 1 s1.2)) fun v25 =>
  zl (s10.2 + 1) fun v26 =>
  some (.inl (v25, v26)))
def gX8_selves_4 (n : Nat) (I : zI) (s1 : Int32 × Int32) : Option ((Int32 × Int32) ⊕ (Int32)) :=
  zg 12 120 (
  if (I 51 (zn 12)) ≤ s1.2 then
    some (.inr s1.1)
  else
  zb (zit (gX8_selves_17 I s1) n (s1.1, 0)) fun x11 : Int32 =>
  zl (s1.2 + 1) fun v27 =>
  some (.inl (x11, v27)))
def fX8_selves (n : Nat) (I : zI) : Option (Int32) :=
  zb (zit (gX8_selves_4 n I) n (0, 0)) fun x2 : Int32 =>
  some x2
set_option maxHeartbeats 4000000 in
set_option maxRecDepth 100000 in
theorem mX8_selves {l : Launch} {D : va_G} {T : zT} {ad sK sV : Nat → Nat} (hi : zInj ad) (n : Nat)   (I : zI) (L : zL) : ∀ o, fX8_selves n I = some o → zMet l yX8_selves cX8_selves 4 (some .int) 3 68 D T ad sK sV [.ref (ad 50)] I L (em_i0 I L o) := by
  intro o ho
  refine zMet.of hi (by decide +kernel) (Nat.le_of_ble_eq_true rfl) (fun p e s m args below meth c hB => ?_)
  refine zr_top (emb := em_i0 I L) (t := fX8_selves n I) ?_ ho
  unfold fX8_selves
  refine zr_iconst (v := 0) hB (by decide) dX8_selves_0 ?_
  refine zr_istore_n (lv' := [(1, .int 0), (0, .ref (ad 50))]) hB rfl (by decide) rfl dX8_selves_1 ?_
  refine zr_iconst (v := 0) hB (by decide) dX8_selves_2 ?_
  refine zr_istore_n (lv' := [(2, .int 0), (1, .int 0), (0, .ref (ad 50))]) hB rfl (by decide) rfl dX8_selves_3 ?_
  refine zr_join (pcJ := 64) (fun x2 : Int32 => [(1, .int x2)]) (fun _ => []) (fun x2 => I) (fun x2 => L) (fun x2 => ?_) (fun K8 hx7 => ?_)
  · refine zr_iload_n hB 0 rfl rfl dX8_selves_64 ?_
    exact zr_iret hB rfl rfl dX8_selves_65
  · refine zr_sub (lv' := (fun s1 : Int32 × Int32 => [(1, .int s1.1), (2, .int s1.2), (0, .ref (ad 50))]) (0, 0)) [1, 0, 2] rfl (zr_loop (fun s1 : Int32 × Int32 => [(1, .int s1.1), (2, .int s1.2), (0, .ref (ad 50))]) (fun s1 => I) (fun s1 => L) (fun x2 : Int32 => [(1, .int x2)]) (fun x2 => I) (fun x2 => L) hx7 (fun s1 K9 hc3 hx4 => ?_) n (0, 0))
    unfold gX8_selves_4
    refine zr_iload_n hB 1 rfl rfl dX8_selves_4 ?_
    refine zr_aload_n hB 2 rfl rfl dX8_selves_5 ?_
    refine zr_get_X8 (w := 50) (k := 0) (v := .ref (ad 51)) hB rfl (by decide) rfl lf_X8_9 rfl dX8_selves_6 ?_
    refine zr_bipush (v := 12) hB (by decide) dX8_selves_9 ?_
    refine zr_iaload hB zA_51 dX8_selves_11 ?_
    refine zr_icmp_ge (tgt := 64) hB (by decide) dX8_selves_12 ?_ ?_
    · exact zr_sub [0] rfl (hx4 s1.1)
    · refine zr_iconst (v := 0) hB (by decide) dX8_selves_15 ?_
      refine zr_istore_n (lv' := [(3, .int 0), (1, .int s1.1), (2, .int s1.2), (0, .ref (ad 50))]) hB rfl (by decide) rfl dX8_selves_16 ?_
      refine zr_join (pcJ := 58) (fun x11 : Int32 => [(1, .int x11), (2, .int s1.2), (0, .ref (ad 50))]) (fun _ => []) (fun x11 => I) (fun x11 => L) (fun x11 => ?_) (fun K17 hx16 => ?_)
      · refine zr_iincL hB (j := 1) (n := 1) (w := 1) rfl (by decide) (by decide) dX8_selves_58 (fun v27 lv' hlv => ?_)
        obtain rfl : lv' = [(2, .int v27), (1, .int x11), (0, .ref (ad 50))] := hlv.symm.trans rfl
        refine zr_goto (tgt := 4) hB (by decide) dX8_selves_61 ?_
        exact zr_sub [1, 0, 2] rfl (hc3 (x11, v27))
      · refine zr_sub (lv' := (fun s10 : Int32 × Int32 => [(1, .int s10.1), (3, .int s10.2), (2, .int s1.2), (0, .ref (ad 50))]) (s1.1, 0)) [1, 0, 2, 3] rfl (zr_loop (fun s10 : Int32 × Int32 => [(1, .int s10.1), (3, .int s10.2), (2, .int s1.2), (0, .ref (ad 50))]) (fun s10 => I) (fun s10 => L) (fun x11 : Int32 => [(1, .int x11), (2, .int s1.2), (0, .ref (ad 50))]) (fun x11 => I) (fun x11 => L) hx16 (fun s10 K18 hc12 hx13 => ?_) n (s1.1, 0))
        unfold gX8_selves_17
        refine zr_iload_n hB 1 rfl rfl dX8_selves_17 ?_
        refine zr_aload_n hB 3 rfl rfl dX8_selves_18 ?_
        refine zr_get_X8 (w := 50) (k := 0) (v := .ref (ad 51)) hB rfl (by decide) rfl lf_X8_9 rfl dX8_selves_19 ?_
        refine zr_bipush (v := 11) hB (by decide) dX8_selves_22 ?_
        refine zr_iaload hB zA_51 dX8_selves_24 ?_
        refine zr_icmp_ge (tgt := 58) hB (by decide) dX8_selves_25 ?_ ?_
        · exact zr_sub [0, 2, 3] rfl (hx13 s10.1)
        · refine zr_iload_n hB 0 rfl rfl dX8_selves_28 ?_
          refine zr_aload_n hB 3 rfl rfl dX8_selves_29 ?_
          refine zr_iload_n hB 2 rfl rfl dX8_selves_30 ?_
          refine zr_iload_n hB 1 rfl rfl dX8_selves_31 ?_
          refine zr_aload_n hB 3 rfl rfl dX8_selves_32 ?_
          refine zr_iload_n hB 2 rfl rfl dX8_selves_33 ?_
          refine zr_callV (st := [.int s10.2, .int s1.2, .ref (ad 50), .int s10.1]) (C := RX8) (As := [.int s1.2]) (embc := em_i0 I L) hB (mX8_roomOf (sK := sK) (sV := sV) hi s1.2 I L) (zW_X8 rfl) rfl rfl lm_X8_109 q2_X8_roomOf q3_X8_roomOf q4_X8 q5_X8_roomOf qd_X8_roomOf (by decide) rfl rfl (Nat.le_of_ble_eq_true rfl) ⟨Nat.zero_le _, Nat.zero_le _⟩ dX8_selves_34 (zr_ki0 (fun o20 => ?_))
          refine zr_callV (st := [.int s10.1]) (C := RX8) (As := [.int s1.2, .int s10.2, .int o20]) (embc := em_i0 I L) hB (mX8_canReach (sK := sK) (sV := sV) hi s1.2 s10.2 o20 I L) (zW_X8 rfl) rfl rfl lm_X8_140 q2_X8_canReach q3_X8_canReach q4_X8 q5_X8_canReach qd_X8_canReach (by decide) rfl rfl (Nat.le_of_ble_eq_true rfl) ⟨Nat.zero_le _, Nat.zero_le _⟩ dX8_selves_37 (zr_ki0 (fun o22 => ?_))
          refine zr_ifeq (tgt := 49) hB (by decide) dX8_selves_40 ?_ ?_
          · refine zr_iconst (v := 0) hB (by decide) dX8_selves_49 ?_
            refine zr_ior hB dX8_selves_50 ?_
            refine zr_letI (fun v23 => ?_)
            refine zr_istore_n (lv' := [(1, .int v23), (3, .int s10.2), (2, .int s1.2), (0, .ref (ad 50))]) hB rfl (by decide) rfl dX8_selves_51 ?_
            refine zr_iincL hB (j := 1) (n := 1) (w := 1) rfl (by decide) (by decide) dX8_selves_52 (fun v24 lv' hlv => ?_)
            obtain rfl : lv' = [(3, .int v24), (1, .int v23), (2, .int s1.2), (0, .ref (ad 50))] := hlv.symm.trans rfl
            refine zr_goto (tgt := 17) hB (by decide) dX8_selves_55 ?_
            exact zr_sub [1, 0, 2, 3] rfl (hc12 (v23, v24))
          · refine zr_iconst (v := 1) hB (by decide) dX8_selves_43 ?_
            refine zr_iload_n hB 2 rfl rfl dX8_selves_44 ?_
            refine zr_ishl hB dX8_selves_45 ?_
            refine zr_goto (tgt := 50) hB (by decide) dX8_selves_46 ?_
            refine zr_ior hB dX8_selves_50 ?_
            refine zr_letI (fun v25 => ?_)
            refine zr_istore_n (lv' := [(1, .int v25), (3, .int s10.2), (2, .int s1.2), (0, .ref (ad 50))]) hB rfl (by decide) rfl dX8_selves_51 ?_
            refine zr_iincL hB (j := 1) (n := 1) (w := 1) rfl (by decide) (by decide) dX8_selves_52 (fun v26 lv' hlv => ?_)
            obtain rfl : lv' = [(3, .int v26), (1, .int v25), (2, .int s1.2), (0, .ref (ad 50))] := hlv.symm.trans rfl
            refine zr_goto (tgt := 17) hB (by decide) dX8_selves_55 ?_
            exact zr_sub [1, 0, 2, 3] rfl (hc12 (v25, v26))

def fX8_reaches (a1 : Int32) (a2 : Int32) (I : zI) : Option (zI) :=
  zb (fX8_canReach a1 (zrem a2 10) (a2 / 10) I) fun o2 =>
  if o2 = 0 then
    some I
  else
  zg (36 + (zrem a2 10)) 120 (
  zl (zup I 51 (zn (36 + (zrem a2 10))) (a2 / 10)) fun J3 =>
  some J3)
set_option maxHeartbeats 4000000 in
set_option maxRecDepth 100000 in
theorem mX8_reaches {l : Launch} {D : va_G} {T : zT} {ad sK sV : Nat → Nat} (hi : zInj ad) (a1 : Int32) (a2 : Int32)  (I : zI) (L : zL) : ∀ o, fX8_reaches a1 a2 I = some o → zMet l yX8_reaches cX8_reaches 3 none 3 68 D T ad sK sV [.ref (ad 50), .int a1, .int a2] I L (em_vI L o) := by
  intro o ho
  refine zMet.of hi (by decide +kernel) (Nat.le_of_ble_eq_true rfl) (fun p e s m args below meth c hB => ?_)
  refine zr_top (emb := em_vI L) (t := fX8_reaches a1 a2 I) ?_ ho
  unfold fX8_reaches
  refine zr_aload_n hB 0 rfl rfl dX8_reaches_0 ?_
  refine zr_iload_n hB 1 rfl rfl dX8_reaches_1 ?_
  refine zr_iload_n hB 2 rfl rfl dX8_reaches_2 ?_
  refine zr_bipush (v := 10) hB (by decide) dX8_reaches_3 ?_
  refine zr_iremC hB (by decide) dX8_reaches_5 ?_
  refine zr_iload_n hB 2 rfl rfl dX8_reaches_6 ?_
  refine zr_bipush (v := 10) hB (by decide) dX8_reaches_7 ?_
  refine zr_idivC hB (by decide) dX8_reaches_9 ?_
  refine zr_callV (st := []) (C := RX8) (As := [.int a1, .int (zrem a2 10), .int (a2 / 10)]) (embc := em_i0 I L) hB (mX8_canReach (sK := sK) (sV := sV) hi a1 (zrem a2 10) (a2 / 10) I L) (zW_X8 rfl) rfl rfl lm_X8_140 q2_X8_canReach q3_X8_canReach q4_X8 q5_X8_canReach qd_X8_canReach (by decide) rfl rfl (Nat.le_of_ble_eq_true rfl) ⟨Nat.zero_le _, Nat.zero_le _⟩ dX8_reaches_10 (zr_ki0 (fun o2 => ?_))
  refine zr_ifeq (tgt := 32) hB (by decide) dX8_reaches_13 ?_ ?_
  · exact zr_vret hB rfl rfl dX8_reaches_32
  · refine zr_aload_n hB 0 rfl rfl dX8_reaches_16 ?_
    refine zr_get_X8 (w := 50) (k := 0) (v := .ref (ad 51)) hB rfl (by decide) rfl lf_X8_9 rfl dX8_reaches_17 ?_
    refine zr_bipush (v := 36) hB (by decide) dX8_reaches_20 ?_
    refine zr_iload_n hB 2 rfl rfl dX8_reaches_22 ?_
    refine zr_bipush (v := 10) hB (by decide) dX8_reaches_23 ?_
    refine zr_iremC hB (by decide) dX8_reaches_25 ?_
    refine zr_iadd hB dX8_reaches_26 ?_
    refine zr_iload_n hB 2 rfl rfl dX8_reaches_27 ?_
    refine zr_bipush (v := 10) hB (by decide) dX8_reaches_28 ?_
    refine zr_idivC hB (by decide) dX8_reaches_30 ?_
    refine zr_iastore hB zA_51 dX8_reaches_31 ?_
    refine zr_letM (fun J3 => ?_)
    exact zr_vret hB rfl rfl dX8_reaches_32

def fX8_isReach (a1 : Int32) (I : zI) : Option (Int32) :=
  if a1 < 0 then
    some 0
  else
  zb (fX8_isThing (zrem a1 10) I) fun o2 =>
  if o2 = 0 then
    some 0
  else
  zb (fX8_isRoom (a1 / 10)) fun o4 =>
  if o4 = 0 then
    some 0
  else
  some 1
set_option maxHeartbeats 4000000 in
set_option maxRecDepth 100000 in
theorem mX8_isReach {l : Launch} {D : va_G} {T : zT} {ad sK sV : Nat → Nat} (hi : zInj ad) (a1 : Int32)  (I : zI) (L : zL) : ∀ o, fX8_isReach a1 I = some o → zMet l yX8_isReach cX8_isReach 2 (some .boolean) 2 46 D T ad sK sV [.ref (ad 50), .int a1] I L (em_i0 I L o) := by
  intro o ho
  refine zMet.of hi (by decide +kernel) (Nat.le_of_ble_eq_true rfl) (fun p e s m args below meth c hB => ?_)
  refine zr_top (emb := em_i0 I L) (t := fX8_isReach a1 I) ?_ ho
  unfold fX8_isReach
  refine zr_iload_n hB 1 rfl rfl dX8_isReach_0 ?_
  refine zr_iflt (tgt := 29) hB (by decide) dX8_isReach_1 ?_ ?_
  · refine zr_iconst (v := 0) hB (by decide) dX8_isReach_29 ?_
    exact zr_zretC (by decide) hB rfl rfl dX8_isReach_30
  · refine zr_aload_n hB 0 rfl rfl dX8_isReach_4 ?_
    refine zr_iload_n hB 1 rfl rfl dX8_isReach_5 ?_
    refine zr_bipush (v := 10) hB (by decide) dX8_isReach_6 ?_
    refine zr_iremC hB (by decide) dX8_isReach_8 ?_
    refine zr_callV (st := []) (C := RX8) (As := [.int (zrem a1 10)]) (embc := em_i0 I L) hB (mX8_isThing (sK := sK) (sV := sV) hi (zrem a1 10) I L) (zW_X8 rfl) rfl rfl lm_X8_90 q2_X8_isThing q3_X8_isThing q4_X8 q5_X8_isThing qd_X8_isThing (by decide) rfl rfl (Nat.le_of_ble_eq_true rfl) ⟨Nat.zero_le _, Nat.zero_le _⟩ dX8_isReach_9 (zr_ki0 (fun o2 => ?_))
    refine zr_ifeq (tgt := 29) hB (by decide) dX8_isReach_12 ?_ ?_
    · refine zr_iconst (v := 0) hB (by decide) dX8_isReach_29 ?_
      exact zr_zretC (by decide) hB rfl rfl dX8_isReach_30
    · refine zr_iload_n hB 1 rfl rfl dX8_isReach_15 ?_
      refine zr_bipush (v := 10) hB (by decide) dX8_isReach_16 ?_
      refine zr_idivC hB (by decide) dX8_isReach_18 ?_
      refine zr_callS (st := []) (As := [.int (a1 / 10)]) (embc := em_i0 I L) hB (mX8_isRoom (sK := sK) (sV := sV) hi (a1 / 10) I L) lm_X8_70 q2_X8_isRoom q4_X8 q5_X8_isRoom qd_X8_isRoom (by decide) rfl rfl (Nat.le_of_ble_eq_true rfl) ⟨Nat.zero_le _, Nat.zero_le _⟩ dX8_isReach_19 (zr_ki0 (fun o4 => ?_))
      refine zr_ifeq (tgt := 29) hB (by decide) dX8_isReach_22 ?_ ?_
      · refine zr_iconst (v := 0) hB (by decide) dX8_isReach_29 ?_
        exact zr_zretC (by decide) hB rfl rfl dX8_isReach_30
      · refine zr_iconst (v := 1) hB (by decide) dX8_isReach_25 ?_
        refine zr_goto (tgt := 30) hB (by decide) dX8_isReach_26 ?_
        exact zr_zretC (by decide) hB rfl rfl dX8_isReach_30

def fX8_agree (n : Nat) (a1 : Int32) (a2 : Int32) (a3 : Int32) (a4 : Int32) (I : zI) : Option (Int32 × zI) :=
  zb (fX8_isOne a1 I) fun o2 =>
  if o2 = 0 then
    zb (fX8_finding 0 I) fun o5 =>
    some (o5.1, o5.2)
  else
  zb (fX8_isOne a3 I) fun o7 =>
  if o7 = 0 then
    zb (fX8_finding 0 I) fun o10 =>
    some (o10.1, o10.2)
  else
  if a1 = a3 then
    zb (fX8_finding 0 I) fun o13 =>
    some (o13.1, o13.2)
  else
  zb (fX8_isReach a2 I) fun o15 =>
  if o15 = 0 then
    zb (fX8_finding 0 I) fun o18 =>
    some (o18.1, o18.2)
  else
  zb (fX8_isReach a4 I) fun o20 =>
  if o20 = 0 then
    zb (fX8_finding 0 I) fun o54 =>
    some (o54.1, o54.2)
  else
  zb (fX8_lends n I) fun o23 =>
  zb (fX8_reaches a1 a2 o23) fun o26 =>
  zb (fX8_reaches a3 a4 o26) fun o29 =>
  zg (36 + (zrem a2 10)) 120 (
  zl (o29 51 (zn (36 + (zrem a2 10)))) fun v30 =>
  zg (36 + (zrem a4 10)) 120 (
  zl (o29 51 (zn (36 + (zrem a4 10)))) fun v31 =>
  zb (fX8_laysBack n o29) fun o34 =>
  zb (fX8_reaches a3 a4 o34) fun o37 =>
  zb (fX8_reaches a1 a2 o37) fun o40 =>
  zg (36 + (zrem a2 10)) 120 (
  zb (
    zbs (
      if v30 = (o40 51 (zn (36 + (zrem a2 10)))) then
        zg (36 + (zrem a4 10)) 120 (
        if v31 = (o40 51 (zn (36 + (zrem a4 10)))) then
          some (.inl 1)
        else
        some (.inr ()))
      else
      some (.inr ())) fun x45 : Unit =>
    some 0) fun x41 : Int32 =>
  zb (fX8_laysBack n o40) fun o51 =>
  if x41 = 0 then
    some (0, o51)
  else
  some (1, o51))))
set_option maxHeartbeats 4000000 in
set_option maxRecDepth 100000 in
theorem mX8_agree {l : Launch} {D : va_G} {T : zT} {ad sK sV : Nat → Nat} (hi : zInj ad) (n : Nat) (a1 : Int32) (a2 : Int32) (a3 : Int32) (a4 : Int32)  (I : zI) (L : zL) : ∀ o, fX8_agree n a1 a2 a3 a4 I = some o → zMet l yX8_agree cX8_agree 8 (some .int) 4 90 D T ad sK sV [.ref (ad 50), .int a1, .int a2, .int a3, .int a4] I L (em_iI L o) := by
  intro o ho
  refine zMet.of hi (by decide +kernel) (Nat.le_of_ble_eq_true rfl) (fun p e s m args below meth c hB => ?_)
  refine zr_top (emb := em_iI L) (t := fX8_agree n a1 a2 a3 a4 I) ?_ ho
  unfold fX8_agree
  refine zr_aload_n hB 0 rfl rfl dX8_agree_0 ?_
  refine zr_iload_n hB 1 rfl rfl dX8_agree_1 ?_
  refine zr_callV (st := []) (C := RX8) (As := [.int a1]) (embc := em_i0 I L) hB (mX8_isOne (sK := sK) (sV := sV) hi a1 I L) (zW_X8 rfl) rfl rfl lm_X8_106 q2_X8_isOne q3_X8_isOne q4_X8 q5_X8_isOne qd_X8_isOne (by decide) rfl rfl (Nat.le_of_ble_eq_true rfl) ⟨Nat.zero_le _, Nat.zero_le _⟩ dX8_agree_2 (zr_ki0 (fun o2 => ?_))
  refine zr_ifeq (tgt := 38) hB (by decide) dX8_agree_5 ?_ ?_
  · refine zr_aload_n hB 0 rfl rfl dX8_agree_38 ?_
    refine zr_iconst (v := 0) hB (by decide) dX8_agree_39 ?_
    refine zr_callV (st := []) (C := RX8) (As := [.int 0]) (embc := em_iI L) hB (mX8_finding (sK := sK) (sV := sV) hi 0 I L) (zW_X8 rfl) rfl rfl lm_X8_74 q2_X8_finding q3_X8_finding q4_X8 q5_X8_finding qd_X8_finding (by decide) rfl rfl (Nat.le_of_ble_eq_true rfl) ⟨Nat.zero_le _, Nat.zero_le _⟩ dX8_agree_40 (zr_kiI (fun o5 => ?_))
    exact zr_iret hB rfl rfl dX8_agree_43
  · refine zr_aload_n hB 0 rfl rfl dX8_agree_8 ?_
    refine zr_iload_n hB 3 rfl rfl dX8_agree_9 ?_
    refine zr_callV (st := []) (C := RX8) (As := [.int a3]) (embc := em_i0 I L) hB (mX8_isOne (sK := sK) (sV := sV) hi a3 I L) (zW_X8 rfl) rfl rfl lm_X8_106 q2_X8_isOne q3_X8_isOne q4_X8 q5_X8_isOne qd_X8_isOne (by decide) rfl rfl (Nat.le_of_ble_eq_true rfl) ⟨Nat.zero_le _, Nat.zero_le _⟩ dX8_agree_10 (zr_ki0 (fun o7 => ?_))
    refine zr_ifeq (tgt := 38) hB (by decide) dX8_agree_13 ?_ ?_
    · refine zr_aload_n hB 0 rfl rfl dX8_agree_38 ?_
      refine zr_iconst (v := 0) hB (by decide) dX8_agree_39 ?_
      refine zr_callV (st := []) (C := RX8) (As := [.int 0]) (embc := em_iI L) hB (mX8_finding (sK := sK) (sV := sV) hi 0 I L) (zW_X8 rfl) rfl rfl lm_X8_74 q2_X8_finding q3_X8_finding q4_X8 q5_X8_finding qd_X8_finding (by decide) rfl rfl (Nat.le_of_ble_eq_true rfl) ⟨Nat.zero_le _, Nat.zero_le _⟩ dX8_agree_40 (zr_kiI (fun o10 => ?_))
      exact zr_iret hB rfl rfl dX8_agree_43
    · refine zr_iload_n hB 1 rfl rfl dX8_agree_16 ?_
      refine zr_iload_n hB 3 rfl rfl dX8_agree_17 ?_
      refine zr_icmp_eq (tgt := 38) hB (by decide) dX8_agree_18 ?_ ?_
      · refine zr_aload_n hB 0 rfl rfl dX8_agree_38 ?_
        refine zr_iconst (v := 0) hB (by decide) dX8_agree_39 ?_
        refine zr_callV (st := []) (C := RX8) (As := [.int 0]) (embc := em_iI L) hB (mX8_finding (sK := sK) (sV := sV) hi 0 I L) (zW_X8 rfl) rfl rfl lm_X8_74 q2_X8_finding q3_X8_finding q4_X8 q5_X8_finding qd_X8_finding (by decide) rfl rfl (Nat.le_of_ble_eq_true rfl) ⟨Nat.zero_le _, Nat.zero_le _⟩ dX8_agree_40 (zr_kiI (fun o13 => ?_))
        exact zr_iret hB rfl rfl dX8_agree_43
      · refine zr_aload_n hB 0 rfl rfl dX8_agree_21 ?_
        refine zr_iload_n hB 2 rfl rfl dX8_agree_22 ?_
        refine zr_callV (st := []) (C := RX8) (As := [.int a2]) (embc := em_i0 I L) hB (mX8_isReach (sK := sK) (sV := sV) hi a2 I L) (zW_X8 rfl) rfl rfl lm_X8_193 q2_X8_isReach q3_X8_isReach q4_X8 q5_X8_isReach qd_X8_isReach (by decide) rfl rfl (Nat.le_of_ble_eq_true rfl) ⟨Nat.zero_le _, Nat.zero_le _⟩ dX8_agree_23 (zr_ki0 (fun o15 => ?_))
        refine zr_ifeq (tgt := 38) hB (by decide) dX8_agree_26 ?_ ?_
        · refine zr_aload_n hB 0 rfl rfl dX8_agree_38 ?_
          refine zr_iconst (v := 0) hB (by decide) dX8_agree_39 ?_
          refine zr_callV (st := []) (C := RX8) (As := [.int 0]) (embc := em_iI L) hB (mX8_finding (sK := sK) (sV := sV) hi 0 I L) (zW_X8 rfl) rfl rfl lm_X8_74 q2_X8_finding q3_X8_finding q4_X8 q5_X8_finding qd_X8_finding (by decide) rfl rfl (Nat.le_of_ble_eq_true rfl) ⟨Nat.zero_le _, Nat.zero_le _⟩ dX8_agree_40 (zr_kiI (fun o18 => ?_))
          exact zr_iret hB rfl rfl dX8_agree_43
        · refine zr_aload_n hB 0 rfl rfl dX8_agree_29 ?_
          refine zr_iload hB 4 rfl dX8_agree_30 ?_
          refine zr_callV (st := []) (C := RX8) (As := [.int a4]) (embc := em_i0 I L) hB (mX8_isReach (sK := sK) (sV := sV) hi a4 I L) (zW_X8 rfl) rfl rfl lm_X8_193 q2_X8_isReach q3_X8_isReach q4_X8 q5_X8_isReach qd_X8_isReach (by decide) rfl rfl (Nat.le_of_ble_eq_true rfl) ⟨Nat.zero_le _, Nat.zero_le _⟩ dX8_agree_32 (zr_ki0 (fun o20 => ?_))
          refine zr_ifne (tgt := 44) hB (by decide) dX8_agree_35 ?_ ?_
          · refine zr_aload_n hB 0 rfl rfl dX8_agree_44 ?_
            refine zr_callV (st := []) (C := RX8) (As := []) (embc := em_vI L) hB (mX8_lends (sK := sK) (sV := sV) hi n I L) (zW_X8 rfl) rfl rfl lm_X8_196 q2_X8_lends q3_X8_lends q4_X8 q5_X8_lends qd_X8_lends (by decide) rfl rfl (Nat.le_of_ble_eq_true rfl) ⟨Nat.zero_le _, Nat.zero_le _⟩ dX8_agree_45 (zr_kvI (fun o23 => ?_))
            refine zr_aload_n hB 0 rfl rfl dX8_agree_48 ?_
            refine zr_iload_n hB 1 rfl rfl dX8_agree_49 ?_
            refine zr_iload_n hB 2 rfl rfl dX8_agree_50 ?_
            refine zr_callV (st := []) (C := RX8) (As := [.int a1, .int a2]) (embc := em_vI L) hB (mX8_reaches (sK := sK) (sV := sV) hi a1 a2 o23 L) (zW_X8 rfl) rfl rfl lm_X8_199 q2_X8_reaches q3_X8_reaches q4_X8 q5_X8_reaches qd_X8_reaches (by decide) rfl rfl (Nat.le_of_ble_eq_true rfl) ⟨Nat.zero_le _, Nat.zero_le _⟩ dX8_agree_51 (zr_kvI (fun o26 => ?_))
            refine zr_aload_n hB 0 rfl rfl dX8_agree_54 ?_
            refine zr_iload_n hB 3 rfl rfl dX8_agree_55 ?_
            refine zr_iload hB 4 rfl dX8_agree_56 ?_
            refine zr_callV (st := []) (C := RX8) (As := [.int a3, .int a4]) (embc := em_vI L) hB (mX8_reaches (sK := sK) (sV := sV) hi a3 a4 o26 L) (zW_X8 rfl) rfl rfl lm_X8_199 q2_X8_reaches q3_X8_reaches q4_X8 q5_X8_reaches qd_X8_reaches (by decide) rfl rfl (Nat.le_of_ble_eq_true rfl) ⟨Nat.zero_le _, Nat.zero_le _⟩ dX8_agree_58 (zr_kvI (fun o29 => ?_))
            refine zr_aload_n hB 0 rfl rfl dX8_agree_61 ?_
            refine zr_get_X8 (w := 50) (k := 0) (v := .ref (ad 51)) hB rfl (by decide) rfl lf_X8_9 rfl dX8_agree_62 ?_
            refine zr_bipush (v := 36) hB (by decide) dX8_agree_65 ?_
            refine zr_iload_n hB 2 rfl rfl dX8_agree_67 ?_
            refine zr_bipush (v := 10) hB (by decide) dX8_agree_68 ?_
            refine zr_iremC hB (by decide) dX8_agree_70 ?_
            refine zr_iadd hB dX8_agree_71 ?_
            refine zr_iaload hB zA_51 dX8_agree_72 ?_
            refine zr_letI (fun v30 => ?_)
            refine zr_istore (lv' := [(5, .int v30), (0, .ref (ad 50)), (1, .int a1), (2, .int a2), (3, .int a3), (4, .int a4)]) hB (by decide) rfl dX8_agree_73 ?_
            refine zr_aload_n hB 1 rfl rfl dX8_agree_75 ?_
            refine zr_get_X8 (w := 50) (k := 0) (v := .ref (ad 51)) hB rfl (by decide) rfl lf_X8_9 rfl dX8_agree_76 ?_
            refine zr_bipush (v := 36) hB (by decide) dX8_agree_79 ?_
            refine zr_iload hB 5 rfl dX8_agree_81 ?_
            refine zr_bipush (v := 10) hB (by decide) dX8_agree_83 ?_
            refine zr_iremC hB (by decide) dX8_agree_85 ?_
            refine zr_iadd hB dX8_agree_86 ?_
            refine zr_iaload hB zA_51 dX8_agree_87 ?_
            refine zr_letI (fun v31 => ?_)
            refine zr_istore (lv' := [(6, .int v31), (5, .int v30), (0, .ref (ad 50)), (1, .int a1), (2, .int a2), (3, .int a3), (4, .int a4)]) hB (by decide) rfl dX8_agree_88 ?_
            refine zr_aload_n hB 2 rfl rfl dX8_agree_90 ?_
            refine zr_callV (st := []) (C := RX8) (As := []) (embc := em_vI L) hB (mX8_laysBack (sK := sK) (sV := sV) hi n o29 L) (zW_X8 rfl) rfl rfl lm_X8_202 q2_X8_laysBack q3_X8_laysBack q4_X8 q5_X8_laysBack qd_X8_laysBack (by decide) rfl rfl (Nat.le_of_ble_eq_true rfl) ⟨Nat.zero_le _, Nat.zero_le _⟩ dX8_agree_91 (zr_kvI (fun o34 => ?_))
            refine zr_aload_n hB 2 rfl rfl dX8_agree_94 ?_
            refine zr_iload_n hB 5 rfl rfl dX8_agree_95 ?_
            refine zr_iload hB 6 rfl dX8_agree_96 ?_
            refine zr_callV (st := []) (C := RX8) (As := [.int a3, .int a4]) (embc := em_vI L) hB (mX8_reaches (sK := sK) (sV := sV) hi a3 a4 o34 L) (zW_X8 rfl) rfl rfl lm_X8_199 q2_X8_reaches q3_X8_reaches q4_X8 q5_X8_reaches qd_X8_reaches (by decide) rfl rfl (Nat.le_of_ble_eq_true rfl) ⟨Nat.zero_le _, Nat.zero_le _⟩ dX8_agree_98 (zr_kvI (fun o37 => ?_))
            refine zr_aload_n hB 2 rfl rfl dX8_agree_101 ?_
            refine zr_iload_n hB 3 rfl rfl dX8_agree_102 ?_
            refine zr_iload_n hB 4 rfl rfl dX8_agree_103 ?_
            refine zr_callV (st := []) (C := RX8) (As := [.int a1, .int a2]) (embc := em_vI L) hB (mX8_reaches (sK := sK) (sV := sV) hi a1 a2 o37 L) (zW_X8 rfl) rfl rfl lm_X8_199 q2_X8_reaches q3_X8_reaches q4_X8 q5_X8_reaches qd_X8_reaches (by decide) rfl rfl (Nat.le_of_ble_eq_true rfl) ⟨Nat.zero_le _, Nat.zero_le _⟩ dX8_agree_104 (zr_kvI (fun o40 => ?_))
            refine zr_iload hB 1 rfl dX8_agree_107 ?_
            refine zr_aload_n hB 2 rfl rfl dX8_agree_109 ?_
            refine zr_get_X8 (w := 50) (k := 0) (v := .ref (ad 51)) hB rfl (by decide) rfl lf_X8_9 rfl dX8_agree_110 ?_
            refine zr_bipush (v := 36) hB (by decide) dX8_agree_113 ?_
            refine zr_iload_n hB 4 rfl rfl dX8_agree_115 ?_
            refine zr_bipush (v := 10) hB (by decide) dX8_agree_116 ?_
            refine zr_iremC hB (by decide) dX8_agree_118 ?_
            refine zr_iadd hB dX8_agree_119 ?_
            refine zr_iaload hB zA_51 dX8_agree_120 ?_
            refine zr_join (pcJ := 147) (fun x41 : Int32 => [(0, .ref (ad 50))]) (fun x41 => [.int x41]) (fun x41 => o40) (fun x41 => L) (fun x41 => ?_) (fun K44 hj42 => ?_)
            · refine zr_istore (lv' := [(7, .int x41), (0, .ref (ad 50))]) hB (by decide) rfl dX8_agree_147 ?_
              refine zr_aload_n hB 1 rfl rfl dX8_agree_149 ?_
              refine zr_callV (st := []) (C := RX8) (As := []) (embc := em_vI L) hB (mX8_laysBack (sK := sK) (sV := sV) hi n o40 L) (zW_X8 rfl) rfl rfl lm_X8_202 q2_X8_laysBack q3_X8_laysBack q4_X8 q5_X8_laysBack qd_X8_laysBack (by decide) rfl rfl (Nat.le_of_ble_eq_true rfl) ⟨Nat.zero_le _, Nat.zero_le _⟩ dX8_agree_150 (zr_kvI (fun o51 => ?_))
              refine zr_iload hB 0 rfl dX8_agree_153 ?_
              refine zr_ifeq (tgt := 162) hB (by decide) dX8_agree_155 ?_ ?_
              · refine zr_iconst (v := 0) hB (by decide) dX8_agree_162 ?_
                exact zr_iret hB rfl rfl dX8_agree_163
              · refine zr_iconst (v := 1) hB (by decide) dX8_agree_158 ?_
                refine zr_goto (tgt := 163) hB (by decide) dX8_agree_159 ?_
                exact zr_iret hB rfl rfl dX8_agree_163
            · refine zr_joins (pcJ := 146) (fun x45 : Unit => [(0, .ref (ad 50))]) (fun x45 => []) (fun x45 => o40) (fun x45 => L) (fun x45 => ?_) (fun K48 hi47 hj46 => ?_)
              · refine zr_iconst (v := 0) hB (by decide) dX8_agree_146 ?_
                exact zr_sub [0] rfl (hj42 0)
              · refine zr_icmp_ne (tgt := 146) hB (by decide) dX8_agree_121 ?_ ?_
                · exact zr_sub [2] rfl (hj46 ())
                · refine zr_iload hB 0 rfl dX8_agree_124 ?_
                  refine zr_aload_n hB 2 rfl rfl dX8_agree_126 ?_
                  refine zr_get_X8 (w := 50) (k := 0) (v := .ref (ad 51)) hB rfl (by decide) rfl lf_X8_9 rfl dX8_agree_127 ?_
                  refine zr_bipush (v := 36) hB (by decide) dX8_agree_130 ?_
                  refine zr_iload hB 6 rfl dX8_agree_132 ?_
                  refine zr_bipush (v := 10) hB (by decide) dX8_agree_134 ?_
                  refine zr_iremC hB (by decide) dX8_agree_136 ?_
                  refine zr_iadd hB dX8_agree_137 ?_
                  refine zr_iaload hB zA_51 dX8_agree_138 ?_
                  refine zr_icmp_ne (tgt := 146) hB (by decide) dX8_agree_139 ?_ ?_
                  · exact zr_sub [2] rfl (hj46 ())
                  · refine zr_iconst (v := 1) hB (by decide) dX8_agree_142 ?_
                    refine zr_goto (tgt := 147) hB (by decide) dX8_agree_143 ?_
                    refine hi47 _ _ _ _ _ _ ?_
                    exact zr_sub [2] rfl (hj42 1)
          · refine zr_aload_n hB 0 rfl rfl dX8_agree_38 ?_
            refine zr_iconst (v := 0) hB (by decide) dX8_agree_39 ?_
            refine zr_callV (st := []) (C := RX8) (As := [.int 0]) (embc := em_iI L) hB (mX8_finding (sK := sK) (sV := sV) hi 0 I L) (zW_X8 rfl) rfl rfl lm_X8_74 q2_X8_finding q3_X8_finding q4_X8 q5_X8_finding qd_X8_finding (by decide) rfl rfl (Nat.le_of_ble_eq_true rfl) ⟨Nat.zero_le _, Nat.zero_le _⟩ dX8_agree_40 (zr_kiI (fun o54 => ?_))
            exact zr_iret hB rfl rfl dX8_agree_43

def gX8_opens_36 (n : Nat) (a1 : Int32) (a2 : Int32) (a3 : Int32) (s6 : Int32 × zI) (s16 : Int32 × zI) : Option ((Int32 × zI) ⊕ (zI)) :=
  if 8 ≤ s16.1 then
    some (.inr s16.2)
  else
  zb (fX8_isOpen s6.1 s16.1 s16.2) fun o26 =>
  if o26 = 0 then
    zb (fX8_opensDoor s6.1 s16.1 1 s16.2) fun o30 =>
    zb (fX8_stepsOf n a1 a2 a3 o30) fun o33 =>
    zb (fX8_tries ((10 * s6.1) + s16.1) o33.1 o33.2) fun o36 =>
    zb (fX8_opensDoor s6.1 s16.1 0 o36) fun o39 =>
    zl (s16.1 + 1) fun v40 =>
    some (.inl (v40, o39))
  else
  zl (s16.1 + 1) fun v27 =>
  some (.inl (v27, s16.2))
def gX8_opens_23 (n : Nat) (a1 : Int32) (a2 : Int32) (a3 : Int32) (s6 : Int32 × zI) : Option ((Int32 × zI) ⊕ (zI)) :=
  if 8 ≤ s6.1 then
    some (.inr s6.2)
  else
  zl (s6.1 + 1) fun v15 =>
  zb (zit (gX8_opens_36 n a1 a2 a3 s6) n (v15, s6.2)) fun x17 : zI =>
  zl (s6.1 + 1) fun v41 =>
  some (.inl (v41, x17))
def fX8_opens (n : Nat) (a1 : Int32) (a2 : Int32) (a3 : Int32) (I : zI) : Option (Int32 × zI) :=
  zb (fX8_isTask a1 a2 a3 I) fun o2 =>
  if o2 = 0 then
    zb (fX8_finding 0 I) fun o47 =>
    some (o47.1, o47.2)
  else
  zb (fX8_begins I) fun o5 =>
  zb (zit (gX8_opens_23 n a1 a2 a3) n (0, o5)) fun x7 : zI =>
  zb (fX8_orNone (x7 50 11) x7) fun o44 =>
  some (o44.1, o44.2)
set_option maxHeartbeats 4000000 in
set_option maxRecDepth 100000 in
theorem mX8_opens {l : Launch} {D : va_G} {T : zT} {ad sK sV : Nat → Nat} (hi : zInj ad) (n : Nat) (a1 : Int32) (a2 : Int32) (a3 : Int32)  (I : zI) (L : zL) : ∀ o, fX8_opens n a1 a2 a3 I = some o → zMet l yX8_opens cX8_opens 6 (some .int) 5 124 D T ad sK sV [.ref (ad 50), .int a1, .int a2, .int a3] I L (em_iI L o) := by
  intro o ho
  refine zMet.of hi (by decide +kernel) (Nat.le_of_ble_eq_true rfl) (fun p e s m args below meth c hB => ?_)
  refine zr_top (emb := em_iI L) (t := fX8_opens n a1 a2 a3 I) ?_ ho
  unfold fX8_opens
  refine zr_aload_n hB 0 rfl rfl dX8_opens_0 ?_
  refine zr_iload_n hB 1 rfl rfl dX8_opens_1 ?_
  refine zr_iload_n hB 2 rfl rfl dX8_opens_2 ?_
  refine zr_iload_n hB 3 rfl rfl dX8_opens_3 ?_
  refine zr_callV (st := []) (C := RX8) (As := [.int a1, .int a2, .int a3]) (embc := em_i0 I L) hB (mX8_isTask (sK := sK) (sV := sV) hi a1 a2 a3 I L) (zW_X8 rfl) rfl rfl lm_X8_168 q2_X8_isTask q3_X8_isTask q4_X8 q5_X8_isTask qd_X8_isTask (by decide) rfl rfl (Nat.le_of_ble_eq_true rfl) ⟨Nat.zero_le _, Nat.zero_le _⟩ dX8_opens_4 (zr_ki0 (fun o2 => ?_))
  refine zr_ifne (tgt := 16) hB (by decide) dX8_opens_7 ?_ ?_
  · refine zr_aload_n hB 0 rfl rfl dX8_opens_16 ?_
    refine zr_callV (st := []) (C := RX8) (As := []) (embc := em_vI L) hB (mX8_begins (sK := sK) (sV := sV) hi  I L) (zW_X8 rfl) rfl rfl lm_X8_180 q2_X8_begins q3_X8_begins q4_X8 q5_X8_begins qd_X8_begins (by decide) rfl rfl (Nat.le_of_ble_eq_true rfl) ⟨Nat.zero_le _, Nat.zero_le _⟩ dX8_opens_17 (zr_kvI (fun o5 => ?_))
    refine zr_iconst (v := 0) hB (by decide) dX8_opens_20 ?_
    refine zr_istore (lv' := [(4, .int 0), (0, .ref (ad 50)), (1, .int a1), (2, .int a2), (3, .int a3)]) hB (by decide) rfl dX8_opens_21 ?_
    refine zr_join (pcJ := 103) (fun x7 : zI => [(0, .ref (ad 50))]) (fun _ => []) (fun x7 => x7) (fun x7 => L) (fun x7 => ?_) (fun K13 hx12 => ?_)
    · refine zr_aload_n hB 0 rfl rfl dX8_opens_103 ?_
      refine zr_aload_n hB 0 rfl rfl dX8_opens_104 ?_
      refine zr_get_X8 (w := 50) (k := 11) (v := .int (x7 50 11)) hB rfl (by decide) rfl lf_X8_174 rfl dX8_opens_105 ?_
      refine zr_callV (st := []) (C := RX8) (As := [.int (x7 50 11)]) (embc := em_iI L) hB (mX8_orNone (sK := sK) (sV := sV) hi (x7 50 11) x7 L) (zW_X8 rfl) rfl rfl lm_X8_162 q2_X8_orNone q3_X8_orNone q4_X8 q5_X8_orNone qd_X8_orNone (by decide) rfl rfl (Nat.le_of_ble_eq_true rfl) ⟨Nat.zero_le _, Nat.zero_le _⟩ dX8_opens_108 (zr_kiI (fun o44 => ?_))
      exact zr_iret hB rfl rfl dX8_opens_111
    · refine zr_sub (lv' := (fun s6 : Int32 × zI => [(4, .int s6.1), (0, .ref (ad 50)), (1, .int a1), (2, .int a2), (3, .int a3)]) (0, o5)) [0, 1, 2, 3, 4] rfl (zr_loop (fun s6 : Int32 × zI => [(4, .int s6.1), (0, .ref (ad 50)), (1, .int a1), (2, .int a2), (3, .int a3)]) (fun s6 => s6.2) (fun s6 => L) (fun x7 : zI => [(0, .ref (ad 50))]) (fun x7 => x7) (fun x7 => L) hx12 (fun s6 K14 hc8 hx9 => ?_) n (0, o5))
      unfold gX8_opens_23
      refine zr_iload hB 0 rfl dX8_opens_23 ?_
      refine zr_bipush (v := 8) hB (by decide) dX8_opens_25 ?_
      refine zr_icmp_ge (tgt := 103) hB (by decide) dX8_opens_27 ?_ ?_
      · exact zr_sub [1] rfl (hx9 s6.2)
      · refine zr_iload hB 0 rfl dX8_opens_30 ?_
        refine zr_iconst (v := 1) hB (by decide) dX8_opens_32 ?_
        refine zr_iadd hB dX8_opens_33 ?_
        refine zr_letI (fun v15 => ?_)
        refine zr_istore (lv' := [(5, .int v15), (4, .int s6.1), (0, .ref (ad 50)), (1, .int a1), (2, .int a2), (3, .int a3)]) hB (by decide) rfl dX8_opens_34 ?_
        refine zr_join (pcJ := 97) (fun x17 : zI => [(4, .int s6.1), (0, .ref (ad 50)), (1, .int a1), (2, .int a2), (3, .int a3)]) (fun _ => []) (fun x17 => x17) (fun x17 => L) (fun x17 => ?_) (fun K23 hx22 => ?_)
        · refine zr_iincL hB (j := 0) (n := 1) (w := 1) rfl (by decide) (by decide) dX8_opens_97 (fun v41 lv' hlv => ?_)
          obtain rfl : lv' = [(4, .int v41), (0, .ref (ad 50)), (1, .int a1), (2, .int a2), (3, .int a3)] := hlv.symm.trans rfl
          refine zr_goto (tgt := 23) hB (by decide) dX8_opens_100 ?_
          exact zr_sub [0, 1, 2, 3, 4] rfl (hc8 (v41, x17))
        · refine zr_sub (lv' := (fun s16 : Int32 × zI => [(5, .int s16.1), (4, .int s6.1), (0, .ref (ad 50)), (1, .int a1), (2, .int a2), (3, .int a3)]) (v15, s6.2)) [0, 1, 2, 3, 4, 5] rfl (zr_loop (fun s16 : Int32 × zI => [(5, .int s16.1), (4, .int s6.1), (0, .ref (ad 50)), (1, .int a1), (2, .int a2), (3, .int a3)]) (fun s16 => s16.2) (fun s16 => L) (fun x17 : zI => [(4, .int s6.1), (0, .ref (ad 50)), (1, .int a1), (2, .int a2), (3, .int a3)]) (fun x17 => x17) (fun x17 => L) hx22 (fun s16 K24 hc18 hx19 => ?_) n (v15, s6.2))
          unfold gX8_opens_36
          refine zr_iload hB 0 rfl dX8_opens_36 ?_
          refine zr_bipush (v := 8) hB (by decide) dX8_opens_38 ?_
          refine zr_icmp_ge (tgt := 97) hB (by decide) dX8_opens_40 ?_ ?_
          · exact zr_sub [1, 2, 3, 4, 5] rfl (hx19 s16.2)
          · refine zr_aload_n hB 2 rfl rfl dX8_opens_43 ?_
            refine zr_iload hB 1 rfl dX8_opens_44 ?_
            refine zr_iload hB 0 rfl dX8_opens_46 ?_
            refine zr_callV (st := []) (C := RX8) (As := [.int s6.1, .int s16.1]) (embc := em_i0 s16.2 L) hB (mX8_isOpen (sK := sK) (sV := sV) hi s6.1 s16.1 s16.2 L) (zW_X8 rfl) rfl rfl lm_X8_77 q2_X8_isOpen q3_X8_isOpen q4_X8 q5_X8_isOpen qd_X8_isOpen (by decide) rfl rfl (Nat.le_of_ble_eq_true rfl) ⟨Nat.zero_le _, Nat.zero_le _⟩ dX8_opens_48 (zr_ki0 (fun o26 => ?_))
            refine zr_ifne (tgt := 91) hB (by decide) dX8_opens_51 ?_ ?_
            · refine zr_iincL hB (j := 0) (n := 1) (w := 1) rfl (by decide) (by decide) dX8_opens_91 (fun v27 lv' hlv => ?_)
              obtain rfl : lv' = [(5, .int v27), (4, .int s6.1), (0, .ref (ad 50)), (1, .int a1), (2, .int a2), (3, .int a3)] := hlv.symm.trans rfl
              refine zr_goto (tgt := 36) hB (by decide) dX8_opens_94 ?_
              exact zr_sub [0, 1, 2, 3, 4, 5] rfl (hc18 (v27, s16.2))
            · refine zr_aload_n hB 2 rfl rfl dX8_opens_54 ?_
              refine zr_iload hB 1 rfl dX8_opens_55 ?_
              refine zr_iload hB 0 rfl dX8_opens_57 ?_
              refine zr_iconst (v := 1) hB (by decide) dX8_opens_59 ?_
              refine zr_callV (st := []) (C := RX8) (As := [.int s6.1, .int s16.1, .int 1]) (embc := em_vI L) hB (mX8_opensDoor (sK := sK) (sV := sV) hi s6.1 s16.1 1 s16.2 L) (zW_X8 rfl) rfl rfl lm_X8_43 q2_X8_opensDoor q3_X8_opensDoor q4_X8 q5_X8_opensDoor qd_X8_opensDoor (by decide) rfl rfl (Nat.le_of_ble_eq_true rfl) ⟨Nat.zero_le _, Nat.zero_le _⟩ dX8_opens_60 (zr_kvI (fun o30 => ?_))
              refine zr_aload_n hB 2 rfl rfl dX8_opens_63 ?_
              refine zr_bipush (v := 10) hB (by decide) dX8_opens_64 ?_
              refine zr_iload hB 1 rfl dX8_opens_66 ?_
              refine zr_imul hB dX8_opens_68 ?_
              refine zr_iload hB 0 rfl dX8_opens_69 ?_
              refine zr_iadd hB dX8_opens_71 ?_
              refine zr_aload_n hB 2 rfl rfl dX8_opens_72 ?_
              refine zr_iload_n hB 3 rfl rfl dX8_opens_73 ?_
              refine zr_iload_n hB 4 rfl rfl dX8_opens_74 ?_
              refine zr_iload_n hB 5 rfl rfl dX8_opens_75 ?_
              refine zr_callV (st := [.int ((10 * s6.1) + s16.1), .ref (ad 50)]) (C := RX8) (As := [.int a1, .int a2, .int a3]) (embc := em_iI L) hB (mX8_stepsOf (sK := sK) (sV := sV) hi n a1 a2 a3 o30 L) (zW_X8 rfl) rfl rfl lm_X8_171 q2_X8_stepsOf q3_X8_stepsOf q4_X8 q5_X8_stepsOf qd_X8_stepsOf (by decide) rfl rfl (Nat.le_of_ble_eq_true rfl) ⟨Nat.zero_le _, Nat.zero_le _⟩ dX8_opens_76 (zr_kiI (fun o33 => ?_))
              refine zr_callV (st := []) (C := RX8) (As := [.int ((10 * s6.1) + s16.1), .int o33.1]) (embc := em_vI L) hB (mX8_tries (sK := sK) (sV := sV) hi ((10 * s6.1) + s16.1) o33.1 o33.2 L) (zW_X8 rfl) rfl rfl lm_X8_183 q2_X8_tries q3_X8_tries q4_X8 q5_X8_tries qd_X8_tries (by decide) rfl rfl (Nat.le_of_ble_eq_true rfl) ⟨Nat.zero_le _, Nat.zero_le _⟩ dX8_opens_79 (zr_kvI (fun o36 => ?_))
              refine zr_aload_n hB 2 rfl rfl dX8_opens_82 ?_
              refine zr_iload hB 1 rfl dX8_opens_83 ?_
              refine zr_iload hB 0 rfl dX8_opens_85 ?_
              refine zr_iconst (v := 0) hB (by decide) dX8_opens_87 ?_
              refine zr_callV (st := []) (C := RX8) (As := [.int s6.1, .int s16.1, .int 0]) (embc := em_vI L) hB (mX8_opensDoor (sK := sK) (sV := sV) hi s6.1 s16.1 0 o36 L) (zW_X8 rfl) rfl rfl lm_X8_43 q2_X8_opensDoor q3_X8_opensDoor q4_X8 q5_X8_opensDoor qd_X8_opensDoor (by decide) rfl rfl (Nat.le_of_ble_eq_true rfl) ⟨Nat.zero_le _, Nat.zero_le _⟩ dX8_opens_88 (zr_kvI (fun o39 => ?_))
              refine zr_iincL hB (j := 0) (n := 1) (w := 1) rfl (by decide) (by decide) dX8_opens_91 (fun v40 lv' hlv => ?_)
              obtain rfl : lv' = [(5, .int v40), (4, .int s6.1), (0, .ref (ad 50)), (1, .int a1), (2, .int a2), (3, .int a3)] := hlv.symm.trans rfl
              refine zr_goto (tgt := 36) hB (by decide) dX8_opens_94 ?_
              exact zr_sub [0, 1, 2, 3, 4, 5] rfl (hc18 (v40, o39))
  · refine zr_aload_n hB 0 rfl rfl dX8_opens_10 ?_
    refine zr_iconst (v := 0) hB (by decide) dX8_opens_11 ?_
    refine zr_callV (st := []) (C := RX8) (As := [.int 0]) (embc := em_iI L) hB (mX8_finding (sK := sK) (sV := sV) hi 0 I L) (zW_X8 rfl) rfl rfl lm_X8_74 q2_X8_finding q3_X8_finding q4_X8 q5_X8_finding qd_X8_finding (by decide) rfl rfl (Nat.le_of_ble_eq_true rfl) ⟨Nat.zero_le _, Nat.zero_le _⟩ dX8_opens_12 (zr_kiI (fun o47 => ?_))
    exact zr_iret hB rfl rfl dX8_opens_15

def gX8_power_5 (a1 : Int32) (a2 : Int32) (s1 : Int64 × Int32) : Option ((Int64 × Int32) ⊕ ((Int64) ⊕ (Int64))) :=
  if a2 ≤ s1.2 then
    some (.inr (.inr s1.1))
  else
  zdL a1.toInt64 (
  if (lg_cmp s1.1 (4000000000000000000 / a1.toInt64)) ≤ 0 then
    zl (s1.1 * a1.toInt64) fun v10 =>
    zl (s1.2 + 1) fun v11 =>
    some (.inl (v10, v11))
  else
  some (.inr (.inl (-1))))
def fX8_power (n : Nat) (a1 : Int32) (a2 : Int32) : Option (Int64) :=
  zbs (zit (gX8_power_5 a1 a2) n (1, 0)) fun x2 : Int64 =>
  some x2
set_option maxHeartbeats 4000000 in
set_option maxRecDepth 100000 in
theorem mX8_power {l : Launch} {D : va_G} {T : zT} {ad sK sV : Nat → Nat} (hi : zInj ad) (n : Nat) (a1 : Int32) (a2 : Int32)  (I : zI) (L : zL) : ∀ o, fX8_power n a1 a2 = some o → zMet l yX8_power cX8_power 5 (some .long) 0 0 D T ad sK sV [.int a1, .int a2] I L (em_l0 I L o) := by
  intro o ho
  refine zMet.of hi (by decide +kernel) (Nat.le_of_ble_eq_true rfl) (fun p e s m args below meth c hB => ?_)
  refine zr_top (emb := em_l0 I L) (t := fX8_power n a1 a2) ?_ ho
  unfold fX8_power
  refine zr_lconst (v := 1) hB (by decide) dX8_power_0 ?_
  refine zr_lstore_n (lv' := [(2, .long 1), (0, .int a1), (1, .int a2)]) hB rfl (by decide) rfl dX8_power_1 ?_
  refine zr_iconst (v := 0) hB (by decide) dX8_power_2 ?_
  refine zr_istore (lv' := [(4, .int 0), (2, .long 1), (0, .int a1), (1, .int a2)]) hB (by decide) rfl dX8_power_3 ?_
  refine zr_joins (pcJ := 37) (fun x2 : Int64 => [(2, .long x2)]) (fun _ => []) (fun x2 => I) (fun x2 => L) (fun x2 => ?_) (fun K8 hi6 hx7 => ?_)
  · refine zr_lload_n hB 0 rfl rfl dX8_power_37 ?_
    exact zr_lret hB rfl rfl dX8_power_38
  · refine zr_sub (lv' := (fun s1 : Int64 × Int32 => [(2, .long s1.1), (4, .int s1.2), (0, .int a1), (1, .int a2)]) (1, 0)) [1, 0, 2, 3] rfl (zr_loops (fun s1 : Int64 × Int32 => [(2, .long s1.1), (4, .int s1.2), (0, .int a1), (1, .int a2)]) (fun s1 => I) (fun s1 => L) (fun x2 : Int64 => [(2, .long x2)]) (fun x2 => I) (fun x2 => L) hi6 hx7 (fun s1 K9 hc3 hi5 hx4 => ?_) n (1, 0))
    unfold gX8_power_5
    refine zr_iload hB 1 rfl dX8_power_5 ?_
    refine zr_iload_n hB 3 rfl rfl dX8_power_7 ?_
    refine zr_icmp_ge (tgt := 37) hB (by decide) dX8_power_8 ?_ ?_
    · exact zr_sub [0] rfl (hx4 s1.1)
    · refine zr_lload_n hB 0 rfl rfl dX8_power_11 ?_
      refine zr_ldc2 (v := 4000000000000000000) hB lj_X8_205 dX8_power_12 ?_
      refine zr_iload_n hB 2 rfl rfl dX8_power_15 ?_
      refine zr_i2l hB dX8_power_16 ?_
      refine zr_ldiv hB dX8_power_17 ?_
      refine zr_lcmp hB dX8_power_18 ?_
      refine zr_ifle (tgt := 26) hB (by decide) dX8_power_19 ?_ ?_
      · refine zr_lload_n hB 0 rfl rfl dX8_power_26 ?_
        refine zr_iload_n hB 2 rfl rfl dX8_power_27 ?_
        refine zr_i2l hB dX8_power_28 ?_
        refine zr_lmul hB dX8_power_29 ?_
        refine zr_letL (fun v10 => ?_)
        refine zr_lstore_n (lv' := [(2, .long v10), (4, .int s1.2), (0, .int a1), (1, .int a2)]) hB rfl (by decide) rfl dX8_power_30 ?_
        refine zr_iincL hB (j := 1) (n := 1) (w := 1) rfl (by decide) (by decide) dX8_power_31 (fun v11 lv' hlv => ?_)
        obtain rfl : lv' = [(4, .int v11), (2, .long v10), (0, .int a1), (1, .int a2)] := hlv.symm.trans rfl
        refine zr_goto (tgt := 5) hB (by decide) dX8_power_34 ?_
        exact zr_sub [1, 0, 2, 3] rfl (hc3 (v10, v11))
      · refine zr_ldc2 (v := (-1)) hB lj_X8_207 dX8_power_22 ?_
        refine hi5 _ _ _ _ _ _ ?_
        exact zr_lret hB rfl rfl dX8_power_25

def fX8_isHouses (a1 : Int32) (a2 : Int32) (a3 : Int32) : Option (Int32) :=
  zb (fX8_within a1.toInt64 1 9) fun o2 =>
  if o2 = 0 then
    some 0
  else
  zb (fX8_within a2.toInt64 0 a3.toInt64) fun o4 =>
  if o4 = 0 then
    some 0
  else
  some 1
set_option maxHeartbeats 4000000 in
set_option maxRecDepth 100000 in
theorem mX8_isHouses {l : Launch} {D : va_G} {T : zT} {ad sK sV : Nat → Nat} (hi : zInj ad) (a1 : Int32) (a2 : Int32) (a3 : Int32)  (I : zI) (L : zL) : ∀ o, fX8_isHouses a1 a2 a3 = some o → zMet l yX8_isHouses cX8_isHouses 3 (some .boolean) 1 25 D T ad sK sV [.int a1, .int a2, .int a3] I L (em_i0 I L o) := by
  intro o ho
  refine zMet.of hi (by decide +kernel) (Nat.le_of_ble_eq_true rfl) (fun p e s m args below meth c hB => ?_)
  refine zr_top (emb := em_i0 I L) (t := fX8_isHouses a1 a2 a3) ?_ ho
  unfold fX8_isHouses
  refine zr_iload_n hB 0 rfl rfl dX8_isHouses_0 ?_
  refine zr_i2l hB dX8_isHouses_1 ?_
  refine zr_lconst (v := 1) hB (by decide) dX8_isHouses_2 ?_
  refine zr_ldc2 (v := 9) hB lj_X8_209 dX8_isHouses_3 ?_
  refine zr_callS (st := []) (As := [.long a1.toInt64, .long 1, .long 9]) (embc := em_i0 I L) hB (mX8_within (sK := sK) (sV := sV) hi a1.toInt64 1 9 I L) lm_X8_54 q2_X8_within q4_X8 q5_X8_within qd_X8_within (by decide) rfl rfl (Nat.le_of_ble_eq_true rfl) ⟨Nat.zero_le _, Nat.zero_le _⟩ dX8_isHouses_6 (zr_ki0 (fun o2 => ?_))
  refine zr_ifeq (tgt := 27) hB (by decide) dX8_isHouses_9 ?_ ?_
  · refine zr_iconst (v := 0) hB (by decide) dX8_isHouses_27 ?_
    exact zr_zretC (by decide) hB rfl rfl dX8_isHouses_28
  · refine zr_iload_n hB 1 rfl rfl dX8_isHouses_12 ?_
    refine zr_i2l hB dX8_isHouses_13 ?_
    refine zr_lconst (v := 0) hB (by decide) dX8_isHouses_14 ?_
    refine zr_iload_n hB 2 rfl rfl dX8_isHouses_15 ?_
    refine zr_i2l hB dX8_isHouses_16 ?_
    refine zr_callS (st := []) (As := [.long a2.toInt64, .long 0, .long a3.toInt64]) (embc := em_i0 I L) hB (mX8_within (sK := sK) (sV := sV) hi a2.toInt64 0 a3.toInt64 I L) lm_X8_54 q2_X8_within q4_X8 q5_X8_within qd_X8_within (by decide) rfl rfl (Nat.le_of_ble_eq_true rfl) ⟨Nat.zero_le _, Nat.zero_le _⟩ dX8_isHouses_17 (zr_ki0 (fun o4 => ?_))
    refine zr_ifeq (tgt := 27) hB (by decide) dX8_isHouses_20 ?_ ?_
    · refine zr_iconst (v := 0) hB (by decide) dX8_isHouses_27 ?_
      exact zr_zretC (by decide) hB rfl rfl dX8_isHouses_28
    · refine zr_iconst (v := 1) hB (by decide) dX8_isHouses_23 ?_
      refine zr_goto (tgt := 28) hB (by decide) dX8_isHouses_24 ?_
      exact zr_zretC (by decide) hB rfl rfl dX8_isHouses_28

def fX8_copies (n : Nat) (a1 : Int32) (a2 : Int32) (I : zI) : Option (Int64 × zI) :=
  zb (fX8_isHouses a1 a2 62) fun o2 =>
  if o2 = 0 then
    zb (fX8_finding 0 I) fun o10 =>
    some (o10.1.toInt64, o10.2)
  else
  zb (fX8_power n a1 a2) fun o4 =>
  if 0 ≤ (lg_cmp o4 0) then
    some (o4, I)
  else
  zb (fX8_finding 6 I) fun o7 =>
  some (o7.1.toInt64, o7.2)
set_option maxHeartbeats 4000000 in
set_option maxRecDepth 100000 in
theorem mX8_copies {l : Launch} {D : va_G} {T : zT} {ad sK sV : Nat → Nat} (hi : zInj ad) (n : Nat) (a1 : Int32) (a2 : Int32)  (I : zI) (L : zL) : ∀ o, fX8_copies n a1 a2 I = some o → zMet l yX8_copies cX8_copies 5 (some .long) 2 47 D T ad sK sV [.ref (ad 50), .int a1, .int a2] I L (em_lI L o) := by
  intro o ho
  refine zMet.of hi (by decide +kernel) (Nat.le_of_ble_eq_true rfl) (fun p e s m args below meth c hB => ?_)
  refine zr_top (emb := em_lI L) (t := fX8_copies n a1 a2 I) ?_ ho
  unfold fX8_copies
  refine zr_iload_n hB 1 rfl rfl dX8_copies_0 ?_
  refine zr_iload_n hB 2 rfl rfl dX8_copies_1 ?_
  refine zr_bipush (v := 62) hB (by decide) dX8_copies_2 ?_
  refine zr_callS (st := []) (As := [.int a1, .int a2, .int 62]) (embc := em_i0 I L) hB (mX8_isHouses (sK := sK) (sV := sV) hi a1 a2 62 I L) lm_X8_211 q2_X8_isHouses q4_X8 q5_X8_isHouses qd_X8_isHouses (by decide) rfl rfl (Nat.le_of_ble_eq_true rfl) ⟨Nat.zero_le _, Nat.zero_le _⟩ dX8_copies_4 (zr_ki0 (fun o2 => ?_))
  refine zr_ifne (tgt := 17) hB (by decide) dX8_copies_7 ?_ ?_
  · refine zr_iload_n hB 1 rfl rfl dX8_copies_17 ?_
    refine zr_iload_n hB 2 rfl rfl dX8_copies_18 ?_
    refine zr_callS (st := []) (As := [.int a1, .int a2]) (embc := em_l0 I L) hB (mX8_power (sK := sK) (sV := sV) hi n a1 a2 I L) lm_X8_214 q2_X8_power q4_X8 q5_X8_power qd_X8_power (by decide) rfl rfl (Nat.le_of_ble_eq_true rfl) ⟨Nat.zero_le _, Nat.zero_le _⟩ dX8_copies_19 (zr_kl0 (fun o4 => ?_))
    refine zr_lstore_n (lv' := [(3, .long o4), (0, .ref (ad 50)), (1, .int a1), (2, .int a2)]) hB rfl (by decide) rfl dX8_copies_22 ?_
    refine zr_lload_n hB 0 rfl rfl dX8_copies_23 ?_
    refine zr_lconst (v := 0) hB (by decide) dX8_copies_24 ?_
    refine zr_lcmp hB dX8_copies_25 ?_
    refine zr_ifge (tgt := 39) hB (by decide) dX8_copies_26 ?_ ?_
    · refine zr_lload_n hB 0 rfl rfl dX8_copies_39 ?_
      exact zr_lret hB rfl rfl dX8_copies_40
    · refine zr_aload_n hB 1 rfl rfl dX8_copies_29 ?_
      refine zr_bipush (v := 6) hB (by decide) dX8_copies_30 ?_
      refine zr_callV (st := []) (C := RX8) (As := [.int 6]) (embc := em_iI L) hB (mX8_finding (sK := sK) (sV := sV) hi 6 I L) (zW_X8 rfl) rfl rfl lm_X8_74 q2_X8_finding q3_X8_finding q4_X8 q5_X8_finding qd_X8_finding (by decide) rfl rfl (Nat.le_of_ble_eq_true rfl) ⟨Nat.zero_le _, Nat.zero_le _⟩ dX8_copies_32 (zr_kiI (fun o7 => ?_))
      refine zr_i2l hB dX8_copies_35 ?_
      refine zr_goto (tgt := 40) hB (by decide) dX8_copies_36 ?_
      exact zr_lret hB rfl rfl dX8_copies_40
  · refine zr_aload_n hB 0 rfl rfl dX8_copies_10 ?_
    refine zr_iconst (v := 0) hB (by decide) dX8_copies_11 ?_
    refine zr_callV (st := []) (C := RX8) (As := [.int 0]) (embc := em_iI L) hB (mX8_finding (sK := sK) (sV := sV) hi 0 I L) (zW_X8 rfl) rfl rfl lm_X8_74 q2_X8_finding q3_X8_finding q4_X8 q5_X8_finding qd_X8_finding (by decide) rfl rfl (Nat.le_of_ble_eq_true rfl) ⟨Nat.zero_le _, Nat.zero_le _⟩ dX8_copies_12 (zr_kiI (fun o10 => ?_))
    refine zr_i2l hB dX8_copies_15 ?_
    exact zr_lret hB rfl rfl dX8_copies_16

def gX8_all_22 (n : Nat) (a1 : Int32) (a2 : Int32) (I : zI) (s3 : Int64 × Int32) : Option ((Int64 × Int32) ⊕ ((Int64 × zI) ⊕ (Int64))) :=
  if a2 < s3.2 then
    some (.inr (.inr s3.1))
  else
  zb (fX8_power n a1 s3.2) fun o13 =>
  if (lg_cmp o13 0) < 0 then
    zb (fX8_finding 6 I) fun o16 =>
    some (.inr (.inl (o16.1.toInt64, o16.2)))
  else
  if (lg_cmp o13 (4000000000000000000 - s3.1)) ≤ 0 then
    zl (s3.1 + o13) fun v17 =>
    zl (s3.2 + 1) fun v18 =>
    some (.inl (v17, v18))
  else
  zb (fX8_finding 6 I) fun o21 =>
  some (.inr (.inl (o21.1.toInt64, o21.2)))
def fX8_all (n : Nat) (a1 : Int32) (a2 : Int32) (I : zI) : Option (Int64 × zI) :=
  zb (fX8_isHouses a1 a2 62) fun o2 =>
  if o2 = 0 then
    zb (fX8_finding 0 I) fun o24 =>
    some (o24.1.toInt64, o24.2)
  else
  zbs (zit (gX8_all_22 n a1 a2 I) n (0, 0)) fun x4 : Int64 =>
  some (x4, I)
set_option maxHeartbeats 4000000 in
set_option maxRecDepth 100000 in
theorem mX8_all {l : Launch} {D : va_G} {T : zT} {ad sK sV : Nat → Nat} (hi : zInj ad) (n : Nat) (a1 : Int32) (a2 : Int32)  (I : zI) (L : zL) : ∀ o, fX8_all n a1 a2 I = some o → zMet l yX8_all cX8_all 8 (some .long) 2 47 D T ad sK sV [.ref (ad 50), .int a1, .int a2] I L (em_lI L o) := by
  intro o ho
  refine zMet.of hi (by decide +kernel) (Nat.le_of_ble_eq_true rfl) (fun p e s m args below meth c hB => ?_)
  refine zr_top (emb := em_lI L) (t := fX8_all n a1 a2 I) ?_ ho
  unfold fX8_all
  refine zr_iload_n hB 1 rfl rfl dX8_all_0 ?_
  refine zr_iload_n hB 2 rfl rfl dX8_all_1 ?_
  refine zr_bipush (v := 62) hB (by decide) dX8_all_2 ?_
  refine zr_callS (st := []) (As := [.int a1, .int a2, .int 62]) (embc := em_i0 I L) hB (mX8_isHouses (sK := sK) (sV := sV) hi a1 a2 62 I L) lm_X8_211 q2_X8_isHouses q4_X8 q5_X8_isHouses qd_X8_isHouses (by decide) rfl rfl (Nat.le_of_ble_eq_true rfl) ⟨Nat.zero_le _, Nat.zero_le _⟩ dX8_all_4 (zr_ki0 (fun o2 => ?_))
  refine zr_ifne (tgt := 17) hB (by decide) dX8_all_7 ?_ ?_
  · refine zr_lconst (v := 0) hB (by decide) dX8_all_17 ?_
    refine zr_lstore_n (lv' := [(3, .long 0), (0, .ref (ad 50)), (1, .int a1), (2, .int a2)]) hB rfl (by decide) rfl dX8_all_18 ?_
    refine zr_iconst (v := 0) hB (by decide) dX8_all_19 ?_
    refine zr_istore (lv' := [(5, .int 0), (3, .long 0), (0, .ref (ad 50)), (1, .int a1), (2, .int a2)]) hB (by decide) rfl dX8_all_20 ?_
    refine zr_joins (pcJ := 73) (fun x4 : Int64 => [(3, .long x4)]) (fun _ => []) (fun x4 => I) (fun x4 => L) (fun x4 => ?_) (fun K10 hi8 hx9 => ?_)
    · refine zr_lload_n hB 0 rfl rfl dX8_all_73 ?_
      exact zr_lret hB rfl rfl dX8_all_74
    · refine zr_sub (lv' := (fun s3 : Int64 × Int32 => [(3, .long s3.1), (5, .int s3.2), (0, .ref (ad 50)), (1, .int a1), (2, .int a2)]) (0, 0)) [1, 0, 2, 3, 4] rfl (zr_loops (fun s3 : Int64 × Int32 => [(3, .long s3.1), (5, .int s3.2), (0, .ref (ad 50)), (1, .int a1), (2, .int a2)]) (fun s3 => I) (fun s3 => L) (fun x4 : Int64 => [(3, .long x4)]) (fun x4 => I) (fun x4 => L) hi8 hx9 (fun s3 K11 hc5 hi7 hx6 => ?_) n (0, 0))
      unfold gX8_all_22
      refine zr_iload hB 1 rfl dX8_all_22 ?_
      refine zr_iload_n hB 4 rfl rfl dX8_all_24 ?_
      refine zr_icmp_gt (tgt := 73) hB (by decide) dX8_all_25 ?_ ?_
      · exact zr_sub [0] rfl (hx6 s3.1)
      · refine zr_iload_n hB 3 rfl rfl dX8_all_28 ?_
        refine zr_iload hB 1 rfl dX8_all_29 ?_
        refine zr_callS (st := []) (As := [.int a1, .int s3.2]) (embc := em_l0 I L) hB (mX8_power (sK := sK) (sV := sV) hi n a1 s3.2 I L) lm_X8_214 q2_X8_power q4_X8 q5_X8_power qd_X8_power (by decide) rfl rfl (Nat.le_of_ble_eq_true rfl) ⟨Nat.zero_le _, Nat.zero_le _⟩ dX8_all_31 (zr_kl0 (fun o13 => ?_))
        refine zr_lstore (lv' := [(6, .long o13), (3, .long s3.1), (5, .int s3.2), (0, .ref (ad 50)), (1, .int a1), (2, .int a2)]) hB (by decide) rfl dX8_all_34 ?_
        refine zr_lload hB 0 rfl dX8_all_36 ?_
        refine zr_lconst (v := 0) hB (by decide) dX8_all_38 ?_
        refine zr_lcmp hB dX8_all_39 ?_
        refine zr_iflt (tgt := 54) hB (by decide) dX8_all_40 ?_ ?_
        · refine zr_aload_n hB 3 rfl rfl dX8_all_54 ?_
          refine zr_bipush (v := 6) hB (by decide) dX8_all_55 ?_
          refine zr_callV (st := []) (C := RX8) (As := [.int 6]) (embc := em_iI L) hB (mX8_finding (sK := sK) (sV := sV) hi 6 I L) (zW_X8 rfl) rfl rfl lm_X8_74 q2_X8_finding q3_X8_finding q4_X8 q5_X8_finding qd_X8_finding (by decide) rfl rfl (Nat.le_of_ble_eq_true rfl) ⟨Nat.zero_le _, Nat.zero_le _⟩ dX8_all_57 (zr_kiI (fun o16 => ?_))
          refine zr_i2l hB dX8_all_60 ?_
          refine hi7 _ _ _ _ _ _ ?_
          exact zr_lret hB rfl rfl dX8_all_61
        · refine zr_lload hB 0 rfl dX8_all_43 ?_
          refine zr_ldc2 (v := 4000000000000000000) hB lj_X8_205 dX8_all_45 ?_
          refine zr_lload_n hB 1 rfl rfl dX8_all_48 ?_
          refine zr_lsub hB dX8_all_49 ?_
          refine zr_lcmp hB dX8_all_50 ?_
          refine zr_ifle (tgt := 62) hB (by decide) dX8_all_51 ?_ ?_
          · refine zr_lload_n hB 1 rfl rfl dX8_all_62 ?_
            refine zr_lload hB 0 rfl dX8_all_63 ?_
            refine zr_ladd hB dX8_all_65 ?_
            refine zr_letL (fun v17 => ?_)
            refine zr_lstore_n (lv' := [(3, .long v17), (6, .long o13), (5, .int s3.2), (0, .ref (ad 50)), (1, .int a1), (2, .int a2)]) hB rfl (by decide) rfl dX8_all_66 ?_
            refine zr_iincL hB (j := 2) (n := 1) (w := 1) rfl (by decide) (by decide) dX8_all_67 (fun v18 lv' hlv => ?_)
            obtain rfl : lv' = [(5, .int v18), (3, .long v17), (6, .long o13), (0, .ref (ad 50)), (1, .int a1), (2, .int a2)] := hlv.symm.trans rfl
            refine zr_goto (tgt := 22) hB (by decide) dX8_all_70 ?_
            exact zr_sub [1, 0, 3, 4, 5] rfl (hc5 (v17, v18))
          · refine zr_aload_n hB 3 rfl rfl dX8_all_54 ?_
            refine zr_bipush (v := 6) hB (by decide) dX8_all_55 ?_
            refine zr_callV (st := []) (C := RX8) (As := [.int 6]) (embc := em_iI L) hB (mX8_finding (sK := sK) (sV := sV) hi 6 I L) (zW_X8 rfl) rfl rfl lm_X8_74 q2_X8_finding q3_X8_finding q4_X8 q5_X8_finding qd_X8_finding (by decide) rfl rfl (Nat.le_of_ble_eq_true rfl) ⟨Nat.zero_le _, Nat.zero_le _⟩ dX8_all_57 (zr_kiI (fun o21 => ?_))
            refine zr_i2l hB dX8_all_60 ?_
            refine hi7 _ _ _ _ _ _ ?_
            exact zr_lret hB rfl rfl dX8_all_61
  · refine zr_aload_n hB 0 rfl rfl dX8_all_10 ?_
    refine zr_iconst (v := 0) hB (by decide) dX8_all_11 ?_
    refine zr_callV (st := []) (C := RX8) (As := [.int 0]) (embc := em_iI L) hB (mX8_finding (sK := sK) (sV := sV) hi 0 I L) (zW_X8 rfl) rfl rfl lm_X8_74 q2_X8_finding q3_X8_finding q4_X8 q5_X8_finding qd_X8_finding (by decide) rfl rfl (Nat.le_of_ble_eq_true rfl) ⟨Nat.zero_le _, Nat.zero_le _⟩ dX8_all_12 (zr_kiI (fun o24 => ?_))
    refine zr_i2l hB dX8_all_15 ?_
    exact zr_lret hB rfl rfl dX8_all_16

def gX8_divisor_6  (s1 : Int64 × Int64) : Option ((Int64 × Int64) ⊕ (Int64)) :=
  if (lg_cmp s1.2 0) = 0 then
    some (.inr s1.1)
  else
  zdL s1.2 (
  zl (zremL s1.1 s1.2) fun v10 =>
  some (.inl (s1.2, v10)))
def fX8_divisor (n : Nat) (a1 : Int64) (a2 : Int64) : Option (Int64) :=
  zb (zit gX8_divisor_6 n (a1, a2)) fun x2 : Int64 =>
  some x2
set_option maxHeartbeats 4000000 in
set_option maxRecDepth 100000 in
theorem mX8_divisor {l : Launch} {D : va_G} {T : zT} {ad sK sV : Nat → Nat} (hi : zInj ad) (n : Nat) (a1 : Int64) (a2 : Int64)  (I : zI) (L : zL) : ∀ o, fX8_divisor n a1 a2 = some o → zMet l yX8_divisor cX8_divisor 10 (some .long) 0 0 D T ad sK sV [.long a1, .long a2] I L (em_l0 I L o) := by
  intro o ho
  refine zMet.of hi (by decide +kernel) (Nat.le_of_ble_eq_true rfl) (fun p e s m args below meth c hB => ?_)
  refine zr_top (emb := em_l0 I L) (t := fX8_divisor n a1 a2) ?_ ho
  unfold fX8_divisor
  refine zr_lload_n hB 0 rfl rfl dX8_divisor_0 ?_
  refine zr_lstore (lv' := [(4, .long a1), (0, .long a1), (2, .long a2)]) hB (by decide) rfl dX8_divisor_1 ?_
  refine zr_lload_n hB 2 rfl rfl dX8_divisor_3 ?_
  refine zr_lstore (lv' := [(6, .long a2), (4, .long a1), (0, .long a1), (2, .long a2)]) hB (by decide) rfl dX8_divisor_4 ?_
  refine zr_join (pcJ := 31) (fun x2 : Int64 => [(4, .long x2)]) (fun _ => []) (fun x2 => I) (fun x2 => L) (fun x2 => ?_) (fun K8 hx7 => ?_)
  · refine zr_lload hB 0 rfl dX8_divisor_31 ?_
    exact zr_lret hB rfl rfl dX8_divisor_33
  · refine zr_sub (lv' := (fun s1 : Int64 × Int64 => [(4, .long s1.1), (6, .long s1.2)]) (a1, a2)) [1, 0] rfl (zr_loop (fun s1 : Int64 × Int64 => [(4, .long s1.1), (6, .long s1.2)]) (fun s1 => I) (fun s1 => L) (fun x2 : Int64 => [(4, .long x2)]) (fun x2 => I) (fun x2 => L) hx7 (fun s1 K9 hc3 hx4 => ?_) n (a1, a2))
    unfold gX8_divisor_6
    refine zr_lload hB 1 rfl dX8_divisor_6 ?_
    refine zr_lconst (v := 0) hB (by decide) dX8_divisor_8 ?_
    refine zr_lcmp hB dX8_divisor_9 ?_
    refine zr_ifeq (tgt := 31) hB (by decide) dX8_divisor_10 ?_ ?_
    · exact zr_sub [0] rfl (hx4 s1.1)
    · refine zr_lload hB 0 rfl dX8_divisor_13 ?_
      refine zr_lload hB 1 rfl dX8_divisor_15 ?_
      refine zr_lrem hB dX8_divisor_17 ?_
      refine zr_letL (fun v10 => ?_)
      refine zr_lstore (lv' := [(8, .long v10), (4, .long s1.1), (6, .long s1.2)]) hB (by decide) rfl dX8_divisor_18 ?_
      refine zr_lload hB 2 rfl dX8_divisor_20 ?_
      refine zr_lstore (lv' := [(4, .long s1.2), (8, .long v10), (6, .long s1.2)]) hB (by decide) rfl dX8_divisor_22 ?_
      refine zr_lload hB 1 rfl dX8_divisor_24 ?_
      refine zr_lstore (lv' := [(6, .long v10), (4, .long s1.2), (8, .long v10)]) hB (by decide) rfl dX8_divisor_26 ?_
      refine zr_goto (tgt := 6) hB (by decide) dX8_divisor_28 ?_
      exact zr_sub [1, 0] rfl (hc3 (s1.2, v10))

def gX8_weight_36 (n : Nat) (a1 : Int32) (a2 : Int32) (I : zI) (s8 : Int64 × Int64 × Int32) : Option ((Int64 × Int64 × Int32) ⊕ ((Int64 × zI) ⊕ (Int64 × Int64))) :=
  if a2 < s8.2.2 then
    some (.inr (.inr (s8.1, s8.2.1)))
  else
  zl ((s8.1 * a1.toInt64) + (2 * s8.2.1)) fun v17 =>
  zl (2 * s8.2.1) fun v18 =>
  zb (fX8_divisor n v17 v18) fun o20 =>
  zdL o20 (
  zl (v17 / o20) fun v21 =>
  zdL o20 (
  zl (v18 / o20) fun v22 =>
  if 0 < (lg_cmp v21 1000000000000) then
    zb (fX8_finding 6 I) fun o25 =>
    some (.inr (.inl (o25.1.toInt64, o25.2)))
  else
  if (lg_cmp v22 1000000000000) ≤ 0 then
    zl (s8.2.2 + 1) fun v26 =>
    some (.inl (v21, v22, v26))
  else
  zb (fX8_finding 6 I) fun o29 =>
  some (.inr (.inl (o29.1.toInt64, o29.2)))))
def fX8_weight (n : Nat) (a1 : Int32) (a2 : Int32) (a3 : Int32) (I : zI) : Option (Int64 × zI) :=
  zb (fX8_isHouses a1 a2 30) fun o2 =>
  if o2 = 0 then
    zb (fX8_finding 0 I) fun o5 =>
    some (o5.1.toInt64, o5.2)
  else
  zb (fX8_within a3.toInt64 0 1) fun o7 =>
  if o7 = 0 then
    zb (fX8_finding 0 I) fun o32 =>
    some (o32.1.toInt64, o32.2)
  else
  zbs (zit (gX8_weight_36 n a1 a2 I) n (1, 1, 1)) fun x9 : Int64 × Int64 =>
  if a3 = 0 then
    some (x9.1, I)
  else
  some (x9.2, I)
set_option maxHeartbeats 4000000 in
set_option maxRecDepth 100000 in
theorem mX8_weight {l : Launch} {D : va_G} {T : zT} {ad sK sV : Nat → Nat} (hi : zInj ad) (n : Nat) (a1 : Int32) (a2 : Int32) (a3 : Int32)  (I : zI) (L : zL) : ∀ o, fX8_weight n a1 a2 a3 I = some o → zMet l yX8_weight cX8_weight 15 (some .long) 2 47 D T ad sK sV [.ref (ad 50), .int a1, .int a2, .int a3] I L (em_lI L o) := by
  intro o ho
  refine zMet.of hi (by decide +kernel) (Nat.le_of_ble_eq_true rfl) (fun p e s m args below meth c hB => ?_)
  refine zr_top (emb := em_lI L) (t := fX8_weight n a1 a2 a3 I) ?_ ho
  unfold fX8_weight
  refine zr_iload_n hB 1 rfl rfl dX8_weight_0 ?_
  refine zr_iload_n hB 2 rfl rfl dX8_weight_1 ?_
  refine zr_bipush (v := 30) hB (by decide) dX8_weight_2 ?_
  refine zr_callS (st := []) (As := [.int a1, .int a2, .int 30]) (embc := em_i0 I L) hB (mX8_isHouses (sK := sK) (sV := sV) hi a1 a2 30 I L) lm_X8_211 q2_X8_isHouses q4_X8 q5_X8_isHouses qd_X8_isHouses (by decide) rfl rfl (Nat.le_of_ble_eq_true rfl) ⟨Nat.zero_le _, Nat.zero_le _⟩ dX8_weight_4 (zr_ki0 (fun o2 => ?_))
  refine zr_ifeq (tgt := 20) hB (by decide) dX8_weight_7 ?_ ?_
  · refine zr_aload_n hB 0 rfl rfl dX8_weight_20 ?_
    refine zr_iconst (v := 0) hB (by decide) dX8_weight_21 ?_
    refine zr_callV (st := []) (C := RX8) (As := [.int 0]) (embc := em_iI L) hB (mX8_finding (sK := sK) (sV := sV) hi 0 I L) (zW_X8 rfl) rfl rfl lm_X8_74 q2_X8_finding q3_X8_finding q4_X8 q5_X8_finding qd_X8_finding (by decide) rfl rfl (Nat.le_of_ble_eq_true rfl) ⟨Nat.zero_le _, Nat.zero_le _⟩ dX8_weight_22 (zr_kiI (fun o5 => ?_))
    refine zr_i2l hB dX8_weight_25 ?_
    exact zr_lret hB rfl rfl dX8_weight_26
  · refine zr_iload_n hB 3 rfl rfl dX8_weight_10 ?_
    refine zr_i2l hB dX8_weight_11 ?_
    refine zr_lconst (v := 0) hB (by decide) dX8_weight_12 ?_
    refine zr_lconst (v := 1) hB (by decide) dX8_weight_13 ?_
    refine zr_callS (st := []) (As := [.long a3.toInt64, .long 0, .long 1]) (embc := em_i0 I L) hB (mX8_within (sK := sK) (sV := sV) hi a3.toInt64 0 1 I L) lm_X8_54 q2_X8_within q4_X8 q5_X8_within qd_X8_within (by decide) rfl rfl (Nat.le_of_ble_eq_true rfl) ⟨Nat.zero_le _, Nat.zero_le _⟩ dX8_weight_14 (zr_ki0 (fun o7 => ?_))
    refine zr_ifne (tgt := 27) hB (by decide) dX8_weight_17 ?_ ?_
    · refine zr_lconst (v := 1) hB (by decide) dX8_weight_27 ?_
      refine zr_lstore (lv' := [(4, .long 1), (0, .ref (ad 50)), (1, .int a1), (2, .int a2), (3, .int a3)]) hB (by decide) rfl dX8_weight_28 ?_
      refine zr_lconst (v := 1) hB (by decide) dX8_weight_30 ?_
      refine zr_lstore (lv' := [(6, .long 1), (4, .long 1), (0, .ref (ad 50)), (1, .int a1), (2, .int a2), (3, .int a3)]) hB (by decide) rfl dX8_weight_31 ?_
      refine zr_iconst (v := 1) hB (by decide) dX8_weight_33 ?_
      refine zr_istore (lv' := [(8, .int 1), (6, .long 1), (4, .long 1), (0, .ref (ad 50)), (1, .int a1), (2, .int a2), (3, .int a3)]) hB (by decide) rfl dX8_weight_34 ?_
      refine zr_joins (pcJ := 119) (fun x9 : Int64 × Int64 => [(4, .long x9.1), (6, .long x9.2), (3, .int a3)]) (fun _ => []) (fun x9 => I) (fun x9 => L) (fun x9 => ?_) (fun K15 hi13 hx14 => ?_)
      · refine zr_iload_n hB 2 rfl rfl dX8_weight_119 ?_
        refine zr_ifne (tgt := 128) hB (by decide) dX8_weight_120 ?_ ?_
        · refine zr_lload hB 1 rfl dX8_weight_128 ?_
          exact zr_lret hB rfl rfl dX8_weight_130
        · refine zr_lload hB 0 rfl dX8_weight_123 ?_
          refine zr_goto (tgt := 130) hB (by decide) dX8_weight_125 ?_
          exact zr_lret hB rfl rfl dX8_weight_130
      · refine zr_sub (lv' := (fun s8 : Int64 × Int64 × Int32 => [(4, .long s8.1), (6, .long s8.2.1), (8, .int s8.2.2), (0, .ref (ad 50)), (1, .int a1), (2, .int a2), (3, .int a3)]) (1, 1, 1)) [2, 1, 0, 3, 4, 5, 6] rfl (zr_loops (fun s8 : Int64 × Int64 × Int32 => [(4, .long s8.1), (6, .long s8.2.1), (8, .int s8.2.2), (0, .ref (ad 50)), (1, .int a1), (2, .int a2), (3, .int a3)]) (fun s8 => I) (fun s8 => L) (fun x9 : Int64 × Int64 => [(4, .long x9.1), (6, .long x9.2), (3, .int a3)]) (fun x9 => I) (fun x9 => L) hi13 hx14 (fun s8 K16 hc10 hi12 hx11 => ?_) n (1, 1, 1))
        unfold gX8_weight_36
        refine zr_iload hB 2 rfl dX8_weight_36 ?_
        refine zr_iload_n hB 5 rfl rfl dX8_weight_38 ?_
        refine zr_icmp_gt (tgt := 119) hB (by decide) dX8_weight_39 ?_ ?_
        · exact zr_sub [0, 1, 6] rfl (hx11 (s8.1, s8.2.1))
        · refine zr_lload hB 0 rfl dX8_weight_42 ?_
          refine zr_iload_n hB 4 rfl rfl dX8_weight_44 ?_
          refine zr_i2l hB dX8_weight_45 ?_
          refine zr_lmul hB dX8_weight_46 ?_
          refine zr_ldc2 (v := 2) hB lj_X8_218 dX8_weight_47 ?_
          refine zr_lload hB 1 rfl dX8_weight_50 ?_
          refine zr_lmul hB dX8_weight_52 ?_
          refine zr_ladd hB dX8_weight_53 ?_
          refine zr_letL (fun v17 => ?_)
          refine zr_lstore (lv' := [(9, .long v17), (4, .long s8.1), (6, .long s8.2.1), (8, .int s8.2.2), (0, .ref (ad 50)), (1, .int a1), (2, .int a2), (3, .int a3)]) hB (by decide) rfl dX8_weight_54 ?_
          refine zr_ldc2 (v := 2) hB lj_X8_218 dX8_weight_56 ?_
          refine zr_lload hB 2 rfl dX8_weight_59 ?_
          refine zr_lmul hB dX8_weight_61 ?_
          refine zr_letL (fun v18 => ?_)
          refine zr_lstore (lv' := [(11, .long v18), (9, .long v17), (4, .long s8.1), (6, .long s8.2.1), (8, .int s8.2.2), (0, .ref (ad 50)), (1, .int a1), (2, .int a2), (3, .int a3)]) hB (by decide) rfl dX8_weight_62 ?_
          refine zr_lload hB 1 rfl dX8_weight_64 ?_
          refine zr_lload hB 0 rfl dX8_weight_66 ?_
          refine zr_callS (st := []) (As := [.long v17, .long v18]) (embc := em_l0 I L) hB (mX8_divisor (sK := sK) (sV := sV) hi n v17 v18 I L) lm_X8_220 q2_X8_divisor q4_X8 q5_X8_divisor qd_X8_divisor (by decide) rfl rfl (Nat.le_of_ble_eq_true rfl) ⟨Nat.zero_le _, Nat.zero_le _⟩ dX8_weight_68 (zr_kl0 (fun o20 => ?_))
          refine zr_lstore (lv' := [(13, .long o20), (11, .long v18), (9, .long v17), (4, .long s8.1), (6, .long s8.2.1), (8, .int s8.2.2), (0, .ref (ad 50)), (1, .int a1), (2, .int a2), (3, .int a3)]) hB (by decide) rfl dX8_weight_71 ?_
          refine zr_lload hB 2 rfl dX8_weight_73 ?_
          refine zr_lload hB 0 rfl dX8_weight_75 ?_
          refine zr_ldiv hB dX8_weight_77 ?_
          refine zr_letL (fun v21 => ?_)
          refine zr_lstore (lv' := [(4, .long v21), (13, .long o20), (11, .long v18), (9, .long v17), (6, .long s8.2.1), (8, .int s8.2.2), (0, .ref (ad 50)), (1, .int a1), (2, .int a2), (3, .int a3)]) hB (by decide) rfl dX8_weight_78 ?_
          refine zr_lload hB 2 rfl dX8_weight_80 ?_
          refine zr_lload hB 1 rfl dX8_weight_82 ?_
          refine zr_ldiv hB dX8_weight_84 ?_
          refine zr_letL (fun v22 => ?_)
          refine zr_lstore (lv' := [(6, .long v22), (4, .long v21), (13, .long o20), (11, .long v18), (9, .long v17), (8, .int s8.2.2), (0, .ref (ad 50)), (1, .int a1), (2, .int a2), (3, .int a3)]) hB (by decide) rfl dX8_weight_85 ?_
          refine zr_lload hB 1 rfl dX8_weight_87 ?_
          refine zr_ldc2 (v := 1000000000000) hB lj_X8_224 dX8_weight_89 ?_
          refine zr_lcmp hB dX8_weight_92 ?_
          refine zr_ifgt (tgt := 105) hB (by decide) dX8_weight_93 ?_ ?_
          · refine zr_aload_n hB 6 rfl rfl dX8_weight_105 ?_
            refine zr_bipush (v := 6) hB (by decide) dX8_weight_106 ?_
            refine zr_callV (st := []) (C := RX8) (As := [.int 6]) (embc := em_iI L) hB (mX8_finding (sK := sK) (sV := sV) hi 6 I L) (zW_X8 rfl) rfl rfl lm_X8_74 q2_X8_finding q3_X8_finding q4_X8 q5_X8_finding qd_X8_finding (by decide) rfl rfl (Nat.le_of_ble_eq_true rfl) ⟨Nat.zero_le _, Nat.zero_le _⟩ dX8_weight_108 (zr_kiI (fun o25 => ?_))
            refine zr_i2l hB dX8_weight_111 ?_
            refine hi12 _ _ _ _ _ _ ?_
            exact zr_lret hB rfl rfl dX8_weight_112
          · refine zr_lload hB 0 rfl dX8_weight_96 ?_
            refine zr_ldc2 (v := 1000000000000) hB lj_X8_224 dX8_weight_98 ?_
            refine zr_lcmp hB dX8_weight_101 ?_
            refine zr_ifle (tgt := 113) hB (by decide) dX8_weight_102 ?_ ?_
            · refine zr_iincL hB (j := 5) (n := 1) (w := 1) rfl (by decide) (by decide) dX8_weight_113 (fun v26 lv' hlv => ?_)
              obtain rfl : lv' = [(8, .int v26), (6, .long v22), (4, .long v21), (13, .long o20), (11, .long v18), (9, .long v17), (0, .ref (ad 50)), (1, .int a1), (2, .int a2), (3, .int a3)] := hlv.symm.trans rfl
              refine zr_goto (tgt := 36) hB (by decide) dX8_weight_116 ?_
              exact zr_sub [2, 1, 0, 6, 7, 8, 9] rfl (hc10 (v21, v22, v26))
            · refine zr_aload_n hB 6 rfl rfl dX8_weight_105 ?_
              refine zr_bipush (v := 6) hB (by decide) dX8_weight_106 ?_
              refine zr_callV (st := []) (C := RX8) (As := [.int 6]) (embc := em_iI L) hB (mX8_finding (sK := sK) (sV := sV) hi 6 I L) (zW_X8 rfl) rfl rfl lm_X8_74 q2_X8_finding q3_X8_finding q4_X8 q5_X8_finding qd_X8_finding (by decide) rfl rfl (Nat.le_of_ble_eq_true rfl) ⟨Nat.zero_le _, Nat.zero_le _⟩ dX8_weight_108 (zr_kiI (fun o29 => ?_))
              refine zr_i2l hB dX8_weight_111 ?_
              refine hi12 _ _ _ _ _ _ ?_
              exact zr_lret hB rfl rfl dX8_weight_112
    · refine zr_aload_n hB 0 rfl rfl dX8_weight_20 ?_
      refine zr_iconst (v := 0) hB (by decide) dX8_weight_21 ?_
      refine zr_callV (st := []) (C := RX8) (As := [.int 0]) (embc := em_iI L) hB (mX8_finding (sK := sK) (sV := sV) hi 0 I L) (zW_X8 rfl) rfl rfl lm_X8_74 q2_X8_finding q3_X8_finding q4_X8 q5_X8_finding qd_X8_finding (by decide) rfl rfl (Nat.le_of_ble_eq_true rfl) ⟨Nat.zero_le _, Nat.zero_le _⟩ dX8_weight_22 (zr_kiI (fun o32 => ?_))
      refine zr_i2l hB dX8_weight_25 ?_
      exact zr_lret hB rfl rfl dX8_weight_26

def gX8_deep_32 (n : Nat) (a1 : Int32) (a2 : Int32) (s8 : Int32) : Option ((Int32) ⊕ (Int32)) :=
  if 62 < s8 then
    some (.inr s8)
  else
  zb (fX8_power n a1 s8) fun o18 =>
  if (lg_cmp o18 0) < 0 then
    some (.inr s8)
  else
  zb (fX8_power n a1 s8) fun o20 =>
  if 0 ≤ (lg_cmp o20 a2.toInt64) then
    some (.inr s8)
  else
  zl (s8 + 1) fun v21 =>
  some (.inl v21)
def fX8_deep (n : Nat) (a1 : Int32) (a2 : Int32) (I : zI) : Option (Int32 × zI) :=
  zb (fX8_within a1.toInt64 1 9) fun o2 =>
  if o2 = 0 then
    zb (fX8_finding 0 I) fun o5 =>
    some (o5.1, o5.2)
  else
  zb (fX8_within a2.toInt64 1 2000000000) fun o7 =>
  if o7 = 0 then
    zb (fX8_finding 0 I) fun o27 =>
    some (o27.1, o27.2)
  else
  zb (zit (gX8_deep_32 n a1 a2) n 0) fun x9 : Int32 =>
  if 62 < x9 then
    zb (fX8_finding 3 I) fun o24 =>
    some (o24.1, o24.2)
  else
  some (x9, I)
set_option maxHeartbeats 4000000 in
set_option maxRecDepth 100000 in
theorem mX8_deep {l : Launch} {D : va_G} {T : zT} {ad sK sV : Nat → Nat} (hi : zInj ad) (n : Nat) (a1 : Int32) (a2 : Int32)  (I : zI) (L : zL) : ∀ o, fX8_deep n a1 a2 I = some o → zMet l yX8_deep cX8_deep 4 (some .int) 1 25 D T ad sK sV [.ref (ad 50), .int a1, .int a2] I L (em_iI L o) := by
  intro o ho
  refine zMet.of hi (by decide +kernel) (Nat.le_of_ble_eq_true rfl) (fun p e s m args below meth c hB => ?_)
  refine zr_top (emb := em_iI L) (t := fX8_deep n a1 a2 I) ?_ ho
  unfold fX8_deep
  refine zr_iload_n hB 1 rfl rfl dX8_deep_0 ?_
  refine zr_i2l hB dX8_deep_1 ?_
  refine zr_lconst (v := 1) hB (by decide) dX8_deep_2 ?_
  refine zr_ldc2 (v := 9) hB lj_X8_209 dX8_deep_3 ?_
  refine zr_callS (st := []) (As := [.long a1.toInt64, .long 1, .long 9]) (embc := em_i0 I L) hB (mX8_within (sK := sK) (sV := sV) hi a1.toInt64 1 9 I L) lm_X8_54 q2_X8_within q4_X8 q5_X8_within qd_X8_within (by decide) rfl rfl (Nat.le_of_ble_eq_true rfl) ⟨Nat.zero_le _, Nat.zero_le _⟩ dX8_deep_6 (zr_ki0 (fun o2 => ?_))
  refine zr_ifeq (tgt := 24) hB (by decide) dX8_deep_9 ?_ ?_
  · refine zr_aload_n hB 0 rfl rfl dX8_deep_24 ?_
    refine zr_iconst (v := 0) hB (by decide) dX8_deep_25 ?_
    refine zr_callV (st := []) (C := RX8) (As := [.int 0]) (embc := em_iI L) hB (mX8_finding (sK := sK) (sV := sV) hi 0 I L) (zW_X8 rfl) rfl rfl lm_X8_74 q2_X8_finding q3_X8_finding q4_X8 q5_X8_finding qd_X8_finding (by decide) rfl rfl (Nat.le_of_ble_eq_true rfl) ⟨Nat.zero_le _, Nat.zero_le _⟩ dX8_deep_26 (zr_kiI (fun o5 => ?_))
    exact zr_iret hB rfl rfl dX8_deep_29
  · refine zr_iload_n hB 2 rfl rfl dX8_deep_12 ?_
    refine zr_i2l hB dX8_deep_13 ?_
    refine zr_lconst (v := 1) hB (by decide) dX8_deep_14 ?_
    refine zr_ldc2 (v := 2000000000) hB lj_X8_226 dX8_deep_15 ?_
    refine zr_callS (st := []) (As := [.long a2.toInt64, .long 1, .long 2000000000]) (embc := em_i0 I L) hB (mX8_within (sK := sK) (sV := sV) hi a2.toInt64 1 2000000000 I L) lm_X8_54 q2_X8_within q4_X8 q5_X8_within qd_X8_within (by decide) rfl rfl (Nat.le_of_ble_eq_true rfl) ⟨Nat.zero_le _, Nat.zero_le _⟩ dX8_deep_18 (zr_ki0 (fun o7 => ?_))
    refine zr_ifne (tgt := 30) hB (by decide) dX8_deep_21 ?_ ?_
    · refine zr_iconst (v := 0) hB (by decide) dX8_deep_30 ?_
      refine zr_istore_n (lv' := [(3, .int 0), (0, .ref (ad 50)), (1, .int a1), (2, .int a2)]) hB rfl (by decide) rfl dX8_deep_31 ?_
      refine zr_join (pcJ := 65) (fun x9 : Int32 => [(3, .int x9), (0, .ref (ad 50))]) (fun _ => []) (fun x9 => I) (fun x9 => L) (fun x9 => ?_) (fun K15 hx14 => ?_)
      · refine zr_iload_n hB 0 rfl rfl dX8_deep_65 ?_
        refine zr_bipush (v := 62) hB (by decide) dX8_deep_66 ?_
        refine zr_icmp_gt (tgt := 75) hB (by decide) dX8_deep_68 ?_ ?_
        · refine zr_aload_n hB 1 rfl rfl dX8_deep_75 ?_
          refine zr_iconst (v := 3) hB (by decide) dX8_deep_76 ?_
          refine zr_callV (st := []) (C := RX8) (As := [.int 3]) (embc := em_iI L) hB (mX8_finding (sK := sK) (sV := sV) hi 3 I L) (zW_X8 rfl) rfl rfl lm_X8_74 q2_X8_finding q3_X8_finding q4_X8 q5_X8_finding qd_X8_finding (by decide) rfl rfl (Nat.le_of_ble_eq_true rfl) ⟨Nat.zero_le _, Nat.zero_le _⟩ dX8_deep_77 (zr_kiI (fun o24 => ?_))
          exact zr_iret hB rfl rfl dX8_deep_80
        · refine zr_iload_n hB 0 rfl rfl dX8_deep_71 ?_
          refine zr_goto (tgt := 80) hB (by decide) dX8_deep_72 ?_
          exact zr_iret hB rfl rfl dX8_deep_80
      · refine zr_sub (lv' := (fun s8 : Int32 => [(3, .int s8), (0, .ref (ad 50)), (1, .int a1), (2, .int a2)]) 0) [0, 1, 2, 3] rfl (zr_loop (fun s8 : Int32 => [(3, .int s8), (0, .ref (ad 50)), (1, .int a1), (2, .int a2)]) (fun s8 => I) (fun s8 => L) (fun x9 : Int32 => [(3, .int x9), (0, .ref (ad 50))]) (fun x9 => I) (fun x9 => L) hx14 (fun s8 K16 hc10 hx11 => ?_) n 0)
        unfold gX8_deep_32
        refine zr_iload_n hB 0 rfl rfl dX8_deep_32 ?_
        refine zr_bipush (v := 62) hB (by decide) dX8_deep_33 ?_
        refine zr_icmp_gt (tgt := 65) hB (by decide) dX8_deep_35 ?_ ?_
        · exact zr_sub [0, 1] rfl (hx11 s8)
        · refine zr_iload_n hB 2 rfl rfl dX8_deep_38 ?_
          refine zr_iload_n hB 0 rfl rfl dX8_deep_39 ?_
          refine zr_callS (st := []) (As := [.int a1, .int s8]) (embc := em_l0 I L) hB (mX8_power (sK := sK) (sV := sV) hi n a1 s8 I L) lm_X8_214 q2_X8_power q4_X8 q5_X8_power qd_X8_power (by decide) rfl rfl (Nat.le_of_ble_eq_true rfl) ⟨Nat.zero_le _, Nat.zero_le _⟩ dX8_deep_40 (zr_kl0 (fun o18 => ?_))
          refine zr_lconst (v := 0) hB (by decide) dX8_deep_43 ?_
          refine zr_lcmp hB dX8_deep_44 ?_
          refine zr_iflt (tgt := 65) hB (by decide) dX8_deep_45 ?_ ?_
          · exact zr_sub [0, 1] rfl (hx11 s8)
          · refine zr_iload_n hB 2 rfl rfl dX8_deep_48 ?_
            refine zr_iload_n hB 0 rfl rfl dX8_deep_49 ?_
            refine zr_callS (st := []) (As := [.int a1, .int s8]) (embc := em_l0 I L) hB (mX8_power (sK := sK) (sV := sV) hi n a1 s8 I L) lm_X8_214 q2_X8_power q4_X8 q5_X8_power qd_X8_power (by decide) rfl rfl (Nat.le_of_ble_eq_true rfl) ⟨Nat.zero_le _, Nat.zero_le _⟩ dX8_deep_50 (zr_kl0 (fun o20 => ?_))
            refine zr_iload_n hB 3 rfl rfl dX8_deep_53 ?_
            refine zr_i2l hB dX8_deep_54 ?_
            refine zr_lcmp hB dX8_deep_55 ?_
            refine zr_ifge (tgt := 65) hB (by decide) dX8_deep_56 ?_ ?_
            · exact zr_sub [0, 1] rfl (hx11 s8)
            · refine zr_iincL hB (j := 0) (n := 1) (w := 1) rfl (by decide) (by decide) dX8_deep_59 (fun v21 lv' hlv => ?_)
              obtain rfl : lv' = [(3, .int v21), (0, .ref (ad 50)), (1, .int a1), (2, .int a2)] := hlv.symm.trans rfl
              refine zr_goto (tgt := 32) hB (by decide) dX8_deep_62 ?_
              exact zr_sub [0, 1, 2, 3] rfl (hc10 v21)
    · refine zr_aload_n hB 0 rfl rfl dX8_deep_24 ?_
      refine zr_iconst (v := 0) hB (by decide) dX8_deep_25 ?_
      refine zr_callV (st := []) (C := RX8) (As := [.int 0]) (embc := em_iI L) hB (mX8_finding (sK := sK) (sV := sV) hi 0 I L) (zW_X8 rfl) rfl rfl lm_X8_74 q2_X8_finding q3_X8_finding q4_X8 q5_X8_finding qd_X8_finding (by decide) rfl rfl (Nat.le_of_ble_eq_true rfl) ⟨Nat.zero_le _, Nat.zero_le _⟩ dX8_deep_26 (zr_kiI (fun o27 => ?_))
      exact zr_iret hB rfl rfl dX8_deep_29

def fX8_draw (I : zI) : Option (Int32 × zI) :=
  zg 16 120 (
  zg 16 120 (
  zl (zup I 51 (zn 16) (((I 51 (zn 16)) * 1103515245) + 12345)) fun J1 =>
  zg 16 120 (
  some (zushr (J1 51 (zn 16)) 8, J1))))
set_option maxHeartbeats 4000000 in
set_option maxRecDepth 100000 in
theorem mX8_draw {l : Launch} {D : va_G} {T : zT} {ad sK sV : Nat → Nat} (hi : zInj ad)   (I : zI) (L : zL) : ∀ o, fX8_draw I = some o → zMet l yX8_draw cX8_draw 1 (some .int) 0 0 D T ad sK sV [.ref (ad 50)] I L (em_iI L o) := by
  intro o ho
  refine zMet.of hi (by decide +kernel) (Nat.le_of_ble_eq_true rfl) (fun p e s m args below meth c hB => ?_)
  refine zr_top (emb := em_iI L) (t := fX8_draw I) ?_ ho
  unfold fX8_draw
  refine zr_aload_n hB 0 rfl rfl dX8_draw_0 ?_
  refine zr_get_X8 (w := 50) (k := 0) (v := .ref (ad 51)) hB rfl (by decide) rfl lf_X8_9 rfl dX8_draw_1 ?_
  refine zr_bipush (v := 16) hB (by decide) dX8_draw_4 ?_
  refine zr_aload_n hB 0 rfl rfl dX8_draw_6 ?_
  refine zr_get_X8 (w := 50) (k := 0) (v := .ref (ad 51)) hB rfl (by decide) rfl lf_X8_9 rfl dX8_draw_7 ?_
  refine zr_bipush (v := 16) hB (by decide) dX8_draw_10 ?_
  refine zr_iaload hB zA_51 dX8_draw_12 ?_
  refine zr_ldc (v := 1103515245) hB lk_X8_228 dX8_draw_13 ?_
  refine zr_imul hB dX8_draw_15 ?_
  refine zr_sipush (v := 12345) hB (by decide) dX8_draw_16 ?_
  refine zr_iadd hB dX8_draw_19 ?_
  refine zr_iastore hB zA_51 dX8_draw_20 ?_
  refine zr_letM (fun J1 => ?_)
  refine zr_aload_n hB 0 rfl rfl dX8_draw_21 ?_
  refine zr_get_X8 (w := 50) (k := 0) (v := .ref (ad 51)) hB rfl (by decide) rfl lf_X8_9 rfl dX8_draw_22 ?_
  refine zr_bipush (v := 16) hB (by decide) dX8_draw_25 ?_
  refine zr_iaload hB zA_51 dX8_draw_27 ?_
  refine zr_bipush (v := 8) hB (by decide) dX8_draw_28 ?_
  refine zr_iushr hB dX8_draw_30 ?_
  exact zr_iret hB rfl rfl dX8_draw_31

def fX8_dayOf (n : Nat) (a1 : Int32) (I : zI) : Option (zI) :=
  zb (fX8_draw I) fun o3 =>
  zl (zrem o3.1 8) fun v4 =>
  zb (fX8_canWalk a1 v4 o3.2) fun o6 =>
  zb (
    if o6 = 0 then
      some o3.2
    else
    zb (fX8_levelOf a1 o3.2) fun o12 =>
    zb (fX8_goes a1 o12 v4 o3.2) fun o15 =>
    some o15) fun x7 : zI =>
  zg 11 120 (
  if (x7 51 (zn 11)) = 0 then
    some x7
  else
  zb (fX8_isBefore a1 x7) fun o17 =>
  if o17 = 0 then
    some x7
  else
  zb (fX8_draw x7) fun o20 =>
  zg 11 120 (
  zd (o20.2 51 (zn 11)) (
  zl (zrem o20.1 (o20.2 51 (zn 11))) fun v21 =>
  zb (fX8_draw o20.2) fun o24 =>
  zl (zrem o24.1 8) fun v25 =>
  zb (fX8_draw o24.2) fun o28 =>
  zg 10 120 (
  zb (
    if (o28.2 51 (zn 10)) ≤ (zrem o28.1 100) then
      some v25
    else
    some (zrem (v25 + 1) 8)) fun x29 : Int32 =>
  zb (fX8_canReach a1 v21 x29 o28.2) fun o34 =>
  if o34 = 0 then
    some o28.2
  else
  zb (fX8_standing n x29 (-1) o28.2) fun o36 =>
  zb (fX8_brings n a1 v21 x29 o36 o28.2) fun o39 =>
  some o39.2))))
set_option maxHeartbeats 4000000 in
set_option maxRecDepth 100000 in
theorem mX8_dayOf {l : Launch} {D : va_G} {T : zT} {ad sK sV : Nat → Nat} (hi : zInj ad) (n : Nat) (a1 : Int32)  (I : zI) (L : zL) : ∀ o, fX8_dayOf n a1 I = some o → zMet l yX8_dayOf cX8_dayOf 6 none 3 68 D T ad sK sV [.ref (ad 50), .int a1] I L (em_vI L o) := by
  intro o ho
  refine zMet.of hi (by decide +kernel) (Nat.le_of_ble_eq_true rfl) (fun p e s m args below meth c hB => ?_)
  refine zr_top (emb := em_vI L) (t := fX8_dayOf n a1 I) ?_ ho
  unfold fX8_dayOf
  refine zr_aload_n hB 0 rfl rfl dX8_dayOf_0 ?_
  refine zr_callV (st := []) (C := RX8) (As := []) (embc := em_iI L) hB (mX8_draw (sK := sK) (sV := sV) hi  I L) (zW_X8 rfl) rfl rfl lm_X8_229 q2_X8_draw q3_X8_draw q4_X8 q5_X8_draw qd_X8_draw (by decide) rfl rfl (Nat.le_of_ble_eq_true rfl) ⟨Nat.zero_le _, Nat.zero_le _⟩ dX8_dayOf_1 (zr_kiI (fun o3 => ?_))
  refine zr_bipush (v := 8) hB (by decide) dX8_dayOf_4 ?_
  refine zr_iremC hB (by decide) dX8_dayOf_6 ?_
  refine zr_letI (fun v4 => ?_)
  refine zr_istore_n (lv' := [(2, .int v4), (0, .ref (ad 50)), (1, .int a1)]) hB rfl (by decide) rfl dX8_dayOf_7 ?_
  refine zr_aload_n hB 1 rfl rfl dX8_dayOf_8 ?_
  refine zr_iload_n hB 2 rfl rfl dX8_dayOf_9 ?_
  refine zr_iload_n hB 0 rfl rfl dX8_dayOf_10 ?_
  refine zr_callV (st := []) (C := RX8) (As := [.int a1, .int v4]) (embc := em_i0 o3.2 L) hB (mX8_canWalk (sK := sK) (sV := sV) hi a1 v4 o3.2 L) (zW_X8 rfl) rfl rfl lm_X8_112 q2_X8_canWalk q3_X8_canWalk q4_X8 q5_X8_canWalk qd_X8_canWalk (by decide) rfl rfl (Nat.le_of_ble_eq_true rfl) ⟨Nat.zero_le _, Nat.zero_le _⟩ dX8_dayOf_11 (zr_ki0 (fun o6 => ?_))
  refine zr_join (pcJ := 28) (fun x7 : zI => [(0, .ref (ad 50)), (1, .int a1)]) (fun x7 => []) (fun x7 => x7) (fun x7 => L) (fun x7 => ?_) (fun K10 hj8 => ?_)
  · refine zr_aload_n hB 0 rfl rfl dX8_dayOf_28 ?_
    refine zr_get_X8 (w := 50) (k := 0) (v := .ref (ad 51)) hB rfl (by decide) rfl lf_X8_9 rfl dX8_dayOf_29 ?_
    refine zr_bipush (v := 11) hB (by decide) dX8_dayOf_32 ?_
    refine zr_iaload hB zA_51 dX8_dayOf_34 ?_
    refine zr_ifeq (tgt := 46) hB (by decide) dX8_dayOf_35 ?_ ?_
    · exact zr_vret hB rfl rfl dX8_dayOf_46
    · refine zr_aload_n hB 0 rfl rfl dX8_dayOf_38 ?_
      refine zr_iload_n hB 1 rfl rfl dX8_dayOf_39 ?_
      refine zr_callV (st := []) (C := RX8) (As := [.int a1]) (embc := em_i0 x7 L) hB (mX8_isBefore (sK := sK) (sV := sV) hi a1 x7 L) (zW_X8 rfl) rfl rfl lm_X8_121 q2_X8_isBefore q3_X8_isBefore q4_X8 q5_X8_isBefore qd_X8_isBefore (by decide) rfl rfl (Nat.le_of_ble_eq_true rfl) ⟨Nat.zero_le _, Nat.zero_le _⟩ dX8_dayOf_40 (zr_ki0 (fun o17 => ?_))
      refine zr_ifne (tgt := 47) hB (by decide) dX8_dayOf_43 ?_ ?_
      · refine zr_aload_n hB 0 rfl rfl dX8_dayOf_47 ?_
        refine zr_callV (st := []) (C := RX8) (As := []) (embc := em_iI L) hB (mX8_draw (sK := sK) (sV := sV) hi  x7 L) (zW_X8 rfl) rfl rfl lm_X8_229 q2_X8_draw q3_X8_draw q4_X8 q5_X8_draw qd_X8_draw (by decide) rfl rfl (Nat.le_of_ble_eq_true rfl) ⟨Nat.zero_le _, Nat.zero_le _⟩ dX8_dayOf_48 (zr_kiI (fun o20 => ?_))
        refine zr_aload_n hB 0 rfl rfl dX8_dayOf_51 ?_
        refine zr_get_X8 (w := 50) (k := 0) (v := .ref (ad 51)) hB rfl (by decide) rfl lf_X8_9 rfl dX8_dayOf_52 ?_
        refine zr_bipush (v := 11) hB (by decide) dX8_dayOf_55 ?_
        refine zr_iaload hB zA_51 dX8_dayOf_57 ?_
        refine zr_irem hB dX8_dayOf_58 ?_
        refine zr_letI (fun v21 => ?_)
        refine zr_istore_n (lv' := [(3, .int v21), (0, .ref (ad 50)), (1, .int a1)]) hB rfl (by decide) rfl dX8_dayOf_59 ?_
        refine zr_aload_n hB 1 rfl rfl dX8_dayOf_60 ?_
        refine zr_callV (st := []) (C := RX8) (As := []) (embc := em_iI L) hB (mX8_draw (sK := sK) (sV := sV) hi  o20.2 L) (zW_X8 rfl) rfl rfl lm_X8_229 q2_X8_draw q3_X8_draw q4_X8 q5_X8_draw qd_X8_draw (by decide) rfl rfl (Nat.le_of_ble_eq_true rfl) ⟨Nat.zero_le _, Nat.zero_le _⟩ dX8_dayOf_61 (zr_kiI (fun o24 => ?_))
        refine zr_bipush (v := 8) hB (by decide) dX8_dayOf_64 ?_
        refine zr_iremC hB (by decide) dX8_dayOf_66 ?_
        refine zr_letI (fun v25 => ?_)
        refine zr_istore (lv' := [(4, .int v25), (3, .int v21), (0, .ref (ad 50)), (1, .int a1)]) hB (by decide) rfl dX8_dayOf_67 ?_
        refine zr_aload_n hB 2 rfl rfl dX8_dayOf_69 ?_
        refine zr_callV (st := []) (C := RX8) (As := []) (embc := em_iI L) hB (mX8_draw (sK := sK) (sV := sV) hi  o24.2 L) (zW_X8 rfl) rfl rfl lm_X8_229 q2_X8_draw q3_X8_draw q4_X8 q5_X8_draw qd_X8_draw (by decide) rfl rfl (Nat.le_of_ble_eq_true rfl) ⟨Nat.zero_le _, Nat.zero_le _⟩ dX8_dayOf_70 (zr_kiI (fun o28 => ?_))
        refine zr_bipush (v := 100) hB (by decide) dX8_dayOf_73 ?_
        refine zr_iremC hB (by decide) dX8_dayOf_75 ?_
        refine zr_aload_n hB 2 rfl rfl dX8_dayOf_76 ?_
        refine zr_get_X8 (w := 50) (k := 0) (v := .ref (ad 51)) hB rfl (by decide) rfl lf_X8_9 rfl dX8_dayOf_77 ?_
        refine zr_bipush (v := 10) hB (by decide) dX8_dayOf_80 ?_
        refine zr_iaload hB zA_51 dX8_dayOf_82 ?_
        refine zr_join (pcJ := 98) (fun x29 : Int32 => [(3, .int v21), (0, .ref (ad 50)), (1, .int a1)]) (fun x29 => [.int x29]) (fun x29 => o28.2) (fun x29 => L) (fun x29 => ?_) (fun K32 hj30 => ?_)
        · refine zr_istore (lv' := [(4, .int x29), (3, .int v21), (0, .ref (ad 50)), (1, .int a1)]) hB (by decide) rfl dX8_dayOf_98 ?_
          refine zr_aload_n hB 2 rfl rfl dX8_dayOf_100 ?_
          refine zr_iload_n hB 3 rfl rfl dX8_dayOf_101 ?_
          refine zr_iload_n hB 1 rfl rfl dX8_dayOf_102 ?_
          refine zr_iload hB 0 rfl dX8_dayOf_103 ?_
          refine zr_callV (st := []) (C := RX8) (As := [.int a1, .int v21, .int x29]) (embc := em_i0 o28.2 L) hB (mX8_canReach (sK := sK) (sV := sV) hi a1 v21 x29 o28.2 L) (zW_X8 rfl) rfl rfl lm_X8_140 q2_X8_canReach q3_X8_canReach q4_X8 q5_X8_canReach qd_X8_canReach (by decide) rfl rfl (Nat.le_of_ble_eq_true rfl) ⟨Nat.zero_le _, Nat.zero_le _⟩ dX8_dayOf_105 (zr_ki0 (fun o34 => ?_))
          refine zr_ifeq (tgt := 128) hB (by decide) dX8_dayOf_108 ?_ ?_
          · exact zr_vret hB rfl rfl dX8_dayOf_128
          · refine zr_aload_n hB 2 rfl rfl dX8_dayOf_111 ?_
            refine zr_iload_n hB 3 rfl rfl dX8_dayOf_112 ?_
            refine zr_iload_n hB 1 rfl rfl dX8_dayOf_113 ?_
            refine zr_iload hB 0 rfl dX8_dayOf_114 ?_
            refine zr_aload_n hB 2 rfl rfl dX8_dayOf_116 ?_
            refine zr_iload hB 0 rfl dX8_dayOf_117 ?_
            refine zr_iconst (v := (-1)) hB (by decide) dX8_dayOf_119 ?_
            refine zr_callV (st := [.int x29, .int v21, .int a1, .ref (ad 50)]) (C := RX8) (As := [.int x29, .int (-1)]) (embc := em_i0 o28.2 L) hB (mX8_standing (sK := sK) (sV := sV) hi n x29 (-1) o28.2 L) (zW_X8 rfl) rfl rfl lm_X8_133 q2_X8_standing q3_X8_standing q4_X8 q5_X8_standing qd_X8_standing (by decide) rfl rfl (Nat.le_of_ble_eq_true rfl) ⟨Nat.zero_le _, Nat.zero_le _⟩ dX8_dayOf_120 (zr_ki0 (fun o36 => ?_))
            refine zr_callV (st := []) (C := RX8) (As := [.int a1, .int v21, .int x29, .int o36]) (embc := em_iI L) hB (mX8_brings (sK := sK) (sV := sV) hi n a1 v21 x29 o36 o28.2 L) (zW_X8 rfl) rfl rfl lm_X8_136 q2_X8_brings q3_X8_brings q4_X8 q5_X8_brings qd_X8_brings (by decide) rfl rfl (Nat.le_of_ble_eq_true rfl) ⟨Nat.zero_le _, Nat.zero_le _⟩ dX8_dayOf_123 (zr_kiI (fun o39 => ?_))
            refine zr_istore (lv' := [(5, .int o39.1), (4, .int x29), (3, .int v21), (0, .ref (ad 50)), (1, .int a1)]) hB (by decide) rfl dX8_dayOf_126 ?_
            exact zr_vret hB rfl rfl dX8_dayOf_128
        · refine zr_icmp_ge (tgt := 96) hB (by decide) dX8_dayOf_83 ?_ ?_
          · refine zr_iload hB 0 rfl dX8_dayOf_96 ?_
            exact zr_sub [1, 2, 3] rfl (hj30 v25)
          · refine zr_iload hB 0 rfl dX8_dayOf_86 ?_
            refine zr_iconst (v := 1) hB (by decide) dX8_dayOf_88 ?_
            refine zr_iadd hB dX8_dayOf_89 ?_
            refine zr_bipush (v := 8) hB (by decide) dX8_dayOf_90 ?_
            refine zr_iremC hB (by decide) dX8_dayOf_92 ?_
            refine zr_goto (tgt := 98) hB (by decide) dX8_dayOf_93 ?_
            exact zr_sub [1, 2, 3] rfl (hj30 (zrem (v25 + 1) 8))
      · exact zr_vret hB rfl rfl dX8_dayOf_46
  · refine zr_ifeq (tgt := 28) hB (by decide) dX8_dayOf_14 ?_ ?_
    · exact zr_sub [1, 2] rfl (hj8 o3.2)
    · refine zr_aload_n hB 1 rfl rfl dX8_dayOf_17 ?_
      refine zr_iload_n hB 2 rfl rfl dX8_dayOf_18 ?_
      refine zr_aload_n hB 1 rfl rfl dX8_dayOf_19 ?_
      refine zr_iload_n hB 2 rfl rfl dX8_dayOf_20 ?_
      refine zr_callV (st := [.int a1, .ref (ad 50)]) (C := RX8) (As := [.int a1]) (embc := em_i0 o3.2 L) hB (mX8_levelOf (sK := sK) (sV := sV) hi a1 o3.2 L) (zW_X8 rfl) rfl rfl lm_X8_115 q2_X8_levelOf q3_X8_levelOf q4_X8 q5_X8_levelOf qd_X8_levelOf (by decide) rfl rfl (Nat.le_of_ble_eq_true rfl) ⟨Nat.zero_le _, Nat.zero_le _⟩ dX8_dayOf_21 (zr_ki0 (fun o12 => ?_))
      refine zr_iload_n hB 0 rfl rfl dX8_dayOf_24 ?_
      refine zr_callV (st := []) (C := RX8) (As := [.int a1, .int o12, .int v4]) (embc := em_vI L) hB (mX8_goes (sK := sK) (sV := sV) hi a1 o12 v4 o3.2 L) (zW_X8 rfl) rfl rfl lm_X8_118 q2_X8_goes q3_X8_goes q4_X8 q5_X8_goes qd_X8_goes (by decide) rfl rfl (Nat.le_of_ble_eq_true rfl) ⟨Nat.zero_le _, Nat.zero_le _⟩ dX8_dayOf_25 (zr_kvI (fun o15 => ?_))
      exact zr_sub [1, 2] rfl (hj8 o15)

def gX8_aDay_2 (n : Nat) (s1 : Int32 × zI) : Option ((Int32 × zI) ⊕ (zI)) :=
  zg 12 120 (
  if (s1.2 51 (zn 12)) ≤ s1.1 then
    some (.inr s1.2)
  else
  zb (fX8_dayOf n s1.1 s1.2) fun o12 =>
  zl (s1.1 + 1) fun v13 =>
  some (.inl (v13, o12)))
def fX8_aDay (n : Nat) (I : zI) : Option (zI) :=
  zb (zit (gX8_aDay_2 n) n (0, I)) fun x2 : zI =>
  zg 15 120 (
  zg 15 120 (
  zl (zup x2 51 (zn 15) ((x2 51 (zn 15)) + 1)) fun J14 =>
  some J14))
set_option maxHeartbeats 4000000 in
set_option maxRecDepth 100000 in
theorem mX8_aDay {l : Launch} {D : va_G} {T : zT} {ad sK sV : Nat → Nat} (hi : zInj ad) (n : Nat)   (I : zI) (L : zL) : ∀ o, fX8_aDay n I = some o → zMet l yX8_aDay cX8_aDay 2 none 4 93 D T ad sK sV [.ref (ad 50)] I L (em_vI L o) := by
  intro o ho
  refine zMet.of hi (by decide +kernel) (Nat.le_of_ble_eq_true rfl) (fun p e s m args below meth c hB => ?_)
  refine zr_top (emb := em_vI L) (t := fX8_aDay n I) ?_ ho
  unfold fX8_aDay
  refine zr_iconst (v := 0) hB (by decide) dX8_aDay_0 ?_
  refine zr_istore_n (lv' := [(1, .int 0), (0, .ref (ad 50))]) hB rfl (by decide) rfl dX8_aDay_1 ?_
  refine zr_join (pcJ := 24) (fun x2 : zI => [(0, .ref (ad 50))]) (fun _ => []) (fun x2 => x2) (fun x2 => L) (fun x2 => ?_) (fun K8 hx7 => ?_)
  · refine zr_aload_n hB 0 rfl rfl dX8_aDay_24 ?_
    refine zr_get_X8 (w := 50) (k := 0) (v := .ref (ad 51)) hB rfl (by decide) rfl lf_X8_9 rfl dX8_aDay_25 ?_
    refine zr_bipush (v := 15) hB (by decide) dX8_aDay_28 ?_
    refine zr_dup2 hB rfl rfl dX8_aDay_30 ?_
    refine zr_iaload hB zA_51 dX8_aDay_31 ?_
    refine zr_iconst (v := 1) hB (by decide) dX8_aDay_32 ?_
    refine zr_iadd hB dX8_aDay_33 ?_
    refine zr_iastore hB zA_51 dX8_aDay_34 ?_
    refine zr_letM (fun J14 => ?_)
    exact zr_vret hB rfl rfl dX8_aDay_35
  · refine zr_sub (lv' := (fun s1 : Int32 × zI => [(1, .int s1.1), (0, .ref (ad 50))]) (0, I)) [0, 1] rfl (zr_loop (fun s1 : Int32 × zI => [(1, .int s1.1), (0, .ref (ad 50))]) (fun s1 => s1.2) (fun s1 => L) (fun x2 : zI => [(0, .ref (ad 50))]) (fun x2 => x2) (fun x2 => L) hx7 (fun s1 K9 hc3 hx4 => ?_) n (0, I))
    unfold gX8_aDay_2
    refine zr_iload_n hB 0 rfl rfl dX8_aDay_2 ?_
    refine zr_aload_n hB 1 rfl rfl dX8_aDay_3 ?_
    refine zr_get_X8 (w := 50) (k := 0) (v := .ref (ad 51)) hB rfl (by decide) rfl lf_X8_9 rfl dX8_aDay_4 ?_
    refine zr_bipush (v := 12) hB (by decide) dX8_aDay_7 ?_
    refine zr_iaload hB zA_51 dX8_aDay_9 ?_
    refine zr_icmp_ge (tgt := 24) hB (by decide) dX8_aDay_10 ?_ ?_
    · exact zr_sub [1] rfl (hx4 s1.2)
    · refine zr_aload_n hB 1 rfl rfl dX8_aDay_13 ?_
      refine zr_iload_n hB 0 rfl rfl dX8_aDay_14 ?_
      refine zr_callV (st := []) (C := RX8) (As := [.int s1.1]) (embc := em_vI L) hB (mX8_dayOf (sK := sK) (sV := sV) hi n s1.1 s1.2 L) (zW_X8 rfl) rfl rfl lm_X8_233 q2_X8_dayOf q3_X8_dayOf q4_X8 q5_X8_dayOf qd_X8_dayOf (by decide) rfl rfl (Nat.le_of_ble_eq_true rfl) ⟨Nat.zero_le _, Nat.zero_le _⟩ dX8_aDay_15 (zr_kvI (fun o12 => ?_))
      refine zr_iincL hB (j := 0) (n := 1) (w := 1) rfl (by decide) (by decide) dX8_aDay_18 (fun v13 lv' hlv => ?_)
      obtain rfl : lv' = [(1, .int v13), (0, .ref (ad 50))] := hlv.symm.trans rfl
      refine zr_goto (tgt := 2) hB (by decide) dX8_aDay_21 ?_
      exact zr_sub [0, 1] rfl (hc3 (v13, o12))

def gX8_daysGo_10 (n : Nat) (a1 : Int32) (s2 : Int32 × zI) : Option ((Int32 × zI) ⊕ (zI)) :=
  if a1 ≤ s2.1 then
    some (.inr s2.2)
  else
  zb (fX8_aDay n s2.2) fun o13 =>
  zl (s2.1 + 1) fun v14 =>
  some (.inl (v14, o13))
def fX8_daysGo (n : Nat) (a1 : Int32) (I : zI) : Option (Int32 × zI) :=
  zg 14 120 (
  zl (I 51 (zn 14)) fun v1 =>
  zb (zit (gX8_daysGo_10 n a1) n (0, I)) fun x3 : zI =>
  zg 14 120 (
  some ((x3 51 (zn 14)) - v1, x3)))
set_option maxHeartbeats 4000000 in
set_option maxRecDepth 100000 in
theorem mX8_daysGo {l : Launch} {D : va_G} {T : zT} {ad sK sV : Nat → Nat} (hi : zInj ad) (n : Nat) (a1 : Int32)  (I : zI) (L : zL) : ∀ o, fX8_daysGo n a1 I = some o → zMet l yX8_daysGo cX8_daysGo 4 (some .int) 5 114 D T ad sK sV [.ref (ad 50), .int a1] I L (em_iI L o) := by
  intro o ho
  refine zMet.of hi (by decide +kernel) (Nat.le_of_ble_eq_true rfl) (fun p e s m args below meth c hB => ?_)
  refine zr_top (emb := em_iI L) (t := fX8_daysGo n a1 I) ?_ ho
  unfold fX8_daysGo
  refine zr_aload_n hB 0 rfl rfl dX8_daysGo_0 ?_
  refine zr_get_X8 (w := 50) (k := 0) (v := .ref (ad 51)) hB rfl (by decide) rfl lf_X8_9 rfl dX8_daysGo_1 ?_
  refine zr_bipush (v := 14) hB (by decide) dX8_daysGo_4 ?_
  refine zr_iaload hB zA_51 dX8_daysGo_6 ?_
  refine zr_letI (fun v1 => ?_)
  refine zr_istore_n (lv' := [(2, .int v1), (0, .ref (ad 50)), (1, .int a1)]) hB rfl (by decide) rfl dX8_daysGo_7 ?_
  refine zr_iconst (v := 0) hB (by decide) dX8_daysGo_8 ?_
  refine zr_istore_n (lv' := [(3, .int 0), (2, .int v1), (0, .ref (ad 50)), (1, .int a1)]) hB rfl (by decide) rfl dX8_daysGo_9 ?_
  refine zr_join (pcJ := 25) (fun x3 : zI => [(2, .int v1), (0, .ref (ad 50))]) (fun _ => []) (fun x3 => x3) (fun x3 => L) (fun x3 => ?_) (fun K9 hx8 => ?_)
  · refine zr_aload_n hB 1 rfl rfl dX8_daysGo_25 ?_
    refine zr_get_X8 (w := 50) (k := 0) (v := .ref (ad 51)) hB rfl (by decide) rfl lf_X8_9 rfl dX8_daysGo_26 ?_
    refine zr_bipush (v := 14) hB (by decide) dX8_daysGo_29 ?_
    refine zr_iaload hB zA_51 dX8_daysGo_31 ?_
    refine zr_iload_n hB 0 rfl rfl dX8_daysGo_32 ?_
    refine zr_isub hB dX8_daysGo_33 ?_
    exact zr_iret hB rfl rfl dX8_daysGo_34
  · refine zr_sub (lv' := (fun s2 : Int32 × zI => [(3, .int s2.1), (2, .int v1), (0, .ref (ad 50)), (1, .int a1)]) (0, I)) [0, 1, 2, 3] rfl (zr_loop (fun s2 : Int32 × zI => [(3, .int s2.1), (2, .int v1), (0, .ref (ad 50)), (1, .int a1)]) (fun s2 => s2.2) (fun s2 => L) (fun x3 : zI => [(2, .int v1), (0, .ref (ad 50))]) (fun x3 => x3) (fun x3 => L) hx8 (fun s2 K10 hc4 hx5 => ?_) n (0, I))
    unfold gX8_daysGo_10
    refine zr_iload_n hB 0 rfl rfl dX8_daysGo_10 ?_
    refine zr_iload_n hB 3 rfl rfl dX8_daysGo_11 ?_
    refine zr_icmp_ge (tgt := 25) hB (by decide) dX8_daysGo_12 ?_ ?_
    · exact zr_sub [1, 2] rfl (hx5 s2.2)
    · refine zr_aload_n hB 2 rfl rfl dX8_daysGo_15 ?_
      refine zr_callV (st := []) (C := RX8) (As := []) (embc := em_vI L) hB (mX8_aDay (sK := sK) (sV := sV) hi n s2.2 L) (zW_X8 rfl) rfl rfl lm_X8_237 q2_X8_aDay q3_X8_aDay q4_X8 q5_X8_aDay qd_X8_aDay (by decide) rfl rfl (Nat.le_of_ble_eq_true rfl) ⟨Nat.zero_le _, Nat.zero_le _⟩ dX8_daysGo_16 (zr_kvI (fun o13 => ?_))
      refine zr_iincL hB (j := 0) (n := 1) (w := 1) rfl (by decide) (by decide) dX8_daysGo_19 (fun v14 lv' hlv => ?_)
      obtain rfl : lv' = [(3, .int v14), (2, .int v1), (0, .ref (ad 50)), (1, .int a1)] := hlv.symm.trans rfl
      refine zr_goto (tgt := 10) hB (by decide) dX8_daysGo_22 ?_
      exact zr_sub [0, 1, 2, 3] rfl (hc4 (v14, o13))

def fX8_days (n : Nat) (a1 : Int32) (I : zI) : Option (Int32 × zI) :=
  zb (fX8_within a1.toInt64 1 60) fun o2 =>
  if o2 = 0 then
    zb (fX8_finding 0 I) fun o11 =>
    some (o11.1, o11.2)
  else
  zg 15 120 (
  if ((I 51 (zn 15)) + a1) ≤ 9999 then
    zb (fX8_daysGo n a1 I) fun o5 =>
    some (o5.1, o5.2)
  else
  zb (fX8_finding 4 I) fun o8 =>
  some (o8.1, o8.2))
set_option maxHeartbeats 4000000 in
set_option maxRecDepth 100000 in
theorem mX8_days {l : Launch} {D : va_G} {T : zT} {ad sK sV : Nat → Nat} (hi : zInj ad) (n : Nat) (a1 : Int32)  (I : zI) (L : zL) : ∀ o, fX8_days n a1 I = some o → zMet l yX8_days cX8_days 2 (some .int) 6 137 D T ad sK sV [.ref (ad 50), .int a1] I L (em_iI L o) := by
  intro o ho
  refine zMet.of hi (by decide +kernel) (Nat.le_of_ble_eq_true rfl) (fun p e s m args below meth c hB => ?_)
  refine zr_top (emb := em_iI L) (t := fX8_days n a1 I) ?_ ho
  unfold fX8_days
  refine zr_iload_n hB 1 rfl rfl dX8_days_0 ?_
  refine zr_i2l hB dX8_days_1 ?_
  refine zr_lconst (v := 1) hB (by decide) dX8_days_2 ?_
  refine zr_ldc2 (v := 60) hB lj_X8_97 dX8_days_3 ?_
  refine zr_callS (st := []) (As := [.long a1.toInt64, .long 1, .long 60]) (embc := em_i0 I L) hB (mX8_within (sK := sK) (sV := sV) hi a1.toInt64 1 60 I L) lm_X8_54 q2_X8_within q4_X8 q5_X8_within qd_X8_within (by decide) rfl rfl (Nat.le_of_ble_eq_true rfl) ⟨Nat.zero_le _, Nat.zero_le _⟩ dX8_days_6 (zr_ki0 (fun o2 => ?_))
  refine zr_ifne (tgt := 18) hB (by decide) dX8_days_9 ?_ ?_
  · refine zr_aload_n hB 0 rfl rfl dX8_days_18 ?_
    refine zr_get_X8 (w := 50) (k := 0) (v := .ref (ad 51)) hB rfl (by decide) rfl lf_X8_9 rfl dX8_days_19 ?_
    refine zr_bipush (v := 15) hB (by decide) dX8_days_22 ?_
    refine zr_iaload hB zA_51 dX8_days_24 ?_
    refine zr_iload_n hB 1 rfl rfl dX8_days_25 ?_
    refine zr_iadd hB dX8_days_26 ?_
    refine zr_sipush (v := 9999) hB (by decide) dX8_days_27 ?_
    refine zr_icmp_le (tgt := 41) hB (by decide) dX8_days_30 ?_ ?_
    · refine zr_aload_n hB 0 rfl rfl dX8_days_41 ?_
      refine zr_iload_n hB 1 rfl rfl dX8_days_42 ?_
      refine zr_callV (st := []) (C := RX8) (As := [.int a1]) (embc := em_iI L) hB (mX8_daysGo (sK := sK) (sV := sV) hi n a1 I L) (zW_X8 rfl) rfl rfl lm_X8_240 q2_X8_daysGo q3_X8_daysGo q4_X8 q5_X8_daysGo qd_X8_daysGo (by decide) rfl rfl (Nat.le_of_ble_eq_true rfl) ⟨Nat.zero_le _, Nat.zero_le _⟩ dX8_days_43 (zr_kiI (fun o5 => ?_))
      exact zr_iret hB rfl rfl dX8_days_46
    · refine zr_aload_n hB 0 rfl rfl dX8_days_33 ?_
      refine zr_iconst (v := 4) hB (by decide) dX8_days_34 ?_
      refine zr_callV (st := []) (C := RX8) (As := [.int 4]) (embc := em_iI L) hB (mX8_finding (sK := sK) (sV := sV) hi 4 I L) (zW_X8 rfl) rfl rfl lm_X8_74 q2_X8_finding q3_X8_finding q4_X8 q5_X8_finding qd_X8_finding (by decide) rfl rfl (Nat.le_of_ble_eq_true rfl) ⟨Nat.zero_le _, Nat.zero_le _⟩ dX8_days_35 (zr_kiI (fun o8 => ?_))
      refine zr_goto (tgt := 46) hB (by decide) dX8_days_38 ?_
      exact zr_iret hB rfl rfl dX8_days_46
  · refine zr_aload_n hB 0 rfl rfl dX8_days_12 ?_
    refine zr_iconst (v := 0) hB (by decide) dX8_days_13 ?_
    refine zr_callV (st := []) (C := RX8) (As := [.int 0]) (embc := em_iI L) hB (mX8_finding (sK := sK) (sV := sV) hi 0 I L) (zW_X8 rfl) rfl rfl lm_X8_74 q2_X8_finding q3_X8_finding q4_X8 q5_X8_finding qd_X8_finding (by decide) rfl rfl (Nat.le_of_ble_eq_true rfl) ⟨Nat.zero_le _, Nat.zero_le _⟩ dX8_days_14 (zr_kiI (fun o11 => ?_))
    exact zr_iret hB rfl rfl dX8_days_17

def fX8_ahead (n : Nat) (a1 : Int32) (a2 : Int32) (I : zI) : Option (Int32 × zI) :=
  zb (fX8_within a1.toInt64 0 60) fun o2 =>
  if o2 = 0 then
    zb (fX8_finding 0 I) fun o5 =>
    some (o5.1, o5.2)
  else
  zbs (
    if a2 = 0 then
      some (.inr ())
    else
    zb (fX8_isThing (a2 - 1) I) fun o11 =>
    if o11 = 0 then
      zb (fX8_finding 0 I) fun o14 =>
      some (.inl (o14.1, o14.2))
    else
    some (.inr ())) fun x6 : Unit =>
  zg 15 120 (
  if ((I 51 (zn 15)) + a1) ≤ 9999 then
    zb (fX8_lends n I) fun o17 =>
    zb (fX8_daysGo n a1 o17) fun o20 =>
    if a2 = 0 then
      zb (fX8_laysBack n o20.2) fun o27 =>
      some (o20.1, o27)
    else
    zg ((36 + a2) - 1) 120 (
    zl (o20.2 51 (zn ((36 + a2) - 1))) fun v21 =>
    zb (fX8_laysBack n o20.2) fun o24 =>
    some (v21, o24))
  else
  zb (fX8_finding 4 I) fun o30 =>
  some (o30.1, o30.2))
set_option maxHeartbeats 4000000 in
set_option maxRecDepth 100000 in
theorem mX8_ahead {l : Launch} {D : va_G} {T : zT} {ad sK sV : Nat → Nat} (hi : zInj ad) (n : Nat) (a1 : Int32) (a2 : Int32)  (I : zI) (L : zL) : ∀ o, fX8_ahead n a1 a2 I = some o → zMet l yX8_ahead cX8_ahead 5 (some .int) 6 137 D T ad sK sV [.ref (ad 50), .int a1, .int a2] I L (em_iI L o) := by
  intro o ho
  refine zMet.of hi (by decide +kernel) (Nat.le_of_ble_eq_true rfl) (fun p e s m args below meth c hB => ?_)
  refine zr_top (emb := em_iI L) (t := fX8_ahead n a1 a2 I) ?_ ho
  unfold fX8_ahead
  refine zr_iload_n hB 1 rfl rfl dX8_ahead_0 ?_
  refine zr_i2l hB dX8_ahead_1 ?_
  refine zr_lconst (v := 0) hB (by decide) dX8_ahead_2 ?_
  refine zr_ldc2 (v := 60) hB lj_X8_97 dX8_ahead_3 ?_
  refine zr_callS (st := []) (As := [.long a1.toInt64, .long 0, .long 60]) (embc := em_i0 I L) hB (mX8_within (sK := sK) (sV := sV) hi a1.toInt64 0 60 I L) lm_X8_54 q2_X8_within q4_X8 q5_X8_within qd_X8_within (by decide) rfl rfl (Nat.le_of_ble_eq_true rfl) ⟨Nat.zero_le _, Nat.zero_le _⟩ dX8_ahead_6 (zr_ki0 (fun o2 => ?_))
  refine zr_ifeq (tgt := 26) hB (by decide) dX8_ahead_9 ?_ ?_
  · refine zr_aload_n hB 0 rfl rfl dX8_ahead_26 ?_
    refine zr_iconst (v := 0) hB (by decide) dX8_ahead_27 ?_
    refine zr_callV (st := []) (C := RX8) (As := [.int 0]) (embc := em_iI L) hB (mX8_finding (sK := sK) (sV := sV) hi 0 I L) (zW_X8 rfl) rfl rfl lm_X8_74 q2_X8_finding q3_X8_finding q4_X8 q5_X8_finding qd_X8_finding (by decide) rfl rfl (Nat.le_of_ble_eq_true rfl) ⟨Nat.zero_le _, Nat.zero_le _⟩ dX8_ahead_28 (zr_kiI (fun o5 => ?_))
    exact zr_iret hB rfl rfl dX8_ahead_31
  · refine zr_iload_n hB 2 rfl rfl dX8_ahead_12 ?_
    refine zr_joins (pcJ := 32) (fun x6 : Unit => [(0, .ref (ad 50)), (1, .int a1), (2, .int a2)]) (fun x6 => []) (fun x6 => I) (fun x6 => L) (fun x6 => ?_) (fun K9 hi8 hj7 => ?_)
    · refine zr_aload_n hB 0 rfl rfl dX8_ahead_32 ?_
      refine zr_get_X8 (w := 50) (k := 0) (v := .ref (ad 51)) hB rfl (by decide) rfl lf_X8_9 rfl dX8_ahead_33 ?_
      refine zr_bipush (v := 15) hB (by decide) dX8_ahead_36 ?_
      refine zr_iaload hB zA_51 dX8_ahead_38 ?_
      refine zr_iload_n hB 1 rfl rfl dX8_ahead_39 ?_
      refine zr_iadd hB dX8_ahead_40 ?_
      refine zr_sipush (v := 9999) hB (by decide) dX8_ahead_41 ?_
      refine zr_icmp_le (tgt := 53) hB (by decide) dX8_ahead_44 ?_ ?_
      · refine zr_aload_n hB 0 rfl rfl dX8_ahead_53 ?_
        refine zr_callV (st := []) (C := RX8) (As := []) (embc := em_vI L) hB (mX8_lends (sK := sK) (sV := sV) hi n I L) (zW_X8 rfl) rfl rfl lm_X8_196 q2_X8_lends q3_X8_lends q4_X8 q5_X8_lends qd_X8_lends (by decide) rfl rfl (Nat.le_of_ble_eq_true rfl) ⟨Nat.zero_le _, Nat.zero_le _⟩ dX8_ahead_54 (zr_kvI (fun o17 => ?_))
        refine zr_aload_n hB 0 rfl rfl dX8_ahead_57 ?_
        refine zr_iload_n hB 1 rfl rfl dX8_ahead_58 ?_
        refine zr_callV (st := []) (C := RX8) (As := [.int a1]) (embc := em_iI L) hB (mX8_daysGo (sK := sK) (sV := sV) hi n a1 o17 L) (zW_X8 rfl) rfl rfl lm_X8_240 q2_X8_daysGo q3_X8_daysGo q4_X8 q5_X8_daysGo qd_X8_daysGo (by decide) rfl rfl (Nat.le_of_ble_eq_true rfl) ⟨Nat.zero_le _, Nat.zero_le _⟩ dX8_ahead_59 (zr_kiI (fun o20 => ?_))
        refine zr_istore_n (lv' := [(3, .int o20.1), (0, .ref (ad 50)), (1, .int a1), (2, .int a2)]) hB rfl (by decide) rfl dX8_ahead_62 ?_
        refine zr_iload_n hB 3 rfl rfl dX8_ahead_63 ?_
        refine zr_ifne (tgt := 71) hB (by decide) dX8_ahead_64 ?_ ?_
        · refine zr_aload_n hB 1 rfl rfl dX8_ahead_71 ?_
          refine zr_get_X8 (w := 50) (k := 0) (v := .ref (ad 51)) hB rfl (by decide) rfl lf_X8_9 rfl dX8_ahead_72 ?_
          refine zr_bipush (v := 36) hB (by decide) dX8_ahead_75 ?_
          refine zr_iload_n hB 3 rfl rfl dX8_ahead_77 ?_
          refine zr_iadd hB dX8_ahead_78 ?_
          refine zr_iconst (v := 1) hB (by decide) dX8_ahead_79 ?_
          refine zr_isub hB dX8_ahead_80 ?_
          refine zr_iaload hB zA_51 dX8_ahead_81 ?_
          refine zr_letI (fun v21 => ?_)
          refine zr_istore (lv' := [(4, .int v21), (3, .int o20.1), (0, .ref (ad 50)), (1, .int a1), (2, .int a2)]) hB (by decide) rfl dX8_ahead_82 ?_
          refine zr_aload_n hB 2 rfl rfl dX8_ahead_84 ?_
          refine zr_callV (st := []) (C := RX8) (As := []) (embc := em_vI L) hB (mX8_laysBack (sK := sK) (sV := sV) hi n o20.2 L) (zW_X8 rfl) rfl rfl lm_X8_202 q2_X8_laysBack q3_X8_laysBack q4_X8 q5_X8_laysBack qd_X8_laysBack (by decide) rfl rfl (Nat.le_of_ble_eq_true rfl) ⟨Nat.zero_le _, Nat.zero_le _⟩ dX8_ahead_85 (zr_kvI (fun o24 => ?_))
          refine zr_iload hB 0 rfl dX8_ahead_88 ?_
          exact zr_iret hB rfl rfl dX8_ahead_90
        · refine zr_iload_n hB 0 rfl rfl dX8_ahead_67 ?_
          refine zr_goto (tgt := 82) hB (by decide) dX8_ahead_68 ?_
          refine zr_istore (lv' := [(4, .int o20.1), (3, .int o20.1), (0, .ref (ad 50)), (1, .int a1), (2, .int a2)]) hB (by decide) rfl dX8_ahead_82 ?_
          refine zr_aload_n hB 2 rfl rfl dX8_ahead_84 ?_
          refine zr_callV (st := []) (C := RX8) (As := []) (embc := em_vI L) hB (mX8_laysBack (sK := sK) (sV := sV) hi n o20.2 L) (zW_X8 rfl) rfl rfl lm_X8_202 q2_X8_laysBack q3_X8_laysBack q4_X8 q5_X8_laysBack qd_X8_laysBack (by decide) rfl rfl (Nat.le_of_ble_eq_true rfl) ⟨Nat.zero_le _, Nat.zero_le _⟩ dX8_ahead_85 (zr_kvI (fun o27 => ?_))
          refine zr_iload hB 0 rfl dX8_ahead_88 ?_
          exact zr_iret hB rfl rfl dX8_ahead_90
      · refine zr_aload_n hB 0 rfl rfl dX8_ahead_47 ?_
        refine zr_iconst (v := 4) hB (by decide) dX8_ahead_48 ?_
        refine zr_callV (st := []) (C := RX8) (As := [.int 4]) (embc := em_iI L) hB (mX8_finding (sK := sK) (sV := sV) hi 4 I L) (zW_X8 rfl) rfl rfl lm_X8_74 q2_X8_finding q3_X8_finding q4_X8 q5_X8_finding qd_X8_finding (by decide) rfl rfl (Nat.le_of_ble_eq_true rfl) ⟨Nat.zero_le _, Nat.zero_le _⟩ dX8_ahead_49 (zr_kiI (fun o30 => ?_))
        exact zr_iret hB rfl rfl dX8_ahead_52
    · refine zr_ifeq (tgt := 32) hB (by decide) dX8_ahead_13 ?_ ?_
      · exact zr_sub [0, 1, 2] rfl (hj7 ())
      · refine zr_aload_n hB 0 rfl rfl dX8_ahead_16 ?_
        refine zr_iload_n hB 2 rfl rfl dX8_ahead_17 ?_
        refine zr_iconst (v := 1) hB (by decide) dX8_ahead_18 ?_
        refine zr_isub hB dX8_ahead_19 ?_
        refine zr_callV (st := []) (C := RX8) (As := [.int (a2 - 1)]) (embc := em_i0 I L) hB (mX8_isThing (sK := sK) (sV := sV) hi (a2 - 1) I L) (zW_X8 rfl) rfl rfl lm_X8_90 q2_X8_isThing q3_X8_isThing q4_X8 q5_X8_isThing qd_X8_isThing (by decide) rfl rfl (Nat.le_of_ble_eq_true rfl) ⟨Nat.zero_le _, Nat.zero_le _⟩ dX8_ahead_20 (zr_ki0 (fun o11 => ?_))
        refine zr_ifne (tgt := 32) hB (by decide) dX8_ahead_23 ?_ ?_
        · exact zr_sub [0, 1, 2] rfl (hj7 ())
        · refine zr_aload_n hB 0 rfl rfl dX8_ahead_26 ?_
          refine zr_iconst (v := 0) hB (by decide) dX8_ahead_27 ?_
          refine zr_callV (st := []) (C := RX8) (As := [.int 0]) (embc := em_iI L) hB (mX8_finding (sK := sK) (sV := sV) hi 0 I L) (zW_X8 rfl) rfl rfl lm_X8_74 q2_X8_finding q3_X8_finding q4_X8 q5_X8_finding qd_X8_finding (by decide) rfl rfl (Nat.le_of_ble_eq_true rfl) ⟨Nat.zero_le _, Nat.zero_le _⟩ dX8_ahead_28 (zr_kiI (fun o14 => ?_))
          refine hi8 _ _ _ _ _ _ ?_
          exact zr_iret hB rfl rfl dX8_ahead_31

def gX8_when_46 (n : Nat) (a1 : Int32) (a2 : Int32) (s11 : Int32 × zI) : Option ((Int32 × zI) ⊕ (Int32 × zI)) :=
  if 60 < s11.1 then
    some (.inr (s11.1, s11.2))
  else
  zg (36 + a1) 120 (
  if (s11.2 51 (zn (36 + a1))) = a2 then
    some (.inr (s11.1, s11.2))
  else
  zb (fX8_aDay n s11.2) fun o22 =>
  zl (s11.1 + 1) fun v23 =>
  some (.inl (v23, o22)))
def fX8_when (n : Nat) (a1 : Int32) (a2 : Int32) (I : zI) : Option (Int32 × zI) :=
  zb (fX8_isThing a1 I) fun o2 =>
  if o2 = 0 then
    zb (fX8_finding 0 I) fun o5 =>
    some (o5.1, o5.2)
  else
  zb (fX8_isRoom a2) fun o7 =>
  if o7 = 0 then
    zb (fX8_finding 0 I) fun o35 =>
    some (o35.1, o35.2)
  else
  zg 15 120 (
  if (I 51 (zn 15)) ≤ 9939 then
    zb (fX8_lends n I) fun o10 =>
    zb (zit (gX8_when_46 n a1 a2) n (0, o10)) fun x12 : Int32 × zI =>
    zb (fX8_laysBack n x12.2) fun o26 =>
    if 60 < x12.1 then
      zb (fX8_finding 3 o26) fun o29 =>
      some (o29.1, o29.2)
    else
    some (x12.1, o26)
  else
  zb (fX8_finding 4 I) fun o32 =>
  some (o32.1, o32.2))
set_option maxHeartbeats 4000000 in
set_option maxRecDepth 100000 in
theorem mX8_when {l : Launch} {D : va_G} {T : zT} {ad sK sV : Nat → Nat} (hi : zInj ad) (n : Nat) (a1 : Int32) (a2 : Int32)  (I : zI) (L : zL) : ∀ o, fX8_when n a1 a2 I = some o → zMet l yX8_when cX8_when 4 (some .int) 5 114 D T ad sK sV [.ref (ad 50), .int a1, .int a2] I L (em_iI L o) := by
  intro o ho
  refine zMet.of hi (by decide +kernel) (Nat.le_of_ble_eq_true rfl) (fun p e s m args below meth c hB => ?_)
  refine zr_top (emb := em_iI L) (t := fX8_when n a1 a2 I) ?_ ho
  unfold fX8_when
  refine zr_aload_n hB 0 rfl rfl dX8_when_0 ?_
  refine zr_iload_n hB 1 rfl rfl dX8_when_1 ?_
  refine zr_callV (st := []) (C := RX8) (As := [.int a1]) (embc := em_i0 I L) hB (mX8_isThing (sK := sK) (sV := sV) hi a1 I L) (zW_X8 rfl) rfl rfl lm_X8_90 q2_X8_isThing q3_X8_isThing q4_X8 q5_X8_isThing qd_X8_isThing (by decide) rfl rfl (Nat.le_of_ble_eq_true rfl) ⟨Nat.zero_le _, Nat.zero_le _⟩ dX8_when_2 (zr_ki0 (fun o2 => ?_))
  refine zr_ifeq (tgt := 15) hB (by decide) dX8_when_5 ?_ ?_
  · refine zr_aload_n hB 0 rfl rfl dX8_when_15 ?_
    refine zr_iconst (v := 0) hB (by decide) dX8_when_16 ?_
    refine zr_callV (st := []) (C := RX8) (As := [.int 0]) (embc := em_iI L) hB (mX8_finding (sK := sK) (sV := sV) hi 0 I L) (zW_X8 rfl) rfl rfl lm_X8_74 q2_X8_finding q3_X8_finding q4_X8 q5_X8_finding qd_X8_finding (by decide) rfl rfl (Nat.le_of_ble_eq_true rfl) ⟨Nat.zero_le _, Nat.zero_le _⟩ dX8_when_17 (zr_kiI (fun o5 => ?_))
    exact zr_iret hB rfl rfl dX8_when_20
  · refine zr_iload_n hB 2 rfl rfl dX8_when_8 ?_
    refine zr_callS (st := []) (As := [.int a2]) (embc := em_i0 I L) hB (mX8_isRoom (sK := sK) (sV := sV) hi a2 I L) lm_X8_70 q2_X8_isRoom q4_X8 q5_X8_isRoom qd_X8_isRoom (by decide) rfl rfl (Nat.le_of_ble_eq_true rfl) ⟨Nat.zero_le _, Nat.zero_le _⟩ dX8_when_9 (zr_ki0 (fun o7 => ?_))
    refine zr_ifne (tgt := 21) hB (by decide) dX8_when_12 ?_ ?_
    · refine zr_aload_n hB 0 rfl rfl dX8_when_21 ?_
      refine zr_get_X8 (w := 50) (k := 0) (v := .ref (ad 51)) hB rfl (by decide) rfl lf_X8_9 rfl dX8_when_22 ?_
      refine zr_bipush (v := 15) hB (by decide) dX8_when_25 ?_
      refine zr_iaload hB zA_51 dX8_when_27 ?_
      refine zr_sipush (v := 9939) hB (by decide) dX8_when_28 ?_
      refine zr_icmp_le (tgt := 40) hB (by decide) dX8_when_31 ?_ ?_
      · refine zr_aload_n hB 0 rfl rfl dX8_when_40 ?_
        refine zr_callV (st := []) (C := RX8) (As := []) (embc := em_vI L) hB (mX8_lends (sK := sK) (sV := sV) hi n I L) (zW_X8 rfl) rfl rfl lm_X8_196 q2_X8_lends q3_X8_lends q4_X8 q5_X8_lends qd_X8_lends (by decide) rfl rfl (Nat.le_of_ble_eq_true rfl) ⟨Nat.zero_le _, Nat.zero_le _⟩ dX8_when_41 (zr_kvI (fun o10 => ?_))
        refine zr_iconst (v := 0) hB (by decide) dX8_when_44 ?_
        refine zr_istore_n (lv' := [(3, .int 0), (0, .ref (ad 50)), (1, .int a1), (2, .int a2)]) hB rfl (by decide) rfl dX8_when_45 ?_
        refine zr_join (pcJ := 75) (fun x12 : Int32 × zI => [(3, .int x12.1), (0, .ref (ad 50))]) (fun _ => []) (fun x12 => x12.2) (fun x12 => L) (fun x12 => ?_) (fun K18 hx17 => ?_)
        · refine zr_aload_n hB 1 rfl rfl dX8_when_75 ?_
          refine zr_callV (st := []) (C := RX8) (As := []) (embc := em_vI L) hB (mX8_laysBack (sK := sK) (sV := sV) hi n x12.2 L) (zW_X8 rfl) rfl rfl lm_X8_202 q2_X8_laysBack q3_X8_laysBack q4_X8 q5_X8_laysBack qd_X8_laysBack (by decide) rfl rfl (Nat.le_of_ble_eq_true rfl) ⟨Nat.zero_le _, Nat.zero_le _⟩ dX8_when_76 (zr_kvI (fun o26 => ?_))
          refine zr_iload_n hB 0 rfl rfl dX8_when_79 ?_
          refine zr_bipush (v := 60) hB (by decide) dX8_when_80 ?_
          refine zr_icmp_gt (tgt := 89) hB (by decide) dX8_when_82 ?_ ?_
          · refine zr_aload_n hB 1 rfl rfl dX8_when_89 ?_
            refine zr_iconst (v := 3) hB (by decide) dX8_when_90 ?_
            refine zr_callV (st := []) (C := RX8) (As := [.int 3]) (embc := em_iI L) hB (mX8_finding (sK := sK) (sV := sV) hi 3 o26 L) (zW_X8 rfl) rfl rfl lm_X8_74 q2_X8_finding q3_X8_finding q4_X8 q5_X8_finding qd_X8_finding (by decide) rfl rfl (Nat.le_of_ble_eq_true rfl) ⟨Nat.zero_le _, Nat.zero_le _⟩ dX8_when_91 (zr_kiI (fun o29 => ?_))
            exact zr_iret hB rfl rfl dX8_when_94
          · refine zr_iload_n hB 0 rfl rfl dX8_when_85 ?_
            refine zr_goto (tgt := 94) hB (by decide) dX8_when_86 ?_
            exact zr_iret hB rfl rfl dX8_when_94
        · refine zr_sub (lv' := (fun s11 : Int32 × zI => [(3, .int s11.1), (0, .ref (ad 50)), (1, .int a1), (2, .int a2)]) (0, o10)) [0, 1, 2, 3] rfl (zr_loop (fun s11 : Int32 × zI => [(3, .int s11.1), (0, .ref (ad 50)), (1, .int a1), (2, .int a2)]) (fun s11 => s11.2) (fun s11 => L) (fun x12 : Int32 × zI => [(3, .int x12.1), (0, .ref (ad 50))]) (fun x12 => x12.2) (fun x12 => L) hx17 (fun s11 K19 hc13 hx14 => ?_) n (0, o10))
          unfold gX8_when_46
          refine zr_iload_n hB 0 rfl rfl dX8_when_46 ?_
          refine zr_bipush (v := 60) hB (by decide) dX8_when_47 ?_
          refine zr_icmp_gt (tgt := 75) hB (by decide) dX8_when_49 ?_ ?_
          · exact zr_sub [0, 1] rfl (hx14 (s11.1, s11.2))
          · refine zr_aload_n hB 1 rfl rfl dX8_when_52 ?_
            refine zr_get_X8 (w := 50) (k := 0) (v := .ref (ad 51)) hB rfl (by decide) rfl lf_X8_9 rfl dX8_when_53 ?_
            refine zr_bipush (v := 36) hB (by decide) dX8_when_56 ?_
            refine zr_iload_n hB 2 rfl rfl dX8_when_58 ?_
            refine zr_iadd hB dX8_when_59 ?_
            refine zr_iaload hB zA_51 dX8_when_60 ?_
            refine zr_iload_n hB 3 rfl rfl dX8_when_61 ?_
            refine zr_icmp_eq (tgt := 75) hB (by decide) dX8_when_62 ?_ ?_
            · exact zr_sub [0, 1] rfl (hx14 (s11.1, s11.2))
            · refine zr_aload_n hB 1 rfl rfl dX8_when_65 ?_
              refine zr_callV (st := []) (C := RX8) (As := []) (embc := em_vI L) hB (mX8_aDay (sK := sK) (sV := sV) hi n s11.2 L) (zW_X8 rfl) rfl rfl lm_X8_237 q2_X8_aDay q3_X8_aDay q4_X8 q5_X8_aDay qd_X8_aDay (by decide) rfl rfl (Nat.le_of_ble_eq_true rfl) ⟨Nat.zero_le _, Nat.zero_le _⟩ dX8_when_66 (zr_kvI (fun o22 => ?_))
              refine zr_iincL hB (j := 0) (n := 1) (w := 1) rfl (by decide) (by decide) dX8_when_69 (fun v23 lv' hlv => ?_)
              obtain rfl : lv' = [(3, .int v23), (0, .ref (ad 50)), (1, .int a1), (2, .int a2)] := hlv.symm.trans rfl
              refine zr_goto (tgt := 46) hB (by decide) dX8_when_72 ?_
              exact zr_sub [0, 1, 2, 3] rfl (hc13 (v23, o22))
      · refine zr_aload_n hB 0 rfl rfl dX8_when_34 ?_
        refine zr_iconst (v := 4) hB (by decide) dX8_when_35 ?_
        refine zr_callV (st := []) (C := RX8) (As := [.int 4]) (embc := em_iI L) hB (mX8_finding (sK := sK) (sV := sV) hi 4 I L) (zW_X8 rfl) rfl rfl lm_X8_74 q2_X8_finding q3_X8_finding q4_X8 q5_X8_finding qd_X8_finding (by decide) rfl rfl (Nat.le_of_ble_eq_true rfl) ⟨Nat.zero_le _, Nat.zero_le _⟩ dX8_when_36 (zr_kiI (fun o32 => ?_))
        exact zr_iret hB rfl rfl dX8_when_39
    · refine zr_aload_n hB 0 rfl rfl dX8_when_15 ?_
      refine zr_iconst (v := 0) hB (by decide) dX8_when_16 ?_
      refine zr_callV (st := []) (C := RX8) (As := [.int 0]) (embc := em_iI L) hB (mX8_finding (sK := sK) (sV := sV) hi 0 I L) (zW_X8 rfl) rfl rfl lm_X8_74 q2_X8_finding q3_X8_finding q4_X8 q5_X8_finding qd_X8_finding (by decide) rfl rfl (Nat.le_of_ble_eq_true rfl) ⟨Nat.zero_le _, Nat.zero_le _⟩ dX8_when_17 (zr_kiI (fun o35 => ?_))
      exact zr_iret hB rfl rfl dX8_when_20

def fX8_seed (a1 : Int32) (I : zI) : Option (Int32 × zI) :=
  zg 16 120 (
  zl (I 51 (zn 16)) fun v1 =>
  zg 16 120 (
  zl (zup I 51 (zn 16) a1) fun J2 =>
  some (v1, J2)))
set_option maxHeartbeats 4000000 in
set_option maxRecDepth 100000 in
theorem mX8_seed {l : Launch} {D : va_G} {T : zT} {ad sK sV : Nat → Nat} (hi : zInj ad) (a1 : Int32)  (I : zI) (L : zL) : ∀ o, fX8_seed a1 I = some o → zMet l yX8_seed cX8_seed 3 (some .int) 0 0 D T ad sK sV [.ref (ad 50), .int a1] I L (em_iI L o) := by
  intro o ho
  refine zMet.of hi (by decide +kernel) (Nat.le_of_ble_eq_true rfl) (fun p e s m args below meth c hB => ?_)
  refine zr_top (emb := em_iI L) (t := fX8_seed a1 I) ?_ ho
  unfold fX8_seed
  refine zr_aload_n hB 0 rfl rfl dX8_seed_0 ?_
  refine zr_get_X8 (w := 50) (k := 0) (v := .ref (ad 51)) hB rfl (by decide) rfl lf_X8_9 rfl dX8_seed_1 ?_
  refine zr_bipush (v := 16) hB (by decide) dX8_seed_4 ?_
  refine zr_iaload hB zA_51 dX8_seed_6 ?_
  refine zr_letI (fun v1 => ?_)
  refine zr_istore_n (lv' := [(2, .int v1), (0, .ref (ad 50)), (1, .int a1)]) hB rfl (by decide) rfl dX8_seed_7 ?_
  refine zr_aload_n hB 1 rfl rfl dX8_seed_8 ?_
  refine zr_get_X8 (w := 50) (k := 0) (v := .ref (ad 51)) hB rfl (by decide) rfl lf_X8_9 rfl dX8_seed_9 ?_
  refine zr_bipush (v := 16) hB (by decide) dX8_seed_12 ?_
  refine zr_iload_n hB 2 rfl rfl dX8_seed_14 ?_
  refine zr_iastore hB zA_51 dX8_seed_15 ?_
  refine zr_letM (fun J2 => ?_)
  refine zr_iload_n hB 0 rfl rfl dX8_seed_16 ?_
  exact zr_iret hB rfl rfl dX8_seed_17

def gX8_feed_43 (a1 : Int32) (s4 : Int32 × zI) : Option ((Int32 × zI) ⊕ (zI)) :=
  if s4.1 < 0 then
    some (.inr s4.2)
  else
  zg (s4.2 50 5) 120 (
  zl (zup s4.2 54 (zn (s4.2 50 5)) ((zshr a1 s4.1) &&& 255)) fun J13 =>
  zl (zup J13 50 5 ((J13 50 5) + 1)) fun J14 =>
  zl (s4.1 + (-8)) fun v15 =>
  some (.inl (v15, J14)))
def fX8_feed (n : Nat) (a1 : Int32) (a2 : Int32) (I : zI) : Option (Int32 × zI) :=
  zb (fX8_within a2.toInt64 1 4) fun o2 =>
  if o2 = 0 then
    zb (fX8_finding 0 I) fun o21 =>
    some (o21.1, o21.2)
  else
  if ((I 50 5) + a2) ≤ 120 then
    zl ((8 * a2) - 8) fun v3 =>
    zb (zit (gX8_feed_43 a1) n (v3, I)) fun x5 : zI =>
    some (x5 50 5, x5)
  else
  zb (fX8_finding 1 I) fun o18 =>
  some (o18.1, o18.2)
set_option maxHeartbeats 4000000 in
set_option maxRecDepth 100000 in
theorem mX8_feed {l : Launch} {D : va_G} {T : zT} {ad sK sV : Nat → Nat} (hi : zInj ad) (n : Nat) (a1 : Int32) (a2 : Int32)  (I : zI) (L : zL) : ∀ o, fX8_feed n a1 a2 I = some o → zMet l yX8_feed cX8_feed 4 (some .int) 1 25 D T ad sK sV [.ref (ad 50), .int a1, .int a2] I L (em_iI L o) := by
  intro o ho
  refine zMet.of hi (by decide +kernel) (Nat.le_of_ble_eq_true rfl) (fun p e s m args below meth c hB => ?_)
  refine zr_top (emb := em_iI L) (t := fX8_feed n a1 a2 I) ?_ ho
  unfold fX8_feed
  refine zr_iload_n hB 2 rfl rfl dX8_feed_0 ?_
  refine zr_i2l hB dX8_feed_1 ?_
  refine zr_lconst (v := 1) hB (by decide) dX8_feed_2 ?_
  refine zr_ldc2 (v := 4) hB lj_X8_143 dX8_feed_3 ?_
  refine zr_callS (st := []) (As := [.long a2.toInt64, .long 1, .long 4]) (embc := em_i0 I L) hB (mX8_within (sK := sK) (sV := sV) hi a2.toInt64 1 4 I L) lm_X8_54 q2_X8_within q4_X8 q5_X8_within qd_X8_within (by decide) rfl rfl (Nat.le_of_ble_eq_true rfl) ⟨Nat.zero_le _, Nat.zero_le _⟩ dX8_feed_6 (zr_ki0 (fun o2 => ?_))
  refine zr_ifne (tgt := 18) hB (by decide) dX8_feed_9 ?_ ?_
  · refine zr_aload_n hB 0 rfl rfl dX8_feed_18 ?_
    refine zr_get_X8 (w := 50) (k := 5) (v := .int (I 50 5)) hB rfl (by decide) rfl lf_X8_243 rfl dX8_feed_19 ?_
    refine zr_iload_n hB 2 rfl rfl dX8_feed_22 ?_
    refine zr_iadd hB dX8_feed_23 ?_
    refine zr_bipush (v := 120) hB (by decide) dX8_feed_24 ?_
    refine zr_icmp_le (tgt := 35) hB (by decide) dX8_feed_26 ?_ ?_
    · refine zr_bipush (v := 8) hB (by decide) dX8_feed_35 ?_
      refine zr_iload_n hB 2 rfl rfl dX8_feed_37 ?_
      refine zr_imul hB dX8_feed_38 ?_
      refine zr_bipush (v := 8) hB (by decide) dX8_feed_39 ?_
      refine zr_isub hB dX8_feed_41 ?_
      refine zr_letI (fun v3 => ?_)
      refine zr_istore_n (lv' := [(3, .int v3), (0, .ref (ad 50)), (1, .int a1), (2, .int a2)]) hB rfl (by decide) rfl dX8_feed_42 ?_
      refine zr_join (pcJ := 79) (fun x5 : zI => [(0, .ref (ad 50))]) (fun _ => []) (fun x5 => x5) (fun x5 => L) (fun x5 => ?_) (fun K11 hx10 => ?_)
      · refine zr_aload_n hB 0 rfl rfl dX8_feed_79 ?_
        refine zr_get_X8 (w := 50) (k := 5) (v := .int (x5 50 5)) hB rfl (by decide) rfl lf_X8_243 rfl dX8_feed_80 ?_
        exact zr_iret hB rfl rfl dX8_feed_83
      · refine zr_sub (lv' := (fun s4 : Int32 × zI => [(3, .int s4.1), (0, .ref (ad 50)), (1, .int a1)]) (v3, I)) [0, 1, 2] rfl (zr_loop (fun s4 : Int32 × zI => [(3, .int s4.1), (0, .ref (ad 50)), (1, .int a1)]) (fun s4 => s4.2) (fun s4 => L) (fun x5 : zI => [(0, .ref (ad 50))]) (fun x5 => x5) (fun x5 => L) hx10 (fun s4 K12 hc6 hx7 => ?_) n (v3, I))
        unfold gX8_feed_43
        refine zr_iload_n hB 0 rfl rfl dX8_feed_43 ?_
        refine zr_iflt (tgt := 79) hB (by decide) dX8_feed_44 ?_ ?_
        · exact zr_sub [1] rfl (hx7 s4.2)
        · refine zr_aload_n hB 1 rfl rfl dX8_feed_47 ?_
          refine zr_get_X8 (w := 50) (k := 4) (v := .ref (ad 54)) hB rfl (by decide) rfl lf_X8_19 rfl dX8_feed_48 ?_
          refine zr_aload_n hB 1 rfl rfl dX8_feed_51 ?_
          refine zr_get_X8 (w := 50) (k := 5) (v := .int (s4.2 50 5)) hB rfl (by decide) rfl lf_X8_243 rfl dX8_feed_52 ?_
          refine zr_iload_n hB 2 rfl rfl dX8_feed_55 ?_
          refine zr_iload_n hB 0 rfl rfl dX8_feed_56 ?_
          refine zr_ishr hB dX8_feed_57 ?_
          refine zr_sipush (v := 255) hB (by decide) dX8_feed_58 ?_
          refine zr_iand hB dX8_feed_61 ?_
          refine zr_iastore hB zA_54 dX8_feed_62 ?_
          refine zr_letM (fun J13 => ?_)
          refine zr_aload_n hB 1 rfl rfl dX8_feed_63 ?_
          refine zr_dup hB rfl dX8_feed_64 ?_
          refine zr_get_X8 (w := 50) (k := 5) (v := .int (J13 50 5)) hB rfl (by decide) rfl lf_X8_243 rfl dX8_feed_65 ?_
          refine zr_iconst (v := 1) hB (by decide) dX8_feed_68 ?_
          refine zr_iadd hB dX8_feed_69 ?_
          refine zr_put_X8 (w := 50) (k := 5) hB rfl (by decide) rfl rfl rfl lf_X8_243 rfl dX8_feed_70 ?_
          refine zr_letM (fun J14 => ?_)
          refine zr_iincL hB (j := 0) (n := -8) (w := (-8)) rfl (by decide) (by decide) dX8_feed_73 (fun v15 lv' hlv => ?_)
          obtain rfl : lv' = [(3, .int v15), (0, .ref (ad 50)), (1, .int a1)] := hlv.symm.trans rfl
          refine zr_goto (tgt := 43) hB (by decide) dX8_feed_76 ?_
          exact zr_sub [0, 1, 2] rfl (hc6 (v15, J14))
    · refine zr_aload_n hB 0 rfl rfl dX8_feed_29 ?_
      refine zr_iconst (v := 1) hB (by decide) dX8_feed_30 ?_
      refine zr_callV (st := []) (C := RX8) (As := [.int 1]) (embc := em_iI L) hB (mX8_finding (sK := sK) (sV := sV) hi 1 I L) (zW_X8 rfl) rfl rfl lm_X8_74 q2_X8_finding q3_X8_finding q4_X8 q5_X8_finding qd_X8_finding (by decide) rfl rfl (Nat.le_of_ble_eq_true rfl) ⟨Nat.zero_le _, Nat.zero_le _⟩ dX8_feed_31 (zr_kiI (fun o18 => ?_))
      exact zr_iret hB rfl rfl dX8_feed_34
  · refine zr_aload_n hB 0 rfl rfl dX8_feed_12 ?_
    refine zr_iconst (v := 0) hB (by decide) dX8_feed_13 ?_
    refine zr_callV (st := []) (C := RX8) (As := [.int 0]) (embc := em_iI L) hB (mX8_finding (sK := sK) (sV := sV) hi 0 I L) (zW_X8 rfl) rfl rfl lm_X8_74 q2_X8_finding q3_X8_finding q4_X8 q5_X8_finding qd_X8_finding (by decide) rfl rfl (Nat.le_of_ble_eq_true rfl) ⟨Nat.zero_le _, Nat.zero_le _⟩ dX8_feed_14 (zr_kiI (fun o21 => ?_))
    exact zr_iret hB rfl rfl dX8_feed_17

def fX8_wipe (I : zI) : Option (Int32 × zI) :=
  zl (I 50 5) fun v1 =>
  zl (zup I 50 5 0) fun J2 =>
  some (v1, J2)
set_option maxHeartbeats 4000000 in
set_option maxRecDepth 100000 in
theorem mX8_wipe {l : Launch} {D : va_G} {T : zT} {ad sK sV : Nat → Nat} (hi : zInj ad)   (I : zI) (L : zL) : ∀ o, fX8_wipe I = some o → zMet l yX8_wipe cX8_wipe 2 (some .int) 0 0 D T ad sK sV [.ref (ad 50)] I L (em_iI L o) := by
  intro o ho
  refine zMet.of hi (by decide +kernel) (Nat.le_of_ble_eq_true rfl) (fun p e s m args below meth c hB => ?_)
  refine zr_top (emb := em_iI L) (t := fX8_wipe I) ?_ ho
  unfold fX8_wipe
  refine zr_aload_n hB 0 rfl rfl dX8_wipe_0 ?_
  refine zr_get_X8 (w := 50) (k := 5) (v := .int (I 50 5)) hB rfl (by decide) rfl lf_X8_243 rfl dX8_wipe_1 ?_
  refine zr_letI (fun v1 => ?_)
  refine zr_istore_n (lv' := [(1, .int v1), (0, .ref (ad 50))]) hB rfl (by decide) rfl dX8_wipe_4 ?_
  refine zr_aload_n hB 1 rfl rfl dX8_wipe_5 ?_
  refine zr_iconst (v := 0) hB (by decide) dX8_wipe_6 ?_
  refine zr_put_X8 (w := 50) (k := 5) hB rfl (by decide) rfl rfl rfl lf_X8_243 rfl dX8_wipe_7 ?_
  refine zr_letM (fun J2 => ?_)
  refine zr_iload_n hB 0 rfl rfl dX8_wipe_10 ?_
  exact zr_iret hB rfl rfl dX8_wipe_11

def fX8_isByte (a1 : Int32) (a2 : Int32) (a3 : Int32) (I : zI) : Option (Int32) :=
  if (I 50 5) ≤ a1 then
    some 0
  else
  zg a1 120 (
  zb (fX8_within ((I 54 (zn a1)).toInt64) a2.toInt64 a3.toInt64) fun o2 =>
  if o2 = 0 then
    some 0
  else
  some 1)
set_option maxHeartbeats 4000000 in
set_option maxRecDepth 100000 in
theorem mX8_isByte {l : Launch} {D : va_G} {T : zT} {ad sK sV : Nat → Nat} (hi : zInj ad) (a1 : Int32) (a2 : Int32) (a3 : Int32)  (I : zI) (L : zL) : ∀ o, fX8_isByte a1 a2 a3 I = some o → zMet l yX8_isByte cX8_isByte 4 (some .boolean) 1 25 D T ad sK sV [.ref (ad 50), .int a1, .int a2, .int a3] I L (em_i0 I L o) := by
  intro o ho
  refine zMet.of hi (by decide +kernel) (Nat.le_of_ble_eq_true rfl) (fun p e s m args below meth c hB => ?_)
  refine zr_top (emb := em_i0 I L) (t := fX8_isByte a1 a2 a3 I) ?_ ho
  unfold fX8_isByte
  refine zr_iload_n hB 1 rfl rfl dX8_isByte_0 ?_
  refine zr_aload_n hB 0 rfl rfl dX8_isByte_1 ?_
  refine zr_get_X8 (w := 50) (k := 5) (v := .int (I 50 5)) hB rfl (by decide) rfl lf_X8_243 rfl dX8_isByte_2 ?_
  refine zr_icmp_ge (tgt := 29) hB (by decide) dX8_isByte_5 ?_ ?_
  · refine zr_iconst (v := 0) hB (by decide) dX8_isByte_29 ?_
    exact zr_zretC (by decide) hB rfl rfl dX8_isByte_30
  · refine zr_aload_n hB 0 rfl rfl dX8_isByte_8 ?_
    refine zr_get_X8 (w := 50) (k := 4) (v := .ref (ad 54)) hB rfl (by decide) rfl lf_X8_19 rfl dX8_isByte_9 ?_
    refine zr_iload_n hB 1 rfl rfl dX8_isByte_12 ?_
    refine zr_iaload hB zA_54 dX8_isByte_13 ?_
    refine zr_i2l hB dX8_isByte_14 ?_
    refine zr_iload_n hB 2 rfl rfl dX8_isByte_15 ?_
    refine zr_i2l hB dX8_isByte_16 ?_
    refine zr_iload_n hB 3 rfl rfl dX8_isByte_17 ?_
    refine zr_i2l hB dX8_isByte_18 ?_
    refine zr_callS (st := []) (As := [.long ((I 54 (zn a1)).toInt64), .long a2.toInt64, .long a3.toInt64]) (embc := em_i0 I L) hB (mX8_within (sK := sK) (sV := sV) hi ((I 54 (zn a1)).toInt64) a2.toInt64 a3.toInt64 I L) lm_X8_54 q2_X8_within q4_X8 q5_X8_within qd_X8_within (by decide) rfl rfl (Nat.le_of_ble_eq_true rfl) ⟨Nat.zero_le _, Nat.zero_le _⟩ dX8_isByte_19 (zr_ki0 (fun o2 => ?_))
    refine zr_ifeq (tgt := 29) hB (by decide) dX8_isByte_22 ?_ ?_
    · refine zr_iconst (v := 0) hB (by decide) dX8_isByte_29 ?_
      exact zr_zretC (by decide) hB rfl rfl dX8_isByte_30
    · refine zr_iconst (v := 1) hB (by decide) dX8_isByte_25 ?_
      refine zr_goto (tgt := 30) hB (by decide) dX8_isByte_26 ?_
      exact zr_zretC (by decide) hB rfl rfl dX8_isByte_30

def gX8_next_8  (s2 : zI) : Option ((zI) ⊕ (zI)) :=
  zb (fX8_isByte (s2 50 13) 32 32 s2) fun o12 =>
  if o12 = 0 then
    some (.inr s2)
  else
  zl (zup s2 50 13 ((s2 50 13) + 1)) fun J13 =>
  some (.inl J13)
def gX8_next_70 (o16 : Int32) (o18 : Int32) (s19 : zI) : Option ((zI) ⊕ (zI)) :=
  zbs (
    if o16 = 0 then
      some (.inr ())
    else
    zb (fX8_isByte (s19 50 14) 97 122 s19) fun o33 =>
    if o33 = 0 then
      some (.inr ())
    else
    zl (zup s19 50 14 ((s19 50 14) + 1)) fun J34 =>
    some (.inl (.inl J34))) fun x28 : Unit =>
  if o18 = 0 then
    some (.inr s19)
  else
  zb (fX8_isByte (s19 50 14) 48 57 s19) fun o36 =>
  if o36 = 0 then
    some (.inr s19)
  else
  zl (zup s19 50 14 ((s19 50 14) + 1)) fun J37 =>
  some (.inl J37)
def fX8_next (n : Nat) (I : zI) : Option (zI) :=
  zl (zup I 50 13 (I 50 14)) fun J1 =>
  zb (zit gX8_next_8 n J1) fun x3 : zI =>
  zl (zup x3 50 14 (x3 50 13)) fun J14 =>
  zb (fX8_isByte (J14 50 13) 97 122 J14) fun o16 =>
  zb (fX8_isByte (J14 50 13) 48 57 J14) fun o18 =>
  zb (zit (gX8_next_70 o16 o18) n J14) fun x20 : zI =>
  if o16 = 0 then
    if o18 = 0 then
      if (x20 50 5) ≤ (x20 50 13) then
        zl (zup x20 50 14 ((x20 50 14) + 0)) fun J40 =>
        some J40
      else
      zl (zup x20 50 14 ((x20 50 14) + 1)) fun J41 =>
      some J41
    else
    zl (zup x20 50 14 ((x20 50 14) + 0)) fun J39 =>
    some J39
  else
  zl (zup x20 50 14 ((x20 50 14) + 0)) fun J38 =>
  some J38
set_option maxHeartbeats 4000000 in
set_option maxRecDepth 100000 in
theorem mX8_next {l : Launch} {D : va_G} {T : zT} {ad sK sV : Nat → Nat} (hi : zInj ad) (n : Nat)   (I : zI) (L : zL) : ∀ o, fX8_next n I = some o → zMet l yX8_next cX8_next 3 none 2 48 D T ad sK sV [.ref (ad 50)] I L (em_vI L o) := by
  intro o ho
  refine zMet.of hi (by decide +kernel) (Nat.le_of_ble_eq_true rfl) (fun p e s m args below meth c hB => ?_)
  refine zr_top (emb := em_vI L) (t := fX8_next n I) ?_ ho
  unfold fX8_next
  refine zr_aload_n hB 0 rfl rfl dX8_next_0 ?_
  refine zr_aload_n hB 0 rfl rfl dX8_next_1 ?_
  refine zr_get_X8 (w := 50) (k := 14) (v := .int (I 50 14)) hB rfl (by decide) rfl lf_X8_246 rfl dX8_next_2 ?_
  refine zr_put_X8 (w := 50) (k := 13) hB rfl (by decide) rfl rfl rfl lf_X8_249 rfl dX8_next_5 ?_
  refine zr_letM (fun J1 => ?_)
  refine zr_join (pcJ := 36) (fun x3 : zI => [(0, .ref (ad 50))]) (fun _ => []) (fun x3 => x3) (fun x3 => L) (fun x3 => ?_) (fun K9 hx8 => ?_)
  · refine zr_aload_n hB 0 rfl rfl dX8_next_36 ?_
    refine zr_aload_n hB 0 rfl rfl dX8_next_37 ?_
    refine zr_get_X8 (w := 50) (k := 13) (v := .int (x3 50 13)) hB rfl (by decide) rfl lf_X8_249 rfl dX8_next_38 ?_
    refine zr_put_X8 (w := 50) (k := 14) hB rfl (by decide) rfl rfl rfl lf_X8_246 rfl dX8_next_41 ?_
    refine zr_letM (fun J14 => ?_)
    refine zr_aload_n hB 0 rfl rfl dX8_next_44 ?_
    refine zr_aload_n hB 0 rfl rfl dX8_next_45 ?_
    refine zr_get_X8 (w := 50) (k := 13) (v := .int (J14 50 13)) hB rfl (by decide) rfl lf_X8_249 rfl dX8_next_46 ?_
    refine zr_bipush (v := 97) hB (by decide) dX8_next_49 ?_
    refine zr_bipush (v := 122) hB (by decide) dX8_next_51 ?_
    refine zr_callV (st := []) (C := RX8) (As := [.int (J14 50 13), .int 97, .int 122]) (embc := em_i0 J14 L) hB (mX8_isByte (sK := sK) (sV := sV) hi (J14 50 13) 97 122 J14 L) (zW_X8 rfl) rfl rfl lm_X8_252 q2_X8_isByte q3_X8_isByte q4_X8 q5_X8_isByte qd_X8_isByte (by decide) rfl rfl (Nat.le_of_ble_eq_true rfl) ⟨Nat.zero_le _, Nat.zero_le _⟩ dX8_next_53 (zr_ki0 (fun o16 => ?_))
    refine zr_istore_n (lv' := [(1, .int o16), (0, .ref (ad 50))]) hB rfl (by decide) rfl dX8_next_56 ?_
    refine zr_aload_n hB 1 rfl rfl dX8_next_57 ?_
    refine zr_aload_n hB 1 rfl rfl dX8_next_58 ?_
    refine zr_get_X8 (w := 50) (k := 13) (v := .int (J14 50 13)) hB rfl (by decide) rfl lf_X8_249 rfl dX8_next_59 ?_
    refine zr_bipush (v := 48) hB (by decide) dX8_next_62 ?_
    refine zr_bipush (v := 57) hB (by decide) dX8_next_64 ?_
    refine zr_callV (st := []) (C := RX8) (As := [.int (J14 50 13), .int 48, .int 57]) (embc := em_i0 J14 L) hB (mX8_isByte (sK := sK) (sV := sV) hi (J14 50 13) 48 57 J14 L) (zW_X8 rfl) rfl rfl lm_X8_252 q2_X8_isByte q3_X8_isByte q4_X8 q5_X8_isByte qd_X8_isByte (by decide) rfl rfl (Nat.le_of_ble_eq_true rfl) ⟨Nat.zero_le _, Nat.zero_le _⟩ dX8_next_66 (zr_ki0 (fun o18 => ?_))
    refine zr_istore_n (lv' := [(2, .int o18), (1, .int o16), (0, .ref (ad 50))]) hB rfl (by decide) rfl dX8_next_69 ?_
    refine zr_join (pcJ := 121) (fun x20 : zI => [(2, .int o18), (1, .int o16), (0, .ref (ad 50))]) (fun _ => []) (fun x20 => x20) (fun x20 => L) (fun x20 => ?_) (fun K26 hx25 => ?_)
    · refine zr_aload_n hB 2 rfl rfl dX8_next_121 ?_
      refine zr_dup hB rfl dX8_next_122 ?_
      refine zr_get_X8 (w := 50) (k := 14) (v := .int (x20 50 14)) hB rfl (by decide) rfl lf_X8_246 rfl dX8_next_123 ?_
      refine zr_iload_n hB 1 rfl rfl dX8_next_126 ?_
      refine zr_ifne (tgt := 149) hB (by decide) dX8_next_127 ?_ ?_
      · refine zr_iconst (v := 0) hB (by decide) dX8_next_149 ?_
        refine zr_iadd hB dX8_next_150 ?_
        refine zr_put_X8 (w := 50) (k := 14) hB rfl (by decide) rfl rfl rfl lf_X8_246 rfl dX8_next_151 ?_
        refine zr_letM (fun J38 => ?_)
        exact zr_vret hB rfl rfl dX8_next_154
      · refine zr_iload_n hB 0 rfl rfl dX8_next_130 ?_
        refine zr_ifne (tgt := 149) hB (by decide) dX8_next_131 ?_ ?_
        · refine zr_iconst (v := 0) hB (by decide) dX8_next_149 ?_
          refine zr_iadd hB dX8_next_150 ?_
          refine zr_put_X8 (w := 50) (k := 14) hB rfl (by decide) rfl rfl rfl lf_X8_246 rfl dX8_next_151 ?_
          refine zr_letM (fun J39 => ?_)
          exact zr_vret hB rfl rfl dX8_next_154
        · refine zr_aload_n hB 2 rfl rfl dX8_next_134 ?_
          refine zr_get_X8 (w := 50) (k := 13) (v := .int (x20 50 13)) hB rfl (by decide) rfl lf_X8_249 rfl dX8_next_135 ?_
          refine zr_aload_n hB 2 rfl rfl dX8_next_138 ?_
          refine zr_get_X8 (w := 50) (k := 5) (v := .int (x20 50 5)) hB rfl (by decide) rfl lf_X8_243 rfl dX8_next_139 ?_
          refine zr_icmp_ge (tgt := 149) hB (by decide) dX8_next_142 ?_ ?_
          · refine zr_iconst (v := 0) hB (by decide) dX8_next_149 ?_
            refine zr_iadd hB dX8_next_150 ?_
            refine zr_put_X8 (w := 50) (k := 14) hB rfl (by decide) rfl rfl rfl lf_X8_246 rfl dX8_next_151 ?_
            refine zr_letM (fun J40 => ?_)
            exact zr_vret hB rfl rfl dX8_next_154
          · refine zr_iconst (v := 1) hB (by decide) dX8_next_145 ?_
            refine zr_goto (tgt := 150) hB (by decide) dX8_next_146 ?_
            refine zr_iadd hB dX8_next_150 ?_
            refine zr_put_X8 (w := 50) (k := 14) hB rfl (by decide) rfl rfl rfl lf_X8_246 rfl dX8_next_151 ?_
            refine zr_letM (fun J41 => ?_)
            exact zr_vret hB rfl rfl dX8_next_154
    · refine zr_sub (lv' := (fun s19 : zI => [(2, .int o18), (1, .int o16), (0, .ref (ad 50))]) J14) [0, 1, 2] rfl (zr_loop (fun s19 : zI => [(2, .int o18), (1, .int o16), (0, .ref (ad 50))]) (fun s19 => s19) (fun s19 => L) (fun x20 : zI => [(2, .int o18), (1, .int o16), (0, .ref (ad 50))]) (fun x20 => x20) (fun x20 => L) hx25 (fun s19 K27 hc21 hx22 => ?_) n J14)
      unfold gX8_next_70
      refine zr_iload_n hB 1 rfl rfl dX8_next_70 ?_
      refine zr_joins (pcJ := 89) (fun x28 : Unit => [(2, .int o18), (1, .int o16), (0, .ref (ad 50))]) (fun x28 => []) (fun x28 => s19) (fun x28 => L) (fun x28 => ?_) (fun K31 hi30 hj29 => ?_)
      · refine zr_iload_n hB 0 rfl rfl dX8_next_89 ?_
        refine zr_ifeq (tgt := 121) hB (by decide) dX8_next_90 ?_ ?_
        · exact zr_sub [0, 1, 2] rfl (hx22 s19)
        · refine zr_aload_n hB 2 rfl rfl dX8_next_93 ?_
          refine zr_aload_n hB 2 rfl rfl dX8_next_94 ?_
          refine zr_get_X8 (w := 50) (k := 14) (v := .int (s19 50 14)) hB rfl (by decide) rfl lf_X8_246 rfl dX8_next_95 ?_
          refine zr_bipush (v := 48) hB (by decide) dX8_next_98 ?_
          refine zr_bipush (v := 57) hB (by decide) dX8_next_100 ?_
          refine zr_callV (st := []) (C := RX8) (As := [.int (s19 50 14), .int 48, .int 57]) (embc := em_i0 s19 L) hB (mX8_isByte (sK := sK) (sV := sV) hi (s19 50 14) 48 57 s19 L) (zW_X8 rfl) rfl rfl lm_X8_252 q2_X8_isByte q3_X8_isByte q4_X8 q5_X8_isByte qd_X8_isByte (by decide) rfl rfl (Nat.le_of_ble_eq_true rfl) ⟨Nat.zero_le _, Nat.zero_le _⟩ dX8_next_102 (zr_ki0 (fun o36 => ?_))
          refine zr_ifeq (tgt := 121) hB (by decide) dX8_next_105 ?_ ?_
          · exact zr_sub [0, 1, 2] rfl (hx22 s19)
          · refine zr_aload_n hB 2 rfl rfl dX8_next_108 ?_
            refine zr_dup hB rfl dX8_next_109 ?_
            refine zr_get_X8 (w := 50) (k := 14) (v := .int (s19 50 14)) hB rfl (by decide) rfl lf_X8_246 rfl dX8_next_110 ?_
            refine zr_iconst (v := 1) hB (by decide) dX8_next_113 ?_
            refine zr_iadd hB dX8_next_114 ?_
            refine zr_put_X8 (w := 50) (k := 14) hB rfl (by decide) rfl rfl rfl lf_X8_246 rfl dX8_next_115 ?_
            refine zr_letM (fun J37 => ?_)
            refine zr_goto (tgt := 70) hB (by decide) dX8_next_118 ?_
            exact zr_sub [0, 1, 2] rfl (hc21 J37)
      · refine zr_ifeq (tgt := 89) hB (by decide) dX8_next_71 ?_ ?_
        · exact zr_sub [0, 1, 2] rfl (hj29 ())
        · refine zr_aload_n hB 2 rfl rfl dX8_next_74 ?_
          refine zr_aload_n hB 2 rfl rfl dX8_next_75 ?_
          refine zr_get_X8 (w := 50) (k := 14) (v := .int (s19 50 14)) hB rfl (by decide) rfl lf_X8_246 rfl dX8_next_76 ?_
          refine zr_bipush (v := 97) hB (by decide) dX8_next_79 ?_
          refine zr_bipush (v := 122) hB (by decide) dX8_next_81 ?_
          refine zr_callV (st := []) (C := RX8) (As := [.int (s19 50 14), .int 97, .int 122]) (embc := em_i0 s19 L) hB (mX8_isByte (sK := sK) (sV := sV) hi (s19 50 14) 97 122 s19 L) (zW_X8 rfl) rfl rfl lm_X8_252 q2_X8_isByte q3_X8_isByte q4_X8 q5_X8_isByte qd_X8_isByte (by decide) rfl rfl (Nat.le_of_ble_eq_true rfl) ⟨Nat.zero_le _, Nat.zero_le _⟩ dX8_next_83 (zr_ki0 (fun o33 => ?_))
          refine zr_ifne (tgt := 108) hB (by decide) dX8_next_86 ?_ ?_
          · refine zr_aload_n hB 2 rfl rfl dX8_next_108 ?_
            refine zr_dup hB rfl dX8_next_109 ?_
            refine zr_get_X8 (w := 50) (k := 14) (v := .int (s19 50 14)) hB rfl (by decide) rfl lf_X8_246 rfl dX8_next_110 ?_
            refine zr_iconst (v := 1) hB (by decide) dX8_next_113 ?_
            refine zr_iadd hB dX8_next_114 ?_
            refine zr_put_X8 (w := 50) (k := 14) hB rfl (by decide) rfl rfl rfl lf_X8_246 rfl dX8_next_115 ?_
            refine zr_letM (fun J34 => ?_)
            refine zr_goto (tgt := 70) hB (by decide) dX8_next_118 ?_
            refine hi30 _ _ _ _ _ _ ?_
            exact zr_sub [0, 1, 2] rfl (hc21 J34)
          · exact zr_sub [0, 1, 2] rfl (hj29 ())
  · refine zr_sub (lv' := (fun s2 : zI => [(0, .ref (ad 50))]) J1) [0] rfl (zr_loop (fun s2 : zI => [(0, .ref (ad 50))]) (fun s2 => s2) (fun s2 => L) (fun x3 : zI => [(0, .ref (ad 50))]) (fun x3 => x3) (fun x3 => L) hx8 (fun s2 K10 hc4 hx5 => ?_) n J1)
    unfold gX8_next_8
    refine zr_aload_n hB 0 rfl rfl dX8_next_8 ?_
    refine zr_aload_n hB 0 rfl rfl dX8_next_9 ?_
    refine zr_get_X8 (w := 50) (k := 13) (v := .int (s2 50 13)) hB rfl (by decide) rfl lf_X8_249 rfl dX8_next_10 ?_
    refine zr_bipush (v := 32) hB (by decide) dX8_next_13 ?_
    refine zr_bipush (v := 32) hB (by decide) dX8_next_15 ?_
    refine zr_callV (st := []) (C := RX8) (As := [.int (s2 50 13), .int 32, .int 32]) (embc := em_i0 s2 L) hB (mX8_isByte (sK := sK) (sV := sV) hi (s2 50 13) 32 32 s2 L) (zW_X8 rfl) rfl rfl lm_X8_252 q2_X8_isByte q3_X8_isByte q4_X8 q5_X8_isByte qd_X8_isByte (by decide) rfl rfl (Nat.le_of_ble_eq_true rfl) ⟨Nat.zero_le _, Nat.zero_le _⟩ dX8_next_17 (zr_ki0 (fun o12 => ?_))
    refine zr_ifeq (tgt := 36) hB (by decide) dX8_next_20 ?_ ?_
    · exact zr_sub [0] rfl (hx5 s2)
    · refine zr_aload_n hB 0 rfl rfl dX8_next_23 ?_
      refine zr_dup hB rfl dX8_next_24 ?_
      refine zr_get_X8 (w := 50) (k := 13) (v := .int (s2 50 13)) hB rfl (by decide) rfl lf_X8_249 rfl dX8_next_25 ?_
      refine zr_iconst (v := 1) hB (by decide) dX8_next_28 ?_
      refine zr_iadd hB dX8_next_29 ?_
      refine zr_put_X8 (w := 50) (k := 13) hB rfl (by decide) rfl rfl rfl lf_X8_249 rfl dX8_next_30 ?_
      refine zr_letM (fun J13 => ?_)
      refine zr_goto (tgt := 8) hB (by decide) dX8_next_33 ?_
      exact zr_sub [0] rfl (hc4 J13)

def gX8_isWord_31 (a1 : Nat) (I : zI) (s9 : Int32 × Int32) : Option ((Int32 × Int32) ⊕ (Int32)) :=
  if s9.1 = 0 then
    some (.inr s9.1)
  else
  zgs a1 (
  if (nI (zsLen a1)) ≤ s9.2 then
    some (.inr s9.1)
  else
  zg ((I 50 13) + s9.2) 120 (
  zgs a1 (
  zg s9.2 (zsLen a1) (
  if (I 54 (zn ((I 50 13) + s9.2))) = (zsAt a1 (zn s9.2)) then
    zl (s9.2 + 1) fun v19 =>
    some (.inl (1, v19))
  else
  zl (s9.2 + 1) fun v18 =>
  some (.inl (0, v18))))))
def fX8_isWord (n : Nat) (a1 : Nat) (I : zI) : Option (Int32) :=
  zb (
    zbs (
      if (I 50 15) = 0 then
        zgs a1 (
        if ((I 50 14) - (I 50 13)) = (nI (zsLen a1)) then
          some (.inl 1)
        else
        some (.inr ()))
      else
      some (.inr ())) fun x5 : Unit =>
    some 0) fun x1 : Int32 =>
  zb (zit (gX8_isWord_31 a1 I) n (x1, 0)) fun x10 : Int32 =>
  zgb x10 (
  some x10)
set_option maxHeartbeats 4000000 in
set_option maxRecDepth 100000 in
theorem mX8_isWord {l : Launch} {D : va_G} {T : zT} {ad sK sV : Nat → Nat} (hi : zInj ad) (n : Nat) (a1 : Nat)  (I : zI) (L : zL) : ∀ o, fX8_isWord n a1 I = some o → zMet l yX8_isWord cX8_isWord 4 (some .boolean) 4 101 D T ad sK sV [.ref (ad 50), .ref (sK a1)] I L (em_i0 I L o) := by
  intro o ho
  refine zMet.of hi (by decide +kernel) (Nat.le_of_ble_eq_true rfl) (fun p e s m args below meth c hB => ?_)
  refine zr_top (emb := em_i0 I L) (t := fX8_isWord n a1 I) ?_ ho
  unfold fX8_isWord
  refine zr_aload_n hB 0 rfl rfl dX8_isWord_0 ?_
  refine zr_get_X8 (w := 50) (k := 15) (v := .int (I 50 15)) hB rfl (by decide) rfl lf_X8_255 rfl dX8_isWord_1 ?_
  refine zr_join (pcJ := 28) (fun x1 : Int32 => [(0, .ref (ad 50)), (1, .ref (sK a1))]) (fun x1 => [.int x1]) (fun x1 => I) (fun x1 => L) (fun x1 => ?_) (fun K4 hj2 => ?_)
  · refine zr_istore_n (lv' := [(2, .int x1), (0, .ref (ad 50)), (1, .ref (sK a1))]) hB rfl (by decide) rfl dX8_isWord_28 ?_
    refine zr_iconst (v := 0) hB (by decide) dX8_isWord_29 ?_
    refine zr_istore_n (lv' := [(3, .int 0), (2, .int x1), (0, .ref (ad 50)), (1, .ref (sK a1))]) hB rfl (by decide) rfl dX8_isWord_30 ?_
    refine zr_join (pcJ := 74) (fun x10 : Int32 => [(2, .int x10)]) (fun _ => []) (fun x10 => I) (fun x10 => L) (fun x10 => ?_) (fun K16 hx15 => ?_)
    · refine zr_iload_n hB 0 rfl rfl dX8_isWord_74 ?_
      refine zr_gb (fun hv => ?_)
      exact zr_zretC hv hB rfl rfl dX8_isWord_75
    · refine zr_sub (lv' := (fun s9 : Int32 × Int32 => [(2, .int s9.1), (3, .int s9.2), (0, .ref (ad 50)), (1, .ref (sK a1))]) (x1, 0)) [1, 0, 2, 3] rfl (zr_loop (fun s9 : Int32 × Int32 => [(2, .int s9.1), (3, .int s9.2), (0, .ref (ad 50)), (1, .ref (sK a1))]) (fun s9 => I) (fun s9 => L) (fun x10 : Int32 => [(2, .int x10)]) (fun x10 => I) (fun x10 => L) hx15 (fun s9 K17 hc11 hx12 => ?_) n (x1, 0))
      unfold gX8_isWord_31
      refine zr_iload_n hB 0 rfl rfl dX8_isWord_31 ?_
      refine zr_ifeq (tgt := 74) hB (by decide) dX8_isWord_32 ?_ ?_
      · exact zr_sub [0] rfl (hx12 s9.1)
      · refine zr_iload_n hB 1 rfl rfl dX8_isWord_35 ?_
        refine zr_aload_n hB 3 rfl rfl dX8_isWord_36 ?_
        refine zr_slen hB (by decide) (by decide) (Nat.le_of_ble_eq_true rfl) ⟨Nat.zero_le _, Nat.zero_le _⟩ lm_X8_259 dX8_isWord_37 ?_
        refine zr_icmp_ge (tgt := 74) hB (by decide) dX8_isWord_40 ?_ ?_
        · exact zr_sub [0] rfl (hx12 s9.1)
        · refine zr_aload_n hB 2 rfl rfl dX8_isWord_43 ?_
          refine zr_get_X8 (w := 50) (k := 4) (v := .ref (ad 54)) hB rfl (by decide) rfl lf_X8_19 rfl dX8_isWord_44 ?_
          refine zr_aload_n hB 2 rfl rfl dX8_isWord_47 ?_
          refine zr_get_X8 (w := 50) (k := 13) (v := .int (I 50 13)) hB rfl (by decide) rfl lf_X8_249 rfl dX8_isWord_48 ?_
          refine zr_iload_n hB 1 rfl rfl dX8_isWord_51 ?_
          refine zr_iadd hB dX8_isWord_52 ?_
          refine zr_iaload hB zA_54 dX8_isWord_53 ?_
          refine zr_aload_n hB 3 rfl rfl dX8_isWord_54 ?_
          refine zr_iload_n hB 1 rfl rfl dX8_isWord_55 ?_
          refine zr_scharAt hB (by decide) (by decide) (Nat.le_of_ble_eq_true rfl) ⟨Nat.zero_le _, Nat.zero_le _⟩ lm_X8_264 dX8_isWord_56 ?_
          refine zr_icmp_ne (tgt := 66) hB (by decide) dX8_isWord_59 ?_ ?_
          · refine zr_iconst (v := 0) hB (by decide) dX8_isWord_66 ?_
            refine zr_istore_n (lv' := [(2, .int 0), (3, .int s9.2), (0, .ref (ad 50)), (1, .ref (sK a1))]) hB rfl (by decide) rfl dX8_isWord_67 ?_
            refine zr_iincL hB (j := 1) (n := 1) (w := 1) rfl (by decide) (by decide) dX8_isWord_68 (fun v18 lv' hlv => ?_)
            obtain rfl : lv' = [(3, .int v18), (2, .int 0), (0, .ref (ad 50)), (1, .ref (sK a1))] := hlv.symm.trans rfl
            refine zr_goto (tgt := 31) hB (by decide) dX8_isWord_71 ?_
            exact zr_sub [1, 0, 2, 3] rfl (hc11 (0, v18))
          · refine zr_iconst (v := 1) hB (by decide) dX8_isWord_62 ?_
            refine zr_goto (tgt := 67) hB (by decide) dX8_isWord_63 ?_
            refine zr_istore_n (lv' := [(2, .int 1), (3, .int s9.2), (0, .ref (ad 50)), (1, .ref (sK a1))]) hB rfl (by decide) rfl dX8_isWord_67 ?_
            refine zr_iincL hB (j := 1) (n := 1) (w := 1) rfl (by decide) (by decide) dX8_isWord_68 (fun v19 lv' hlv => ?_)
            obtain rfl : lv' = [(3, .int v19), (2, .int 1), (0, .ref (ad 50)), (1, .ref (sK a1))] := hlv.symm.trans rfl
            refine zr_goto (tgt := 31) hB (by decide) dX8_isWord_71 ?_
            exact zr_sub [1, 0, 2, 3] rfl (hc11 (1, v19))
  · refine zr_joins (pcJ := 27) (fun x5 : Unit => [(0, .ref (ad 50)), (1, .ref (sK a1))]) (fun x5 => []) (fun x5 => I) (fun x5 => L) (fun x5 => ?_) (fun K8 hi7 hj6 => ?_)
    · refine zr_iconst (v := 0) hB (by decide) dX8_isWord_27 ?_
      exact zr_sub [0, 1] rfl (hj2 0)
    · refine zr_ifne (tgt := 27) hB (by decide) dX8_isWord_4 ?_ ?_
      · exact zr_sub [0, 1] rfl (hj6 ())
      · refine zr_aload_n hB 0 rfl rfl dX8_isWord_7 ?_
        refine zr_get_X8 (w := 50) (k := 14) (v := .int (I 50 14)) hB rfl (by decide) rfl lf_X8_246 rfl dX8_isWord_8 ?_
        refine zr_aload_n hB 0 rfl rfl dX8_isWord_11 ?_
        refine zr_get_X8 (w := 50) (k := 13) (v := .int (I 50 13)) hB rfl (by decide) rfl lf_X8_249 rfl dX8_isWord_12 ?_
        refine zr_isub hB dX8_isWord_15 ?_
        refine zr_aload_n hB 1 rfl rfl dX8_isWord_16 ?_
        refine zr_slen hB (by decide) (by decide) (Nat.le_of_ble_eq_true rfl) ⟨Nat.zero_le _, Nat.zero_le _⟩ lm_X8_259 dX8_isWord_17 ?_
        refine zr_icmp_ne (tgt := 27) hB (by decide) dX8_isWord_20 ?_ ?_
        · exact zr_sub [0, 1] rfl (hj6 ())
        · refine zr_iconst (v := 1) hB (by decide) dX8_isWord_23 ?_
          refine zr_goto (tgt := 28) hB (by decide) dX8_isWord_24 ?_
          refine hi7 _ _ _ _ _ _ ?_
          exact zr_sub [0, 1] rfl (hj2 1)

def fX8_takes (n : Nat) (a1 : Nat) (I : zI) : Option (Int32 × zI) :=
  zb (fX8_isWord n a1 I) fun o2 =>
  if o2 = 0 then
    zgb o2 (
    some (o2, I))
  else
  zb (fX8_next n I) fun o5 =>
  zgb o2 (
  some (o2, o5))
set_option maxHeartbeats 4000000 in
set_option maxRecDepth 100000 in
theorem mX8_takes {l : Launch} {D : va_G} {T : zT} {ad sK sV : Nat → Nat} (hi : zInj ad) (n : Nat) (a1 : Nat)  (I : zI) (L : zL) : ∀ o, fX8_takes n a1 I = some o → zMet l yX8_takes cX8_takes 3 (some .boolean) 5 124 D T ad sK sV [.ref (ad 50), .ref (sK a1)] I L (em_iI L o) := by
  intro o ho
  refine zMet.of hi (by decide +kernel) (Nat.le_of_ble_eq_true rfl) (fun p e s m args below meth c hB => ?_)
  refine zr_top (emb := em_iI L) (t := fX8_takes n a1 I) ?_ ho
  unfold fX8_takes
  refine zr_aload_n hB 0 rfl rfl dX8_takes_0 ?_
  refine zr_aload_n hB 1 rfl rfl dX8_takes_1 ?_
  refine zr_callV (st := []) (C := RX8) (As := [.ref (sK a1)]) (embc := em_i0 I L) hB (mX8_isWord (sK := sK) (sV := sV) hi n a1 I L) (zW_X8 rfl) rfl rfl lm_X8_268 q2_X8_isWord q3_X8_isWord q4_X8 q5_X8_isWord qd_X8_isWord (by decide) rfl rfl (Nat.le_of_ble_eq_true rfl) ⟨Nat.zero_le _, Nat.zero_le _⟩ dX8_takes_2 (zr_ki0 (fun o2 => ?_))
  refine zr_istore_n (lv' := [(2, .int o2), (0, .ref (ad 50)), (1, .ref (sK a1))]) hB rfl (by decide) rfl dX8_takes_5 ?_
  refine zr_iload_n hB 0 rfl rfl dX8_takes_6 ?_
  refine zr_ifeq (tgt := 14) hB (by decide) dX8_takes_7 ?_ ?_
  · refine zr_iload_n hB 0 rfl rfl dX8_takes_14 ?_
    refine zr_gb (fun hv => ?_)
    exact zr_zretC hv hB rfl rfl dX8_takes_15
  · refine zr_aload_n hB 1 rfl rfl dX8_takes_10 ?_
    refine zr_callV (st := []) (C := RX8) (As := []) (embc := em_vI L) hB (mX8_next (sK := sK) (sV := sV) hi n I L) (zW_X8 rfl) rfl rfl lm_X8_272 q2_X8_next q3_X8_next q4_X8 q5_X8_next qd_X8_next (by decide) rfl rfl (Nat.le_of_ble_eq_true rfl) ⟨Nat.zero_le _, Nat.zero_le _⟩ dX8_takes_11 (zr_kvI (fun o5 => ?_))
    refine zr_iload_n hB 0 rfl rfl dX8_takes_14 ?_
    refine zr_gb (fun hv => ?_)
    exact zr_zretC hv hB rfl rfl dX8_takes_15

def gX8_numberHere_26 (I : zI) (s8 : Int32 × Int32) : Option ((Int32 × Int32) ⊕ (Int32)) :=
  if (I 50 14) ≤ s8.2 then
    some (.inr s8.1)
  else
  if s8.1 < 0 then
    some (.inr s8.1)
  else
  if s8.1 ≤ 999 then
    zg s8.2 120 (
    zl (((10 * s8.1) + (I 54 (zn s8.2))) - 48) fun v17 =>
    zl (s8.2 + 1) fun v18 =>
    some (.inl (v17, v18)))
  else
  zl (s8.2 + 1) fun v19 =>
  some (.inl (s8.1, v19))
def fX8_numberHere (n : Nat) (I : zI) : Option (Int32) :=
  zb (fX8_isByte (I 50 13) 48 57 I) fun o2 =>
  zb (
    if o2 = 0 then
      some (-1)
    else
    some 0) fun x3 : Int32 =>
  zl (I 50 13) fun v7 =>
  zb (zit (gX8_numberHere_26 I) n (x3, v7)) fun x9 : Int32 =>
  some x9
set_option maxHeartbeats 4000000 in
set_option maxRecDepth 100000 in
theorem mX8_numberHere {l : Launch} {D : va_G} {T : zT} {ad sK sV : Nat → Nat} (hi : zInj ad) (n : Nat)   (I : zI) (L : zL) : ∀ o, fX8_numberHere n I = some o → zMet l yX8_numberHere cX8_numberHere 3 (some .int) 2 48 D T ad sK sV [.ref (ad 50)] I L (em_i0 I L o) := by
  intro o ho
  refine zMet.of hi (by decide +kernel) (Nat.le_of_ble_eq_true rfl) (fun p e s m args below meth c hB => ?_)
  refine zr_top (emb := em_i0 I L) (t := fX8_numberHere n I) ?_ ho
  unfold fX8_numberHere
  refine zr_aload_n hB 0 rfl rfl dX8_numberHere_0 ?_
  refine zr_aload_n hB 0 rfl rfl dX8_numberHere_1 ?_
  refine zr_get_X8 (w := 50) (k := 13) (v := .int (I 50 13)) hB rfl (by decide) rfl lf_X8_249 rfl dX8_numberHere_2 ?_
  refine zr_bipush (v := 48) hB (by decide) dX8_numberHere_5 ?_
  refine zr_bipush (v := 57) hB (by decide) dX8_numberHere_7 ?_
  refine zr_callV (st := []) (C := RX8) (As := [.int (I 50 13), .int 48, .int 57]) (embc := em_i0 I L) hB (mX8_isByte (sK := sK) (sV := sV) hi (I 50 13) 48 57 I L) (zW_X8 rfl) rfl rfl lm_X8_252 q2_X8_isByte q3_X8_isByte q4_X8 q5_X8_isByte qd_X8_isByte (by decide) rfl rfl (Nat.le_of_ble_eq_true rfl) ⟨Nat.zero_le _, Nat.zero_le _⟩ dX8_numberHere_9 (zr_ki0 (fun o2 => ?_))
  refine zr_join (pcJ := 20) (fun x3 : Int32 => [(0, .ref (ad 50))]) (fun x3 => [.int x3]) (fun x3 => I) (fun x3 => L) (fun x3 => ?_) (fun K6 hj4 => ?_)
  · refine zr_istore_n (lv' := [(1, .int x3), (0, .ref (ad 50))]) hB rfl (by decide) rfl dX8_numberHere_20 ?_
    refine zr_aload_n hB 1 rfl rfl dX8_numberHere_21 ?_
    refine zr_get_X8 (w := 50) (k := 13) (v := .int (I 50 13)) hB rfl (by decide) rfl lf_X8_249 rfl dX8_numberHere_22 ?_
    refine zr_letI (fun v7 => ?_)
    refine zr_istore_n (lv' := [(2, .int v7), (1, .int x3), (0, .ref (ad 50))]) hB rfl (by decide) rfl dX8_numberHere_25 ?_
    refine zr_join (pcJ := 70) (fun x9 : Int32 => [(1, .int x9)]) (fun _ => []) (fun x9 => I) (fun x9 => L) (fun x9 => ?_) (fun K15 hx14 => ?_)
    · refine zr_iload_n hB 0 rfl rfl dX8_numberHere_70 ?_
      exact zr_iret hB rfl rfl dX8_numberHere_71
    · refine zr_sub (lv' := (fun s8 : Int32 × Int32 => [(1, .int s8.1), (2, .int s8.2), (0, .ref (ad 50))]) (x3, v7)) [1, 0, 2] rfl (zr_loop (fun s8 : Int32 × Int32 => [(1, .int s8.1), (2, .int s8.2), (0, .ref (ad 50))]) (fun s8 => I) (fun s8 => L) (fun x9 : Int32 => [(1, .int x9)]) (fun x9 => I) (fun x9 => L) hx14 (fun s8 K16 hc10 hx11 => ?_) n (x3, v7))
      unfold gX8_numberHere_26
      refine zr_iload_n hB 1 rfl rfl dX8_numberHere_26 ?_
      refine zr_aload_n hB 2 rfl rfl dX8_numberHere_27 ?_
      refine zr_get_X8 (w := 50) (k := 14) (v := .int (I 50 14)) hB rfl (by decide) rfl lf_X8_246 rfl dX8_numberHere_28 ?_
      refine zr_icmp_ge (tgt := 70) hB (by decide) dX8_numberHere_31 ?_ ?_
      · exact zr_sub [0] rfl (hx11 s8.1)
      · refine zr_iload_n hB 0 rfl rfl dX8_numberHere_34 ?_
        refine zr_iflt (tgt := 70) hB (by decide) dX8_numberHere_35 ?_ ?_
        · exact zr_sub [0] rfl (hx11 s8.1)
        · refine zr_iload_n hB 0 rfl rfl dX8_numberHere_38 ?_
          refine zr_sipush (v := 999) hB (by decide) dX8_numberHere_39 ?_
          refine zr_icmp_le (tgt := 49) hB (by decide) dX8_numberHere_42 ?_ ?_
          · refine zr_bipush (v := 10) hB (by decide) dX8_numberHere_49 ?_
            refine zr_iload_n hB 0 rfl rfl dX8_numberHere_51 ?_
            refine zr_imul hB dX8_numberHere_52 ?_
            refine zr_aload_n hB 2 rfl rfl dX8_numberHere_53 ?_
            refine zr_get_X8 (w := 50) (k := 4) (v := .ref (ad 54)) hB rfl (by decide) rfl lf_X8_19 rfl dX8_numberHere_54 ?_
            refine zr_iload_n hB 1 rfl rfl dX8_numberHere_57 ?_
            refine zr_iaload hB zA_54 dX8_numberHere_58 ?_
            refine zr_iadd hB dX8_numberHere_59 ?_
            refine zr_bipush (v := 48) hB (by decide) dX8_numberHere_60 ?_
            refine zr_isub hB dX8_numberHere_62 ?_
            refine zr_letI (fun v17 => ?_)
            refine zr_istore_n (lv' := [(1, .int v17), (2, .int s8.2), (0, .ref (ad 50))]) hB rfl (by decide) rfl dX8_numberHere_63 ?_
            refine zr_iincL hB (j := 1) (n := 1) (w := 1) rfl (by decide) (by decide) dX8_numberHere_64 (fun v18 lv' hlv => ?_)
            obtain rfl : lv' = [(2, .int v18), (1, .int v17), (0, .ref (ad 50))] := hlv.symm.trans rfl
            refine zr_goto (tgt := 26) hB (by decide) dX8_numberHere_67 ?_
            exact zr_sub [1, 0, 2] rfl (hc10 (v17, v18))
          · refine zr_iload_n hB 0 rfl rfl dX8_numberHere_45 ?_
            refine zr_goto (tgt := 63) hB (by decide) dX8_numberHere_46 ?_
            refine zr_istore_n (lv' := [(1, .int s8.1), (2, .int s8.2), (0, .ref (ad 50))]) hB rfl (by decide) rfl dX8_numberHere_63 ?_
            refine zr_iincL hB (j := 1) (n := 1) (w := 1) rfl (by decide) (by decide) dX8_numberHere_64 (fun v19 lv' hlv => ?_)
            obtain rfl : lv' = [(2, .int v19), (1, .int s8.1), (0, .ref (ad 50))] := hlv.symm.trans rfl
            refine zr_goto (tgt := 26) hB (by decide) dX8_numberHere_67 ?_
            exact zr_sub [1, 0, 2] rfl (hc10 (s8.1, v19))
  · refine zr_ifeq (tgt := 19) hB (by decide) dX8_numberHere_12 ?_ ?_
    · refine zr_iconst (v := (-1)) hB (by decide) dX8_numberHere_19 ?_
      exact zr_sub [0] rfl (hj4 (-1))
    · refine zr_iconst (v := 0) hB (by decide) dX8_numberHere_15 ?_
      refine zr_goto (tgt := 20) hB (by decide) dX8_numberHere_16 ?_
      exact zr_sub [0] rfl (hj4 0)

