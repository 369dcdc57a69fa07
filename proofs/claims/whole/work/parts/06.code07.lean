def fX8_number (n : Nat) (a1 : Int32) (I : zI) : Option (Int32 × zI) :=
  zb (fX8_numberHere n I) fun o2 =>
  zb (
    zbs (
      if (I 50 15) = 0 then
        zb (fX8_within o2.toInt64 0 a1.toInt64) fun o12 =>
        if o12 = 0 then
          some (.inr ())
        else
        some (.inl 0)
      else
      some (.inr ())) fun x7 : Unit =>
    some 1) fun x3 : Int32 =>
  zgb x3 (
  zl (zup I 50 15 x3) fun J13 =>
  if (J13 50 15) = 0 then
    zb (fX8_next n J13) fun o16 =>
    some (o2, o16)
  else
  some (o2, J13))
set_option maxHeartbeats 4000000 in
set_option maxRecDepth 100000 in
theorem mX8_number {l : Launch} {D : va_G} {T : zT} {ad sK sV : Nat → Nat} (hi : zInj ad) (n : Nat) (a1 : Int32)  (I : zI) (L : zL) : ∀ o, fX8_number n a1 I = some o → zMet l yX8_number cX8_number 3 (some .int) 3 70 D T ad sK sV [.ref (ad 50), .int a1] I L (em_iI L o) := by
  intro o ho
  refine zMet.of hi (by decide +kernel) (Nat.le_of_ble_eq_true rfl) (fun p e s m args below meth c hB => ?_)
  refine zr_top (emb := em_iI L) (t := fX8_number n a1 I) ?_ ho
  unfold fX8_number
  refine zr_aload_n hB 0 rfl rfl dX8_number_0 ?_
  refine zr_callV (st := []) (C := RX8) (As := []) (embc := em_i0 I L) hB (mX8_numberHere (sK := sK) (sV := sV) hi n I L) (zW_X8 rfl) rfl rfl lm_X8_275 q2_X8_numberHere q3_X8_numberHere q4_X8 q5_X8_numberHere qd_X8_numberHere (by decide) rfl rfl (Nat.le_of_ble_eq_true rfl) ⟨Nat.zero_le _, Nat.zero_le _⟩ dX8_number_1 (zr_ki0 (fun o2 => ?_))
  refine zr_istore_n (lv' := [(2, .int o2), (0, .ref (ad 50)), (1, .int a1)]) hB rfl (by decide) rfl dX8_number_4 ?_
  refine zr_aload_n hB 1 rfl rfl dX8_number_5 ?_
  refine zr_aload_n hB 1 rfl rfl dX8_number_6 ?_
  refine zr_get_X8 (w := 50) (k := 15) (v := .int (I 50 15)) hB rfl (by decide) rfl lf_X8_255 rfl dX8_number_7 ?_
  refine zr_join (pcJ := 29) (fun x3 : Int32 => [(2, .int o2), (0, .ref (ad 50))]) (fun x3 => [.int x3, .ref (ad 50)]) (fun x3 => I) (fun x3 => L) (fun x3 => ?_) (fun K6 hj4 => ?_)
  · refine zr_gb (fun hv => ?_)
    refine zr_putZ_X8 (w := 50) (k := 15) hB rfl (by decide) rfl rfl hv rfl lf_X8_255 rfl dX8_number_29 ?_
    refine zr_letM (fun J13 => ?_)
    refine zr_aload_n hB 1 rfl rfl dX8_number_32 ?_
    refine zr_get_X8 (w := 50) (k := 15) (v := .int (J13 50 15)) hB rfl (by decide) rfl lf_X8_255 rfl dX8_number_33 ?_
    refine zr_ifne (tgt := 43) hB (by decide) dX8_number_36 ?_ ?_
    · refine zr_iload_n hB 0 rfl rfl dX8_number_43 ?_
      exact zr_iret hB rfl rfl dX8_number_44
    · refine zr_aload_n hB 1 rfl rfl dX8_number_39 ?_
      refine zr_callV (st := []) (C := RX8) (As := []) (embc := em_vI L) hB (mX8_next (sK := sK) (sV := sV) hi n J13 L) (zW_X8 rfl) rfl rfl lm_X8_272 q2_X8_next q3_X8_next q4_X8 q5_X8_next qd_X8_next (by decide) rfl rfl (Nat.le_of_ble_eq_true rfl) ⟨Nat.zero_le _, Nat.zero_le _⟩ dX8_number_40 (zr_kvI (fun o16 => ?_))
      refine zr_iload_n hB 0 rfl rfl dX8_number_43 ?_
      exact zr_iret hB rfl rfl dX8_number_44
  · refine zr_joins (pcJ := 24) (fun x7 : Unit => [(2, .int o2), (0, .ref (ad 50))]) (fun x7 => [.ref (ad 50)]) (fun x7 => I) (fun x7 => L) (fun x7 => ?_) (fun K10 hi9 hj8 => ?_)
    · refine zr_iconst (v := 1) hB (by decide) dX8_number_24 ?_
      refine zr_goto (tgt := 29) hB (by decide) dX8_number_25 ?_
      exact zr_sub [0, 1] rfl (hj4 1)
    · refine zr_ifne (tgt := 24) hB (by decide) dX8_number_10 ?_ ?_
      · exact zr_sub [0, 1] rfl (hj8 ())
      · refine zr_iload_n hB 0 rfl rfl dX8_number_13 ?_
        refine zr_i2l hB dX8_number_14 ?_
        refine zr_lconst (v := 0) hB (by decide) dX8_number_15 ?_
        refine zr_iload_n hB 2 rfl rfl dX8_number_16 ?_
        refine zr_i2l hB dX8_number_17 ?_
        refine zr_callS (st := [.ref (ad 50)]) (As := [.long o2.toInt64, .long 0, .long a1.toInt64]) (embc := em_i0 I L) hB (mX8_within (sK := sK) (sV := sV) hi o2.toInt64 0 a1.toInt64 I L) lm_X8_54 q2_X8_within q4_X8 q5_X8_within qd_X8_within (by decide) rfl rfl (Nat.le_of_ble_eq_true rfl) ⟨Nat.zero_le _, Nat.zero_le _⟩ dX8_number_18 (zr_ki0 (fun o12 => ?_))
        refine zr_ifne (tgt := 28) hB (by decide) dX8_number_21 ?_ ?_
        · refine zr_iconst (v := 0) hB (by decide) dX8_number_28 ?_
          refine hi9 _ _ _ _ _ _ ?_
          exact zr_sub [0, 1] rfl (hj4 0)
        · exact zr_sub [0, 1] rfl (hj8 ())

def fX8_wordOf (a1 : Int32) : Option (Nat) :=
  if a1 = 0 then
    some 18
  else
  if a1 = 1 then
    some 19
  else
  if a1 = 2 then
    some 20
  else
  if a1 = 3 then
    some 21
  else
  if a1 = 4 then
    some 22
  else
  if a1 = 5 then
    some 23
  else
  some 24
set_option maxHeartbeats 4000000 in
set_option maxRecDepth 100000 in
theorem mX8_wordOf {l : Launch} {D : va_G} {T : zT} {ad sK sV : Nat → Nat} (hi : zInj ad) (a1 : Int32)  (I : zI) (L : zL) : ∀ o, fX8_wordOf a1 = some o → zMet l yX8_wordOf cX8_wordOf 1 (some (.object "java/lang/String")) 0 0 D T ad sK sV [.int a1] I L (em_s0 sK I L o) := by
  intro o ho
  refine zMet.of hi (by decide +kernel) (Nat.le_of_ble_eq_true rfl) (fun p e s m args below meth c hB => ?_)
  refine zr_top (emb := em_s0 sK I L) (t := fX8_wordOf a1) ?_ ho
  unfold fX8_wordOf
  refine zr_iload_n hB 0 rfl rfl dX8_wordOf_0 ?_
  refine zr_case (fun q1_0 => ?_) (fun q1_0 => ?_)
  · refine zr_tsIn (tgt := 40) (v := 0) hB q1_0 dX8_wordOf_1 (by decide) (by decide) rfl (by decide) ?_
    refine zr_ldcSw (i := 18) hB (by decide) rfl dX8_wordOf_40 ?_
    exact zr_sret hB rfl rfl dX8_wordOf_43
  · refine zr_case (fun q1_1 => ?_) (fun q1_1 => ?_)
    · refine zr_tsIn (tgt := 44) (v := 1) hB q1_1 dX8_wordOf_1 (by decide) (by decide) rfl (by decide) ?_
      refine zr_ldcSw (i := 19) hB (by decide) rfl dX8_wordOf_44 ?_
      exact zr_sret hB rfl rfl dX8_wordOf_47
    · refine zr_case (fun q1_2 => ?_) (fun q1_2 => ?_)
      · refine zr_tsIn (tgt := 48) (v := 2) hB q1_2 dX8_wordOf_1 (by decide) (by decide) rfl (by decide) ?_
        refine zr_ldcSw (i := 20) hB (by decide) rfl dX8_wordOf_48 ?_
        exact zr_sret hB rfl rfl dX8_wordOf_51
      · refine zr_case (fun q1_3 => ?_) (fun q1_3 => ?_)
        · refine zr_tsIn (tgt := 52) (v := 3) hB q1_3 dX8_wordOf_1 (by decide) (by decide) rfl (by decide) ?_
          refine zr_ldcSw (i := 21) hB (by decide) rfl dX8_wordOf_52 ?_
          exact zr_sret hB rfl rfl dX8_wordOf_55
        · refine zr_case (fun q1_4 => ?_) (fun q1_4 => ?_)
          · refine zr_tsIn (tgt := 56) (v := 4) hB q1_4 dX8_wordOf_1 (by decide) (by decide) rfl (by decide) ?_
            refine zr_ldcSw (i := 22) hB (by decide) rfl dX8_wordOf_56 ?_
            exact zr_sret hB rfl rfl dX8_wordOf_59
          · refine zr_case (fun q1_5 => ?_) (fun q1_5 => ?_)
            · refine zr_tsIn (tgt := 60) (v := 5) hB q1_5 dX8_wordOf_1 (by decide) (by decide) rfl (by decide) ?_
              refine zr_ldcSw (i := 23) hB (by decide) rfl dX8_wordOf_60 ?_
              exact zr_sret hB rfl rfl dX8_wordOf_63
            · refine zr_tsOut (tgt := 64) hB dX8_wordOf_1 (by have h0 := lv_neT q1_0 (show (0 : Int32).toInt = 0 from rfl); have h1 := lv_neT q1_1 (show (1 : Int32).toInt = 1 from rfl); have h2 := lv_neT q1_2 (show (2 : Int32).toInt = 2 from rfl); have h3 := lv_neT q1_3 (show (3 : Int32).toInt = 3 from rfl); have h4 := lv_neT q1_4 (show (4 : Int32).toInt = 4 from rfl); have h5 := lv_neT q1_5 (show (5 : Int32).toInt = 5 from rfl); omega) (by decide) ?_
              refine zr_ldcSw (i := 24) hB (by decide) rfl dX8_wordOf_64 ?_
              exact zr_sret hB rfl rfl dX8_wordOf_67

def gX8_kindHere_3 (n : Nat) (I : zI) (s1 : Int32) : Option ((Int32) ⊕ (Int32)) :=
  if s1 < 0 then
    some (.inr s1)
  else
  zb (fX8_wordOf s1) fun o11 =>
  zb (fX8_isWord n o11 I) fun o13 =>
  if o13 = 0 then
    zl (s1 + (-1)) fun v14 =>
    some (.inl v14)
  else
  some (.inr s1)
def fX8_kindHere (n : Nat) (I : zI) : Option (Int32) :=
  zb (zit (gX8_kindHere_3 n I) n 6) fun x2 : Int32 =>
  some x2
set_option maxHeartbeats 4000000 in
set_option maxRecDepth 100000 in
theorem mX8_kindHere {l : Launch} {D : va_G} {T : zT} {ad sK sV : Nat → Nat} (hi : zInj ad) (n : Nat)   (I : zI) (L : zL) : ∀ o, fX8_kindHere n I = some o → zMet l yX8_kindHere cX8_kindHere 2 (some .int) 5 124 D T ad sK sV [.ref (ad 50)] I L (em_i0 I L o) := by
  intro o ho
  refine zMet.of hi (by decide +kernel) (Nat.le_of_ble_eq_true rfl) (fun p e s m args below meth c hB => ?_)
  refine zr_top (emb := em_i0 I L) (t := fX8_kindHere n I) ?_ ho
  unfold fX8_kindHere
  refine zr_bipush (v := 6) hB (by decide) dX8_kindHere_0 ?_
  refine zr_istore_n (lv' := [(1, .int 6), (0, .ref (ad 50))]) hB rfl (by decide) rfl dX8_kindHere_2 ?_
  refine zr_join (pcJ := 24) (fun x2 : Int32 => [(1, .int x2)]) (fun _ => []) (fun x2 => I) (fun x2 => L) (fun x2 => ?_) (fun K8 hx7 => ?_)
  · refine zr_iload_n hB 0 rfl rfl dX8_kindHere_24 ?_
    exact zr_iret hB rfl rfl dX8_kindHere_25
  · refine zr_sub (lv' := (fun s1 : Int32 => [(1, .int s1), (0, .ref (ad 50))]) 6) [0, 1] rfl (zr_loop (fun s1 : Int32 => [(1, .int s1), (0, .ref (ad 50))]) (fun s1 => I) (fun s1 => L) (fun x2 : Int32 => [(1, .int x2)]) (fun x2 => I) (fun x2 => L) hx7 (fun s1 K9 hc3 hx4 => ?_) n 6)
    unfold gX8_kindHere_3
    refine zr_iload_n hB 0 rfl rfl dX8_kindHere_3 ?_
    refine zr_iflt (tgt := 24) hB (by decide) dX8_kindHere_4 ?_ ?_
    · exact zr_sub [0] rfl (hx4 s1)
    · refine zr_aload_n hB 1 rfl rfl dX8_kindHere_7 ?_
      refine zr_iload_n hB 0 rfl rfl dX8_kindHere_8 ?_
      refine zr_callS (st := [.ref (ad 50)]) (As := [.int s1]) (embc := em_s0 sK I L) hB (mX8_wordOf (sK := sK) (sV := sV) hi s1 I L) lm_X8_292 q2_X8_wordOf q4_X8 q5_X8_wordOf qd_X8_wordOf (by decide) rfl rfl (Nat.le_of_ble_eq_true rfl) ⟨Nat.zero_le _, Nat.zero_le _⟩ dX8_kindHere_9 (zr_ks0 (fun o11 => ?_))
      refine zr_callV (st := []) (C := RX8) (As := [.ref (sK o11)]) (embc := em_i0 I L) hB (mX8_isWord (sK := sK) (sV := sV) hi n o11 I L) (zW_X8 rfl) rfl rfl lm_X8_268 q2_X8_isWord q3_X8_isWord q4_X8 q5_X8_isWord qd_X8_isWord (by decide) rfl rfl (Nat.le_of_ble_eq_true rfl) ⟨Nat.zero_le _, Nat.zero_le _⟩ dX8_kindHere_12 (zr_ki0 (fun o13 => ?_))
      refine zr_ifne (tgt := 24) hB (by decide) dX8_kindHere_15 ?_ ?_
      · exact zr_sub [0] rfl (hx4 s1)
      · refine zr_iincL hB (j := 0) (n := -1) (w := (-1)) rfl (by decide) (by decide) dX8_kindHere_18 (fun v14 lv' hlv => ?_)
        obtain rfl : lv' = [(1, .int v14), (0, .ref (ad 50))] := hlv.symm.trans rfl
        refine zr_goto (tgt := 3) hB (by decide) dX8_kindHere_21 ?_
        exact zr_sub [0, 1] rfl (hc3 v14)

def fX8_perhaps (n : Nat) (a1 : Nat) (a2 : Int32) (a3 : Int32) (a4 : Int32) (I : zI) : Option (Int32 × zI) :=
  zb (fX8_takes n a1 I) fun o3 =>
  if o3.1 = 0 then
    some (a4, o3.2)
  else
  zb (fX8_numberHere n o3.2) fun o5 =>
  if (o3.2 50 15) = 0 then
    if a2 ≤ o5 then
      zl (zup o3.2 50 15 0) fun J10 =>
      zb (fX8_number n a3 J10) fun o13 =>
      some (o13.1, o13.2)
    else
    zl (zup o3.2 50 15 1) fun J14 =>
    zb (fX8_number n a3 J14) fun o17 =>
    some (o17.1, o17.2)
  else
  zl (zup o3.2 50 15 1) fun J6 =>
  zb (fX8_number n a3 J6) fun o9 =>
  some (o9.1, o9.2)
set_option maxHeartbeats 4000000 in
set_option maxRecDepth 100000 in
theorem mX8_perhaps {l : Launch} {D : va_G} {T : zT} {ad sK sV : Nat → Nat} (hi : zInj ad) (n : Nat) (a1 : Nat) (a2 : Int32) (a3 : Int32) (a4 : Int32)  (I : zI) (L : zL) : ∀ o, fX8_perhaps n a1 a2 a3 a4 I = some o → zMet l yX8_perhaps cX8_perhaps 6 (some .int) 6 146 D T ad sK sV [.ref (ad 50), .ref (sK a1), .int a2, .int a3, .int a4] I L (em_iI L o) := by
  intro o ho
  refine zMet.of hi (by decide +kernel) (Nat.le_of_ble_eq_true rfl) (fun p e s m args below meth c hB => ?_)
  refine zr_top (emb := em_iI L) (t := fX8_perhaps n a1 a2 a3 a4 I) ?_ ho
  unfold fX8_perhaps
  refine zr_aload_n hB 0 rfl rfl dX8_perhaps_0 ?_
  refine zr_aload_n hB 1 rfl rfl dX8_perhaps_1 ?_
  refine zr_callV (st := []) (C := RX8) (As := [.ref (sK a1)]) (embc := em_iI L) hB (mX8_takes (sK := sK) (sV := sV) hi n a1 I L) (zW_X8 rfl) rfl rfl lm_X8_296 q2_X8_takes q3_X8_takes q4_X8 q5_X8_takes qd_X8_takes (by decide) rfl rfl (Nat.le_of_ble_eq_true rfl) ⟨Nat.zero_le _, Nat.zero_le _⟩ dX8_perhaps_2 (zr_kiI (fun o3 => ?_))
  refine zr_ifne (tgt := 11) hB (by decide) dX8_perhaps_5 ?_ ?_
  · refine zr_aload_n hB 0 rfl rfl dX8_perhaps_11 ?_
    refine zr_callV (st := []) (C := RX8) (As := []) (embc := em_i0 o3.2 L) hB (mX8_numberHere (sK := sK) (sV := sV) hi n o3.2 L) (zW_X8 rfl) rfl rfl lm_X8_275 q2_X8_numberHere q3_X8_numberHere q4_X8 q5_X8_numberHere qd_X8_numberHere (by decide) rfl rfl (Nat.le_of_ble_eq_true rfl) ⟨Nat.zero_le _, Nat.zero_le _⟩ dX8_perhaps_12 (zr_ki0 (fun o5 => ?_))
    refine zr_istore (lv' := [(5, .int o5), (0, .ref (ad 50)), (1, .ref (sK a1)), (2, .int a2), (3, .int a3), (4, .int a4)]) hB (by decide) rfl dX8_perhaps_15 ?_
    refine zr_aload_n hB 1 rfl rfl dX8_perhaps_17 ?_
    refine zr_aload_n hB 1 rfl rfl dX8_perhaps_18 ?_
    refine zr_get_X8 (w := 50) (k := 15) (v := .int (o3.2 50 15)) hB rfl (by decide) rfl lf_X8_255 rfl dX8_perhaps_19 ?_
    refine zr_ifne (tgt := 31) hB (by decide) dX8_perhaps_22 ?_ ?_
    · refine zr_iconst (v := 1) hB (by decide) dX8_perhaps_31 ?_
      refine zr_goto (tgt := 36) hB (by decide) dX8_perhaps_32 ?_
      refine zr_putZ_X8 (w := 50) (k := 15) hB rfl (by decide) rfl rfl (by decide) rfl lf_X8_255 rfl dX8_perhaps_36 ?_
      refine zr_letM (fun J6 => ?_)
      refine zr_aload_n hB 1 rfl rfl dX8_perhaps_39 ?_
      refine zr_iload_n hB 4 rfl rfl dX8_perhaps_40 ?_
      refine zr_callV (st := []) (C := RX8) (As := [.int a3]) (embc := em_iI L) hB (mX8_number (sK := sK) (sV := sV) hi n a3 J6 L) (zW_X8 rfl) rfl rfl lm_X8_299 q2_X8_number q3_X8_number q4_X8 q5_X8_number qd_X8_number (by decide) rfl rfl (Nat.le_of_ble_eq_true rfl) ⟨Nat.zero_le _, Nat.zero_le _⟩ dX8_perhaps_41 (zr_kiI (fun o9 => ?_))
      exact zr_iret hB rfl rfl dX8_perhaps_44
    · refine zr_iload hB 0 rfl dX8_perhaps_25 ?_
      refine zr_iload_n hB 3 rfl rfl dX8_perhaps_27 ?_
      refine zr_icmp_ge (tgt := 35) hB (by decide) dX8_perhaps_28 ?_ ?_
      · refine zr_iconst (v := 0) hB (by decide) dX8_perhaps_35 ?_
        refine zr_putZ_X8 (w := 50) (k := 15) hB rfl (by decide) rfl rfl (by decide) rfl lf_X8_255 rfl dX8_perhaps_36 ?_
        refine zr_letM (fun J10 => ?_)
        refine zr_aload_n hB 1 rfl rfl dX8_perhaps_39 ?_
        refine zr_iload_n hB 4 rfl rfl dX8_perhaps_40 ?_
        refine zr_callV (st := []) (C := RX8) (As := [.int a3]) (embc := em_iI L) hB (mX8_number (sK := sK) (sV := sV) hi n a3 J10 L) (zW_X8 rfl) rfl rfl lm_X8_299 q2_X8_number q3_X8_number q4_X8 q5_X8_number qd_X8_number (by decide) rfl rfl (Nat.le_of_ble_eq_true rfl) ⟨Nat.zero_le _, Nat.zero_le _⟩ dX8_perhaps_41 (zr_kiI (fun o13 => ?_))
        exact zr_iret hB rfl rfl dX8_perhaps_44
      · refine zr_iconst (v := 1) hB (by decide) dX8_perhaps_31 ?_
        refine zr_goto (tgt := 36) hB (by decide) dX8_perhaps_32 ?_
        refine zr_putZ_X8 (w := 50) (k := 15) hB rfl (by decide) rfl rfl (by decide) rfl lf_X8_255 rfl dX8_perhaps_36 ?_
        refine zr_letM (fun J14 => ?_)
        refine zr_aload_n hB 1 rfl rfl dX8_perhaps_39 ?_
        refine zr_iload_n hB 4 rfl rfl dX8_perhaps_40 ?_
        refine zr_callV (st := []) (C := RX8) (As := [.int a3]) (embc := em_iI L) hB (mX8_number (sK := sK) (sV := sV) hi n a3 J14 L) (zW_X8 rfl) rfl rfl lm_X8_299 q2_X8_number q3_X8_number q4_X8 q5_X8_number qd_X8_number (by decide) rfl rfl (Nat.le_of_ble_eq_true rfl) ⟨Nat.zero_le _, Nat.zero_le _⟩ dX8_perhaps_41 (zr_kiI (fun o17 => ?_))
        exact zr_iret hB rfl rfl dX8_perhaps_44
  · refine zr_iload hB 4 rfl dX8_perhaps_8 ?_
    exact zr_iret hB rfl rfl dX8_perhaps_10

def fX8_thingTold (n : Nat) (a1 : Int32) (I : zI) : Option (zI) :=
  zg 11 120 (
  zb (
    if (I 51 (zn 11)) = 8 then
      some 1
    else
    some 0) fun x1 : Int32 =>
  zgb x1 (
  zl (zup I 50 15 x1) fun J5 =>
  if (J5 50 15) = 0 then
    zb (fX8_next n J5) fun o8 =>
    zb (fX8_perhaps n 25 0 7 0 o8) fun o11 =>
    zb (fX8_perhaps n 26 1 60 8 o11.2) fun o14 =>
    if (o14.2 50 15) = 0 then
      zb (fX8_lays a1 o11.1 o14.1 o14.2) fun o17 =>
      some o17
    else
    some o14.2
  else
  some J5))
set_option maxHeartbeats 4000000 in
set_option maxRecDepth 100000 in
theorem mX8_thingTold {l : Launch} {D : va_G} {T : zT} {ad sK sV : Nat → Nat} (hi : zInj ad) (n : Nat) (a1 : Int32)  (I : zI) (L : zL) : ∀ o, fX8_thingTold n a1 I = some o → zMet l yX8_thingTold cX8_thingTold 4 none 7 171 D T ad sK sV [.ref (ad 50), .int a1] I L (em_vI L o) := by
  intro o ho
  refine zMet.of hi (by decide +kernel) (Nat.le_of_ble_eq_true rfl) (fun p e s m args below meth c hB => ?_)
  refine zr_top (emb := em_vI L) (t := fX8_thingTold n a1 I) ?_ ho
  unfold fX8_thingTold
  refine zr_aload_n hB 0 rfl rfl dX8_thingTold_0 ?_
  refine zr_aload_n hB 0 rfl rfl dX8_thingTold_1 ?_
  refine zr_get_X8 (w := 50) (k := 0) (v := .ref (ad 51)) hB rfl (by decide) rfl lf_X8_9 rfl dX8_thingTold_2 ?_
  refine zr_bipush (v := 11) hB (by decide) dX8_thingTold_5 ?_
  refine zr_iaload hB zA_51 dX8_thingTold_7 ?_
  refine zr_bipush (v := 8) hB (by decide) dX8_thingTold_8 ?_
  refine zr_join (pcJ := 18) (fun x1 : Int32 => [(0, .ref (ad 50)), (1, .int a1)]) (fun x1 => [.int x1, .ref (ad 50)]) (fun x1 => I) (fun x1 => L) (fun x1 => ?_) (fun K4 hj2 => ?_)
  · refine zr_gb (fun hv => ?_)
    refine zr_putZ_X8 (w := 50) (k := 15) hB rfl (by decide) rfl rfl hv rfl lf_X8_255 rfl dX8_thingTold_18 ?_
    refine zr_letM (fun J5 => ?_)
    refine zr_aload_n hB 0 rfl rfl dX8_thingTold_21 ?_
    refine zr_get_X8 (w := 50) (k := 15) (v := .int (J5 50 15)) hB rfl (by decide) rfl lf_X8_255 rfl dX8_thingTold_22 ?_
    refine zr_ifeq (tgt := 29) hB (by decide) dX8_thingTold_25 ?_ ?_
    · refine zr_aload_n hB 0 rfl rfl dX8_thingTold_29 ?_
      refine zr_callV (st := []) (C := RX8) (As := []) (embc := em_vI L) hB (mX8_next (sK := sK) (sV := sV) hi n J5 L) (zW_X8 rfl) rfl rfl lm_X8_272 q2_X8_next q3_X8_next q4_X8 q5_X8_next qd_X8_next (by decide) rfl rfl (Nat.le_of_ble_eq_true rfl) ⟨Nat.zero_le _, Nat.zero_le _⟩ dX8_thingTold_30 (zr_kvI (fun o8 => ?_))
      refine zr_aload_n hB 0 rfl rfl dX8_thingTold_33 ?_
      refine zr_ldcSw (i := 25) hB (by decide) rfl dX8_thingTold_34 ?_
      refine zr_iconst (v := 0) hB (by decide) dX8_thingTold_37 ?_
      refine zr_bipush (v := 7) hB (by decide) dX8_thingTold_38 ?_
      refine zr_iconst (v := 0) hB (by decide) dX8_thingTold_40 ?_
      refine zr_callV (st := []) (C := RX8) (As := [.ref (sK 25), .int 0, .int 7, .int 0]) (embc := em_iI L) hB (mX8_perhaps (sK := sK) (sV := sV) hi n 25 0 7 0 o8 L) (zW_X8 rfl) rfl rfl lm_X8_303 q2_X8_perhaps q3_X8_perhaps q4_X8 q5_X8_perhaps qd_X8_perhaps (by decide) rfl rfl (Nat.le_of_ble_eq_true rfl) ⟨Nat.zero_le _, Nat.zero_le _⟩ dX8_thingTold_41 (zr_kiI (fun o11 => ?_))
      refine zr_istore_n (lv' := [(2, .int o11.1), (0, .ref (ad 50)), (1, .int a1)]) hB rfl (by decide) rfl dX8_thingTold_44 ?_
      refine zr_aload_n hB 1 rfl rfl dX8_thingTold_45 ?_
      refine zr_ldcSw (i := 26) hB (by decide) rfl dX8_thingTold_46 ?_
      refine zr_iconst (v := 1) hB (by decide) dX8_thingTold_49 ?_
      refine zr_bipush (v := 60) hB (by decide) dX8_thingTold_50 ?_
      refine zr_bipush (v := 8) hB (by decide) dX8_thingTold_52 ?_
      refine zr_callV (st := []) (C := RX8) (As := [.ref (sK 26), .int 1, .int 60, .int 8]) (embc := em_iI L) hB (mX8_perhaps (sK := sK) (sV := sV) hi n 26 1 60 8 o11.2 L) (zW_X8 rfl) rfl rfl lm_X8_303 q2_X8_perhaps q3_X8_perhaps q4_X8 q5_X8_perhaps qd_X8_perhaps (by decide) rfl rfl (Nat.le_of_ble_eq_true rfl) ⟨Nat.zero_le _, Nat.zero_le _⟩ dX8_thingTold_54 (zr_kiI (fun o14 => ?_))
      refine zr_istore_n (lv' := [(3, .int o14.1), (2, .int o11.1), (0, .ref (ad 50)), (1, .int a1)]) hB rfl (by decide) rfl dX8_thingTold_57 ?_
      refine zr_aload_n hB 2 rfl rfl dX8_thingTold_58 ?_
      refine zr_get_X8 (w := 50) (k := 15) (v := .int (o14.2 50 15)) hB rfl (by decide) rfl lf_X8_255 rfl dX8_thingTold_59 ?_
      refine zr_ifne (tgt := 72) hB (by decide) dX8_thingTold_62 ?_ ?_
      · exact zr_vret hB rfl rfl dX8_thingTold_72
      · refine zr_aload_n hB 2 rfl rfl dX8_thingTold_65 ?_
        refine zr_iload_n hB 3 rfl rfl dX8_thingTold_66 ?_
        refine zr_iload_n hB 1 rfl rfl dX8_thingTold_67 ?_
        refine zr_iload_n hB 0 rfl rfl dX8_thingTold_68 ?_
        refine zr_callV (st := []) (C := RX8) (As := [.int a1, .int o11.1, .int o14.1]) (embc := em_vI L) hB (mX8_lays (sK := sK) (sV := sV) hi a1 o11.1 o14.1 o14.2 L) (zW_X8 rfl) rfl rfl lm_X8_86 q2_X8_lays q3_X8_lays q4_X8 q5_X8_lays qd_X8_lays (by decide) rfl rfl (Nat.le_of_ble_eq_true rfl) ⟨Nat.zero_le _, Nat.zero_le _⟩ dX8_thingTold_69 (zr_kvI (fun o17 => ?_))
        exact zr_vret hB rfl rfl dX8_thingTold_72
    · exact zr_vret hB rfl rfl dX8_thingTold_28
  · refine zr_icmp_ne (tgt := 17) hB (by decide) dX8_thingTold_10 ?_ ?_
    · refine zr_iconst (v := 0) hB (by decide) dX8_thingTold_17 ?_
      exact zr_sub [0, 1] rfl (hj2 0)
    · refine zr_iconst (v := 1) hB (by decide) dX8_thingTold_13 ?_
      refine zr_goto (tgt := 18) hB (by decide) dX8_thingTold_14 ?_
      exact zr_sub [0, 1] rfl (hj2 1)

def fX8_oneTold (n : Nat) (I : zI) : Option (zI) :=
  zg 12 120 (
  zb (
    if (I 51 (zn 12)) = 4 then
      some 1
    else
    some 0) fun x1 : Int32 =>
  zgb x1 (
  zl (zup I 50 15 x1) fun J5 =>
  if (J5 50 15) = 0 then
    zb (fX8_next n J5) fun o8 =>
    zb (fX8_perhaps n 25 0 7 0 o8) fun o11 =>
    zb (fX8_perhaps n 27 0 4 0 o11.2) fun o14 =>
    zb (fX8_perhaps n 28 0 60 10 o14.2) fun o17 =>
    if (o17.2 50 15) = 0 then
      zb (fX8_comes ((8 * o14.1) + o11.1) o17.1 o17.2) fun o20 =>
      some o20
    else
    some o17.2
  else
  some J5))
set_option maxHeartbeats 4000000 in
set_option maxRecDepth 100000 in
theorem mX8_oneTold {l : Launch} {D : va_G} {T : zT} {ad sK sV : Nat → Nat} (hi : zInj ad) (n : Nat)   (I : zI) (L : zL) : ∀ o, fX8_oneTold n I = some o → zMet l yX8_oneTold cX8_oneTold 4 none 7 171 D T ad sK sV [.ref (ad 50)] I L (em_vI L o) := by
  intro o ho
  refine zMet.of hi (by decide +kernel) (Nat.le_of_ble_eq_true rfl) (fun p e s m args below meth c hB => ?_)
  refine zr_top (emb := em_vI L) (t := fX8_oneTold n I) ?_ ho
  unfold fX8_oneTold
  refine zr_aload_n hB 0 rfl rfl dX8_oneTold_0 ?_
  refine zr_aload_n hB 0 rfl rfl dX8_oneTold_1 ?_
  refine zr_get_X8 (w := 50) (k := 0) (v := .ref (ad 51)) hB rfl (by decide) rfl lf_X8_9 rfl dX8_oneTold_2 ?_
  refine zr_bipush (v := 12) hB (by decide) dX8_oneTold_5 ?_
  refine zr_iaload hB zA_51 dX8_oneTold_7 ?_
  refine zr_iconst (v := 4) hB (by decide) dX8_oneTold_8 ?_
  refine zr_join (pcJ := 17) (fun x1 : Int32 => [(0, .ref (ad 50))]) (fun x1 => [.int x1, .ref (ad 50)]) (fun x1 => I) (fun x1 => L) (fun x1 => ?_) (fun K4 hj2 => ?_)
  · refine zr_gb (fun hv => ?_)
    refine zr_putZ_X8 (w := 50) (k := 15) hB rfl (by decide) rfl rfl hv rfl lf_X8_255 rfl dX8_oneTold_17 ?_
    refine zr_letM (fun J5 => ?_)
    refine zr_aload_n hB 0 rfl rfl dX8_oneTold_20 ?_
    refine zr_get_X8 (w := 50) (k := 15) (v := .int (J5 50 15)) hB rfl (by decide) rfl lf_X8_255 rfl dX8_oneTold_21 ?_
    refine zr_ifeq (tgt := 28) hB (by decide) dX8_oneTold_24 ?_ ?_
    · refine zr_aload_n hB 0 rfl rfl dX8_oneTold_28 ?_
      refine zr_callV (st := []) (C := RX8) (As := []) (embc := em_vI L) hB (mX8_next (sK := sK) (sV := sV) hi n J5 L) (zW_X8 rfl) rfl rfl lm_X8_272 q2_X8_next q3_X8_next q4_X8 q5_X8_next qd_X8_next (by decide) rfl rfl (Nat.le_of_ble_eq_true rfl) ⟨Nat.zero_le _, Nat.zero_le _⟩ dX8_oneTold_29 (zr_kvI (fun o8 => ?_))
      refine zr_aload_n hB 0 rfl rfl dX8_oneTold_32 ?_
      refine zr_ldcSw (i := 25) hB (by decide) rfl dX8_oneTold_33 ?_
      refine zr_iconst (v := 0) hB (by decide) dX8_oneTold_36 ?_
      refine zr_bipush (v := 7) hB (by decide) dX8_oneTold_37 ?_
      refine zr_iconst (v := 0) hB (by decide) dX8_oneTold_39 ?_
      refine zr_callV (st := []) (C := RX8) (As := [.ref (sK 25), .int 0, .int 7, .int 0]) (embc := em_iI L) hB (mX8_perhaps (sK := sK) (sV := sV) hi n 25 0 7 0 o8 L) (zW_X8 rfl) rfl rfl lm_X8_303 q2_X8_perhaps q3_X8_perhaps q4_X8 q5_X8_perhaps qd_X8_perhaps (by decide) rfl rfl (Nat.le_of_ble_eq_true rfl) ⟨Nat.zero_le _, Nat.zero_le _⟩ dX8_oneTold_40 (zr_kiI (fun o11 => ?_))
      refine zr_istore_n (lv' := [(1, .int o11.1), (0, .ref (ad 50))]) hB rfl (by decide) rfl dX8_oneTold_43 ?_
      refine zr_aload_n hB 1 rfl rfl dX8_oneTold_44 ?_
      refine zr_ldcSw (i := 27) hB (by decide) rfl dX8_oneTold_45 ?_
      refine zr_iconst (v := 0) hB (by decide) dX8_oneTold_48 ?_
      refine zr_iconst (v := 4) hB (by decide) dX8_oneTold_49 ?_
      refine zr_iconst (v := 0) hB (by decide) dX8_oneTold_50 ?_
      refine zr_callV (st := []) (C := RX8) (As := [.ref (sK 27), .int 0, .int 4, .int 0]) (embc := em_iI L) hB (mX8_perhaps (sK := sK) (sV := sV) hi n 27 0 4 0 o11.2 L) (zW_X8 rfl) rfl rfl lm_X8_303 q2_X8_perhaps q3_X8_perhaps q4_X8 q5_X8_perhaps qd_X8_perhaps (by decide) rfl rfl (Nat.le_of_ble_eq_true rfl) ⟨Nat.zero_le _, Nat.zero_le _⟩ dX8_oneTold_51 (zr_kiI (fun o14 => ?_))
      refine zr_istore_n (lv' := [(2, .int o14.1), (1, .int o11.1), (0, .ref (ad 50))]) hB rfl (by decide) rfl dX8_oneTold_54 ?_
      refine zr_aload_n hB 2 rfl rfl dX8_oneTold_55 ?_
      refine zr_ldcSw (i := 28) hB (by decide) rfl dX8_oneTold_56 ?_
      refine zr_iconst (v := 0) hB (by decide) dX8_oneTold_59 ?_
      refine zr_bipush (v := 60) hB (by decide) dX8_oneTold_60 ?_
      refine zr_bipush (v := 10) hB (by decide) dX8_oneTold_62 ?_
      refine zr_callV (st := []) (C := RX8) (As := [.ref (sK 28), .int 0, .int 60, .int 10]) (embc := em_iI L) hB (mX8_perhaps (sK := sK) (sV := sV) hi n 28 0 60 10 o14.2 L) (zW_X8 rfl) rfl rfl lm_X8_303 q2_X8_perhaps q3_X8_perhaps q4_X8 q5_X8_perhaps qd_X8_perhaps (by decide) rfl rfl (Nat.le_of_ble_eq_true rfl) ⟨Nat.zero_le _, Nat.zero_le _⟩ dX8_oneTold_64 (zr_kiI (fun o17 => ?_))
      refine zr_istore_n (lv' := [(3, .int o17.1), (2, .int o14.1), (1, .int o11.1), (0, .ref (ad 50))]) hB rfl (by decide) rfl dX8_oneTold_67 ?_
      refine zr_aload_n hB 3 rfl rfl dX8_oneTold_68 ?_
      refine zr_get_X8 (w := 50) (k := 15) (v := .int (o17.2 50 15)) hB rfl (by decide) rfl lf_X8_255 rfl dX8_oneTold_69 ?_
      refine zr_ifne (tgt := 86) hB (by decide) dX8_oneTold_72 ?_ ?_
      · exact zr_vret hB rfl rfl dX8_oneTold_86
      · refine zr_aload_n hB 3 rfl rfl dX8_oneTold_75 ?_
        refine zr_bipush (v := 8) hB (by decide) dX8_oneTold_76 ?_
        refine zr_iload_n hB 1 rfl rfl dX8_oneTold_78 ?_
        refine zr_imul hB dX8_oneTold_79 ?_
        refine zr_iload_n hB 2 rfl rfl dX8_oneTold_80 ?_
        refine zr_iadd hB dX8_oneTold_81 ?_
        refine zr_iload_n hB 0 rfl rfl dX8_oneTold_82 ?_
        refine zr_callV (st := []) (C := RX8) (As := [.int ((8 * o14.1) + o11.1), .int o17.1]) (embc := em_vI L) hB (mX8_comes (sK := sK) (sV := sV) hi ((8 * o14.1) + o11.1) o17.1 o17.2 L) (zW_X8 rfl) rfl rfl lm_X8_102 q2_X8_comes q3_X8_comes q4_X8 q5_X8_comes qd_X8_comes (by decide) rfl rfl (Nat.le_of_ble_eq_true rfl) ⟨Nat.zero_le _, Nat.zero_le _⟩ dX8_oneTold_83 (zr_kvI (fun o20 => ?_))
        exact zr_vret hB rfl rfl dX8_oneTold_86
    · exact zr_vret hB rfl rfl dX8_oneTold_27
  · refine zr_icmp_ne (tgt := 16) hB (by decide) dX8_oneTold_9 ?_ ?_
    · refine zr_iconst (v := 0) hB (by decide) dX8_oneTold_16 ?_
      exact zr_sub [0] rfl (hj2 0)
    · refine zr_iconst (v := 1) hB (by decide) dX8_oneTold_12 ?_
      refine zr_goto (tgt := 17) hB (by decide) dX8_oneTold_13 ?_
      exact zr_sub [0] rfl (hj2 1)

def fX8_doorTold (n : Nat) (a1 : Int32) (I : zI) : Option (zI) :=
  zb (fX8_number n 7 I) fun o3 =>
  zb (
    zbs (
      if (o3.2 50 15) = 0 then
        zb (fX8_numberHere n o3.2) fun o13 =>
        if o13 = o3.1 then
          some (.inr ())
        else
        some (.inl 0)
      else
      some (.inr ())) fun x8 : Unit =>
    some 1) fun x4 : Int32 =>
  zgb x4 (
  zl (zup o3.2 50 15 x4) fun J14 =>
  zb (fX8_number n 7 J14) fun o17 =>
  if (o17.2 50 15) = 0 then
    zb (fX8_opensDoor o3.1 o17.1 a1 o17.2) fun o20 =>
    some o20
  else
  some o17.2)
set_option maxHeartbeats 4000000 in
set_option maxRecDepth 100000 in
theorem mX8_doorTold {l : Launch} {D : va_G} {T : zT} {ad sK sV : Nat → Nat} (hi : zInj ad) (n : Nat) (a1 : Int32)  (I : zI) (L : zL) : ∀ o, fX8_doorTold n a1 I = some o → zMet l yX8_doorTold cX8_doorTold 4 none 4 92 D T ad sK sV [.ref (ad 50), .int a1] I L (em_vI L o) := by
  intro o ho
  refine zMet.of hi (by decide +kernel) (Nat.le_of_ble_eq_true rfl) (fun p e s m args below meth c hB => ?_)
  refine zr_top (emb := em_vI L) (t := fX8_doorTold n a1 I) ?_ ho
  unfold fX8_doorTold
  refine zr_aload_n hB 0 rfl rfl dX8_doorTold_0 ?_
  refine zr_bipush (v := 7) hB (by decide) dX8_doorTold_1 ?_
  refine zr_callV (st := []) (C := RX8) (As := [.int 7]) (embc := em_iI L) hB (mX8_number (sK := sK) (sV := sV) hi n 7 I L) (zW_X8 rfl) rfl rfl lm_X8_299 q2_X8_number q3_X8_number q4_X8 q5_X8_number qd_X8_number (by decide) rfl rfl (Nat.le_of_ble_eq_true rfl) ⟨Nat.zero_le _, Nat.zero_le _⟩ dX8_doorTold_3 (zr_kiI (fun o3 => ?_))
  refine zr_istore_n (lv' := [(2, .int o3.1), (0, .ref (ad 50)), (1, .int a1)]) hB rfl (by decide) rfl dX8_doorTold_6 ?_
  refine zr_aload_n hB 1 rfl rfl dX8_doorTold_7 ?_
  refine zr_aload_n hB 1 rfl rfl dX8_doorTold_8 ?_
  refine zr_get_X8 (w := 50) (k := 15) (v := .int (o3.2 50 15)) hB rfl (by decide) rfl lf_X8_255 rfl dX8_doorTold_9 ?_
  refine zr_join (pcJ := 28) (fun x4 : Int32 => [(2, .int o3.1), (0, .ref (ad 50)), (1, .int a1)]) (fun x4 => [.int x4, .ref (ad 50)]) (fun x4 => o3.2) (fun x4 => L) (fun x4 => ?_) (fun K7 hj5 => ?_)
  · refine zr_gb (fun hv => ?_)
    refine zr_putZ_X8 (w := 50) (k := 15) hB rfl (by decide) rfl rfl hv rfl lf_X8_255 rfl dX8_doorTold_28 ?_
    refine zr_letM (fun J14 => ?_)
    refine zr_aload_n hB 1 rfl rfl dX8_doorTold_31 ?_
    refine zr_bipush (v := 7) hB (by decide) dX8_doorTold_32 ?_
    refine zr_callV (st := []) (C := RX8) (As := [.int 7]) (embc := em_iI L) hB (mX8_number (sK := sK) (sV := sV) hi n 7 J14 L) (zW_X8 rfl) rfl rfl lm_X8_299 q2_X8_number q3_X8_number q4_X8 q5_X8_number qd_X8_number (by decide) rfl rfl (Nat.le_of_ble_eq_true rfl) ⟨Nat.zero_le _, Nat.zero_le _⟩ dX8_doorTold_34 (zr_kiI (fun o17 => ?_))
    refine zr_istore_n (lv' := [(3, .int o17.1), (2, .int o3.1), (0, .ref (ad 50)), (1, .int a1)]) hB rfl (by decide) rfl dX8_doorTold_37 ?_
    refine zr_aload_n hB 2 rfl rfl dX8_doorTold_38 ?_
    refine zr_get_X8 (w := 50) (k := 15) (v := .int (o17.2 50 15)) hB rfl (by decide) rfl lf_X8_255 rfl dX8_doorTold_39 ?_
    refine zr_ifne (tgt := 52) hB (by decide) dX8_doorTold_42 ?_ ?_
    · exact zr_vret hB rfl rfl dX8_doorTold_52
    · refine zr_aload_n hB 2 rfl rfl dX8_doorTold_45 ?_
      refine zr_iload_n hB 1 rfl rfl dX8_doorTold_46 ?_
      refine zr_iload_n hB 0 rfl rfl dX8_doorTold_47 ?_
      refine zr_iload_n hB 3 rfl rfl dX8_doorTold_48 ?_
      refine zr_callV (st := []) (C := RX8) (As := [.int o3.1, .int o17.1, .int a1]) (embc := em_vI L) hB (mX8_opensDoor (sK := sK) (sV := sV) hi o3.1 o17.1 a1 o17.2 L) (zW_X8 rfl) rfl rfl lm_X8_43 q2_X8_opensDoor q3_X8_opensDoor q4_X8 q5_X8_opensDoor qd_X8_opensDoor (by decide) rfl rfl (Nat.le_of_ble_eq_true rfl) ⟨Nat.zero_le _, Nat.zero_le _⟩ dX8_doorTold_49 (zr_kvI (fun o20 => ?_))
      exact zr_vret hB rfl rfl dX8_doorTold_52
  · refine zr_joins (pcJ := 23) (fun x8 : Unit => [(2, .int o3.1), (0, .ref (ad 50)), (1, .int a1)]) (fun x8 => [.ref (ad 50)]) (fun x8 => o3.2) (fun x8 => L) (fun x8 => ?_) (fun K11 hi10 hj9 => ?_)
    · refine zr_iconst (v := 1) hB (by decide) dX8_doorTold_23 ?_
      refine zr_goto (tgt := 28) hB (by decide) dX8_doorTold_24 ?_
      exact zr_sub [0, 1, 2] rfl (hj5 1)
    · refine zr_ifne (tgt := 23) hB (by decide) dX8_doorTold_12 ?_ ?_
      · exact zr_sub [0, 1, 2] rfl (hj9 ())
      · refine zr_aload_n hB 1 rfl rfl dX8_doorTold_15 ?_
        refine zr_callV (st := [.ref (ad 50)]) (C := RX8) (As := []) (embc := em_i0 o3.2 L) hB (mX8_numberHere (sK := sK) (sV := sV) hi n o3.2 L) (zW_X8 rfl) rfl rfl lm_X8_275 q2_X8_numberHere q3_X8_numberHere q4_X8 q5_X8_numberHere qd_X8_numberHere (by decide) rfl rfl (Nat.le_of_ble_eq_true rfl) ⟨Nat.zero_le _, Nat.zero_le _⟩ dX8_doorTold_16 (zr_ki0 (fun o13 => ?_))
        refine zr_iload_n hB 0 rfl rfl dX8_doorTold_19 ?_
        refine zr_icmp_ne (tgt := 27) hB (by decide) dX8_doorTold_20 ?_ ?_
        · refine zr_iconst (v := 0) hB (by decide) dX8_doorTold_27 ?_
          refine hi10 _ _ _ _ _ _ ?_
          exact zr_sub [0, 1, 2] rfl (hj5 0)
        · exact zr_sub [0, 1, 2] rfl (hj9 ())

def fX8_ruleTold (n : Nat) (a1 : Int32) (a2 : Int32) (I : zI) : Option (zI) :=
  zb (fX8_number n a2 I) fun o3 =>
  if (o3.2 50 15) = 0 then
    zg (8 + a1) 120 (
    zl (zup o3.2 51 (zn (8 + a1)) o3.1) fun J4 =>
    some J4)
  else
  zg (8 + a1) 120 (
  zg (8 + a1) 120 (
  zl (zup o3.2 51 (zn (8 + a1)) (o3.2 51 (zn (8 + a1)))) fun J5 =>
  some J5))
set_option maxHeartbeats 4000000 in
set_option maxRecDepth 100000 in
theorem mX8_ruleTold {l : Launch} {D : va_G} {T : zT} {ad sK sV : Nat → Nat} (hi : zInj ad) (n : Nat) (a1 : Int32) (a2 : Int32)  (I : zI) (L : zL) : ∀ o, fX8_ruleTold n a1 a2 I = some o → zMet l yX8_ruleTold cX8_ruleTold 4 none 4 92 D T ad sK sV [.ref (ad 50), .int a1, .int a2] I L (em_vI L o) := by
  intro o ho
  refine zMet.of hi (by decide +kernel) (Nat.le_of_ble_eq_true rfl) (fun p e s m args below meth c hB => ?_)
  refine zr_top (emb := em_vI L) (t := fX8_ruleTold n a1 a2 I) ?_ ho
  unfold fX8_ruleTold
  refine zr_aload_n hB 0 rfl rfl dX8_ruleTold_0 ?_
  refine zr_iload_n hB 2 rfl rfl dX8_ruleTold_1 ?_
  refine zr_callV (st := []) (C := RX8) (As := [.int a2]) (embc := em_iI L) hB (mX8_number (sK := sK) (sV := sV) hi n a2 I L) (zW_X8 rfl) rfl rfl lm_X8_299 q2_X8_number q3_X8_number q4_X8 q5_X8_number qd_X8_number (by decide) rfl rfl (Nat.le_of_ble_eq_true rfl) ⟨Nat.zero_le _, Nat.zero_le _⟩ dX8_ruleTold_2 (zr_kiI (fun o3 => ?_))
  refine zr_istore_n (lv' := [(3, .int o3.1), (0, .ref (ad 50)), (1, .int a1), (2, .int a2)]) hB rfl (by decide) rfl dX8_ruleTold_5 ?_
  refine zr_aload_n hB 1 rfl rfl dX8_ruleTold_6 ?_
  refine zr_get_X8 (w := 50) (k := 0) (v := .ref (ad 51)) hB rfl (by decide) rfl lf_X8_9 rfl dX8_ruleTold_7 ?_
  refine zr_bipush (v := 8) hB (by decide) dX8_ruleTold_10 ?_
  refine zr_iload_n hB 2 rfl rfl dX8_ruleTold_12 ?_
  refine zr_iadd hB dX8_ruleTold_13 ?_
  refine zr_aload_n hB 1 rfl rfl dX8_ruleTold_14 ?_
  refine zr_get_X8 (w := 50) (k := 15) (v := .int (o3.2 50 15)) hB rfl (by decide) rfl lf_X8_255 rfl dX8_ruleTold_15 ?_
  refine zr_ifeq (tgt := 33) hB (by decide) dX8_ruleTold_18 ?_ ?_
  · refine zr_iload_n hB 0 rfl rfl dX8_ruleTold_33 ?_
    refine zr_iastore hB zA_51 dX8_ruleTold_34 ?_
    refine zr_letM (fun J4 => ?_)
    exact zr_vret hB rfl rfl dX8_ruleTold_35
  · refine zr_aload_n hB 1 rfl rfl dX8_ruleTold_21 ?_
    refine zr_get_X8 (w := 50) (k := 0) (v := .ref (ad 51)) hB rfl (by decide) rfl lf_X8_9 rfl dX8_ruleTold_22 ?_
    refine zr_bipush (v := 8) hB (by decide) dX8_ruleTold_25 ?_
    refine zr_iload_n hB 2 rfl rfl dX8_ruleTold_27 ?_
    refine zr_iadd hB dX8_ruleTold_28 ?_
    refine zr_iaload hB zA_51 dX8_ruleTold_29 ?_
    refine zr_goto (tgt := 34) hB (by decide) dX8_ruleTold_30 ?_
    refine zr_iastore hB zA_51 dX8_ruleTold_34 ?_
    refine zr_letM (fun J5 => ?_)
    exact zr_vret hB rfl rfl dX8_ruleTold_35

def fX8_item (n : Nat) (I : zI) : Option (zI) :=
  zb (fX8_kindHere n I) fun o2 =>
  if o2 < 0 then
    zb (fX8_isWord n 29 I) fun o4 =>
    if o4 = 0 then
      zb (fX8_takes n 30 I) fun o7 =>
      if o7.1 = 0 then
        zb (fX8_takes n 31 o7.2) fun o10 =>
        if o10.1 = 0 then
          zb (fX8_takes n 32 o10.2) fun o13 =>
          if o13.1 = 0 then
            zb (fX8_takes n 33 o13.2) fun o16 =>
            if o16.1 = 0 then
              zb (fX8_takes n 34 o16.2) fun o19 =>
              if o19.1 = 0 then
                zl (zup o19.2 50 15 1) fun J20 =>
                some J20
              else
              zb (fX8_ruleTold n 2 100 o19.2) fun o23 =>
              some o23
            else
            zb (fX8_ruleTold n 1 7 o16.2) fun o26 =>
            some o26
          else
          zb (fX8_ruleTold n 0 7 o13.2) fun o29 =>
          some o29
        else
        zb (fX8_doorTold n 0 o10.2) fun o32 =>
        some o32
      else
      zb (fX8_doorTold n 1 o7.2) fun o35 =>
      some o35
    else
    zb (fX8_oneTold n I) fun o38 =>
    some o38
  else
  zb (fX8_thingTold n o2 I) fun o41 =>
  some o41
set_option maxHeartbeats 4000000 in
set_option maxRecDepth 100000 in
theorem mX8_item {l : Launch} {D : va_G} {T : zT} {ad sK sV : Nat → Nat} (hi : zInj ad) (n : Nat)   (I : zI) (L : zL) : ∀ o, fX8_item n I = some o → zMet l yX8_item cX8_item 2 none 8 194 D T ad sK sV [.ref (ad 50)] I L (em_vI L o) := by
  intro o ho
  refine zMet.of hi (by decide +kernel) (Nat.le_of_ble_eq_true rfl) (fun p e s m args below meth c hB => ?_)
  refine zr_top (emb := em_vI L) (t := fX8_item n I) ?_ ho
  unfold fX8_item
  refine zr_aload_n hB 0 rfl rfl dX8_item_0 ?_
  refine zr_callV (st := []) (C := RX8) (As := []) (embc := em_i0 I L) hB (mX8_kindHere (sK := sK) (sV := sV) hi n I L) (zW_X8 rfl) rfl rfl lm_X8_313 q2_X8_kindHere q3_X8_kindHere q4_X8 q5_X8_kindHere qd_X8_kindHere (by decide) rfl rfl (Nat.le_of_ble_eq_true rfl) ⟨Nat.zero_le _, Nat.zero_le _⟩ dX8_item_1 (zr_ki0 (fun o2 => ?_))
  refine zr_istore_n (lv' := [(1, .int o2), (0, .ref (ad 50))]) hB rfl (by decide) rfl dX8_item_4 ?_
  refine zr_iload_n hB 0 rfl rfl dX8_item_5 ?_
  refine zr_iflt (tgt := 17) hB (by decide) dX8_item_6 ?_ ?_
  · refine zr_aload_n hB 1 rfl rfl dX8_item_17 ?_
    refine zr_ldcSw (i := 29) hB (by decide) rfl dX8_item_18 ?_
    refine zr_callV (st := []) (C := RX8) (As := [.ref (sK 29)]) (embc := em_i0 I L) hB (mX8_isWord (sK := sK) (sV := sV) hi n 29 I L) (zW_X8 rfl) rfl rfl lm_X8_268 q2_X8_isWord q3_X8_isWord q4_X8 q5_X8_isWord qd_X8_isWord (by decide) rfl rfl (Nat.le_of_ble_eq_true rfl) ⟨Nat.zero_le _, Nat.zero_le _⟩ dX8_item_21 (zr_ki0 (fun o4 => ?_))
    refine zr_ifeq (tgt := 34) hB (by decide) dX8_item_24 ?_ ?_
    · refine zr_aload_n hB 1 rfl rfl dX8_item_34 ?_
      refine zr_ldcSw (i := 30) hB (by decide) rfl dX8_item_35 ?_
      refine zr_callV (st := []) (C := RX8) (As := [.ref (sK 30)]) (embc := em_iI L) hB (mX8_takes (sK := sK) (sV := sV) hi n 30 I L) (zW_X8 rfl) rfl rfl lm_X8_296 q2_X8_takes q3_X8_takes q4_X8 q5_X8_takes qd_X8_takes (by decide) rfl rfl (Nat.le_of_ble_eq_true rfl) ⟨Nat.zero_le _, Nat.zero_le _⟩ dX8_item_38 (zr_kiI (fun o7 => ?_))
      refine zr_ifeq (tgt := 52) hB (by decide) dX8_item_41 ?_ ?_
      · refine zr_aload_n hB 1 rfl rfl dX8_item_52 ?_
        refine zr_ldcSw (i := 31) hB (by decide) rfl dX8_item_53 ?_
        refine zr_callV (st := []) (C := RX8) (As := [.ref (sK 31)]) (embc := em_iI L) hB (mX8_takes (sK := sK) (sV := sV) hi n 31 o7.2 L) (zW_X8 rfl) rfl rfl lm_X8_296 q2_X8_takes q3_X8_takes q4_X8 q5_X8_takes qd_X8_takes (by decide) rfl rfl (Nat.le_of_ble_eq_true rfl) ⟨Nat.zero_le _, Nat.zero_le _⟩ dX8_item_56 (zr_kiI (fun o10 => ?_))
        refine zr_ifeq (tgt := 70) hB (by decide) dX8_item_59 ?_ ?_
        · refine zr_aload_n hB 1 rfl rfl dX8_item_70 ?_
          refine zr_ldcSw (i := 32) hB (by decide) rfl dX8_item_71 ?_
          refine zr_callV (st := []) (C := RX8) (As := [.ref (sK 32)]) (embc := em_iI L) hB (mX8_takes (sK := sK) (sV := sV) hi n 32 o10.2 L) (zW_X8 rfl) rfl rfl lm_X8_296 q2_X8_takes q3_X8_takes q4_X8 q5_X8_takes qd_X8_takes (by decide) rfl rfl (Nat.le_of_ble_eq_true rfl) ⟨Nat.zero_le _, Nat.zero_le _⟩ dX8_item_74 (zr_kiI (fun o13 => ?_))
          refine zr_ifeq (tgt := 90) hB (by decide) dX8_item_77 ?_ ?_
          · refine zr_aload_n hB 1 rfl rfl dX8_item_90 ?_
            refine zr_ldcSw (i := 33) hB (by decide) rfl dX8_item_91 ?_
            refine zr_callV (st := []) (C := RX8) (As := [.ref (sK 33)]) (embc := em_iI L) hB (mX8_takes (sK := sK) (sV := sV) hi n 33 o13.2 L) (zW_X8 rfl) rfl rfl lm_X8_296 q2_X8_takes q3_X8_takes q4_X8 q5_X8_takes qd_X8_takes (by decide) rfl rfl (Nat.le_of_ble_eq_true rfl) ⟨Nat.zero_le _, Nat.zero_le _⟩ dX8_item_94 (zr_kiI (fun o16 => ?_))
            refine zr_ifeq (tgt := 110) hB (by decide) dX8_item_97 ?_ ?_
            · refine zr_aload_n hB 1 rfl rfl dX8_item_110 ?_
              refine zr_ldcSw (i := 34) hB (by decide) rfl dX8_item_111 ?_
              refine zr_callV (st := []) (C := RX8) (As := [.ref (sK 34)]) (embc := em_iI L) hB (mX8_takes (sK := sK) (sV := sV) hi n 34 o16.2 L) (zW_X8 rfl) rfl rfl lm_X8_296 q2_X8_takes q3_X8_takes q4_X8 q5_X8_takes qd_X8_takes (by decide) rfl rfl (Nat.le_of_ble_eq_true rfl) ⟨Nat.zero_le _, Nat.zero_le _⟩ dX8_item_114 (zr_kiI (fun o19 => ?_))
              refine zr_ifeq (tgt := 130) hB (by decide) dX8_item_117 ?_ ?_
              · refine zr_aload_n hB 1 rfl rfl dX8_item_130 ?_
                refine zr_iconst (v := 1) hB (by decide) dX8_item_131 ?_
                refine zr_putZ_X8 (w := 50) (k := 15) hB rfl (by decide) rfl rfl (by decide) rfl lf_X8_255 rfl dX8_item_132 ?_
                refine zr_letM (fun J20 => ?_)
                exact zr_vret hB rfl rfl dX8_item_135
              · refine zr_aload_n hB 1 rfl rfl dX8_item_120 ?_
                refine zr_iconst (v := 2) hB (by decide) dX8_item_121 ?_
                refine zr_bipush (v := 100) hB (by decide) dX8_item_122 ?_
                refine zr_callV (st := []) (C := RX8) (As := [.int 2, .int 100]) (embc := em_vI L) hB (mX8_ruleTold (sK := sK) (sV := sV) hi n 2 100 o19.2 L) (zW_X8 rfl) rfl rfl lm_X8_334 q2_X8_ruleTold q3_X8_ruleTold q4_X8 q5_X8_ruleTold qd_X8_ruleTold (by decide) rfl rfl (Nat.le_of_ble_eq_true rfl) ⟨Nat.zero_le _, Nat.zero_le _⟩ dX8_item_124 (zr_kvI (fun o23 => ?_))
                refine zr_goto (tgt := 135) hB (by decide) dX8_item_127 ?_
                exact zr_vret hB rfl rfl dX8_item_135
            · refine zr_aload_n hB 1 rfl rfl dX8_item_100 ?_
              refine zr_iconst (v := 1) hB (by decide) dX8_item_101 ?_
              refine zr_bipush (v := 7) hB (by decide) dX8_item_102 ?_
              refine zr_callV (st := []) (C := RX8) (As := [.int 1, .int 7]) (embc := em_vI L) hB (mX8_ruleTold (sK := sK) (sV := sV) hi n 1 7 o16.2 L) (zW_X8 rfl) rfl rfl lm_X8_334 q2_X8_ruleTold q3_X8_ruleTold q4_X8 q5_X8_ruleTold qd_X8_ruleTold (by decide) rfl rfl (Nat.le_of_ble_eq_true rfl) ⟨Nat.zero_le _, Nat.zero_le _⟩ dX8_item_104 (zr_kvI (fun o26 => ?_))
              refine zr_goto (tgt := 135) hB (by decide) dX8_item_107 ?_
              exact zr_vret hB rfl rfl dX8_item_135
          · refine zr_aload_n hB 1 rfl rfl dX8_item_80 ?_
            refine zr_iconst (v := 0) hB (by decide) dX8_item_81 ?_
            refine zr_bipush (v := 7) hB (by decide) dX8_item_82 ?_
            refine zr_callV (st := []) (C := RX8) (As := [.int 0, .int 7]) (embc := em_vI L) hB (mX8_ruleTold (sK := sK) (sV := sV) hi n 0 7 o13.2 L) (zW_X8 rfl) rfl rfl lm_X8_334 q2_X8_ruleTold q3_X8_ruleTold q4_X8 q5_X8_ruleTold qd_X8_ruleTold (by decide) rfl rfl (Nat.le_of_ble_eq_true rfl) ⟨Nat.zero_le _, Nat.zero_le _⟩ dX8_item_84 (zr_kvI (fun o29 => ?_))
            refine zr_goto (tgt := 135) hB (by decide) dX8_item_87 ?_
            exact zr_vret hB rfl rfl dX8_item_135
        · refine zr_aload_n hB 1 rfl rfl dX8_item_62 ?_
          refine zr_iconst (v := 0) hB (by decide) dX8_item_63 ?_
          refine zr_callV (st := []) (C := RX8) (As := [.int 0]) (embc := em_vI L) hB (mX8_doorTold (sK := sK) (sV := sV) hi n 0 o10.2 L) (zW_X8 rfl) rfl rfl lm_X8_326 q2_X8_doorTold q3_X8_doorTold q4_X8 q5_X8_doorTold qd_X8_doorTold (by decide) rfl rfl (Nat.le_of_ble_eq_true rfl) ⟨Nat.zero_le _, Nat.zero_le _⟩ dX8_item_64 (zr_kvI (fun o32 => ?_))
          refine zr_goto (tgt := 135) hB (by decide) dX8_item_67 ?_
          exact zr_vret hB rfl rfl dX8_item_135
      · refine zr_aload_n hB 1 rfl rfl dX8_item_44 ?_
        refine zr_iconst (v := 1) hB (by decide) dX8_item_45 ?_
        refine zr_callV (st := []) (C := RX8) (As := [.int 1]) (embc := em_vI L) hB (mX8_doorTold (sK := sK) (sV := sV) hi n 1 o7.2 L) (zW_X8 rfl) rfl rfl lm_X8_326 q2_X8_doorTold q3_X8_doorTold q4_X8 q5_X8_doorTold qd_X8_doorTold (by decide) rfl rfl (Nat.le_of_ble_eq_true rfl) ⟨Nat.zero_le _, Nat.zero_le _⟩ dX8_item_46 (zr_kvI (fun o35 => ?_))
        refine zr_goto (tgt := 135) hB (by decide) dX8_item_49 ?_
        exact zr_vret hB rfl rfl dX8_item_135
    · refine zr_aload_n hB 1 rfl rfl dX8_item_27 ?_
      refine zr_callV (st := []) (C := RX8) (As := []) (embc := em_vI L) hB (mX8_oneTold (sK := sK) (sV := sV) hi n I L) (zW_X8 rfl) rfl rfl lm_X8_321 q2_X8_oneTold q3_X8_oneTold q4_X8 q5_X8_oneTold qd_X8_oneTold (by decide) rfl rfl (Nat.le_of_ble_eq_true rfl) ⟨Nat.zero_le _, Nat.zero_le _⟩ dX8_item_28 (zr_kvI (fun o38 => ?_))
      refine zr_goto (tgt := 135) hB (by decide) dX8_item_31 ?_
      exact zr_vret hB rfl rfl dX8_item_135
  · refine zr_aload_n hB 1 rfl rfl dX8_item_9 ?_
    refine zr_iload_n hB 0 rfl rfl dX8_item_10 ?_
    refine zr_callV (st := []) (C := RX8) (As := [.int o2]) (embc := em_vI L) hB (mX8_thingTold (sK := sK) (sV := sV) hi n o2 I L) (zW_X8 rfl) rfl rfl lm_X8_316 q2_X8_thingTold q3_X8_thingTold q4_X8 q5_X8_thingTold qd_X8_thingTold (by decide) rfl rfl (Nat.le_of_ble_eq_true rfl) ⟨Nat.zero_le _, Nat.zero_le _⟩ dX8_item_11 (zr_kvI (fun o41 => ?_))
    refine zr_goto (tgt := 135) hB (by decide) dX8_item_14 ?_
    exact zr_vret hB rfl rfl dX8_item_135

def gX8_text_24 (n : Nat) (s12 : Int32 × zI) : Option ((Int32 × zI) ⊕ (Int32 × zI)) :=
  if (s12.2 50 15) = 0 then
    zb (fX8_isWord n 35 s12.2) fun o22 =>
    if o22 = 0 then
      some (.inr (s12.1, s12.2))
    else
    zb (fX8_next n s12.2) fun o25 =>
    zb (fX8_item n o25) fun o28 =>
    zl (s12.1 + 1) fun v29 =>
    some (.inl (v29, o28))
  else
  some (.inr (s12.1, s12.2))
def fX8_text (n : Nat) (I : zI) : Option (Int32 × zI) :=
  zb (fX8_lends n I) fun o3 =>
  zl (zup o3 50 15 0) fun J4 =>
  zl (zup J4 50 14 0) fun J5 =>
  zb (fX8_next n J5) fun o8 =>
  zb (fX8_item n o8) fun o11 =>
  zb (zit (gX8_text_24 n) n (1, o11)) fun x13 : Int32 × zI =>
  zb (
    zbs (
      if (x13.2 50 15) = 0 then
        if (x13.2 50 5) ≤ (x13.2 50 13) then
          some (.inl 0)
        else
        some (.inr ())
      else
      some (.inr ())) fun x34 : Unit =>
    some 1) fun x30 : Int32 =>
  zgb x30 (
  zl (zup x13.2 50 15 x30) fun J38 =>
  zl (zup J38 50 5 0) fun J39 =>
  if (J39 50 15) = 0 then
    some (x13.1, J39)
  else
  zb (fX8_laysBack n J39) fun o42 =>
  some ((-1) - (o42 50 13), o42))
set_option maxHeartbeats 4000000 in
set_option maxRecDepth 100000 in
theorem mX8_text {l : Launch} {D : va_G} {T : zT} {ad sK sV : Nat → Nat} (hi : zInj ad) (n : Nat)   (I : zI) (L : zL) : ∀ o, fX8_text n I = some o → zMet l yX8_text cX8_text 2 (some .int) 9 215 D T ad sK sV [.ref (ad 50)] I L (em_iI L o) := by
  intro o ho
  refine zMet.of hi (by decide +kernel) (Nat.le_of_ble_eq_true rfl) (fun p e s m args below meth c hB => ?_)
  refine zr_top (emb := em_iI L) (t := fX8_text n I) ?_ ho
  unfold fX8_text
  refine zr_aload_n hB 0 rfl rfl dX8_text_0 ?_
  refine zr_callV (st := []) (C := RX8) (As := []) (embc := em_vI L) hB (mX8_lends (sK := sK) (sV := sV) hi n I L) (zW_X8 rfl) rfl rfl lm_X8_196 q2_X8_lends q3_X8_lends q4_X8 q5_X8_lends qd_X8_lends (by decide) rfl rfl (Nat.le_of_ble_eq_true rfl) ⟨Nat.zero_le _, Nat.zero_le _⟩ dX8_text_1 (zr_kvI (fun o3 => ?_))
  refine zr_aload_n hB 0 rfl rfl dX8_text_4 ?_
  refine zr_iconst (v := 0) hB (by decide) dX8_text_5 ?_
  refine zr_putZ_X8 (w := 50) (k := 15) hB rfl (by decide) rfl rfl (by decide) rfl lf_X8_255 rfl dX8_text_6 ?_
  refine zr_letM (fun J4 => ?_)
  refine zr_aload_n hB 0 rfl rfl dX8_text_9 ?_
  refine zr_iconst (v := 0) hB (by decide) dX8_text_10 ?_
  refine zr_put_X8 (w := 50) (k := 14) hB rfl (by decide) rfl rfl rfl lf_X8_246 rfl dX8_text_11 ?_
  refine zr_letM (fun J5 => ?_)
  refine zr_aload_n hB 0 rfl rfl dX8_text_14 ?_
  refine zr_callV (st := []) (C := RX8) (As := []) (embc := em_vI L) hB (mX8_next (sK := sK) (sV := sV) hi n J5 L) (zW_X8 rfl) rfl rfl lm_X8_272 q2_X8_next q3_X8_next q4_X8 q5_X8_next qd_X8_next (by decide) rfl rfl (Nat.le_of_ble_eq_true rfl) ⟨Nat.zero_le _, Nat.zero_le _⟩ dX8_text_15 (zr_kvI (fun o8 => ?_))
  refine zr_aload_n hB 0 rfl rfl dX8_text_18 ?_
  refine zr_callV (st := []) (C := RX8) (As := []) (embc := em_vI L) hB (mX8_item (sK := sK) (sV := sV) hi n o8 L) (zW_X8 rfl) rfl rfl lm_X8_341 q2_X8_item q3_X8_item q4_X8 q5_X8_item qd_X8_item (by decide) rfl rfl (Nat.le_of_ble_eq_true rfl) ⟨Nat.zero_le _, Nat.zero_le _⟩ dX8_text_19 (zr_kvI (fun o11 => ?_))
  refine zr_iconst (v := 1) hB (by decide) dX8_text_22 ?_
  refine zr_istore_n (lv' := [(1, .int 1), (0, .ref (ad 50))]) hB rfl (by decide) rfl dX8_text_23 ?_
  refine zr_join (pcJ := 55) (fun x13 : Int32 × zI => [(1, .int x13.1), (0, .ref (ad 50))]) (fun _ => []) (fun x13 => x13.2) (fun x13 => L) (fun x13 => ?_) (fun K19 hx18 => ?_)
  · refine zr_aload_n hB 1 rfl rfl dX8_text_55 ?_
    refine zr_aload_n hB 1 rfl rfl dX8_text_56 ?_
    refine zr_get_X8 (w := 50) (k := 15) (v := .int (x13.2 50 15)) hB rfl (by decide) rfl lf_X8_255 rfl dX8_text_57 ?_
    refine zr_join (pcJ := 79) (fun x30 : Int32 => [(1, .int x13.1), (0, .ref (ad 50))]) (fun x30 => [.int x30, .ref (ad 50)]) (fun x30 => x13.2) (fun x30 => L) (fun x30 => ?_) (fun K33 hj31 => ?_)
    · refine zr_gb (fun hv => ?_)
      refine zr_putZ_X8 (w := 50) (k := 15) hB rfl (by decide) rfl rfl hv rfl lf_X8_255 rfl dX8_text_79 ?_
      refine zr_letM (fun J38 => ?_)
      refine zr_aload_n hB 1 rfl rfl dX8_text_82 ?_
      refine zr_iconst (v := 0) hB (by decide) dX8_text_83 ?_
      refine zr_put_X8 (w := 50) (k := 5) hB rfl (by decide) rfl rfl rfl lf_X8_243 rfl dX8_text_84 ?_
      refine zr_letM (fun J39 => ?_)
      refine zr_aload_n hB 1 rfl rfl dX8_text_87 ?_
      refine zr_get_X8 (w := 50) (k := 15) (v := .int (J39 50 15)) hB rfl (by decide) rfl lf_X8_255 rfl dX8_text_88 ?_
      refine zr_ifne (tgt := 96) hB (by decide) dX8_text_91 ?_ ?_
      · refine zr_aload_n hB 1 rfl rfl dX8_text_96 ?_
        refine zr_callV (st := []) (C := RX8) (As := []) (embc := em_vI L) hB (mX8_laysBack (sK := sK) (sV := sV) hi n J39 L) (zW_X8 rfl) rfl rfl lm_X8_202 q2_X8_laysBack q3_X8_laysBack q4_X8 q5_X8_laysBack qd_X8_laysBack (by decide) rfl rfl (Nat.le_of_ble_eq_true rfl) ⟨Nat.zero_le _, Nat.zero_le _⟩ dX8_text_97 (zr_kvI (fun o42 => ?_))
        refine zr_iconst (v := (-1)) hB (by decide) dX8_text_100 ?_
        refine zr_aload_n hB 1 rfl rfl dX8_text_101 ?_
        refine zr_get_X8 (w := 50) (k := 13) (v := .int (o42 50 13)) hB rfl (by decide) rfl lf_X8_249 rfl dX8_text_102 ?_
        refine zr_isub hB dX8_text_105 ?_
        exact zr_iret hB rfl rfl dX8_text_106
      · refine zr_iload_n hB 0 rfl rfl dX8_text_94 ?_
        exact zr_iret hB rfl rfl dX8_text_95
    · refine zr_joins (pcJ := 74) (fun x34 : Unit => [(1, .int x13.1), (0, .ref (ad 50))]) (fun x34 => [.ref (ad 50)]) (fun x34 => x13.2) (fun x34 => L) (fun x34 => ?_) (fun K37 hi36 hj35 => ?_)
      · refine zr_iconst (v := 1) hB (by decide) dX8_text_74 ?_
        refine zr_goto (tgt := 79) hB (by decide) dX8_text_75 ?_
        exact zr_sub [0, 1] rfl (hj31 1)
      · refine zr_ifne (tgt := 74) hB (by decide) dX8_text_60 ?_ ?_
        · exact zr_sub [0, 1] rfl (hj35 ())
        · refine zr_aload_n hB 1 rfl rfl dX8_text_63 ?_
          refine zr_get_X8 (w := 50) (k := 13) (v := .int (x13.2 50 13)) hB rfl (by decide) rfl lf_X8_249 rfl dX8_text_64 ?_
          refine zr_aload_n hB 1 rfl rfl dX8_text_67 ?_
          refine zr_get_X8 (w := 50) (k := 5) (v := .int (x13.2 50 5)) hB rfl (by decide) rfl lf_X8_243 rfl dX8_text_68 ?_
          refine zr_icmp_ge (tgt := 78) hB (by decide) dX8_text_71 ?_ ?_
          · refine zr_iconst (v := 0) hB (by decide) dX8_text_78 ?_
            refine hi36 _ _ _ _ _ _ ?_
            exact zr_sub [0, 1] rfl (hj31 0)
          · exact zr_sub [0, 1] rfl (hj35 ())
  · refine zr_sub (lv' := (fun s12 : Int32 × zI => [(1, .int s12.1), (0, .ref (ad 50))]) (1, o11)) [0, 1] rfl (zr_loop (fun s12 : Int32 × zI => [(1, .int s12.1), (0, .ref (ad 50))]) (fun s12 => s12.2) (fun s12 => L) (fun x13 : Int32 × zI => [(1, .int x13.1), (0, .ref (ad 50))]) (fun x13 => x13.2) (fun x13 => L) hx18 (fun s12 K20 hc14 hx15 => ?_) n (1, o11))
    unfold gX8_text_24
    refine zr_aload_n hB 1 rfl rfl dX8_text_24 ?_
    refine zr_get_X8 (w := 50) (k := 15) (v := .int (s12.2 50 15)) hB rfl (by decide) rfl lf_X8_255 rfl dX8_text_25 ?_
    refine zr_ifne (tgt := 55) hB (by decide) dX8_text_28 ?_ ?_
    · exact zr_sub [0, 1] rfl (hx15 (s12.1, s12.2))
    · refine zr_aload_n hB 1 rfl rfl dX8_text_31 ?_
      refine zr_ldcSw (i := 35) hB (by decide) rfl dX8_text_32 ?_
      refine zr_callV (st := []) (C := RX8) (As := [.ref (sK 35)]) (embc := em_i0 s12.2 L) hB (mX8_isWord (sK := sK) (sV := sV) hi n 35 s12.2 L) (zW_X8 rfl) rfl rfl lm_X8_268 q2_X8_isWord q3_X8_isWord q4_X8 q5_X8_isWord qd_X8_isWord (by decide) rfl rfl (Nat.le_of_ble_eq_true rfl) ⟨Nat.zero_le _, Nat.zero_le _⟩ dX8_text_35 (zr_ki0 (fun o22 => ?_))
      refine zr_ifeq (tgt := 55) hB (by decide) dX8_text_38 ?_ ?_
      · exact zr_sub [0, 1] rfl (hx15 (s12.1, s12.2))
      · refine zr_aload_n hB 1 rfl rfl dX8_text_41 ?_
        refine zr_callV (st := []) (C := RX8) (As := []) (embc := em_vI L) hB (mX8_next (sK := sK) (sV := sV) hi n s12.2 L) (zW_X8 rfl) rfl rfl lm_X8_272 q2_X8_next q3_X8_next q4_X8 q5_X8_next qd_X8_next (by decide) rfl rfl (Nat.le_of_ble_eq_true rfl) ⟨Nat.zero_le _, Nat.zero_le _⟩ dX8_text_42 (zr_kvI (fun o25 => ?_))
        refine zr_aload_n hB 1 rfl rfl dX8_text_45 ?_
        refine zr_callV (st := []) (C := RX8) (As := []) (embc := em_vI L) hB (mX8_item (sK := sK) (sV := sV) hi n o25 L) (zW_X8 rfl) rfl rfl lm_X8_341 q2_X8_item q3_X8_item q4_X8 q5_X8_item qd_X8_item (by decide) rfl rfl (Nat.le_of_ble_eq_true rfl) ⟨Nat.zero_le _, Nat.zero_le _⟩ dX8_text_46 (zr_kvI (fun o28 => ?_))
        refine zr_iincL hB (j := 0) (n := 1) (w := 1) rfl (by decide) (by decide) dX8_text_49 (fun v29 lv' hlv => ?_)
        obtain rfl : lv' = [(1, .int v29), (0, .ref (ad 50))] := hlv.symm.trans rfl
        refine zr_goto (tgt := 24) hB (by decide) dX8_text_52 ?_
        exact zr_sub [0, 1] rfl (hc14 (v29, o28))

def fX8_hold (a1 : Int32) (a2 : Int32) (I : zI) : Option (Int32 × zI) :=
  zb (fX8_within a1.toInt64 0 9) fun o2 =>
  if o2 = 0 then
    zb (fX8_finding 0 I) fun o5 =>
    some (o5.1, o5.2)
  else
  zg 11 120 (
  zb (fX8_within a2.toInt64 (-1) (((I 51 (zn 11)) - 1).toInt64)) fun o7 =>
  if o7 = 0 then
    zb (fX8_finding 0 I) fun o11 =>
    some (o11.1, o11.2)
  else
  zg (18 + a1) 120 (
  zl (zup I 51 (zn (18 + a1)) a2) fun J8 =>
  some (1, J8)))
set_option maxHeartbeats 4000000 in
set_option maxRecDepth 100000 in
theorem mX8_hold {l : Launch} {D : va_G} {T : zT} {ad sK sV : Nat → Nat} (hi : zInj ad) (a1 : Int32) (a2 : Int32)  (I : zI) (L : zL) : ∀ o, fX8_hold a1 a2 I = some o → zMet l yX8_hold cX8_hold 3 (some .int) 1 25 D T ad sK sV [.ref (ad 50), .int a1, .int a2] I L (em_iI L o) := by
  intro o ho
  refine zMet.of hi (by decide +kernel) (Nat.le_of_ble_eq_true rfl) (fun p e s m args below meth c hB => ?_)
  refine zr_top (emb := em_iI L) (t := fX8_hold a1 a2 I) ?_ ho
  unfold fX8_hold
  refine zr_iload_n hB 1 rfl rfl dX8_hold_0 ?_
  refine zr_i2l hB dX8_hold_1 ?_
  refine zr_lconst (v := 0) hB (by decide) dX8_hold_2 ?_
  refine zr_ldc2 (v := 9) hB lj_X8_209 dX8_hold_3 ?_
  refine zr_callS (st := []) (As := [.long a1.toInt64, .long 0, .long 9]) (embc := em_i0 I L) hB (mX8_within (sK := sK) (sV := sV) hi a1.toInt64 0 9 I L) lm_X8_54 q2_X8_within q4_X8 q5_X8_within qd_X8_within (by decide) rfl rfl (Nat.le_of_ble_eq_true rfl) ⟨Nat.zero_le _, Nat.zero_le _⟩ dX8_hold_6 (zr_ki0 (fun o2 => ?_))
  refine zr_ifeq (tgt := 33) hB (by decide) dX8_hold_9 ?_ ?_
  · refine zr_aload_n hB 0 rfl rfl dX8_hold_33 ?_
    refine zr_iconst (v := 0) hB (by decide) dX8_hold_34 ?_
    refine zr_callV (st := []) (C := RX8) (As := [.int 0]) (embc := em_iI L) hB (mX8_finding (sK := sK) (sV := sV) hi 0 I L) (zW_X8 rfl) rfl rfl lm_X8_74 q2_X8_finding q3_X8_finding q4_X8 q5_X8_finding qd_X8_finding (by decide) rfl rfl (Nat.le_of_ble_eq_true rfl) ⟨Nat.zero_le _, Nat.zero_le _⟩ dX8_hold_35 (zr_kiI (fun o5 => ?_))
    exact zr_iret hB rfl rfl dX8_hold_38
  · refine zr_iload_n hB 2 rfl rfl dX8_hold_12 ?_
    refine zr_i2l hB dX8_hold_13 ?_
    refine zr_ldc2 (v := (-1)) hB lj_X8_207 dX8_hold_14 ?_
    refine zr_aload_n hB 0 rfl rfl dX8_hold_17 ?_
    refine zr_get_X8 (w := 50) (k := 0) (v := .ref (ad 51)) hB rfl (by decide) rfl lf_X8_9 rfl dX8_hold_18 ?_
    refine zr_bipush (v := 11) hB (by decide) dX8_hold_21 ?_
    refine zr_iaload hB zA_51 dX8_hold_23 ?_
    refine zr_iconst (v := 1) hB (by decide) dX8_hold_24 ?_
    refine zr_isub hB dX8_hold_25 ?_
    refine zr_i2l hB dX8_hold_26 ?_
    refine zr_callS (st := []) (As := [.long a2.toInt64, .long (-1), .long (((I 51 (zn 11)) - 1).toInt64)]) (embc := em_i0 I L) hB (mX8_within (sK := sK) (sV := sV) hi a2.toInt64 (-1) (((I 51 (zn 11)) - 1).toInt64) I L) lm_X8_54 q2_X8_within q4_X8 q5_X8_within qd_X8_within (by decide) rfl rfl (Nat.le_of_ble_eq_true rfl) ⟨Nat.zero_le _, Nat.zero_le _⟩ dX8_hold_27 (zr_ki0 (fun o7 => ?_))
    refine zr_ifne (tgt := 39) hB (by decide) dX8_hold_30 ?_ ?_
    · refine zr_aload_n hB 0 rfl rfl dX8_hold_39 ?_
      refine zr_get_X8 (w := 50) (k := 0) (v := .ref (ad 51)) hB rfl (by decide) rfl lf_X8_9 rfl dX8_hold_40 ?_
      refine zr_bipush (v := 18) hB (by decide) dX8_hold_43 ?_
      refine zr_iload_n hB 1 rfl rfl dX8_hold_45 ?_
      refine zr_iadd hB dX8_hold_46 ?_
      refine zr_iload_n hB 2 rfl rfl dX8_hold_47 ?_
      refine zr_iastore hB zA_51 dX8_hold_48 ?_
      refine zr_letM (fun J8 => ?_)
      refine zr_iconst (v := 1) hB (by decide) dX8_hold_49 ?_
      exact zr_iret hB rfl rfl dX8_hold_50
    · refine zr_aload_n hB 0 rfl rfl dX8_hold_33 ?_
      refine zr_iconst (v := 0) hB (by decide) dX8_hold_34 ?_
      refine zr_callV (st := []) (C := RX8) (As := [.int 0]) (embc := em_iI L) hB (mX8_finding (sK := sK) (sV := sV) hi 0 I L) (zW_X8 rfl) rfl rfl lm_X8_74 q2_X8_finding q3_X8_finding q4_X8 q5_X8_finding qd_X8_finding (by decide) rfl rfl (Nat.le_of_ble_eq_true rfl) ⟨Nat.zero_le _, Nat.zero_le _⟩ dX8_hold_35 (zr_kiI (fun o11 => ?_))
      exact zr_iret hB rfl rfl dX8_hold_38

def fX8_as (n : Nat) (a1 : Int32) (a2 : Int32) (I : zI) : Option (Int32 × zI) :=
  zb (fX8_within a1.toInt64 0 9) fun o2 =>
  if o2 = 0 then
    zb (fX8_finding 0 I) fun o5 =>
    some (o5.1, o5.2)
  else
  zb (fX8_isKind a2) fun o7 =>
  if o7 = 0 then
    zb (fX8_finding 0 I) fun o19 =>
    some (o19.1, o19.2)
  else
  zg (18 + a1) 120 (
  zl (I 51 (zn (18 + a1))) fun v8 =>
  if 0 ≤ v8 then
    zg (28 + v8) 120 (
    zb (fX8_isUnder n (I 51 (zn (28 + v8))) a2) fun o10 =>
    if o10 = 0 then
      zb (fX8_finding 2 I) fun o13 =>
      some (o13.1, o13.2)
    else
    some (v8, I))
  else
  zb (fX8_finding 5 I) fun o16 =>
  some (o16.1, o16.2))
set_option maxHeartbeats 4000000 in
set_option maxRecDepth 100000 in
theorem mX8_as {l : Launch} {D : va_G} {T : zT} {ad sK sV : Nat → Nat} (hi : zInj ad) (n : Nat) (a1 : Int32) (a2 : Int32)  (I : zI) (L : zL) : ∀ o, fX8_as n a1 a2 I = some o → zMet l yX8_as cX8_as 4 (some .int) 2 45 D T ad sK sV [.ref (ad 50), .int a1, .int a2] I L (em_iI L o) := by
  intro o ho
  refine zMet.of hi (by decide +kernel) (Nat.le_of_ble_eq_true rfl) (fun p e s m args below meth c hB => ?_)
  refine zr_top (emb := em_iI L) (t := fX8_as n a1 a2 I) ?_ ho
  unfold fX8_as
  refine zr_iload_n hB 1 rfl rfl dX8_as_0 ?_
  refine zr_i2l hB dX8_as_1 ?_
  refine zr_lconst (v := 0) hB (by decide) dX8_as_2 ?_
  refine zr_ldc2 (v := 9) hB lj_X8_209 dX8_as_3 ?_
  refine zr_callS (st := []) (As := [.long a1.toInt64, .long 0, .long 9]) (embc := em_i0 I L) hB (mX8_within (sK := sK) (sV := sV) hi a1.toInt64 0 9 I L) lm_X8_54 q2_X8_within q4_X8 q5_X8_within qd_X8_within (by decide) rfl rfl (Nat.le_of_ble_eq_true rfl) ⟨Nat.zero_le _, Nat.zero_le _⟩ dX8_as_6 (zr_ki0 (fun o2 => ?_))
  refine zr_ifeq (tgt := 19) hB (by decide) dX8_as_9 ?_ ?_
  · refine zr_aload_n hB 0 rfl rfl dX8_as_19 ?_
    refine zr_iconst (v := 0) hB (by decide) dX8_as_20 ?_
    refine zr_callV (st := []) (C := RX8) (As := [.int 0]) (embc := em_iI L) hB (mX8_finding (sK := sK) (sV := sV) hi 0 I L) (zW_X8 rfl) rfl rfl lm_X8_74 q2_X8_finding q3_X8_finding q4_X8 q5_X8_finding qd_X8_finding (by decide) rfl rfl (Nat.le_of_ble_eq_true rfl) ⟨Nat.zero_le _, Nat.zero_le _⟩ dX8_as_21 (zr_kiI (fun o5 => ?_))
    exact zr_iret hB rfl rfl dX8_as_24
  · refine zr_iload_n hB 2 rfl rfl dX8_as_12 ?_
    refine zr_callS (st := []) (As := [.int a2]) (embc := em_i0 I L) hB (mX8_isKind (sK := sK) (sV := sV) hi a2 I L) lm_X8_83 q2_X8_isKind q4_X8 q5_X8_isKind qd_X8_isKind (by decide) rfl rfl (Nat.le_of_ble_eq_true rfl) ⟨Nat.zero_le _, Nat.zero_le _⟩ dX8_as_13 (zr_ki0 (fun o7 => ?_))
    refine zr_ifne (tgt := 25) hB (by decide) dX8_as_16 ?_ ?_
    · refine zr_aload_n hB 0 rfl rfl dX8_as_25 ?_
      refine zr_get_X8 (w := 50) (k := 0) (v := .ref (ad 51)) hB rfl (by decide) rfl lf_X8_9 rfl dX8_as_26 ?_
      refine zr_bipush (v := 18) hB (by decide) dX8_as_29 ?_
      refine zr_iload_n hB 1 rfl rfl dX8_as_31 ?_
      refine zr_iadd hB dX8_as_32 ?_
      refine zr_iaload hB zA_51 dX8_as_33 ?_
      refine zr_letI (fun v8 => ?_)
      refine zr_istore_n (lv' := [(3, .int v8), (0, .ref (ad 50)), (1, .int a1), (2, .int a2)]) hB rfl (by decide) rfl dX8_as_34 ?_
      refine zr_iload_n hB 0 rfl rfl dX8_as_35 ?_
      refine zr_ifge (tgt := 45) hB (by decide) dX8_as_36 ?_ ?_
      · refine zr_aload_n hB 1 rfl rfl dX8_as_45 ?_
        refine zr_get_X8 (w := 50) (k := 0) (v := .ref (ad 51)) hB rfl (by decide) rfl lf_X8_9 rfl dX8_as_46 ?_
        refine zr_bipush (v := 28) hB (by decide) dX8_as_49 ?_
        refine zr_iload_n hB 0 rfl rfl dX8_as_51 ?_
        refine zr_iadd hB dX8_as_52 ?_
        refine zr_iaload hB zA_51 dX8_as_53 ?_
        refine zr_iload_n hB 3 rfl rfl dX8_as_54 ?_
        refine zr_callS (st := []) (As := [.int (I 51 (zn (28 + v8))), .int a2]) (embc := em_i0 I L) hB (mX8_isUnder (sK := sK) (sV := sV) hi n (I 51 (zn (28 + v8))) a2 I L) lm_X8_346 q2_X8_isUnder q4_X8 q5_X8_isUnder qd_X8_isUnder (by decide) rfl rfl (Nat.le_of_ble_eq_true rfl) ⟨Nat.zero_le _, Nat.zero_le _⟩ dX8_as_55 (zr_ki0 (fun o10 => ?_))
        refine zr_ifeq (tgt := 65) hB (by decide) dX8_as_58 ?_ ?_
        · refine zr_aload_n hB 1 rfl rfl dX8_as_65 ?_
          refine zr_iconst (v := 2) hB (by decide) dX8_as_66 ?_
          refine zr_callV (st := []) (C := RX8) (As := [.int 2]) (embc := em_iI L) hB (mX8_finding (sK := sK) (sV := sV) hi 2 I L) (zW_X8 rfl) rfl rfl lm_X8_74 q2_X8_finding q3_X8_finding q4_X8 q5_X8_finding qd_X8_finding (by decide) rfl rfl (Nat.le_of_ble_eq_true rfl) ⟨Nat.zero_le _, Nat.zero_le _⟩ dX8_as_67 (zr_kiI (fun o13 => ?_))
          exact zr_iret hB rfl rfl dX8_as_70
        · refine zr_iload_n hB 0 rfl rfl dX8_as_61 ?_
          refine zr_goto (tgt := 70) hB (by decide) dX8_as_62 ?_
          exact zr_iret hB rfl rfl dX8_as_70
      · refine zr_aload_n hB 1 rfl rfl dX8_as_39 ?_
        refine zr_iconst (v := 5) hB (by decide) dX8_as_40 ?_
        refine zr_callV (st := []) (C := RX8) (As := [.int 5]) (embc := em_iI L) hB (mX8_finding (sK := sK) (sV := sV) hi 5 I L) (zW_X8 rfl) rfl rfl lm_X8_74 q2_X8_finding q3_X8_finding q4_X8 q5_X8_finding qd_X8_finding (by decide) rfl rfl (Nat.le_of_ble_eq_true rfl) ⟨Nat.zero_le _, Nat.zero_le _⟩ dX8_as_41 (zr_kiI (fun o16 => ?_))
        exact zr_iret hB rfl rfl dX8_as_44
    · refine zr_aload_n hB 0 rfl rfl dX8_as_19 ?_
      refine zr_iconst (v := 0) hB (by decide) dX8_as_20 ?_
      refine zr_callV (st := []) (C := RX8) (As := [.int 0]) (embc := em_iI L) hB (mX8_finding (sK := sK) (sV := sV) hi 0 I L) (zW_X8 rfl) rfl rfl lm_X8_74 q2_X8_finding q3_X8_finding q4_X8 q5_X8_finding qd_X8_finding (by decide) rfl rfl (Nat.le_of_ble_eq_true rfl) ⟨Nat.zero_le _, Nat.zero_le _⟩ dX8_as_21 (zr_kiI (fun o19 => ?_))
      exact zr_iret hB rfl rfl dX8_as_24

def fX8_isSheet (a1 : Int32) : Option (Int32) :=
  zb (fX8_within a1.toInt64 0 3) fun o2 =>
  zgb o2 (
  some o2)
set_option maxHeartbeats 4000000 in
set_option maxRecDepth 100000 in
theorem mX8_isSheet {l : Launch} {D : va_G} {T : zT} {ad sK sV : Nat → Nat} (hi : zInj ad) (a1 : Int32)  (I : zI) (L : zL) : ∀ o, fX8_isSheet a1 = some o → zMet l yX8_isSheet cX8_isSheet 1 (some .boolean) 1 25 D T ad sK sV [.int a1] I L (em_i0 I L o) := by
  intro o ho
  refine zMet.of hi (by decide +kernel) (Nat.le_of_ble_eq_true rfl) (fun p e s m args below meth c hB => ?_)
  refine zr_top (emb := em_i0 I L) (t := fX8_isSheet a1) ?_ ho
  unfold fX8_isSheet
  refine zr_iload_n hB 0 rfl rfl dX8_isSheet_0 ?_
  refine zr_i2l hB dX8_isSheet_1 ?_
  refine zr_lconst (v := 0) hB (by decide) dX8_isSheet_2 ?_
  refine zr_ldc2 (v := 3) hB lj_X8_349 dX8_isSheet_3 ?_
  refine zr_callS (st := []) (As := [.long a1.toInt64, .long 0, .long 3]) (embc := em_i0 I L) hB (mX8_within (sK := sK) (sV := sV) hi a1.toInt64 0 3 I L) lm_X8_54 q2_X8_within q4_X8 q5_X8_within qd_X8_within (by decide) rfl rfl (Nat.le_of_ble_eq_true rfl) ⟨Nat.zero_le _, Nat.zero_le _⟩ dX8_isSheet_6 (zr_ki0 (fun o2 => ?_))
  refine zr_gb (fun hv => ?_)
  exact zr_zretC hv hB rfl rfl dX8_isSheet_9

def fX8_cut (a1 : Int32) (a2 : Int32) : Option (Int32) :=
  if a2 = 8 then
    some a1.toInt8.toInt32
  else
  if a2 = 16 then
    some a1.toInt16.toInt32
  else
  some a1
set_option maxHeartbeats 4000000 in
set_option maxRecDepth 100000 in
theorem mX8_cut {l : Launch} {D : va_G} {T : zT} {ad sK sV : Nat → Nat} (hi : zInj ad) (a1 : Int32) (a2 : Int32)  (I : zI) (L : zL) : ∀ o, fX8_cut a1 a2 = some o → zMet l yX8_cut cX8_cut 2 (some .int) 0 0 D T ad sK sV [.int a1, .int a2] I L (em_i0 I L o) := by
  intro o ho
  refine zMet.of hi (by decide +kernel) (Nat.le_of_ble_eq_true rfl) (fun p e s m args below meth c hB => ?_)
  refine zr_top (emb := em_i0 I L) (t := fX8_cut a1 a2) ?_ ho
  unfold fX8_cut
  refine zr_iload_n hB 1 rfl rfl dX8_cut_0 ?_
  refine zr_bipush (v := 8) hB (by decide) dX8_cut_1 ?_
  refine zr_icmp_ne (tgt := 11) hB (by decide) dX8_cut_3 ?_ ?_
  · refine zr_iload_n hB 1 rfl rfl dX8_cut_11 ?_
    refine zr_bipush (v := 16) hB (by decide) dX8_cut_12 ?_
    refine zr_icmp_ne (tgt := 22) hB (by decide) dX8_cut_14 ?_ ?_
    · refine zr_iload_n hB 0 rfl rfl dX8_cut_22 ?_
      exact zr_iret hB rfl rfl dX8_cut_23
    · refine zr_iload_n hB 0 rfl rfl dX8_cut_17 ?_
      refine zr_i2s hB dX8_cut_18 ?_
      refine zr_goto (tgt := 23) hB (by decide) dX8_cut_19 ?_
      exact zr_iret hB rfl rfl dX8_cut_23
  · refine zr_iload_n hB 0 rfl rfl dX8_cut_6 ?_
    refine zr_i2b hB dX8_cut_7 ?_
    refine zr_goto (tgt := 23) hB (by decide) dX8_cut_8 ?_
    exact zr_iret hB rfl rfl dX8_cut_23

def gX8_sheet_95 (a1 : Int32) (s20 : Int32 × zI) : Option ((Int32 × zI) ⊕ (zI)) :=
  if 40 ≤ s20.1 then
    some (.inr s20.2)
  else
  zg ((40 * a1) + s20.1) 160 (
  zl (zup s20.2 60 (zn ((40 * a1) + s20.1)) 0) fun J29 =>
  zl (s20.1 + 1) fun v30 =>
  some (.inl (v30, J29)))
def fX8_sheet (n : Nat) (a1 : Int32) (a2 : Int32) (a3 : Int32) (I : zI) : Option (Int32 × zI) :=
  zb (
    zbs (
      if a2 = 0 then
        some (.inr ())
      else
      if a2 = 8 then
        some (.inr ())
      else
      if a2 = 16 then
        some (.inr ())
      else
      if a2 = 32 then
        some (.inr ())
      else
      some (.inl 0)) fun x5 : Unit =>
    some 1) fun x1 : Int32 =>
  zb (fX8_isSheet a1) fun o10 =>
  if o10 = 0 then
    zb (fX8_finding 0 I) fun o13 =>
    some (o13.1, o13.2)
  else
  if x1 = 0 then
    zb (fX8_finding 0 I) fun o39 =>
    some (o39.1, o39.2)
  else
  if 0 ≤ a3 then
    if a3 ≤ 40 then
      zg a1 4 (
      zl (zup I 58 (zn a1) a2) fun J14 =>
      zb (
        if a2 = 0 then
          some 0
        else
        some a3) fun x15 : Int32 =>
      zg a1 4 (
      zl (zup J14 59 (zn a1) x15) fun J19 =>
      zb (zit (gX8_sheet_95 a1) n (0, J19)) fun x21 : zI =>
      zg a1 4 (
      some (x21 59 (zn a1), x21))))
    else
    zb (fX8_finding 0 I) fun o33 =>
    some (o33.1, o33.2)
  else
  zb (fX8_finding 6 I) fun o36 =>
  some (o36.1, o36.2)
set_option maxHeartbeats 4000000 in
set_option maxRecDepth 100000 in
theorem mX8_sheet {l : Launch} {D : va_G} {T : zT} {ad sK sV : Nat → Nat} (hi : zInj ad) (n : Nat) (a1 : Int32) (a2 : Int32) (a3 : Int32)  (I : zI) (L : zL) : ∀ o, fX8_sheet n a1 a2 a3 I = some o → zMet l yX8_sheet cX8_sheet 6 (some .int) 2 45 D T ad sK sV [.ref (ad 50), .int a1, .int a2, .int a3] I L (em_iI L o) := by
  intro o ho
  refine zMet.of hi (by decide +kernel) (Nat.le_of_ble_eq_true rfl) (fun p e s m args below meth c hB => ?_)
  refine zr_top (emb := em_iI L) (t := fX8_sheet n a1 a2 a3 I) ?_ ho
  unfold fX8_sheet
  refine zr_iload_n hB 2 rfl rfl dX8_sheet_0 ?_
  refine zr_join (pcJ := 27) (fun x1 : Int32 => [(0, .ref (ad 50)), (1, .int a1), (2, .int a2), (3, .int a3)]) (fun x1 => [.int x1]) (fun x1 => I) (fun x1 => L) (fun x1 => ?_) (fun K4 hj2 => ?_)
  · refine zr_istore (lv' := [(4, .int x1), (0, .ref (ad 50)), (1, .int a1), (2, .int a2), (3, .int a3)]) hB (by decide) rfl dX8_sheet_27 ?_
    refine zr_iload_n hB 2 rfl rfl dX8_sheet_29 ?_
    refine zr_callS (st := []) (As := [.int a1]) (embc := em_i0 I L) hB (mX8_isSheet (sK := sK) (sV := sV) hi a1 I L) lm_X8_351 q2_X8_isSheet q4_X8 q5_X8_isSheet qd_X8_isSheet (by decide) rfl rfl (Nat.le_of_ble_eq_true rfl) ⟨Nat.zero_le _, Nat.zero_le _⟩ dX8_sheet_30 (zr_ki0 (fun o10 => ?_))
    refine zr_ifeq (tgt := 41) hB (by decide) dX8_sheet_33 ?_ ?_
    · refine zr_aload_n hB 1 rfl rfl dX8_sheet_41 ?_
      refine zr_iconst (v := 0) hB (by decide) dX8_sheet_42 ?_
      refine zr_callV (st := []) (C := RX8) (As := [.int 0]) (embc := em_iI L) hB (mX8_finding (sK := sK) (sV := sV) hi 0 I L) (zW_X8 rfl) rfl rfl lm_X8_74 q2_X8_finding q3_X8_finding q4_X8 q5_X8_finding qd_X8_finding (by decide) rfl rfl (Nat.le_of_ble_eq_true rfl) ⟨Nat.zero_le _, Nat.zero_le _⟩ dX8_sheet_43 (zr_kiI (fun o13 => ?_))
      exact zr_iret hB rfl rfl dX8_sheet_46
    · refine zr_iload hB 0 rfl dX8_sheet_36 ?_
      refine zr_ifne (tgt := 47) hB (by decide) dX8_sheet_38 ?_ ?_
      · refine zr_iload_n hB 4 rfl rfl dX8_sheet_47 ?_
        refine zr_ifge (tgt := 58) hB (by decide) dX8_sheet_48 ?_ ?_
        · refine zr_iload_n hB 4 rfl rfl dX8_sheet_58 ?_
          refine zr_bipush (v := 40) hB (by decide) dX8_sheet_59 ?_
          refine zr_icmp_le (tgt := 70) hB (by decide) dX8_sheet_61 ?_ ?_
          · refine zr_aload_n hB 1 rfl rfl dX8_sheet_70 ?_
            refine zr_get_X8 (w := 50) (k := 16) (v := .ref (ad 58)) hB rfl (by decide) rfl lf_X8_31 rfl dX8_sheet_71 ?_
            refine zr_iload_n hB 2 rfl rfl dX8_sheet_74 ?_
            refine zr_iload_n hB 3 rfl rfl dX8_sheet_75 ?_
            refine zr_iastore hB zA_58 dX8_sheet_76 ?_
            refine zr_letM (fun J14 => ?_)
            refine zr_aload_n hB 1 rfl rfl dX8_sheet_77 ?_
            refine zr_get_X8 (w := 50) (k := 17) (v := .ref (ad 59)) hB rfl (by decide) rfl lf_X8_34 rfl dX8_sheet_78 ?_
            refine zr_iload_n hB 2 rfl rfl dX8_sheet_81 ?_
            refine zr_iload_n hB 3 rfl rfl dX8_sheet_82 ?_
            refine zr_join (pcJ := 91) (fun x15 : Int32 => [(0, .ref (ad 50)), (1, .int a1)]) (fun x15 => [.int x15, .int a1, .ref (ad 59)]) (fun x15 => J14) (fun x15 => L) (fun x15 => ?_) (fun K18 hj16 => ?_)
            · refine zr_iastore hB zA_59 dX8_sheet_91 ?_
              refine zr_letM (fun J19 => ?_)
              refine zr_iconst (v := 0) hB (by decide) dX8_sheet_92 ?_
              refine zr_istore (lv' := [(5, .int 0), (0, .ref (ad 50)), (1, .int a1)]) hB (by decide) rfl dX8_sheet_93 ?_
              refine zr_join (pcJ := 121) (fun x21 : zI => [(0, .ref (ad 50)), (1, .int a1)]) (fun _ => []) (fun x21 => x21) (fun x21 => L) (fun x21 => ?_) (fun K27 hx26 => ?_)
              · refine zr_aload_n hB 0 rfl rfl dX8_sheet_121 ?_
                refine zr_get_X8 (w := 50) (k := 17) (v := .ref (ad 59)) hB rfl (by decide) rfl lf_X8_34 rfl dX8_sheet_122 ?_
                refine zr_iload_n hB 1 rfl rfl dX8_sheet_125 ?_
                refine zr_iaload hB zA_59 dX8_sheet_126 ?_
                exact zr_iret hB rfl rfl dX8_sheet_127
              · refine zr_sub (lv' := (fun s20 : Int32 × zI => [(5, .int s20.1), (0, .ref (ad 50)), (1, .int a1)]) (0, J19)) [0, 1, 2] rfl (zr_loop (fun s20 : Int32 × zI => [(5, .int s20.1), (0, .ref (ad 50)), (1, .int a1)]) (fun s20 => s20.2) (fun s20 => L) (fun x21 : zI => [(0, .ref (ad 50)), (1, .int a1)]) (fun x21 => x21) (fun x21 => L) hx26 (fun s20 K28 hc22 hx23 => ?_) n (0, J19))
                unfold gX8_sheet_95
                refine zr_iload hB 0 rfl dX8_sheet_95 ?_
                refine zr_bipush (v := 40) hB (by decide) dX8_sheet_97 ?_
                refine zr_icmp_ge (tgt := 121) hB (by decide) dX8_sheet_99 ?_ ?_
                · exact zr_sub [1, 2] rfl (hx23 s20.2)
                · refine zr_aload_n hB 1 rfl rfl dX8_sheet_102 ?_
                  refine zr_get_X8 (w := 50) (k := 18) (v := .ref (ad 60)) hB rfl (by decide) rfl lf_X8_37 rfl dX8_sheet_103 ?_
                  refine zr_bipush (v := 40) hB (by decide) dX8_sheet_106 ?_
                  refine zr_iload_n hB 2 rfl rfl dX8_sheet_108 ?_
                  refine zr_imul hB dX8_sheet_109 ?_
                  refine zr_iload hB 0 rfl dX8_sheet_110 ?_
                  refine zr_iadd hB dX8_sheet_112 ?_
                  refine zr_iconst (v := 0) hB (by decide) dX8_sheet_113 ?_
                  refine zr_iastore hB zA_60 dX8_sheet_114 ?_
                  refine zr_letM (fun J29 => ?_)
                  refine zr_iincL hB (j := 0) (n := 1) (w := 1) rfl (by decide) (by decide) dX8_sheet_115 (fun v30 lv' hlv => ?_)
                  obtain rfl : lv' = [(5, .int v30), (0, .ref (ad 50)), (1, .int a1)] := hlv.symm.trans rfl
                  refine zr_goto (tgt := 95) hB (by decide) dX8_sheet_118 ?_
                  exact zr_sub [0, 1, 2] rfl (hc22 (v30, J29))
            · refine zr_ifne (tgt := 90) hB (by decide) dX8_sheet_83 ?_ ?_
              · refine zr_iload_n hB 4 rfl rfl dX8_sheet_90 ?_
                exact zr_sub [1, 2] rfl (hj16 a3)
              · refine zr_iconst (v := 0) hB (by decide) dX8_sheet_86 ?_
                refine zr_goto (tgt := 91) hB (by decide) dX8_sheet_87 ?_
                exact zr_sub [1, 2] rfl (hj16 0)
          · refine zr_aload_n hB 1 rfl rfl dX8_sheet_64 ?_
            refine zr_iconst (v := 0) hB (by decide) dX8_sheet_65 ?_
            refine zr_callV (st := []) (C := RX8) (As := [.int 0]) (embc := em_iI L) hB (mX8_finding (sK := sK) (sV := sV) hi 0 I L) (zW_X8 rfl) rfl rfl lm_X8_74 q2_X8_finding q3_X8_finding q4_X8 q5_X8_finding qd_X8_finding (by decide) rfl rfl (Nat.le_of_ble_eq_true rfl) ⟨Nat.zero_le _, Nat.zero_le _⟩ dX8_sheet_66 (zr_kiI (fun o33 => ?_))
            exact zr_iret hB rfl rfl dX8_sheet_69
        · refine zr_aload_n hB 1 rfl rfl dX8_sheet_51 ?_
          refine zr_bipush (v := 6) hB (by decide) dX8_sheet_52 ?_
          refine zr_callV (st := []) (C := RX8) (As := [.int 6]) (embc := em_iI L) hB (mX8_finding (sK := sK) (sV := sV) hi 6 I L) (zW_X8 rfl) rfl rfl lm_X8_74 q2_X8_finding q3_X8_finding q4_X8 q5_X8_finding qd_X8_finding (by decide) rfl rfl (Nat.le_of_ble_eq_true rfl) ⟨Nat.zero_le _, Nat.zero_le _⟩ dX8_sheet_54 (zr_kiI (fun o36 => ?_))
          exact zr_iret hB rfl rfl dX8_sheet_57
      · refine zr_aload_n hB 1 rfl rfl dX8_sheet_41 ?_
        refine zr_iconst (v := 0) hB (by decide) dX8_sheet_42 ?_
        refine zr_callV (st := []) (C := RX8) (As := [.int 0]) (embc := em_iI L) hB (mX8_finding (sK := sK) (sV := sV) hi 0 I L) (zW_X8 rfl) rfl rfl lm_X8_74 q2_X8_finding q3_X8_finding q4_X8 q5_X8_finding qd_X8_finding (by decide) rfl rfl (Nat.le_of_ble_eq_true rfl) ⟨Nat.zero_le _, Nat.zero_le _⟩ dX8_sheet_43 (zr_kiI (fun o39 => ?_))
        exact zr_iret hB rfl rfl dX8_sheet_46
  · refine zr_joins (pcJ := 22) (fun x5 : Unit => [(0, .ref (ad 50)), (1, .int a1), (2, .int a2), (3, .int a3)]) (fun x5 => []) (fun x5 => I) (fun x5 => L) (fun x5 => ?_) (fun K8 hi7 hj6 => ?_)
    · refine zr_iconst (v := 1) hB (by decide) dX8_sheet_22 ?_
      refine zr_goto (tgt := 27) hB (by decide) dX8_sheet_23 ?_
      exact zr_sub [0, 1, 2, 3] rfl (hj2 1)
    · refine zr_ifeq (tgt := 22) hB (by decide) dX8_sheet_1 ?_ ?_
      · exact zr_sub [0, 1, 2, 3] rfl (hj6 ())
      · refine zr_iload_n hB 2 rfl rfl dX8_sheet_4 ?_
        refine zr_bipush (v := 8) hB (by decide) dX8_sheet_5 ?_
        refine zr_icmp_eq (tgt := 22) hB (by decide) dX8_sheet_7 ?_ ?_
        · exact zr_sub [0, 1, 2, 3] rfl (hj6 ())
        · refine zr_iload_n hB 2 rfl rfl dX8_sheet_10 ?_
          refine zr_bipush (v := 16) hB (by decide) dX8_sheet_11 ?_
          refine zr_icmp_eq (tgt := 22) hB (by decide) dX8_sheet_13 ?_ ?_
          · exact zr_sub [0, 1, 2, 3] rfl (hj6 ())
          · refine zr_iload_n hB 2 rfl rfl dX8_sheet_16 ?_
            refine zr_bipush (v := 32) hB (by decide) dX8_sheet_17 ?_
            refine zr_icmp_ne (tgt := 26) hB (by decide) dX8_sheet_19 ?_ ?_
            · refine zr_iconst (v := 0) hB (by decide) dX8_sheet_26 ?_
              refine hi7 _ _ _ _ _ _ ?_
              exact zr_sub [0, 1, 2, 3] rfl (hj2 0)
            · exact zr_sub [0, 1, 2, 3] rfl (hj6 ())

def fX8_lacksOf (a1 : Int32) (I : zI) : Option (Int32) :=
  zb (fX8_isSheet a1) fun o2 =>
  if o2 = 0 then
    some 0
  else
  zg a1 4 (
  if (I 58 (zn a1)) = 0 then
    some 5
  else
  some (-1))
set_option maxHeartbeats 4000000 in
set_option maxRecDepth 100000 in
theorem mX8_lacksOf {l : Launch} {D : va_G} {T : zT} {ad sK sV : Nat → Nat} (hi : zInj ad) (a1 : Int32)  (I : zI) (L : zL) : ∀ o, fX8_lacksOf a1 I = some o → zMet l yX8_lacksOf cX8_lacksOf 2 (some .int) 2 45 D T ad sK sV [.ref (ad 50), .int a1] I L (em_i0 I L o) := by
  intro o ho
  refine zMet.of hi (by decide +kernel) (Nat.le_of_ble_eq_true rfl) (fun p e s m args below meth c hB => ?_)
  refine zr_top (emb := em_i0 I L) (t := fX8_lacksOf a1 I) ?_ ho
  unfold fX8_lacksOf
  refine zr_iload_n hB 1 rfl rfl dX8_lacksOf_0 ?_
  refine zr_callS (st := []) (As := [.int a1]) (embc := em_i0 I L) hB (mX8_isSheet (sK := sK) (sV := sV) hi a1 I L) lm_X8_351 q2_X8_isSheet q4_X8 q5_X8_isSheet qd_X8_isSheet (by decide) rfl rfl (Nat.le_of_ble_eq_true rfl) ⟨Nat.zero_le _, Nat.zero_le _⟩ dX8_lacksOf_1 (zr_ki0 (fun o2 => ?_))
  refine zr_ifne (tgt := 11) hB (by decide) dX8_lacksOf_4 ?_ ?_
  · refine zr_aload_n hB 0 rfl rfl dX8_lacksOf_11 ?_
    refine zr_get_X8 (w := 50) (k := 16) (v := .ref (ad 58)) hB rfl (by decide) rfl lf_X8_31 rfl dX8_lacksOf_12 ?_
    refine zr_iload_n hB 1 rfl rfl dX8_lacksOf_15 ?_
    refine zr_iaload hB zA_58 dX8_lacksOf_16 ?_
    refine zr_ifne (tgt := 24) hB (by decide) dX8_lacksOf_17 ?_ ?_
    · refine zr_iconst (v := (-1)) hB (by decide) dX8_lacksOf_24 ?_
      exact zr_iret hB rfl rfl dX8_lacksOf_25
    · refine zr_iconst (v := 5) hB (by decide) dX8_lacksOf_20 ?_
      refine zr_goto (tgt := 25) hB (by decide) dX8_lacksOf_21 ?_
      exact zr_iret hB rfl rfl dX8_lacksOf_25
  · refine zr_iconst (v := 0) hB (by decide) dX8_lacksOf_7 ?_
    refine zr_goto (tgt := 25) hB (by decide) dX8_lacksOf_8 ?_
    exact zr_iret hB rfl rfl dX8_lacksOf_25

def fX8_write (a1 : Int32) (a2 : Int32) (a3 : Int32) (I : zI) : Option (Int32 × zI) :=
  zb (fX8_lacksOf a1 I) fun o2 =>
  if o2 < 0 then
    zg a1 4 (
    zb (fX8_within a2.toInt64 0 (((I 59 (zn a1)) - 1).toInt64)) fun o4 =>
    if o4 = 0 then
      zb (fX8_finding 0 I) fun o10 =>
      some (o10.1, o10.2)
    else
    zg a1 4 (
    zb (fX8_cut a3 (I 58 (zn a1))) fun o6 =>
    zg ((40 * a1) + a2) 160 (
    zl (zup I 60 (zn ((40 * a1) + a2)) o6) fun J7 =>
    some (1, J7))))
  else
  zb (fX8_finding o2 I) fun o13 =>
  some (o13.1, o13.2)
set_option maxHeartbeats 4000000 in
set_option maxRecDepth 100000 in
theorem mX8_write {l : Launch} {D : va_G} {T : zT} {ad sK sV : Nat → Nat} (hi : zInj ad) (a1 : Int32) (a2 : Int32) (a3 : Int32)  (I : zI) (L : zL) : ∀ o, fX8_write a1 a2 a3 I = some o → zMet l yX8_write cX8_write 5 (some .int) 3 66 D T ad sK sV [.ref (ad 50), .int a1, .int a2, .int a3] I L (em_iI L o) := by
  intro o ho
  refine zMet.of hi (by decide +kernel) (Nat.le_of_ble_eq_true rfl) (fun p e s m args below meth c hB => ?_)
  refine zr_top (emb := em_iI L) (t := fX8_write a1 a2 a3 I) ?_ ho
  unfold fX8_write
  refine zr_aload_n hB 0 rfl rfl dX8_write_0 ?_
  refine zr_iload_n hB 1 rfl rfl dX8_write_1 ?_
  refine zr_callV (st := []) (C := RX8) (As := [.int a1]) (embc := em_i0 I L) hB (mX8_lacksOf (sK := sK) (sV := sV) hi a1 I L) (zW_X8 rfl) rfl rfl lm_X8_354 q2_X8_lacksOf q3_X8_lacksOf q4_X8 q5_X8_lacksOf qd_X8_lacksOf (by decide) rfl rfl (Nat.le_of_ble_eq_true rfl) ⟨Nat.zero_le _, Nat.zero_le _⟩ dX8_write_2 (zr_ki0 (fun o2 => ?_))
  refine zr_istore (lv' := [(4, .int o2), (0, .ref (ad 50)), (1, .int a1), (2, .int a2), (3, .int a3)]) hB (by decide) rfl dX8_write_5 ?_
  refine zr_iload hB 0 rfl dX8_write_7 ?_
  refine zr_iflt (tgt := 19) hB (by decide) dX8_write_9 ?_ ?_
  · refine zr_iload_n hB 3 rfl rfl dX8_write_19 ?_
    refine zr_i2l hB dX8_write_20 ?_
    refine zr_lconst (v := 0) hB (by decide) dX8_write_21 ?_
    refine zr_aload_n hB 1 rfl rfl dX8_write_22 ?_
    refine zr_get_X8 (w := 50) (k := 17) (v := .ref (ad 59)) hB rfl (by decide) rfl lf_X8_34 rfl dX8_write_23 ?_
    refine zr_iload_n hB 2 rfl rfl dX8_write_26 ?_
    refine zr_iaload hB zA_59 dX8_write_27 ?_
    refine zr_iconst (v := 1) hB (by decide) dX8_write_28 ?_
    refine zr_isub hB dX8_write_29 ?_
    refine zr_i2l hB dX8_write_30 ?_
    refine zr_callS (st := []) (As := [.long a2.toInt64, .long 0, .long (((I 59 (zn a1)) - 1).toInt64)]) (embc := em_i0 I L) hB (mX8_within (sK := sK) (sV := sV) hi a2.toInt64 0 (((I 59 (zn a1)) - 1).toInt64) I L) lm_X8_54 q2_X8_within q4_X8 q5_X8_within qd_X8_within (by decide) rfl rfl (Nat.le_of_ble_eq_true rfl) ⟨Nat.zero_le _, Nat.zero_le _⟩ dX8_write_31 (zr_ki0 (fun o4 => ?_))
    refine zr_ifne (tgt := 43) hB (by decide) dX8_write_34 ?_ ?_
    · refine zr_aload_n hB 1 rfl rfl dX8_write_43 ?_
      refine zr_get_X8 (w := 50) (k := 18) (v := .ref (ad 60)) hB rfl (by decide) rfl lf_X8_37 rfl dX8_write_44 ?_
      refine zr_bipush (v := 40) hB (by decide) dX8_write_47 ?_
      refine zr_iload_n hB 2 rfl rfl dX8_write_49 ?_
      refine zr_imul hB dX8_write_50 ?_
      refine zr_iload_n hB 3 rfl rfl dX8_write_51 ?_
      refine zr_iadd hB dX8_write_52 ?_
      refine zr_iload_n hB 4 rfl rfl dX8_write_53 ?_
      refine zr_aload_n hB 1 rfl rfl dX8_write_54 ?_
      refine zr_get_X8 (w := 50) (k := 16) (v := .ref (ad 58)) hB rfl (by decide) rfl lf_X8_31 rfl dX8_write_55 ?_
      refine zr_iload_n hB 2 rfl rfl dX8_write_58 ?_
      refine zr_iaload hB zA_58 dX8_write_59 ?_
      refine zr_callS (st := [.int ((40 * a1) + a2), .ref (ad 60)]) (As := [.int a3, .int (I 58 (zn a1))]) (embc := em_i0 I L) hB (mX8_cut (sK := sK) (sV := sV) hi a3 (I 58 (zn a1)) I L) lm_X8_357 q2_X8_cut q4_X8 q5_X8_cut qd_X8_cut (by decide) rfl rfl (Nat.le_of_ble_eq_true rfl) ⟨Nat.zero_le _, Nat.zero_le _⟩ dX8_write_60 (zr_ki0 (fun o6 => ?_))
      refine zr_iastore hB zA_60 dX8_write_63 ?_
      refine zr_letM (fun J7 => ?_)
      refine zr_iconst (v := 1) hB (by decide) dX8_write_64 ?_
      exact zr_iret hB rfl rfl dX8_write_65
    · refine zr_aload_n hB 1 rfl rfl dX8_write_37 ?_
      refine zr_iconst (v := 0) hB (by decide) dX8_write_38 ?_
      refine zr_callV (st := []) (C := RX8) (As := [.int 0]) (embc := em_iI L) hB (mX8_finding (sK := sK) (sV := sV) hi 0 I L) (zW_X8 rfl) rfl rfl lm_X8_74 q2_X8_finding q3_X8_finding q4_X8 q5_X8_finding qd_X8_finding (by decide) rfl rfl (Nat.le_of_ble_eq_true rfl) ⟨Nat.zero_le _, Nat.zero_le _⟩ dX8_write_39 (zr_kiI (fun o10 => ?_))
      exact zr_iret hB rfl rfl dX8_write_42
  · refine zr_aload_n hB 1 rfl rfl dX8_write_12 ?_
    refine zr_iload hB 0 rfl dX8_write_13 ?_
    refine zr_callV (st := []) (C := RX8) (As := [.int o2]) (embc := em_iI L) hB (mX8_finding (sK := sK) (sV := sV) hi o2 I L) (zW_X8 rfl) rfl rfl lm_X8_74 q2_X8_finding q3_X8_finding q4_X8 q5_X8_finding qd_X8_finding (by decide) rfl rfl (Nat.le_of_ble_eq_true rfl) ⟨Nat.zero_le _, Nat.zero_le _⟩ dX8_write_15 (zr_kiI (fun o13 => ?_))
    exact zr_iret hB rfl rfl dX8_write_18

def gX8_copy_135 (a1 : Int32) (a2 : Int32) (a5 : Int32) (s19 : Int32 × zI) : Option ((Int32 × zI) ⊕ (zI)) :=
  if a5 ≤ s19.1 then
    some (.inr s19.2)
  else
  zg (((40 * a1) + a2) + s19.1) 160 (
  zg s19.1 40 (
  zl (zup s19.2 61 (zn s19.1) (s19.2 60 (zn (((40 * a1) + a2) + s19.1)))) fun J28 =>
  zl (s19.1 + 1) fun v29 =>
  some (.inl (v29, J28))))
def gX8_copy_172 (a3 : Int32) (a4 : Int32) (a5 : Int32) (s30 : Int32 × zI) : Option ((Int32 × zI) ⊕ (zI)) :=
  if a5 ≤ s30.1 then
    some (.inr s30.2)
  else
  zg s30.1 40 (
  zg (((40 * a3) + a4) + s30.1) 160 (
  zl (zup s30.2 60 (zn (((40 * a3) + a4) + s30.1)) (s30.2 61 (zn s30.1))) fun J39 =>
  zl (s30.1 + 1) fun v40 =>
  some (.inl (v40, J39))))
def fX8_copy (n : Nat) (a1 : Int32) (a2 : Int32) (a3 : Int32) (a4 : Int32) (a5 : Int32) (I : zI) : Option (Int32 × zI) :=
  zb (fX8_isSheet a1) fun o2 =>
  if o2 = 0 then
    zb (fX8_finding 0 I) fun o5 =>
    some (o5.1, o5.2)
  else
  zb (fX8_isSheet a3) fun o7 =>
  if o7 = 0 then
    zb (fX8_finding 0 I) fun o52 =>
    some (o52.1, o52.2)
  else
  zg a1 4 (
  if (I 58 (zn a1)) = 0 then
    zb (fX8_finding 5 I) fun o10 =>
    some (o10.1, o10.2)
  else
  zg a3 4 (
  if (I 58 (zn a3)) = 0 then
    zb (fX8_finding 5 I) fun o49 =>
    some (o49.1, o49.2)
  else
  zg a1 4 (
  zg a3 4 (
  if (I 58 (zn a1)) = (I 58 (zn a3)) then
    zb (
      zbs (
        if a5 < 0 then
          some (.inr ())
        else
        if a2 < 0 then
          some (.inr ())
        else
        if a4 < 0 then
          some (.inr ())
        else
        zg a1 4 (
        if 0 < (lg_cmp (a2.toInt64 + a5.toInt64) ((I 59 (zn a1)).toInt64)) then
          some (.inr ())
        else
        zg a3 4 (
        if 0 < (lg_cmp (a4.toInt64 + a5.toInt64) ((I 59 (zn a3)).toInt64)) then
          some (.inr ())
        else
        some (.inl 1)))) fun x15 : Unit =>
      some 0) fun x11 : Int32 =>
    if x11 = 0 then
      zb (fX8_finding 0 I) fun o43 =>
      some (o43.1, o43.2)
    else
    zb (zit (gX8_copy_135 a1 a2 a5) n (0, I)) fun x20 : zI =>
    zb (zit (gX8_copy_172 a3 a4 a5) n (0, x20)) fun x31 : zI =>
    some (a5, x31)
  else
  zb (fX8_finding 2 I) fun o46 =>
  some (o46.1, o46.2)))))
set_option maxHeartbeats 4000000 in
set_option maxRecDepth 100000 in
theorem mX8_copy {l : Launch} {D : va_G} {T : zT} {ad sK sV : Nat → Nat} (hi : zInj ad) (n : Nat) (a1 : Int32) (a2 : Int32) (a3 : Int32) (a4 : Int32) (a5 : Int32)  (I : zI) (L : zL) : ∀ o, fX8_copy n a1 a2 a3 a4 a5 I = some o → zMet l yX8_copy cX8_copy 8 (some .int) 2 45 D T ad sK sV [.ref (ad 50), .int a1, .int a2, .int a3, .int a4, .int a5] I L (em_iI L o) := by
  intro o ho
  refine zMet.of hi (by decide +kernel) (Nat.le_of_ble_eq_true rfl) (fun p e s m args below meth c hB => ?_)
  refine zr_top (emb := em_iI L) (t := fX8_copy n a1 a2 a3 a4 a5 I) ?_ ho
  unfold fX8_copy
  refine zr_iload_n hB 1 rfl rfl dX8_copy_0 ?_
  refine zr_callS (st := []) (As := [.int a1]) (embc := em_i0 I L) hB (mX8_isSheet (sK := sK) (sV := sV) hi a1 I L) lm_X8_351 q2_X8_isSheet q4_X8 q5_X8_isSheet qd_X8_isSheet (by decide) rfl rfl (Nat.le_of_ble_eq_true rfl) ⟨Nat.zero_le _, Nat.zero_le _⟩ dX8_copy_1 (zr_ki0 (fun o2 => ?_))
  refine zr_ifeq (tgt := 14) hB (by decide) dX8_copy_4 ?_ ?_
  · refine zr_aload_n hB 0 rfl rfl dX8_copy_14 ?_
    refine zr_iconst (v := 0) hB (by decide) dX8_copy_15 ?_
    refine zr_callV (st := []) (C := RX8) (As := [.int 0]) (embc := em_iI L) hB (mX8_finding (sK := sK) (sV := sV) hi 0 I L) (zW_X8 rfl) rfl rfl lm_X8_74 q2_X8_finding q3_X8_finding q4_X8 q5_X8_finding qd_X8_finding (by decide) rfl rfl (Nat.le_of_ble_eq_true rfl) ⟨Nat.zero_le _, Nat.zero_le _⟩ dX8_copy_16 (zr_kiI (fun o5 => ?_))
    exact zr_iret hB rfl rfl dX8_copy_19
  · refine zr_iload_n hB 3 rfl rfl dX8_copy_7 ?_
    refine zr_callS (st := []) (As := [.int a3]) (embc := em_i0 I L) hB (mX8_isSheet (sK := sK) (sV := sV) hi a3 I L) lm_X8_351 q2_X8_isSheet q4_X8 q5_X8_isSheet qd_X8_isSheet (by decide) rfl rfl (Nat.le_of_ble_eq_true rfl) ⟨Nat.zero_le _, Nat.zero_le _⟩ dX8_copy_8 (zr_ki0 (fun o7 => ?_))
    refine zr_ifne (tgt := 20) hB (by decide) dX8_copy_11 ?_ ?_
    · refine zr_aload_n hB 0 rfl rfl dX8_copy_20 ?_
      refine zr_get_X8 (w := 50) (k := 16) (v := .ref (ad 58)) hB rfl (by decide) rfl lf_X8_31 rfl dX8_copy_21 ?_
      refine zr_iload_n hB 1 rfl rfl dX8_copy_24 ?_
      refine zr_iaload hB zA_58 dX8_copy_25 ?_
      refine zr_ifeq (tgt := 38) hB (by decide) dX8_copy_26 ?_ ?_
      · refine zr_aload_n hB 0 rfl rfl dX8_copy_38 ?_
        refine zr_iconst (v := 5) hB (by decide) dX8_copy_39 ?_
        refine zr_callV (st := []) (C := RX8) (As := [.int 5]) (embc := em_iI L) hB (mX8_finding (sK := sK) (sV := sV) hi 5 I L) (zW_X8 rfl) rfl rfl lm_X8_74 q2_X8_finding q3_X8_finding q4_X8 q5_X8_finding qd_X8_finding (by decide) rfl rfl (Nat.le_of_ble_eq_true rfl) ⟨Nat.zero_le _, Nat.zero_le _⟩ dX8_copy_40 (zr_kiI (fun o10 => ?_))
        exact zr_iret hB rfl rfl dX8_copy_43
      · refine zr_aload_n hB 0 rfl rfl dX8_copy_29 ?_
        refine zr_get_X8 (w := 50) (k := 16) (v := .ref (ad 58)) hB rfl (by decide) rfl lf_X8_31 rfl dX8_copy_30 ?_
        refine zr_iload_n hB 3 rfl rfl dX8_copy_33 ?_
        refine zr_iaload hB zA_58 dX8_copy_34 ?_
        refine zr_ifne (tgt := 44) hB (by decide) dX8_copy_35 ?_ ?_
        · refine zr_aload_n hB 0 rfl rfl dX8_copy_44 ?_
          refine zr_get_X8 (w := 50) (k := 16) (v := .ref (ad 58)) hB rfl (by decide) rfl lf_X8_31 rfl dX8_copy_45 ?_
          refine zr_iload_n hB 1 rfl rfl dX8_copy_48 ?_
          refine zr_iaload hB zA_58 dX8_copy_49 ?_
          refine zr_aload_n hB 0 rfl rfl dX8_copy_50 ?_
          refine zr_get_X8 (w := 50) (k := 16) (v := .ref (ad 58)) hB rfl (by decide) rfl lf_X8_31 rfl dX8_copy_51 ?_
          refine zr_iload_n hB 3 rfl rfl dX8_copy_54 ?_
          refine zr_iaload hB zA_58 dX8_copy_55 ?_
          refine zr_icmp_eq (tgt := 65) hB (by decide) dX8_copy_56 ?_ ?_
          · refine zr_iload hB 5 rfl dX8_copy_65 ?_
            refine zr_join (pcJ := 119) (fun x11 : Int32 => [(0, .ref (ad 50)), (1, .int a1), (2, .int a2), (3, .int a3), (4, .int a4), (5, .int a5)]) (fun x11 => [.int x11]) (fun x11 => I) (fun x11 => L) (fun x11 => ?_) (fun K14 hj12 => ?_)
            · refine zr_istore (lv' := [(6, .int x11), (0, .ref (ad 50)), (1, .int a1), (2, .int a2), (3, .int a3), (4, .int a4), (5, .int a5)]) hB (by decide) rfl dX8_copy_119 ?_
              refine zr_iload hB 0 rfl dX8_copy_121 ?_
              refine zr_ifne (tgt := 132) hB (by decide) dX8_copy_123 ?_ ?_
              · refine zr_iconst (v := 0) hB (by decide) dX8_copy_132 ?_
                refine zr_istore (lv' := [(7, .int 0), (6, .int x11), (0, .ref (ad 50)), (1, .int a1), (2, .int a2), (3, .int a3), (4, .int a4), (5, .int a5)]) hB (by decide) rfl dX8_copy_133 ?_
                refine zr_join (pcJ := 169) (fun x20 : zI => [(0, .ref (ad 50)), (3, .int a3), (4, .int a4), (5, .int a5)]) (fun _ => []) (fun x20 => x20) (fun x20 => L) (fun x20 => ?_) (fun K26 hx25 => ?_)
                · refine zr_iconst (v := 0) hB (by decide) dX8_copy_169 ?_
                  refine zr_istore (lv' := [(7, .int 0), (0, .ref (ad 50)), (3, .int a3), (4, .int a4), (5, .int a5)]) hB (by decide) rfl dX8_copy_170 ?_
                  refine zr_join (pcJ := 207) (fun x31 : zI => [(5, .int a5)]) (fun _ => []) (fun x31 => x31) (fun x31 => L) (fun x31 => ?_) (fun K37 hx36 => ?_)
                  · refine zr_iload hB 0 rfl dX8_copy_207 ?_
                    exact zr_iret hB rfl rfl dX8_copy_209
                  · refine zr_sub (lv' := (fun s30 : Int32 × zI => [(7, .int s30.1), (0, .ref (ad 50)), (3, .int a3), (4, .int a4), (5, .int a5)]) (0, x20)) [0, 1, 2, 3, 4] rfl (zr_loop (fun s30 : Int32 × zI => [(7, .int s30.1), (0, .ref (ad 50)), (3, .int a3), (4, .int a4), (5, .int a5)]) (fun s30 => s30.2) (fun s30 => L) (fun x31 : zI => [(5, .int a5)]) (fun x31 => x31) (fun x31 => L) hx36 (fun s30 K38 hc32 hx33 => ?_) n (0, x20))
                    unfold gX8_copy_172
                    refine zr_iload hB 0 rfl dX8_copy_172 ?_
                    refine zr_iload hB 4 rfl dX8_copy_174 ?_
                    refine zr_icmp_ge (tgt := 207) hB (by decide) dX8_copy_176 ?_ ?_
                    · exact zr_sub [4] rfl (hx33 s30.2)
                    · refine zr_aload_n hB 1 rfl rfl dX8_copy_179 ?_
                      refine zr_get_X8 (w := 50) (k := 18) (v := .ref (ad 60)) hB rfl (by decide) rfl lf_X8_37 rfl dX8_copy_180 ?_
                      refine zr_bipush (v := 40) hB (by decide) dX8_copy_183 ?_
                      refine zr_iload_n hB 2 rfl rfl dX8_copy_185 ?_
                      refine zr_imul hB dX8_copy_186 ?_
                      refine zr_iload hB 3 rfl dX8_copy_187 ?_
                      refine zr_iadd hB dX8_copy_189 ?_
                      refine zr_iload hB 0 rfl dX8_copy_190 ?_
                      refine zr_iadd hB dX8_copy_192 ?_
                      refine zr_aload_n hB 1 rfl rfl dX8_copy_193 ?_
                      refine zr_get_X8 (w := 50) (k := 19) (v := .ref (ad 61)) hB rfl (by decide) rfl lf_X8_40 rfl dX8_copy_194 ?_
                      refine zr_iload hB 0 rfl dX8_copy_197 ?_
                      refine zr_iaload hB zA_61 dX8_copy_199 ?_
                      refine zr_iastore hB zA_60 dX8_copy_200 ?_
                      refine zr_letM (fun J39 => ?_)
                      refine zr_iincL hB (j := 0) (n := 1) (w := 1) rfl (by decide) (by decide) dX8_copy_201 (fun v40 lv' hlv => ?_)
                      obtain rfl : lv' = [(7, .int v40), (0, .ref (ad 50)), (3, .int a3), (4, .int a4), (5, .int a5)] := hlv.symm.trans rfl
                      refine zr_goto (tgt := 172) hB (by decide) dX8_copy_204 ?_
                      exact zr_sub [0, 1, 2, 3, 4] rfl (hc32 (v40, J39))
                · refine zr_sub (lv' := (fun s19 : Int32 × zI => [(7, .int s19.1), (0, .ref (ad 50)), (1, .int a1), (2, .int a2), (3, .int a3), (4, .int a4), (5, .int a5)]) (0, I)) [0, 2, 3, 4, 5, 6, 7] rfl (zr_loop (fun s19 : Int32 × zI => [(7, .int s19.1), (0, .ref (ad 50)), (1, .int a1), (2, .int a2), (3, .int a3), (4, .int a4), (5, .int a5)]) (fun s19 => s19.2) (fun s19 => L) (fun x20 : zI => [(0, .ref (ad 50)), (3, .int a3), (4, .int a4), (5, .int a5)]) (fun x20 => x20) (fun x20 => L) hx25 (fun s19 K27 hc21 hx22 => ?_) n (0, I))
                  unfold gX8_copy_135
                  refine zr_iload hB 0 rfl dX8_copy_135 ?_
                  refine zr_iload hB 6 rfl dX8_copy_137 ?_
                  refine zr_icmp_ge (tgt := 169) hB (by decide) dX8_copy_139 ?_ ?_
                  · exact zr_sub [1, 4, 5, 6] rfl (hx22 s19.2)
                  · refine zr_aload_n hB 1 rfl rfl dX8_copy_142 ?_
                    refine zr_get_X8 (w := 50) (k := 19) (v := .ref (ad 61)) hB rfl (by decide) rfl lf_X8_40 rfl dX8_copy_143 ?_
                    refine zr_iload hB 0 rfl dX8_copy_146 ?_
                    refine zr_aload_n hB 1 rfl rfl dX8_copy_148 ?_
                    refine zr_get_X8 (w := 50) (k := 18) (v := .ref (ad 60)) hB rfl (by decide) rfl lf_X8_37 rfl dX8_copy_149 ?_
                    refine zr_bipush (v := 40) hB (by decide) dX8_copy_152 ?_
                    refine zr_iload_n hB 2 rfl rfl dX8_copy_154 ?_
                    refine zr_imul hB dX8_copy_155 ?_
                    refine zr_iload_n hB 3 rfl rfl dX8_copy_156 ?_
                    refine zr_iadd hB dX8_copy_157 ?_
                    refine zr_iload hB 0 rfl dX8_copy_158 ?_
                    refine zr_iadd hB dX8_copy_160 ?_
                    refine zr_iaload hB zA_60 dX8_copy_161 ?_
                    refine zr_iastore hB zA_61 dX8_copy_162 ?_
                    refine zr_letM (fun J28 => ?_)
                    refine zr_iincL hB (j := 0) (n := 1) (w := 1) rfl (by decide) (by decide) dX8_copy_163 (fun v29 lv' hlv => ?_)
                    obtain rfl : lv' = [(7, .int v29), (0, .ref (ad 50)), (1, .int a1), (2, .int a2), (3, .int a3), (4, .int a4), (5, .int a5)] := hlv.symm.trans rfl
                    refine zr_goto (tgt := 135) hB (by decide) dX8_copy_166 ?_
                    exact zr_sub [0, 1, 2, 3, 4, 5, 6] rfl (hc21 (v29, J28))
              · refine zr_aload_n hB 1 rfl rfl dX8_copy_126 ?_
                refine zr_iconst (v := 0) hB (by decide) dX8_copy_127 ?_
                refine zr_callV (st := []) (C := RX8) (As := [.int 0]) (embc := em_iI L) hB (mX8_finding (sK := sK) (sV := sV) hi 0 I L) (zW_X8 rfl) rfl rfl lm_X8_74 q2_X8_finding q3_X8_finding q4_X8 q5_X8_finding qd_X8_finding (by decide) rfl rfl (Nat.le_of_ble_eq_true rfl) ⟨Nat.zero_le _, Nat.zero_le _⟩ dX8_copy_128 (zr_kiI (fun o43 => ?_))
                exact zr_iret hB rfl rfl dX8_copy_131
            · refine zr_joins (pcJ := 118) (fun x15 : Unit => [(0, .ref (ad 50)), (1, .int a1), (2, .int a2), (3, .int a3), (4, .int a4), (5, .int a5)]) (fun x15 => []) (fun x15 => I) (fun x15 => L) (fun x15 => ?_) (fun K18 hi17 hj16 => ?_)
              · refine zr_iconst (v := 0) hB (by decide) dX8_copy_118 ?_
                exact zr_sub [0, 1, 2, 3, 4, 5] rfl (hj12 0)
              · refine zr_iflt (tgt := 118) hB (by decide) dX8_copy_67 ?_ ?_
                · exact zr_sub [0, 1, 2, 3, 4, 5] rfl (hj16 ())
                · refine zr_iload_n hB 2 rfl rfl dX8_copy_70 ?_
                  refine zr_iflt (tgt := 118) hB (by decide) dX8_copy_71 ?_ ?_
                  · exact zr_sub [0, 1, 2, 3, 4, 5] rfl (hj16 ())
                  · refine zr_iload hB 4 rfl dX8_copy_74 ?_
                    refine zr_iflt (tgt := 118) hB (by decide) dX8_copy_76 ?_ ?_
                    · exact zr_sub [0, 1, 2, 3, 4, 5] rfl (hj16 ())
                    · refine zr_iload_n hB 2 rfl rfl dX8_copy_79 ?_
                      refine zr_i2l hB dX8_copy_80 ?_
                      refine zr_iload hB 5 rfl dX8_copy_81 ?_
                      refine zr_i2l hB dX8_copy_83 ?_
                      refine zr_ladd hB dX8_copy_84 ?_
                      refine zr_aload_n hB 0 rfl rfl dX8_copy_85 ?_
                      refine zr_get_X8 (w := 50) (k := 17) (v := .ref (ad 59)) hB rfl (by decide) rfl lf_X8_34 rfl dX8_copy_86 ?_
                      refine zr_iload_n hB 1 rfl rfl dX8_copy_89 ?_
                      refine zr_iaload hB zA_59 dX8_copy_90 ?_
                      refine zr_i2l hB dX8_copy_91 ?_
                      refine zr_lcmp hB dX8_copy_92 ?_
                      refine zr_ifgt (tgt := 118) hB (by decide) dX8_copy_93 ?_ ?_
                      · exact zr_sub [0, 1, 2, 3, 4, 5] rfl (hj16 ())
                      · refine zr_iload hB 4 rfl dX8_copy_96 ?_
                        refine zr_i2l hB dX8_copy_98 ?_
                        refine zr_iload hB 5 rfl dX8_copy_99 ?_
                        refine zr_i2l hB dX8_copy_101 ?_
                        refine zr_ladd hB dX8_copy_102 ?_
                        refine zr_aload_n hB 0 rfl rfl dX8_copy_103 ?_
                        refine zr_get_X8 (w := 50) (k := 17) (v := .ref (ad 59)) hB rfl (by decide) rfl lf_X8_34 rfl dX8_copy_104 ?_
                        refine zr_iload_n hB 3 rfl rfl dX8_copy_107 ?_
                        refine zr_iaload hB zA_59 dX8_copy_108 ?_
                        refine zr_i2l hB dX8_copy_109 ?_
                        refine zr_lcmp hB dX8_copy_110 ?_
                        refine zr_ifgt (tgt := 118) hB (by decide) dX8_copy_111 ?_ ?_
                        · exact zr_sub [0, 1, 2, 3, 4, 5] rfl (hj16 ())
                        · refine zr_iconst (v := 1) hB (by decide) dX8_copy_114 ?_
                          refine zr_goto (tgt := 119) hB (by decide) dX8_copy_115 ?_
                          refine hi17 _ _ _ _ _ _ ?_
                          exact zr_sub [0, 1, 2, 3, 4, 5] rfl (hj12 1)
          · refine zr_aload_n hB 0 rfl rfl dX8_copy_59 ?_
            refine zr_iconst (v := 2) hB (by decide) dX8_copy_60 ?_
            refine zr_callV (st := []) (C := RX8) (As := [.int 2]) (embc := em_iI L) hB (mX8_finding (sK := sK) (sV := sV) hi 2 I L) (zW_X8 rfl) rfl rfl lm_X8_74 q2_X8_finding q3_X8_finding q4_X8 q5_X8_finding qd_X8_finding (by decide) rfl rfl (Nat.le_of_ble_eq_true rfl) ⟨Nat.zero_le _, Nat.zero_le _⟩ dX8_copy_61 (zr_kiI (fun o46 => ?_))
            exact zr_iret hB rfl rfl dX8_copy_64
        · refine zr_aload_n hB 0 rfl rfl dX8_copy_38 ?_
          refine zr_iconst (v := 5) hB (by decide) dX8_copy_39 ?_
          refine zr_callV (st := []) (C := RX8) (As := [.int 5]) (embc := em_iI L) hB (mX8_finding (sK := sK) (sV := sV) hi 5 I L) (zW_X8 rfl) rfl rfl lm_X8_74 q2_X8_finding q3_X8_finding q4_X8 q5_X8_finding qd_X8_finding (by decide) rfl rfl (Nat.le_of_ble_eq_true rfl) ⟨Nat.zero_le _, Nat.zero_le _⟩ dX8_copy_40 (zr_kiI (fun o49 => ?_))
          exact zr_iret hB rfl rfl dX8_copy_43
    · refine zr_aload_n hB 0 rfl rfl dX8_copy_14 ?_
      refine zr_iconst (v := 0) hB (by decide) dX8_copy_15 ?_
      refine zr_callV (st := []) (C := RX8) (As := [.int 0]) (embc := em_iI L) hB (mX8_finding (sK := sK) (sV := sV) hi 0 I L) (zW_X8 rfl) rfl rfl lm_X8_74 q2_X8_finding q3_X8_finding q4_X8 q5_X8_finding qd_X8_finding (by decide) rfl rfl (Nat.le_of_ble_eq_true rfl) ⟨Nat.zero_le _, Nat.zero_le _⟩ dX8_copy_16 (zr_kiI (fun o52 => ?_))
      exact zr_iret hB rfl rfl dX8_copy_19

def gX8_load_18 (a1 : Int32) (s3 : Int32 × zI) : Option ((Int32 × zI) ⊕ (Int32 × zI)) :=
  zg a1 4 (
  if (s3.2 59 (zn a1)) ≤ s3.1 then
    some (.inr (s3.1, s3.2))
  else
  zg 11 120 (
  if (s3.2 51 (zn 11)) ≤ s3.1 then
    some (.inr (s3.1, s3.2))
  else
  zg ((40 * a1) + s3.1) 160 (
  zb (fX8_isRoom (s3.2 60 (zn ((40 * a1) + s3.1)))) fun o13 =>
  if o13 = 0 then
    some (.inr (s3.1, s3.2))
  else
  zg ((40 * a1) + s3.1) 160 (
  zg (36 + s3.1) 120 (
  zl (zup s3.2 51 (zn (36 + s3.1)) (s3.2 60 (zn ((40 * a1) + s3.1)))) fun J14 =>
  zl (s3.1 + 1) fun v15 =>
  some (.inl (v15, J14)))))))
def fX8_load (n : Nat) (a1 : Int32) (I : zI) : Option (Int32 × zI) :=
  zb (fX8_lacksOf a1 I) fun o2 =>
  if o2 < 0 then
    zb (zit (gX8_load_18 a1) n (0, I)) fun x4 : Int32 × zI =>
    some (x4.1, x4.2)
  else
  zb (fX8_finding o2 I) fun o18 =>
  some (o18.1, o18.2)
set_option maxHeartbeats 4000000 in
set_option maxRecDepth 100000 in
theorem mX8_load {l : Launch} {D : va_G} {T : zT} {ad sK sV : Nat → Nat} (hi : zInj ad) (n : Nat) (a1 : Int32)  (I : zI) (L : zL) : ∀ o, fX8_load n a1 I = some o → zMet l yX8_load cX8_load 4 (some .int) 3 66 D T ad sK sV [.ref (ad 50), .int a1] I L (em_iI L o) := by
  intro o ho
  refine zMet.of hi (by decide +kernel) (Nat.le_of_ble_eq_true rfl) (fun p e s m args below meth c hB => ?_)
  refine zr_top (emb := em_iI L) (t := fX8_load n a1 I) ?_ ho
  unfold fX8_load
  refine zr_aload_n hB 0 rfl rfl dX8_load_0 ?_
  refine zr_iload_n hB 1 rfl rfl dX8_load_1 ?_
  refine zr_callV (st := []) (C := RX8) (As := [.int a1]) (embc := em_i0 I L) hB (mX8_lacksOf (sK := sK) (sV := sV) hi a1 I L) (zW_X8 rfl) rfl rfl lm_X8_354 q2_X8_lacksOf q3_X8_lacksOf q4_X8 q5_X8_lacksOf qd_X8_lacksOf (by decide) rfl rfl (Nat.le_of_ble_eq_true rfl) ⟨Nat.zero_le _, Nat.zero_le _⟩ dX8_load_2 (zr_ki0 (fun o2 => ?_))
  refine zr_istore_n (lv' := [(2, .int o2), (0, .ref (ad 50)), (1, .int a1)]) hB rfl (by decide) rfl dX8_load_5 ?_
  refine zr_iload_n hB 0 rfl rfl dX8_load_6 ?_
  refine zr_iflt (tgt := 16) hB (by decide) dX8_load_7 ?_ ?_
  · refine zr_iconst (v := 0) hB (by decide) dX8_load_16 ?_
    refine zr_istore_n (lv' := [(3, .int 0), (2, .int o2), (0, .ref (ad 50)), (1, .int a1)]) hB rfl (by decide) rfl dX8_load_17 ?_
    refine zr_join (pcJ := 82) (fun x4 : Int32 × zI => [(3, .int x4.1)]) (fun _ => []) (fun x4 => x4.2) (fun x4 => L) (fun x4 => ?_) (fun K10 hx9 => ?_)
    · refine zr_iload_n hB 0 rfl rfl dX8_load_82 ?_
      exact zr_iret hB rfl rfl dX8_load_83
    · refine zr_sub (lv' := (fun s3 : Int32 × zI => [(3, .int s3.1), (0, .ref (ad 50)), (1, .int a1)]) (0, I)) [0, 2, 3] rfl (zr_loop (fun s3 : Int32 × zI => [(3, .int s3.1), (0, .ref (ad 50)), (1, .int a1)]) (fun s3 => s3.2) (fun s3 => L) (fun x4 : Int32 × zI => [(3, .int x4.1)]) (fun x4 => x4.2) (fun x4 => L) hx9 (fun s3 K11 hc5 hx6 => ?_) n (0, I))
      unfold gX8_load_18
      refine zr_iload_n hB 0 rfl rfl dX8_load_18 ?_
      refine zr_aload_n hB 1 rfl rfl dX8_load_19 ?_
      refine zr_get_X8 (w := 50) (k := 17) (v := .ref (ad 59)) hB rfl (by decide) rfl lf_X8_34 rfl dX8_load_20 ?_
      refine zr_iload_n hB 2 rfl rfl dX8_load_23 ?_
      refine zr_iaload hB zA_59 dX8_load_24 ?_
      refine zr_icmp_ge (tgt := 82) hB (by decide) dX8_load_25 ?_ ?_
      · exact zr_sub [0] rfl (hx6 (s3.1, s3.2))
      · refine zr_iload_n hB 0 rfl rfl dX8_load_28 ?_
        refine zr_aload_n hB 1 rfl rfl dX8_load_29 ?_
        refine zr_get_X8 (w := 50) (k := 0) (v := .ref (ad 51)) hB rfl (by decide) rfl lf_X8_9 rfl dX8_load_30 ?_
        refine zr_bipush (v := 11) hB (by decide) dX8_load_33 ?_
        refine zr_iaload hB zA_51 dX8_load_35 ?_
        refine zr_icmp_ge (tgt := 82) hB (by decide) dX8_load_36 ?_ ?_
        · exact zr_sub [0] rfl (hx6 (s3.1, s3.2))
        · refine zr_aload_n hB 1 rfl rfl dX8_load_39 ?_
          refine zr_get_X8 (w := 50) (k := 18) (v := .ref (ad 60)) hB rfl (by decide) rfl lf_X8_37 rfl dX8_load_40 ?_
          refine zr_bipush (v := 40) hB (by decide) dX8_load_43 ?_
          refine zr_iload_n hB 2 rfl rfl dX8_load_45 ?_
          refine zr_imul hB dX8_load_46 ?_
          refine zr_iload_n hB 0 rfl rfl dX8_load_47 ?_
          refine zr_iadd hB dX8_load_48 ?_
          refine zr_iaload hB zA_60 dX8_load_49 ?_
          refine zr_callS (st := []) (As := [.int (s3.2 60 (zn ((40 * a1) + s3.1)))]) (embc := em_i0 s3.2 L) hB (mX8_isRoom (sK := sK) (sV := sV) hi (s3.2 60 (zn ((40 * a1) + s3.1))) s3.2 L) lm_X8_70 q2_X8_isRoom q4_X8 q5_X8_isRoom qd_X8_isRoom (by decide) rfl rfl (Nat.le_of_ble_eq_true rfl) ⟨Nat.zero_le _, Nat.zero_le _⟩ dX8_load_50 (zr_ki0 (fun o13 => ?_))
          refine zr_ifeq (tgt := 82) hB (by decide) dX8_load_53 ?_ ?_
          · exact zr_sub [0] rfl (hx6 (s3.1, s3.2))
          · refine zr_aload_n hB 1 rfl rfl dX8_load_56 ?_
            refine zr_get_X8 (w := 50) (k := 0) (v := .ref (ad 51)) hB rfl (by decide) rfl lf_X8_9 rfl dX8_load_57 ?_
            refine zr_bipush (v := 36) hB (by decide) dX8_load_60 ?_
            refine zr_iload_n hB 0 rfl rfl dX8_load_62 ?_
            refine zr_iadd hB dX8_load_63 ?_
            refine zr_aload_n hB 1 rfl rfl dX8_load_64 ?_
            refine zr_get_X8 (w := 50) (k := 18) (v := .ref (ad 60)) hB rfl (by decide) rfl lf_X8_37 rfl dX8_load_65 ?_
            refine zr_bipush (v := 40) hB (by decide) dX8_load_68 ?_
            refine zr_iload_n hB 2 rfl rfl dX8_load_70 ?_
            refine zr_imul hB dX8_load_71 ?_
            refine zr_iload_n hB 0 rfl rfl dX8_load_72 ?_
            refine zr_iadd hB dX8_load_73 ?_
            refine zr_iaload hB zA_60 dX8_load_74 ?_
            refine zr_iastore hB zA_51 dX8_load_75 ?_
            refine zr_letM (fun J14 => ?_)
            refine zr_iincL hB (j := 0) (n := 1) (w := 1) rfl (by decide) (by decide) dX8_load_76 (fun v15 lv' hlv => ?_)
            obtain rfl : lv' = [(3, .int v15), (0, .ref (ad 50)), (1, .int a1)] := hlv.symm.trans rfl
            refine zr_goto (tgt := 18) hB (by decide) dX8_load_79 ?_
            exact zr_sub [0, 1, 2] rfl (hc5 (v15, J14))
  · refine zr_aload_n hB 1 rfl rfl dX8_load_10 ?_
    refine zr_iload_n hB 0 rfl rfl dX8_load_11 ?_
    refine zr_callV (st := []) (C := RX8) (As := [.int o2]) (embc := em_iI L) hB (mX8_finding (sK := sK) (sV := sV) hi o2 I L) (zW_X8 rfl) rfl rfl lm_X8_74 q2_X8_finding q3_X8_finding q4_X8 q5_X8_finding qd_X8_finding (by decide) rfl rfl (Nat.le_of_ble_eq_true rfl) ⟨Nat.zero_le _, Nat.zero_le _⟩ dX8_load_12 (zr_kiI (fun o18 => ?_))
    exact zr_iret hB rfl rfl dX8_load_15

def fX8_isStep (a1 : Int32) (a2 : Int32) (I : zI) : Option (Int32) :=
  zl (zrem a1 8) fun v1 =>
  zl (a1 / 8) fun v2 =>
  zb (
    zbs (
      if (a2 / 8) = v2 then
        zb (fX8_isOpen v1 (zrem a2 8) I) fun o12 =>
        if o12 = 0 then
          some (.inr ())
        else
        some (.inl 1)
      else
      some (.inr ())) fun x7 : Unit =>
    some 0) fun x3 : Int32 =>
  zg 8 120 (
  zb (
    zbs (
      if v1 = (I 51 (zn 8)) then
        if 4 ≤ v2 then
          some (.inr ())
        else
        zg 9 120 (
        if a2 = ((8 * (v2 + 1)) + (I 51 (zn 9))) then
          some (.inl 1)
        else
        some (.inr ()))
      else
      some (.inr ())) fun x17 : Unit =>
    some 0) fun x13 : Int32 =>
  zg 9 120 (
  zb (
    zbs (
      if v1 = (I 51 (zn 9)) then
        if v2 ≤ 0 then
          some (.inr ())
        else
        zg 8 120 (
        if a2 = ((8 * (v2 - 1)) + (I 51 (zn 8))) then
          some (.inl 1)
        else
        some (.inr ()))
      else
      some (.inr ())) fun x25 : Unit =>
    some 0) fun x21 : Int32 =>
  if x3 = 0 then
    if x13 = 0 then
      if x21 = 0 then
        some 0
      else
      some 1
    else
    some 1
  else
  some 1))
set_option maxHeartbeats 4000000 in
set_option maxRecDepth 100000 in
theorem mX8_isStep {l : Launch} {D : va_G} {T : zT} {ad sK sV : Nat → Nat} (hi : zInj ad) (a1 : Int32) (a2 : Int32)  (I : zI) (L : zL) : ∀ o, fX8_isStep a1 a2 I = some o → zMet l yX8_isStep cX8_isStep 8 (some .boolean) 1 22 D T ad sK sV [.ref (ad 50), .int a1, .int a2] I L (em_i0 I L o) := by
  intro o ho
  refine zMet.of hi (by decide +kernel) (Nat.le_of_ble_eq_true rfl) (fun p e s m args below meth c hB => ?_)
  refine zr_top (emb := em_i0 I L) (t := fX8_isStep a1 a2 I) ?_ ho
  unfold fX8_isStep
  refine zr_iload_n hB 1 rfl rfl dX8_isStep_0 ?_
  refine zr_bipush (v := 8) hB (by decide) dX8_isStep_1 ?_
  refine zr_iremC hB (by decide) dX8_isStep_3 ?_
  refine zr_letI (fun v1 => ?_)
  refine zr_istore_n (lv' := [(3, .int v1), (0, .ref (ad 50)), (1, .int a1), (2, .int a2)]) hB rfl (by decide) rfl dX8_isStep_4 ?_
  refine zr_iload_n hB 2 rfl rfl dX8_isStep_5 ?_
  refine zr_bipush (v := 8) hB (by decide) dX8_isStep_6 ?_
  refine zr_idivC hB (by decide) dX8_isStep_8 ?_
  refine zr_letI (fun v2 => ?_)
  refine zr_istore (lv' := [(4, .int v2), (3, .int v1), (0, .ref (ad 50)), (1, .int a1), (2, .int a2)]) hB (by decide) rfl dX8_isStep_9 ?_
  refine zr_iload_n hB 4 rfl rfl dX8_isStep_11 ?_
  refine zr_bipush (v := 8) hB (by decide) dX8_isStep_12 ?_
  refine zr_idivC hB (by decide) dX8_isStep_14 ?_
  refine zr_iload hB 0 rfl dX8_isStep_15 ?_
  refine zr_join (pcJ := 37) (fun x3 : Int32 => [(4, .int v2), (3, .int v1), (0, .ref (ad 50)), (2, .int a2)]) (fun x3 => [.int x3]) (fun x3 => I) (fun x3 => L) (fun x3 => ?_) (fun K6 hj4 => ?_)
  · refine zr_istore (lv' := [(5, .int x3), (4, .int v2), (3, .int v1), (0, .ref (ad 50)), (2, .int a2)]) hB (by decide) rfl dX8_isStep_37 ?_
    refine zr_iload_n hB 2 rfl rfl dX8_isStep_39 ?_
    refine zr_aload_n hB 3 rfl rfl dX8_isStep_40 ?_
    refine zr_get_X8 (w := 50) (k := 0) (v := .ref (ad 51)) hB rfl (by decide) rfl lf_X8_9 rfl dX8_isStep_41 ?_
    refine zr_bipush (v := 8) hB (by decide) dX8_isStep_44 ?_
    refine zr_iaload hB zA_51 dX8_isStep_46 ?_
    refine zr_join (pcJ := 80) (fun x13 : Int32 => [(5, .int x3), (4, .int v2), (3, .int v1), (0, .ref (ad 50)), (2, .int a2)]) (fun x13 => [.int x13]) (fun x13 => I) (fun x13 => L) (fun x13 => ?_) (fun K16 hj14 => ?_)
    · refine zr_istore (lv' := [(6, .int x13), (5, .int x3), (4, .int v2), (3, .int v1), (0, .ref (ad 50)), (2, .int a2)]) hB (by decide) rfl dX8_isStep_80 ?_
      refine zr_iload_n hB 3 rfl rfl dX8_isStep_82 ?_
      refine zr_aload_n hB 4 rfl rfl dX8_isStep_83 ?_
      refine zr_get_X8 (w := 50) (k := 0) (v := .ref (ad 51)) hB rfl (by decide) rfl lf_X8_9 rfl dX8_isStep_84 ?_
      refine zr_bipush (v := 9) hB (by decide) dX8_isStep_87 ?_
      refine zr_iaload hB zA_51 dX8_isStep_89 ?_
      refine zr_join (pcJ := 122) (fun x21 : Int32 => [(6, .int x13), (5, .int x3)]) (fun x21 => [.int x21]) (fun x21 => I) (fun x21 => L) (fun x21 => ?_) (fun K24 hj22 => ?_)
      · refine zr_istore (lv' := [(7, .int x21), (6, .int x13), (5, .int x3)]) hB (by decide) rfl dX8_isStep_122 ?_
        refine zr_iload hB 2 rfl dX8_isStep_124 ?_
        refine zr_ifne (tgt := 139) hB (by decide) dX8_isStep_126 ?_ ?_
        · refine zr_iconst (v := 1) hB (by decide) dX8_isStep_139 ?_
          refine zr_goto (tgt := 144) hB (by decide) dX8_isStep_140 ?_
          exact zr_zretC (by decide) hB rfl rfl dX8_isStep_144
        · refine zr_iload hB 1 rfl dX8_isStep_129 ?_
          refine zr_ifne (tgt := 139) hB (by decide) dX8_isStep_131 ?_ ?_
          · refine zr_iconst (v := 1) hB (by decide) dX8_isStep_139 ?_
            refine zr_goto (tgt := 144) hB (by decide) dX8_isStep_140 ?_
            exact zr_zretC (by decide) hB rfl rfl dX8_isStep_144
          · refine zr_iload hB 0 rfl dX8_isStep_134 ?_
            refine zr_ifeq (tgt := 143) hB (by decide) dX8_isStep_136 ?_ ?_
            · refine zr_iconst (v := 0) hB (by decide) dX8_isStep_143 ?_
              exact zr_zretC (by decide) hB rfl rfl dX8_isStep_144
            · refine zr_iconst (v := 1) hB (by decide) dX8_isStep_139 ?_
              refine zr_goto (tgt := 144) hB (by decide) dX8_isStep_140 ?_
              exact zr_zretC (by decide) hB rfl rfl dX8_isStep_144
      · refine zr_joins (pcJ := 121) (fun x25 : Unit => [(6, .int x13), (5, .int x3)]) (fun x25 => []) (fun x25 => I) (fun x25 => L) (fun x25 => ?_) (fun K28 hi27 hj26 => ?_)
        · refine zr_iconst (v := 0) hB (by decide) dX8_isStep_121 ?_
          exact zr_sub [0, 1] rfl (hj22 0)
        · refine zr_icmp_ne (tgt := 121) hB (by decide) dX8_isStep_90 ?_ ?_
          · exact zr_sub [0, 1] rfl (hj26 ())
          · refine zr_iload hB 2 rfl dX8_isStep_93 ?_
            refine zr_ifle (tgt := 121) hB (by decide) dX8_isStep_95 ?_ ?_
            · exact zr_sub [0, 1] rfl (hj26 ())
            · refine zr_iload_n hB 5 rfl rfl dX8_isStep_98 ?_
              refine zr_bipush (v := 8) hB (by decide) dX8_isStep_99 ?_
              refine zr_iload hB 2 rfl dX8_isStep_101 ?_
              refine zr_iconst (v := 1) hB (by decide) dX8_isStep_103 ?_
              refine zr_isub hB dX8_isStep_104 ?_
              refine zr_imul hB dX8_isStep_105 ?_
              refine zr_aload_n hB 4 rfl rfl dX8_isStep_106 ?_
              refine zr_get_X8 (w := 50) (k := 0) (v := .ref (ad 51)) hB rfl (by decide) rfl lf_X8_9 rfl dX8_isStep_107 ?_
              refine zr_bipush (v := 8) hB (by decide) dX8_isStep_110 ?_
              refine zr_iaload hB zA_51 dX8_isStep_112 ?_
              refine zr_iadd hB dX8_isStep_113 ?_
              refine zr_icmp_ne (tgt := 121) hB (by decide) dX8_isStep_114 ?_ ?_
              · exact zr_sub [0, 1] rfl (hj26 ())
              · refine zr_iconst (v := 1) hB (by decide) dX8_isStep_117 ?_
                refine zr_goto (tgt := 122) hB (by decide) dX8_isStep_118 ?_
                refine hi27 _ _ _ _ _ _ ?_
                exact zr_sub [0, 1] rfl (hj22 1)
    · refine zr_joins (pcJ := 79) (fun x17 : Unit => [(5, .int x3), (4, .int v2), (3, .int v1), (0, .ref (ad 50)), (2, .int a2)]) (fun x17 => []) (fun x17 => I) (fun x17 => L) (fun x17 => ?_) (fun K20 hi19 hj18 => ?_)
      · refine zr_iconst (v := 0) hB (by decide) dX8_isStep_79 ?_
        exact zr_sub [0, 1, 2, 3, 4] rfl (hj14 0)
      · refine zr_icmp_ne (tgt := 79) hB (by decide) dX8_isStep_47 ?_ ?_
        · exact zr_sub [0, 1, 2, 3, 4] rfl (hj18 ())
        · refine zr_iload hB 1 rfl dX8_isStep_50 ?_
          refine zr_iconst (v := 4) hB (by decide) dX8_isStep_52 ?_
          refine zr_icmp_ge (tgt := 79) hB (by decide) dX8_isStep_53 ?_ ?_
          · exact zr_sub [0, 1, 2, 3, 4] rfl (hj18 ())
          · refine zr_iload_n hB 4 rfl rfl dX8_isStep_56 ?_
            refine zr_bipush (v := 8) hB (by decide) dX8_isStep_57 ?_
            refine zr_iload hB 1 rfl dX8_isStep_59 ?_
            refine zr_iconst (v := 1) hB (by decide) dX8_isStep_61 ?_
            refine zr_iadd hB dX8_isStep_62 ?_
            refine zr_imul hB dX8_isStep_63 ?_
            refine zr_aload_n hB 3 rfl rfl dX8_isStep_64 ?_
            refine zr_get_X8 (w := 50) (k := 0) (v := .ref (ad 51)) hB rfl (by decide) rfl lf_X8_9 rfl dX8_isStep_65 ?_
            refine zr_bipush (v := 9) hB (by decide) dX8_isStep_68 ?_
            refine zr_iaload hB zA_51 dX8_isStep_70 ?_
            refine zr_iadd hB dX8_isStep_71 ?_
            refine zr_icmp_ne (tgt := 79) hB (by decide) dX8_isStep_72 ?_ ?_
            · exact zr_sub [0, 1, 2, 3, 4] rfl (hj18 ())
            · refine zr_iconst (v := 1) hB (by decide) dX8_isStep_75 ?_
              refine zr_goto (tgt := 80) hB (by decide) dX8_isStep_76 ?_
              refine hi19 _ _ _ _ _ _ ?_
              exact zr_sub [0, 1, 2, 3, 4] rfl (hj14 1)
  · refine zr_joins (pcJ := 36) (fun x7 : Unit => [(4, .int v2), (3, .int v1), (0, .ref (ad 50)), (2, .int a2)]) (fun x7 => []) (fun x7 => I) (fun x7 => L) (fun x7 => ?_) (fun K10 hi9 hj8 => ?_)
    · refine zr_iconst (v := 0) hB (by decide) dX8_isStep_36 ?_
      exact zr_sub [0, 1, 2, 3] rfl (hj4 0)
    · refine zr_icmp_ne (tgt := 36) hB (by decide) dX8_isStep_17 ?_ ?_
      · exact zr_sub [0, 1, 2, 4] rfl (hj8 ())
      · refine zr_aload_n hB 2 rfl rfl dX8_isStep_20 ?_
        refine zr_iload_n hB 1 rfl rfl dX8_isStep_21 ?_
        refine zr_iload_n hB 4 rfl rfl dX8_isStep_22 ?_
        refine zr_bipush (v := 8) hB (by decide) dX8_isStep_23 ?_
        refine zr_iremC hB (by decide) dX8_isStep_25 ?_
        refine zr_callV (st := []) (C := RX8) (As := [.int v1, .int (zrem a2 8)]) (embc := em_i0 I L) hB (mX8_isOpen (sK := sK) (sV := sV) hi v1 (zrem a2 8) I L) (zW_X8 rfl) rfl rfl lm_X8_77 q2_X8_isOpen q3_X8_isOpen q4_X8 q5_X8_isOpen qd_X8_isOpen (by decide) rfl rfl (Nat.le_of_ble_eq_true rfl) ⟨Nat.zero_le _, Nat.zero_le _⟩ dX8_isStep_26 (zr_ki0 (fun o12 => ?_))
        refine zr_ifeq (tgt := 36) hB (by decide) dX8_isStep_29 ?_ ?_
        · exact zr_sub [0, 1, 2, 4] rfl (hj8 ())
        · refine zr_iconst (v := 1) hB (by decide) dX8_isStep_32 ?_
          refine zr_goto (tgt := 37) hB (by decide) dX8_isStep_33 ?_
          refine hi9 _ _ _ _ _ _ ?_
          exact zr_sub [0, 1, 2, 4] rfl (hj4 1)

def gX8_judge_33 (a1 : Int32) (a2 : Int32) (I : zI) (s5 : Int32) : Option ((Int32) ⊕ ((Int32 × zI) ⊕ (Unit))) :=
  zg a1 4 (
  if (I 59 (zn a1)) ≤ s5 then
    some (.inr (.inr ()))
  else
  zg ((40 * a1) + s5) 160 (
  zl (I 60 (zn ((40 * a1) + s5))) fun v14 =>
  zb (fX8_isPlace v14) fun o16 =>
  zb (
    zbs (
      if o16 = 0 then
        some (.inr ())
      else
      if s5 = 0 then
        zg (52 + a2) 120 (
        if v14 = (I 51 (zn (52 + a2))) then
          some (.inl 1)
        else
        some (.inr ()))
      else
      zg (((40 * a1) + s5) - 1) 160 (
      zb (fX8_isStep (I 60 (zn (((40 * a1) + s5) - 1))) v14 I) fun o26 =>
      if o26 = 0 then
        some (.inr ())
      else
      some (.inl 1))) fun x21 : Unit =>
    some 0) fun x17 : Int32 =>
  if x17 = 0 then
    some (.inr (.inl (1 + s5, I)))
  else
  zl (s5 + 1) fun v27 =>
  some (.inl v27)))
def fX8_judge (n : Nat) (a1 : Int32) (a2 : Int32) (I : zI) : Option (Int32 × zI) :=
  zb (fX8_lacksOf a1 I) fun o2 =>
  if o2 < 0 then
    zb (fX8_isOne a2 I) fun o4 =>
    if o4 = 0 then
      zb (fX8_finding 0 I) fun o30 =>
      some (o30.1, o30.2)
    else
    zbs (zit (gX8_judge_33 a1 a2 I) n 0) fun x6 : Unit =>
    some (0, I)
  else
  zb (fX8_finding o2 I) fun o33 =>
  some (o33.1, o33.2)
set_option maxHeartbeats 4000000 in
set_option maxRecDepth 100000 in
theorem mX8_judge {l : Launch} {D : va_G} {T : zT} {ad sK sV : Nat → Nat} (hi : zInj ad) (n : Nat) (a1 : Int32) (a2 : Int32)  (I : zI) (L : zL) : ∀ o, fX8_judge n a1 a2 I = some o → zMet l yX8_judge cX8_judge 7 (some .int) 3 66 D T ad sK sV [.ref (ad 50), .int a1, .int a2] I L (em_iI L o) := by
  intro o ho
  refine zMet.of hi (by decide +kernel) (Nat.le_of_ble_eq_true rfl) (fun p e s m args below meth c hB => ?_)
  refine zr_top (emb := em_iI L) (t := fX8_judge n a1 a2 I) ?_ ho
  unfold fX8_judge
  refine zr_aload_n hB 0 rfl rfl dX8_judge_0 ?_
  refine zr_iload_n hB 1 rfl rfl dX8_judge_1 ?_
  refine zr_callV (st := []) (C := RX8) (As := [.int a1]) (embc := em_i0 I L) hB (mX8_lacksOf (sK := sK) (sV := sV) hi a1 I L) (zW_X8 rfl) rfl rfl lm_X8_354 q2_X8_lacksOf q3_X8_lacksOf q4_X8 q5_X8_lacksOf qd_X8_lacksOf (by decide) rfl rfl (Nat.le_of_ble_eq_true rfl) ⟨Nat.zero_le _, Nat.zero_le _⟩ dX8_judge_2 (zr_ki0 (fun o2 => ?_))
  refine zr_istore_n (lv' := [(3, .int o2), (0, .ref (ad 50)), (1, .int a1), (2, .int a2)]) hB rfl (by decide) rfl dX8_judge_5 ?_
  refine zr_iload_n hB 0 rfl rfl dX8_judge_6 ?_
  refine zr_iflt (tgt := 16) hB (by decide) dX8_judge_7 ?_ ?_
  · refine zr_aload_n hB 1 rfl rfl dX8_judge_16 ?_
    refine zr_iload_n hB 3 rfl rfl dX8_judge_17 ?_
    refine zr_callV (st := []) (C := RX8) (As := [.int a2]) (embc := em_i0 I L) hB (mX8_isOne (sK := sK) (sV := sV) hi a2 I L) (zW_X8 rfl) rfl rfl lm_X8_106 q2_X8_isOne q3_X8_isOne q4_X8 q5_X8_isOne qd_X8_isOne (by decide) rfl rfl (Nat.le_of_ble_eq_true rfl) ⟨Nat.zero_le _, Nat.zero_le _⟩ dX8_judge_18 (zr_ki0 (fun o4 => ?_))
    refine zr_ifne (tgt := 30) hB (by decide) dX8_judge_21 ?_ ?_
    · refine zr_iconst (v := 0) hB (by decide) dX8_judge_30 ?_
      refine zr_istore (lv' := [(4, .int 0), (3, .int o2), (0, .ref (ad 50)), (1, .int a1), (2, .int a2)]) hB (by decide) rfl dX8_judge_31 ?_
      refine zr_joins (pcJ := 134) (fun x6 : Unit => []) (fun _ => []) (fun x6 => I) (fun x6 => L) (fun x6 => ?_) (fun K12 hi10 hx11 => ?_)
      · refine zr_iconst (v := 0) hB (by decide) dX8_judge_134 ?_
        exact zr_iret hB rfl rfl dX8_judge_135
      · refine zr_sub (lv' := (fun s5 : Int32 => [(4, .int s5), (0, .ref (ad 50)), (1, .int a1), (2, .int a2)]) 0) [0, 2, 3, 4] rfl (zr_loops (fun s5 : Int32 => [(4, .int s5), (0, .ref (ad 50)), (1, .int a1), (2, .int a2)]) (fun s5 => I) (fun s5 => L) (fun x6 : Unit => []) (fun x6 => I) (fun x6 => L) hi10 hx11 (fun s5 K13 hc7 hi9 hx8 => ?_) n 0)
        unfold gX8_judge_33
        refine zr_iload hB 0 rfl dX8_judge_33 ?_
        refine zr_aload_n hB 1 rfl rfl dX8_judge_35 ?_
        refine zr_get_X8 (w := 50) (k := 17) (v := .ref (ad 59)) hB rfl (by decide) rfl lf_X8_34 rfl dX8_judge_36 ?_
        refine zr_iload_n hB 2 rfl rfl dX8_judge_39 ?_
        refine zr_iaload hB zA_59 dX8_judge_40 ?_
        refine zr_icmp_ge (tgt := 134) hB (by decide) dX8_judge_41 ?_ ?_
        · exact zr_sub [] rfl (hx8 ())
        · refine zr_aload_n hB 1 rfl rfl dX8_judge_44 ?_
          refine zr_get_X8 (w := 50) (k := 18) (v := .ref (ad 60)) hB rfl (by decide) rfl lf_X8_37 rfl dX8_judge_45 ?_
          refine zr_bipush (v := 40) hB (by decide) dX8_judge_48 ?_
          refine zr_iload_n hB 2 rfl rfl dX8_judge_50 ?_
          refine zr_imul hB dX8_judge_51 ?_
          refine zr_iload hB 0 rfl dX8_judge_52 ?_
          refine zr_iadd hB dX8_judge_54 ?_
          refine zr_iaload hB zA_60 dX8_judge_55 ?_
          refine zr_letI (fun v14 => ?_)
          refine zr_istore (lv' := [(5, .int v14), (4, .int s5), (0, .ref (ad 50)), (1, .int a1), (2, .int a2)]) hB (by decide) rfl dX8_judge_56 ?_
          refine zr_iload hB 0 rfl dX8_judge_58 ?_
          refine zr_callS (st := []) (As := [.int v14]) (embc := em_i0 I L) hB (mX8_isPlace (sK := sK) (sV := sV) hi v14 I L) lm_X8_99 q2_X8_isPlace q4_X8 q5_X8_isPlace qd_X8_isPlace (by decide) rfl rfl (Nat.le_of_ble_eq_true rfl) ⟨Nat.zero_le _, Nat.zero_le _⟩ dX8_judge_60 (zr_ki0 (fun o16 => ?_))
          refine zr_join (pcJ := 116) (fun x17 : Int32 => [(4, .int s5), (0, .ref (ad 50)), (1, .int a1), (2, .int a2)]) (fun x17 => [.int x17]) (fun x17 => I) (fun x17 => L) (fun x17 => ?_) (fun K20 hj18 => ?_)
          · refine zr_istore (lv' := [(6, .int x17), (4, .int s5), (0, .ref (ad 50)), (1, .int a1), (2, .int a2)]) hB (by decide) rfl dX8_judge_116 ?_
            refine zr_iload hB 0 rfl dX8_judge_118 ?_
            refine zr_ifne (tgt := 128) hB (by decide) dX8_judge_120 ?_ ?_
            · refine zr_iincL hB (j := 1) (n := 1) (w := 1) rfl (by decide) (by decide) dX8_judge_128 (fun v27 lv' hlv => ?_)
              obtain rfl : lv' = [(4, .int v27), (6, .int x17), (0, .ref (ad 50)), (1, .int a1), (2, .int a2)] := hlv.symm.trans rfl
              refine zr_goto (tgt := 33) hB (by decide) dX8_judge_131 ?_
              exact zr_sub [0, 2, 3, 4] rfl (hc7 v27)
            · refine zr_iconst (v := 1) hB (by decide) dX8_judge_123 ?_
              refine zr_iload hB 1 rfl dX8_judge_124 ?_
              refine zr_iadd hB dX8_judge_126 ?_
              refine hi9 _ _ _ _ _ _ ?_
              exact zr_iret hB rfl rfl dX8_judge_127
          · refine zr_joins (pcJ := 115) (fun x21 : Unit => [(4, .int s5), (0, .ref (ad 50)), (1, .int a1), (2, .int a2)]) (fun x21 => []) (fun x21 => I) (fun x21 => L) (fun x21 => ?_) (fun K24 hi23 hj22 => ?_)
            · refine zr_iconst (v := 0) hB (by decide) dX8_judge_115 ?_
              exact zr_sub [0, 1, 2, 3] rfl (hj18 0)
            · refine zr_ifeq (tgt := 115) hB (by decide) dX8_judge_63 ?_ ?_
              · exact zr_sub [1, 2, 3, 4] rfl (hj22 ())
              · refine zr_iload hB 1 rfl dX8_judge_66 ?_
                refine zr_ifne (tgt := 88) hB (by decide) dX8_judge_68 ?_ ?_
                · refine zr_aload_n hB 2 rfl rfl dX8_judge_88 ?_
                  refine zr_aload_n hB 2 rfl rfl dX8_judge_89 ?_
                  refine zr_get_X8 (w := 50) (k := 18) (v := .ref (ad 60)) hB rfl (by decide) rfl lf_X8_37 rfl dX8_judge_90 ?_
                  refine zr_bipush (v := 40) hB (by decide) dX8_judge_93 ?_
                  refine zr_iload_n hB 3 rfl rfl dX8_judge_95 ?_
                  refine zr_imul hB dX8_judge_96 ?_
                  refine zr_iload hB 1 rfl dX8_judge_97 ?_
                  refine zr_iadd hB dX8_judge_99 ?_
                  refine zr_iconst (v := 1) hB (by decide) dX8_judge_100 ?_
                  refine zr_isub hB dX8_judge_101 ?_
                  refine zr_iaload hB zA_60 dX8_judge_102 ?_
                  refine zr_iload hB 0 rfl dX8_judge_103 ?_
                  refine zr_callV (st := []) (C := RX8) (As := [.int (I 60 (zn (((40 * a1) + s5) - 1))), .int v14]) (embc := em_i0 I L) hB (mX8_isStep (sK := sK) (sV := sV) hi (I 60 (zn (((40 * a1) + s5) - 1))) v14 I L) (zW_X8 rfl) rfl rfl lm_X8_360 q2_X8_isStep q3_X8_isStep q4_X8 q5_X8_isStep qd_X8_isStep (by decide) rfl rfl (Nat.le_of_ble_eq_true rfl) ⟨Nat.zero_le _, Nat.zero_le _⟩ dX8_judge_105 (zr_ki0 (fun o26 => ?_))
                  refine zr_ifeq (tgt := 115) hB (by decide) dX8_judge_108 ?_ ?_
                  · exact zr_sub [1, 2, 3, 4] rfl (hj22 ())
                  · refine zr_iconst (v := 1) hB (by decide) dX8_judge_111 ?_
                    refine zr_goto (tgt := 116) hB (by decide) dX8_judge_112 ?_
                    refine hi23 _ _ _ _ _ _ ?_
                    exact zr_sub [1, 2, 3, 4] rfl (hj18 1)
                · refine zr_iload hB 0 rfl dX8_judge_71 ?_
                  refine zr_aload_n hB 2 rfl rfl dX8_judge_73 ?_
                  refine zr_get_X8 (w := 50) (k := 0) (v := .ref (ad 51)) hB rfl (by decide) rfl lf_X8_9 rfl dX8_judge_74 ?_
                  refine zr_bipush (v := 52) hB (by decide) dX8_judge_77 ?_
                  refine zr_iload_n hB 4 rfl rfl dX8_judge_79 ?_
                  refine zr_iadd hB dX8_judge_80 ?_
                  refine zr_iaload hB zA_51 dX8_judge_81 ?_
                  refine zr_icmp_ne (tgt := 115) hB (by decide) dX8_judge_82 ?_ ?_
                  · exact zr_sub [1, 2, 3, 4] rfl (hj22 ())
                  · refine zr_goto (tgt := 111) hB (by decide) dX8_judge_85 ?_
                    refine zr_iconst (v := 1) hB (by decide) dX8_judge_111 ?_
                    refine zr_goto (tgt := 116) hB (by decide) dX8_judge_112 ?_
                    refine hi23 _ _ _ _ _ _ ?_
                    exact zr_sub [1, 2, 3, 4] rfl (hj18 1)
    · refine zr_aload_n hB 1 rfl rfl dX8_judge_24 ?_
      refine zr_iconst (v := 0) hB (by decide) dX8_judge_25 ?_
      refine zr_callV (st := []) (C := RX8) (As := [.int 0]) (embc := em_iI L) hB (mX8_finding (sK := sK) (sV := sV) hi 0 I L) (zW_X8 rfl) rfl rfl lm_X8_74 q2_X8_finding q3_X8_finding q4_X8 q5_X8_finding qd_X8_finding (by decide) rfl rfl (Nat.le_of_ble_eq_true rfl) ⟨Nat.zero_le _, Nat.zero_le _⟩ dX8_judge_26 (zr_kiI (fun o30 => ?_))
      exact zr_iret hB rfl rfl dX8_judge_29
  · refine zr_aload_n hB 1 rfl rfl dX8_judge_10 ?_
    refine zr_iload_n hB 0 rfl rfl dX8_judge_11 ?_
    refine zr_callV (st := []) (C := RX8) (As := [.int o2]) (embc := em_iI L) hB (mX8_finding (sK := sK) (sV := sV) hi o2 I L) (zW_X8 rfl) rfl rfl lm_X8_74 q2_X8_finding q3_X8_finding q4_X8 q5_X8_finding qd_X8_finding (by decide) rfl rfl (Nat.le_of_ble_eq_true rfl) ⟨Nat.zero_le _, Nat.zero_le _⟩ dX8_judge_12 (zr_kiI (fun o33 => ?_))
    exact zr_iret hB rfl rfl dX8_judge_15

def fX8_image (n : Nat) (I : zI) : Option (Int32 × zI) :=
  zb (fX8_become n 51 52 I) fun o3 =>
  zl (zup o3 50 3 1) fun J4 =>
  some (1, J4)
set_option maxHeartbeats 4000000 in
set_option maxRecDepth 100000 in
theorem mX8_image {l : Launch} {D : va_G} {T : zT} {ad sK sV : Nat → Nat} (hi : zInj ad) (n : Nat)   (I : zI) (L : zL) : ∀ o, fX8_image n I = some o → zMet l yX8_image cX8_image 1 (some .int) 1 22 D T ad sK sV [.ref (ad 50)] I L (em_iI L o) := by
  intro o ho
  refine zMet.of hi (by decide +kernel) (Nat.le_of_ble_eq_true rfl) (fun p e s m args below meth c hB => ?_)
  refine zr_top (emb := em_iI L) (t := fX8_image n I) ?_ ho
  unfold fX8_image
  refine zr_aload_n hB 0 rfl rfl dX8_image_0 ?_
  refine zr_get_X8 (w := 50) (k := 0) (v := .ref (ad 51)) hB rfl (by decide) rfl lf_X8_9 rfl dX8_image_1 ?_
  refine zr_aload_n hB 0 rfl rfl dX8_image_4 ?_
  refine zr_get_X8 (w := 50) (k := 1) (v := .ref (ad 52)) hB rfl (by decide) rfl lf_X8_13 rfl dX8_image_5 ?_
  refine zr_callS (st := []) (As := [.ref (ad 51), .ref (ad 52)]) (embc := em_vI L) hB (mX8_become (sK := sK) (sV := sV) hi n 51 52 (Or.inl rfl) (Or.inr (Or.inl rfl)) I L) lm_X8_47 q2_X8_become q4_X8 q5_X8_become qd_X8_become (by decide) rfl rfl (Nat.le_of_ble_eq_true rfl) ⟨Nat.zero_le _, Nat.zero_le _⟩ dX8_image_8 (zr_kvI (fun o3 => ?_))
  refine zr_aload_n hB 0 rfl rfl dX8_image_11 ?_
  refine zr_iconst (v := 1) hB (by decide) dX8_image_12 ?_
  refine zr_putZ_X8 (w := 50) (k := 3) hB rfl (by decide) rfl rfl (by decide) rfl lf_X8_363 rfl dX8_image_13 ?_
  refine zr_letM (fun J4 => ?_)
  refine zr_iconst (v := 1) hB (by decide) dX8_image_16 ?_
  exact zr_iret hB rfl rfl dX8_image_17

def fX8_undo (n : Nat) (I : zI) : Option (Int32 × zI) :=
  if (I 50 3) = 0 then
    zb (fX8_finding 3 I) fun o6 =>
    some (o6.1, o6.2)
  else
  zb (fX8_become n 52 51 I) fun o3 =>
  zg 15 120 (
  some (o3 51 (zn 15), o3))
set_option maxHeartbeats 4000000 in
set_option maxRecDepth 100000 in
theorem mX8_undo {l : Launch} {D : va_G} {T : zT} {ad sK sV : Nat → Nat} (hi : zInj ad) (n : Nat)   (I : zI) (L : zL) : ∀ o, fX8_undo n I = some o → zMet l yX8_undo cX8_undo 1 (some .int) 1 22 D T ad sK sV [.ref (ad 50)] I L (em_iI L o) := by
  intro o ho
  refine zMet.of hi (by decide +kernel) (Nat.le_of_ble_eq_true rfl) (fun p e s m args below meth c hB => ?_)
  refine zr_top (emb := em_iI L) (t := fX8_undo n I) ?_ ho
  unfold fX8_undo
  refine zr_aload_n hB 0 rfl rfl dX8_undo_0 ?_
  refine zr_get_X8 (w := 50) (k := 3) (v := .int (I 50 3)) hB rfl (by decide) rfl lf_X8_363 rfl dX8_undo_1 ?_
  refine zr_ifne (tgt := 13) hB (by decide) dX8_undo_4 ?_ ?_
  · refine zr_aload_n hB 0 rfl rfl dX8_undo_13 ?_
    refine zr_get_X8 (w := 50) (k := 1) (v := .ref (ad 52)) hB rfl (by decide) rfl lf_X8_13 rfl dX8_undo_14 ?_
    refine zr_aload_n hB 0 rfl rfl dX8_undo_17 ?_
    refine zr_get_X8 (w := 50) (k := 0) (v := .ref (ad 51)) hB rfl (by decide) rfl lf_X8_9 rfl dX8_undo_18 ?_
    refine zr_callS (st := []) (As := [.ref (ad 52), .ref (ad 51)]) (embc := em_vI L) hB (mX8_become (sK := sK) (sV := sV) hi n 52 51 (Or.inr (Or.inl rfl)) (Or.inl rfl) I L) lm_X8_47 q2_X8_become q4_X8 q5_X8_become qd_X8_become (by decide) rfl rfl (Nat.le_of_ble_eq_true rfl) ⟨Nat.zero_le _, Nat.zero_le _⟩ dX8_undo_21 (zr_kvI (fun o3 => ?_))
    refine zr_aload_n hB 0 rfl rfl dX8_undo_24 ?_
    refine zr_get_X8 (w := 50) (k := 0) (v := .ref (ad 51)) hB rfl (by decide) rfl lf_X8_9 rfl dX8_undo_25 ?_
    refine zr_bipush (v := 15) hB (by decide) dX8_undo_28 ?_
    refine zr_iaload hB zA_51 dX8_undo_30 ?_
    exact zr_iret hB rfl rfl dX8_undo_31
  · refine zr_aload_n hB 0 rfl rfl dX8_undo_7 ?_
    refine zr_iconst (v := 3) hB (by decide) dX8_undo_8 ?_
    refine zr_callV (st := []) (C := RX8) (As := [.int 3]) (embc := em_iI L) hB (mX8_finding (sK := sK) (sV := sV) hi 3 I L) (zW_X8 rfl) rfl rfl lm_X8_74 q2_X8_finding q3_X8_finding q4_X8 q5_X8_finding qd_X8_finding (by decide) rfl rfl (Nat.le_of_ble_eq_true rfl) ⟨Nat.zero_le _, Nat.zero_le _⟩ dX8_undo_9 (zr_kiI (fun o6 => ?_))
    exact zr_iret hB rfl rfl dX8_undo_12

def fX8_tear (I : zI) : Option (Int32 × zI) :=
  if (I 50 3) = 0 then
    zl (zup I 50 3 0) fun J1 =>
    some (0, J1)
  else
  zl (zup I 50 3 0) fun J2 =>
  some (1, J2)
set_option maxHeartbeats 4000000 in
set_option maxRecDepth 100000 in
theorem mX8_tear {l : Launch} {D : va_G} {T : zT} {ad sK sV : Nat → Nat} (hi : zInj ad)   (I : zI) (L : zL) : ∀ o, fX8_tear I = some o → zMet l yX8_tear cX8_tear 2 (some .int) 0 0 D T ad sK sV [.ref (ad 50)] I L (em_iI L o) := by
  intro o ho
  refine zMet.of hi (by decide +kernel) (Nat.le_of_ble_eq_true rfl) (fun p e s m args below meth c hB => ?_)
  refine zr_top (emb := em_iI L) (t := fX8_tear I) ?_ ho
  unfold fX8_tear
  refine zr_aload_n hB 0 rfl rfl dX8_tear_0 ?_
  refine zr_get_X8 (w := 50) (k := 3) (v := .int (I 50 3)) hB rfl (by decide) rfl lf_X8_363 rfl dX8_tear_1 ?_
  refine zr_ifeq (tgt := 11) hB (by decide) dX8_tear_4 ?_ ?_
  · refine zr_iconst (v := 0) hB (by decide) dX8_tear_11 ?_
    refine zr_istore_n (lv' := [(1, .int 0), (0, .ref (ad 50))]) hB rfl (by decide) rfl dX8_tear_12 ?_
    refine zr_aload_n hB 1 rfl rfl dX8_tear_13 ?_
    refine zr_iconst (v := 0) hB (by decide) dX8_tear_14 ?_
    refine zr_putZ_X8 (w := 50) (k := 3) hB rfl (by decide) rfl rfl (by decide) rfl lf_X8_363 rfl dX8_tear_15 ?_
    refine zr_letM (fun J1 => ?_)
    refine zr_iload_n hB 0 rfl rfl dX8_tear_18 ?_
    exact zr_iret hB rfl rfl dX8_tear_19
  · refine zr_iconst (v := 1) hB (by decide) dX8_tear_7 ?_
    refine zr_goto (tgt := 12) hB (by decide) dX8_tear_8 ?_
    refine zr_istore_n (lv' := [(1, .int 1), (0, .ref (ad 50))]) hB rfl (by decide) rfl dX8_tear_12 ?_
    refine zr_aload_n hB 1 rfl rfl dX8_tear_13 ?_
    refine zr_iconst (v := 0) hB (by decide) dX8_tear_14 ?_
    refine zr_putZ_X8 (w := 50) (k := 3) hB rfl (by decide) rfl rfl (by decide) rfl lf_X8_363 rfl dX8_tear_15 ?_
    refine zr_letM (fun J2 => ?_)
    refine zr_iload_n hB 0 rfl rfl dX8_tear_18 ?_
    exact zr_iret hB rfl rfl dX8_tear_19

def gX8_holding_4 (I : zI) (s1 : Int32 × Int32) : Option ((Int32 × Int32) ⊕ (Int32)) :=
  if 10 ≤ s1.2 then
    some (.inr s1.1)
  else
  zg (18 + s1.2) 120 (
  if 0 ≤ (I 51 (zn (18 + s1.2))) then
    zl (s1.1 + 1) fun v10 =>
    zl (s1.2 + 1) fun v11 =>
    some (.inl (v10, v11))
  else
  zl (s1.1 + 0) fun v12 =>
  zl (s1.2 + 1) fun v13 =>
  some (.inl (v12, v13)))
def fX8_holding (n : Nat) (I : zI) : Option (Int32) :=
  zb (zit (gX8_holding_4 I) n (0, 0)) fun x2 : Int32 =>
  some x2
set_option maxHeartbeats 4000000 in
set_option maxRecDepth 100000 in
theorem mX8_holding {l : Launch} {D : va_G} {T : zT} {ad sK sV : Nat → Nat} (hi : zInj ad) (n : Nat)   (I : zI) (L : zL) : ∀ o, fX8_holding n I = some o → zMet l yX8_holding cX8_holding 3 (some .int) 0 0 D T ad sK sV [.ref (ad 50)] I L (em_i0 I L o) := by
  intro o ho
  refine zMet.of hi (by decide +kernel) (Nat.le_of_ble_eq_true rfl) (fun p e s m args below meth c hB => ?_)
  refine zr_top (emb := em_i0 I L) (t := fX8_holding n I) ?_ ho
  unfold fX8_holding
  refine zr_iconst (v := 0) hB (by decide) dX8_holding_0 ?_
  refine zr_istore_n (lv' := [(1, .int 0), (0, .ref (ad 50))]) hB rfl (by decide) rfl dX8_holding_1 ?_
  refine zr_iconst (v := 0) hB (by decide) dX8_holding_2 ?_
  refine zr_istore_n (lv' := [(2, .int 0), (1, .int 0), (0, .ref (ad 50))]) hB rfl (by decide) rfl dX8_holding_3 ?_
  refine zr_join (pcJ := 36) (fun x2 : Int32 => [(1, .int x2)]) (fun _ => []) (fun x2 => I) (fun x2 => L) (fun x2 => ?_) (fun K8 hx7 => ?_)
  · refine zr_iload_n hB 0 rfl rfl dX8_holding_36 ?_
    exact zr_iret hB rfl rfl dX8_holding_37
  · refine zr_sub (lv' := (fun s1 : Int32 × Int32 => [(1, .int s1.1), (2, .int s1.2), (0, .ref (ad 50))]) (0, 0)) [1, 0, 2] rfl (zr_loop (fun s1 : Int32 × Int32 => [(1, .int s1.1), (2, .int s1.2), (0, .ref (ad 50))]) (fun s1 => I) (fun s1 => L) (fun x2 : Int32 => [(1, .int x2)]) (fun x2 => I) (fun x2 => L) hx7 (fun s1 K9 hc3 hx4 => ?_) n (0, 0))
    unfold gX8_holding_4
    refine zr_iload_n hB 1 rfl rfl dX8_holding_4 ?_
    refine zr_bipush (v := 10) hB (by decide) dX8_holding_5 ?_
    refine zr_icmp_ge (tgt := 36) hB (by decide) dX8_holding_7 ?_ ?_
    · exact zr_sub [0] rfl (hx4 s1.1)
    · refine zr_iload_n hB 0 rfl rfl dX8_holding_10 ?_
      refine zr_aload_n hB 2 rfl rfl dX8_holding_11 ?_
      refine zr_get_X8 (w := 50) (k := 0) (v := .ref (ad 51)) hB rfl (by decide) rfl lf_X8_9 rfl dX8_holding_12 ?_
      refine zr_bipush (v := 18) hB (by decide) dX8_holding_15 ?_
      refine zr_iload_n hB 1 rfl rfl dX8_holding_17 ?_
      refine zr_iadd hB dX8_holding_18 ?_
      refine zr_iaload hB zA_51 dX8_holding_19 ?_
      refine zr_ifge (tgt := 27) hB (by decide) dX8_holding_20 ?_ ?_
      · refine zr_iconst (v := 1) hB (by decide) dX8_holding_27 ?_
        refine zr_iadd hB dX8_holding_28 ?_
        refine zr_letI (fun v10 => ?_)
        refine zr_istore_n (lv' := [(1, .int v10), (2, .int s1.2), (0, .ref (ad 50))]) hB rfl (by decide) rfl dX8_holding_29 ?_
        refine zr_iincL hB (j := 1) (n := 1) (w := 1) rfl (by decide) (by decide) dX8_holding_30 (fun v11 lv' hlv => ?_)
        obtain rfl : lv' = [(2, .int v11), (1, .int v10), (0, .ref (ad 50))] := hlv.symm.trans rfl
        refine zr_goto (tgt := 4) hB (by decide) dX8_holding_33 ?_
        exact zr_sub [1, 0, 2] rfl (hc3 (v10, v11))
      · refine zr_iconst (v := 0) hB (by decide) dX8_holding_23 ?_
        refine zr_goto (tgt := 28) hB (by decide) dX8_holding_24 ?_
        refine zr_iadd hB dX8_holding_28 ?_
        refine zr_letI (fun v12 => ?_)
        refine zr_istore_n (lv' := [(1, .int v12), (2, .int s1.2), (0, .ref (ad 50))]) hB rfl (by decide) rfl dX8_holding_29 ?_
        refine zr_iincL hB (j := 1) (n := 1) (w := 1) rfl (by decide) (by decide) dX8_holding_30 (fun v13 lv' hlv => ?_)
        obtain rfl : lv' = [(2, .int v13), (1, .int v12), (0, .ref (ad 50))] := hlv.symm.trans rfl
        refine zr_goto (tgt := 4) hB (by decide) dX8_holding_33 ?_
        exact zr_sub [1, 0, 2] rfl (hc3 (v12, v13))

def fX8_count (n : Nat) (a1 : Int32) (I : zI) : Option (Int32 × zI) :=
  if a1 = 0 then
    zg 15 120 (
    some (I 51 (zn 15), I))
  else
  if a1 = 1 then
    zg 11 120 (
    some (I 51 (zn 11), I))
  else
  if a1 = 2 then
    zg 12 120 (
    some (I 51 (zn 12), I))
  else
  if a1 = 3 then
    zg 13 120 (
    some (I 51 (zn 13), I))
  else
  if a1 = 4 then
    zg 14 120 (
    some (I 51 (zn 14), I))
  else
  if a1 = 5 then
    some (I 50 5, I)
  else
  if a1 = 6 then
    zg 16 120 (
    some (I 51 (zn 16), I))
  else
  if a1 = 7 then
    zb (fX8_holding n I) fun o2 =>
    some (o2, I)
  else
  zb (fX8_finding 0 I) fun o5 =>
  some (o5.1, o5.2)
set_option maxHeartbeats 4000000 in
set_option maxRecDepth 100000 in
theorem mX8_count {l : Launch} {D : va_G} {T : zT} {ad sK sV : Nat → Nat} (hi : zInj ad) (n : Nat) (a1 : Int32)  (I : zI) (L : zL) : ∀ o, fX8_count n a1 I = some o → zMet l yX8_count cX8_count 2 (some .int) 1 22 D T ad sK sV [.ref (ad 50), .int a1] I L (em_iI L o) := by
  intro o ho
  refine zMet.of hi (by decide +kernel) (Nat.le_of_ble_eq_true rfl) (fun p e s m args below meth c hB => ?_)
  refine zr_top (emb := em_iI L) (t := fX8_count n a1 I) ?_ ho
  unfold fX8_count
  refine zr_iload_n hB 1 rfl rfl dX8_count_0 ?_
  refine zr_case (fun q1_0 => ?_) (fun q1_0 => ?_)
  · refine zr_tsIn (tgt := 48) (v := 0) hB q1_0 dX8_count_1 (by decide) (by decide) rfl (by decide) ?_
    refine zr_aload_n hB 0 rfl rfl dX8_count_48 ?_
    refine zr_get_X8 (w := 50) (k := 0) (v := .ref (ad 51)) hB rfl (by decide) rfl lf_X8_9 rfl dX8_count_49 ?_
    refine zr_bipush (v := 15) hB (by decide) dX8_count_52 ?_
    refine zr_iaload hB zA_51 dX8_count_54 ?_
    exact zr_iret hB rfl rfl dX8_count_55
  · refine zr_case (fun q1_1 => ?_) (fun q1_1 => ?_)
    · refine zr_tsIn (tgt := 56) (v := 1) hB q1_1 dX8_count_1 (by decide) (by decide) rfl (by decide) ?_
      refine zr_aload_n hB 0 rfl rfl dX8_count_56 ?_
      refine zr_get_X8 (w := 50) (k := 0) (v := .ref (ad 51)) hB rfl (by decide) rfl lf_X8_9 rfl dX8_count_57 ?_
      refine zr_bipush (v := 11) hB (by decide) dX8_count_60 ?_
      refine zr_iaload hB zA_51 dX8_count_62 ?_
      exact zr_iret hB rfl rfl dX8_count_63
    · refine zr_case (fun q1_2 => ?_) (fun q1_2 => ?_)
      · refine zr_tsIn (tgt := 64) (v := 2) hB q1_2 dX8_count_1 (by decide) (by decide) rfl (by decide) ?_
        refine zr_aload_n hB 0 rfl rfl dX8_count_64 ?_
        refine zr_get_X8 (w := 50) (k := 0) (v := .ref (ad 51)) hB rfl (by decide) rfl lf_X8_9 rfl dX8_count_65 ?_
        refine zr_bipush (v := 12) hB (by decide) dX8_count_68 ?_
        refine zr_iaload hB zA_51 dX8_count_70 ?_
        exact zr_iret hB rfl rfl dX8_count_71
      · refine zr_case (fun q1_3 => ?_) (fun q1_3 => ?_)
        · refine zr_tsIn (tgt := 72) (v := 3) hB q1_3 dX8_count_1 (by decide) (by decide) rfl (by decide) ?_
          refine zr_aload_n hB 0 rfl rfl dX8_count_72 ?_
          refine zr_get_X8 (w := 50) (k := 0) (v := .ref (ad 51)) hB rfl (by decide) rfl lf_X8_9 rfl dX8_count_73 ?_
          refine zr_bipush (v := 13) hB (by decide) dX8_count_76 ?_
          refine zr_iaload hB zA_51 dX8_count_78 ?_
          exact zr_iret hB rfl rfl dX8_count_79
        · refine zr_case (fun q1_4 => ?_) (fun q1_4 => ?_)
          · refine zr_tsIn (tgt := 80) (v := 4) hB q1_4 dX8_count_1 (by decide) (by decide) rfl (by decide) ?_
            refine zr_aload_n hB 0 rfl rfl dX8_count_80 ?_
            refine zr_get_X8 (w := 50) (k := 0) (v := .ref (ad 51)) hB rfl (by decide) rfl lf_X8_9 rfl dX8_count_81 ?_
            refine zr_bipush (v := 14) hB (by decide) dX8_count_84 ?_
            refine zr_iaload hB zA_51 dX8_count_86 ?_
            exact zr_iret hB rfl rfl dX8_count_87
          · refine zr_case (fun q1_5 => ?_) (fun q1_5 => ?_)
            · refine zr_tsIn (tgt := 88) (v := 5) hB q1_5 dX8_count_1 (by decide) (by decide) rfl (by decide) ?_
              refine zr_aload_n hB 0 rfl rfl dX8_count_88 ?_
              refine zr_get_X8 (w := 50) (k := 5) (v := .int (I 50 5)) hB rfl (by decide) rfl lf_X8_243 rfl dX8_count_89 ?_
              exact zr_iret hB rfl rfl dX8_count_92
            · refine zr_case (fun q1_6 => ?_) (fun q1_6 => ?_)
              · refine zr_tsIn (tgt := 93) (v := 6) hB q1_6 dX8_count_1 (by decide) (by decide) rfl (by decide) ?_
                refine zr_aload_n hB 0 rfl rfl dX8_count_93 ?_
                refine zr_get_X8 (w := 50) (k := 0) (v := .ref (ad 51)) hB rfl (by decide) rfl lf_X8_9 rfl dX8_count_94 ?_
                refine zr_bipush (v := 16) hB (by decide) dX8_count_97 ?_
                refine zr_iaload hB zA_51 dX8_count_99 ?_
                exact zr_iret hB rfl rfl dX8_count_100
              · refine zr_case (fun q1_7 => ?_) (fun q1_7 => ?_)
                · refine zr_tsIn (tgt := 101) (v := 7) hB q1_7 dX8_count_1 (by decide) (by decide) rfl (by decide) ?_
                  refine zr_aload_n hB 0 rfl rfl dX8_count_101 ?_
                  refine zr_callV (st := []) (C := RX8) (As := []) (embc := em_i0 I L) hB (mX8_holding (sK := sK) (sV := sV) hi n I L) (zW_X8 rfl) rfl rfl lm_X8_366 q2_X8_holding q3_X8_holding q4_X8 q5_X8_holding qd_X8_holding (by decide) rfl rfl (Nat.le_of_ble_eq_true rfl) ⟨Nat.zero_le _, Nat.zero_le _⟩ dX8_count_102 (zr_ki0 (fun o2 => ?_))
                  exact zr_iret hB rfl rfl dX8_count_105
                · refine zr_tsOut (tgt := 106) hB dX8_count_1 (by have h0 := lv_neT q1_0 (show (0 : Int32).toInt = 0 from rfl); have h1 := lv_neT q1_1 (show (1 : Int32).toInt = 1 from rfl); have h2 := lv_neT q1_2 (show (2 : Int32).toInt = 2 from rfl); have h3 := lv_neT q1_3 (show (3 : Int32).toInt = 3 from rfl); have h4 := lv_neT q1_4 (show (4 : Int32).toInt = 4 from rfl); have h5 := lv_neT q1_5 (show (5 : Int32).toInt = 5 from rfl); have h6 := lv_neT q1_6 (show (6 : Int32).toInt = 6 from rfl); have h7 := lv_neT q1_7 (show (7 : Int32).toInt = 7 from rfl); omega) (by decide) ?_
                  refine zr_aload_n hB 0 rfl rfl dX8_count_106 ?_
                  refine zr_iconst (v := 0) hB (by decide) dX8_count_107 ?_
                  refine zr_callV (st := []) (C := RX8) (As := [.int 0]) (embc := em_iI L) hB (mX8_finding (sK := sK) (sV := sV) hi 0 I L) (zW_X8 rfl) rfl rfl lm_X8_74 q2_X8_finding q3_X8_finding q4_X8 q5_X8_finding qd_X8_finding (by decide) rfl rfl (Nat.le_of_ble_eq_true rfl) ⟨Nat.zero_le _, Nat.zero_le _⟩ dX8_count_108 (zr_kiI (fun o5 => ?_))
                  exact zr_iret hB rfl rfl dX8_count_111

def gX8_status_24 (a1 : Int32) (I : zI) (s3 : Int32 × Int32) : Option ((Int32 × Int32) ⊕ (Int32)) :=
  if 7 ≤ s3.2 then
    some (.inr s3.1)
  else
  if a1 < 0 then
    zg s3.2 7 (
    zl (s3.1 + (I 55 (zn s3.2))) fun v12 =>
    zl (s3.2 + 1) fun v13 =>
    some (.inl (v12, v13)))
  else
  if a1 = s3.2 then
    zg s3.2 7 (
    zl (s3.1 + (I 55 (zn s3.2))) fun v16 =>
    zl (s3.2 + 1) fun v17 =>
    some (.inl (v16, v17)))
  else
  zl (s3.1 + 0) fun v14 =>
  zl (s3.2 + 1) fun v15 =>
  some (.inl (v14, v15))
def fX8_status (n : Nat) (a1 : Int32) (I : zI) : Option (Int32 × zI) :=
  zb (fX8_within a1.toInt64 (-1) 6) fun o2 =>
  if o2 = 0 then
    zb (fX8_finding 0 I) fun o20 =>
    some (o20.1, o20.2)
  else
  zb (zit (gX8_status_24 a1 I) n (0, 0)) fun x4 : Int32 =>
  some (x4, I)
set_option maxHeartbeats 4000000 in
set_option maxRecDepth 100000 in
theorem mX8_status {l : Launch} {D : va_G} {T : zT} {ad sK sV : Nat → Nat} (hi : zInj ad) (n : Nat) (a1 : Int32)  (I : zI) (L : zL) : ∀ o, fX8_status n a1 I = some o → zMet l yX8_status cX8_status 4 (some .int) 1 25 D T ad sK sV [.ref (ad 50), .int a1] I L (em_iI L o) := by
  intro o ho
  refine zMet.of hi (by decide +kernel) (Nat.le_of_ble_eq_true rfl) (fun p e s m args below meth c hB => ?_)
  refine zr_top (emb := em_iI L) (t := fX8_status n a1 I) ?_ ho
  unfold fX8_status
  refine zr_iload_n hB 1 rfl rfl dX8_status_0 ?_
  refine zr_i2l hB dX8_status_1 ?_
  refine zr_ldc2 (v := (-1)) hB lj_X8_207 dX8_status_2 ?_
  refine zr_ldc2 (v := 6) hB lj_X8_58 dX8_status_5 ?_
  refine zr_callS (st := []) (As := [.long a1.toInt64, .long (-1), .long 6]) (embc := em_i0 I L) hB (mX8_within (sK := sK) (sV := sV) hi a1.toInt64 (-1) 6 I L) lm_X8_54 q2_X8_within q4_X8 q5_X8_within qd_X8_within (by decide) rfl rfl (Nat.le_of_ble_eq_true rfl) ⟨Nat.zero_le _, Nat.zero_le _⟩ dX8_status_8 (zr_ki0 (fun o2 => ?_))
  refine zr_ifne (tgt := 20) hB (by decide) dX8_status_11 ?_ ?_
  · refine zr_iconst (v := 0) hB (by decide) dX8_status_20 ?_
    refine zr_istore_n (lv' := [(2, .int 0), (0, .ref (ad 50)), (1, .int a1)]) hB rfl (by decide) rfl dX8_status_21 ?_
    refine zr_iconst (v := 0) hB (by decide) dX8_status_22 ?_
    refine zr_istore_n (lv' := [(3, .int 0), (2, .int 0), (0, .ref (ad 50)), (1, .int a1)]) hB rfl (by decide) rfl dX8_status_23 ?_
    refine zr_join (pcJ := 58) (fun x4 : Int32 => [(2, .int x4)]) (fun _ => []) (fun x4 => I) (fun x4 => L) (fun x4 => ?_) (fun K10 hx9 => ?_)
    · refine zr_iload_n hB 0 rfl rfl dX8_status_58 ?_
      exact zr_iret hB rfl rfl dX8_status_59
    · refine zr_sub (lv' := (fun s3 : Int32 × Int32 => [(2, .int s3.1), (3, .int s3.2), (0, .ref (ad 50)), (1, .int a1)]) (0, 0)) [1, 0, 2, 3] rfl (zr_loop (fun s3 : Int32 × Int32 => [(2, .int s3.1), (3, .int s3.2), (0, .ref (ad 50)), (1, .int a1)]) (fun s3 => I) (fun s3 => L) (fun x4 : Int32 => [(2, .int x4)]) (fun x4 => I) (fun x4 => L) hx9 (fun s3 K11 hc5 hx6 => ?_) n (0, 0))
      unfold gX8_status_24
      refine zr_iload_n hB 1 rfl rfl dX8_status_24 ?_
      refine zr_bipush (v := 7) hB (by decide) dX8_status_25 ?_
      refine zr_icmp_ge (tgt := 58) hB (by decide) dX8_status_27 ?_ ?_
      · exact zr_sub [0] rfl (hx6 s3.1)
      · refine zr_iload_n hB 0 rfl rfl dX8_status_30 ?_
        refine zr_iload_n hB 3 rfl rfl dX8_status_31 ?_
        refine zr_iflt (tgt := 40) hB (by decide) dX8_status_32 ?_ ?_
        · refine zr_aload_n hB 2 rfl rfl dX8_status_40 ?_
          refine zr_get_X8 (w := 50) (k := 6) (v := .ref (ad 55)) hB rfl (by decide) rfl lf_X8_22 rfl dX8_status_41 ?_
          refine zr_iload_n hB 1 rfl rfl dX8_status_44 ?_
          refine zr_iaload hB zA_55 dX8_status_45 ?_
          refine zr_goto (tgt := 50) hB (by decide) dX8_status_46 ?_
          refine zr_iadd hB dX8_status_50 ?_
          refine zr_letI (fun v12 => ?_)
          refine zr_istore_n (lv' := [(2, .int v12), (3, .int s3.2), (0, .ref (ad 50)), (1, .int a1)]) hB rfl (by decide) rfl dX8_status_51 ?_
          refine zr_iincL hB (j := 1) (n := 1) (w := 1) rfl (by decide) (by decide) dX8_status_52 (fun v13 lv' hlv => ?_)
          obtain rfl : lv' = [(3, .int v13), (2, .int v12), (0, .ref (ad 50)), (1, .int a1)] := hlv.symm.trans rfl
          refine zr_goto (tgt := 24) hB (by decide) dX8_status_55 ?_
          exact zr_sub [1, 0, 2, 3] rfl (hc5 (v12, v13))
        · refine zr_iload_n hB 3 rfl rfl dX8_status_35 ?_
          refine zr_iload_n hB 1 rfl rfl dX8_status_36 ?_
          refine zr_icmp_ne (tgt := 49) hB (by decide) dX8_status_37 ?_ ?_
          · refine zr_iconst (v := 0) hB (by decide) dX8_status_49 ?_
            refine zr_iadd hB dX8_status_50 ?_
            refine zr_letI (fun v14 => ?_)
            refine zr_istore_n (lv' := [(2, .int v14), (3, .int s3.2), (0, .ref (ad 50)), (1, .int a1)]) hB rfl (by decide) rfl dX8_status_51 ?_
            refine zr_iincL hB (j := 1) (n := 1) (w := 1) rfl (by decide) (by decide) dX8_status_52 (fun v15 lv' hlv => ?_)
            obtain rfl : lv' = [(3, .int v15), (2, .int v14), (0, .ref (ad 50)), (1, .int a1)] := hlv.symm.trans rfl
            refine zr_goto (tgt := 24) hB (by decide) dX8_status_55 ?_
            exact zr_sub [1, 0, 2, 3] rfl (hc5 (v14, v15))
          · refine zr_aload_n hB 2 rfl rfl dX8_status_40 ?_
            refine zr_get_X8 (w := 50) (k := 6) (v := .ref (ad 55)) hB rfl (by decide) rfl lf_X8_22 rfl dX8_status_41 ?_
            refine zr_iload_n hB 1 rfl rfl dX8_status_44 ?_
            refine zr_iaload hB zA_55 dX8_status_45 ?_
            refine zr_goto (tgt := 50) hB (by decide) dX8_status_46 ?_
            refine zr_iadd hB dX8_status_50 ?_
            refine zr_letI (fun v16 => ?_)
            refine zr_istore_n (lv' := [(2, .int v16), (3, .int s3.2), (0, .ref (ad 50)), (1, .int a1)]) hB rfl (by decide) rfl dX8_status_51 ?_
            refine zr_iincL hB (j := 1) (n := 1) (w := 1) rfl (by decide) (by decide) dX8_status_52 (fun v17 lv' hlv => ?_)
            obtain rfl : lv' = [(3, .int v17), (2, .int v16), (0, .ref (ad 50)), (1, .int a1)] := hlv.symm.trans rfl
            refine zr_goto (tgt := 24) hB (by decide) dX8_status_55 ?_
            exact zr_sub [1, 0, 2, 3] rfl (hc5 (v16, v17))
  · refine zr_aload_n hB 0 rfl rfl dX8_status_14 ?_
    refine zr_iconst (v := 0) hB (by decide) dX8_status_15 ?_
    refine zr_callV (st := []) (C := RX8) (As := [.int 0]) (embc := em_iI L) hB (mX8_finding (sK := sK) (sV := sV) hi 0 I L) (zW_X8 rfl) rfl rfl lm_X8_74 q2_X8_finding q3_X8_finding q4_X8 q5_X8_finding qd_X8_finding (by decide) rfl rfl (Nat.le_of_ble_eq_true rfl) ⟨Nat.zero_le _, Nat.zero_le _⟩ dX8_status_16 (zr_kiI (fun o20 => ?_))
    exact zr_iret hB rfl rfl dX8_status_19

